/-! taken from whole by wip/p27/slice.py: 9zm.prog.lean.txt -/
section YSP
abbrev yDf : Type := Int64 × Nat × Nat × Nat × Int
/-- names -/
def dDf : yDf := (0, 0, 0, 0, 0)
section YSPL
end YSPL
end YSP
