/-! taken from whole by wip/p27/slice2.py: 49.inv.lean.txt -/
section YIN
section YINL
variable {q : yQ} {d : Nat} {js : List xO} {S : yS}
theorem e0 : (0 : Int64) = yi2l 0 := by decide
theorem e1 : (1 : Int64) = yi2l 1 := by decide
theorem e2 : (2 : Int64) = yi2l 2 := by decide
theorem e4 : (4 : Int64) = yi2l 4 := by decide
theorem e8 : (8 : Int64) = yi2l 8 := by decide
end YINL
end YIN
