/-! taken from whole by wip/p27/slice.py: 9zzzl.anew.lean.txt -/
section YTM
def ynw (x : yDf) : yVal := if x.2.1 = 0 then .inl 0 else .inr []
section YTML
variable {q : yQ} {d : Nat} {js : List xO}
end YTML
end YTM
