/-! taken from whole by wip/p27/slice2.py: 84.rstep.lean.txt -/
section YRW
def ytyn (x : yX) : Nat := if x.1 = true then 1 else 0
section YRWL
variable {q : yQ} {d : Nat} {js : List xO} {S0 S S5 : yS} {T : yTk} {N u : Nat} {sc : Int} {Rm : Nat → Nat → Nat} {Rx : Nat → Nat} {s dp : Nat} {tx : Nat → Nat → List Int} {O : yOp} {P : Nat → Nat → Nat → Nat → yPr}
end YRWL
end YRW
