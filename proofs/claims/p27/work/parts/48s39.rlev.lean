/-! taken from whole by wip/p27/slice2.py: 83.rlev.lean.txt -/
section YRV
/-- an operand takes a token at least -/
def yPlt (P : Nat → Nat → Nat → Nat → yPr) : Prop := ∀ base tb t b t' b' m, P base tb t b = .inr (t', b', m) → b' < b
section YRVL
variable {q : yQ} {d : Nat} {js : List xO} {S0 S S1 : yS} {T : yTk} {N u : Nat} {sc : Int} {Rm : Nat → Nat → Nat} {Rx : Nat → Nat} {s dp : Nat} {tx : Nat → Nat → List Int} {O : yOp} {P : Nat → Nat → Nat → Nat → yPr}
end YRVL
end YRV
