/-! taken from whole by wip/p27/slice.py: 9zd.group.lean.txt -/
section YNG
/-- groups are in their ranges -/
def cGr (S : yS) : Prop := 0 ≤ gI S 24 ∧ gI S 24 ≤ 3 ∧ ∀ i : Nat, (i : Int) < gI S 24 → -1 ≤ gA S 25 i ∧ gA S 25 i < 8
section YNGL
variable {q : yQ} {d : Nat} {js : List xO} {S : yS} {N u : Nat}
end YNGL
end YNG
