/-! taken from whole by wip/p27/slice.py: 85.rarith.lean.txt -/
section YRA
def ycmp (a c : Int64) : Int := if a < c then -1 else if a = c then 0 else 1
section YRAL
variable {q : yQ} {d : Nat} {js : List xO} {S0 S S5 : yS} {N u : Nat} {sc : Int} {Rm : Nat → Nat → Nat} {Rx : Nat → Nat} {s dp t b : Nat} {tx : Nat → Nat → List Int}
theorem r319 (a c : Int64) : Y q d 319 0 [vj a, vu, vj c, vu] [] S js = yret q (vi (ycmp a c)) S js := by
  rw [w319_0]
  simp only [yr_lcmp, ylcmp_lt, ylcmp_eq]
  unfold ycmp
  repeat' split
  all_goals rfl
end YRAL
end YRA
