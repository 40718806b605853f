/-! taken from whole by wip/p27/slice.py: 76.name.lean.txt -/
section YNA
section YNAL
variable {q : yQ} {d : Nat} {js : List xO} {S0 S : yS} {N u : Nat} {w : Int} {Rm : Nat → Nat → Nat} {Rx : Nat → Nat} {s : Nat} {tx : Nat → Nat → List Int}
theorem c133 {x : Nat} (hx : (x : Int) < gI S 10) (h1 : 0 ≤ gI S 10 ∧ gI S 10 ≤ 8) : Y q d 133 0 [vr 82, vi x] [] S js = yret q (vi (if yr (gA S 20 x) = 0 then 0 else 1)) S js := by
  rw [w133_0]
  simp (disch := omega) only [yr_eq, Int.toNat_natCast]
  rw [if_neg (by omega), if_pos (by omega), if_pos (by omega)]
  split
  · rw [if_pos (by decide)]
  · rw [if_pos (by decide)]
end YNAL
end YNA
