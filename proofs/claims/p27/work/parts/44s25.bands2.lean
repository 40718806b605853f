/-! taken from whole by wip/p27/slice.py: 9zk.bands2.lean.txt -/
section YBE
section YBEL
variable {q : yQ} {d : Nat} {js : List xO} {S : yS}
theorem c108 {b : Int} (hb : 0 ≤ b ∧ b < 11) (h25 : 0 ≤ gI S 25 ∧ gI S 25 ≤ 2000) (hr : ∀ j, j < 11 → -1 ≤ gA S 26 j ∧ gA S 26 j ≤ 2000) : Y q (d + 1) 108 0 [vr 91, vi b] [] S js = yret q (vi (if yhb S b then gA S 26 b.toNat + 1 else 0)) S js := by
  have eb : yr b = b := yr_eq (by omega) (by omega)
  have n1 : ¬ yr 1 = 0 := by decide
  rw [w108_0, c101 (by omega) h25 hr, YB_ret, w108_5]
  by_cases z : yhb S b
  · have e : yb (yhb S b) = 1 := if_pos z
    rw [e, if_neg n1, eb, if_pos hb, if_pos z]
  · have e : yb (yhb S b) = 0 := if_neg z
    rw [e, if_pos yr_0, if_neg z]
theorem c109 {b : Int} (hb : 0 ≤ b ∧ b < 11) (h25 : 0 ≤ gI S 25 ∧ gI S 25 ≤ 2000) (hr : ∀ j, j < 11 → -1 ≤ gA S 26 j ∧ gA S 26 j ≤ 2000) : Y q (d + 1) 109 0 [vr 91, vi b] [] S js = yret q (vi (if yhb S b then gA S 29 (gA S 26 b.toNat).toNat else 0)) S js := by
  have eb : yr b = b := yr_eq (by omega) (by omega)
  have n1 : ¬ yr 1 = 0 := by decide
  have hr' := hr b.toNat (by omega)
  have eg : yr (gA S 26 b.toNat) = gA S 26 b.toNat := yr_eq (by omega) (by omega)
  rw [w109_0, c101 (by omega) h25 hr, YB_ret, w109_5]
  by_cases z : yhb S b
  · have e : yb (yhb S b) = 1 := if_pos z
    have k : 0 ≤ gA S 26 b.toNat ∧ gA S 26 b.toNat < 2000 := ⟨z.2.2.1, by have := z.2.2.2; omega⟩
    rw [e, if_neg n1, eb, if_pos hb, eg, if_pos k, if_pos z]
  · have e : yb (yhb S b) = 0 := if_neg z
    rw [e, if_pos yr_0, if_neg z]
end YBEL
end YBE
