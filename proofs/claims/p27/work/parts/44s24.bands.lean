/-! taken from whole by wip/p27/slice.py: 9zj.bands.lean.txt -/
section YBD
section YBDL
variable {q : yQ} {d : Nat} {js : List xO} {S : yS}
/-- is there such a band -/
abbrev yhb (S : yS) (b : Int) : Prop := 0 ≤ b ∧ b < 11 ∧ 0 ≤ gA S 26 b.toNat ∧ gA S 26 b.toNat < gI S 25
theorem c101 {b : Int} (hb : -100 ≤ b ∧ b ≤ 100) (h25 : 0 ≤ gI S 25 ∧ gI S 25 ≤ 2000) (hr : ∀ j, j < 11 → -1 ≤ gA S 26 j ∧ gA S 26 j ≤ 2000) : Y q d 101 0 [vr 91, vi b] [] S js = yret q (vi (yb (yhb S b))) S js := by
  have eb : yr b = b := yr_eq (by omega) (by omega)
  have e11 : yr 11 = 11 := rfl
  have ec : yr (gI S 25) = gI S 25 := yr_eq (by omega) (by omega)
  rw [w101_0, eb, e11]
  simp only [yz0, yz1, if_true]
  by_cases z1 : b < 0
  · have e : yb (yhb S b) = 0 := if_neg (fun h => by have := h.1; omega)
    rw [if_pos z1, e]
  · rw [if_neg z1]
    by_cases z2 : b < 11
    · have hr' := hr b.toNat (by omega)
      have eg : yr (gA S 26 b.toNat) = gA S 26 b.toNat := yr_eq (by omega) (by omega)
      have kb : 0 ≤ b ∧ b < 11 := ⟨by omega, z2⟩
      rw [if_pos z2, if_pos kb, eg]
      by_cases z3 : gA S 26 b.toNat < 0
      · have e : yb (yhb S b) = 0 := if_neg (fun h => by have := h.2.2.1; omega)
        rw [if_pos z3, e]
      · rw [if_neg z3, if_pos kb, ec]
        by_cases z4 : gA S 26 b.toNat < gI S 25
        · have e : yb (yhb S b) = 1 := if_pos ⟨by omega, z2, by omega, z4⟩
          rw [if_pos z4, e]
        · have e : yb (yhb S b) = 0 := if_neg (fun h => by have := h.2.2.2; omega)
          rw [if_neg z4, e]
    · have e : yb (yhb S b) = 0 := if_neg (fun h => by have := h.2.1; omega)
      rw [if_neg z2, e]
end YBDL
end YBD
