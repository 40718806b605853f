/-! BEHIND THE CONSTRUCTORS all of it holds -/
section YST
theorem yfr_I {S : yS} (h : yfr S = true) : ∀ s, s < 73 → gI S s = yI0.getD s 0 := by
  unfold yfr at h
  simp only [Bool.and_eq_true] at h
  intro s hs
  exact of_decide_eq_true (List.all_eq_true.mp h.1.1.1.1.1.1.1.1 s (List.mem_range.mpr hs))
theorem yfr_J {S : yS} (h : yfr S = true) : ∀ s, s < 4 → gJ S s = yJ0.getD s 0 := by
  unfold yfr at h
  simp only [Bool.and_eq_true] at h
  intro s hs
  exact of_decide_eq_true (List.all_eq_true.mp h.1.1.1.1.1.1.1.2 s (List.mem_range.mpr hs))
theorem yfr_k {S : yS} (h : yfr S = true) : ∀ j, j < 46 → gB S 10 j = yKw j := by
  unfold yfr at h
  simp only [Bool.and_eq_true] at h
  intro s hs
  exact of_decide_eq_true (List.all_eq_true.mp h.1.1.1.1.1.2 s (List.mem_range.mpr hs))
theorem yfr_r {S : yS} (h : yfr S = true) : gA S 30 27 = 0 ∧ gB S 9 27 = 0 ∧ gA S 31 27 = 0 := by
  unfold yfr at h
  simp only [Bool.and_eq_true, decide_eq_true_eq] at h
  exact ⟨h.1.1.1.1.2, h.1.1.1.2, h.1.1.2⟩
theorem yfr_s {S : yS} (h : yfr S = true) : gA S 4 0 = 0 ∧ gA S 5 0 = 0 := by
  unfold yfr at h
  simp only [Bool.and_eq_true, decide_eq_true_eq] at h
  exact ⟨h.1.2, h.2⟩
theorem yI_0 {S : yS} (h : yfr S = true) : yI S := by
  have i := yfr_I h
  have i12 : gI S 12 = 0 := i 12 (by decide)
  have i40 : gI S 40 = 0 := i 40 (by decide)
  have i41 : gI S 41 = 0 := i 41 (by decide)
  have i42 : gI S 42 = 0 := i 42 (by decide)
  have i10 : gI S 10 = 0 := i 10 (by decide)
  have i11 : gI S 11 = 0 := i 11 (by decide)
  have i0 : gI S 0 = 0 := i 0 (by decide)
  have i4 : gI S 4 = 0 := i 4 (by decide)
  have i18 : gI S 18 = -1 := i 18 (by decide)
  have i59 : gI S 59 = -1 := i 59 (by decide)
  have i48 : gI S 48 = 0 := i 48 (by decide)
  have i19 : gI S 19 = 0 := i 19 (by decide)
  have i62 : gI S 62 = -1 := i 62 (by decide)
  have i66 : gI S 66 = 0 := i 66 (by decide)
  have i30 : gI S 30 = 0 := i 30 (by decide)
  have i31 : gI S 31 = 0 := i 31 (by decide)
  have i29 : gI S 29 = 0 := i 29 (by decide)
  have i32 : gI S 32 = 0 := i 32 (by decide)
  have i33 : gI S 33 = 0 := i 33 (by decide)
  have i34 : gI S 34 = 0 := i 34 (by decide)
  have j2 : gJ S 2 = 0 := yfr_J h 2 (by decide)
  obtain ⟨r1, r2, r3⟩ := yfr_r h
  have i8 : gI S 8 = 0 := i 8 (by decide)
  have i9 : gI S 9 = 0 := i 9 (by decide)
  have i51 : gI S 51 = 0 := i 51 (by decide)
  have i52 : gI S 52 = 0 := i 52 (by decide)
  exact ⟨⟨by omega, by omega, by omega, fun i hi => by omega⟩, ⟨by omega, by omega, by omega, by omega, by omega, by omega, fun i hi => by omega, fun i hi => by omega, fun i hi => by omega⟩, ⟨by omega, by omega, by omega, fun i hi => by omega⟩, ⟨by rw [i59, i18], by omega, by omega, fun z => by omega⟩, Or.inl ⟨r1, i62, by rw [j2, r2], r3⟩, ⟨⟨by omega, by omega, by omega, fun _ => ⟨i31, i29, i32, i33, i34⟩, fun z => by omega⟩, yfr_k h, ⟨by omega, by omega⟩, ⟨by omega, by omega⟩, ⟨by omega, by omega⟩, ⟨by omega, by omega⟩, fun i hi => by omega, fun i hi => by omega, yfr_s h⟩⟩
/-- what is left: three calls -/
theorem x_left (h7 : yCall yI 7) (h11 : yCall yI 11) (h14 : yCall yI 14) : xPure := by
  refine x_top (I := yI) (fun S h => yI_0 h) fun c hc => ?_
  match c, hc with
  | 0, _ => exact op0
  | 1, _ => exact op1
  | 2, _ => exact op2
  | 3, _ => exact op3
  | 4, _ => exact op4
  | 5, _ => exact op5
  | 6, _ => exact op6
  | 7, _ => exact h7
  | 8, _ => exact op8
  | 9, _ => exact op9
  | 10, _ => exact op10
  | 11, _ => exact h11
  | 12, _ => exact op12
  | 13, _ => exact op13
  | 14, _ => exact h14
  | 15, _ => exact op15
  | 16, _ => exact op16
  | 17, _ => exact op17
  | 18, _ => exact op18
  | 19, _ => exact op19
  | 20, _ => exact op20
  | 21, _ => exact op21
  | 22, _ => exact op22
  | 23, _ => exact op23
  | n + 24, h => exact absurd h (by omega)
end YST
