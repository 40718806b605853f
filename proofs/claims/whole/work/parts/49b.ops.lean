/-! THE CALLS THAT ONLY LOOK, or do little -/
section YOP
theorem op5 : yCall yI 5 := by
  intro q S js x0 d y1 y2 y3 y4 hL h0 h6 hop hI
  obtain ⟨hTp, hTb, hCd, hPg, hRs, hRn⟩ := id hI
  have hx := xa_rng q (x0 + 1)
  obtain ⟨t1, t2, t3, t4, t5, t6, -, -, -⟩ := id hTb
  have p1 := hTp.1
  show yEnd yI q S js x0 d y1 y2 y3 y4
  have hc := c170 (q := q) (d := d + 397) (js := js) (S := S) hx ⟨t2, t3⟩ ⟨t5, by omega⟩
  have hm := fun w => r201 (q := q) (d := d + 397) (js := js) (S := sB S 18 0 w) hx (show 0 ≤ gI S 41 ∧ gI S 41 ≤ 8 by omega) (show 0 ≤ gI S 42 ∧ gI S 42 ≤ 320 by omega)
  have hn := r201 (q := q) (d := d + 397) (js := js ++ [yexc 16]) (S := S) hx (show 0 ≤ gI S 41 ∧ gI S 41 ≤ 8 by omega) (show 0 ≤ gI S 42 ∧ gI S 42 ≤ 320 by omega)
  by_cases a0 : xa q (x0 + 1) = 0
  · rw [if_pos a0] at hc
    have hm := hm (yi2l (gI S 10))
    rw [if_pos (by omega), if_pos a0] at hm
    exact k5_ok hL h0 h6 hop hc hm rfl (congrArg yi2l t1.symm) (yI_thr (yI_out hI)) (by omega) (by omega)
  · by_cases a1 : xa q (x0 + 1) = 1
    · rw [if_neg a0, if_pos a1] at hc
      have hm := hm (yi2l (nrow (gI S 10) (gI S 11)))
      rw [if_pos (by omega), if_neg a0, if_pos a1] at hm
      refine k5_ok hL h0 h6 hop hc hm rfl (congrArg yi2l ?_) (yI_thr (yI_out hI)) (by omega) (by omega)
      show nrow (gI S 10) (gI S 11) = nrow (gI S 41) (gI S 42)
      rw [t1, t4]
    · by_cases a2 : xa q (x0 + 1) = 2
      · rw [if_neg a0, if_neg a1, if_pos a2] at hc
        have hm := hm (yi2l (gI S 12))
        rw [if_pos (by omega), if_neg a0, if_neg a1] at hm
        exact k5_ok hL h0 h6 hop hc hm rfl (congrArg yi2l p1.symm) (yI_thr (yI_out hI)) (by omega) (by omega)
      · rw [if_neg a0, if_neg a1, if_neg a2] at hc
        rw [if_neg (by omega)] at hn
        exact k5_16 hL h0 h6 hop hc hn rfl (yI_thr (yI_thr hI)) (len_1 _ _) (xsum_1 _ _)
theorem op1 : yCall yI 1 := by
  intro q S js x0 d y1 y2 y3 y4 hL h0 h6 hop hI
  obtain ⟨hTp, hTb, hCd, hPg, hRs, hRn⟩ := id hI
  have hx := xa_rng q (x0 + 1)
  obtain ⟨p1, p2, p3, p4⟩ := id hTp
  show yEnd yI q S js x0 d y1 y2 y3 y4
  have hc := c167 (q := q) (d := d + 398) (js := js) (S := S) hx ⟨p2, p3⟩
  by_cases a0 : 0 ≤ xa q (x0 + 1) ∧ xa q (x0 + 1) ≤ gI S 12
  · rw [if_pos a0] at hc
    have hm := (r190 (q := q) (d := d + 398) (js := js) (S := sB (sI S 12 (xa q (x0 + 1))) 18 0 (yi2l (xa q (x0 + 1)))) hx (show 0 ≤ gI S 40 ∧ gI S 40 ≤ 2000 by omega)).trans (if_pos (show 0 ≤ xa q (x0 + 1) ∧ xa q (x0 + 1) ≤ gI S 40 by omega))
    refine k1_ok hL h0 h6 hop hc hm rfl rfl ⟨⟨rfl, a0.1, show xa q (x0 + 1) ≤ 2000 by omega, fun i hi => p4 i (show (i : Int) < gI S 12 from Int.lt_of_lt_of_le (show (i : Int) < xa q (x0 + 1) from hi) a0.2)⟩, hTb, hCd, hPg, hRs, hRn⟩ (by omega) (by omega)
  · rw [if_neg a0] at hc
    have hm := r190 (q := q) (d := d + 398) (js := js ++ [yexc 15]) (S := S) hx (show 0 ≤ gI S 40 ∧ gI S 40 ≤ 2000 by omega)
    rw [if_neg (by omega)] at hm
    exact k1_15 hL h0 h6 hop hc hm rfl (yI_thr (yI_thr hI)) (len_1 _ _) (xsum_1 _ _)
theorem op4 : yCall yI 4 := by
  intro q S js x0 d y1 y2 y3 y4 hL h0 h6 hop hI
  obtain ⟨hTp, hTb, hCd, hPg, hRs, hRn⟩ := id hI
  obtain ⟨t1, t2, t3, t4, t5, t6, t7, t8, t9⟩ := id hTb
  show yEnd yI q S js x0 d y1 y2 y3 y4
  have hc : Y q (d + 399) 159 0 [vr 75, vu] [] S js = yret q (vi (nrow (gI S 10) (gI S 11))) (sI S 11 0) js := by
    rw [w159_0, c131 ⟨t2, t3⟩ ⟨t5, by omega⟩, YB_ret, w159_7]
  have hm : Y q (d + 399) 200 0 [vr 129, vu] [] (sI S 11 0) js = yret q (vi (nrow (gI S 41) (gI S 42))) (sI (sI (sI S 11 0) 39 0) 42 0) js := by
    rw [w200_0, r199 (S := sI (sI S 11 0) 39 0) (show 0 ≤ gI S 41 ∧ gI S 41 ≤ 8 by omega) (show 0 ≤ gI S 42 ∧ gI S 42 ≤ 320 by omega), YB_ret, w200_9]
    rfl
  refine k4_ok hL h0 h6 hop hc hm (by rw [t1, t4]) ⟨hTp, ⟨t1, t2, t3, rfl, Int.le_refl 0, show (0 : Int) ≤ 40 * gI S 10 by omega, t7, fun i hi => absurd (show (i : Int) < 0 from hi) (by omega), fun i hi => absurd (show (i : Int) < 0 from hi) (by omega)⟩, hCd, hPg, hRs, hRn⟩ (by omega) (by omega)
theorem op8 : yCall yI 8 := by
  intro q S js x0 d y1 y2 y3 y4 hL h0 h6 hop hI
  exact k8_ok hL h0 h6 hop (w161_0 _ _ _ _) (w254_0 _ _ _ _) hI.2.2.2.1.1 (yI_thr hI) (by omega) (by omega)
theorem op9 : yCall yI 9 := by
  intro q S js x0 d y1 y2 y3 y4 hL h0 h6 hop hI
  exact k9_ok hL h0 h6 hop (w162_0 _ _ _ _) (w255_0 _ _ _ _) (by rw [hI.2.2.1.1]) (yI_thr hI) (by omega) (by omega)
theorem op12 : yCall yI 12 := by
  intro q S js x0 d y1 y2 y3 y4 hL h0 h6 hop hI
  obtain ⟨hTp, hTb, hCd, hPg, hRs, hRn⟩ := id hI
  have hc := c163 (q := q) (d := d + 398) (js := js) (S := S)
  rcases hRs with ⟨a1, a2, a3, a4⟩ | ⟨a1, a2, a3, a4, a5, a6⟩
  · rw [a1, if_pos (by decide)] at hc
    exact k12_ok hL h0 h6 hop hc (w274_0 _ _ _ _) a3 (yI_thr hI) (by omega) (by omega)
  · rw [a1, if_neg (by decide)] at hc
    exact k12_ok hL h0 h6 hop hc (w274_0 _ _ _ _) a5 (yI_thr hI) (by omega) (by omega)
theorem op13 : yCall yI 13 := by
  intro q S js x0 d y1 y2 y3 y4 hL h0 h6 hop hI
  obtain ⟨hTp, hTb, hCd, hPg, hRs, hRn⟩ := id hI
  have hx := xa_rng q (x0 + 1)
  have hl : 0 ≤ gA S 31 27 ∧ gA S 31 27 ≤ 60 := by rcases hRs with ⟨a1, a2, a3, a4⟩ | ⟨a1, a2, a3, a4, a5, a6⟩ <;> omega
  have h62 : -1 ≤ gI S 62 ∧ gI S 62 ≤ 60 := by rcases hRs with ⟨a1, a2, a3, a4⟩ | ⟨a1, a2, a3, a4, a5, a6⟩ <;> omega
  have hc := c174 (q := q) (d := d + 397) (js := js) (S := S) hx hl
  by_cases a0 : 0 ≤ xa q (x0 + 1) ∧ xa q (x0 + 1) < gA S 31 27
  · rw [if_pos a0] at hc
    rcases hRs with ⟨a1, a2, a3, a4⟩ | ⟨a1, a2, a3, a4, a5, a6⟩
    · omega
    · have hm := (r275 (q := q) (d := d + 398) (js := js) (S := sB S 18 0 (yi2l (gA S 32 (1620 + (xa q (x0 + 1)).toNat)))) hx h62).trans (if_pos (show 0 ≤ xa q (x0 + 1) ∧ xa q (x0 + 1) < gI S 62 by omega))
      exact k13_ok hL h0 h6 hop hc hm rfl (congrArg yi2l (a6 _ (by omega)).1.symm) (yI_thr (yI_out hI)) (by omega) (by omega)
  · rw [if_neg a0] at hc
    have hm := r275 (q := q) (d := d + 398) (js := js ++ [yexc 16]) (S := S) hx h62
    rw [if_neg (by rcases hRs with ⟨a1, a2, a3, a4⟩ | ⟨a1, a2, a3, a4, a5, a6⟩ <;> omega)] at hm
    exact k13_16 hL h0 h6 hop hc hm rfl (yI_thr (yI_thr hI)) (len_1 _ _) (xsum_1 _ _)
theorem op15 : yCall yI 15 := by
  intro q S js x0 d y1 y2 y3 y4 hL h0 h6 hop hI
  obtain ⟨hTp, hTb, hCd, hPg, hRs, hRn⟩ := id hI
  have hx := xa_rng q (x0 + 1)
  obtain ⟨n1, n2, n3, n4, n5⟩ := id hRn.1
  have hc := c176 (q := q) (d := d + 398) (js := js) (S := S) hx
  by_cases a0 : 0 ≤ xa q (x0 + 1) ∧ xa q (x0 + 1) ≤ 4
  · rw [if_pos a0] at hc
    have hm := fun w => r302 (q := q) (d := d + 398) (js := js) (S := sB S 18 0 w) hx (show 0 ≤ gI S 66 ∧ gI S 66 ≤ 4 by omega)
    simp only [if_pos a0] at hm
    refine k15_ok hL h0 h6 hop hc (hm _) rfl (congrArg yi2l ?_) (yI_thr (yI_out hI)) (by omega) (by omega)
    by_cases z : gI S 30 = 0
    · obtain ⟨z1, z2, z3, z4, z5⟩ := n4 z
      simp only [gI_sB, n1, z, z1, z2, z3, z4, z5, ite_self, if_true]
    · obtain ⟨-, z1, z2, z3, z4, z5, -⟩ := n5 (by omega)
      simp only [gI_sB, n1, if_neg z, z1, z2, z3, z4, z5]
  · rw [if_neg a0] at hc
    have hm := r302 (q := q) (d := d + 398) (js := js ++ [yexc 16]) (S := S) hx (show 0 ≤ gI S 66 ∧ gI S 66 ≤ 4 by omega)
    rw [if_neg a0] at hm
    exact k15_16 hL h0 h6 hop hc hm rfl (yI_thr (yI_thr hI)) (len_1 _ _) (xsum_1 _ _)
theorem op16 : yCall yI 16 := by
  intro q S js x0 d y1 y2 y3 y4 hL h0 h6 hop hI
  obtain ⟨hTp, hTb, hCd, hPg, hRs, hRn⟩ := id hI
  obtain ⟨g1, g2, g3, g4⟩ := id hPg
  have hb := yb_01 (¬ xa q (x0 + 1) = 0)
  have hc := c177 (q := q) (d := d + 398) (js := js) (S := S) hb g3
  by_cases a0 : gI S 19 = 1
  · rw [if_pos a0] at hc
    obtain ⟨f1, f2, -⟩ := g4 a0
    have hm := fun w => r304 (q := q) (d := d + 398) (js := js) (S := sB S 18 0 w) hb (show gI S 48 = 0 ∨ gI S 48 = 1 by omega)
    have a1 : ∀ w, gI (sB S 18 0 w) 48 = 1 := fun w => show gI S 48 = 1 by omega
    simp only [if_pos (a1 _)] at hm
    refine k16_ok hL h0 h6 hop hc (hm _) rfl (congrArg yi2l ?_) (yI_thr (yI_out hI)) (by omega) (by omega)
    simp only [gI_sB, f1, f2]
  · rw [if_neg a0] at hc
    have hm := r304 (q := q) (d := d + 398) (js := js ++ [yexc 14]) (S := S) hb (show gI S 48 = 0 ∨ gI S 48 = 1 by omega)
    rw [if_neg (by omega)] at hm
    exact k16_14 hL h0 h6 hop hc hm rfl (yI_thr (yI_thr hI)) (len_1 _ _) (xsum_1 _ _)
theorem op10 : yCall yI 10 := by
  intro q S js x0 d y1 y2 y3 y4 hL h0 h6 hop hI
  obtain ⟨hTp, hTb, hCd, hPg, hRs, hRn⟩ := id hI
  have hx := xa_rng q (x0 + 1)
  obtain ⟨u1, u2, u3, u4⟩ := id hCd
  have hb := yb_01 (¬ xa q (x0 + 2) = 0)
  have hc := c172 (q := q) (d := d + 398) (js := js) (S := S) hx hb ⟨u2, u3⟩
  by_cases a0 : 0 ≤ xa q (x0 + 1) ∧ xa q (x0 + 1) < gI S 0
  · rw [if_pos a0] at hc
    have hm := fun w => r256 (q := q) (d := d + 398) (js := js) (S := sB S 18 0 w) hx hb (show 0 ≤ gI S 4 ∧ gI S 4 ≤ 4000 by omega)
    have a1 : ∀ w, 0 ≤ xa q (x0 + 1) ∧ xa q (x0 + 1) < gI (sB S 18 0 w) 4 := fun w => show 0 ≤ xa q (x0 + 1) ∧ xa q (x0 + 1) < gI S 4 by omega
    simp only [if_pos (a1 _)] at hm
    refine k10_ok hL h0 h6 hop hc (hm _) rfl ?_ (yI_thr (yI_out hI)) (by omega) (by omega)
    obtain ⟨v1, v2⟩ := u4 (xa q (x0 + 1)).toNat (by omega)
    show _ = if yb (¬ xa q (x0 + 2) = 0) = 0 then yi2l (gA S 6 _) else gB S 2 _
    rw [v1, v2]
    rfl
  · rw [if_neg a0] at hc
    have hm := r256 (q := q) (d := d + 398) (js := js ++ [yexc 16]) (S := S) hx hb (show 0 ≤ gI S 4 ∧ gI S 4 ≤ 4000 by omega)
    rw [if_neg (by omega)] at hm
    exact k10_16 hL h0 h6 hop hc hm rfl (yI_thr hI) (len_1 _ _) (xsum_1 _ _)
theorem nrow_mul {c n : Int} (h1 : 0 ≤ c) (h2 : 0 ≤ n) : nrow c n * c ≤ n := by
  unfold nrow
  split
  · omega
  · exact Int.ediv_mul_le n (by omega)
theorem cell_in {x y c n : Int} (hx : 0 ≤ x ∧ x < nrow c n) (hy : 0 ≤ y ∧ y < c) (hn : 0 ≤ n) : x * c + y < n := by
  have h := nrow_mul (c := c) (n := n) (by omega) hn
  have h2 : x * c ≤ (nrow c n - 1) * c := Int.mul_le_mul_of_nonneg_right (by omega) (by omega)
  rw [Int.sub_mul] at h2
  omega
theorem op6 : yCall yI 6 := by
  intro q S js x0 d y1 y2 y3 y4 hL h0 h6 hop hI
  obtain ⟨hTp, hTb, hCd, hPg, hRs, hRn⟩ := id hI
  have hx := xa_rng q (x0 + 1)
  have hy := xa_rng q (x0 + 2)
  obtain ⟨t1, t2, t3, t4, t5, t6, t7, t8, t9⟩ := id hTb
  have hc := c171 (q := q) (d := d + 397) (js := js) (S := S) hx hy ⟨t2, t3⟩ ⟨t5, t6⟩
  by_cases a0 : 0 ≤ xa q (x0 + 1) ∧ xa q (x0 + 1) < nrow (gI S 10) (gI S 11) ∧ 0 ≤ xa q (x0 + 2) ∧ xa q (x0 + 2) < gI S 10
  · rw [if_pos a0] at hc
    have hm := fun w => r203 (q := q) (d := d + 398) (js := js) (S := sB S 18 0 w) hx hy (show 0 ≤ gI S 41 ∧ gI S 41 ≤ 8 by omega) (show 0 ≤ gI S 42 ∧ gI S 42 ≤ 40 * gI S 41 by omega)
    simp only [gI_sB, t1, t4, if_pos a0] at hm
    refine k6_ok hL h0 h6 hop hc (hm _) rfl ?_ (yI_thr (yI_out hI)) (by omega) (by omega)
    have h9 := cell_rng (x := xa q (x0 + 1)) (y := xa q (x0 + 2)) (c := gI S 10) ⟨a0.1, by have := (nrow_le (c := gI S 10) (n := gI S 11) ⟨t2, t3⟩ ⟨t5, t6⟩).2; omega⟩ a0.2.2 t3
    exact (t8 _ (by have := cell_in ⟨a0.1, a0.2.1⟩ a0.2.2 t5; omega)).symm
  · rw [if_neg a0] at hc
    have hm := r203 (q := q) (d := d + 398) (js := js ++ [yexc 16]) (S := S) hx hy (show 0 ≤ gI S 41 ∧ gI S 41 ≤ 8 by omega) (show 0 ≤ gI S 42 ∧ gI S 42 ≤ 40 * gI S 41 by omega)
    rw [t1, t4, if_neg a0] at hm
    exact k6_16 hL h0 h6 hop hc hm rfl (yI_thr hI) (len_1 _ _) (xsum_1 _ _)
end YOP
