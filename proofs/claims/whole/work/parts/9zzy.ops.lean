/-! THE CALLS AGAIN, with the program in what holds between them (made by gen9zzy.py from parts 49b to 49k and 9y) -/
section YSS
theorem oj0 : yCall yJ 0 := by
  intro q S js x0 d y1 y2 y3 y4 hL h0 h6 hop hI
  obtain ⟨⟨hTp, hTb, hCd, hPg, hRs, hRn⟩, hPr⟩ := id hI
  obtain ⟨p1, p2, p3, p4⟩ := id hTp
  show yEnd yJ q S js x0 d y1 y2 y3 y4
  generalize hl : yfour (xa q (x0 + 1)) ++ yfour (xa q (x0 + 2)) ++ yfour (xa q (x0 + 3)) ++ yfour (xa q (x0 + 4)) ++ yfour (xa q (x0 + 5)) = l
  generalize hm : yfouR (xa q (x0 + 1)) ++ yfouR (xa q (x0 + 2)) ++ yfouR (xa q (x0 + 3)) ++ yfouR (xa q (x0 + 4)) ++ yfouR (xa q (x0 + 5)) = m
  have e1 : l.length = 20 := by rw [← hl]; rfl
  have e2 : m = l.map (fun b => yand b 255) := by rw [← hl, ← hm]; simp only [List.map_append, yfour_255]
  have hc := c166 (q := q) (d := d + 397) (js := js) (S := S) (a := xa q (x0 + 1)) (b := xa q (x0 + 2)) (c := xa q (x0 + 3)) (e := xa q (x0 + 4)) (f := xa q (x0 + 5)) ⟨p2, p3⟩
  by_cases a0 : gI S 12 + 20 ≤ 2000
  · rw [if_pos a0, hl, pbs_eq l S p2, e1] at hc
    have hr := (r187 (q := q) (d := d + 398) (js := js) (S := sB (sI (sAr S 21 (yrb0 (gA S 21) (gI S 12).toNat l)) 12 (gI S 12 + (20 : Nat))) 18 0 (yi2l (gI S 12 + 20))) (a := xa q (x0 + 1)) (b := xa q (x0 + 2)) (c := xa q (x0 + 3)) (e := xa q (x0 + 4)) (f := xa q (x0 + 5)) (show 0 ≤ gI S 40 ∧ gI S 40 ≤ 2000 by omega)).trans (if_pos (show gI S 40 + 20 ≤ 2000 by omega))
    have z := prs_eq m (sI (sB (sI (sAr S 21 (yrb0 (gA S 21) (gI S 12).toNat l)) 12 (gI S 12 + (20 : Nat))) 18 0 (yi2l (gI S 12 + 20))) 39 0) (show 0 ≤ gI S 40 by omega)
    rw [hm, z] at hr
    have e3 : m.length = 20 := by rw [e2, List.length_map, e1]
    refine k0_ok hL h0 h6 hop hc hr rfl (congrArg yi2l (show gI S 12 + 20 = gI S 40 + 20 by omega)) ⟨⟨⟨?_, ?_, ?_, ?_⟩, hTb, hCd, hPg, hRs, hRn⟩, hPr⟩ (by omega) (by omega)
    · show gI S 40 + (m.length : Int) = gI S 12 + (20 : Nat)
      omega
    · show 0 ≤ gI S 12 + ((20 : Nat) : Int)
      omega
    · show gI S 12 + ((20 : Nat) : Int) ≤ 2000
      omega
    · intro i hi
      have hi : (i : Int) < gI S 12 + ((20 : Nat) : Int) := hi
      show yrb0 (gA S 37) (gI S 40).toNat m i = yand (yrb0 (gA S 21) (gI S 12).toNat l i) 255
      unfold yrb0
      rw [p1]
      by_cases h : i < (gI S 12).toNat
      · rw [if_pos h, if_pos h]
        exact p4 i (by omega)
      · rw [if_neg h, if_neg h, e2, List.getElem?_map]
        have h9 : i - (gI S 12).toNat < l.length := by omega
        rw [List.getElem?_eq_getElem h9]
        rfl
  · rw [if_neg a0] at hc
    have hr := (r187 (q := q) (d := d + 398) (js := js ++ [yexc 14]) (S := S) (a := xa q (x0 + 1)) (b := xa q (x0 + 2)) (c := xa q (x0 + 3)) (e := xa q (x0 + 4)) (f := xa q (x0 + 5)) (show 0 ≤ gI S 40 ∧ gI S 40 ≤ 2000 by omega)).trans (if_neg (show ¬ gI S 40 + 20 ≤ 2000 by omega))
    exact k0_14 hL h0 h6 hop hc hr rfl (yJ_thr (yJ_thr hI)) (len_1 _ _) (xsum_1 _ _)
theorem oj1 : yCall yJ 1 := by
  intro q S js x0 d y1 y2 y3 y4 hL h0 h6 hop hI
  obtain ⟨⟨hTp, hTb, hCd, hPg, hRs, hRn⟩, hPr⟩ := id hI
  have hx := xa_rng q (x0 + 1)
  obtain ⟨p1, p2, p3, p4⟩ := id hTp
  show yEnd yJ q S js x0 d y1 y2 y3 y4
  have hc := c167 (q := q) (d := d + 398) (js := js) (S := S) hx ⟨p2, p3⟩
  by_cases a0 : 0 ≤ xa q (x0 + 1) ∧ xa q (x0 + 1) ≤ gI S 12
  · rw [if_pos a0] at hc
    have hm := (r190 (q := q) (d := d + 398) (js := js) (S := sB (sI S 12 (xa q (x0 + 1))) 18 0 (yi2l (xa q (x0 + 1)))) hx (show 0 ≤ gI S 40 ∧ gI S 40 ≤ 2000 by omega)).trans (if_pos (show 0 ≤ xa q (x0 + 1) ∧ xa q (x0 + 1) ≤ gI S 40 by omega))
    refine k1_ok hL h0 h6 hop hc hm rfl rfl ⟨⟨⟨rfl, a0.1, show xa q (x0 + 1) ≤ 2000 by omega, fun i hi => p4 i (show (i : Int) < gI S 12 from Int.lt_of_lt_of_le (show (i : Int) < xa q (x0 + 1) from hi) a0.2)⟩, hTb, hCd, hPg, hRs, hRn⟩, hPr⟩ (by omega) (by omega)
  · rw [if_neg a0] at hc
    have hm := r190 (q := q) (d := d + 398) (js := js ++ [yexc 15]) (S := S) hx (show 0 ≤ gI S 40 ∧ gI S 40 ≤ 2000 by omega)
    rw [if_neg (by omega)] at hm
    exact k1_15 hL h0 h6 hop hc hm rfl (yJ_thr (yJ_thr hI)) (len_1 _ _) (xsum_1 _ _)
theorem oj2 : yCall yJ 2 := by
  intro q S js x0 d y1 y2 y3 y4 hL h0 h6 hop hI
  obtain ⟨⟨hTp, hTb, hCd, hPg, hRs, hRn⟩, hPr⟩ := id hI
  obtain ⟨p1, p2, p3, p4⟩ := id hTp
  obtain ⟨t1, t2, t3, t4, t5, t6, t7, t8, t9⟩ := id hTb
  show yEnd yJ q S js x0 d y1 y2 y3 y4
  have hb := yb_01 (¬ xa q (x0 + 1) = 0)
  have hcc := c168 (q := q) (d := d + 396) (js := js) (S := S) hb ⟨p2, p3⟩ ⟨t2, t3⟩ ⟨t5, by omega⟩
  have hbt : ∀ i : Nat, (i : Int) < gI S 40 → gA S 37 i = tb S i ∧ 0 ≤ tb S i ∧ tb S i ≤ 255 := fun i hi => ⟨p4 i (by omega), tb_rng S i⟩
  by_cases a : yname (tb S) (gI S 12)
  · have hc := hcc.2 a
    have hn2 : yfind (gB S 11) (ywd (tb S) 0 (gI S 12).toNat 0) (gI S 10).toNat 0 = yfind (gB S 6) (ywd (tb S) 0 (gI S 12).toNat 0) (gI S 10).toNat 0 := yfind_cg fun k k1 k2 => (t7 k (by omega)).1
    by_cases b : gI S 10 = 8 ∨ ¬ yfind (gB S 6) (ywd (tb S) 0 (gI S 12).toNat 0) (gI S 10).toNat 0 = -1 ∨ 0 < gI S 11
    · rw [if_pos b] at hc
      have hm := (r192 (q := q) (d := d + 397) (js := js ++ [yexc 14]) (S := S) (b := tb S) hb (by omega) hbt hRn.2.1 (by omega) (by omega)).2 (by rw [p1]; exact a)
      rw [t1, t4, p1, hn2, if_pos b] at hm
      exact k2_14 hL h0 h6 hop hc hm rfl (yJ_thr (yJ_thr hI)) (len_1 _ _) (xsum_1 _ _)
    · rw [if_neg b] at hc
      have hm := (r192 (q := q) (d := d + 397) (js := js) (S := sB (ycolC S (ywd (tb S) 0 (gI S 12).toNat 0) (yb (¬ xa q (x0 + 1) = 0))) 18 0 (yi2l (gI S 10))) (b := tb S) hb (show 0 ≤ gI S 40 ∧ gI S 40 ≤ 2000 by omega) hbt hRn.2.1 (show 0 ≤ gI S 41 ∧ gI S 41 ≤ 8 by omega) (show 0 ≤ gI S 42 ∧ gI S 42 ≤ 320 by omega)).2 (show yname (tb S) (gI S 40) by rw [p1]; exact a)
      have hm := hm.trans (if_neg (show ¬ (gI S 41 = 8 ∨ ¬ yfind (gB S 11) (ywd (tb S) 0 (gI S 40).toNat 0) (gI S 41).toNat 0 = -1 ∨ 0 < gI S 42) by rw [t1, t4, p1, hn2]; exact b))
      have n8 : gI S 10 < 8 := by omega
      have n11 : gI S 11 = 0 := by omega
      refine k2_ok hL h0 h6 hop hc hm rfl (congrArg yi2l t1.symm) ⟨⟨⟨rfl, Int.le_refl 0, show (0 : Int) ≤ 2000 by omega, fun i hi => absurd (show (i : Int) < 0 from hi) (by omega)⟩, ⟨?_, ?_, ?_, t4, t5, ?_, ?_, ?_, ?_⟩, ⟨rfl, Int.le_refl 0, show (0 : Int) ≤ 4000 by omega, fun i hi => absurd (show (i : Int) < 0 from hi) (by omega)⟩, ⟨hPg.1, rfl, Or.inl rfl, fun z => absurd (show (0 : Int) = 1 from z) (by omega)⟩, hRs, ⟨⟨rfl, Int.le_refl 0, show (0 : Int) ≤ 4 by omega, fun _ => ⟨rfl, rfl, rfl, rfl, rfl⟩, fun z => absurd (show (0 : Int) < 0 from z) (by omega)⟩, hRn.2.1, ⟨Int.le_refl 0, show (0 : Int) ≤ 8 by omega⟩, ⟨Int.le_refl 0, show (0 : Int) ≤ 8 by omega⟩, hRn.2.2.2.2⟩⟩, fun z => absurd (show (0 : Int) = 1 from z) (by omega)⟩ (by omega) (by omega)
      · show gI S 41 + 1 = gI S 10 + 1
        omega
      · show 0 ≤ gI S 10 + 1
        omega
      · show gI S 10 + 1 ≤ 8
        omega
      · show gI S 11 ≤ 40 * (gI S 10 + 1)
        omega
      · intro i hi
        have hi : (i : Int) < gI S 10 + 1 := hi
        show yup (gB S 11) (gI S 41).toNat (ywd (tb S) 0 (gI S 40).toNat 0) i = yup (gB S 6) (gI S 10).toNat (ywd (tb S) 0 (gI S 12).toNat 0) i ∧ yup (gA S 38) (gI S 41).toNat (yb (¬ xa q (x0 + 1) = 0)) i = yup (gA S 20) (gI S 10).toNat (yb (¬ xa q (x0 + 1) = 0)) i ∧ (yup (gA S 20) (gI S 10).toNat (yb (¬ xa q (x0 + 1) = 0)) i = 0 ∨ yup (gA S 20) (gI S 10).toNat (yb (¬ xa q (x0 + 1) = 0)) i = 1)
        rw [t1, p1, yup_eq, yup_eq, yup_eq, yup_eq]
        by_cases z : i = (gI S 10).toNat
        · rw [if_pos z, if_pos z, if_pos z, if_pos z]
          exact ⟨rfl, rfl, hb⟩
        · rw [if_neg z, if_neg z, if_neg z, if_neg z]
          exact t7 i (by omega)
      · intro i hi
        have hi : (i : Int) < gI S 11 := hi
        omega
      · intro i hi
        have hi : (i : Int) < gI S 11 := hi
        omega
  · have hc := hcc.1 a
    have hm := (r192 (q := q) (d := d + 397) (js := js ++ [yexc 15]) (S := S) (b := tb S) hb (by omega) hbt hRn.2.1 (by omega) (by omega)).1 (by rw [p1]; exact a)
    exact k2_15 hL h0 h6 hop hc hm rfl (yJ_thr (yJ_thr hI)) (len_1 _ _) (xsum_1 _ _)
theorem oj3 : yCall yJ 3 := by
  intro q S js x0 d y1 y2 y3 y4 hL h0 h6 hop hI
  obtain ⟨⟨hTp, hTb, hCd, hPg, hRs, hRn⟩, hPr⟩ := id hI
  obtain ⟨t1, t2, t3, t4, t5, t6, t7, t8, t9⟩ := id hTb
  show yEnd yJ q S js x0 d y1 y2 y3 y4
  have hr : 0 < gI S 10 → 0 ≤ gI S 11 % gI S 10 ∧ gI S 11 % gI S 10 < gI S 10 := emod_rng
  have ht : 0 < gI S 10 → gA S 20 (gI S 11 % gI S 10).toNat = 0 ∨ gA S 20 (gI S 11 % gI S 10).toNat = 1 := fun z => (t7 _ (by have := hr z; omega)).2.2
  have h38 : 0 < gI S 10 → gA S 38 (gI S 11 % gI S 10).toNat = gA S 20 (gI S 11 % gI S 10).toNat := fun z => (t7 _ (by have := hr z; omega)).2.1
  have hc := c169 (q := q) (d := d + 396) (js := js) (S := S) (c := xl q (x0 + 1) (x0 + 2)) ⟨t2, t3⟩ ⟨t5, t6⟩ ht
  have hm : ∀ (S' : yS) (js : List xO), gI S' 41 = gI S 41 → gI S' 42 = gI S 42 → gA S' 38 = gA S 38 → Y q (d + 399) 198 0 [vr 129, vj (xl q (x0 + 1) (x0 + 2)), vu, vu, vu, vu, vu, vu] [] S' js = if gI S 10 = 0 ∨ gI S 11 = 40 * gI S 10 then yret q (vi 0) (sI (sI S' 39 0) 39 1) js else if gA S 20 (gI S 11 % gI S 10).toNat = 1 → okb (xl q (x0 + 1) (x0 + 2)) 8 = true then yret q (vi (nrow (gI S 10) (gI S 11 + 1))) (sI (sB (sI S' 39 0) 12 (gI S 11).toNat (if gA S 20 (gI S 11 % gI S 10).toNat = 1 then wz (xl q (x0 + 1) (x0 + 2)) 0 8 else xl q (x0 + 1) (x0 + 2))) 42 (gI S 11 + 1)) js else yret q (vi 0) (sI (sI S' 39 0) 39 2) js := by
    intro S' js f1 f2 f3
    have := r198 (q := q) (d := d + 398) (js := js) (S := S') (c := xl q (x0 + 1) (x0 + 2)) (by omega) (by omega) (by rw [f1, f2, f3, t1, t4]; intro z; rw [h38 z]; exact ht z)
    rw [f1, f2, f3, t1, t4] at this
    by_cases z : gI S 10 = 0
    · rw [if_pos (Or.inl z)] at this
      rw [if_pos (Or.inl z)]
      exact this
    · rw [h38 (by omega)] at this
      exact this
  by_cases a : gI S 10 = 0 ∨ gI S 11 = 40 * gI S 10
  · rw [if_pos a] at hc
    exact k3_14 hL h0 h6 hop hc ((hm S _ rfl rfl rfl).trans (if_pos a)) rfl (yJ_thr (yJ_thr hI)) (len_1 _ _) (xsum_1 _ _)
  · rw [if_neg a] at hc
    by_cases b : gA S 20 (gI S 11 % gI S 10).toNat = 1 → okb (xl q (x0 + 1) (x0 + 2)) 8 = true
    · rw [if_pos b] at hc
      generalize hk : (if gA S 20 (gI S 11 % gI S 10).toNat = 1 then wz (xl q (x0 + 1) (x0 + 2)) 0 8 else xl q (x0 + 1) (x0 + 2)) = k at hc hm
      have hm2 := (hm (sB (sI (sB S 7 (gI S 11).toNat k) 11 (gI S 11 + 1)) 18 0 (yi2l (nrow (gI S 10) (gI S 11 + 1)))) js rfl rfl rfl).trans ((if_neg a).trans (if_pos b))
      refine k3_ok hL h0 h6 hop hc hm2 rfl rfl ⟨⟨hTp, ⟨t1, t2, t3, rfl, ?_, ?_, t7, ?_, ?_⟩, hCd, hPg, hRs, hRn⟩, hPr⟩ (by omega) (by omega)
      · show 0 ≤ gI S 11 + 1
        omega
      · show gI S 11 + 1 ≤ 40 * gI S 10
        omega
      · intro i hi
        have hi : (i : Int) < gI S 11 + 1 := hi
        show yup (gB S 12) (gI S 11).toNat k i = yup (gB S 7) (gI S 11).toNat k i
        rw [yup_eq, yup_eq]
        split
        · rfl
        · exact t8 i (by omega)
      · intro i hi hx
        have hi : (i : Int) < gI S 11 + 1 := hi
        have hx : gA S 20 ((i : Int) % gI S 10).toNat = 1 := hx
        show ∃ c, okb c 8 = true ∧ yup (gB S 7) (gI S 11).toNat k i = wz c 0 8
        rw [yup_eq]
        split
        · rename_i e
          have e2 : (i : Int) = gI S 11 := by omega
          rw [e2] at hx
          rw [if_pos hx] at hk
          exact ⟨_, b hx, hk.symm⟩
        · exact t9 i (by omega) hx
    · rw [if_neg b] at hc
      exact k3_15 hL h0 h6 hop hc ((hm S _ rfl rfl rfl).trans ((if_neg a).trans (if_neg b))) rfl (yJ_thr (yJ_thr hI)) (len_1 _ _) (xsum_1 _ _)
theorem oj4 : yCall yJ 4 := by
  intro q S js x0 d y1 y2 y3 y4 hL h0 h6 hop hI
  obtain ⟨⟨hTp, hTb, hCd, hPg, hRs, hRn⟩, hPr⟩ := id hI
  obtain ⟨t1, t2, t3, t4, t5, t6, t7, t8, t9⟩ := id hTb
  show yEnd yJ q S js x0 d y1 y2 y3 y4
  have hc : Y q (d + 399) 159 0 [vr 75, vu] [] S js = yret q (vi (nrow (gI S 10) (gI S 11))) (sI S 11 0) js := by
    rw [w159_0, c131 ⟨t2, t3⟩ ⟨t5, by omega⟩, YB_ret, w159_7]
  have hm : Y q (d + 399) 200 0 [vr 129, vu] [] (sI S 11 0) js = yret q (vi (nrow (gI S 41) (gI S 42))) (sI (sI (sI S 11 0) 39 0) 42 0) js := by
    rw [w200_0, r199 (S := sI (sI S 11 0) 39 0) (show 0 ≤ gI S 41 ∧ gI S 41 ≤ 8 by omega) (show 0 ≤ gI S 42 ∧ gI S 42 ≤ 320 by omega), YB_ret, w200_9]
    rfl
  refine k4_ok hL h0 h6 hop hc hm (by rw [t1, t4]) ⟨⟨hTp, ⟨t1, t2, t3, rfl, Int.le_refl 0, show (0 : Int) ≤ 40 * gI S 10 by omega, t7, fun i hi => absurd (show (i : Int) < 0 from hi) (by omega), fun i hi => absurd (show (i : Int) < 0 from hi) (by omega)⟩, hCd, hPg, hRs, hRn⟩, hPr⟩ (by omega) (by omega)
theorem oj5 : yCall yJ 5 := by
  intro q S js x0 d y1 y2 y3 y4 hL h0 h6 hop hI
  obtain ⟨⟨hTp, hTb, hCd, hPg, hRs, hRn⟩, hPr⟩ := id hI
  have hx := xa_rng q (x0 + 1)
  obtain ⟨t1, t2, t3, t4, t5, t6, -, -, -⟩ := id hTb
  have p1 := hTp.1
  show yEnd yJ q S js x0 d y1 y2 y3 y4
  have hc := c170 (q := q) (d := d + 397) (js := js) (S := S) hx ⟨t2, t3⟩ ⟨t5, by omega⟩
  have hm := fun w => r201 (q := q) (d := d + 397) (js := js) (S := sB S 18 0 w) hx (show 0 ≤ gI S 41 ∧ gI S 41 ≤ 8 by omega) (show 0 ≤ gI S 42 ∧ gI S 42 ≤ 320 by omega)
  have hn := r201 (q := q) (d := d + 397) (js := js ++ [yexc 16]) (S := S) hx (show 0 ≤ gI S 41 ∧ gI S 41 ≤ 8 by omega) (show 0 ≤ gI S 42 ∧ gI S 42 ≤ 320 by omega)
  by_cases a0 : xa q (x0 + 1) = 0
  · rw [if_pos a0] at hc
    have hm := hm (yi2l (gI S 10))
    rw [if_pos (by omega), if_pos a0] at hm
    exact k5_ok hL h0 h6 hop hc hm rfl (congrArg yi2l t1.symm) (yJ_thr (yJ_out hI)) (by omega) (by omega)
  · by_cases a1 : xa q (x0 + 1) = 1
    · rw [if_neg a0, if_pos a1] at hc
      have hm := hm (yi2l (nrow (gI S 10) (gI S 11)))
      rw [if_pos (by omega), if_neg a0, if_pos a1] at hm
      refine k5_ok hL h0 h6 hop hc hm rfl (congrArg yi2l ?_) (yJ_thr (yJ_out hI)) (by omega) (by omega)
      show nrow (gI S 10) (gI S 11) = nrow (gI S 41) (gI S 42)
      rw [t1, t4]
    · by_cases a2 : xa q (x0 + 1) = 2
      · rw [if_neg a0, if_neg a1, if_pos a2] at hc
        have hm := hm (yi2l (gI S 12))
        rw [if_pos (by omega), if_neg a0, if_neg a1] at hm
        exact k5_ok hL h0 h6 hop hc hm rfl (congrArg yi2l p1.symm) (yJ_thr (yJ_out hI)) (by omega) (by omega)
      · rw [if_neg a0, if_neg a1, if_neg a2] at hc
        rw [if_neg (by omega)] at hn
        exact k5_16 hL h0 h6 hop hc hn rfl (yJ_thr (yJ_thr hI)) (len_1 _ _) (xsum_1 _ _)
theorem oj6 : yCall yJ 6 := by
  intro q S js x0 d y1 y2 y3 y4 hL h0 h6 hop hI
  obtain ⟨⟨hTp, hTb, hCd, hPg, hRs, hRn⟩, hPr⟩ := id hI
  have hx := xa_rng q (x0 + 1)
  have hy := xa_rng q (x0 + 2)
  obtain ⟨t1, t2, t3, t4, t5, t6, t7, t8, t9⟩ := id hTb
  have hc := c171 (q := q) (d := d + 397) (js := js) (S := S) hx hy ⟨t2, t3⟩ ⟨t5, t6⟩
  by_cases a0 : 0 ≤ xa q (x0 + 1) ∧ xa q (x0 + 1) < nrow (gI S 10) (gI S 11) ∧ 0 ≤ xa q (x0 + 2) ∧ xa q (x0 + 2) < gI S 10
  · rw [if_pos a0] at hc
    have hm := fun w => r203 (q := q) (d := d + 398) (js := js) (S := sB S 18 0 w) hx hy (show 0 ≤ gI S 41 ∧ gI S 41 ≤ 8 by omega) (show 0 ≤ gI S 42 ∧ gI S 42 ≤ 40 * gI S 41 by omega)
    simp only [gI_sB, t1, t4, if_pos a0] at hm
    refine k6_ok hL h0 h6 hop hc (hm _) rfl ?_ (yJ_thr (yJ_out hI)) (by omega) (by omega)
    have h9 := cell_rng (x := xa q (x0 + 1)) (y := xa q (x0 + 2)) (c := gI S 10) ⟨a0.1, by have := (nrow_le (c := gI S 10) (n := gI S 11) ⟨t2, t3⟩ ⟨t5, t6⟩).2; omega⟩ a0.2.2 t3
    exact (t8 _ (by have := cell_in ⟨a0.1, a0.2.1⟩ a0.2.2 t5; omega)).symm
  · rw [if_neg a0] at hc
    have hm := r203 (q := q) (d := d + 398) (js := js ++ [yexc 16]) (S := S) hx hy (show 0 ≤ gI S 41 ∧ gI S 41 ≤ 8 by omega) (show 0 ≤ gI S 42 ∧ gI S 42 ≤ 40 * gI S 41 by omega)
    rw [t1, t4, if_neg a0] at hm
    exact k6_16 hL h0 h6 hop hc hm rfl (yJ_thr hI) (len_1 _ _) (xsum_1 _ _)
theorem oj8 : yCall yJ 8 := by
  intro q S js x0 d y1 y2 y3 y4 hL h0 h6 hop hI
  exact k8_ok hL h0 h6 hop (w161_0 _ _ _ _) (w254_0 _ _ _ _) hI.1.2.2.2.1.1 (yJ_thr hI) (by omega) (by omega)
theorem oj9 : yCall yJ 9 := by
  intro q S js x0 d y1 y2 y3 y4 hL h0 h6 hop hI
  exact k9_ok hL h0 h6 hop (w162_0 _ _ _ _) (w255_0 _ _ _ _) (by rw [hI.1.2.2.1.1]) (yJ_thr hI) (by omega) (by omega)
theorem oj10 : yCall yJ 10 := by
  intro q S js x0 d y1 y2 y3 y4 hL h0 h6 hop hI
  obtain ⟨⟨hTp, hTb, hCd, hPg, hRs, hRn⟩, hPr⟩ := id hI
  have hx := xa_rng q (x0 + 1)
  obtain ⟨u1, u2, u3, u4⟩ := id hCd
  have hb := yb_01 (¬ xa q (x0 + 2) = 0)
  have hc := c172 (q := q) (d := d + 398) (js := js) (S := S) hx hb ⟨u2, u3⟩
  by_cases a0 : 0 ≤ xa q (x0 + 1) ∧ xa q (x0 + 1) < gI S 0
  · rw [if_pos a0] at hc
    have hm := fun w => r256 (q := q) (d := d + 398) (js := js) (S := sB S 18 0 w) hx hb (show 0 ≤ gI S 4 ∧ gI S 4 ≤ 4000 by omega)
    have a1 : ∀ w, 0 ≤ xa q (x0 + 1) ∧ xa q (x0 + 1) < gI (sB S 18 0 w) 4 := fun w => show 0 ≤ xa q (x0 + 1) ∧ xa q (x0 + 1) < gI S 4 by omega
    simp only [if_pos (a1 _)] at hm
    refine k10_ok hL h0 h6 hop hc (hm _) rfl ?_ (yJ_thr (yJ_out hI)) (by omega) (by omega)
    obtain ⟨v1, v2⟩ := u4 (xa q (x0 + 1)).toNat (by omega)
    show _ = if yb (¬ xa q (x0 + 2) = 0) = 0 then yi2l (gA S 6 _) else gB S 2 _
    rw [v1, v2]
    rfl
  · rw [if_neg a0] at hc
    have hm := r256 (q := q) (d := d + 398) (js := js ++ [yexc 16]) (S := S) hx hb (show 0 ≤ gI S 4 ∧ gI S 4 ≤ 4000 by omega)
    rw [if_neg (by omega)] at hm
    exact k10_16 hL h0 h6 hop hc hm rfl (yJ_thr hI) (len_1 _ _) (xsum_1 _ _)
theorem oj12 : yCall yJ 12 := by
  intro q S js x0 d y1 y2 y3 y4 hL h0 h6 hop hI
  obtain ⟨⟨hTp, hTb, hCd, hPg, hRs, hRn⟩, hPr⟩ := id hI
  have hc := c163 (q := q) (d := d + 398) (js := js) (S := S)
  rcases hRs with ⟨a1, a2, a3, a4⟩ | ⟨a1, a2, a3, a4, a5, a6⟩
  · rw [a1, if_pos (by decide)] at hc
    exact k12_ok hL h0 h6 hop hc (w274_0 _ _ _ _) a3 (yJ_thr hI) (by omega) (by omega)
  · rw [a1, if_neg (by decide)] at hc
    exact k12_ok hL h0 h6 hop hc (w274_0 _ _ _ _) a5 (yJ_thr hI) (by omega) (by omega)
theorem oj13 : yCall yJ 13 := by
  intro q S js x0 d y1 y2 y3 y4 hL h0 h6 hop hI
  obtain ⟨⟨hTp, hTb, hCd, hPg, hRs, hRn⟩, hPr⟩ := id hI
  have hx := xa_rng q (x0 + 1)
  have hl : 0 ≤ gA S 31 27 ∧ gA S 31 27 ≤ 60 := by rcases hRs with ⟨a1, a2, a3, a4⟩ | ⟨a1, a2, a3, a4, a5, a6⟩ <;> omega
  have h62 : -1 ≤ gI S 62 ∧ gI S 62 ≤ 60 := by rcases hRs with ⟨a1, a2, a3, a4⟩ | ⟨a1, a2, a3, a4, a5, a6⟩ <;> omega
  have hc := c174 (q := q) (d := d + 397) (js := js) (S := S) hx hl
  by_cases a0 : 0 ≤ xa q (x0 + 1) ∧ xa q (x0 + 1) < gA S 31 27
  · rw [if_pos a0] at hc
    rcases hRs with ⟨a1, a2, a3, a4⟩ | ⟨a1, a2, a3, a4, a5, a6⟩
    · omega
    · have hm := (r275 (q := q) (d := d + 398) (js := js) (S := sB S 18 0 (yi2l (gA S 32 (1620 + (xa q (x0 + 1)).toNat)))) hx h62).trans (if_pos (show 0 ≤ xa q (x0 + 1) ∧ xa q (x0 + 1) < gI S 62 by omega))
      exact k13_ok hL h0 h6 hop hc hm rfl (congrArg yi2l (a6 _ (by omega)).1.symm) (yJ_thr (yJ_out hI)) (by omega) (by omega)
  · rw [if_neg a0] at hc
    have hm := r275 (q := q) (d := d + 398) (js := js ++ [yexc 16]) (S := S) hx h62
    rw [if_neg (by rcases hRs with ⟨a1, a2, a3, a4⟩ | ⟨a1, a2, a3, a4, a5, a6⟩ <;> omega)] at hm
    exact k13_16 hL h0 h6 hop hc hm rfl (yJ_thr (yJ_thr hI)) (len_1 _ _) (xsum_1 _ _)
theorem oj15 : yCall yJ 15 := by
  intro q S js x0 d y1 y2 y3 y4 hL h0 h6 hop hI
  obtain ⟨⟨hTp, hTb, hCd, hPg, hRs, hRn⟩, hPr⟩ := id hI
  have hx := xa_rng q (x0 + 1)
  obtain ⟨n1, n2, n3, n4, n5⟩ := id hRn.1
  have hc := c176 (q := q) (d := d + 398) (js := js) (S := S) hx
  by_cases a0 : 0 ≤ xa q (x0 + 1) ∧ xa q (x0 + 1) ≤ 4
  · rw [if_pos a0] at hc
    have hm := fun w => r302 (q := q) (d := d + 398) (js := js) (S := sB S 18 0 w) hx (show 0 ≤ gI S 66 ∧ gI S 66 ≤ 4 by omega)
    simp only [if_pos a0] at hm
    refine k15_ok hL h0 h6 hop hc (hm _) rfl (congrArg yi2l ?_) (yJ_thr (yJ_out hI)) (by omega) (by omega)
    by_cases z : gI S 30 = 0
    · obtain ⟨z1, z2, z3, z4, z5⟩ := n4 z
      simp only [gI_sB, n1, z, z1, z2, z3, z4, z5, ite_self, if_true]
    · obtain ⟨-, z1, z2, z3, z4, z5, -⟩ := n5 (by omega)
      simp only [gI_sB, n1, if_neg z, z1, z2, z3, z4, z5]
  · rw [if_neg a0] at hc
    have hm := r302 (q := q) (d := d + 398) (js := js ++ [yexc 16]) (S := S) hx (show 0 ≤ gI S 66 ∧ gI S 66 ≤ 4 by omega)
    rw [if_neg a0] at hm
    exact k15_16 hL h0 h6 hop hc hm rfl (yJ_thr (yJ_thr hI)) (len_1 _ _) (xsum_1 _ _)
theorem oj16 : yCall yJ 16 := by
  intro q S js x0 d y1 y2 y3 y4 hL h0 h6 hop hI
  obtain ⟨⟨hTp, hTb, hCd, hPg, hRs, hRn⟩, hPr⟩ := id hI
  obtain ⟨g1, g2, g3, g4⟩ := id hPg
  have hb := yb_01 (¬ xa q (x0 + 1) = 0)
  have hc := c177 (q := q) (d := d + 398) (js := js) (S := S) hb g3
  by_cases a0 : gI S 19 = 1
  · rw [if_pos a0] at hc
    obtain ⟨f1, f2, -⟩ := g4 a0
    have hm := fun w => r304 (q := q) (d := d + 398) (js := js) (S := sB S 18 0 w) hb (show gI S 48 = 0 ∨ gI S 48 = 1 by omega)
    have a1 : ∀ w, gI (sB S 18 0 w) 48 = 1 := fun w => show gI S 48 = 1 by omega
    simp only [if_pos (a1 _)] at hm
    refine k16_ok hL h0 h6 hop hc (hm _) rfl (congrArg yi2l ?_) (yJ_thr (yJ_out hI)) (by omega) (by omega)
    simp only [gI_sB, f1, f2]
  · rw [if_neg a0] at hc
    have hm := r304 (q := q) (d := d + 398) (js := js ++ [yexc 14]) (S := S) hb (show gI S 48 = 0 ∨ gI S 48 = 1 by omega)
    rw [if_neg (by omega)] at hm
    exact k16_14 hL h0 h6 hop hc hm rfl (yJ_thr (yJ_thr hI)) (len_1 _ _) (xsum_1 _ _)
theorem oj17 : yCall yJ 17 := by
  intro q S js x0 d y1 y2 y3 y4 hL h0 h6 hop hI
  obtain ⟨⟨hTp, hTb, hCd, hPg, hRs, hRn⟩, hPr⟩ := id hI
  have hp := xa_rng q (x0 + 1)
  have hl := xa_rng q (x0 + 2)
  have hk := xa_rng q (x0 + 3)
  obtain ⟨n1, n2, n3, n4, n5⟩ := id hRn.1
  have hP : 0 ≤ gI S 29 ∧ gI S 29 ≤ 30 := by
    by_cases z : gI S 30 = 0
    · have := n4 z; omega
    · have := n5 (by omega); omega
  have hW : 0 < gI S 29 → 0 < gI S 30 ∧ gI S 68 = gI S 29 ∧ gI S 55 = gI S 28 ∧ gI S 54 = gI S 27 ∧ 10 ≤ gI S 27 ∧ gI S 27 ≤ 60 ∧ 4 ≤ gI S 28 ∧ gI S 28 ≤ 40 := by
    intro z
    by_cases z' : gI S 30 = 0
    · have := n4 z'; omega
    · have h5 := n5 (by omega)
      have h9 := hPg.2.2.2 h5.1
      omega
  have hM : 0 < gI S 66 → (0 ≤ gI S 68 ∧ gI S 68 ≤ 30) ∧ 4 ≤ gI S 55 ∧ gI S 55 ≤ 40 ∧ 10 ≤ gI S 54 ∧ gI S 54 ≤ 60 := by
    intro z
    have h5 := n5 (by omega)
    have h9 := hPg.2.2.2 h5.1
    omega
  have hc := c178 (q := q) (d := d + 396) (js := js) (S := S) hp hl hk hP (fun z => (hW z).2.2.2.2)
  by_cases a : 1 ≤ xa q (x0 + 1) ∧ xa q (x0 + 1) ≤ gI S 29 ∧ 1 ≤ xa q (x0 + 2) ∧ xa q (x0 + 2) ≤ gI S 28 ∧ 1 ≤ xa q (x0 + 3) ∧ xa q (x0 + 3) ≤ gI S 27
  · obtain ⟨w1, w2, w3, w4, w5⟩ := hW (by omega)
    rw [if_pos a] at hc
    have hm := fun w => (r305 (q := q) (d := d + 397) (js := js) (S := sB S 18 0 w) hp hl hk (show 0 ≤ gI S 66 ∧ gI S 66 ≤ 4 by omega) hM).trans (if_pos (show 0 < gI S 66 ∧ 1 ≤ xa q (x0 + 1) ∧ xa q (x0 + 1) ≤ gI S 68 ∧ 1 ≤ xa q (x0 + 2) ∧ xa q (x0 + 2) ≤ gI S 55 ∧ 1 ≤ xa q (x0 + 3) ∧ xa q (x0 + 3) ≤ gI S 54 by omega))
    refine k17_ok hL h0 h6 hop hc (hm _) rfl (congrArg yi2l ?_) (yJ_thr (yJ_out hI)) (by omega) (by omega)
    show gA S 33 _ = gA S 64 (((xa q (x0 + 1) - 1) * gI S 55 + xa q (x0 + 2) - 1) * gI S 54 + xa q (x0 + 3) - 1).toNat
    have hi := idx_rng (p := xa q (x0 + 1)) (l := xa q (x0 + 2)) (k := xa q (x0 + 3)) (P := gI S 29) (h := gI S 28) (w := gI S 27) ⟨a.1, a.2.1⟩ ⟨a.2.2.1, a.2.2.2.1⟩ ⟨a.2.2.2.2.1, a.2.2.2.2.2⟩ hP.2 (by omega) (by omega)
    rw [w3, w4]
    obtain ⟨-, -, -, -, -, -, -, -, -, -, -, -, -, -, -, -, -, -, hpp, -⟩ := n5 w1
    exact (hpp _ (by omega)).symm
  · rw [if_neg a] at hc
    have hm := (r305 (q := q) (d := d + 397) (js := js ++ [yexc 16]) (S := S) hp hl hk (by omega) hM).trans (if_neg (by
      intro z
      have h5 := n5 (by omega)
      have h9 := hPg.2.2.2 h5.1
      omega))
    exact k17_16 hL h0 h6 hop hc hm rfl (yJ_thr (yJ_thr hI)) (len_1 _ _) (xsum_1 _ _)
theorem oj18 : yCall yJ 18 := by
  intro q S js x0 d y1 y2 y3 y4 hL h0 h6 hop hI
  obtain ⟨⟨hTp, hTb, hCd, hPg, hRs, hRn⟩, hPr⟩ := id hI
  have hp := xa_rng q (x0 + 1)
  have hl := xa_rng q (x0 + 2)
  obtain ⟨n1, n2, n3, n4, n5⟩ := id hRn.1
  have hP : 0 ≤ gI S 29 ∧ gI S 29 ≤ 30 := by
    by_cases z : gI S 30 = 0
    · have := n4 z; omega
    · have := n5 (by omega); omega
  have hW : 0 < gI S 29 → 0 < gI S 30 ∧ gI S 68 = gI S 29 ∧ gI S 55 = gI S 28 ∧ gI S 54 = gI S 27 ∧ 10 ≤ gI S 27 ∧ gI S 27 ≤ 60 ∧ 4 ≤ gI S 28 ∧ gI S 28 ≤ 40 := by
    intro z
    by_cases z' : gI S 30 = 0
    · have := n4 z'; omega
    · have h5 := n5 (by omega)
      have h9 := hPg.2.2.2 h5.1
      omega
  have hM : 0 < gI S 66 → (0 ≤ gI S 68 ∧ gI S 68 ≤ 30) ∧ 4 ≤ gI S 55 ∧ gI S 55 ≤ 40 ∧ 10 ≤ gI S 54 ∧ gI S 54 ≤ 60 := by
    intro z
    have h5 := n5 (by omega)
    have h9 := hPg.2.2.2 h5.1
    omega
  have hc := c179 (q := q) (d := d + 395) (js := js) (S := S) hp hl hP (fun z => (hW z).2.2.2.2)
  by_cases a : 1 ≤ xa q (x0 + 1) ∧ xa q (x0 + 1) ≤ gI S 29 ∧ 1 ≤ xa q (x0 + 2) ∧ xa q (x0 + 2) ≤ gI S 28
  · obtain ⟨w1, w2, w3, w4, w5⟩ := hW (by omega)
    rw [if_pos a] at hc
    have hm := fun w => (r307 (q := q) (d := d + 397) (js := js) (S := sB S 18 0 w) hp hl (show 0 ≤ gI S 66 ∧ gI S 66 ≤ 4 by omega) hM).trans (if_pos (show 0 < gI S 66 ∧ 1 ≤ xa q (x0 + 1) ∧ xa q (x0 + 1) ≤ gI S 68 ∧ 1 ≤ xa q (x0 + 2) ∧ xa q (x0 + 2) ≤ gI S 55 by omega))
    refine k18_ok hL h0 h6 hop hc (hm _) rfl ?_ (yJ_thr (yJ_out hI)) (by omega) (by omega)
    show _ = yls (gA S 64) (((xa q (x0 + 1) - 1) * gI S 55 + xa q (x0 + 2) - 1) * gI S 54).toNat (gI S 54).toNat 0
    have hi := idx_rng (p := xa q (x0 + 1)) (l := xa q (x0 + 2)) (k := 1) (P := gI S 29) (h := gI S 28) (w := gI S 27) ⟨a.1, a.2.1⟩ ⟨a.2.2.1, a.2.2.2⟩ (by omega) hP.2 (by omega) (by omega)
    rw [w3, w4]
    obtain ⟨-, -, -, -, -, -, -, -, -, -, -, -, -, -, -, -, -, -, hpp, -⟩ := n5 w1
    exact yls_cg fun k k1 k2 => (hpp k (by omega)).symm
  · rw [if_neg a] at hc
    have hm := (r307 (q := q) (d := d + 397) (js := js ++ [yexc 16]) (S := S) hp hl (by omega) hM).trans (if_neg (by
      intro z
      have h5 := n5 (by omega)
      have h9 := hPg.2.2.2 h5.1
      omega))
    exact k18_16 hL h0 h6 hop hc hm rfl (yJ_thr hI) (len_1 _ _) (xsum_1 _ _)
theorem oj19 : yCall yJ 19 := by
  intro q S js x0 d y1 y2 y3 y4 hL h0 h6 hop hI
  obtain ⟨⟨hTp, hTb, hCd, hPg, hRs, hRn⟩, hPr⟩ := id hI
  have hp := xa_rng q (x0 + 1)
  obtain ⟨n1, n2, n3, n4, n5⟩ := id hRn.1
  have hP : 0 ≤ gI S 32 ∧ gI S 32 ≤ 40 := by
    by_cases z : gI S 30 = 0
    · have := n4 z; omega
    · have := n5 (by omega); omega
  have hM : 0 < gI S 66 → 0 ≤ gI S 69 ∧ gI S 69 ≤ 40 := fun z => by have := n5 (by omega); omega
  have hc := c180 (q := q) (d := d + 398) (js := js) (S := S) hp hP
  by_cases a : 0 ≤ xa q (x0 + 1) ∧ xa q (x0 + 1) < gI S 32
  · rw [if_pos a] at hc
    have z : 0 < gI S 30 := by
      by_cases z : gI S 30 = 0
      · have := n4 z; omega
      · omega
    have h5 := n5 z
    have hm := fun w => (r309 (q := q) (d := d + 398) (js := js) (S := sB S 18 0 w) hp (show 0 ≤ gI S 66 ∧ gI S 66 ≤ 4 by omega) hM).trans (if_pos (show 0 < gI S 66 ∧ 0 ≤ xa q (x0 + 1) ∧ xa q (x0 + 1) < gI S 69 by omega))
    refine k19_ok hL h0 h6 hop hc (hm _) rfl (congrArg yi2l ?_) (yJ_thr (yJ_out hI)) (by omega) (by omega)
    obtain ⟨-, -, -, -, -, -, -, -, -, -, -, -, -, -, -, -, -, -, -, hpp, -⟩ := h5
    exact (hpp _ (by omega)).symm
  · rw [if_neg a] at hc
    have hm := (r309 (q := q) (d := d + 398) (js := js ++ [yexc 16]) (S := S) hp (by omega) hM).trans (if_neg (by
      intro z
      have h5 := n5 (by omega)
      omega))
    exact k19_16 hL h0 h6 hop hc hm rfl (yJ_thr (yJ_thr hI)) (len_1 _ _) (xsum_1 _ _)
theorem oj20 : yCall yJ 20 := by
  intro q S js x0 d y1 y2 y3 y4 hL h0 h6 hop hI
  obtain ⟨⟨hTp, hTb, hCd, hPg, hRs, hRn⟩, hPr⟩ := id hI
  have hp := xa_rng q (x0 + 1)
  obtain ⟨n1, n2, n3, n4, n5⟩ := id hRn.1
  have hN : 0 < gI S 30 → 0 ≤ gI S 9 ∧ gI S 9 ≤ 8 := fun z => by have := n5 (by omega); omega
  have hM : 0 < gI S 66 → 0 ≤ gI S 52 ∧ gI S 52 ≤ 8 := fun z => by have := n5 (by omega); omega
  have hc := c181 (q := q) (d := d + 397) (js := js) (S := S) hp ⟨n2, n3⟩ hN
  by_cases a : 0 < gI S 30 ∧ 0 ≤ xa q (x0 + 1) ∧ xa q (x0 + 1) < gI S 9
  · rw [if_pos a] at hc
    have h5 := n5 a.1
    have hm := fun w => (r310 (q := q) (d := d + 398) (js := js) (S := sB S 18 0 w) hp (show 0 ≤ gI S 66 ∧ gI S 66 ≤ 4 by omega) hM).trans (if_pos (show 0 < gI S 66 ∧ 0 ≤ xa q (x0 + 1) ∧ xa q (x0 + 1) < gI S 52 by omega))
    obtain ⟨-, -, -, -, -, -, -, -, -, -, -, -, -, -, -, -, -, -, -, -, -, hpp⟩ := h5
    rcases hpp (xa q (x0 + 1)).toNat (by omega) with ⟨u1, u2, u3⟩ | ⟨u1, u2, u3, u4⟩
    · rw [if_pos (by rw [u1]; rfl)] at hc
      have hm := fun w => (hm w).trans (if_pos (show yr (gA S 59 (8 + (xa q (x0 + 1)).toNat)) = -1 by rw [u2]; rfl))
      exact k20_ok hL h0 h6 hop hc (hm _) rfl u3.symm (yJ_thr (yJ_out hI)) (by omega) (by omega)
    · rw [if_neg (by rw [u1]; decide)] at hc
      have hm := fun w => (hm w).trans (if_neg (show ¬ yr (gA S 59 (8 + (xa q (x0 + 1)).toNat)) = -1 by rw [u2, yr_eq] <;> omega))
      exact k20_ok hL h0 h6 hop hc (hm _) rfl (congrArg yi2l u2.symm) (yJ_thr (yJ_out hI)) (by omega) (by omega)
  · rw [if_neg a] at hc
    have hm := (r310 (q := q) (d := d + 398) (js := js ++ [yexc 16]) (S := S) hp (by omega) hM).trans (if_neg (by
      intro z
      have h5 := n5 (by omega)
      omega))
    exact k20_16 hL h0 h6 hop hc hm rfl (yJ_thr hI) (len_1 _ _) (xsum_1 _ _)
theorem oj21 : yCall yJ 21 := by
  intro q S js x0 d y1 y2 y3 y4 hL h0 h6 hop hI
  obtain ⟨⟨hTp, hTb, hCd, hPg, hRs, hRn⟩, hPr⟩ := id hI
  have hp := xa_rng q (x0 + 1)
  obtain ⟨n1, n2, n3, n4, n5⟩ := id hRn.1
  have hN : 0 < gI S 30 → 0 ≤ gI S 24 ∧ gI S 24 ≤ 3 := fun z => by have := n5 (by omega); omega
  have hM : 0 < gI S 66 → 0 ≤ gI S 57 ∧ gI S 57 ≤ 3 := fun z => by have := n5 (by omega); omega
  have hc := c182 (q := q) (d := d + 398) (js := js) (S := S) hp ⟨n2, n3⟩ hN
  by_cases a : 0 < gI S 30 ∧ 0 ≤ xa q (x0 + 1) ∧ xa q (x0 + 1) < gI S 24
  · rw [if_pos a] at hc
    have h5 := n5 a.1
    have hm := fun w => (r311 (q := q) (d := d + 398) (js := js) (S := sB S 18 0 w) hp (show 0 ≤ gI S 66 ∧ gI S 66 ≤ 4 by omega) hM).trans (if_pos (show 0 < gI S 66 ∧ 0 ≤ xa q (x0 + 1) ∧ xa q (x0 + 1) < gI S 57 by omega))
    refine k21_ok hL h0 h6 hop hc (hm _) rfl (congrArg yi2l ?_) (yJ_thr (yJ_out hI)) (by omega) (by omega)
    obtain ⟨-, -, -, -, -, -, -, -, -, -, -, -, -, -, -, -, -, -, -, -, hpp, -⟩ := h5
    exact (hpp _ (by omega)).symm
  · rw [if_neg a] at hc
    have hm := (r311 (q := q) (d := d + 398) (js := js ++ [yexc 16]) (S := S) hp (by omega) hM).trans (if_neg (by
      intro z
      have h5 := n5 (by omega)
      omega))
    exact k21_16 hL h0 h6 hop hc hm rfl (yJ_thr (yJ_thr hI)) (len_1 _ _) (xsum_1 _ _)
theorem oj22 : yCall yJ 22 := by
  intro q S js x0 d y1 y2 y3 y4 hL h0 h6 hop hI
  obtain ⟨⟨hTp, hTb, hCd, hPg, hRs, hRn⟩, hPr⟩ := id hI
  obtain ⟨n1, n2, n3, n4, n5⟩ := id hRn.1
  by_cases z : gI S 30 = 0
  · have h9 := n4 z
    have hN : gI S 29 * gI S 27 * gI S 28 = ((0 : Nat) : Int) := by rw [h9.2.1, Int.zero_mul, Int.zero_mul]; rfl
    have hc := c164 (q := q) (d := d + 398) (js := js) hN (by omega)
    have hm := r312 (q := q) (d := d + 399) (js := js) (S := S) (N := 0) (by rw [n1, if_pos z]; rfl) (by omega) (by omega)
    exact k22_ok hL h0 h6 hop hc hm rfl (yJ_thr hI) (by omega) (by omega)
  · have h9 := n5 (by omega)
    have h8 := hPg.2.2.2 h9.1
    obtain ⟨-, a1, a2, -, -, -, a3, a4, a5, a6, -, -, -, -, -, -, -, -, hpp, -⟩ := h9
    have hr : gI S 29 * gI S 28 * gI S 27 ≤ 72000 := by
      have b1 : gI S 29 * gI S 28 ≤ 30 * 40 := Int.mul_le_mul a6 (by omega) (by omega) (by omega)
      have b2 : gI S 29 * gI S 28 * gI S 27 ≤ 1200 * 60 := Int.mul_le_mul b1 (by omega) (by omega) (by omega)
      omega
    have hr0 : 0 ≤ gI S 29 * gI S 28 * gI S 27 := Int.mul_nonneg (Int.mul_nonneg a5 (by omega)) (by omega)
    have hN : gI S 29 * gI S 27 * gI S 28 = ((gI S 29 * gI S 28 * gI S 27).toNat : Int) := by
      rw [Int.mul_right_comm]
      omega
    have hc := c164 (q := q) (d := d + 398) (js := js) hN (by omega)
    have hm := r312 (q := q) (d := d + 399) (js := js) (S := S) (N := (gI S 29 * gI S 28 * gI S 27).toNat) (by
      have e1 : gI S 68 = gI S 29 := a2
      have e2 : gI S 55 = gI S 28 := by omega
      have e3 : gI S 54 = gI S 27 := by omega
      rw [n1, if_neg z, e1, e2, e3]
      omega) (by omega) (by omega)
    refine k22_ok hL h0 h6 hop hc hm ?_ (yJ_thr hI) (by omega) (by omega)
    unfold yshare
    split
    · rfl
    · rw [ynb_cg (f := gA S 33) (g := gA S 64) fun k k1 k2 => (hpp k (by omega)).symm]
theorem oj23 : yCall yJ 23 := by
  intro q S js x0 d y1 y2 y3 y4 hL h0 h6 hop hI
  obtain ⟨⟨hTp, hTb, hCd, hPg, hRs, hRn⟩, hPr⟩ := id hI
  obtain ⟨p1, p2, p3, p4⟩ := id hTp
  obtain ⟨t1, t2, t3, t4, t5, t6, t7, t8, t9⟩ := id hTb
  obtain ⟨u1, u2, u3, u4⟩ := id hCd
  obtain ⟨n1, n2, n3, n4, n5⟩ := id hRn.1
  have hnr := nrow_le (c := gI S 10) (n := gI S 11) ⟨t2, t3⟩ ⟨t5, t6⟩
  -- the sizes
  obtain ⟨P, hP⟩ : ∃ P : Nat, gI S 29 = P := ⟨(gI S 29).toNat, by by_cases z : gI S 30 = 0; · have := n4 z; omega
                                                                  · have := n5 (by omega); omega⟩
  obtain ⟨h, hh⟩ : ∃ h : Nat, h ≤ 40 ∧ (0 < gI S 30 → gI S 28 = h) := ⟨if gI S 30 = 0 then 0 else (gI S 28).toNat, by
    by_cases z : gI S 30 = 0
    · rw [if_pos z]; exact ⟨by omega, fun z' => by omega⟩
    · have h5 := n5 (by omega); have h9 := hPg.2.2.2 h5.1; rw [if_neg z]; exact ⟨by omega, fun _ => by omega⟩⟩
  obtain ⟨w, hw⟩ : ∃ w : Nat, (1 ≤ w ∧ w ≤ 60) ∧ (0 < gI S 30 → gI S 27 = w) := ⟨if gI S 30 = 0 then 1 else (gI S 27).toNat, by
    by_cases z : gI S 30 = 0
    · rw [if_pos z]; exact ⟨by omega, fun z' => by omega⟩
    · have h5 := n5 (by omega); have h9 := hPg.2.2.2 h5.1; rw [if_neg z]; exact ⟨by omega, fun _ => by omega⟩⟩
  obtain ⟨C, hC⟩ : ∃ C : Nat, gI S 10 = C := ⟨(gI S 10).toNat, by omega⟩
  obtain ⟨N, hN⟩ : ∃ N : Nat, gI S 0 = N := ⟨(gI S 0).toNat, by omega⟩
  obtain ⟨R, hR⟩ : ∃ R : Nat, nrow (gI S 10) (gI S 11) = R := ⟨(nrow (gI S 10) (gI S 11)).toNat, by omega⟩
  have bP : P ≤ 30 ∧ (0 < P → 0 < gI S 30) := by
    by_cases z : gI S 30 = 0
    · have := n4 z; omega
    · have := n5 (by omega); omega
  have bRC : R * C ≤ (gI S 11).toNat := by
    have := nrow_mul (c := gI S 10) (n := gI S 11) t2 t5
    rw [hR, hC, ← Int.natCast_mul] at this
    omega
  have hc := c165w (q := q) (d := d + 396) (js := js) hC (by omega) ⟨t5, t6⟩ hR (by omega) hN (by omega) hP (fun z => hh.2 (bP.2 z)) (fun z => hw.2 (bP.2 z)) bP.1 hh.1 hw.1
  have hm : Y q (d + 399) 313 0 [vr 129, vu, vu, vu, vu] [] S js = _ := (w313_0 q (d + 399) js S).trans (r313w (q := q) (d := d + 397) (js := js) (S := sI S 39 0) (P := P) (h := h) (w := w) (R := R) (C := C) (N := N) (show gI S 41 = C by omega) (by omega) (show 0 ≤ gI S 42 ∧ gI S 42 ≤ 40 * gI S 41 by omega) (show nrow (gI S 41) (gI S 42) = R by rw [t1, t4]; exact hR) (by omega) (show gI S 4 = N by omega) (by omega) (show 0 ≤ gI S 66 ∧ gI S 66 ≤ 4 by omega) (fun z => by have z : gI S 66 = 0 := z; have := n4 (by omega); omega) (fun z => by have z : 0 < gI S 66 := z; have := n5 (by omega); show gI S 68 = P; omega) (fun z => by have z : 0 < gI S 66 := z; have h5 := n5 (by omega); have h9 := hPg.2.2.2 h5.1; have := hh.2 (by omega); show gI S 55 = h; omega) (fun z => by have z : 0 < gI S 66 := z; have h5 := n5 (by omega); have h9 := hPg.2.2.2 h5.1; have := hw.2 (by omega); show gI S 54 = w; omega) bP.1 hh.1 hw.1)
  refine k23_ok hL h0 h6 hop hc hm ?_ (yJ_thr hI) (by omega) (by omega)
  show ydg (gI S 41) R (gI S 40) (gB S 12) (R * C) (gI S 4) (gA S 6) (gB S 2) N (fun s => if gI S 66 = 0 then ytd 0 0 0 0 0 s else ytd (gI S 67) (gI S 68) (gI S 69) (gI S 70) (gI S 71) s) (gA S 64) w (P * h) = _
  unfold ydg
  rw [t1, p1, u1]
  have e1 : ∀ s, yfl (gB S 12) 0 (R * C) s = yfl (gB S 7) 0 (R * C) s := fun s => yfl_cg fun k k1 k2 => t8 k (by omega)
  have e2 : ∀ s, yfc (gA S 6) (gB S 2) 0 N s = yfc (gA S 0) (gB S 0) 0 N s := fun s => yfc_cg fun k k1 k2 => u4 k (by omega)
  have e3 : ∀ s, (if gI S 66 = 0 then ytd 0 0 0 0 0 s else ytd (gI S 67) (gI S 68) (gI S 69) (gI S 70) (gI S 71) s) = ytd (gI S 31) (gI S 29) (gI S 32) (gI S 33) (gI S 34) s := by
    intro s
    rw [n1]
    by_cases z : gI S 30 = 0
    · obtain ⟨z1, z2, z3, z4, z5⟩ := n4 z
      rw [if_pos z, z1, z2, z3, z4, z5]
    · obtain ⟨-, z1, z2, z3, z4, z5, -⟩ := n5 (by omega)
      rw [if_neg z, z1, z2, z3, z4, z5]
  rw [e1, e2]
  simp only [e3]
  refine yfl_cg fun L l1 l2 => ?_
  unfold ylin
  refine yls_cg fun k k1 k2 => ?_
  have hp0 : 0 < P := by
    by_cases z : P = 0
    · rw [z, Nat.zero_mul] at l2; omega
    · omega
  obtain ⟨-, -, -, -, -, -, -, -, -, -, -, -, -, -, -, -, -, -, hpp, -⟩ := n5 (bP.2 hp0)
  refine hpp k ?_
  rw [hP, hh.2 (bP.2 hp0), hw.2 (bP.2 hp0), ← Int.natCast_mul, ← Int.natCast_mul]
  have l3 : L + 1 ≤ P * h := by omega
  have l4 : (L + 1) * w ≤ P * h * w := Nat.mul_le_mul_right w l3
  rw [Nat.add_mul, Nat.one_mul] at l4
  omega
theorem oj11 : yCall yJ 11 := by
  intro q S js x0 d y1 y2 y3 y4 hL h0 h6 hop hI
  obtain ⟨⟨hTp, hTb, hCd, hPg, hRs, hRn⟩, hPr⟩ := id hI
  obtain ⟨p1, p2, p3, p4⟩ := id hTp
  obtain ⟨t1, t2, t3, t4, t5, t6, t7, t8, t9⟩ := id hTb
  obtain ⟨hn, hkw, z1, z2, z3, z4, z5, z6, z7, z8⟩ := id hRn
  have hx := xa_rng q (x0 + 1)
  have h40n := nrow_le (c := gI S 10) (n := gI S 11) ⟨t2, t3⟩ ⟨t5, t6⟩
  have enr : nrow (gI S 41) (gI S 42) = nrow (gI S 10) (gI S 11) := by rw [t1, t4]
  by_cases ok : -1 ≤ xa q (x0 + 1) ∧ xa q (x0 + 1) < nrow (gI S 10) (gI S 11)
  · obtain ⟨n, hn12⟩ : ∃ n : Nat, gI S 12 = n := ⟨(gI S 12).toNat, by omega⟩
    obtain ⟨c, hc10⟩ : ∃ c : Nat, gI S 10 = c := ⟨(gI S 10).toNat, by omega⟩
    have hcT : ∀ k, k < c → gA S 20 k = gA S 20 k ∧ (gA S 20 k = 0 ∨ (gA S 20 k = 1 ∧ yOkN (if xa q (x0 + 1) < 0 then (0 : Int64) else gB S 7 (xa q (x0 + 1) * c + k).toNat).toBitVec.toNat)) ∧ (if xa q (x0 + 1) < 0 then (0 : Int64) else gB S 7 (xa q (x0 + 1) * c + k).toNat) = if xa q (x0 + 1) < 0 then (0 : Int64) else gB S 7 (xa q (x0 + 1) * c + k).toNat := fun k hk => by
      refine ⟨rfl, ?_, rfl⟩
      rcases (t7 k (by omega)).2.2 with z | z
      · exact Or.inl z
      · exact Or.inr ⟨z, iTb_ok hTb hc10 hk ok.2 z⟩
    obtain ⟨S1, a, a1, a2, a3, a4, a5, a6, a7⟩ := c173 (q := q) (js := js) (S := S) (e := d + 226) (row := xa q (x0 + 1)) (n := n) (c := c) (t := gA S 20) (w := fun k => if xa q (x0 + 1) < 0 then (0 : Int64) else gB S 7 (xa q (x0 + 1) * c + k).toNat) hn12 (by omega) hc10 (by omega) (by omega) z1 z2 z8 (fun i _ => tb_rng S i) ok (by omega) hcT
    -- the reference
    obtain ⟨S0', hS0'⟩ : ∃ S0', S0' = sB S1 18 0 (yi2l a) := ⟨_, rfl⟩
    have gi0 : ∀ k, yWe 0 k = false → gI S0' k = gI S k := fun k hk => by rw [hS0']; exact a2.1 k hk
    have ga0 : ∀ k, yWe 3 k = false → gA S0' k = gA S k := fun k hk => by rw [hS0']; exact a2.2.2.2.1 k hk
    have gb0 : ∀ k, k ≠ 18 → yWe 4 k = false → gB S0' k = gB S k := fun k h18 hk => by
      rw [hS0', gB_ne _ _ _ _ h18]
      exact a2.2.2.2.2.1 k hk
    have no0 : rNo S0' := by
      unfold rNo
      rw [gi0 41 rfl, gi0 51 rfl, gi0 52 rfl, ga0 38 rfl, ga0 42 rfl, ga0 44 rfl, t1]
      exact ⟨⟨t2, t3⟩, z3, z4, fun i hi => by rw [(t7 i hi).2.1]; exact (t7 i hi).2.2, z5, z6⟩
    have nmE : ynmR S0' 2 = ynmS S 0 := by
      rw [← ynm_SR hTb]
      funext v
      unfold ynmR
      rw [gi0 41 rfl, gi0 51 rfl, gi0 52 rfl, ga0 38 rfl, ga0 42 rfl, ga0 44 rfl, gb0 11 (by decide) rfl, gb0 14 (by decide) rfl, gb0 15 (by decide) rfl]
    obtain ⟨S2, b, js2, b1, b2, b3, b4, b5, b6, b7⟩ := r257 (q := q) (js := js) (S := S0') (e := d + 277) (row := xa q (x0 + 1)) (n := n) (c := c) (b := tb S) (t := gA S 20) (w := fun k => if xa q (x0 + 1) < 0 then (0 : Int64) else gB S 7 (xa q (x0 + 1) * c + k).toNat) (tx := ytxb S) (nm := ynmS S 0) (by rw [gi0 40 rfl]; omega) (by omega) (fun j hj => by rw [ga0 37 rfl]; exact ⟨p4 j (by omega), tb_rng S j⟩) (fun j hj => by rw [gb0 10 (by decide) rfl]; exact hkw j hj) (by rw [gi0 41 rfl]; omega) (by omega) (by rw [gi0 42 rfl]; omega) no0 (by rw [gi0 41 rfl, gi0 42 rfl, enr]; exact ok) (by omega) (fun k hk => by
      rw [ga0 38 rfl, gb0 12 (by decide) rfl]
      refine ⟨(t7 k (by omega)).2.1, (hcT k hk).2.1, ?_⟩
      by_cases z : xa q (x0 + 1) < 0
      · rw [if_pos z, if_pos z]
      · rw [if_neg z, if_neg z]
        obtain ⟨i1, i2⟩ := iTb_in hc10 t5 hk (by omega) ok.2
        exact (t8 _ (by omega)).symm) (ytxb_len S) (fun p m hp i y hi => (ytxb_at hn12 hp hi).2) nmE (ynm_0 hc10 (by omega) (fun k hk => ⟨rfl, (t7 k (by omega)).2.2⟩))
    -- what both have left as it was
    have gi : ∀ k, yWe 0 k = false → yWu 0 k = false → gI S2 k = gI S k := fun k h1 h2 => (b2.1 k h2).trans (gi0 k h1)
    have ga : ∀ k, yWe 3 k = false → yWu 3 k = false → gA S2 k = gA S k := fun k h1 h2 => (b2.2.2.2.1 k h2).trans (ga0 k h1)
    have gb : ∀ k, k ≠ 18 → yWe 4 k = false → yWu 4 k = false → gB S2 k = gB S k := fun k h18 h1 h2 => (b2.2.2.2.2.1 k h2).trans (gb0 k h18 h1)
    have s18 : gI S2 18 = gI S1 18 := by rw [b2.1 18 rfl, hS0']; rfl
    have s30 : gA S2 30 = gA S1 30 := by rw [b2.2.2.2.1 30 rfl, hS0']; rfl
    have s31 : gA S2 31 = gA S1 31 := by rw [b2.2.2.2.1 31 rfl, hS0']; rfl
    have s32 : gA S2 32 = gA S1 32 := by rw [b2.2.2.2.1 32 rfl, hS0']; rfl
    have s9 : gB S2 9 = gB S1 9 := by
      rw [b2.2.2.2.2.1 9 rfl, hS0', gB_ne _ _ _ _ (by decide)]
    have s12 : gI S2 12 = 0 := by rw [b2.1 12 rfl, hS0']; exact a3
    have s5 : gA S2 5 0 = 0 := by rw [b2.2.2.2.1 5 rfl, hS0']; exact a4
    have sb : gB S2 18 0 = yi2l a := by
      rw [b2.2.2.2.2.1 18 rfl, hS0', gB_self, if_pos rfl]
    -- the answers
    have ans : yi2l a = yi2l b ∧ yr (gI S2 59) = yr (gI S2 18) ∧ iRs S2 := by
      unfold iRs
      rw [s18, s30, s31, s32, s9]
      revert a7 b7
      generalize yevo (yTf (ytq (tb S) n)) (yexp (yTf (ytq (tb S) n)) (ytxb S) (ynmS S 0) false yOO 12 0 0 0 100) (yen (gA S 20) (fun k => if xa q (x0 + 1) < 0 then (0 : Int64) else gB S 7 (xa q (x0 + 1) * c + k).toNat)) = o
      intro a7 b7
      match o, a7, b7 with
      | .inr (m, p), a7, b7 =>
        obtain ⟨u1, u2, u3⟩ := a7
        obtain ⟨v1, v2, v3, v4⟩ := b7
        rw [u1, v1, yi2l_yr, v2, u2, yr_yr]
        exact ⟨rfl, rfl, Or.inl ⟨u3.1, v3, by rw [v4, u3.2.1], u3.2.2⟩⟩
      | .inl none, a7, b7 =>
        obtain ⟨u1, u2, u3⟩ := a7
        obtain ⟨v1, v2, v3, v4⟩ := b7
        rw [u1, v1, v2, u2]
        exact ⟨rfl, rfl, Or.inl ⟨u3.1, v3, by rw [v4, u3.2.1], u3.2.2⟩⟩
      | .inl (some (.inl y)), a7, b7 =>
        obtain ⟨u1, u2, u3⟩ := a7
        obtain ⟨v1, v2, v3, v4⟩ := b7
        rw [u1, v1, v2, u2]
        exact ⟨rfl, rfl, Or.inl ⟨u3.1, v3, by rw [v4, u3.2.1], u3.2.2⟩⟩
      | .inl (some (.inr l)), a7, b7 =>
        obtain ⟨u1, u2, u3⟩ := a7
        obtain ⟨v1, v2, v3, v4, v5, v6⟩ := b7
        rw [u1, v1, v2, u2]
        refine ⟨rfl, rfl, Or.inr ⟨u3.1, by rw [v3, u3.2.1], by rw [u3.2.1]; omega, by rw [u3.2.1]; omega, by rw [v4, u3.2.1], fun i hi => ?_⟩⟩
        rw [u3.2.1] at hi
        have hil : i < l.length := by omega
        have w := u3.2.2.2 i _ (List.getElem?_eq_getElem hil)
        rw [v6 i _ (List.getElem?_eq_getElem hil), show 1620 + i = 60 * 27 + i by omega, w.1]
        exact ⟨rfl, w.2⟩
    obtain ⟨w1, w2, w3⟩ := ans
    have b1' : Y q (d + 399) 257 0 [vr 129, vi (xa q (x0 + 1)), vu, vu] [] (sB S1 18 0 (yi2l a)) js = yret q (vi b) S2 js2 := by rw [← hS0']; exact b1
    refine k11_ok hL h0 h6 hop a1 b1' b3 (by rw [sb]; exact w1) ⟨⟨?_, ?_, ?_, ?_, w3, ?_, ?_, ?_⟩, ?_⟩ b5 b6
    · unfold iTp
      rw [b4, s12]
      exact ⟨rfl, by omega, by omega, fun i hi => by omega⟩
    · unfold iTb
      rw [gi 41 rfl rfl, gi 10 rfl rfl, gi 42 rfl rfl, gi 11 rfl rfl, gb 11 (by decide) rfl rfl, gb 6 (by decide) rfl rfl, ga 38 rfl rfl, ga 20 rfl rfl, gb 12 (by decide) rfl rfl, gb 7 (by decide) rfl rfl]
      exact hTb
    · unfold iCd
      rw [gi 4 rfl rfl, gi 0 rfl rfl, ga 6 rfl rfl, ga 0 rfl rfl, gb 2 (by decide) rfl rfl, gb 0 (by decide) rfl rfl]
      exact hCd
    · unfold iPg
      rw [gi 48 rfl rfl, gi 19 rfl rfl, gi 54 rfl rfl, gi 21 rfl rfl, gi 55 rfl rfl, gi 22 rfl rfl]
      exact ⟨w2, hPg.2⟩
    · -- the latest run
      obtain ⟨m1, m2, m3, m4, m5⟩ := hn
      unfold iRn
      rw [gi 66 rfl rfl, gi 30 rfl rfl, gi 31 rfl rfl, gi 29 rfl rfl, gi 32 rfl rfl, gi 33 rfl rfl, gi 34 rfl rfl, gi 19 rfl rfl, gi 67 rfl rfl, gi 68 rfl rfl, gi 69 rfl rfl, gi 70 rfl rfl, gi 71 rfl rfl, gi 27 rfl rfl, gi 21 rfl rfl, gi 28 rfl rfl, gi 22 rfl rfl, gi 52 rfl rfl, gi 9 rfl rfl, gi 57 rfl rfl, gi 24 rfl rfl, ga 64 rfl rfl, ga 33 rfl rfl, ga 61 rfl rfl, ga 34 rfl rfl, ga 62 rfl rfl, ga 35 rfl rfl, ga 59 rfl rfl, gb 17 (by decide) rfl rfl]
      refine ⟨m1, m2, m3, m4, fun hr => ?_⟩
      obtain ⟨k1, k2, k3, k4, k5, k6, k7, k8, k9, k10, k11, k12, k13, k14, k15, k16, k17, k18, k19, k20, k21, k22⟩ := m5 hr
      refine ⟨k1, k2, k3, k4, k5, k6, k7, k8, k9, k10, k11, k12, k13, k14, k15, k16, k17, k18, k19, k20, k21, fun i hi => ?_⟩
      have hi8 : 16 + i < 24 := by have := z2.2; omega
      obtain ⟨r1, r2, r3⟩ := a5 (16 + i) (by omega) hi8
      rw [s30, s31, s9, r1, r2, r3]
      exact k22 i hi
    · rw [gb 10 (by decide) rfl rfl]
      exact hkw
    · unfold iZ
      rw [gi 8 rfl rfl, gi 9 rfl rfl, gi 51 rfl rfl, gi 52 rfl rfl, ga 42 rfl rfl, ga 44 rfl rfl, ga 4 rfl rfl]
      exact ⟨z1, z2, z3, z4, z5, z6, z7, s5⟩
    · -- the program
      have gc : ∀ k, yWe 5 k = false → yWu 5 k = false → gC S2 k = gC S k := fun k h1 h2 => (b2.2.2.2.2.2 k h2).trans (by rw [hS0']; exact a2.2.2.2.2.2 k h1)
      unfold iPr iPq cRg cGr cVl vPg vO vG cDe vIt cBn cK cX rVl rPg rOs rGs rD1 rD2 rPl rBn rK rX
      have egI19 : gI S2 19 = gI S 19 := gi 19 rfl rfl
      have egI10 : gI S2 10 = gI S 10 := gi 10 rfl rfl
      have egI8 : gI S2 8 = gI S 8 := gi 8 rfl rfl
      have egI9 : gI S2 9 = gI S 9 := gi 9 rfl rfl
      have egI20 : gI S2 20 = gI S 20 := gi 20 rfl rfl
      have egI21 : gI S2 21 = gI S 21 := gi 21 rfl rfl
      have egI22 : gI S2 22 = gI S 22 := gi 22 rfl rfl
      have egI23 : gI S2 23 = gI S 23 := gi 23 rfl rfl
      have egI24 : gI S2 24 = gI S 24 := gi 24 rfl rfl
      have egI25 : gI S2 25 = gI S 25 := gi 25 rfl rfl
      have egI0 : gI S2 0 = gI S 0 := gi 0 rfl rfl
      have egI2 : gI S2 2 = gI S 2 := gi 2 rfl rfl
      have egI51 : gI S2 51 = gI S 51 := gi 51 rfl rfl
      have egI52 : gI S2 52 = gI S 52 := gi 52 rfl rfl
      have egI53 : gI S2 53 = gI S 53 := gi 53 rfl rfl
      have egI54 : gI S2 54 = gI S 54 := gi 54 rfl rfl
      have egI55 : gI S2 55 = gI S 55 := gi 55 rfl rfl
      have egI56 : gI S2 56 = gI S 56 := gi 56 rfl rfl
      have egI57 : gI S2 57 = gI S 57 := gi 57 rfl rfl
      have egI58 : gI S2 58 = gI S 58 := gi 58 rfl rfl
      have egI4 : gI S2 4 = gI S 4 := gi 4 rfl rfl
      have egI6 : gI S2 6 = gI S 6 := gi 6 rfl rfl
      have egI60 : gI S2 60 = gI S 60 := gi 60 rfl rfl
      have egI61 : gI S2 61 = gI S 61 := gi 61 rfl rfl
      have egA20 : gA S2 20 = gA S 20 := ga 20 rfl rfl
      have egA8 : gA S2 8 = gA S 8 := ga 8 rfl rfl
      have egA25 : gA S2 25 = gA S 25 := ga 25 rfl rfl
      have egA26 : gA S2 26 = gA S 26 := ga 26 rfl rfl
      have egA29 : gA S2 29 = gA S 29 := ga 29 rfl rfl
      have egA14 : gA S2 14 = gA S 14 := ga 14 rfl rfl
      have egA15 : gA S2 15 = gA S 15 := ga 15 rfl rfl
      have egA16 : gA S2 16 = gA S 16 := ga 16 rfl rfl
      have egA17 : gA S2 17 = gA S 17 := ga 17 rfl rfl
      have egA18 : gA S2 18 = gA S 18 := ga 18 rfl rfl
      have egA19 : gA S2 19 = gA S 19 := ga 19 rfl rfl
      have egA23 : gA S2 23 = gA S 23 := ga 23 rfl rfl
      have egA24 : gA S2 24 = gA S 24 := ga 24 rfl rfl
      have egA27 : gA S2 27 = gA S 27 := ga 27 rfl rfl
      have egA28 : gA S2 28 = gA S 28 := ga 28 rfl rfl
      have egA0 : gA S2 0 = gA S 0 := ga 0 rfl rfl
      have egA2 : gA S2 2 = gA S 2 := ga 2 rfl rfl
      have egA4 : gA S2 4 = gA S 4 := ga 4 rfl rfl
      have egA42 : gA S2 42 = gA S 42 := ga 42 rfl rfl
      have egA43 : gA S2 43 = gA S 43 := ga 43 rfl rfl
      have egA44 : gA S2 44 = gA S 44 := ga 44 rfl rfl
      have egA45 : gA S2 45 = gA S 45 := ga 45 rfl rfl
      have egA46 : gA S2 46 = gA S 46 := ga 46 rfl rfl
      have egA47 : gA S2 47 = gA S 47 := ga 47 rfl rfl
      have egA48 : gA S2 48 = gA S 48 := ga 48 rfl rfl
      have egA49 : gA S2 49 = gA S 49 := ga 49 rfl rfl
      have egA50 : gA S2 50 = gA S 50 := ga 50 rfl rfl
      have egA51 : gA S2 51 = gA S 51 := ga 51 rfl rfl
      have egA52 : gA S2 52 = gA S 52 := ga 52 rfl rfl
      have egA53 : gA S2 53 = gA S 53 := ga 53 rfl rfl
      have egA54 : gA S2 54 = gA S 54 := ga 54 rfl rfl
      have egA55 : gA S2 55 = gA S 55 := ga 55 rfl rfl
      have egA6 : gA S2 6 = gA S 6 := ga 6 rfl rfl
      have egA10 : gA S2 10 = gA S 10 := ga 10 rfl rfl
      have egA12 : gA S2 12 = gA S 12 := ga 12 rfl rfl
      have egB4 : gB S2 4 = gB S 4 := gb 4 (by decide) rfl rfl
      have egB5 : gB S2 5 = gB S 5 := gb 5 (by decide) rfl rfl
      have egB0 : gB S2 0 = gB S 0 := gb 0 (by decide) rfl rfl
      have egB14 : gB S2 14 = gB S 14 := gb 14 (by decide) rfl rfl
      have egB15 : gB S2 15 = gB S 15 := gb 15 (by decide) rfl rfl
      have egB2 : gB S2 2 = gB S 2 := gb 2 (by decide) rfl rfl
      have egC0 : gC S2 0 = gC S 0 := gc 0 rfl rfl
      have egC1 : gC S2 1 = gC S 1 := gc 1 rfl rfl
      have egC3 : gC S2 3 = gC S 3 := gc 3 rfl rfl
      simp only [Nat.add_zero, Nat.reduceAdd, egI19, egI10, egI8, egI9, egI20, egI21, egI22, egI23, egI24, egI25, egI0, egI2, egI51, egI52, egI53, egI54, egI55, egI56, egI57, egI58, egI4, egI6, egI60, egI61, egA20, egA8, egA25, egA26, egA29, egA14, egA15, egA16, egA17, egA18, egA19, egA23, egA24, egA27, egA28, egA0, egA2, egA4, egA42, egA43, egA44, egA45, egA46, egA47, egA48, egA49, egA50, egA51, egA52, egA53, egA54, egA55, egA6, egA10, egA12, egB4, egB5, egB0, egB14, egB15, egB2, egC0, egC1, egC3]
      unfold iPr iPq cRg cGr cVl vPg vO vG cDe vIt cBn cK cX rVl rPg rOs rGs rD1 rD2 rPl rBn rK rX at hPr
      simp only [Nat.add_zero, Nat.reduceAdd] at hPr
      exact hPr
  · have er := yr_eq hx.1 hx.2
    have em : yr (-1) = -1 := rfl
    have hnr : yr (nrow (gI S 10) (gI S 11)) = nrow (gI S 10) (gI S 11) := yr_eq (by omega) (by omega)
    have hc : Y q (d + 398) 173 0 [vr 75, vi (xa q (x0 + 1))] [] S js = ythr q (yexc 16) S js := by
      rw [w173_0, er, em]
      by_cases z : xa q (x0 + 1) < -1
      · rw [if_pos z]
      · rw [if_neg z, c131 ⟨t2, t3⟩ (by omega), YB_ret, w173_13, er, hnr, if_neg (by omega)]
    have hm := r257a (q := q) (js := js ++ [yexc 16]) (S := S) (e := d + 277) (row := xa q (x0 + 1)) (by omega) (by omega) hx
    rw [enr, if_neg ok] at hm
    exact k11_16 hL h0 h6 hop hc hm rfl (yJ_thr (yJ_thr hI)) (len_1 _ _) (xsum_1 _ _)
theorem yJ_0 {S : yS} (h : yfr S = true) : yJ S := ⟨yI_0 h, fun z => by
  have i19 : gI S 19 = 0 := yfr_I h 19 (by decide)
  omega⟩
/-- what is left: one call -/
theorem x_lef2 (h14 : yCall yJ 14) : xPure := by
  refine x_top (I := yJ) (fun S h => yJ_0 h) fun c hc => ?_
  match c, hc with
  | 0, _ => exact oj0
  | 1, _ => exact oj1
  | 2, _ => exact oj2
  | 3, _ => exact oj3
  | 4, _ => exact oj4
  | 5, _ => exact oj5
  | 6, _ => exact oj6
  | 7, _ => exact oj7
  | 8, _ => exact oj8
  | 9, _ => exact oj9
  | 10, _ => exact oj10
  | 11, _ => exact oj11
  | 12, _ => exact oj12
  | 13, _ => exact oj13
  | 14, _ => exact h14
  | 15, _ => exact oj15
  | 16, _ => exact oj16
  | 17, _ => exact oj17
  | 18, _ => exact oj18
  | 19, _ => exact oj19
  | 20, _ => exact oj20
  | 21, _ => exact oj21
  | 22, _ => exact oj22
  | 23, _ => exact oj23
  | n + 24, h => exact absurd h (by omega)
end YSS
