/-! RUN: a run begins, on both sides -/
section YUN
section YUNL
variable {q : yQ} {d d' : Nat} {js ks : List xO} {S0 : yS} {t : Nat} {V : yPV} {a : Int} {n : Nat} {S T : yS}
/-- how many lines a band has -/
theorem kht (h : iPq S0 t V a S) {j : Nat} (hj : j < 11) : Y q (d + 2) 107 0 [vr 85, vi j, vu, vu, vu, vu] [] S js = yret q (vi (sht V j)) S js := by
  have hg := h.2.2.2.2
  have kb := kband (q := q) (js := js) (d := d) h hg hj
  have hR := h.2.2.1.1
  have hI := h.2.2.1.2.1.2.2.2.2.2.1
  have l2 : (zI V).length ≤ 2000 := by
    have h25 := hR.2.2.2.2.2.2.2.1
    have e25 := hI.1
    omega
  have fin : cFb V j ≤ 2000 ∧ cEb V j ≤ 2000 ∧ shtl (zI V) 2000 (cFb V j) (cEb V j) 0 = sht V j := by
    unfold cFb cEb sht
    cases hz : zB V j with
    | none =>
      refine ⟨by show 0 ≤ 2000; omega, by show 0 ≤ 2000; omega, ?_⟩
      show shtl (zI V) (1999 + 1) 0 0 0 = 0
      unfold shtl
      rw [if_neg (by omega)]
    | some y =>
      obtain ⟨i, b0⟩ := y
      obtain ⟨x, z, b, k1, k2, k3, k4, k5, k6⟩ := hg.2.2.2.2.2 j i b0 hz
      have hl := (List.getElem?_eq_some_iff.mp k1).1
      refine ⟨by show i + 1 ≤ 2000; omega, ?_, rfl⟩
      show ((zI V).getD i dIe).2.2.2 ≤ 2000
      rw [getD_of k1]
      omega
  have lp := c107l (q := q) (d := d + 2) (js := js) (x0 := (j : Int)) hR fin.2.1 2000 0 (cFb V j) 0 (by omega) fin.1
  have lp : Y q (d + 2) 107 18 [vr 85, vi j, vi 0, vi (cFb V j : Nat), vi (cEb V j : Nat), vi 0] [] S js = yret q (vi (yht S 2000 (cFb V j) (cEb V j) 0)) S js := lp
  rw [yht_s hI, fin.2.2] at lp
  rw [w107_0, kb.1, YB_ret, w107_7, kb.2, YB_ret, w107_13, lp]
theorem ylt_e {A A' : yS} (h10 : gI A' 10 = gI A 10) (h20 : gA A' 20 = gA A 20) (h7 : gB A' 7 = gB A 7) {O : List (Nat × Nat)} : ylt A' O = ylt A O := by
  funext r s
  unfold ylt
  have : ycc A' r s = ycc A r s := by
    funext k
    exact ycc_e h10 h20 h7
  rw [this]
theorem ybgn (hl : (ytq (tb S0) (gI S0 12).toNat).length ≤ 2001) (hS : iPq S0 t V a S) (hT : iPq S0 t V a T) (hTS : iTb S) (hTT : iTb T) (e10 : gI T 10 = gI S 10) (e11 : gI T 11 = gI S 11) (e20 : gA T 20 = gA S 20) (e7 : gB T 7 = gB S 7) (hn : nrow (gI S 10) (gI S 11) = n) (hh : 0 ≤ sht V 1 ∧ 0 ≤ sht V 2 ∧ sht V 1 + sht V 2 < (zPg V).2.2) (kn : Int) : ∃ (B C : yS) (e : yEnv), yCx S0 t V a n B C ∧ yRl0 V n B C e B C ∧ gI C 69 = 0 ∧ gI B 29 = 0 ∧ yFr yBc S B ∧ yFr yBr T C ∧ gI C 71 = 0 ∧ (∀ v, cV S 27 v → cV B 27 v) ∧ Y q (d + 4) 113 0 [vr 125, vi kn, vu] [] S js = yretv q B js ∧ Y q (d' + 5) 277 0 [vr 129, vj (yi2l kn), vu, vu] [] T ks = Y q (d' + 5) 277 104 [vr 129, vj (yi2l kn), vu, vi 4] [] C ks := by
  obtain ⟨t1, t2, t3, t4, t5, t6, t7, t8, t9⟩ := id hTS
  have n40 := nrow_le (c := gI S 10) (n := gI S 11) ⟨t2, t3⟩ ⟨t5, t6⟩
  obtain ⟨g1, g2, g3, g4, g5, g6⟩ := hS.2.2.2.2
  obtain ⟨v20, v21, v22⟩ := hS.2.2.1.2.1.1
  have l01 : ∀ x, x ∈ zL V → x.2.1 ≤ 1 := fun x hx => (g4.2 x hx).1
  have t01 : ∀ x, x ∈ zT V → x.2.1 ≤ 1 := fun x hx => (g5.2 x hx).1
  have tsc : ∀ x, x ∈ zT V → -2 ≤ x.2.2.2.2 ∧ x.2.2.2.2 ≤ 2 := fun x hx => ⟨(g5.2 x hx).2.2.1.1, by have := (g5.2 x hx).2.2.1.2; have := g3.1; omega⟩
  have oc : ∀ x, x ∈ zO V → (x.1 : Int) < gI S 10 := fun x hx => by
    have h1 := (g2.2 x hx).1
    have h2 : gI S 10 = gI S0 10 := hS.2.1.1
    have h3 : x.1 < (gI S0 10).toNat := h1
    omega
  have od : ∀ x, x ∈ zO V → x.2 ≤ 1 := fun x hx => (g2.2 x hx).2
  obtain ⟨c, hc⟩ : ∃ c : Nat, gI S 10 = c := ⟨(gI S 10).toNat, by omega⟩
  -- the class
  obtain ⟨S1, hS1⟩ : ∃ S1, S1 = sA (sA (sA (sI (sI (sI S 32 0) 33 0) 34 0) 35 0 0) 35 1 0) 35 2 0 := ⟨_, rfl⟩
  have f1 : yFr yBc S S1 := by
    rw [hS1]
    exact yFr_tr (yFr_I rfl) (yFr_tr (yFr_I rfl) (yFr_tr (yFr_I rfl) (yFr_tr (yFr_A rfl) (yFr_tr (yFr_A rfl) (yFr_A rfl)))))
  have p1 := iPq_bc hS f1
  obtain ⟨S2, hS2⟩ : ∃ S2, S2 = sI S1 35 (sht V 1) := ⟨_, rfl⟩
  have f2 : yFr yBc S S2 := by
    rw [hS2]
    exact yFr_tr f1 (yFr_I rfl)
  obtain ⟨S3, hS3⟩ : ∃ S3, S3 = sI (sI S2 36 ((zPg V).2.2 - sht V 1 - sht V 2)) 37 (sht V 1 + ((zPg V).2.2 - sht V 1 - sht V 2) + 1) := ⟨_, rfl⟩
  have f3 : yFr yBc S S3 := by
    rw [hS3]
    exact yFr_tr f2 (yFr_tr (yFr_I rfl) (yFr_I rfl))
  obtain ⟨S4, hS4⟩ : ∃ S4, S4 = sI (sI (sI S3 27 (zPg V).2.1) 28 (zPg V).2.2) 29 0 := ⟨_, rfl⟩
  have f4 : yFr yBc S S4 := by
    rw [hS4]
    exact yFr_tr f3 (yFr_tr (yFr_I rfl) (yFr_tr (yFr_I rfl) (yFr_I rfl)))
  obtain ⟨S5, a5, b5, c5⟩ := c72 (q := q) (d := d + 1) (js := js) (S0 := S4) (row := -1) (c := c) (t := gA S 20) (w := fun k => if (-1 : Int) < 0 then 0 else gB S 7 (-1 * gI S 10 + k).toNat) (by omega) (by omega) (by rw [f4.1 10 rfl]; exact hc) (fun k hk => by
    refine ⟨by rw [f4.2.2.2.1 20 rfl], ?_, ?_⟩
    · rcases (t7 k (by omega)).2.2 with z | z
      · exact Or.inl z
      · refine Or.inr ⟨z, ?_⟩
        have hok := iTb_ok (row := -1) (k := k) hTS hc hk (by omega) z
        rw [if_pos (by omega)] at hok ⊢
        exact hok
    · rw [if_pos (by omega), if_pos (by omega)])
  have f5 : yFr yBc S S5 := yFr_tr f4 (yBc_w (yCw_m b5.1))
  obtain ⟨S6, a6, b6, c6⟩ := c71 (q := q) (d := d + 3) (js := js) (S := S5) (n := 25) (x := yi2l kn) (by omega)
  obtain ⟨S7, a7, b7, c7⟩ := c71 (q := q) (d := d + 3) (js := js) (S := S6) (n := 26) (x := 0) (by omega)
  have a5 : Y q (d + 3) 72 0 [vr 118, vi (-1), vu, vu, vu] [] S4 js = yretv q S5 js := a5
  have a6 : Y q (d + 3) 71 0 [vr 118, vi 25, vj (yi2l kn), vu] [] S5 js = yretv q S6 js := a6
  have a7 : Y q (d + 3) 71 0 [vr 118, vi 26, vj 0, vu] [] S6 js = yretv q S7 js := a7
  have f7 : yFr yBc S S7 := yFr_tr f5 (yFr_tr (yBc_w (yCw_m b6.1)) (yBc_w (yCw_m b7.1)))
  have p7 := iPq_bc hS f7
  obtain ⟨S8, a8, b8, c8, l8⟩ := c113t (q := q) (d := d + 3) (js := js) (x0 := kn) g4.1 l01 (zL V).length 0 S7 (by omega) p7.2.2.1.2.1.2.2.2.1 (fun k hk => by omega)
  have f8 : yFr yBc S S8 := yFr_tr f7 (yBc_w (yCw_m b8))
  have p8 := iPq_bc hS f8
  obtain ⟨S9, a9, b9, c9, l9⟩ := c113l (q := q) (d := d + 2) (js := js) (x0 := kn) g5.1 t01 (zT V).length 0 S8 (by omega) p8.2.2.1.2.1.2.2.2.2.1 (fun k hk => by omega)
  have f9 : yFr yBc S S9 := yFr_tr f8 (yBc_w (yCw_c b9))
  have p9 := iPq_bc hS f9
  have hn9 : nrow (gI S9 10) (gI S9 11) = n := by rw [f9.1 10 rfl, f9.1 11 rfl]; exact hn
  have so := c115 (q := q) (d := d) (js := js) (O := zO V) g2.1 od (n := n) (by omega) n 0 S9 vu (by omega) p9.2.2.1.2.1.2.1 (fun x hx => by rw [f9.1 10 rfl]; exact oc x hx) (by rw [f9.1 10 rfl]; omega) (fun i hi => by omega)
  have so : Y q (d + 3) 115 10 [vr 125, vi n, vi 0, vu] [] S9 js = _ := so
  obtain ⟨B, hB⟩ : ∃ B, B = sAr S9 34 (ysrf (ylt S9 (zO V)) n 0 (gA S9 34)) := ⟨_, rfl⟩
  rw [← hB] at so
  have fB : yFr yBc S B := by
    rw [hB]
    exact yFr_tr f9 (yFr_Ar rfl)
  have a8 : Y q (d + 4) 113 139 [vr 125, vi kn, vi 0] [] S7 js = Y q (d + 4) 113 184 [vr 125, vi kn, vi 0] [] S8 js := a8
  have a9 : Y q (d + 4) 113 184 [vr 125, vi kn, vi 0] [] S8 js = YB q (Y q (d + 3) 115 0 [vr 125, vu, vu, vu] [] S9 js) (d + 4) 113 210 [vr 125, vi kn, vi (zT V).length] [] := a9
  have s115 : Y q (d + 3) 115 0 [vr 125, vu, vu, vu] [] S9 js = yretv q B js := by
    rw [w115_0, c131 (by rw [f9.1 10 rfl]; omega) (by rw [f9.1 11 rfl]; omega), YB_ret, w115_7, hn9, so]
  have kh1 := kht (q := q) (d := d + 1) (js := js) p1 (j := 1) (by omega)
  have kh2 := kht (q := q) (d := d + 1) (js := js) (iPq_bc hS f2) (j := 2) (by omega)
  have kh1 : Y q (d + 3) 107 0 [vr 85, vi 1, vu, vu, vu, vu] [] S1 js = _ := kh1
  have kh2 : Y q (d + 3) 107 0 [vr 85, vi 2, vu, vu, vu, vu] [] S2 js = _ := kh2
  have st0 : Y q (d + 4) 113 0 [vr 125, vi kn, vu] [] S js = Y q (d + 4) 113 17 [vr 125, vi kn, vi (0 + 1 + 1 + 1)] [] S1 js := by
    have z0 : yr 0 < yr 3 := by decide
    have z1 : yr (0 + 1) < yr 3 := by decide
    have z2 : yr (0 + 1 + 1) < yr 3 := by decide
    have w0 : 0 ≤ yr 0 ∧ yr 0 < 3 := by decide
    have w1 : 0 ≤ yr (0 + 1) ∧ yr (0 + 1) < 3 := by decide
    have w2 : 0 ≤ yr (0 + 1 + 1) ∧ yr (0 + 1 + 1) < 3 := by decide
    have x0 : (yr 0).toNat = 0 := rfl
    have x1 : (yr (0 + 1)).toNat = 1 := rfl
    have x2 : (yr (0 + 1 + 1)).toNat = 2 := rfl
    rw [w113_0, w113_17, if_pos z0, if_pos w0, w113_17, if_pos z1, if_pos w1, w113_17, if_pos z2, if_pos w2, x0, x1, x2, hS1]
  have g22 : gI S2 22 = (zPg V).2.2 := (f2.1 22 rfl).trans v22
  have g22' : gI S1 22 = (zPg V).2.2 := (f1.1 22 rfl).trans v22
  have g21 : gI S2 21 = (zPg V).2.1 := (f2.1 21 rfl).trans v21
  have g35 : gI S2 35 = sht V 1 := by rw [hS2, gI_self]
  have cS : Y q (d + 4) 113 0 [vr 125, vi kn, vu] [] S js = yretv q B js := by
    have z3 : ¬ yr (0 + 1 + 1 + 1) < yr 3 := by decide
    rw [st0, w113_17, if_neg z3, kh1, YB_ret, w113_44, g22', ← hS2, kh2, YB_ret, w113_68, g21, g22, g35, ← hS3, w93_0, YB_retv, ← hS4, w113_108, a5, YB_retv, w113_116, a6, YB_retv, w113_127, a7, YB_retv, w113_137, a8, a9, s115, YB_retv, w113_213]
  -- the reference
  obtain ⟨T1, hT1⟩ : ∃ T1, T1 = sA (sA (sA (sI (sI (sI (sI (sI (sJ (sI T 68 0) 3 (yi2l kn)) 69 0) 70 0) 71 0) 64 (-1)) 65 1) 62 0 0) 62 1 0) 62 2 0 := ⟨_, rfl⟩
  have h1 : yFr yBr T T1 := by
    rw [hT1]
    exact yFr_tr (yFr_I rfl) (yFr_tr (yFr_J rfl) (yFr_tr (yFr_I rfl) (yFr_tr (yFr_I rfl) (yFr_tr (yFr_I rfl) (yFr_tr (yFr_I rfl) (yFr_tr (yFr_I rfl) (yFr_tr (yFr_A rfl) (yFr_tr (yFr_A rfl) (yFr_A rfl)))))))))
  have q1 := iPq_br hT h1
  obtain ⟨T2, m2, n2, o2⟩ := r277l (q := q) (d := d' + 4) (js := ks) (x0 := yi2l kn) g4.1 l01 (zL V).length 0 T1 (by omega) q1.2.2.2.1.1.2.2.2.1 (fun k hk => by omega)
  have h2 : yFr yBr T T2 := yFr_tr h1 (yBr_w (yRw_a (yWan_v n2)))
  have q2 := iPq_br hT h2
  obtain ⟨T3, m3, n3, o3, r3⟩ := r277p (q := q) (d := d' + 3) (js := ks) (x0 := yi2l kn) g5.1 t01 tsc 5 (-1) T2 (by omega) (by omega) q2.2.2.2.1.1.2.2.2.2.1 (fun k hk hD => by
    have hm : (zT V).getD k dDf ∈ zT V := by
      rw [List.getD_eq_getElem?_getD, List.getElem?_eq_getElem hk]
      exact List.getElem_mem hk
    have := tsc _ hm
    have hD : rsc ((zT V).getD k dDf).2.2.2.2 < -1 := hD
    unfold rsc at hD
    split at hD
    · omega
    · split at hD <;> omega)
  have h3 : yFr yBr T T3 := yFr_tr h2 (yBr_w (yRw_a n3))
  have q3 := iPq_br hT h3
  have hT3 : iTb T3 := by
    unfold iTb at hTT ⊢
    rw [h3.1 41 rfl, h3.1 10 rfl, h3.1 42 rfl, h3.1 11 rfl, h3.2.2.2.2.1 11 rfl, h3.2.2.2.2.1 6 rfl, h3.2.2.2.1 38 rfl, h3.2.2.2.1 20 rfl, h3.2.2.2.2.1 12 rfl, h3.2.2.2.2.1 7 rfl]
    exact hTT
  have s3 := r280 (q := q) (d := d') (js := ks) (O := zO V) g2.1 od (n := n) n 0 T3 vu (by omega) (by rw [h3.1 10 rfl, h3.1 11 rfl, e10, e11]; exact hn) q3.2.2.2.1.1.2.1 hT3 (fun x hx => by rw [h3.1 10 rfl, e10]; exact oc x hx) (fun i hi => by omega)
  have s3 : Y q (d' + 4) 280 2 [vr 129, vi 0, vu] [] T3 ks = _ := s3
  obtain ⟨C, hC⟩ : ∃ C, C = sAr T3 61 (ysrf (ylt T3 (zO V)) n 0 (gA T3 61)) := ⟨_, rfl⟩
  rw [← hC] at s3
  have hF : yFr yBr T C := by
    rw [hC]
    exact yFr_tr h3 (yFr_Ar rfl)
  have st1 : Y q (d' + 5) 277 0 [vr 129, vj (yi2l kn), vu, vu] [] T ks = Y q (d' + 5) 277 37 [vr 129, vj (yi2l kn), vu, vi (0 + 1 + 1 + 1)] [] T1 ks := by
    have z0 : yr 0 < yr 3 := by decide
    have z1 : yr (0 + 1) < yr 3 := by decide
    have z2 : yr (0 + 1 + 1) < yr 3 := by decide
    have w0 : 0 ≤ yr 0 ∧ yr 0 < 3 := by decide
    have w1 : 0 ≤ yr (0 + 1) ∧ yr (0 + 1) < 3 := by decide
    have w2 : 0 ≤ yr (0 + 1 + 1) ∧ yr (0 + 1 + 1) < 3 := by decide
    have x0 : (yr 0).toNat = 0 := rfl
    have x1 : (yr (0 + 1)).toNat = 1 := rfl
    have x2 : (yr (0 + 1 + 1)).toNat = 2 := rfl
    rw [w277_0, w277_37, if_pos z0, if_pos w0, w277_37, if_pos z1, if_pos w1, w277_37, if_pos z2, if_pos w2, x0, x1, x2, hT1]
  have m2 : Y q (d' + 5) 277 57 [vr 129, vj (yi2l kn), vu, vi 0] [] T1 ks = Y q (d' + 5) 277 84 [vr 129, vj (yi2l kn), vu, vi (-1)] [] T2 ks := m2
  have m3 : Y q (d' + 5) 277 84 [vr 129, vj (yi2l kn), vu, vi (-1)] [] T2 ks = YB q (Y q (d' + 4) 280 0 [vr 129, vu, vu] [] T3 ks) (d' + 5) 277 101 [vr 129, vj (yi2l kn), vu, vi 4] [] := m3
  have rS : Y q (d' + 5) 277 0 [vr 129, vj (yi2l kn), vu, vu] [] T ks = Y q (d' + 5) 277 104 [vr 129, vj (yi2l kn), vu, vi 4] [] C ks := by
    have z3 : ¬ yr (0 + 1 + 1 + 1) < yr 3 := by decide
    rw [st1, w277_37, if_neg z3, m2, m3, w280_0, s3, YB_retv]
  -- both stand alike
  have bi : ∀ k, k ≠ 34 → gI B k = gI S9 k := fun k _ => by rw [hB]; rfl
  have b99 : ∀ k, yWcn 0 k = false → gI S9 k = gI S4 k := fun k hk => by
    have hm : yWm 0 k = false := by
      unfold yWcn at hk
      simp only [Bool.or_eq_false_iff] at hk
      exact hk.1
    rw [b9.1 k hk, b8.1 k hm, b7.1.1 k hm, b6.1.1 k hm, b5.1.1 k hm]
  have B27 : gI B 27 = (zPg V).2.1 := by
    rw [bi 27 (by decide), b99 27 rfl, hS4, gI_ne _ _ _ (by decide), gI_ne _ _ _ (by decide), gI_self]
  have B28 : gI B 28 = (zPg V).2.2 := by
    rw [bi 28 (by decide), b99 28 rfl, hS4, gI_ne _ _ _ (by decide), gI_self]
  have B29 : gI B 29 = 0 := by
    rw [bi 29 (by decide), b99 29 rfl, hS4, gI_self]
  have B35 : gI B 35 = sht V 1 := by
    rw [bi 35 (by decide), b99 35 rfl, hS4]
    show gI S3 35 = _
    rw [hS3]
    exact g35
  have B36 : gI B 36 = (zPg V).2.2 - sht V 1 - sht V 2 := by
    rw [bi 36 (by decide), b99 36 rfl, hS4]
    show gI S3 36 = _
    rw [hS3, gI_ne _ _ _ (by decide), gI_self]
  have B37 : gI B 37 = sht V 1 + ((zPg V).2.2 - sht V 1 - sht V 2) + 1 := by
    rw [bi 37 (by decide), b99 37 rfl, hS4]
    show gI S3 37 = _
    rw [hS3, gI_self]
  have Bz : ∀ k, k = 32 ∨ k = 33 ∨ k = 34 → gI B k = 0 := fun k hk => by
    have e : gI B k = gI S9 k := by rw [hB]; rfl
    rw [e]
    rcases hk with rfl | rfl | rfl
    · rw [b99 32 rfl, hS4]
      show gI S3 32 = 0
      rw [hS3]
      show gI S2 32 = 0
      rw [hS2]
      show gI S1 32 = 0
      rw [hS1]
      rfl
    · rw [b99 33 rfl, hS4]
      show gI S3 33 = 0
      rw [hS3]
      show gI S2 33 = 0
      rw [hS2]
      show gI S1 33 = 0
      rw [hS1]
      rfl
    · rw [b99 34 rfl, hS4]
      show gI S3 34 = 0
      rw [hS3]
      show gI S2 34 = 0
      rw [hS2]
      show gI S1 34 = 0
      rw [hS1]
      rfl
  have Ci : ∀ k, yWan 0 k = false → yWvv 0 k = false → gI C k = gI T1 k := fun k h1 h2 => by
    have e : gI C k = gI T3 k := by rw [hC]; rfl
    rw [e, n3.1 k h1, n2.1 k h2]
  have C68 : gI C 68 = 0 := by rw [Ci 68 rfl rfl, hT1]; rfl
  have C69 : gI C 69 = 0 := by rw [Ci 69 rfl rfl, hT1]; rfl
  have C70 : gI C 70 = 0 := by rw [Ci 70 rfl rfl, hT1]; rfl
  have C71 : gI C 71 = 0 := by rw [Ci 71 rfl rfl, hT1]; rfl
  have C64 : gI C 64 = -1 := by rw [Ci 64 rfl rfl, hT1]; rfl
  have C65 : gI C 65 = 1 := by rw [Ci 65 rfl rfl, hT1]; rfl
  have CJ : gJ C 3 = yi2l kn := by
    have e : gJ C 3 = gJ T3 3 := by rw [hC]; rfl
    rw [e, n3.2.1 3 rfl, n2.2.1 3 rfl, hT1]
    rfl
  have B35a : ∀ g, g < 3 → gA B 35 g = 0 := fun g hg => by
    have e : gA B 35 = gA S1 35 := by
      rw [hB]
      show gA S9 35 = _
      rw [b9.2.2.2.1 35 rfl, b8.2.2.2.1 35 rfl, b7.1.2.2.2.1 35 rfl, b6.1.2.2.2.1 35 rfl, b5.1.2.2.2.1 35 rfl, hS4]
      show gA S3 35 = _
      rw [hS3]
      show gA S2 35 = _
      rw [hS2]
      rfl
    rw [e, hS1, gA_self _ _ _ _ _, gA_self _ _ _ _ _, gA_self _ _ _ _ _]
    split
    · rfl
    · split
      · rfl
      · rw [if_pos (by omega)]
  have C62a : ∀ g, g < 3 → gA C 62 g = 0 := fun g hg => by
    have e : gA C 62 = gA T1 62 := by
      rw [hC]
      show gA T3 62 = _
      rw [n3.2.2.2.1 62 rfl, n2.2.2.2.1 62 rfl]
    rw [e, hT1, gA_self _ _ _ _ _, gA_self _ _ _ _ _, gA_self _ _ _ _ _]
    split
    · rfl
    · split
      · rfl
      · rw [if_pos (by omega)]
  have lt : ylt T3 (zO V) = ylt S9 (zO V) := by
    refine ylt_e ?_ ?_ ?_
    · rw [h3.1 10 rfl, f9.1 10 rfl]
      exact e10
    · rw [h3.2.2.2.1 20 rfl, f9.2.2.2.1 20 rfl]
      exact e20
    · rw [h3.2.2.2.2.1 7 rfl, f9.2.2.2.2.1 7 rfl]
      exact e7
  have B34 : gA B 34 = ysrf (ylt S9 (zO V)) n 0 (gA S9 34) := by
    rw [hB]
    exact gAr_self _ _ _
  have C61 : gA C 61 = ysrf (ylt S9 (zO V)) n 0 (gA T3 61) := by
    rw [hC, lt]
    exact gAr_self _ _ _
  have cx : yCx S0 t V a n B C := by
    refine ⟨⟨hl, iPq_bc hS fB, iPq_br hT hF⟩, ⟨?_, ?_, ?_, ?_, ?_, ?_, ?_⟩, ⟨B27, B28, B35, B36, B37, C65⟩, hh, fun i hi => ⟨?_, ?_⟩⟩
    · unfold iTb at hTS ⊢
      rw [fB.1 41 rfl, fB.1 10 rfl, fB.1 42 rfl, fB.1 11 rfl, fB.2.2.2.2.1 11 rfl, fB.2.2.2.2.1 6 rfl, fB.2.2.2.1 38 rfl, fB.2.2.2.1 20 rfl, fB.2.2.2.2.1 12 rfl, fB.2.2.2.2.1 7 rfl]
      exact hTS
    · unfold iTb at hTT ⊢
      rw [hF.1 41 rfl, hF.1 10 rfl, hF.1 42 rfl, hF.1 11 rfl, hF.2.2.2.2.1 11 rfl, hF.2.2.2.2.1 6 rfl, hF.2.2.2.1 38 rfl, hF.2.2.2.1 20 rfl, hF.2.2.2.2.1 12 rfl, hF.2.2.2.2.1 7 rfl]
      exact hTT
    · rw [hF.1 10 rfl, fB.1 10 rfl, e10]
    · rw [hF.1 11 rfl, fB.1 11 rfl, e11]
    · rw [hF.2.2.2.1 20 rfl, fB.2.2.2.1 20 rfl, e20]
    · rw [hF.2.2.2.2.1 7 rfl, fB.2.2.2.2.1 7 rfl, e7]
    · rw [fB.1 10 rfl, fB.1 11 rfl]
      exact hn
    · rw [B34, C61]
      exact ysrf_cg n 0 _ _ (fun i hi => by omega) i (by omega)
    · rw [B34]
      have := ysrf_rng (lt := ylt S9 (zO V)) n 0 (gA S9 34) (fun i hi => by omega) i (by omega)
      rw [Nat.zero_add] at this
      exact this
  obtain ⟨e, he⟩ : ∃ e : yEnv, e = fun op k => if op = 2 then yrv B (-1) k else if op = 3 then ynw ((zL V).getD k dDf) else if op = 4 then ynw ((zT V).getD k dDf) else if k = 1 then .inl (yi2l kn) else .inl 0 := ⟨_, rfl⟩
  have he2 : e 2 = yrv B (-1) := by rw [he]; rfl
  have he3 : e 3 = fun k => ynw ((zL V).getD k dDf) := by rw [he]; rfl
  have he4 : e 4 = fun k => ynw ((zT V).getD k dDf) := by rw [he]; rfl
  have he51 : e 5 1 = .inl (yi2l kn) := by rw [he]; rfl
  have he52 : e 5 2 = .inl 0 := by rw [he]; rfl
  have vB : ∀ m v, cV S9 m v → cV B m v := fun m v hv => cV_e hv (by rw [hB]; rfl) (by rw [hB]; rfl) (by rw [hB]; rfl) (by rw [hB]; rfl)
  have vC : ∀ m v, rVv T3 m v → rVv C m v := fun m v hv => rVv_e hv (by rw [hC]; rfl) (by rw [hC]; rfl) (by rw [hC]; rfl)
  refine ⟨B, C, e, cx, ⟨⟨⟨yFr_rf _ _, yFr_rf _ _⟩, ⟨by rw [C68, B29], by omega, by omega⟩, ⟨by rw [C69, Bz 32 (Or.inl rfl)], by rw [C69, Bz 32 (Or.inl rfl)], by rw [Bz 32 (Or.inl rfl)]; omega, by rw [Bz 32 (Or.inl rfl)]; omega⟩, by rw [C70, Bz 33 (Or.inr (Or.inl rfl))], fun j hj => ?_, fun g hg => by rw [C62a g hg, B35a g hg], fun v hv => hv⟩, Bz 34 (Or.inr (Or.inr rfl)), fun k hk => ?_, ⟨⟨fun _ => false, fun k hk => ?_, fun k hk => ?_⟩, fun k hk => ?_⟩, ⟨⟨by rw [C64]; omega, by rw [C64]; omega⟩, fun k hk => ?_⟩, ⟨?_, ?_⟩, ?_, ?_⟩, C69, B29, fB, hF, C71, fun v hv => vB _ _ (l9 _ _ (by omega) (l8 _ _ (by omega) (cV_fs b7 (by omega) (cV_fs b6 (by omega) (cV_fl b5 (by omega) (cV_e hv (by rw [hS4, hS3, hS2, hS1]; rfl) (by rw [hS4, hS3, hS2, hS1]; rfl) (by rw [hS4, hS3, hS2, hS1]; rfl) (by rw [hS4, hS3, hS2, hS1]; rfl))))))), cS, rS⟩
  · rw [B29, Int.zero_mul, Int.zero_mul] at hj
    omega
  · rw [he3]
    refine ⟨vB _ _ (l9 _ _ (by have := g4.1; omega) (c8 k hk)), vC _ _ (r3 k _ (by have := g4.1; omega) (o2 k hk)), ynw_t _⟩
  · rw [he4]
    refine ⟨vB _ _ (c9 k hk).1, ?_⟩
    have e36 : gA B 36 = gA S9 36 := by rw [hB]; rfl
    rw [e36]
    exact (c9 k hk).2
  · rw [he4]
    refine ⟨vC _ _ (o3 k hk trivial).1, ?_⟩
    have e63 : gA C 63 = gA T3 63 := by rw [hC]; rfl
    rw [e63]
    exact (o3 k hk trivial).2
  · rw [he4]
    exact ynw_t _
  · have hk' : (k : Int) < gI S 10 := by rw [← fB.1 10 rfl]; exact hk
    rw [he2, C64]
    refine ⟨?_, rfl⟩
    have ev : yrv B (-1) k = yvc (gA S 20 k) ((fun k => if (-1 : Int) < 0 then 0 else gB S 7 (-1 * gI S 10 + k).toNat) k) := by
      unfold yrv
      rw [fB.2.2.2.1 20 rfl, if_pos (by omega)]
      show _ = yvc (gA S 20 k) (if (-1 : Int) < 0 then 0 else gB S 7 (-1 * gI S 10 + k).toNat)
      rw [if_pos (by omega)]
    rw [ev]
    exact vB _ _ (l9 _ _ (by omega) (l8 _ _ (by omega) (cV_fs b7 (by omega) (cV_fs b6 (by omega) (c5 k (by omega))))))
  · rw [he51]
    exact vB _ _ (l9 _ _ (by omega) (l8 _ _ (by omega) (cV_fs b7 (by omega) c6)))
  · rw [he51, CJ]
  · rw [he52]
    exact vB _ _ (l9 _ _ (by omega) (l8 _ _ (by omega) c7))
  · rw [he52, Bz 32 (Or.inl rfl)]
    rfl
end YUNL
end YUN
