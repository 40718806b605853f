/-! RUN: the call holds for what holds between calls; so the whole holds -/
section YUS
section YUSL
theorem ytq_2001 {S0 : yS} (hin : sIn S0) (q : yQ) (js : List xO) : (ytq (tb S0) (gI S0 12).toNat).length ≤ 2001 := by
  have h12 := hin.1
  obtain ⟨S3, b1, b2, b3, b4, b5, b6, b7⟩ := c142 (q := q) (d := 0) (js := js) (S := S0) (n := (gI S0 12).toNat) (by omega) (by omega)
  have b6 : ((ytq (tb S0) (gI S0 12).toNat).length : Int) ≤ gI S3 13 := b6
  omega
theorem yfx_in {S S' D E : yS} {V : yPV} (h : yFx S V D E) (hs : ∀ v, cV S' 27 v → cV S 27 v) : yFx S' V D E := by
  obtain ⟨x1, x2, x3, x4, x5, x6, x7, x8, x9⟩ := h
  exact ⟨x1, x2, x3, x4, x5, x6, x7, x8, fun v hv => x9 v (hs v hv)⟩
theorem yfx_o {S D E : yS} {V : yPV} {y z : Int} (h : yFx S V D E) : yFx S V (sI D 31 y) (sI E 67 z) := by
  obtain ⟨x1, x2, x3, x4, x5, x6, x7, ⟨e, x8⟩, x9⟩ := h
  exact ⟨x1, x2, x3, x4, x5, x6, x7, ⟨e, yVt_w x8 rfl rfl rfl rfl rfl rfl rfl rfl rfl⟩, fun v hv => cV_e (x9 v hv) rfl rfl rfl rfl⟩
theorem yfinc_1 {q : yQ} {S : yS} {js : List xO} : yfinc q 1 S js = yretv q (sI S 31 (gI S 29)) js := if_neg (by decide)
theorem yfinc_0 {q : yQ} {S : yS} {js : List xO} : yfinc q 0 S js = yretv q S js := if_pos rfl
theorem oj14 : yCall yJ 14 := by
  intro q S js x0 d y1 y2 y3 y4 hL h0 h6 hop hJ
  obtain ⟨⟨hTp, hTb, hCd, hPg, hRs, hRn⟩, hPr⟩ := id hJ
  obtain ⟨hn, hkw, z1, z2, z3, z4, z5, z6, z7, z8⟩ := id hRn
  obtain ⟨n1, n2, n3, n4, n5⟩ := id hn
  obtain ⟨g1, g2, g3, g4⟩ := id hPg
  obtain ⟨t1, t2, t3, t4, t5, t6, t7, t8, t9⟩ := id hTb
  show yEnd yJ q S js x0 d y1 y2 y3 y4
  have thr : Y q (d + 398) 175 0 [vr 75] [] S js = ythr q (yexc 14) S js → Y q (d + 399) 276 0 [vr 129] [] S (js ++ [yexc 14]) = yret q (vi 0) (sI (sI S 39 0) 39 1) (js ++ [yexc 14]) → yEnd yJ q S js x0 d y1 y2 y3 y4 := fun hc hm => k14_14 hL h0 h6 hop hc hm rfl (yJ_thr (yJ_thr hJ)) (len_1 _ _) (xsum_1 _ _)
  by_cases h19 : gI S 19 = 0
  · refine thr ?_ ?_
    · rw [w175_0, h19, if_pos yr_0]
    · rw [w276_0, g2, h19, if_pos yr_0, w188_0, YB_ret, w276_25]
  · have e19 : gI S 19 = 1 := by omega
    have k1 : ¬ yr 1 = 0 := by decide
    have e4 : yr 4 = 4 := rfl
    have e30 : yr (gI S 30) = gI S 30 := yr_eq (by omega) (by omega)
    by_cases h30 : gI S 30 < 4
    · obtain ⟨S0, t, V, a, hq⟩ := hPr e19
      have hl := ytq_2001 hq.1.1 q js
      have hh := yhts hq
      have n40 := nrow_le (c := gI S 10) (n := gI S 11) ⟨t2, t3⟩ ⟨t5, t6⟩
      obtain ⟨n, hnr⟩ : ∃ n : Nat, nrow (gI S 10) (gI S 11) = n := ⟨(nrow (gI S 10) (gI S 11)).toNat, by omega⟩
      -- the class's first run
      obtain ⟨S1, hS1⟩ : ∃ S1, S1 = sI S 30 (gI S 30 + 1) := ⟨_, rfl⟩
      have fS1 : yFr yWc0 S S1 := by
        rw [hS1]
        exact yFr_I rfl
      have s30 : gI S1 30 = gI S 30 + 1 := by rw [hS1, gI_self]
      have q1 := iPq_wf hq (yWfn_c0 fS1)
      have b1 := iTb_wf hTb (yWfn_c0 fS1)
      have nr1 : nrow (gI S1 10) (gI S1 11) = n := by rw [fS1.1 10 rfl, fS1.1 11 rfl]; exact hnr
      have kn1 : (0 : Int) = if yr 1 = 0 then gI S1 29 else 0 := (if_neg k1).symm
      obtain ⟨Da, _, xx, _, fa, _, ⟨ha34, _, hax⟩, _, ca, _, _⟩ := ypq (q := q) (d := d + 379) (d' := 0) (js := js) (ks := js) hl q1 q1 b1 b1 rfl rfl rfl rfl nr1 hh kn1
      have ca : Y q (d + 397) 112 0 [vr 125, vi 1, vu, vu, vu, vu, vu, vu, vu] [] S1 js = yfinc q 1 Da js := ca
      rw [yfinc_1] at ca
      obtain ⟨A1, hA1⟩ : ∃ A1, A1 = sI Da 31 (gI Da 29) := ⟨_, rfl⟩
      rw [← hA1] at ca
      have fA1 : yFr yWc0 S A1 := by
        rw [hA1]
        exact yFr_tr fS1 (yFr_tr (yWc0_b fa) (yFr_I rfl))
      have a30 : gI A1 30 = gI S 30 + 1 := by
        rw [hA1]
        show gI Da 30 = _
        rw [fa.1 30 rfl, s30]
      have a34 : gI A1 34 = xx := by rw [hA1]; exact ha34
      have c0 : Y q (d + 398) 175 0 [vr 75] [] S js = Y q (d + 398) 175 50 [vr 75] [] A1 js := by
        rw [w175_0, e19, if_neg k1, e30, e4, if_pos h30, ← hS1, ca, YB_retv]
      -- the reference's first run, from what the class leaves
      have ref : ∀ A : yS, yFr yWc0 S A → ∃ T : yS, T = sI (sI (sB A 18 0 (yi2l (gI A 34))) 39 0) 66 (gI S 30 + 1) ∧ Y q (d + 399) 276 0 [vr 129] [] (sB A 18 0 (yi2l (gI A 34))) js = YB q (Y q (d + 398) 277 0 [vr 129, vj (yi2l 0), vu, vu] [] T js) (d + 399) 276 38 [vr 129] [] := fun A fA => by
        have e48 : gI (sB A 18 0 (yi2l (gI A 34))) 48 = 1 := by
          show gI A 48 = 1
          rw [fA.1 48 rfl, g2, e19]
        have e66 : gI (sB A 18 0 (yi2l (gI A 34))) 66 = gI S 30 := by
          show gI A 66 = _
          rw [fA.1 66 rfl, n1]
        refine ⟨_, rfl, ?_⟩
        have z0 : yi2l 0 = 0 := by decide
        rw [w276_0, e48, if_neg k1, e66, e30, e4, if_neg (by omega), z0]
      have pair : ∀ A : yS, yFr yWc0 S A → ∃ (T D1 E1 : yS) (ks1 : List xO), yFr yWr0 A T ∧ gI T 39 = 0 ∧ gI T 66 = gI S 30 + 1 ∧ gB T 18 0 = yi2l (gI A 34) ∧ yFr yBc S1 D1 ∧ yFr yBr T E1 ∧ (gI D1 34 = xx ∧ gI E1 71 = xx) ∧ yFx S V D1 E1 ∧ yH q A1 js = yH q (sI D1 31 (gI D1 29)) js ∧ Y q (d + 399) 276 0 [vr 129] [] (sB A 18 0 (yi2l (gI A 34))) js = Y q (d + 399) 276 41 [vr 129] [] E1 ks1 ∧ (xx = 0 ∧ ks1 = js ∨ ∃ o, yEo xx o ∧ ks1 = js ++ [o]) := fun A fA => by
        obtain ⟨T, hT, rT⟩ := ref A fA
        have fT : yFr yWr0 A T := by
          rw [hT]
          exact yFr_tr (yFr_B rfl) (yFr_tr (yFr_I rfl) (yFr_I rfl))
        have fST : yFr yWfn S T := yFr_tr (yWfn_c0 fA) (yWfn_r0 fT)
        obtain ⟨D1, E1, x1, ks1, f1, f2, ⟨p34, p71, px⟩, fx, c1, r1, hk⟩ := ypq (q := q) (d := d + 379) (d' := d + 387) (js := js) (ks := js) hl q1 (iPq_wf hq fST) b1 (iTb_wf hTb fST) (by rw [fST.1 10 rfl, fS1.1 10 rfl]) (by rw [fST.1 11 rfl, fS1.1 11 rfl]) (by rw [fST.2.2.2.1 20 rfl, fS1.2.2.2.1 20 rfl]) (by rw [fST.2.2.2.2.1 7 rfl, fS1.2.2.2.2.1 7 rfl]) nr1 hh kn1
        have c1 : Y q (d + 397) 112 0 [vr 125, vi 1, vu, vu, vu, vu, vu, vu, vu] [] S1 js = yfinc q 1 D1 js := c1
        have r1 : Y q (d + 398) 277 0 [vr 129, vj (yi2l 0), vu, vu] [] T js = yretv q E1 ks1 := r1
        rw [yfinc_1, ca] at c1
        have hH := yrv_H c1
        have e34 : yr (gI A1 34) = yr (gI (sI D1 31 (gI D1 29)) 34) := yH_I (f := 8) hH (k := 50) rfl rfl
        have e34' : gI (sI D1 31 (gI D1 29)) 34 = x1 := p34
        rw [a34, e34'] at e34
        have ex := yr_lit hax px e34
        refine ⟨T, D1, E1, ks1, fT, ?_, ?_, ?_, f1, f2, ⟨by rw [p34, ex], by rw [p71, ex]⟩, yfx_in fx (fun v hv => by
          rw [hS1]
          exact cV_e hv rfl rfl rfl rfl), hH, ?_, by rw [ex]; exact hk⟩
        · rw [hT]
          rfl
        · rw [hT, gI_self]
        · rw [hT]
          show gB (sB A 18 0 (yi2l (gI A 34))) 18 0 = _
          rw [gB_self, if_pos rfl]
        · rw [rT, r1, YB_retv]
      by_cases hxx : xx = 0
      · -- a second run
        have q2 := iPq_wf hq (yWfn_c0 fA1)
        have b2 := iTb_wf hTb (yWfn_c0 fA1)
        have nr2 : nrow (gI A1 10) (gI A1 11) = n := by rw [fA1.1 10 rfl, fA1.1 11 rfl]; exact hnr
        have kn2 : gI A1 29 = if yr 0 = 0 then gI A1 29 else 0 := (if_pos yr_0).symm
        obtain ⟨A, _, xb, _, fb, _, ⟨hb34, _, hbx⟩, _, cb, _, _⟩ := ypq (q := q) (d := d + 379) (d' := 0) (js := js) (ks := js) hl q2 q2 b2 b2 rfl rfl rfl rfl nr2 hh kn2
        have cb : Y q (d + 397) 112 0 [vr 125, vi 0, vu, vu, vu, vu, vu, vu, vu] [] A1 js = yfinc q 0 A js := cb
        rw [yfinc_0] at cb
        have fA : yFr yWc0 S A := yFr_tr fA1 (yWc0_b fb)
        have hc : Y q (d + 398) 175 0 [vr 75] [] S js = yret q (vi (gI A 34)) A js := by
          rw [c0, w175_50, a34, hxx, if_pos yr_0, cb, YB_retv, w175_68]
        obtain ⟨T, D1, E1, ks1, fT, T39, T66, T18, f1, f2, ⟨p34, p71⟩, fx, hH, hm1, hk⟩ := pair A fA
        have hk1 : ks1 = js := by
          rcases hk with ⟨_, h⟩ | ⟨o, ho, _⟩
          · exact h
          · rcases ho with ⟨h, _⟩ | ⟨h, _⟩ <;> omega
        obtain ⟨D1', hD1'⟩ : ∃ D1', D1' = sI D1 31 (gI D1 29) := ⟨_, rfl⟩
        rw [← hD1'] at hH
        have fD1 : yFr yWfn S D1' := by
          rw [hD1']
          exact yFr_tr (yWfn_c0 fS1) (yFr_tr (yWfn_c f1) (yFr_I rfl))
        obtain ⟨T2, hT2⟩ : ∃ T2, T2 = sI E1 67 (gI E1 68) := ⟨_, rfl⟩
        have fT2 : yFr yWr0 T T2 := by
          rw [hT2]
          exact yFr_tr (yWr0_b f2) (yFr_I rfl)
        have fST2 : yFr yWfn S T2 := yFr_tr (yWfn_c0 fA) (yFr_tr (yWfn_r0 fT) (yWfn_r0 fT2))
        have kn3 : gI D1' 29 = if yr 0 = 0 then gI D1' 29 else 0 := (if_pos yr_0).symm
        obtain ⟨D2, E2, x2, ks2, u1, u2, ⟨w34, w71, wx⟩, gx, c2, r2, hk2⟩ := ypq (q := q) (d := d + 379) (d' := d + 387) (js := js) (ks := js) (x0 := 0) hl (iPq_wf hq fD1) (iPq_wf hq fST2) (iTb_wf hTb fD1) (iTb_wf hTb fST2) (by rw [fST2.1 10 rfl, fD1.1 10 rfl]) (by rw [fST2.1 11 rfl, fD1.1 11 rfl]) (by rw [fST2.2.2.2.1 20 rfl, fD1.2.2.2.1 20 rfl]) (by rw [fST2.2.2.2.2.1 7 rfl, fD1.2.2.2.2.1 7 rfl]) (by rw [fD1.1 10 rfl, fD1.1 11 rfl]; exact hnr) hh kn3
        have c2 : Y q (d + 397) 112 0 [vr 125, vi 0, vu, vu, vu, vu, vu, vu, vu] [] D1' js = yfinc q 0 D2 js := c2
        rw [yfinc_0, ← Y_H hH, cb] at c2
        have hH2 := yrv_H c2
        have r2 : Y q (d + 398) 277 0 [vr 129, vj (yi2l (gI D1' 29)), vu, vu] [] T2 js = yretv q E2 ks2 := r2
        have e29 : gI D1' 29 = gI E1 68 := by
          rw [hD1']
          exact fx.1.1.symm
        have E71 : gI E1 71 = 0 := by rw [p71, hxx]
        have hm : Y q (d + 399) 276 0 [vr 129] [] (sB A 18 0 (yi2l (gI A 34))) js = yret q (vi (gI E2 71)) E2 ks2 := by
          rw [e29] at r2
          rw [hm1, hk1, w276_41, E71, if_pos yr_0, ← hT2, r2, YB_retv, w276_65]
        have h27 : ∀ v, cV S 27 v → cV D1' 27 v := fun v hv => by
          rw [hD1']
          exact cV_e (fx.2.2.2.2.2.2.2.2 v hv) rfl rfl rfl rfl
        refine yend14 (A := A) (D := D2) (E := E2) hL h0 h6 hop hJ hq e19 ⟨by omega, h30⟩ hc fA ?_ hm (yFr_tr fT (yFr_tr fT2 (yWr0_b u2))) ?_ ?_ ?_ hH2 ?_ w34 w71 (yfx_in gx h27) ?_
        · rw [fb.1 30 rfl, a30]
        · rw [u2.2.2.2.2.1 18 rfl, hT2]
          show gB E1 18 0 = _
          rw [f2.2.2.2.2.1 18 rfl]
          exact T18
        · rw [u2.1 39 rfl, hT2]
          show gI E1 39 = 0
          rw [f2.1 39 rfl, T39]
        · rw [u2.1 66 rfl, hT2]
          show gI E1 66 = _
          rw [f2.1 66 rfl, T66]
        · rw [u2.1 67 rfl, u1.1 31 rfl, hT2, gI_self, hD1', gI_self]
          exact fx.1.1
        · rcases hk2 with ⟨_, h⟩ | h
          · exact Or.inl h
          · exact Or.inr ⟨_, h.choose_spec.1, h.choose_spec.2⟩
      · -- the first run met an error
        have nx : ¬ yr xx = 0 := by
          rcases hax with h | h | h
          · exact absurd h hxx
          · rw [h]; decide
          · rw [h]; decide
        have hc : Y q (d + 398) 175 0 [vr 75] [] S js = yret q (vi (gI A1 34)) A1 js := by
          rw [c0, w175_50, if_neg (by rw [a34]; exact nx)]
        obtain ⟨T, D1, E1, ks1, fT, T39, T66, T18, f1, f2, ⟨p34, p71⟩, fx, hH, hm1, hk⟩ := pair A1 fA1
        have hm : Y q (d + 399) 276 0 [vr 129] [] (sB A1 18 0 (yi2l (gI A1 34))) js = yret q (vi (gI (sI E1 67 (gI E1 68)) 71)) (sI E1 67 (gI E1 68)) ks1 := by
          rw [hm1, w276_41, if_neg (by rw [p71]; exact nx)]
          rfl
        refine yend14 (A := A1) (D := sI D1 31 (gI D1 29)) (E := sI E1 67 (gI E1 68)) (x := xx) hL h0 h6 hop hJ hq e19 ⟨by omega, h30⟩ hc fA1 a30 hm (yFr_tr fT (yFr_tr (yWr0_b f2) (yFr_I rfl))) ?_ ?_ ?_ hH ?_ p34 p71 (yfx_o fx) ?_
        · show gB E1 18 0 = _
          rw [f2.2.2.2.2.1 18 rfl]
          exact T18
        · show gI E1 39 = 0
          rw [f2.1 39 rfl, T39]
        · show gI E1 66 = _
          rw [f2.1 66 rfl, T66]
        · rw [gI_self, gI_self]
          exact fx.1.1
        · rcases hk with ⟨h, _⟩ | ⟨o, h1, h2⟩
          · exact absurd h hxx
          · exact Or.inr ⟨o, h1, h2⟩
    · have e4' : gI S 30 = 4 := by omega
      refine thr ?_ ?_
      · rw [w175_0, e19, if_neg k1, e30, e4, if_neg h30]
      · rw [w276_0, g2, e19, if_neg k1, n1, if_pos (show yr (gI S 30) = yr 4 by rw [e4']), w188_0, YB_ret, w276_25]
theorem x_pure : xPure := x_lef2 oj14
end YUSL
end YUS
