/-! RUN: a page begins and ends, on both sides -/
section YUA
def eU (e : yEnv) (op : Nat) (f : Nat → yVal) : yEnv := fun o => if o = op then f else e o
theorem ynw_t (x : yDf) : yvt (ynw x) (decide (¬ x.2.1 = 0)) := by
  unfold ynw
  by_cases z : x.2.1 = 0
  · rw [if_pos z]
    exact decide_eq_false fun y => y z
  · rw [if_neg z]
    exact ⟨decide_eq_true z, by show 0 ≤ 60; omega⟩
section YUAL
variable {q : yQ} {d d' : Nat} {js ks : List xO} {S0 : yS} {t : Nat} {V : yPV} {a : Int} {n : Nat} {B C S T : yS} {e : yEnv}
theorem vTo_all (hx : yCx S0 t V a n B C) : ((zL V).length ≤ 8 ∧ (zT V).length ≤ 8 ∧ (zG V).length ≤ 3) ∧ (∀ x, x ∈ zL V → x.2.1 ≤ 1) ∧ (∀ x, x ∈ zT V → x.2.1 ≤ 1) ∧ ∀ x, x ∈ zT V → -2 ≤ x.2.2.2.2 ∧ x.2.2.2.2 ≤ 2 := by
  obtain ⟨_, _, g3, g4, g5, _⟩ := yCx_g hx
  exact ⟨⟨g4.1, g5.1, g3.1⟩, fun x hm => (g4.2 x hm).1, fun x hm => (g5.2 x hm).1, fun x hm => ⟨(g5.2 x hm).2.2.1.1, by have := (g5.2 x hm).2.2.1.2; have := g3.1; omega⟩⟩
theorem rsc_3 {s : Int} (h : -2 ≤ s ∧ s ≤ 2) : rsc s = 3 ↔ s = -1 := by
  unfold rsc
  split
  · omega
  · split <;> omega
/-- a new page -/
theorem ybeg (hx : yCx S0 t V a n B C) (h : yRl0 V n B C e S T) (hP : gI S 29 < 30) : yGo q ks V n B C (fun S' => gI S' 38 = 0) (YB q (Y q (d + 3) 96 0 [vr 123, vu, vu, vu] [] S js) (d + 4) 117 70 [vr 125, vu] []) (Y q (d' + 7) 284 0 [vr 129, vu] [] T ks) (fun S' c => c = yretv q S' js) (fun T' r => r = yretv q T' ks) (fun S' c => c = yretv q S' js) := by
  obtain ⟨⟨h8, h8', _⟩, l01, t01, tsc⟩ := vTo_all hx
  have hg := yCx_g hx
  obtain ⟨c1, c2, _⟩ := yCx_c hx
  obtain ⟨hO, h34, hLe, ⟨⟨has, hc, hr⟩, hty⟩, ⟨h64, hce⟩, ⟨h25, h25'⟩, h26, h26'⟩ := h
  obtain ⟨⟨w60, h40⟩, p27, p28, _, p36, _, p54, p55, _, _⟩ := yCx_p hx hO
  obtain ⟨⟨k1, k2⟩, ⟨k3, k3a, k3b⟩, k4, k4a, k5, k6, k7⟩ := id hO
  obtain ⟨P, hPe⟩ : ∃ P : Nat, gI S 29 = P := ⟨(gI S 29).toNat, by omega⟩
  have hB := hx.1.2.1
  have hC := hx.1.2.2
  -- the class
  have b1 := c96 (q := q) (d := d + 2) (js := js) hPe p28 p27 (by omega) h40 w60
  obtain ⟨S1, hS1⟩ : ∃ S1, S1 = sAr (sI S 29 ((P + 1 : Nat) : Int)) 33 (yblk (P * (zPg V).2.2 * (zPg V).2.1) ((P + 1) * (zPg V).2.2 * (zPg V).2.1) (gA S 33)) := ⟨_, rfl⟩
  rw [← hS1] at b1
  have f1 : yFr yCw S (sI S1 38 0) := by
    rw [hS1]
    exact yFr_tr (yFr_I rfl) (yFr_tr (yFr_Ar rfl) (yFr_I rfl))
  obtain ⟨S2, b2, b3, b4⟩ := c71 (q := q) (d := d + 3) (js := js) (S := sI S1 38 0) (n := 24) (x := yi2l ((P + 1 : Nat) : Int)) (by omega)
  have b2 : Y q (d + 3) 71 0 [vr 118, vi 24, vj (yi2l ((P + 1 : Nat) : Int)), vu] [] (sI S1 38 0) js = yretv q S2 js := b2
  have f2 : yFr yCw B S2 := yFr_tr k1 (yFr_tr f1 (yCw_m b3.1))
  have lo : ∀ m v, m ≠ 24 → cV S m v → cV S2 m v := fun m v hm hv => cV_fs b3 hm (cV_e hv (by rw [hS1]; rfl) (by rw [hS1]; rfl) (by rw [hS1]; rfl) (by rw [hS1]; rfl))
  have hD := (iPq_cw hB f2).2.2.1.2.1.2.2.2.2.1
  have hc2 : cTo S2 (zT V) (e 4) has := fun k hk => ⟨lo _ _ (by omega) (hc k hk).1, by
    rw [b3.1.2.2.2.1 36 rfl, hS1]
    exact (hc k hk).2⟩
  obtain ⟨S3, b5, b6, b7, b8⟩ := c117l (q := q) (d := d + 2) (js := js) h8' t01 tsc (zT V).length 0 S2 (e 4) has (by omega) hD hc2
  have f3 : yFr yCw B S3 := yFr_tr f2 (yCw_c b6)
  -- the reference
  have m1 := r284a (q := q) (d := d' + 6) (js := ks) (k3.trans hPe) p55 p54 (by omega) h40 w60
  obtain ⟨T1, hT1⟩ : ∃ T1, T1 = sAr (sI T 68 ((P + 1 : Nat) : Int)) 64 (yblk (P * (zPg V).2.2 * (zPg V).2.1) ((P + 1) * (zPg V).2.2 * (zPg V).2.1) (gA T 64)) := ⟨_, rfl⟩
  rw [← hT1] at m1
  have g1 : yFr yRw C T1 := by
    rw [hT1]
    exact yFr_tr k2 (yFr_tr (yFr_I rfl) (yFr_Ar rfl))
  have hD2 := (iPq_rw hC g1).2.2.2.1.1.2.2.2.2.1
  have lo2 : ∀ m v, rVv T m v → rVv T1 m v := fun m v hv => rVv_e hv (by rw [hT1]; rfl) (by rw [hT1]; rfl) (by rw [hT1]; rfl)
  have hr2 : rTo T1 (zT V) (e 4) has := fun k hk => ⟨lo2 _ _ (hr k hk).1, by
    rw [hT1]
    exact (hr k hk).2⟩
  obtain ⟨T2, m2, m3, m4, m5⟩ := r279l (q := q) (d := d' + 5) (js := ks) (per := 3) h8' t01 (by omega) tsc (zT V).length 0 T1 (e 4) has (by omega) hD2 hr2
  have m2 : Y q (d' + 6) 279 2 [vr 129, vi 3, vi 0] [] T1 ks = yretv q T2 ks := m2
  obtain ⟨T3, hT3⟩ : ∃ T3, T3 = sI T2 72 0 := ⟨_, rfl⟩
  have g3 : yFr yRw C T3 := by
    rw [hT3]
    exact yFr_tr g1 (yFr_tr (yRw_a m3) (yFr_I rfl))
  -- both stand alike
  have s29 : gI S3 29 = ((P + 1 : Nat) : Int) := by
    rw [b6.1 29 rfl, b3.1.1 29 rfl, gI_ne _ _ _ (by decide), hS1]
    show gI (sI S 29 ((P + 1 : Nat) : Int)) 29 = _
    exact gI_self _ _ _
  have s28 : gI S3 28 = (zPg V).2.2 := (f3.1 28 rfl).trans ((k1.1 28 rfl).symm.trans p28)
  have s27 : gI S3 27 = (zPg V).2.1 := (f3.1 27 rfl).trans ((k1.1 27 rfl).symm.trans p27)
  have s33 : gA S3 33 = yblk (P * (zPg V).2.2 * (zPg V).2.1) ((P + 1) * (zPg V).2.2 * (zPg V).2.1) (gA S 33) := by
    rw [b6.2.2.2.1 33 rfl, b3.1.2.2.2.1 33 rfl, hS1]
    exact gAr_self _ _ _
  have t64 : gA T3 64 = yblk (P * (zPg V).2.2 * (zPg V).2.1) ((P + 1) * (zPg V).2.2 * (zPg V).2.1) (gA T 64) := by
    rw [hT3]
    show gA T2 64 = _
    rw [m3.2.2.2.1 64 rfl, hT1]
    exact gAr_self _ _ _
  have ti : ∀ k, k ≠ 72 → k ≠ 68 → yWan 0 k = false → gI T3 k = gI T k := fun k z1 z2 z3 => by
    rw [hT3, gI_ne _ _ _ z1, m3.1 k z3, hT1]
    show gI (sI T 68 ((P + 1 : Nat) : Int)) k = _
    exact gI_ne _ _ _ z2
  have si : ∀ k, k ≠ 29 → k ≠ 38 → yWcn 0 k = false → yWm 0 k = false → gI S3 k = gI S k := fun k z1 z2 z3 z4 => by
    rw [b6.1 k z3, b3.1.1 k z4, gI_ne _ _ _ z2, hS1]
    show gI (sI S 29 ((P + 1 : Nat) : Int)) k = _
    exact gI_ne _ _ _ z1
  obtain ⟨e', he'⟩ : ∃ e', e' = eU (eU e 4 (fun k => if ((zT V).getD k dDf).2.2.2.2 = -1 then ynw ((zT V).getD k dDf) else e 4 k)) 5 (fun k => if k = 0 then .inl (yi2l ((P + 1 : Nat) : Int)) else e 5 k) := ⟨_, rfl⟩
  have e2 : e' 2 = e 2 := by rw [he']; rfl
  have e3 : e' 3 = e 3 := by rw [he']; rfl
  have e4 : e' 4 = fun k => if ((zT V).getD k dDf).2.2.2.2 = -1 then ynw ((zT V).getD k dDf) else e 4 k := by rw [he']; rfl
  have e51 : e' 5 1 = e 5 1 := by rw [he']; rfl
  have e52 : e' 5 2 = e 5 2 := by rw [he']; rfl
  have e50 : e' 5 0 = .inl (yi2l ((P + 1 : Nat) : Int)) := by rw [he']; rfl
  have memT : ∀ k, k < (zT V).length → (zT V).getD k dDf ∈ zT V := fun k hk => by
    rw [List.getD_eq_getElem?_getD, List.getElem?_eq_getElem hk]
    exact List.getElem_mem hk
  have rel : yRl V n B C e' S3 T3 := by
    refine ⟨⟨⟨⟨f3, g3⟩, ⟨?_, by omega, by omega⟩, ?_, ?_, ?_, ?_, fun v hv => b8 _ _ (by omega) (lo _ _ (by omega) (k7 v hv))⟩, ?_, fun k hk => ?_, ⟨⟨fun k => if ((zT V).getD k dDf).2.2.2.2 = -1 then false else has k, ?_, ?_⟩, fun k hk => ?_⟩, ⟨?_, fun k hk => ?_⟩, ⟨?_, ?_⟩, ?_, ?_⟩, ⟨?_, ?_, ?_⟩, by omega, ?_, ?_⟩
    · rw [s29, hT3, gI_ne _ _ _ (by decide), m3.1 68 rfl, hT1]
      show gI (sI T 68 ((P + 1 : Nat) : Int)) 68 = _
      exact gI_self _ _ _
    · rw [ti 69 (by decide) (by decide) rfl, si 32 (by decide) (by decide) rfl rfl]
      exact k4
    · rw [ti 70 (by decide) (by decide) rfl, si 33 (by decide) (by decide) rfl rfl]
      exact k4a
    · intro j hj
      rw [s29, s28, s27] at hj
      rw [t64, s33]
      unfold yblk
      by_cases z : P * (zPg V).2.2 * (zPg V).2.1 ≤ j ∧ j < (P + 1) * (zPg V).2.2 * (zPg V).2.1
      · rw [if_pos z, if_pos z]
      · have hj' : j < (P + 1) * (zPg V).2.2 * (zPg V).2.1 := by
          rw [← Int.natCast_mul, ← Int.natCast_mul] at hj
          omega
        rw [if_neg z, if_neg z]
        refine k5 j ?_
        rw [hPe, p28, p27, ← Int.natCast_mul, ← Int.natCast_mul]
        omega
    · intro g hg'
      have q1 : gA T3 62 = gA T 62 := by
        rw [hT3]
        show gA T2 62 = _
        rw [m3.2.2.2.1 62 rfl, hT1]
        rfl
      have q2 : gA S3 35 = gA S 35 := by
        rw [b6.2.2.2.1 35 rfl, b3.1.2.2.2.1 35 rfl, hS1]
        rfl
      rw [q1, q2]
      exact k6 g hg'
    · rw [si 34 (by decide) (by decide) rfl rfl]
      exact h34
    · rw [e3]
      refine ⟨b8 _ _ (by omega) (lo _ _ (by omega) (hLe k hk).1), ?_, (hLe k hk).2.2⟩
      rw [hT3]
      exact rVv_e (m5 k _ (by omega) (lo2 _ _ (hLe k hk).2.1)) rfl rfl rfl
    · rw [e4]
      exact cTo_cg b7 (fun k hk => by
        by_cases z : ((zT V).getD k dDf).2.2.2.2 = -1
        · rw [if_pos z, if_pos ⟨by omega, z⟩]
        · rw [if_neg z, if_neg (fun y => z y.2)]) (fun k hk => by
        by_cases z : ((zT V).getD k dDf).2.2.2.2 = -1
        · rw [if_pos z, if_pos ⟨by omega, z⟩]
        · rw [if_neg z, if_neg (fun y => z y.2)])
    · rw [e4]
      have := rTo_cg (val' := fun k => if ((zT V).getD k dDf).2.2.2.2 = -1 then ynw ((zT V).getD k dDf) else e 4 k) (has' := fun k => if ((zT V).getD k dDf).2.2.2.2 = -1 then false else has k) m4 (fun k hk => by
        have hs := rsc_3 (tsc _ (memT k hk))
        by_cases z : ((zT V).getD k dDf).2.2.2.2 = -1
        · rw [if_pos z, if_pos ⟨by omega, hs.mpr z⟩]
        · rw [if_neg z, if_neg (fun y => z (hs.mp y.2))]) (fun k hk => by
        have hs := rsc_3 (tsc _ (memT k hk))
        by_cases z : ((zT V).getD k dDf).2.2.2.2 = -1
        · rw [if_pos z, if_pos ⟨by omega, hs.mpr z⟩]
        · rw [if_neg z, if_neg (fun y => z (hs.mp y.2))])
      rw [hT3]
      exact fun k hk => ⟨rVv_e (this k hk).1 rfl rfl rfl, (this k hk).2⟩
    · rw [e4]
      show yvt (if ((zT V).getD k dDf).2.2.2.2 = -1 then ynw ((zT V).getD k dDf) else e 4 k) _
      split
      · exact ynw_t _
      · exact hty k hk
    · rw [ti 64 (by decide) (by decide) rfl]
      exact h64
    · rw [ti 64 (by decide) (by decide) rfl, e2]
      exact ⟨b8 _ _ (by omega) (lo _ _ (by omega) (hce k hk).1), (hce k hk).2⟩
    · rw [e51]
      exact b8 _ _ (by omega) (lo _ _ (by omega) h25)
    · rw [e51]
      exact h25'
    · rw [e52]
      exact b8 _ _ (by omega) (lo _ _ (by omega) h26)
    · rw [e52, si 32 (by decide) (by decide) rfl rfl]
      exact h26'
    · rw [b6.1 38 rfl, b3.1.1 38 rfl, gI_self, hT3, gI_self]
    · rw [b6.1 38 rfl, b3.1.1 38 rfl, gI_self]
      omega
    · rw [b6.1 38 rfl, b3.1.1 38 rfl, gI_self]
      have := hx.2.2.2.1
      have e36 := k1.1 36 rfl
      rw [p36] at e36
      omega
    · rw [e50]
      exact b8 _ _ (by omega) b4
    · rw [e50, s29]
  have yb1 := yband (q := q) (d := d + 0) (d' := d' + 0) (js := js) (ks := ks) hx rel (j := 1) (line := 0) (Or.inl rfl) (by have := hx.2.2.2.1; omega)
  have e01 : ((0 : Nat) : Int) + 1 = 1 := rfl
  rw [e01] at yb1
  have kb := kband (q := q) (js := js) (d := d + 2) (iPq_cw hB f3) hg (j := 1) (by omega)
  have kb1 : Y q (d + 3) 108 0 [vr 85, vi 1] [] S3 js = _ := kb.1
  have kb2 : Y q (d + 3) 109 0 [vr 85, vi 1] [] S3 js = _ := kb.2
  have cS : YB q (Y q (d + 3) 96 0 [vr 123, vu, vu, vu] [] S js) (d + 4) 117 70 [vr 125, vu] [] = YB q (Y q (d + 3) 118 0 [vr 125, vi (cFb V 1 : Nat), vi (cEb V 1 : Nat), vi 1, vu, vu, vu, vu, vu, vu] [] S3 js) (d + 4) 117 156 [vr 125, vi ((zT V).length : Int)] [] := by
    have e29 : gI S1 29 = ((P + 1 : Nat) : Int) := by
      rw [hS1]
      show gI (sI S 29 ((P + 1 : Nat) : Int)) 29 = _
      exact gI_self _ _ _
    have b5 : Y q (d + 4) 117 97 [vr 125, vi 0] [] S2 js = _ := b5
    rw [b1, YB_retv, w117_73, e29, b2, YB_retv, w117_95, b5, kb1, YB_ret, w117_147, kb2, YB_ret, w117_155]
  have rS : Y q (d' + 7) 284 0 [vr 129, vu] [] T ks = YB q (Y q (d' + 6) 286 0 [vr 129, vi (gA T3 51 1), vi 0, vu, vu] [] T3 ks) (d' + 7) 284 67 [vr 129, vi (((P + 1) * (zPg V).2.2 * (zPg V).2.1 : Nat) : Int)] [] := by
    have kk : 0 ≤ yr 1 ∧ yr 1 < 11 := by decide
    have e1 : (yr 1).toNat = 1 := rfl
    rw [m1, w279_0, m2, YB_retv, w284_54, if_pos kk, e1, ← hT3, hT3]
    rfl
  rw [cS, rS]
  rcases yb1 with ⟨e1, S4, T4, r1, ⟨_, k38⟩, c1', f1'⟩ | ⟨x, o, S4, T4, hxo, r1, c1', f1'⟩
  · refine Or.inl ⟨e1, S4, T4, r1, k38.trans (by rw [b6.1 38 rfl, b3.1.1 38 rfl, gI_self]), ?_, ?_⟩
    · show _ = _
      rw [c1', YB_retv, w117_159]
    · show _ = _
      have f1' : Y q (d' + 6) 286 0 [vr 129, vi (gA T3 51 1), vi 0, vu, vu] [] T3 ks = yretv q T4 ks := f1'
      rw [f1', YB_retv, w284_70]
  · refine Or.inr ⟨x, o, S4, T4, hxo, r1, ?_, ?_⟩
    · show _ = _
      rw [c1', YB_retv, w117_159]
    · have f1' : Y q (d' + 6) 286 0 [vr 129, vi (gA T3 51 1), vi 0, vu, vu] [] T3 ks = ythr q o T4 ks := f1'
      rw [f1']
      exact yEo_t hxo (fun a b => t284 q a b T4 ks _ _ _ _)
end YUAL
end YUA
