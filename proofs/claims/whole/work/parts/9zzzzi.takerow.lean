/-! RUN: a row is taken, on both sides -/
section YUJ
section YUJL
variable {q : yQ} {d d' : Nat} {js ks : List xO} {S0 : yS} {t : Nat} {V : yPV} {a : Int} {n : Nat} {B C S T S' T' : yS} {e e' : yEnv}
theorem cV_fl2 {c m : Nat} {v : yVal} (h : yFl c S S') (hm : c ≤ m) (hv : cV S m v) : cV S' m v := by
  obtain ⟨h1, h2, h3⟩ := h
  obtain ⟨a, b, c⟩ := h2 m hm
  match v, hv with
  | .inl x, hv => exact ⟨a.trans hv.1, b.trans hv.2.1, c.trans hv.2.2⟩
  | .inr l, hv =>
    refine ⟨a.trans hv.1, c.trans hv.2.1, hv.2.2.1, fun i y hi => ?_⟩
    have hl := (List.getElem?_eq_some_iff.mp hi).1
    rw [h3 _ (by omega)]
    exact hv.2.2.2 i y hi
theorem yCx_69 {x : Int} (hx : yCx S0 t V a n B C) : yCx S0 t V a n B (sI C 69 x) := by
  obtain ⟨⟨h1, h2, h3⟩, ⟨h4, h5, h6, h7, h8, h9, h10⟩, ⟨h11, h12, h13, h14, h15, h16⟩, h17, h18⟩ := hx
  exact ⟨⟨h1, h2, iPq_rw h3 (yFr_I rfl)⟩, ⟨h4, h5, h6, h7, h8, h9, h10⟩, ⟨h11, h12, h13, h14, h15, h16⟩, h17, h18⟩
/-- the lets of a row -/
theorem ylets (hx : yCx S0 t V a n B C) {p : Nat} : ∀ (m k : Nat) (e : yEnv) (S T : yS), k + m = (zL V).length → yRl V n B C e S T → yGo q ks V n B C (fun _ => True) (Y q (d + 3) 126 47 [vr 125, vi p, vi k] [] S js) (Y q (d' + 5) 299 19 [vr 129, vi p, vi k] [] T ks) (fun S' c => c = yretv q S' js) (fun T' r => r = yretv q T' ks) (fun S' c => c = yretv q S' js)
  | 0, k, e, S, T, hk, h => by
    have hD := (iPq_cw hx.1.2.1 h.1.1.1.1).2.2.1.2.1.2.2.2.1
    have hD2 := (iPq_rw hx.1.2.2 h.1.1.1.2).2.2.2.1.1.2.2.2.1
    have g8 : gI S 8 = (zL V).length := hD.1
    have g51 : gI T 51 = (zL V).length := hD2.1
    have ek : k = (zL V).length := by omega
    refine Or.inl ⟨e, S, T, h, trivial, ?_, ?_⟩
    · show _ = _
      rw [w126_47, g8, ek, if_neg (show ¬ yr ((zL V).length : Int) < yr ((zL V).length : Int) by omega)]
    · show _ = _
      rw [w299_19, g51, ek, if_neg (show ¬ yr ((zL V).length : Int) < yr ((zL V).length : Int) by omega)]
  | m + 1, k, e, S, T, hk, h => by
    obtain ⟨⟨h8, h8', _⟩, l01, t01, tsc⟩ := vTo_all hx
    obtain ⟨c1, c2, _⟩ := yCx_c hx
    have hg := yCx_g hx
    have hkl : k < (zL V).length := by omega
    have hD := (iPq_cw hx.1.2.1 h.1.1.1.1).2.2.1.2.1.2.2.2.1
    have hD2 := (iPq_rw hx.1.2.2 h.1.1.1.2).2.2.2.1.1.2.2.2.1
    have g8 : gI S 8 = (zL V).length := hD.1
    have g51 : gI T 51 = (zL V).length := hD2.1
    have ek : yr (k : Int) = k := yr_eq (by omega) (by omega)
    have en : yr ((zL V).length : Int) = (zL V).length := yr_eq (by omega) (by omega)
    have kb : 0 ≤ (k : Int) ∧ (k : Int) < 8 := by omega
    have e1 : (k : Int) + 1 = ((k + 1 : Nat) : Int) := by omega
    have e8 : (8 : Int) + k = ((8 + k : Nat) : Int) := by omega
    obtain ⟨x, hxe⟩ : ∃ x, x = (zL V).getD k dDf := ⟨_, rfl⟩
    have hmem : x ∈ zL V := by
      rw [hxe, List.getD_eq_getElem?_getD, List.getElem?_eq_getElem hkl]
      exact List.getElem_mem hkl
    obtain ⟨w1, w5⟩ := hg.2.2.2.1.2 x hmem
    obtain ⟨_, _, d16, _⟩ := yLs_D hD dDf hkl
    have d16 : gA S 16 k = (x.2.2.1 : Nat) := by rw [hxe]; exact d16
    obtain ⟨_, _, d43⟩ := yLs_D hD2 dDf hkl
    have d43 : gA T 43 k = (x.2.2.1 : Nat) := by rw [hxe]; exact d43
    have cS : Y q (d + 3) 126 47 [vr 125, vi p, vi k] [] S js = YB q (Y q (d + 2) 75 0 [vr 118, vr 101, vi (x.2.2.1 : Nat), vu, vu, vu, vu, vu, vu] [] S js) (d + 3) 126 84 [vr 125, vi p, vi k] [] := by
      rw [w126_47, g8, ek, en, if_pos (by omega), if_pos kb, Int.toNat_natCast, d16]
    have rS : Y q (d' + 5) 299 19 [vr 129, vi p, vi k] [] T ks = YB q (Y q (d' + 4) 258 0 [vr 129, vr 139, vi (x.2.2.1 : Nat), vu, vu, vu, vu] [] T ks) (d' + 5) 299 38 [vr 129, vi p, vi k] [] := by
      rw [w299_19, g51, ek, en, if_pos (by omega), if_pos kb, Int.toNat_natCast, d43]
    rw [cS, rS]
    rcases yrk (q := q) (d := d) (d' := d') (js := js) (ks := ks) hx h sAw_0 w5 with ⟨S1, T1, r1, ⟨f1, f2⟩, ⟨v, v1, a1, a2, b1, b2⟩ | ⟨a1, b1⟩⟩
    · obtain ⟨S2, p1, p2, p3⟩ := c78 (q := q) (d := d + 2) (js := js) (f := 28) (t := 8 + k) (by omega) (by omega) (by omega) a2
      have p1 : Y q (d + 2) 78 0 [vr 118, vi 28, vi ((8 + k : Nat) : Int), vu] [] S1 js = yretv q S2 js := p1
      obtain ⟨T2, z1, z2, z3⟩ := r300 (q := q) (d := d' + 4) (js := ks) (k := k) (by omega) b2
      have n1 : ¬ yr 1 = 0 := by decide
      have cc : YB q (Y q (d + 2) 75 0 [vr 118, vr 101, vi (x.2.2.1 : Nat), vu, vu, vu, vu, vu, vu] [] S js) (d + 3) 126 84 [vr 125, vi p, vi k] [] = Y q (d + 3) 126 47 [vr 125, vi p, vi ((k + 1 : Nat) : Int)] [] S2 js := by
        rw [a1, YB_ret, w126_87, if_neg n1, e8, p1, YB_retv, w126_109, e1]
      have rr : YB q (Y q (d' + 4) 258 0 [vr 129, vr 139, vi (x.2.2.1 : Nat), vu, vu, vu, vu] [] T ks) (d' + 5) 299 38 [vr 129, vi p, vi k] [] = Y q (d' + 5) 299 19 [vr 129, vi p, vi ((k + 1 : Nat) : Int)] [] T2 ks := by
        rw [b1, YB_retv, w299_41, z1, YB_retv, w299_46, e1]
      obtain ⟨e', he'⟩ : ∃ e', e' = eU e 3 (fun i => if i = k then v else e 3 i) := ⟨_, rfl⟩
      have e2' : e' 2 = e 2 := by rw [he']; rfl
      have e3' : e' 3 = fun i => if i = k then v else e 3 i := by rw [he']; rfl
      have e4' : e' 4 = e 4 := by rw [he']; rfl
      have e5' : e' 5 = e 5 := by rw [he']; rfl
      have rel : yRl V n B C e' S2 T2 := by
        obtain ⟨⟨has, hcT, hrT⟩, hty⟩ := r1.1.2.2.2.1
        refine yRl_v r1 (by omega) (yWcn_m p2.1) (yWan_v z2.1) e2' e5' (fun m v hm hm2 hv => cV_fs p2 (by omega) hv) (fun i hi => ?_) ⟨⟨has, fun i hi => ?_, fun i hi => ?_⟩, fun i hi => ?_⟩
        · have := r1.1.2.2.1 i hi
          rw [e3']
          show cV S2 (8 + i) (if i = k then v else e 3 i) ∧ rVv T2 i (if i = k then v else e 3 i) ∧ yvt (if i = k then v else e 3 i) _
          by_cases zi : i = k
          · rw [if_pos zi, zi, ← hxe]
            refine ⟨p3, z3, ?_⟩
            have : decide (¬ x.2.1 = 0) = decide (x.2.1 = 1) := by
              rcases (show x.2.1 = 0 ∨ x.2.1 = 1 by omega) with z | z <;> rw [z] <;> rfl
            rw [this]
            exact v1
          · rw [if_neg zi]
            exact ⟨cV_fs p2 (by omega) this.1, rVv_fs (n := k) (m := i) z2 zi this.2.1, this.2.2⟩
        · rw [e4', p2.1.2.2.2.1 36 rfl]
          exact ⟨cV_fs p2 (by omega) (hcT i hi).1, (hcT i hi).2⟩
        · rw [e4', z2.1.2.2.2.1 63 rfl]
          exact ⟨rVv_fs (n := k) (m := 8 + i) z2 (by omega) (hrT i hi).1, (hrT i hi).2⟩
        · rw [e4']
          exact hty i hi
      rw [cc, rr]
      exact ylets hx m (k + 1) e' S2 T2 (by omega) rel
    · refine Or.inr ⟨2, _, sI S1 34 2, T1, Or.inl ⟨rfl, rfl⟩, yRl_er r1, ?_, ?_⟩
      · show _ = _
        rw [a1, YB_ret, w126_87, if_pos yr_0]
      · rw [b1, t299]
theorem ytrow (hx : yCx S0 t V a n B C) (h : yRl V n B C e S T) {p : Nat} (hp : p < n) (h69 : gI C 69 = p) : yGo q ks V n B (sI C 69 ((p + 1 : Nat) : Int)) (fun _ => True) (Y q (d + 3) 126 0 [vr 125, vi p, vu] [] S js) (Y q (d' + 5) 299 0 [vr 129, vi p, vu] [] T ks) (fun S' c => c = yretv q S' js) (fun T' r => r = yretv q T' ks) (fun S' c => c = yretv q S' js) := by
  obtain ⟨c1, c2, c3⟩ := yCx_c hx
  obtain ⟨_, ⟨hTB, hTC, i10, i11, a20, b7, hn⟩, _, _, hord⟩ := id hx
  obtain ⟨p1, p2, p3⟩ := hord p hp
  obtain ⟨⟨⟨⟨o1, o2⟩, o3, ⟨o4, o4a, o4b, o4c⟩, o5, o6, o7, o8⟩, h34, hLe, ⟨⟨has, hcT, hrT⟩, hty⟩, ⟨_, h7⟩, ⟨h8a, h9⟩, h10', h11⟩, u1, u2, u3, u4⟩ := id h
  obtain ⟨t1, t2, t3, t4, t5, t6, t7, t8, t9⟩ := id hTB
  have n40 := nrow_le (c := gI B 10) (n := gI B 11) ⟨t2, t3⟩ ⟨t5, t6⟩
  have ep : yr (p : Int) = p := yr_eq (by omega) (by omega)
  have kp : 0 ≤ (p : Int) ∧ (p : Int) < 40 := by omega
  have e32 : gI S 32 = p := o4a.trans h69
  have ep1 : (p : Int) + 1 = ((p + 1 : Nat) : Int) := by omega
  have s34 : gA S 34 p = gA B 34 p := by rw [o1.2.2.2.1 34 rfl]
  have t61 : gA T 61 p = gA B 34 p := by rw [o2.2.2.2.1 61 rfl, p1]
  obtain ⟨r, hr⟩ : ∃ r, r = gA B 34 p := ⟨_, rfl⟩
  rw [← hr] at s34 t61 p2 p3
  obtain ⟨S1, a1, a2, a3⟩ := c72 (q := q) (d := d) (js := js) (S0 := sI S 32 ((p + 1 : Nat) : Int)) (row := r) (c := gCc (sG0 S0)) (t := gA B 20) (w := fun k => if r < 0 then 0 else gB B 7 (r * gI B 10 + k).toNat) c2 (by omega) (by
    show gI S 10 = _
    rw [o1.1 10 rfl, c1]) (fun k hk => by
    refine ⟨?_, ?_, ?_⟩
    · show gA S 20 k = _
      rw [o1.2.2.2.1 20 rfl]
    · rcases (c3 k hk).2 with z | z
      · exact Or.inl z
      · refine Or.inr ⟨z, ?_⟩
        have hok := iTb_ok (row := r) (k := k) hTB c1 hk (by omega) z
        rw [c1]
        exact hok
    · show (if r < 0 then (0 : Int64) else gB B 7 (r * gI B 10 + k).toNat) = if r < 0 then 0 else gB S 7 (r * ((gCc (sG0 S0) : Nat) : Int) + k).toNat
      rw [o1.2.2.2.2.1 7 rfl, c1])
  have s32 : gI S1 32 = ((p + 1 : Nat) : Int) := by
    rw [a2.1.1 32 rfl]
    exact gI_self _ _ _
  obtain ⟨S2, b1, b2, b3⟩ := c71 (q := q) (d := d + 2) (js := js) (S := S1) (n := 26) (x := yi2l ((p + 1 : Nat) : Int)) (by omega)
  have b1 : Y q (d + 2) 71 0 [vr 118, vi 26, vj (yi2l ((p + 1 : Nat) : Int)), vu] [] S1 js = yretv q S2 js := b1
  obtain ⟨T1, hT1⟩ : ∃ T1, T1 = sI (sI T 64 r) 69 ((p + 1 : Nat) : Int) := ⟨_, rfl⟩
  have cS : Y q (d + 3) 126 0 [vr 125, vi p, vu] [] S js = Y q (d + 3) 126 47 [vr 125, vi p, vi 0] [] S2 js := by
    rw [w126_0, h34, if_pos yr_0, ep, if_pos kp, Int.toNat_natCast, s34, e32, ep1, a1, YB_retv, w126_31, s32, b1, YB_retv, w126_45]
  have rS : Y q (d' + 5) 299 0 [vr 129, vi p, vu] [] T ks = Y q (d' + 5) 299 19 [vr 129, vi p, vi 0] [] T1 ks := by
    rw [w299_0, ep, if_pos kp, Int.toNat_natCast, t61, ep1, hT1]
  have f1 : yFr yCw S S2 := yFr_tr (yFr_I rfl) (yFr_tr (yCw_m a2.1) (yCw_m b2.1))
  have lo : ∀ m v, 8 ≤ m → m ≠ 26 → cV S m v → cV S2 m v := fun m v hm h26 hv => cV_fs b2 h26 (cV_fl2 a2 (by omega) (cV_e hv rfl rfl rfl rfl))
  obtain ⟨e', he'⟩ : ∃ e', e' = eU (eU e 2 (yrv B r)) 5 (fun k => if k = 2 then .inl (yi2l ((p + 1 : Nat) : Int)) else e 5 k) := ⟨_, rfl⟩
  have e2 : e' 2 = yrv B r := by rw [he']; rfl
  have e3 : e' 3 = e 3 := by rw [he']; rfl
  have e4 : e' 4 = e 4 := by rw [he']; rfl
  have e50 : e' 5 0 = e 5 0 := by rw [he']; rfl
  have e51 : e' 5 1 = e 5 1 := by rw [he']; rfl
  have e52 : e' 5 2 = .inl (yi2l ((p + 1 : Nat) : Int)) := by rw [he']; rfl
  have si : ∀ k, k ≠ 32 → yWm 0 k = false → gI S2 k = gI S k := fun k h1 h2 => by
    rw [b2.1.1 k h2, a2.1.1 k h2]
    exact gI_ne _ _ _ h1
  have s32' : gI S2 32 = ((p + 1 : Nat) : Int) := (b2.1.1 32 rfl).trans s32
  have ti : ∀ k, k ≠ 64 → k ≠ 69 → gI T1 k = gI T k := fun k h1 h2 => by
    rw [hT1, gI_ne _ _ _ h2]
    exact gI_ne _ _ _ h1
  have t64 : gI T1 64 = r := by
    rw [hT1, gI_ne _ _ _ (by decide)]
    exact gI_self _ _ _
  have tv : ∀ m v, rVv T m v → rVv T1 m v := fun m v hv => rVv_e hv (by rw [hT1]; rfl) (by rw [hT1]; rfl) (by rw [hT1]; rfl)
  have rel : yRl V n B (sI C 69 ((p + 1 : Nat) : Int)) e' S2 T1 := by
    refine ⟨⟨⟨⟨yFr_tr o1 f1, ?_⟩, ?_, ⟨?_, ?_, ?_, ?_⟩, ?_, ?_, ?_, fun v hv => lo _ _ (by omega) (by omega) (o8 v hv)⟩, ?_, fun k hk => ?_, ⟨⟨has, fun k hk => ?_, fun k hk => ?_⟩, fun k hk => ?_⟩, ⟨⟨?_, ?_⟩, fun k hk => ?_⟩, ⟨?_, ?_⟩, ?_, ?_⟩, ?_, ?_, ?_, ?_⟩
    · -- frames do not name what was taken
      have g1 : yFr yRw (sI C 69 ((p + 1 : Nat) : Int)) C := ⟨fun k hk => by
        by_cases z : k = 69
        · rw [z] at hk
          exact absurd hk (by decide)
        · exact (gI_ne _ _ _ z).symm, fun _ _ => rfl, fun _ _ => rfl, fun _ _ => rfl, fun _ _ => rfl, fun _ _ => rfl⟩
      rw [hT1]
      exact yFr_tr g1 (yFr_tr o2 (yFr_tr (yFr_I rfl) (yFr_I rfl)))
    · rw [ti 68 (by decide) (by decide), si 29 (by decide) rfl]
      exact o3
    · rw [s32', hT1]
      exact gI_self _ _ _
    · rw [s32', gI_self]
    · rw [s32']
      omega
    · rw [s32']
      omega
    · rw [ti 70 (by decide) (by decide), si 33 (by decide) rfl]
      exact o5
    · rw [si 29 (by decide) rfl, si 28 (by decide) rfl, si 27 (by decide) rfl, b2.1.2.2.2.1 33 rfl, a2.1.2.2.2.1 33 rfl, hT1]
      exact o6
    · rw [b2.1.2.2.2.1 35 rfl, a2.1.2.2.2.1 35 rfl, hT1]
      exact o7
    · rw [si 34 (by decide) rfl]
      exact h34
    · rw [e3]
      exact ⟨lo _ _ (by omega) (by have := (vTo_all hx).1.1; omega) (hLe k hk).1, tv _ _ (hLe k hk).2.1, (hLe k hk).2.2⟩
    · rw [e4, b2.1.2.2.2.1 36 rfl, a2.1.2.2.2.1 36 rfl]
      exact ⟨lo _ _ (by omega) (by have := (vTo_all hx).1.2.1; omega) (hcT k hk).1, (hcT k hk).2⟩
    · rw [e4, hT1]
      exact ⟨rVv_e (hrT k hk).1 rfl rfl rfl, (hrT k hk).2⟩
    · rw [e4]
      exact hty k hk
    · rw [t64]
      omega
    · rw [t64]
      exact p3
    · rw [e2, t64]
      refine ⟨?_, rfl⟩
      exact cV_fs b2 (by omega) (a3 k (by omega))
    · rw [e51]
      exact lo _ _ (by omega) (by omega) h8a
    · rw [e51]
      exact h9
    · rw [e52]
      exact b3
    · rw [e52, s32']
    · rw [ti 72 (by decide) (by decide), si 38 (by decide) rfl]
      exact u1
    · rw [si 29 (by decide) rfl]
      exact u2
    · rw [e50]
      exact lo _ _ (by omega) (by omega) u3
    · rw [e50, si 29 (by decide) rfl]
      exact u4
  have hl := ylets (q := q) (d := d) (d' := d') (js := js) (ks := ks) (yCx_69 (x := ((p + 1 : Nat) : Int)) hx) (p := p) (zL V).length 0 e' S2 T1 (by omega) rel
  rw [cS, rS]
  exact hl
end YUJL
end YUJ
