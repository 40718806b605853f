/-! RUN: the totals take a row in, on both sides -/
section YUI
section YUIL
variable {q : yQ} {d d' : Nat} {js ks : List xO} {S0 : yS} {t : Nat} {V : yPV} {a : Int} {n : Nat} {B C S T S' T' : yS} {e e' : yEnv}
/-- values are others -/
theorem yRl_v (h : yRl V n B C e S T) (h10 : gI B 10 ≤ 8) (hc : yFr yWcn S S') (hf : yFr yWan T T') (e2 : e' 2 = e 2) (e5 : e' 5 = e 5) (hlo : ∀ m v, m < 8 ∨ 24 ≤ m → m < 28 → cV S m v → cV S' m v) (hL : ∀ k, k < (zL V).length → cV S' (8 + k) (e' 3 k) ∧ rVv T' k (e' 3 k) ∧ yvt (e' 3 k) (decide (¬ ((zL V).getD k dDf).2.1 = 0))) (hT : yVt V e' S' T' ∧ ∀ k, k < (zT V).length → yvt (e' 4 k) (decide (¬ ((zT V).getD k dDf).2.1 = 0))) : yRl V n B C e' S' T' := by
  obtain ⟨⟨⟨⟨o1, o2⟩, o3, o4, o5, o6, o7, o8⟩, h2, h3, _, ⟨h6, h7⟩, ⟨h8a, h9⟩, h10', h11⟩, u1, u2, u3, u4⟩ := h
  refine ⟨⟨⟨⟨yFr_tr o1 (yCw_c hc), yFr_tr o2 (yRw_a hf)⟩, ?_⟩, ?_, hL, hT, ⟨?_, fun k hk => ?_⟩, ⟨?_, ?_⟩, ?_, ?_⟩, ?_, ?_, ?_, ?_⟩
  · rw [hc.1 29 rfl, hc.1 32 rfl, hc.1 33 rfl, hc.1 28 rfl, hc.1 27 rfl, hc.2.2.2.1 33 rfl, hc.2.2.2.1 35 rfl, hf.1 68 rfl, hf.1 69 rfl, hf.1 70 rfl, hf.2.2.2.1 64 rfl, hf.2.2.2.1 62 rfl]
    exact ⟨o3, o4, o5, o6, o7, fun v hv => hlo 27 v (Or.inr (by omega)) (by omega) (o8 v hv)⟩
  · rw [hc.1 34 rfl]
    exact h2
  · rw [hf.1 64 rfl]
    exact h6
  · rw [hf.1 64 rfl, e2]
    exact ⟨hlo _ _ (by omega) (by omega) (h7 k hk).1, (h7 k hk).2⟩
  · rw [e5]
    exact hlo _ _ (by omega) (by omega) h8a
  · rw [e5]
    exact h9
  · rw [e5]
    exact hlo _ _ (by omega) (by omega) h10'
  · rw [e5, hc.1 32 rfl]
    exact h11
  · rw [hf.1 72 rfl, hc.1 38 rfl]
    exact u1
  · rw [hc.1 29 rfl]
    exact u2
  · rw [e5]
    exact hlo _ _ (by omega) (by omega) u3
  · rw [e5, hc.1 29 rfl]
    exact u4
theorem ytal_t {kd : Nat} {first : Bool} {old v : yVal} {x : Bool} (ho : yvt old x) (hv : kd ≠ 6 → kd ≠ 7 → yvt v x) (h6 : kd = 6 ∨ kd = 7 → ∃ a, old = .inl a) (hs : kd = 6 → ∃ b, v = .inl b) : yvt (ytal kd first old v) x := by
  unfold ytal
  by_cases z6 : kd = 6
  · rw [if_pos z6]
    obtain ⟨a, rfl⟩ := h6 (Or.inl z6)
    obtain ⟨b, rfl⟩ := hs z6
    exact ho
  · rw [if_neg z6]
    by_cases z7 : kd = 7
    · rw [if_pos z7]
      obtain ⟨a, rfl⟩ := h6 (Or.inr z7)
      exact ho
    · rw [if_neg z7]
      have hv := hv z6 z7
      split
      · split
        · exact hv
        · exact ho
      · split
        · split
          · exact hv
          · exact ho
        · split
          · split
            · exact hv
            · exact ho
          · exact hv
theorem sAw_0 {G : yGx} {L T : List yDf} : ∀ op i y, sAw G L [] op i y → sAw G L T op i y := fun op i y h => by
  rcases h with h | h | ⟨_, h, _⟩
  · exact Or.inl h
  · exact Or.inr (Or.inl h)
  · exact absurd h (Nat.not_lt_zero _)
/-- the totals take the row in -/
theorem ytin (hx : yCx S0 t V a n B C) {x0 x1 : Int} : ∀ (m k : Nat) (e : yEnv) (S T : yS), k + m = (zT V).length → yRl V n B C e S T → yGo q ks V n B C (fun S' => gI S' 32 = gI S 32) (Y q (d + 3) 128 2 [vr 125, vi k] [] S js) (Y q (d' + 6) 297 117 [vr 129, vi x0, vi x1, vi k] [] T ks) (fun S' c => c = yretv q S' js) (fun T' r => r = Y q (d' + 6) 297 117 [vr 129, vi x0, vi x1, vi (zT V).length] [] T' ks) (fun S' c => c = yretv q S' js)
  | 0, k, e, S, T, hk, h => by
    have hP := iPq_cw hx.1.2.1 h.1.1.1.1
    have hD := hP.2.2.1.2.1.2.2.2.2.1
    have g9 : gI S 9 = (zT V).length := hD.1
    have ek : k = (zT V).length := by omega
    refine Or.inl ⟨e, S, T, h, rfl, ?_, ?_⟩
    · show _ = _
      rw [w128_2, g9, ek, if_neg (show ¬ yr ((zT V).length : Int) < yr ((zT V).length : Int) by omega)]
    · show _ = _
      rw [ek]
  | m + 1, k, e, S, T, hk, h => by
    obtain ⟨⟨h8, h8', _⟩, l01, t01, tsc⟩ := vTo_all hx
    obtain ⟨c1, c2, _⟩ := yCx_c hx
    have hg := yCx_g hx
    have hkl : k < (zT V).length := by omega
    have hP := iPq_cw hx.1.2.1 h.1.1.1.1
    have hQ := iPq_rw hx.1.2.2 h.1.1.1.2
    have hD := hP.2.2.1.2.1.2.2.2.2.1
    have hD2 := hQ.2.2.2.1.1.2.2.2.2.1
    have g9 : gI S 9 = (zT V).length := hD.1
    have g52 : gI T 52 = (zT V).length := hD2.1
    have h34 : gI S 34 = 0 := h.1.2.1
    have ek : yr (k : Int) = k := yr_eq (by omega) (by omega)
    have en : yr ((zT V).length : Int) = (zT V).length := yr_eq (by omega) (by omega)
    have kb : 0 ≤ (k : Int) ∧ (k : Int) < 8 := by omega
    have e1 : (k : Int) + 1 = ((k + 1 : Nat) : Int) := by omega
    have e16 : (16 : Int) + k = ((16 + k : Nat) : Int) := by omega
    obtain ⟨x, hxe⟩ : ∃ x, x = (zT V).getD k dDf := ⟨_, rfl⟩
    have hmem : x ∈ zT V := by
      rw [hxe, List.getD_eq_getElem?_getD, List.getElem?_eq_getElem hkl]
      exact List.getElem_mem hkl
    obtain ⟨w1, w2, w3, ty, w4, w5, w6, w7⟩ := hg.2.2.2.2.1.2 x hmem
    obtain ⟨_, _, d17, d1, _⟩ := yLs_D hD dDf hkl
    have d17 : gA S 17 k = (x.2.2.1 : Nat) := by rw [hxe]; exact d17
    obtain ⟨_, _, d46, _, _⟩ := yLs_D hD2 dDf hkl
    have d46 : gA T 46 k = (x.2.2.1 : Nat) := by rw [hxe]; exact d46
    have cS : Y q (d + 3) 128 2 [vr 125, vi k] [] S js = YB q (Y q (d + 2) 75 0 [vr 118, vr 101, vi (x.2.2.1 : Nat), vu, vu, vu, vu, vu, vu] [] S js) (d + 3) 128 46 [vr 125, vi k] [] := by
      rw [w128_2, g9, ek, en, if_pos (by omega), h34, if_pos yr_0, if_pos kb, Int.toNat_natCast, d17]
    have rS : Y q (d' + 6) 297 117 [vr 129, vi x0, vi x1, vi k] [] T ks = YB q (YB q (Y q (d' + 4) 258 0 [vr 129, vr 139, vi (x.2.2.1 : Nat), vu, vu, vu, vu] [] T ks) (d' + 5) 301 11 [vr 129, vi k, vu, vu, vu, vu] []) (d' + 6) 297 127 [vr 129, vi x0, vi x1, vi k] [] := by
      rw [w297_117, g52, ek, en, if_pos (by omega), w301_0, ek, if_pos kb, Int.toNat_natCast, d46]
    rw [cS, rS]
    rcases yrk (q := q) (d := d) (d' := d') (js := js) (ks := ks) hx h sAw_0 w5 with ⟨S1, T1, r1, ⟨f1, f2⟩, ⟨v, v1, a1, a2, b1, b2⟩ | ⟨a1, b1⟩⟩
    · obtain ⟨has, hcT, hrT⟩ := r1.1.2.2.2.1.1
      have hty := r1.1.2.2.2.1.2 k hkl
      rw [← hxe] at hty
      obtain ⟨o1, o2⟩ := hcT k hkl
      obtain ⟨o3, o4⟩ := hrT k hkl
      have hP1 := iPq_cw hx.1.2.1 r1.1.1.1.1
      have hQ1 := iPq_rw hx.1.2.2 r1.1.1.1.2
      obtain ⟨_, _, _, y1, _⟩ := yLs_D hP1.2.2.1.2.1.2.2.2.2.1 dDf hkl
      have y1 : gC S1 1 k = x.2.2.2.1 := by rw [hxe]; exact y1
      obtain ⟨_, _, _, y2, _⟩ := yLs_D hQ1.2.2.2.1.1.2.2.2.2.1 dDf hkl
      have y2 : gA T1 45 k = (x.2.2.2.1 : Nat) := by rw [hxe]; exact y2
      -- types
      have t6 : x.2.2.2.1 = 6 ∨ x.2.2.2.1 = 7 → ∃ z, e 4 k = .inl z := fun hz => by
        have : x.2.1 = 0 := by
          rw [w7]
          rcases hz with hz | hz
          · rw [if_neg (by omega)]
            exact w6 hz
          · rw [if_pos hz]
        rw [this] at hty
        match e 4 k, hty with
        | .inl z, _ => exact ⟨z, rfl⟩
        | .inr l, hty => exact absurd hty.1 (by decide)
      have tv : x.2.2.2.1 ≠ 7 → yvt v (decide (¬ x.2.1 = 0)) := fun hz => by
        rw [w7, if_neg hz]
        have : decide (¬ ty = 0) = decide (ty = 1) := by
          rcases (show ty = 0 ∨ ty = 1 by omega) with rfl | rfl <;> rfl
        rw [this]
        exact v1
      have ts : x.2.2.2.1 ≠ 7 → ysame v (e 4 k) := fun hz => ysame_t (tv hz) hty
      obtain ⟨S2, p1, p2, p3⟩ := c129 (q := q) (d := d) (js := js) (m := 16 + k) (kd := x.2.2.2.1) (first := !has k) (old := e 4 k) (v := v) (by omega) w2 a2 o1 ts t6
      obtain ⟨T2, z1, z2, z3⟩ := r301t (q := q) (d := d' + 4) (js := ks) (k := k) (kd := x.2.2.2.1) (has := has k) (old := e 4 k) (v := v) (by omega) w2 y2 o4 b2 o3 ts t6
      have n1 : ¬ yr 1 = 0 := by decide
      have h67 : x.2.2.2.1 < 67 := by omega
      obtain ⟨S3, hS3⟩ : ∃ S3, S3 = sA S2 36 k 1 := ⟨_, rfl⟩
      have ez : yi2z 1 = 1 := by decide
      have cc : YB q (Y q (d + 2) 75 0 [vr 118, vr 101, vi (x.2.2.1 : Nat), vu, vu, vu, vu, vu, vu] [] S js) (d + 3) 128 46 [vr 125, vi k] [] = Y q (d + 3) 128 2 [vr 125, vi ((k + 1 : Nat) : Int)] [] S3 js := by
        rw [a1, YB_ret, w128_49, if_neg n1, ek, Int.toNat_natCast, y1, if_pos (show (0 ≤ (k : Int) ∧ (k : Int) < 8) ∧ x.2.2.2.1 < 67 from ⟨kb, h67⟩), if_pos kb, o2, e16]
        have pk : ∀ z : Int, z = yb1 (!has k) → YB q (Y q (d + 2) 129 0 [vr 125, vr x.2.2.2.1, vi ((16 + k : Nat) : Int), vi z, vu] [] S1 js) (d + 3) 128 83 [vr 125, vi k] [] = Y q (d + 3) 128 2 [vr 125, vi ((k + 1 : Nat) : Int)] [] S3 js := fun z hz => by
          rw [hz, p1, YB_retv, w128_86, ek, if_pos kb, Int.toNat_natCast, ez, e1, hS3]
        cases hh : has k with
        | false =>
          rw [if_pos (show yr (if false = true then 1 else 0) = 0 from rfl)]
          exact pk 1 (by rw [hh]; rfl)
        | true =>
          rw [if_neg (show ¬ yr (if true = true then 1 else 0) = 0 by decide)]
          exact pk 0 (by rw [hh]; rfl)
      have rr : YB q (YB q (Y q (d' + 4) 258 0 [vr 129, vr 139, vi (x.2.2.1 : Nat), vu, vu, vu, vu] [] T ks) (d' + 5) 301 11 [vr 129, vi k, vu, vu, vu, vu] []) (d' + 6) 297 127 [vr 129, vi x0, vi x1, vi k] [] = Y q (d' + 6) 297 117 [vr 129, vi x0, vi x1, vi ((k + 1 : Nat) : Int)] [] T2 ks := by
        rw [b1, YB_retv, z1, YB_retv, w297_130, e1]
      obtain ⟨e', he'⟩ : ∃ e', e' = eU e 4 (fun i => if i = k then ytal x.2.2.2.1 (!has k) (e 4 k) v else e 4 i) := ⟨_, rfl⟩
      have e2' : e' 2 = e 2 := by rw [he']; rfl
      have e3' : e' 3 = e 3 := by rw [he']; rfl
      have e4' : e' 4 = fun i => if i = k then ytal x.2.2.2.1 (!has k) (e 4 k) v else e 4 i := by rw [he']; rfl
      have e5' : e' 5 = e 5 := by rw [he']; rfl
      have f3 : yFr yWcn S1 S3 := by
        rw [hS3]
        exact yFr_tr (yWcn_m p2.1) (yFr_A rfl)
      have f4 : yFr yWan T1 T2 := yFr_tr (yFr_A rfl) (yWan_v z2.1)
      have lo : ∀ m v, m ≠ 16 + k → cV S1 m v → cV S3 m v := fun m v hm hv => by
        rw [hS3]
        exact cV_e (cV_fs p2 hm hv) rfl rfl rfl rfl
      have lo2 : ∀ m v, m ≠ 8 + k → rVv T1 m v → rVv T2 m v := fun m v hm hv => rVv_fs (n := 8 + k) (m := m) z2 hm (rVv_63A hv)
      have rel : yRl V n B C e' S3 T2 := by
        refine yRl_v r1 (by omega) f3 f4 e2' e5' (fun m v hm hm2 hv => lo m v (by omega) hv) (fun i hi => ?_) ⟨⟨fun i => if i = k then true else has i, fun i hi => ?_, fun i hi => ?_⟩, fun i hi => ?_⟩
        · have := r1.1.2.2.1 i hi
          rw [e3']
          exact ⟨lo _ _ (by omega) this.1, lo2 _ _ (by omega) this.2.1, this.2.2⟩
        · rw [e4']
          show cV S3 (16 + i) (if i = k then ytal x.2.2.2.1 (!has k) (e 4 k) v else e 4 i) ∧ gA S3 36 i = if (if i = k then true else has i) = true then 1 else 0
          have g36 : gA S3 36 i = if i = k then 1 else gA S1 36 i := by
            rw [hS3, gA_self _ _ _ _ _, p2.1.2.2.2.1 36 rfl]
          rw [g36]
          by_cases zi : i = k
          · rw [if_pos zi, if_pos zi, if_pos zi, if_pos rfl, zi]
            refine ⟨?_, rfl⟩
            rw [hS3]
            exact cV_e p3 rfl rfl rfl rfl
          · rw [if_neg zi, if_neg zi, if_neg zi]
            exact ⟨lo _ _ (by omega) (hcT i hi).1, (hcT i hi).2⟩
        · rw [e4']
          show rVv T2 (8 + i) (if i = k then ytal x.2.2.2.1 (!has k) (e 4 k) v else e 4 i) ∧ gA T2 63 i = if (if i = k then true else has i) = true then 1 else 0
          have g63 : gA T2 63 i = if i = k then 1 else gA T1 63 i := by
            rw [z2.1.2.2.2.1 63 rfl]
            exact gA_self _ _ _ _ _
          rw [g63]
          by_cases zi : i = k
          · rw [if_pos zi, if_pos zi, if_pos zi, if_pos rfl, zi]
            exact ⟨z3, rfl⟩
          · rw [if_neg zi, if_neg zi, if_neg zi]
            exact ⟨lo2 _ _ (by omega) (hrT i hi).1, (hrT i hi).2⟩
        · rw [e4']
          show yvt (if i = k then ytal x.2.2.2.1 (!has k) (e 4 k) v else e 4 i) _
          by_cases zi : i = k
          · rw [if_pos zi, zi, ← hxe]
            exact ytal_t hty (fun _ h7 => tv h7) t6 (fun h6 => by
              rcases ts (by omega) with ⟨z, _, hz, _⟩ | ⟨l, r, _, hz⟩
              · exact ⟨z, hz⟩
              · obtain ⟨w, hw⟩ := t6 (Or.inl h6)
                rw [hw] at hz
                cases hz)
          · rw [if_neg zi]
            exact r1.1.2.2.2.1.2 i hi
      have e32 : gI S3 32 = gI S 32 := (f3.1 32 rfl).trans (f1.1 32 rfl)
      have ih := ytin hx (x0 := x0) (x1 := x1) m (k + 1) e' S3 T2 (by omega) rel
      rw [e32] at ih
      rw [cc, rr]
      exact ih
    · have h34' : ¬ yr (gI (sI S1 34 2) 34) = 0 := by
        rw [gI_self]
        decide
      refine Or.inr ⟨2, _, sI S1 34 2, T1, Or.inl ⟨rfl, rfl⟩, yRl_er r1, ?_, ?_⟩
      · show _ = _
        rw [a1, YB_ret, w128_49, if_pos yr_0, w128_2, if_neg h34', ite_self]
      · rw [b1, t301, t297]
end YUIL
end YUI
