/-! RUN: an expression, on both sides -/
section YTV
def yAo (c l m op i : Nat) : Prop := (op = 2 ∧ i < c) ∨ (op = 3 ∧ i < l) ∨ (op = 4 ∧ i < m) ∨ (op = 5 ∧ i ≤ 2)
section YTVL
variable {q : yQ} {d d' : Nat} {js ks : List xO} {S0 : yS} {t : Nat} {V : yPV} {a : Int} {n : Nat} {B C S T : yS} {e : yEnv}
theorem yCx_g (h : yCx S0 t V a n B C) : vGd (sG0 S0) V := h.1.2.1.2.2.2.2
theorem yCx_c (h : yCx S0 t V a n B C) : gI B 10 = ((gCc (sG0 S0) : Nat) : Int) ∧ gCc (sG0 S0) ≤ 8 ∧ ∀ k, k < gCc (sG0 S0) → gA B 20 k = gCt (sG0 S0) k ∧ (gA B 20 k = 0 ∨ gA B 20 k = 1) := by
  obtain ⟨⟨_, ⟨⟨hin, _⟩, ⟨h1, h2, _⟩, _⟩, _⟩, ⟨hT, _⟩, _⟩ := h
  have h10 := hin.2.1
  have e1 : gI B 10 = ((gCc (sG0 S0) : Nat) : Int) := by
    rw [h1]
    show gI S0 10 = (((gI S0 10).toNat : Nat) : Int)
    omega
  have e2 : gCc (sG0 S0) ≤ 8 := by
    show (gI S0 10).toNat ≤ 8
    omega
  exact ⟨e1, e2, fun k hk => ⟨h2 k (by omega), (hT.2.2.2.2.2.2.1 k (by omega)).2.2⟩⟩
theorem yvt_c {ty : Int} {w : Int64} : yvt (yvc ty w) (decide (¬ ty = 0)) := by
  unfold yvc
  by_cases z : ty = 0
  · rw [if_pos z]
    exact decide_eq_false fun y => y z
  · rw [if_neg z]
    exact ⟨decide_eq_true z, by have := ycl_len w.toBitVec.toNat 8; omega⟩
theorem rVv_63 {k : Nat} {v : yVal} {x : Int} (h : rVv T k v) : rVv (sI T 63 x) k v := by
  match v, h with
  | .inl x, h => exact h
  | .inr l, h => exact h
theorem yRl_cEn (hx : yCx S0 t V a n B C) (h : yRl V n B C e S T) : cEn S (yAo (gCc (sG0 S0)) (zL V).length (zT V).length) e := by
  obtain ⟨c1, c2, _⟩ := yCx_c hx
  obtain ⟨⟨_, _, h3, ⟨⟨has, h4, _⟩, _⟩, ⟨_, h5⟩, ⟨h6, _⟩, h7, _⟩, _, _, h8, _⟩ := h
  intro op k _ _ hk8 _ hA
  rcases hA with ⟨rfl, hk⟩ | ⟨rfl, hk⟩ | ⟨rfl, hk⟩ | ⟨rfl, hk⟩
  · have : 8 * (2 - 2) + k = k := by omega
    rw [this]
    exact (h5 k (by omega)).1
  · have : 8 * (3 - 2) + k = 8 + k := by omega
    rw [this]
    exact (h3 k hk).1
  · have : 8 * (4 - 2) + k = 16 + k := by omega
    rw [this]
    exact (h4 k hk).1
  · match k, hk with
    | 0, _ => exact h8
    | 1, _ => exact h6
    | 2, _ => exact h7
theorem yRl_sp (h : yRl V n B C e S T) : ∀ i, i ≤ 2 → yAo (gCc (sG0 S0)) (zL V).length (zT V).length 5 i ∧ yvt (e 5 i) false := by
  obtain ⟨⟨_, _, _, _, _, ⟨_, h6⟩, _, h7⟩, _, _, _, h8⟩ := h
  intro i hi
  refine ⟨Or.inr (Or.inr (Or.inr ⟨rfl, hi⟩)), ?_⟩
  match i, hi with
  | 0, _ =>
    rw [h8]
    exact rfl
  | 1, _ =>
    rw [h6]
    exact rfl
  | 2, _ =>
    rw [h7]
    exact rfl
theorem yRl_ty (hx : yCx S0 t V a n B C) (h : yRl V n B C e S T) {op i : Nat} {y : Bool} (hs : sAw (sG0 S0) (zL V) (zT V) op i y) : i < 8 ∧ yAo (gCc (sG0 S0)) (zL V).length (zT V).length op i ∧ yvt (e op i) y := by
  obtain ⟨c1, c2, c3⟩ := yCx_c hx
  obtain ⟨_, _, _, g4, g5, _⟩ := yCx_g hx
  obtain ⟨⟨_, _, h3, ⟨_, h4⟩, ⟨_, h5⟩, _⟩, _⟩ := h
  rcases hs with ⟨rfl, hi, rfl⟩ | ⟨rfl, hi, rfl⟩ | ⟨rfl, hi, rfl⟩
  · refine ⟨by omega, Or.inl ⟨rfl, hi⟩, ?_⟩
    rw [(h5 i (by omega)).2, ← (c3 i hi).1]
    exact yvt_c
  · exact ⟨by have := g4.1; omega, Or.inr (Or.inl ⟨rfl, hi⟩), (h3 i hi).2.2⟩
  · exact ⟨by have := g5.1; omega, Or.inr (Or.inr (Or.inl ⟨rfl, hi⟩)), h4 i hi⟩
theorem yRl_rEn (hx : yCx S0 t V a n B C) (h : yRl V n B C e S T) : rEn q d' ks (sI T 63 0) (yAo (gCc (sG0 S0)) (zL V).length (zT V).length) e := by
  obtain ⟨c1, c2, c3⟩ := yCx_c hx
  obtain ⟨_, ⟨hTB, hTC, i10, i11, a20, b7, hn⟩, ⟨_, _, _, _, _, i65⟩, _, _⟩ := hx
  obtain ⟨⟨⟨⟨_, hfT⟩, ⟨o1, _⟩, ⟨o2, _⟩, _⟩, _, h3, ⟨⟨has, _, h4⟩, _⟩, ⟨⟨r1, r2⟩, h5⟩, ⟨_, h6⟩, _, h7⟩, _, _, _, h8⟩ := h
  obtain ⟨t1, t2, t3, t4, t5, t6, t7, t8, t9⟩ := hTC
  have n40 := nrow_le (c := gI B 10) (n := gI B 11) ⟨by omega, by omega⟩ ⟨by omega, by rw [← i11, ← i10]; exact t6⟩
  refine ⟨?_, ?_, ?_⟩
  · refine r264 (row := gI T 64) (c := gCc (sG0 S0)) (t := gA B 20) (w := fun k => if gI T 64 < 0 then 0 else gB B 7 (gI T 64 * gI B 10 + k).toNat) c2 ⟨r1, by omega⟩ ?_ rfl ?_ ?_ ?_
    · show gI T 41 = _
      rw [hfT.1 41 rfl, t1, i10, c1]
    · intro k hk
      rcases hk with ⟨_, hk⟩ | ⟨hk, _⟩ | ⟨hk, _⟩ | ⟨hk, _⟩
      · exact hk
      · omega
      · omega
      · omega
    · intro k hk
      exact (h5 k (by omega)).2
    · intro k hk
      have e38 : gA (sI T 63 0) 38 k = gA B 20 k := by
        show gA T 38 k = _
        rw [hfT.2.2.2.1 38 rfl, (t7 k (by omega)).2.1, a20]
      refine ⟨e38, ?_, ?_⟩
      · rcases (c3 k hk).2 with z | z
        · exact Or.inl z
        · refine Or.inr ⟨z, ?_⟩
          have hok := iTb_ok (row := gI T 64) (k := k) hTB c1 hk (by omega) z
          rw [c1]
          exact hok
      · show (if gI T 64 < 0 then (0 : Int64) else gB B 7 (gI T 64 * gI B 10 + k).toNat) = if gI T 64 < 0 then 0 else gB T 12 (gI T 64 * ((gCc (sG0 S0) : Nat) : Int) + k).toNat
        by_cases z : gI T 64 < 0
        · rw [if_pos z, if_pos z]
        · rw [if_neg z, if_neg z, hfT.2.2.2.2.1 12 rfl, c1]
          obtain ⟨j1, j2⟩ := iTb_in (row := gI T 64) (k := k) c1 (by omega) hk (by omega) (by omega)
          rw [t8 _ (by omega), b7]
  · intro op k hop hk8 hA
    rcases hA with ⟨rfl, hk⟩ | ⟨rfl, hk⟩ | ⟨rfl, hk⟩ | ⟨rfl, hk⟩
    · omega
    · have : 8 * (3 - 3) + k = k := by omega
      rw [this]
      exact rVv_63 (h3 k hk).2.1
    · have : 8 * (4 - 3) + k = 8 + k := by omega
      rw [this]
      exact rVv_63 (h4 k hk).1
    · omega
  · intro k hk _
    have n1 : ¬ yr 1 = 0 := by decide
    have e65 : gI (sI T 63 0) 65 = 1 := by
      show gI T 65 = 1
      rw [hfT.1 65 rfl]
      exact i65
    have e68 : gI (sI T 63 0) 68 = gI S 29 := o1
    have e69 : gI (sI T 63 0) 69 = gI S 32 := o2
    have e3 : gJ (sI T 63 0) 3 = gJ C 3 := hfT.2.1 3 rfl
    unfold rsp
    rw [e65, if_neg n1, e68, e69, e3]
    match k, hk with
    | 0, _ => exact h8
    | 1, _ => exact h6
    | 2, _ => exact h7
theorem yrk {Tt : List yDf} {st ty : Nat} (hx : yCx S0 t V a n B C) (h : yRl V n B C e S T) (hT : ∀ op i y, sAw (sG0 S0) (zL V) Tt op i y → sAw (sG0 S0) (zL V) (zT V) op i y) (hg : sGc (sG0 S0) (zC V) (zX V) (zL V) Tt st ty) : ∃ S' T' : yS, yRl V n B C e S' T' ∧ (yFr yWm S S' ∧ yFr yWp T T') ∧ ((∃ v, yvt v (decide (ty = 1)) ∧ Y q (d + 2) 75 0 [vr 118, vr 101, vi st, vu, vu, vu, vu, vu, vu] [] S js = yret q (vi 1) S' js ∧ cV S' 28 v ∧ Y q (d' + 4) 258 0 [vr 129, vr 139, vi st, vu, vu, vu, vu] [] T ks = yretv q T' ks ∧ rV T' 0 v) ∨ (Y q (d + 2) 75 0 [vr 118, vr 101, vi st, vu, vu, vu, vu, vu, vu] [] S js = yret q (vi 0) S' js ∧ Y q (d' + 4) 258 0 [vr 129, vr 139, vi st, vu, vu, vu, vu] [] T ks = ythr q (ystp 2 (Int32.ofInt (-1))) T' ks)) := by
  obtain ⟨c1, c2, _⟩ := yCx_c hx
  obtain ⟨_, _, _, g4, g5, _⟩ := yCx_g hx
  obtain ⟨m, hv⟩ := sGc_v hg
  obtain ⟨hl, hB, hC⟩ := hx.1
  have pS := iPq_cw hB h.1.1.1.1
  have pT := iPq_rw hC h.1.1.1.2
  have hin := hB.1.1
  have k1 := kvl (q := q) (d := d) (js := js) (S := S) (e := e) (A := yAo (gCc (sG0 S0)) (zL V).length (zT V).length) hin hl pS.2.2.1.2.2.2.1 (iPq_C pS) pS.2.2.1.2.2.2.2 (iPq_tx pS hl) hv (yRl_cEn hx h) (fun op i y hs => yRl_ty hx h (hT op i y hs)) (yRl_sp h)
  have k2 := qvl (q := q) (d := d') (js := ks) (S := T) (e := e) (A := yAo (gCc (sG0 S0)) (zL V).length (zT V).length) hin hl pT.2.2.2.1.2.2.1 (by have := iPq_C pT; omega) (iPq_rx pT hl) hv (yRl_rEn hx h) (fun op i y hs => yRl_ty hx h (hT op i y hs)) (yRl_sp h)
  have h10 : gI B 10 ≤ 8 := by omega
  cases hm : m e with
  | some v =>
    rw [hm] at k1 k2
    obtain ⟨v1, S', a1, a2⟩ := k1
    obtain ⟨_, T', b1, b2⟩ := k2
    have f2 : yFr yWp T T' := yFr_tr (yFr_I rfl) b2.1
    exact ⟨S', T', yRl_m g4.1 g5.1 h10 h a2 f2, ⟨a2.1, f2⟩, Or.inl ⟨v, v1, a1, a2.2.2.2 0 v rfl, b1, b2.2.2 0 v rfl⟩⟩
  | none =>
    rw [hm] at k1 k2
    obtain ⟨S', a1, a2⟩ := k1
    obtain ⟨T', b1, b2⟩ := k2
    exact ⟨S', T', yRl_m g4.1 g5.1 h10 h a2 b2, ⟨a2.1, b2⟩, Or.inr ⟨a1, b1⟩⟩
end YTVL
end YTV
