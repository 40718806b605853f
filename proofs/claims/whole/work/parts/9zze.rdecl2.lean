/-! THE REFERENCE READS A PROGRAM: orders, groups, lets -/
section YRW
section YRWL
variable {q : yQ} {d : Nat} {js : List xO} {G : yGx} {σ σ1 : yPS} {S S1 S' : yS} {sc c c' w : Int} {dp dp' t : Nat} {b : Bool} {o : Option xRes} {B B1 B2 : yS → Option xRes → Prop} {κ κ1 : yKp}
theorem sgx_k {f : yPV → Bool} {n p kd t1 : Nat} (h : sgd f n p (sxp G kd (.inr (t, κ))) = .inr (t1, κ1)) (hb : sbk κ = sbk κ1) : t1 = t + 1 ∧ κ1 = κ ∧ ∀ V, κ = .inr V → f V = true := by
  unfold sxp at h
  split at h
  · exact sgd_k (t := t + 1) h hb
  · nomatch h
theorem sxp_k {kd t1 : Nat} (h : sxp G kd (.inr (t, κ)) = .inr (t1, κ1)) : t1 = t + 1 ∧ κ1 = κ := by
  unfold sxp at h
  split at h
  · have h : (Sum.inr (t + 1, κ) : yPS) = .inr (t1, κ1) := h
    injection h with h
    injection h with h1 h2
    exact ⟨h1.symm, h2.symm⟩
  · nomatch h
theorem sexx_k {dp t1 : Nat} (h : sex G w dp (.inr (t, κ)) = .inr (t1, κ1)) (hb : sbk κ = sbk κ1) : (∀ e, κ = .inl e → κ1 = .inl e) ∧ ∀ V, κ1 = .inr V → ∃ V0, κ = .inr V0 := by
  have h : (match sxr G w dp (.inr (t, κ)) with
      | .inl p => .inl p
      | .inr (t', _, m) => .inr (t', sxk κ m) : yPS) = .inr (t1, κ1) := h
  cases hr : sxr G w dp (.inr (t, κ)) with
  | inl p =>
    rw [hr] at h
    nomatch h
  | inr y =>
    obtain ⟨t', b', m⟩ := y
    rw [hr] at h
    have h : (Sum.inr (t', sxk κ m) : yPS) = .inr (t1, κ1) := h
    injection h with h
    injection h with h1 h2
    rcases κ with e | V
    · exact ⟨fun e' z => by rw [← h2, ← z]; rfl, fun V z => by rw [z] at h2; nomatch h2⟩
    · exact ⟨fun e' z => (nomatch z), fun V' z => ⟨V, rfl⟩⟩
theorem q216o (hG : gOk G) (h : rS G sc c S t dp κ) (h0 : (gT G t).1 = 1) : rO q js G sc (c - 2) S dp (sbk κ) (Y q (d + 3) 216 0 [vr 129, vu, vu, vu, vu, vu, vu] [] S js) (sord G (.inr (t, κ))) (rVo q js) := by
  obtain ⟨g1, g2, g3, g4, g5, g6, g7, g8, g9, g10, _⟩ := rS_t hG h
  have e44 : yr (gI S 44) = t := by rw [g1]; exact yr_eq (by omega) (by omega)
  have ok : 0 ≤ (t : Int) ∧ (t : Int) < 2001 := by omega
  have y0 : ¬ yr (ykR 1) = 0 := by decide
  have y1 : yr (ykR 1) = yr 1 := by decide
  have n1 : ¬ yr 1 = 0 := by decide
  have e4 : yr 4 = 4 := rfl
  obtain ⟨S1, e1, f1, h1⟩ := q217 (q := q) (d := d + 1) (js := js) hG h (by omega)
  have st : Y q (d + 3) 216 0 [vr 129, vu, vu, vu, vu, vu, vu] [] S js = Y q (d + 3) 216 24 [vr 129, vi (ykR 1), vi ((gT G t).2.1 : Nat), vu, vu, vu, vu] [] S1 js := by
    rw [w216_0, e44, if_pos ok, if_pos ok, Int.toNat_natCast, g7, g8, h0, e1, YB_retv]
  obtain ⟨F, hF⟩ : ∃ F : yPS → yPS, F = fun s => smp (fun V => zsO V (zO V ++ [((sfc G (svl G (if skd G s = 2 then snx s else s))).toNat, if skd G s = 2 then 1 else 0)])) (scm G (if skd G s = 2 then snx s else s)) := ⟨_, rfl⟩
  have hFs : sStr F := by
    rw [hF]
    exact sStr_mp (sStr_co sStr_cm (sStr_if (C := fun s => skd G s = 2) sStr_nx sStr_id))
  have sp : sord G (.inr (t, κ)) = F (sgd (fun V => decide ((zO V).length < 4)) 4 (gT G t).2.1 (.inr (t + 1, κ))) := by
    have e : sord1 G (.inr (t, κ)) = sgd (fun V => decide ((zO V).length < 4)) 4 (gT G t).2.1 (.inr (t + 1, κ)) := by
      unfold sord1 shd
      rw [← sgd_nx]
      rfl
    unfold sord sord2
    rw [e, hF]
  have x0 : ∀ V, κ = .inr V → gI S1 56 = ((zO V).length : Nat) ∧ (zO V).length ≤ 4 := fun V e => by
    subst e
    exact ⟨h1.2.2.1.2.1.1, h1.2.2.2.2.2.1.1⟩
  have st2 : ∃ x : Int, Y q (d + 3) 216 24 [vr 129, vi (ykR 1), vi ((gT G t).2.1 : Nat), vu, vu, vu, vu] [] S1 js = YB q (Y q (d + 2) 219 0 [vr 129, vi x, vi 4, vi ((gT G t).2.1 : Nat)] [] S1 js) (d + 3) 216 98 [vr 129, vi (ykR 1), vi ((gT G t).2.1 : Nat), vu, vu, vu, vu] [] ∧ x = yb (yr (gI S1 56) < yr 4) := by
    rw [w216_24, if_neg y0, if_pos y1]
    by_cases z : yr (gI S1 56) < yr 4
    · rw [if_pos z]
      exact ⟨1, rfl, by rw [yb, if_pos z]⟩
    · rw [if_neg z]
      exact ⟨0, rfl, by rw [yb, if_neg z]⟩
  obtain ⟨x, st2, hx⟩ := st2
  rw [st, st2, sp]
  refine rO_tr f1 (q216h (d := d + 1) (c' := c - 2) (f := fun V => decide ((zO V).length < 4)) (C := yr (gI S1 56) < yr 4) hG h1 (fun V e => ?_) (fun a b S => t216 ..) hFs (fun S2 hf f2 h2 => ?_) (fun V e => hx))
  · obtain ⟨x1, x2⟩ := x0 V e
    rw [decide_eq_true_iff, x1, yr_eq (by omega) (by omega), e4]
    omega
  · have i1 : Y q (d + 2) 221 0 [vr 129, vi 2] [] S2 js = _ := q221 (kd := 2) hG h2 (by omega)
    obtain ⟨S3, t3, z, st3, f3, h3, e3⟩ : ∃ (S3 : yS) (t3 : Nat) (z : Nat), YB q (yretv q S2 js) (d + 3) 216 98 [vr 129, vi (ykR 1), vi ((gT G t).2.1 : Nat), vu, vu, vu, vu] [] = YB q (Y q (d + 2) 222 0 [vr 129, vu] [] S3 js) (d + 3) 216 116 [vr 129, vi (ykR 1), vi ((gT G t).2.1 : Nat), vi (z : Int), vu, vu, vu] [] ∧ yFr yWR S2 S3 ∧ rS G sc (c - 2) S3 t3 dp κ ∧ (F (.inr (t + 1, κ)) = smp (fun V => zsO V (zO V ++ [((sfc G (svl G (.inr (t3, κ)))).toNat, z)])) (scm G (.inr (t3, κ))) ∧ (z = 0 ∨ z = 1)) := by
      rw [YB_retv, w216_101, i1, YB_ret, w216_106]
      by_cases y : skd G (.inr (t + 1, κ)) = 2
      · obtain ⟨S3, a1, a2, a3⟩ := q217 (q := q) (d := d + 1) (js := js) hG h2 (by have y : (gT G (t + 1)).1 = 2 := y; omega)
        rw [yb, if_pos y, if_neg n1, a1, YB_retv, w216_115]
        refine ⟨S3, t + 1 + 1, 1, rfl, a2, rS_c hG a3 (by omega), ?_, Or.inr rfl⟩
        rw [hF]
        simp only [y, if_true]
        rfl
      · rw [yb, if_neg y, if_pos yr_0]
        refine ⟨S2, t + 1, 0, rfl, yFr_rf _ _, h2, ?_, Or.inl rfl⟩
        rw [hF]
        simp only [y, if_false]
    obtain ⟨e3, hz⟩ := e3
    rw [st3, e3]
    refine rO_tr f3 (rO_bind (F := fun s => smp (fun V => zsO V (zO V ++ [((sfc G (svl G (.inr (t3, κ)))).toNat, z)])) s) (C := fun o => YB q o (d + 3) 216 116 [vr 129, vi (ykR 1), vi ((gT G t).2.1 : Nat), vi (z : Int), vu, vu, vu] []) (fun a b S => t216 ..) (sStr_mp sStr_id) (rO_c (c' := c - 2) (by omega) (q222 (d := d) hG h3) hG) fun S4 t4 κ4 o4 a1 a2 f4 h4 hB4 => ?_)
    obtain ⟨e5, e6, e7⟩ := sgx_k a1 a2
    subst e6
    have hB4 : o4 = yret q (vi (sfc G (svl G (.inr (t3, κ4))))) S4 js := hB4
    show rO q js G sc (c - 2) S4 dp (sbk κ4) (YB q o4 (d + 3) 216 116 [vr 129, vi (ykR 1), vi ((gT G t).2.1 : Nat), vi (z : Int), vu, vu, vu] []) (smp _ (.inr (t4, κ4))) (rVo q js)
    have ez : yi2z (z : Int) = z := by rcases hz with rfl | rfl <;> decide
    have h45 := rS_45 h4
    rw [hB4, YB_ret, w216_119, ez, smp_k, ← sbk_k (κ := κ4) (f := fun V => zsO V (zO V ++ [((sfc G (svl G (.inr (t3, κ4)))).toNat, z)]))]
    rcases κ4 with e | V
    · have h45 : gI S4 45 = 0 := h45
      rw [h45, if_pos yr_0]
      exact rO_ok (κ := .inl e) h4 rfl
    · have h45 : gI S4 45 = 1 := h45
      have lt : (zO V).length < 4 := of_decide_eq_true (hf V rfl)
      have os := h4.2.2.1.2.1
      have e56 : yr (gI S4 56) = (zO V).length := by rw [os.1]; exact yr_eq (by omega) (by omega)
      have ok4 : 0 ≤ ((zO V).length : Int) ∧ ((zO V).length : Int) < 4 := by omega
      have n45 : ¬ yr 1 = 0 := n1
      have hs := of_decide_eq_true (e7 V rfl)
      rw [h45, if_neg n45, e56, if_pos ok4, if_pos ok4, Int.toNat_natCast]
      have fr : yFr yWQ S4 (sI (sA (sA S4 49 (zO V).length z) 48 (zO V).length (sfc G (svl G (.inr (t3, .inr V))))) 56 (gI S4 56 + 1)) := yFr_tr (yFr_A rfl) (yFr_tr (yFr_A rfl) (yFr_I rfl))
      refine rO_tr (yWR_q fr) (rO_ok (κ := smk (fun V' => zsO V' (zO V' ++ [((sfc G (svl G (.inr (t3, .inr V)))).toNat, z)])) (.inr V)) (rS_Q h4 fr (fun e z => (nomatch z)) fun V' z' v o => ?_) rfl)
      injection z' with z'
      subst z'
      refine ⟨⟨rfl, rfl⟩, ⟨v.1, ?_, v.2.2⟩, o.1, o.2.1, ⟨?_, o.2.2.1.2⟩, o.2.2.2⟩
      · refine yLs_app v.2.1 (by rw [gI_self, os.1]; rfl) ?_ fun j y hj hy => ?_
        · show gA (sA (sA S4 49 (zO V).length z) 48 (zO V).length (sfc G (svl G (.inr (t3, .inr V))))) 48 (zO V).length = (((sfc G (svl G (.inr (t3, .inr V)))).toNat : Nat) : Int) ∧ gA (sA S4 49 (zO V).length z) 49 (zO V).length = (z : Int)
          rw [gA_self, gA_self, if_pos rfl, if_pos rfl]
          exact ⟨by omega, rfl⟩
        · show gA (sA (sA S4 49 (zO V).length z) 48 (zO V).length (sfc G (svl G (.inr (t3, .inr V))))) 48 j = (y.1 : Int) ∧ gA (sA S4 49 (zO V).length z) 49 j = (y.2 : Int)
          rw [gA_self, gA_self, if_neg (by omega), if_neg (by omega)]
          exact hy
      · show (zO V ++ [_]).length ≤ 4
        rw [List.length_append]
        show _ + 1 ≤ 4
        omega
theorem yfg_no {g : Nat → Int} {x : Int} : ∀ (n i : Nat), yfg g x n i < 0 ↔ ∀ k, i ≤ k → k < i + n → g k ≠ x
  | 0, i => ⟨fun _ k h1 h2 => by omega, fun _ => by show (-1 : Int) < 0; omega⟩
  | n + 1, i => by
    unfold yfg
    by_cases z : g i = x
    · rw [if_pos z]
      exact ⟨fun y => by omega, fun y => absurd z (y i (Nat.le_refl _) (by omega))⟩
    · rw [if_neg z, yfg_no n (i + 1)]
      refine ⟨fun y k h1 h2 => ?_, fun y k h1 h2 => y k (by omega) (by omega)⟩
      by_cases e : k = i
      · rw [e]
        exact z
      · exact y k (by omega) (by omega)
/-- a group's column is none of the groups before -/
theorem q216gl {x0 x1 at' col : Int} {p : Nat} (hp : at' = (p : Nat)) (h : rS G sc c S t dp κ) (hl : ∀ V, κ = .inr V → (zG V).length < 3) (hcol : -1 ≤ col ∧ col < 8) (h0 : ∀ V, κ = .inr V → 0 ≤ col) : ∀ (n i : Nat), (∀ V, κ = .inr V → i + n = (zG V).length ∧ ∀ k, k < i → (((zG V).getD k 0 : Nat) : Int) ≠ col) → (∀ e, κ = .inl e → n = 0 ∧ i = 0) → rO q js G sc c S dp (sbk κ) (Y q (d + 2) 216 206 [vr 129, vi x0, vi x1, vi at', vi col, vi i, vu] [] S js) (smp (fun V => zsG V (zG V ++ [col.toNat])) (sgd (fun V => decide (yfg (fun i => (((zG V).getD i 0 : Nat) : Int)) col n i < 0)) 5 p (.inr (t, κ)))) (rVo q js) := by
  have n1 : ¬ yr 1 = 0 := by decide
  have h45 := rS_45 h
  have ecol : yr col = col := yr_eq (by omega) (by omega)
  intro n
  induction n with
  | zero =>
    intro i hi he
    rcases κ with e | V
    · have h45 : gI S 45 = 0 := h45
      have h57 : gI S 57 = 0 := h.2.2.2.2.2.1
      obtain ⟨_, i0⟩ := he e rfl
      subst i0
      have y0 : yr ((0 : Nat) : Int) = 0 := rfl
      rw [w216_206, h57, y0, yr_0, if_neg (by omega), h45, if_pos yr_0]
      exact rO_ok (κ := .inl e) h rfl
    · have h45 : gI S 45 = 1 := h45
      obtain ⟨hi, hno⟩ := hi V rfl
      have lt := hl V rfl
      have hc0 := h0 V rfl
      have gs := h.2.2.1.2.2.1
      have e57 : yr (gI S 57) = (zG V).length := by rw [gs.1]; exact yr_eq (by omega) (by omega)
      have ei : yr (i : Int) = i := yr_eq (by omega) (by omega)
      have ok3 : 0 ≤ ((zG V).length : Int) ∧ ((zG V).length : Int) < 3 := by omega
      rw [w216_206, e57, ei, if_neg (by omega), h45, if_neg n1, if_pos ok3, Int.toNat_natCast]
      have eg : sgd (fun V => decide (yfg (fun i => (((zG V).getD i 0 : Nat) : Int)) col 0 i < 0)) 5 p (.inr (t, .inr V)) = .inr (t, .inr V) := sgd_t fun _ _ _ => rfl
      have fr : yFr yWQ S (sI (sA S 50 (zG V).length col) 57 (gI S 57 + 1)) := yFr_tr (yFr_A rfl) (yFr_I rfl)
      rw [eg, smp_k]
      refine rO_tr (yWR_q fr) (rO_ok (κ := smk (fun V => zsG V (zG V ++ [col.toNat])) (.inr V)) (rS_Q h fr (fun e z => (nomatch z)) fun V' z' v o => ?_) rfl)
      injection z' with z'
      subst z'
      refine ⟨⟨rfl, rfl⟩, ⟨v.1, v.2.1, ?_, v.2.2.2⟩, o.1, o.2.1, ⟨o.2.2.1.1, ?_, o.2.2.1.2.2⟩, ?_, o.2.2.2.2.1, o.2.2.2.2.2.1, o.2.2.2.2.2.2.1, o.2.2.2.2.2.2.2.1, fun y hy => ?_, o.2.2.2.2.2.2.2.2.2⟩
      · refine yLs_app v.2.2.1 (by rw [gI_self, gs.1]; rfl) ?_ fun j y hj hy => ?_
        · show gA (sA S 50 (zG V).length col) 50 (zG V).length = ((col.toNat : Nat) : Int)
          rw [gA_self, if_pos rfl]
          omega
        · show gA (sA S 50 (zG V).length col) 50 j = (y : Int)
          rw [gA_self, if_neg (by omega)]
          exact hy
      · show (zG V ++ [_]).length ≤ 3
        rw [List.length_append]
        show _ + 1 ≤ 3
        omega
      · show List.Pairwise _ (zG V ++ [col.toNat])
        rw [List.pairwise_append]
        refine ⟨o.2.2.2.1, List.pairwise_singleton _ _, fun y hy z hz => ?_⟩
        rw [List.mem_singleton.mp hz]
        obtain ⟨k, hk, hke⟩ := List.getElem_of_mem hy
        have := hno k (by omega)
        rw [List.getD_eq_getElem?_getD, List.getElem?_eq_getElem hk] at this
        have this : (((zG V)[k] : Nat) : Int) ≠ col := this
        rw [hke] at this
        intro e
        omega
      · have hy : y ∈ zG V ++ [col.toNat] := hy
        rcases List.mem_append.mp hy with hy | hy
        · exact o.2.2.2.2.2.2.2.2.1 y hy
        · rw [List.mem_singleton.mp hy]
          omega
  | succ n ih =>
    intro i hi he
    rcases κ with e | V
    · have := (he e rfl).1
      omega
    · have h45 : gI S 45 = 1 := h45
      obtain ⟨hi2, hno⟩ := hi V rfl
      have lt := hl V rfl
      have gs := h.2.2.1.2.2.1
      have e57 : yr (gI S 57) = (zG V).length := by rw [gs.1]; exact yr_eq (by omega) (by omega)
      have ei : yr (i : Int) = i := yr_eq (by omega) (by omega)
      have ok3 : 0 ≤ (i : Int) ∧ (i : Int) < 3 := by omega
      have gi := yLs_D gs 0 (j := i) (by omega)
      have gi : gA S 50 i = (((zG V).getD i 0 : Nat) : Int) := gi
      rw [w216_206, e57, ei, if_pos (by omega), if_pos ok3, Int.toNat_natCast]
      by_cases z : (((zG V).getD i 0 : Nat) : Int) = col
      · have ez : yr (gA S 50 i) = yr col := by rw [gi, z]
        have ef : yfg (fun i => (((zG V).getD i 0 : Nat) : Int)) col (n + 1) i = i := by
          unfold yfg
          rw [if_pos z]
        have eg : sgd (fun V => decide (yfg (fun i => (((zG V).getD i 0 : Nat) : Int)) col (n + 1) i < 0)) 5 p (.inr (t, .inr V)) = .inr (t, .inl (5, p)) := by
          show (Sum.inr (t, if _ then _ else _) : yPS) = _
          rw [if_neg (by
            rw [decide_eq_true_iff, ef]
            omega)]
        rw [if_pos ez, eg, hp]
        exact ⟨fun _ => ⟨S, by rw [r219t h45 rfl, t216]; rfl, yFr_rf _ _, rS_nz h⟩, fun y => (nomatch y)⟩
      · have ez : ¬ yr (gA S 50 i) = yr col := by
          rw [gi, ecol]
          intro y
          have g8 := h.2.2.2.2.2.2.2.2.2.2.2.1 ((zG V).getD i 0) (by
            rw [List.getD_eq_getElem?_getD, List.getElem?_eq_getElem (show i < (zG V).length by omega)]
            exact List.getElem_mem _)
          rw [yr_eq (by omega) (by omega)] at y
          exact z y
        have r1 : Y q (d + 1) 219 0 [vr 129, vi 1, vi 5, vi at'] [] S js = yretv q S js := r219n (Or.inr (by decide))
        have ef : ∀ V', V' = V → yfg (fun i => (((zG V').getD i 0 : Nat) : Int)) col (n + 1) i = yfg (fun i => (((zG V').getD i 0 : Nat) : Int)) col n (i + 1) := fun V' e => by
          subst e
          show (if _ then _ else _) = _
          rw [if_neg z]
        have eg : sgd (fun V => decide (yfg (fun i => (((zG V).getD i 0 : Nat) : Int)) col (n + 1) i < 0)) 5 p (.inr (t, .inr V)) = sgd (fun V => decide (yfg (fun i => (((zG V).getD i 0 : Nat) : Int)) col n (i + 1) < 0)) 5 p (.inr (t, .inr V)) := by
          show (Sum.inr (t, if decide (yfg (fun i => (((zG V).getD i 0 : Nat) : Int)) col (n + 1) i < 0) = true then _ else _) : yPS) = .inr (t, if _ then _ else _)
          rw [ef V rfl]
        rw [if_neg ez, r1, YB_retv, w216_238, eg]
        exact ih (i + 1) (fun V' z' => by
          injection z' with z'
          subst z'
          refine ⟨by omega, fun k hk => ?_⟩
          by_cases e : k = i
          · rw [e]
            exact z
          · exact hno k (by omega)) (fun e z => (nomatch z))
theorem q216g (hG : gOk G) (h : rS G sc c S t dp κ) (h0 : (gT G t).1 = 3) : rO q js G sc (c - 2) S dp (sbk κ) (Y q (d + 3) 216 0 [vr 129, vu, vu, vu, vu, vu, vu] [] S js) (sgro G (.inr (t, κ))) (rVo q js) := by
  obtain ⟨g1, g2, g3, g4, g5, g6, g7, g8, g9, g10, _⟩ := rS_t hG h
  have e44 : yr (gI S 44) = t := by rw [g1]; exact yr_eq (by omega) (by omega)
  have ok : 0 ≤ (t : Int) ∧ (t : Int) < 2001 := by omega
  have y0 : ¬ yr (ykR 3) = 0 := by decide
  have y1 : ¬ yr (ykR 3) = yr 1 := by decide
  have y3 : yr (ykR 3) = yr 3 := by decide
  have e3 : yr 3 = 3 := rfl
  obtain ⟨S1, e1, f1, h1⟩ := q217 (q := q) (d := d + 1) (js := js) hG h (by omega)
  have st : Y q (d + 3) 216 0 [vr 129, vu, vu, vu, vu, vu, vu] [] S js = Y q (d + 3) 216 24 [vr 129, vi (ykR 3), vi ((gT G t).2.1 : Nat), vu, vu, vu, vu] [] S1 js := by
    rw [w216_0, e44, if_pos ok, if_pos ok, Int.toNat_natCast, g7, g8, h0, e1, YB_retv]
  obtain ⟨F, hF⟩ : ∃ F : yPS → yPS, F = fun s => smp (fun V => zsG V (zG V ++ [(sfc G (svl G s)).toNat])) (sgd (fun V => decide (sfg V (sfc G (svl G s)) < 0)) 5 (spl G s) (scm G s)) := ⟨_, rfl⟩
  have hFs : sStr F := by
    rw [hF]
    exact sStr_mp (sStr_gd (n := fun _ => 5) sStr_cm)
  have sp : sgro G (.inr (t, κ)) = F (sgd (fun V => decide ((zG V).length < 3)) 4 (gT G t).2.1 (.inr (t + 1, κ))) := by
    have e : sgro1 G (.inr (t, κ)) = sgd (fun V => decide ((zG V).length < 3)) 4 (gT G t).2.1 (.inr (t + 1, κ)) := by
      unfold sgro1 shd
      rw [← sgd_nx]
      rfl
    unfold sgro
    rw [e, hF]
  have x0 : ∀ V, κ = .inr V → gI S1 57 = ((zG V).length : Nat) ∧ (zG V).length ≤ 3 := fun V e => by
    subst e
    exact ⟨h1.2.2.1.2.2.1.1, h1.2.2.2.2.2.1.2.1⟩
  have st2 : ∃ x : Int, Y q (d + 3) 216 24 [vr 129, vi (ykR 3), vi ((gT G t).2.1 : Nat), vu, vu, vu, vu] [] S1 js = YB q (Y q (d + 2) 219 0 [vr 129, vi x, vi 4, vi ((gT G t).2.1 : Nat)] [] S1 js) (d + 3) 216 184 [vr 129, vi (ykR 3), vi ((gT G t).2.1 : Nat), vu, vu, vu, vu] [] ∧ x = yb (yr (gI S1 57) < yr 3) := by
    rw [w216_24, if_neg y0, if_neg y1, if_pos y3]
    by_cases z : yr (gI S1 57) < yr 3
    · rw [if_pos z]
      exact ⟨1, rfl, by rw [yb, if_pos z]⟩
    · rw [if_neg z]
      exact ⟨0, rfl, by rw [yb, if_neg z]⟩
  obtain ⟨x, st2, hx⟩ := st2
  rw [st, st2, sp]
  refine rO_tr f1 (q216h (d := d + 1) (c' := c - 2) (f := fun V => decide ((zG V).length < 3)) (C := yr (gI S1 57) < yr 3) hG h1 (fun V e => ?_) (fun a b S => t216 ..) hFs (fun S2 hf f2 h2 => ?_) (fun V e => hx))
  · obtain ⟨x1, x2⟩ := x0 V e
    rw [decide_eq_true_iff, x1, yr_eq (by omega) (by omega), e3]
    omega
  · obtain ⟨a1, a2, a3, _, _, _, a7, a8, _⟩ := rS_t hG h2
    have e44 : yr (gI S2 44) = ((t + 1 : Nat) : Int) := by rw [a1]; exact yr_eq (by omega) (by omega)
    have ok2 : 0 ≤ ((t + 1 : Nat) : Int) ∧ ((t + 1 : Nat) : Int) < 2001 := by omega
    rw [YB_retv, w216_187, e44, if_pos ok2, Int.toNat_natCast, a8, hF]
    refine rO_bind (F := fun s => smp (fun V => zsG V (zG V ++ [(sfc G (svl G (.inr (t + 1, κ)))).toNat])) (sgd (fun V => decide (sfg V (sfc G (svl G (.inr (t + 1, κ)))) < 0)) 5 (spl G (.inr (t + 1, κ))) s)) (C := fun o => YB q o (d + 3) 216 198 [vr 129, vi (ykR 3), vi ((gT G t).2.1 : Nat), vi ((gT G (t + 1)).2.1 : Nat), vu, vu, vu] []) (fun a b S => t216 ..) (sStr_mp (sStr_gd (n := fun _ => 5) sStr_id)) (rO_c (c' := c - 2) (by omega) (q222 (d := d) hG h2) hG) fun S4 t4 κ4 o4 b1 b2 f4 h4 hB4 => ?_
    obtain ⟨e5, e6, e7⟩ := sgx_k b1 b2
    subst e6
    have hB4 : o4 = yret q (vi (sfc G (svl G (.inr (t + 1, κ4))))) S4 js := hB4
    have hr := sfc_r hG (svl G (.inr (t + 1, κ4)))
    show rO q js G sc (c - 2) S4 dp (sbk κ4) (YB q o4 (d + 3) 216 198 [vr 129, vi (ykR 3), vi ((gT G t).2.1 : Nat), vi ((gT G (t + 1)).2.1 : Nat), vu, vu, vu] []) _ (rVo q js)
    rw [hB4, YB_ret, w216_201]
    have n : ∃ n : Nat, (∀ V, κ4 = .inr V → n = (zG V).length) ∧ ∀ e, κ4 = .inl e → n = 0 := by
      rcases κ4 with e | V
      · exact ⟨0, fun V z => (nomatch z), fun _ _ => rfl⟩
      · exact ⟨(zG V).length, fun V' z => by injection z with z; rw [z], fun e z => (nomatch z)⟩
    obtain ⟨n, n1, n2⟩ := n
    have := q216gl (q := q) (js := js) (d := d + 1) (x0 := ykR 3) (x1 := ((gT G t).2.1 : Nat)) (p := (gT G (t + 1)).2.1) rfl h4 (fun V z => of_decide_eq_true (hf V z)) ⟨hr.1, hr.2.2⟩ (fun V z => of_decide_eq_true (e7 V z)) n 0 (fun V z => ⟨by have := n1 V z; omega, fun k hk => by omega⟩) (fun e z => ⟨n2 e z, rfl⟩)
    have e8 : sgd (fun V => decide (yfg (fun i => (((zG V).getD i 0 : Nat) : Int)) (sfc G (svl G (.inr (t + 1, κ4)))) n 0 < 0)) 5 (gT G (t + 1)).2.1 (.inr (t4, κ4)) = sgd (fun V => decide (sfg V (sfc G (svl G (.inr (t + 1, κ4)))) < 0)) 5 (spl G (.inr (t + 1, κ4))) (.inr (t4, κ4)) := by
      rcases κ4 with e | V
      · rfl
      · rw [n1 V rfl]
        rfl
    rw [e8] at this
    exact this
end YRWL
end YRW
