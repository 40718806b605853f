/-! THE REFERENCE READS A PROGRAM: lets, totals -/
section YRX
section YRXL
variable {q : yQ} {d : Nat} {js : List xO} {G : yGx} {σ σ1 : yPS} {S S1 S' : yS} {sc c c' w : Int} {dp dp' t : Nat} {b : Bool} {o : Option xRes} {B B1 B2 : yS → Option xRes → Prop} {κ κ1 : yKp}
theorem rS_ln (h : rS G sc c S t dp κ) : gI S 4 = (sln (fun V => (zC V).length) (.inr (t, κ)) : Nat) := by
  have h9 := h.1.2.2.2.2.2.2.2.2
  rcases κ with e | V
  · exact h9.2.1
  · exact h9.2.1.1
/-- one let more, in the second pass -/
theorem rD1_app {l : List yDf} {v : Int64} {ty st : Nat} (h : rD1 S l) (hl : l.length < 8) : yFr yWQ S (sI (sA (sA (sB S 14 l.length v) 42 l.length ty) 43 l.length st) 51 (gI S 51 + 1)) ∧ rD1 (sI (sA (sA (sB S 14 l.length v) 42 l.length ty) 43 l.length st) 51 (gI S 51 + 1)) (l ++ [(v, ty, st, 4, -2)]) := by
  refine ⟨yFr_tr (yFr_B rfl) (yFr_tr (yFr_A rfl) (yFr_tr (yFr_A rfl) (yFr_I rfl))), yLs_app h (by rw [gI_self, h.1]; rfl) ?_ fun j y hj hy => ?_⟩
  · show gB (sB S 14 l.length v) 14 l.length = v ∧ gA (sA (sB S 14 l.length v) 42 l.length ty) 42 l.length = (ty : Int) ∧ gA (sA (sA (sB S 14 l.length v) 42 l.length ty) 43 l.length st) 43 l.length = (st : Int)
    rw [gB_self, gA_self, gA_self, if_pos rfl, if_pos rfl, if_pos rfl]
    exact ⟨rfl, rfl, rfl⟩
  · show gB (sB S 14 l.length v) 14 j = y.1 ∧ gA (sA (sB S 14 l.length v) 42 l.length ty) 42 j = (y.2.1 : Int) ∧ gA (sA (sA (sB S 14 l.length v) 42 l.length ty) 43 l.length st) 43 j = (y.2.2.1 : Int)
    rw [gB_self, gA_self, gA_self, if_neg (by omega), if_neg (by omega), if_neg (by omega)]
    exact hy
theorem sty_e {e : Nat × Nat} : sty G w dp (.inr (t, .inl e)) = 0 := rfl
theorem sex_k {t1 : Nat} (h : sex G w dp (.inr (t, κ)) = .inr (t1, κ1)) (hb : sbk κ = sbk κ1) : (∀ e, κ = .inl e → κ1 = .inl e) ∧ ∀ V1, κ1 = .inr V1 → ∃ V x, κ = .inr V ∧ V1 = zsK V (zC V ++ ((x : yX).2.2.1 ++ [(30, 0)])) (zX V ++ x.2.2.2.1) ∧ sty G w dp (.inr (t, κ)) = ytyn x := by
  refine ⟨(sexx_k h hb).1, fun V1 z => ?_⟩
  subst z
  obtain ⟨t0, b', V0, x, z1, z2, z3, z4⟩ := sex_al h
  injection z1 with z1
  injection z1 with z5 z6
  exact ⟨V0, x, z6, z3, z4⟩
theorem q216l (hG : gOk G) (h : rS G 0 c S t dp κ) (h0 : (gT G t).1 = 4) (hdp : dp = 0) (hd : 100 ≤ d) : rO q js G 0 (c - 2) S dp (sbk κ) (Y q (d + 3) 216 0 [vr 129, vu, vu, vu, vu, vu, vu] [] S js) (slet G (.inr (t, κ))) (rVo q js) := by
  subst hdp
  obtain ⟨g1, g2, g3, g4, g5, g6, g7, g8, g9, g10, _⟩ := rS_t hG h
  have e44 : yr (gI S 44) = t := by rw [g1]; exact yr_eq (by omega) (by omega)
  have ok : 0 ≤ (t : Int) ∧ (t : Int) < 2001 := by omega
  have y0 : ¬ yr (ykR 4) = 0 := by decide
  have y1 : ¬ yr (ykR 4) = yr 1 := by decide
  have y3 : ¬ yr (ykR 4) = yr 3 := by decide
  have y4 : yr (ykR 4) = yr 4 := by decide
  have n1 : ¬ yr 1 = 0 := by decide
  have e8 : yr 8 = 8 := rfl
  obtain ⟨S1, e1, f1, h1⟩ := q217 (q := q) (d := d + 1) (js := js) hG h (by omega)
  have st : Y q (d + 3) 216 0 [vr 129, vu, vu, vu, vu, vu, vu] [] S js = Y q (d + 3) 216 24 [vr 129, vi (ykR 4), vi ((gT G t).2.1 : Nat), vu, vu, vu, vu] [] S1 js := by
    rw [w216_0, e44, if_pos ok, if_pos ok, Int.toNat_natCast, g7, g8, h0, e1, YB_retv]
  obtain ⟨F, hF⟩ : ∃ F : yPS → yPS, F = fun s => smp (fun V => zsL V (zL V ++ [(svl G s, sty G 1 0 (sxp G 50 (snew G s)), sln (fun V => (zC V).length) (sxp G 50 (snew G s)), 4, -2)])) (sex G 1 0 (sxp G 50 (snew G s))) := ⟨_, rfl⟩
  have hFs : sStr F := by
    rw [hF]
    exact sStr_mp (sStr_co sStr_ex (sStr_co sStr_xp sStr_new))
  have sp : slet G (.inr (t, κ)) = F (sgd (fun V => decide ((zL V).length < 8)) 4 (gT G t).2.1 (.inr (t + 1, κ))) := by
    have e : slet1 G (.inr (t, κ)) = sgd (fun V => decide ((zL V).length < 8)) 4 (gT G t).2.1 (.inr (t + 1, κ)) := by
      unfold slet1 shd
      rw [← sgd_nx]
      rfl
    unfold slet slet3
    rw [e, hF]
  have x0 : ∀ V, κ = .inr V → gI S1 51 = ((zL V).length : Nat) ∧ (zL V).length ≤ 8 := fun V e => by
    subst e
    exact ⟨h1.2.2.1.2.2.2.1.1, h1.2.2.2.2.2.1.2.2.1⟩
  have st2 : ∃ x : Int, Y q (d + 3) 216 24 [vr 129, vi (ykR 4), vi ((gT G t).2.1 : Nat), vu, vu, vu, vu] [] S1 js = YB q (Y q (d + 2) 219 0 [vr 129, vi x, vi 4, vi ((gT G t).2.1 : Nat)] [] S1 js) (d + 3) 216 298 [vr 129, vi (ykR 4), vi ((gT G t).2.1 : Nat), vu, vu, vu, vu] [] ∧ x = yb (yr (gI S1 51) < yr 8) := by
    rw [w216_24, if_neg y0, if_neg y1, if_neg y3, if_pos y4]
    by_cases z : yr (gI S1 51) < yr 8
    · rw [if_pos z]
      exact ⟨1, rfl, by rw [yb, if_pos z]⟩
    · rw [if_neg z]
      exact ⟨0, rfl, by rw [yb, if_neg z]⟩
  obtain ⟨x, st2, hx⟩ := st2
  rw [st, st2, sp]
  refine rO_tr f1 (q216h (d := d + 1) (c' := c - 2) (f := fun V => decide ((zL V).length < 8)) (C := yr (gI S1 51) < yr 8) hG h1 (fun V e => ?_) (fun a b S => t216 ..) hFs (fun S2 hf f2 h2 => ?_) (fun V e => hx))
  · obtain ⟨x1, x2⟩ := x0 V e
    rw [decide_eq_true_iff, x1, yr_eq (by omega) (by omega), e8]
    omega
  · obtain ⟨v, hv⟩ : ∃ v, v = svl G (.inr (t + 1, κ)) := ⟨_, rfl⟩
    rw [YB_retv, w216_301, hF]
    show rO q js G 0 (c - 2) S2 0 (sbk κ) _ (smp (fun V => zsL V (zL V ++ [(svl G (.inr (t + 1, κ)), sty G 1 0 (sxp G 50 (snew G (.inr (t + 1, κ)))), sln (fun V => (zC V).length) (sxp G 50 (snew G (.inr (t + 1, κ)))), 4, -2)])) (sex G 1 0 (sxp G 50 (snew G (.inr (t + 1, κ)))))) (rVo q js)
    rw [← hv]
    -- the name
    refine rO_bind (F := fun s => smp (fun V => zsL V (zL V ++ [(v, sty G 1 0 (sxp G 50 s), sln (fun V => (zC V).length) (sxp G 50 s), 4, -2)])) (sex G 1 0 (sxp G 50 s))) (C := fun o => YB q o (d + 3) 216 302 [vr 129, vi (ykR 4), vi ((gT G t).2.1 : Nat), vu, vu, vu, vu] []) (fun a b S => t216 ..) (sStr_mp (sStr_co sStr_ex sStr_xp)) (rO_c (c' := c - 2) (by omega) (q223 (d := d) hG h2) hG) fun S4 t4 κ4 o4 b1 b2 f4 h4 hB4 => ?_
    obtain ⟨e5, e6, e7⟩ := sgx_k b1 b2
    subst e6
    have hB4 : o4 = yret q (vj v) S4 js := by rw [hv]; exact hB4
    show rO q js G 0 (c - 2) S4 0 (sbk κ4) (YB q o4 (d + 3) 216 302 [vr 129, vi (ykR 4), vi ((gT G t).2.1 : Nat), vu, vu, vu, vu] []) (smp (fun V => zsL V (zL V ++ [(v, sty G 1 0 (sxp G 50 (.inr (t4, κ4))), sln (fun V => (zC V).length) (sxp G 50 (.inr (t4, κ4))), 4, -2)])) (sex G 1 0 (sxp G 50 (.inr (t4, κ4))))) (rVo q js)
    rw [hB4, YB_ret, w216_305]
    -- the sign
    have q50 : rO q js G 0 (c - 2) S4 0 (sbk κ4) (Y q (d + 2) 225 0 [vr 129, vi 104] [] S4 js) (sxp G 50 (.inr (t4, κ4))) (rVo q js) := rO_c (by omega) (q225 (d := d) (kd := 50) hG h4 (by omega)) hG
    refine rO_bind (F := fun s => smp (fun V => zsL V (zL V ++ [(v, sty G 1 0 s, sln (fun V => (zC V).length) s, 4, -2)])) (sex G 1 0 s)) (C := fun o => YB q o (d + 3) 216 309 [vr 129, vi (ykR 4), vi ((gT G t).2.1 : Nat), vj v, vu, vu, vu] []) (fun a b S => t216 ..) (sStr_mp sStr_ex) q50 fun S5 t5 κ5 o5 b3 b4 f5 h5 hB5 => ?_
    obtain ⟨e8', e9⟩ := sxp_k b3
    subst e9
    have hB5 : o5 = yretv q S5 js := hB5
    show rO q js G 0 (c - 2) S5 0 (sbk κ5) (YB q o5 (d + 3) 216 309 [vr 129, vi (ykR 4), vi ((gT G t).2.1 : Nat), vj v, vu, vu, vu] []) (smp (fun V => zsL V (zL V ++ [(v, sty G 1 0 (.inr (t5, κ5)), sln (fun V => (zC V).length) (.inr (t5, κ5)), 4, -2)])) (sex G 1 0 (.inr (t5, κ5)))) (rVo q js)
    have k139 : gK S5 2 = 139 := (rS_t hG h5).2.2.2.2.2.2.2.2.2.2
    obtain ⟨stt, hst⟩ : ∃ st, st = sln (fun V => (zC V).length) (.inr (t5, κ5)) := ⟨_, rfl⟩
    obtain ⟨ty, hty⟩ : ∃ ty, ty = sty G 1 0 (.inr (t5, κ5)) := ⟨_, rfl⟩
    rw [hB5, YB_retv, w216_312, if_pos k139, w216_316, rS_ln h5, ← hst, ← hty]
    -- the expression
    refine rO_bind (F := fun s => smp (fun V => zsL V (zL V ++ [(v, ty, stt, 4, -2)])) s) (C := fun o => YB q o (d + 3) 216 322 [vr 129, vi (ykR 4), vi ((gT G t).2.1 : Nat), vj v, vu, vi (stt : Int), vu] []) (fun a b S => t216 ..) (sStr_mp sStr_id) (rO_c (c' := c - 2) (by omega) (q226 (d := d + 1) hG h5 (Or.inl ⟨rfl, rfl⟩) (by omega)) hG) fun S6 t6 κ6 o6 b5 b6 f6 h6 hB6 => ?_
    obtain ⟨r, hr1, hr2, hr3⟩ := hB6
    obtain ⟨k1, k2⟩ := sex_k b5 b6
    show rO q js G 0 (c - 2) S6 0 (sbk κ5) (YB q o6 (d + 3) 216 322 [vr 129, vi (ykR 4), vi ((gT G t).2.1 : Nat), vj v, vu, vi (stt : Int), vu] []) (smp (fun V => zsL V (zL V ++ [(v, ty, stt, 4, -2)])) (.inr (t6, κ6))) (rVo q js)
    have h45 := rS_45 h6
    rw [b6, hr1, YB_ret, w216_325, smp_k, ← sbk_k (κ := κ6) (f := fun V => zsL V (zL V ++ [(v, ty, stt, 4, -2)]))]
    rcases κ6 with e | V
    · have h45 : gI S6 45 = 0 := h45
      rw [h45, if_pos yr_0]
      exact rO_ok (κ := .inl e) h6 rfl
    · have h45 : gI S6 45 = 1 := h45
      obtain ⟨V0, x, z1, z2, z3⟩ := k2 V rfl
      have lt : (zL V).length < 8 := by
        rw [z2]
        exact of_decide_eq_true (hf V0 z1)
      have os := h6.2.2.1.2.2.2.1
      have e51 : yr (gI S6 51) = (zL V).length := by rw [os.1]; exact yr_eq (by omega) (by omega)
      have ok8 : 0 ≤ ((zL V).length : Int) ∧ ((zL V).length : Int) < 8 := by omega
      have er : r = ty := by rw [hr3 V0 z1, hty]
      have hty1 : ty ≤ 1 := by omega
      rw [h45, if_neg n1, e51, if_pos ok8, if_pos ok8, if_pos ok8, Int.toNat_natCast, er]
      obtain ⟨fr, app⟩ := rD1_app (v := v) (ty := ty) (st := stt) os lt
      refine rO_tr (yWR_q fr) (rO_ok (κ := smk (fun V => zsL V (zL V ++ [(v, ty, stt, 4, -2)])) (.inr V)) (rS_Q h6 fr (fun e z => (nomatch z)) fun V' z' v' o => ?_) rfl)
      injection z' with z'
      subst z'
      refine ⟨⟨rfl, rfl⟩, ⟨v'.1, v'.2.1, v'.2.2.1, app, v'.2.2.2.2⟩, o.1, o.2.1, ⟨o.2.2.1.1, o.2.2.1.2.1, ?_, o.2.2.1.2.2.2⟩, o.2.2.2.1, fun y hy => ?_, o.2.2.2.2.2⟩
      · show (zL V ++ [_]).length ≤ 8
        rw [List.length_append]
        show _ + 1 ≤ 8
        omega
      · have hy : y ∈ zL V ++ [(v, ty, stt, 4, -2)] := hy
        rcases List.mem_append.mp hy with hy | hy
        · exact o.2.2.2.2.1 y hy
        · rw [List.mem_singleton.mp hy]
          exact hty1
end YRXL
end YRX
