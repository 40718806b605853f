/-! THE REFERENCE READS A PROGRAM: the declarations -/
section YSA
section YSAL
variable {q : yQ} {d : Nat} {js : List xO} {G : yGx} {σ σ1 : yPS} {S S1 S' : yS} {sc c c' w : Int} {dp dp' t : Nat} {b : Bool} {o : Option xRes} {B B1 B2 : yS → Option xRes → Prop} {κ κ1 : yKp}
theorem q216 (hG : gOk G) (h : rS G 0 c S t 0 κ) (h0 : sisD (gT G t).1 = true) (hd : 100 ≤ d) : rO q js G 0 (c - 2) S 0 (sbk κ) (Y q (d + 4) 216 0 [vr 129, vu, vu, vu, vu, vu, vu] [] S js) (sdec G (.inr (t, κ))) (rVo q js) := by
  have hk : (gT G t).1 = 0 ∨ (gT G t).1 = 1 ∨ (gT G t).1 = 3 ∨ (gT G t).1 = 4 ∨ (gT G t).1 = 5 := of_decide_eq_true h0
  have es : skd G (.inr (t, κ)) = (gT G t).1 := rfl
  unfold sdec
  rw [es]
  rcases hk with z | z | z | z | z
  · rw [if_pos z]
    exact q216p (d := d + 1) hG h z
  · rw [if_neg (by omega), if_pos z]
    exact q216o (d := d + 1) hG h z
  · rw [if_neg (by omega), if_neg (by omega), if_pos z]
    exact q216g (d := d + 1) hG h z
  · rw [if_neg (by omega), if_neg (by omega), if_neg (by omega), if_pos z]
    exact q216l (d := d + 1) hG h z rfl (by omega)
  · rw [if_neg (by omega), if_neg (by omega), if_neg (by omega), if_neg (by omega)]
    exact q244 hG h z hd
theorem sdl {cc : yPV → Bool} {F : yPS → yPS} {t1 : Nat} (hG : gOk G) (hF : sPr G F) (hs : sStr F) (ht : t < gN G) (hk : (gT G t).1 ≤ 64) (e : F (shd G cc (.inr (t, κ))) = .inr (t1, κ1)) : t < t1 ∧ t1 < gN G := by
  have e0 : shd G cc (.inr (t, κ)) = sgd cc 4 (gT G t).2.1 (.inr (t + 1, κ)) := by
    unfold shd
    rw [← sgd_nx]
    rfl
  rw [e0] at e
  rcases hx : sgd cc 4 (gT G t).2.1 (.inr (t + 1, κ)) with p | ⟨t2, κ2⟩
  · rw [hx, hs.1] at e
    nomatch e
  · rw [hx] at e
    obtain ⟨κ0, e2⟩ := sgd_t' hx
    injection e2 with e2
    injection e2 with e2 _
    obtain ⟨h1, h2⟩ := hF t2 κ2 t1 κ1 (by rw [← e2]; exact yTo_t hG.1 ht hk) e
    exact ⟨by omega, h2⟩
theorem sStr_9 {v : yPS → Int64} {g : yPS → yPS} (hg : sStr g) : sStr fun s => tt9 G (v s) (g s) := by
  refine ⟨fun p => ?_, fun t e => ?_⟩
  · show tt9 G _ (g (.inl p)) = _
    rw [hg.1, sStr_t9.1]
  · show (∃ p, tt9 G _ (g (.inr (t, .inl e))) = _) ∨ ∃ t', tt9 G _ (g (.inr (t, .inl e))) = _
    rcases hg.2 t e with ⟨p, h⟩ | ⟨t', h⟩
    · exact Or.inl ⟨p, by rw [h, sStr_t9.1]⟩
    · rw [h]
      exact sStr_t9.2 t' e
theorem sPr_t7 (hG : gOk G) : sPr G (tt7 G) := fun t κ t1 κ1 h e => by
  have e : (if skd G (.inr (t, κ)) = 12 then sscp G (snx (.inr (t, κ))) else .inr (t, κ)) = .inr (t1, κ1) := e
  split at e
  · rename_i z
    have z : (gT G t).1 = 12 := z
    have := sPr_sc hG (t + 1) κ t1 κ1 (yTo_t hG.1 h (by omega)) e
    omega
  · exact sPr_id (G := G) t κ t1 κ1 h e
theorem sPr_t6 (hG : gOk G) : sPr G (tt6 G) := sPr_gd (n := fun _ => 3) (sPr_co sStr_ex (sPr_ex hG) (sPr_nx (C := fun s => sisT (skd G s) = true) hG (fun s z => by
  unfold sisT at z
  have := of_decide_eq_true z
  omega) sPr_rf))
theorem sPr_9 {v : yPS → Int64} {g : yPS → yPS} (hG : gOk G) (hg : sPr G g) : sPr G fun s => tt9 G (v s) (g s) := fun t κ t1 κ1 h e => by
  have e : tt9 G (v (.inr (t, κ))) (g (.inr (t, κ))) = .inr (t1, κ1) := e
  rcases hx : g (.inr (t, κ)) with p | ⟨t2, κ2⟩
  · rw [hx, sStr_t9.1] at e
    nomatch e
  · obtain ⟨a1, a2⟩ := hg t κ t2 κ2 h hx
    rw [hx] at e
    obtain ⟨κ0, e⟩ := smp_t e
    obtain ⟨b1, b2⟩ := sPr_co sStr_t7 (sPr_t7 hG) (sPr_t6 hG) t2 κ2 t1 κ0 a2 e
    exact ⟨by omega, b2⟩
theorem sdec_lt {t1 : Nat} (hG : gOk G) (ht : t < gN G) (h0 : sisD (gT G t).1 = true) (e : sdec G (.inr (t, κ)) = .inr (t1, κ1)) : t < t1 ∧ t1 < gN G := by
  have hk : (gT G t).1 = 0 ∨ (gT G t).1 = 1 ∨ (gT G t).1 = 3 ∨ (gT G t).1 = 4 ∨ (gT G t).1 = 5 := of_decide_eq_true h0
  have hk64 : (gT G t).1 ≤ 64 := by omega
  have es : skd G (.inr (t, κ)) = (gT G t).1 := rfl
  unfold sdec at e
  rw [es] at e
  rcases hk with z | z | z | z | z
  · rw [if_pos z] at e
    exact sdl (F := fun s => smp (fun V => zsPg V (1, (svl G s).toInt.toNat, (svl G (snum G 10 60 s)).toInt.toNat)) (snum G 4 40 (snum G 10 60 s))) hG (sPr_mp (sPr_co (sStr_num (hi := fun _ => 40)) (sPr_num hG (hi := fun _ => 40)) (sPr_num hG (hi := fun _ => 60)))) (sStr_mp (sStr_co (sStr_num (hi := fun _ => 40)) (sStr_num (hi := fun _ => 60)))) ht hk64 e
  · rw [if_neg (by omega), if_pos z] at e
    exact sdl (F := fun s => smp (fun V => zsO V (zO V ++ [((sfc G (svl G (if skd G s = 2 then snx s else s))).toNat, if skd G s = 2 then 1 else 0)])) (scm G (if skd G s = 2 then snx s else s))) hG (sPr_mp (sPr_co sStr_cm (sPr_cm hG) (sPr_nx (C := fun s => skd G s = 2) hG (fun s z => by omega) sPr_id))) (sStr_mp (sStr_co sStr_cm (sStr_if (C := fun s => skd G s = 2) sStr_nx sStr_id))) ht hk64 e
  · rw [if_neg (by omega), if_neg (by omega), if_pos z] at e
    exact sdl (F := fun s => smp (fun V => zsG V (zG V ++ [(sfc G (svl G s)).toNat])) (sgd (fun V => decide (sfg V (sfc G (svl G s)) < 0)) 5 (spl G s) (scm G s))) hG (sPr_mp (sPr_gd (n := fun _ => 5) (sPr_cm hG))) (sStr_mp (sStr_gd (n := fun _ => 5) sStr_cm)) ht hk64 e
  · rw [if_neg (by omega), if_neg (by omega), if_neg (by omega), if_pos z] at e
    exact sdl (F := fun s => smp (fun V => zsL V (zL V ++ [(svl G s, sty G 1 0 (sxp G 50 (snew G s)), sln (fun V => (zC V).length) (sxp G 50 (snew G s)), 4, -2)])) (sex G 1 0 (sxp G 50 (snew G s)))) hG (sPr_mp (sPr_co sStr_ex (sPr_ex hG) (sPr_co sStr_xp (sPr_xp hG (by omega)) (sPr_new hG)))) (sStr_mp (sStr_co sStr_ex (sStr_co sStr_xp sStr_new))) ht hk64 e
  · rw [if_neg (by omega), if_neg (by omega), if_neg (by omega), if_neg (by omega), stot_9] at e
    exact sdl (F := fun s => tt9 G (svl G s) (sxp G 50 (snew G s))) hG (sPr_9 hG (sPr_co sStr_xp (sPr_xp hG (by omega)) (sPr_new hG))) (sStr_9 (sStr_co sStr_xp sStr_new)) ht hk64 e
theorem sStr_hd {cc : yPV → Bool} : sStr (shd G cc) := ⟨fun _ => rfl, fun t e => Or.inr ⟨t + 1, rfl⟩⟩
theorem sStr_dec : sStr (sdec G) := by
  refine sStr_if (C := fun s => skd G s = 0) ?_ (sStr_if (C := fun s => skd G s = 1) ?_ (sStr_if (C := fun s => skd G s = 3) ?_ (sStr_if (C := fun s => skd G s = 4) ?_ ?_)))
  · exact sStr_co (f := fun s => smp (fun V => zsPg V (1, (svl G s).toInt.toNat, (svl G (snum G 10 60 s)).toInt.toNat)) (snum G 4 40 (snum G 10 60 s))) (sStr_mp (sStr_co (sStr_num (hi := fun _ => 40)) (sStr_num (hi := fun _ => 60)))) (sStr_hd (cc := fun V => decide ((zPg V).1 = 0)))
  · exact sStr_co (f := fun s => smp (fun V => zsO V (zO V ++ [((sfc G (svl G (if skd G s = 2 then snx s else s))).toNat, if skd G s = 2 then 1 else 0)])) (scm G (if skd G s = 2 then snx s else s))) (sStr_mp (sStr_co sStr_cm (sStr_if (C := fun s => skd G s = 2) sStr_nx sStr_id))) (sStr_hd (cc := fun V => decide ((zO V).length < 4)))
  · exact sStr_co (f := fun s => smp (fun V => zsG V (zG V ++ [(sfc G (svl G s)).toNat])) (sgd (fun V => decide (sfg V (sfc G (svl G s)) < 0)) 5 (spl G s) (scm G s))) (sStr_mp (sStr_gd (n := fun _ => 5) sStr_cm)) (sStr_hd (cc := fun V => decide ((zG V).length < 3)))
  · exact sStr_co (f := fun s => smp (fun V => zsL V (zL V ++ [(svl G s, sty G 1 0 (sxp G 50 (snew G s)), sln (fun V => (zC V).length) (sxp G 50 (snew G s)), 4, -2)])) (sex G 1 0 (sxp G 50 (snew G s)))) (sStr_mp (sStr_co sStr_ex (sStr_co sStr_xp sStr_new))) (sStr_hd (cc := fun V => decide ((zL V).length < 8)))
  · exact sStr_co (f := fun s => tt9 G (svl G s) (sxp G 50 (snew G s))) (sStr_9 (sStr_co sStr_xp sStr_new)) (sStr_hd (cc := fun V => decide ((zT V).length < 8)))
theorem ykR_d : ∀ kd : Nat, kd < 67 → (((0 : Int) ≤ ykR kd ∧ ykR kd ≤ 1) ∨ ((3 : Int) ≤ ykR kd ∧ ykR kd ≤ 5) ↔ sisD kd = true) := by decide
/-- the declarations, and what stands behind them -/
theorem q215d {F : yPS → yPS} (hG : gOk G) (hd : 100 ≤ d) (hF : sStr F) (K : ∀ S t κ, rS G 0 c S t 0 κ → rO q js G sc c' S dp' (sbk κ) (Y q (d + 5) 215 57 [vr 129] [] (sI S 50 1) js) (F (.inr (t, κ))) B) : ∀ (f t : Nat) (κ : yKp) (S : yS), gN G ≤ t + f → rS G 0 c S t 0 κ → rO q js G sc c' S dp' (sbk κ) (Y q (d + 5) 215 5 [vr 129] [] S js) (F (slp G sisD (sdec G) f (.inr (t, κ)))) B := by
  intro f
  induction f with
  | zero =>
    intro t κ S hf h
    have := h.1.2.1
    omega
  | succ f ih =>
    intro t κ S hf h
    obtain ⟨g1, g2, g3, g4, g5, g6, g7, g8, g9, g10, _⟩ := rS_t hG h
    have e44 : yr (gI S 44) = t := by rw [g1]; exact yr_eq (by omega) (by omega)
    have ok : 0 ≤ (t : Int) ∧ (t : Int) < 2001 := by omega
    have n1 : ¬ yr 1 = 0 := by decide
    have i1 : Y q (d + 4) 191 0 [vj (yi2l (gA S 39 t)), vu, vj 0, vu, vj 1, vu] [] S js = yret q (vi (yb ((0 : Int) ≤ ykR (gT G t).1 ∧ ykR (gT G t).1 ≤ 1))) S js := q191 (lo := 0) (hi := 1) hG h (by decide) (by decide) (by omega) (by omega)
    have i2 : Y q (d + 4) 191 0 [vj (yi2l (gA S 39 t)), vu, vj 3, vu, vj 5, vu] [] S js = yret q (vi (yb ((3 : Int) ≤ ykR (gT G t).1 ∧ ykR (gT G t).1 ≤ 5))) S js := q191 (lo := 3) (hi := 5) hG h (by decide) (by decide) (by omega) (by omega)
    have kD := ykR_d _ g9
    have st : Y q (d + 5) 215 5 [vr 129] [] S js = if sisD (gT G t).1 = true then YB q (Y q (d + 4) 216 0 [vr 129, vu, vu, vu, vu, vu, vu] [] S js) (d + 5) 215 46 [vr 129] [] else Y q (d + 5) 215 57 [vr 129] [] (sI S 50 1) js := by
      rw [w215_5, e44, if_pos ok, Int.toNat_natCast, i1, YB_ret, w215_20, e44, if_pos ok, Int.toNat_natCast, i2, YB_ret]
      by_cases z1 : (0 : Int) ≤ ykR (gT G t).1 ∧ ykR (gT G t).1 ≤ 1
      · rw [yb, if_pos z1, if_neg n1, if_pos (kD.mp (Or.inl z1))]
      · rw [yb, if_neg z1, if_pos yr_0, w215_42]
        by_cases z2 : (3 : Int) ≤ ykR (gT G t).1 ∧ ykR (gT G t).1 ≤ 5
        · rw [yb, if_pos z2, if_neg n1, if_pos (kD.mp (Or.inr z2))]
        · rw [yb, if_neg z2, if_pos yr_0, if_neg (fun y => by
            rcases kD.mpr y with y | y
            · exact z1 y
            · exact z2 y)]
    have es : slp G sisD (sdec G) (f + 1) (.inr (t, κ)) = if sisD (gT G t).1 = true then slp G sisD (sdec G) f (sdec G (.inr (t, κ))) else .inr (t, κ) := rfl
    rw [st, es]
    by_cases z : sisD (gT G t).1 = true
    · rw [if_pos z, if_pos z]
      refine rO_bind (F := fun s => F (slp G sisD (sdec G) f s)) (C := fun o => YB q o (d + 5) 215 46 [vr 129] []) (fun a b S => t215 ..) (sStr_co hF (sStr_lp sStr_dec f)) (rO_c (c' := c) (by omega) (q216 hG h z hd) hG) fun S1 t1 κ1 o1 a1 a2 a3 a4 a5 => ?_
      have a5 : o1 = yretv q S1 js := a5
      obtain ⟨l1, l2⟩ := sdec_lt hG g2 z a1
      show rO q js G sc c' S1 dp' (sbk κ) (YB q o1 (d + 5) 215 46 [vr 129] []) (F (slp G sisD (sdec G) f (.inr (t1, κ1)))) B
      rw [a5, YB_retv, w215_49, a2]
      exact ih t1 κ1 S1 (by omega) a4
    · rw [if_neg z, if_neg z]
      exact K S t κ h
end YSAL
end YSA
