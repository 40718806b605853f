/-! THE REFERENCE READS A PROGRAM: pages, orders, groups -/
section YRV
section YRVL
variable {q : yQ} {d : Nat} {js : List xO} {G : yGx} {σ σ1 : yPS} {S S1 S' : yS} {sc c c' w : Int} {dp dp' t : Nat} {b : Bool} {o : Option xRes} {B B1 B2 : yS → Option xRes → Prop} {κ κ1 : yKp}
theorem sxp_mp {kd : Nat} {f : yPV → yPV} : sxp G kd (smp f σ) = smp f (sxp G kd σ) := by
  have e : skd G (smp f σ) = skd G σ := ssh_kd ssh_mp0
  unfold sxp
  rw [e]
  split
  · rcases σ with p | ⟨t, e | V⟩ <;> rfl
  · rcases σ with p | ⟨t, e | V⟩ <;> rfl
theorem snum_mp {lo hi : Nat} {f : yPV → yPV} : snum G lo hi (smp f σ) = smp f (snum G lo hi σ) := by
  have e1 : svl G (smp f σ) = svl G σ := ssh_vl ssh_mp0
  have e2 : spl G (smp f σ) = spl G σ := ssh_pl ssh_mp0
  have e3 : ∀ (s : yPS) (n p : Nat), swr (smp f s) n p = smp f (swr s n p) := fun s n p => by
    rcases s with x | ⟨t, e | V⟩ <;> rfl
  unfold snum
  rw [e1, e2, sxp_mp, e3]
  split <;> rfl
theorem snum_k {lo hi t1 : Nat} (h : snum G lo hi (.inr (t, κ)) = .inr (t1, κ1)) (hb : sbk κ = sbk κ1) : t1 = t + 1 ∧ κ1 = κ := by
  rcases κ with e | V
  · have k2 : snum G lo hi (.inr (t, .inl e)) = sxp G 63 (.inr (t, .inl e)) := by
      unfold snum sxp
      split
      · rfl
      · split <;> rfl
    rw [k2] at h
    unfold sxp at h
    split at h
    · have h : (Sum.inr (t + 1, .inl e) : yPS) = .inr (t1, κ1) := h
      injection h with h
      injection h with h1 h2
      exact ⟨h1.symm, h2.symm⟩
    · nomatch h
  · rcases κ1 with e1 | V1
    · nomatch hb
    · obtain ⟨t0, h1, h2, _⟩ := snum_al h
      injection h1 with h1
      injection h1 with h3 h4
      exact ⟨by omega, h4.symm⟩
theorem rO_c {c' : Int} (hc : c ≤ c') (h : rO q js G sc c S dp b o σ B) (hG : gOk G) : rO q js G sc c' S dp b o σ B := by
  match σ, h with
  | .inl p, h => exact h
  | .inr (t, .inl e), h =>
    refine ⟨h.1, fun eb => ?_⟩
    obtain ⟨S', h1, h2, h3⟩ := h.2 eb
    exact ⟨S', h1, h2, rS_c hG h3 hc⟩
  | .inr (t, .inr V), h =>
    obtain ⟨h0, S', h1, h2, h3⟩ := h
    exact ⟨h0, S', h1, h2, rS_c hG h3 hc⟩
/-- the first token of a declaration, that there is room for it -/
theorem q216h {f : yPV → Bool} {C : Prop} [Decidable C] {k pc : Nat} {L : List yV} {F : yPS → yPS} (hG : gOk G) (h : rS G sc c S t dp κ) (hC : ∀ V, κ = .inr V → (f V = true ↔ C)) (ht : ∀ (a b : Int32) (S : yS), YB q (ythr q (ystp a b) S js) (d + 2) k pc L [] = ythr q (ystp a b) S js) (hF : sStr F) {p : Nat} (hn : ∀ S1, (∀ V, κ = .inr V → f V = true) → yFr yWR S S1 → rS G sc c S1 t dp κ → rO q js G sc c' S1 dp' (sbk κ) (YB q (yretv q S1 js) (d + 2) k pc L []) (F (.inr (t, κ))) B) {x : Int} (hx : ∀ V, κ = .inr V → x = yb C) : rO q js G sc c' S dp' (sbk κ) (YB q (Y q (d + 1) 219 0 [vr 129, vi x, vi 4, vi p] [] S js) (d + 2) k pc L []) (F (sgd f 4 p (.inr (t, κ)))) B := by
  have h219 : rO q js G sc c S dp (sbk κ) (Y q (d + 1) 219 0 [vr 129, vi x, vi 4, vi p] [] S js) (sgd f 4 p (.inr (t, κ))) (rVo q js) := q219 (n := 4) (d := d) h hC hx
  refine rO_bind (F := F) (C := fun o => YB q o (d + 2) k pc L []) ht hF h219 fun S1 t1 κ1 o1 e1 e2 f1 h1 hB1 => ?_
  obtain ⟨e3, e4, e5⟩ := sgd_k e1 e2
  subst e3 e4
  have hB1 : o1 = yretv q S1 js := hB1
  show rO q js G sc c' S1 dp' (sbk κ1) (YB q o1 (d + 2) k pc L []) _ B
  rw [hB1]
  exact hn S1 e5 f1 h1
theorem q216p (hG : gOk G) (h : rS G sc c S t dp κ) (h0 : (gT G t).1 = 0) : rO q js G sc (c - 2) S dp (sbk κ) (Y q (d + 3) 216 0 [vr 129, vu, vu, vu, vu, vu, vu] [] S js) (spage G (.inr (t, κ))) (rVo q js) := by
  obtain ⟨g1, g2, g3, g4, g5, g6, g7, g8, g9, g10, _⟩ := rS_t hG h
  have e44 : yr (gI S 44) = t := by rw [g1]; exact yr_eq (by omega) (by omega)
  have ok : 0 ≤ (t : Int) ∧ (t : Int) < 2001 := by omega
  have y0 : yr (ykR 0) = 0 := by decide
  obtain ⟨S1, e1, f1, h1⟩ := q217 (q := q) (d := d + 1) (js := js) hG h (by omega)
  have st : Y q (d + 3) 216 0 [vr 129, vu, vu, vu, vu, vu, vu] [] S js = Y q (d + 3) 216 24 [vr 129, vi (ykR 0), vi ((gT G t).2.1 : Nat), vu, vu, vu, vu] [] S1 js := by
    rw [w216_0, e44, if_pos ok, if_pos ok, Int.toNat_natCast, g7, g8, h0, e1, YB_retv]
  obtain ⟨F, hF⟩ : ∃ F : yPS → yPS, F = fun s => smp (fun V => zsPg V (1, sfv G s, sfv G (snum G 10 60 s))) (snum G 4 40 (snum G 10 60 s)) := ⟨_, rfl⟩
  have hFs : sStr F := by
    rw [hF]
    exact sStr_mp (sStr_co (sStr_num (hi := fun _ => 40)) (sStr_num (hi := fun _ => 60)))
  have sp : spage G (.inr (t, κ)) = F (sgd (fun V => decide ((zPg V).1 = 0)) 4 (gT G t).2.1 (.inr (t + 1, κ))) := by
    have e : spag1 G (.inr (t, κ)) = sgd (fun V => decide ((zPg V).1 = 0)) 4 (gT G t).2.1 (.inr (t + 1, κ)) := by
      unfold spag1 shd
      rw [← sgd_nx]
      rfl
    unfold spage
    rw [e, hF]
    rfl
  have x0 : ∀ V, κ = .inr V → gI S1 53 = ((zPg V).1 : Nat) := fun V e => by
    subst e
    exact h1.2.2.1.1.1
  have st2 : ∃ x : Int, Y q (d + 3) 216 24 [vr 129, vi (ykR 0), vi ((gT G t).2.1 : Nat), vu, vu, vu, vu] [] S1 js = YB q (Y q (d + 2) 219 0 [vr 129, vi x, vi 4, vi ((gT G t).2.1 : Nat)] [] S1 js) (d + 3) 216 43 [vr 129, vi (ykR 0), vi ((gT G t).2.1 : Nat), vu, vu, vu, vu] [] ∧ x = yb (yr (gI S1 53) = 0) := by
    rw [w216_24, if_pos y0]
    by_cases z : yr (gI S1 53) = 0
    · rw [if_pos z]
      exact ⟨1, rfl, by rw [yb, if_pos z]⟩
    · rw [if_neg z]
      exact ⟨0, rfl, by rw [yb, if_neg z]⟩
  obtain ⟨x, st2, hx⟩ := st2
  rw [st, st2, sp]
  refine rO_tr f1 (q216h (d := d + 1) (c' := c - 2) (f := fun V => decide ((zPg V).1 = 0)) (C := yr (gI S1 53) = 0) hG h1 (fun V e => ?_) (fun a b S => t216 ..) hFs (fun S2 hf f2 h2 => ?_) (fun V e => hx))
  · have h3 := h1.2.2
    subst e
    have h3 := h3.2.2.2.2.2.2.2.1
    rw [decide_eq_true_iff, x0 V rfl, yr_eq (by omega) (by omega)]
    omega
  · have v1 : ∃ v1, v1 = sfv G (.inr (t + 1, κ)) := ⟨_, rfl⟩
    obtain ⟨v1, hv1⟩ := v1
    have fr3 : yFr yWQ S2 (sI S2 53 1) := yFr_I rfl
    have h3 := rS_Q (f := fun V => zsPg V (1, (zPg V).2)) (c' := c - 2) h2 fr3 (fun e z => by subst z; exact h2.2.2) (fun V z v o => ⟨⟨rfl, rfl⟩, ⟨⟨rfl, v.1.2.1, v.1.2.2⟩, v.2⟩, o.1, o.2.1, o.2.2.1, o.2.2.2.1, o.2.2.2.2.1, o.2.2.2.2.2.1, Nat.le_refl _, o.2.2.2.2.2.2.2⟩)
    obtain ⟨κ3, hκ3⟩ : ∃ κ3, κ3 = smk (fun V => zsPg V (1, (zPg V).2)) κ := ⟨_, rfl⟩
    rw [← hκ3] at h3
    have hb3 : sbk κ3 = sbk κ := by rw [hκ3]; exact sbk_k
    have sv : ∀ (f : yPV → yPV) (s : yPS), sfv G (smp f s) = sfv G s := fun f s => by
      rcases s with p | ⟨t, e | V⟩ <;> rfl
    have eF : smp (fun V => zsPg V (1, sfv G (.inr (t + 1, κ)), sfv G (snum G 10 60 (.inr (t + 1, κ))))) (snum G 4 40 (snum G 10 60 (.inr (t + 1, κ)))) = (fun s => smp (fun V => zsPg V (1, v1, sfv G s)) (snum G 4 40 s)) (snum G 10 60 (.inr (t + 1, κ3))) := by
      rw [hκ3, ← smp_k, snum_mp]
      show _ = smp _ (snum G 4 40 (smp _ _))
      rw [snum_mp, smp_mp, sv, hv1]
    have q1 : rO q js G sc (c - 2) S2 dp (sbk κ3) (Y q (d + 2) 220 0 [vr 129, vi 10, vi 60, vu, vu] [] (sI S2 53 1) js) (snum G 10 60 (.inr (t + 1, κ3))) fun S' o => ∃ r : Int, o = yret q (vi r) S' js ∧ ∀ V, κ3 = .inr V → r = (sfv G (.inr (t + 1, κ3)) : Nat) := rO_tr (yWR_q fr3) (rO_c (by omega) (q220 (d := d) (lo := 10) (hi := 60) hG h3 (by omega) (by omega) (fun V z => rfl)) hG)
    rw [YB_retv, w216_46, hF]
    show rO q js G sc (c - 2) S2 dp (sbk κ) _ (smp (fun V => zsPg V (1, sfv G (.inr (t + 1, κ)), sfv G (snum G 10 60 (.inr (t + 1, κ))))) (snum G 4 40 (snum G 10 60 (.inr (t + 1, κ))))) (rVo q js)
    rw [eF, ← hb3]
    refine rO_bind (F := fun s => smp (fun V => zsPg V (1, v1, sfv G s)) (snum G 4 40 s)) (C := fun o => YB q o (d + 3) 216 57 [vr 129, vi (ykR 0), vi ((gT G t).2.1 : Nat), vu, vu, vu, vu] [vr 129]) (fun a b S => t216 ..) (sStr_mp (sStr_num (hi := fun _ => 40))) q1 fun S4 t4 κ4 o4 a1 a2 f4 h4 hB4 => ?_
    obtain ⟨r1, ho4, hr1⟩ := hB4
    obtain ⟨ht4, hκ4⟩ := snum_k a1 a2
    subst hκ4
    have hr1 : ∀ V, κ4 = .inr V → r1 = (v1 : Nat) := fun V z => by
      rw [hr1 V z, hv1, hκ3, ← smp_k, sv]
    have fr5 : yFr yWQ S4 (sI S4 54 r1) := yFr_I rfl
    have hpg4 : ∀ V, κ4 = .inr V → (zPg V).1 = 1 := fun V z => by
      rw [hκ3] at z
      rcases κ with e | V0
      · nomatch z
      · injection z with z
        rw [← z]
    have hv60 : ∀ V, κ4 = .inr V → v1 ≤ 60 := fun V z => by
      rw [z] at a1
      obtain ⟨_, _, _, _, l2, _⟩ := snum_al a1
      have : sfv G (.inr (t + 1, .inr V)) = v1 := by
        rw [← z, hv1, hκ3, ← smp_k, sv]
      unfold sfv at this
      omega
    have h5 := rS_Q (f := fun V => zsPg V ((zPg V).1, v1, (zPg V).2.2)) (c' := c - 2) h4 fr5 (fun e z => by subst z; exact h4.2.2) (fun V z v o => ⟨⟨rfl, rfl⟩, ⟨⟨v.1.1, hr1 V z, v.1.2.2⟩, v.2⟩, o.1, o.2.1, o.2.2.1, o.2.2.2.1, o.2.2.2.2.1, o.2.2.2.2.2.1, o.2.2.2.2.2.2.1, hv60 V z, o.2.2.2.2.2.2.2.2⟩)
    obtain ⟨κ5, hκ5⟩ : ∃ κ5, κ5 = smk (fun V => zsPg V ((zPg V).1, v1, (zPg V).2.2)) κ4 := ⟨_, rfl⟩
    rw [← hκ5] at h5
    have hb5 : sbk κ5 = sbk κ4 := by rw [hκ5]; exact sbk_k
    obtain ⟨v2, hv2⟩ : ∃ v2, v2 = sfv G (.inr (t4, κ4)) := ⟨_, rfl⟩
    have eF2 : smp (fun V => zsPg V (1, v1, sfv G (.inr (t4, κ4)))) (snum G 4 40 (.inr (t4, κ4))) = (fun s => smp (fun V => zsPg V (1, v1, v2)) s) (snum G 4 40 (.inr (t4, κ5))) := by
      rw [hκ5, ← smp_k]
      show _ = smp _ (snum G 4 40 (smp _ _))
      rw [snum_mp, smp_mp, hv2]
    have q2 : rO q js G sc (c - 2) S4 dp (sbk κ5) (Y q (d + 2) 220 0 [vr 129, vi 4, vi 40, vu, vu] [] (sI S4 54 r1) js) (snum G 4 40 (.inr (t4, κ5))) fun S' o => ∃ r : Int, o = yret q (vi r) S' js ∧ ∀ V, κ5 = .inr V → r = (sfv G (.inr (t4, κ5)) : Nat) := rO_tr (yWR_q fr5) (rO_c (by omega) (q220 (d := d) (lo := 4) (hi := 40) hG h5 (by omega) (by omega) (fun V z => rfl)) hG)
    show rO q js G sc (c - 2) S4 dp (sbk κ4) (YB q o4 (d + 3) 216 57 [vr 129, vi (ykR 0), vi ((gT G t).2.1 : Nat), vu, vu, vu, vu] [vr 129]) (smp (fun V => zsPg V (1, v1, sfv G (.inr (t4, κ4)))) (snum G 4 40 (.inr (t4, κ4)))) (rVo q js)
    rw [ho4, YB_ret, w216_60, eF2, ← hb5]
    refine rO_bind (F := fun s => smp (fun V => zsPg V (1, v1, v2)) s) (C := fun o => YB q o (d + 3) 216 68 [vr 129, vi (ykR 0), vi ((gT G t).2.1 : Nat), vu, vu, vu, vu] [vr 129]) (fun a b S => t216 ..) (sStr_mp sStr_id) q2 fun S6 t6 κ6 o6 a3 a4 f6 h6 hB6 => ?_
    obtain ⟨r2, ho6, hr2⟩ := hB6
    obtain ⟨ht6, hκ6⟩ := snum_k a3 a4
    subst hκ6
    have hr2 : ∀ V, κ6 = .inr V → r2 = (v2 : Nat) := fun V z => by
      rw [hr2 V z, hv2, hκ5, ← smp_k, sv]
    have hpg6 : ∀ V, κ6 = .inr V → (zPg V).1 = 1 ∧ (zPg V).2.1 = v1 := fun V z => by
      rw [hκ5] at z
      rcases κ4 with e | V0
      · nomatch z
      · injection z with z
        rw [← z]
        exact ⟨hpg4 V0 rfl, rfl⟩
    have fr7 : yFr yWQ S6 (sI S6 55 r2) := yFr_I rfl
    have h7 := rS_Q (f := fun V => zsPg V (1, v1, v2)) (c' := c - 2) h6 fr7 (fun e z => by subst z; exact h6.2.2) (fun V z v o => ⟨⟨rfl, rfl⟩, ⟨⟨by
      have := v.1.1
      rw [(hpg6 V z).1] at this
      exact this, by
      have := v.1.2.1
      rw [(hpg6 V z).2] at this
      exact this, hr2 V z⟩, v.2⟩, o.1, o.2.1, o.2.2.1, o.2.2.2.1, o.2.2.2.2.1, o.2.2.2.2.2.1, Nat.le_refl _, by
      have := o.2.2.2.2.2.2.2.1
      rw [(hpg6 V z).2] at this
      exact this, o.2.2.2.2.2.2.2.2⟩)
    show rO q js G sc (c - 2) S6 dp (sbk κ6) (YB q o6 (d + 3) 216 68 [vr 129, vi (ykR 0), vi ((gT G t).2.1 : Nat), vu, vu, vu, vu] [vr 129]) (smp (fun V => zsPg V (1, v1, v2)) (.inr (t6, κ6))) (rVo q js)
    rw [ho6, YB_ret, w216_71, smp_k, ← sbk_k (κ := κ6) (f := fun V => zsPg V (1, v1, v2))]
    exact rO_tr (yWR_q fr7) (rO_ok h7 rfl)
end YRVL
end YRV
