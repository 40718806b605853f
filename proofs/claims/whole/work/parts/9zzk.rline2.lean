/-! THE REFERENCE READS A PROGRAM: the pieces of a line -/
section YSC
section YSCL
variable {q : yQ} {d : Nat} {js : List xO} {G : yGx} {σ σ1 : yPS} {S S1 S' : yS} {sc c c' w : Int} {dp dp' t : Nat} {b : Bool} {o : Option xRes} {B B1 B2 : yS → Option xRes → Prop} {κ κ1 : yKp}
/-- items are none of the reference's -/
theorem rS_I {f : yPV → yPV} (hf : ∀ V, ∃ l, f V = zsI V l) (h : rS G sc c S t dp κ) : rS G sc c S t dp (smk f κ) := by
  rcases κ with e | V
  · exact h
  · obtain ⟨l, e⟩ := hf V
    show rS G sc c S t dp (.inr (f V))
    rw [e]
    exact h
theorem rS_pl (hG : gOk G) (h : rS G sc c S t dp κ) (hc : c ≤ -1) : ∀ V, κ = .inr V → (zP V).length < 4000 := fun V e => by
  have := (rS_t hG h).2.2.1
  subst e
  have := h.2.2.2.2.1
  omega
theorem ykR_s : ∀ kd : Nat, kd < 67 → (((31 : Int) ≤ ykR kd ∧ ykR kd ≤ 33) ↔ sisS kd = true) ∧ (sisS kd = true → ykR kd - 31 + 1 = ((kd - 30 : Nat) : Int) ∧ kd ≤ 64) := by decide
/-- behind a line's pieces -/
def sle (a0 : Nat) (s : yPS) : yPS := smp (fun V => saP a0 ((zP V).length + 1) (slyP (3, 0, 0, 0) V)) s
theorem sStr_le {a0 : Nat} : sStr (sle a0) := sStr_mp sStr_id
/-- a piece's width and side, then its step of the plan -/
theorem q249f {F : yPS → yPS} {st j t0 : Nat} {x0 : Int} (hG : gOk G) (hF : sStr F) (hc : c ≤ -1) (ht0 : t0 ≤ t) (K : ∀ S t κ1 (x1 x2 x3 : yV), t0 ≤ t → sbk κ1 = sbk κ → rS G 1 c S t dp κ1 → rO q js G 1 c' S dp' (sbk κ) (Y q (d + 3) 249 9 [vr 129, vi x0, x1, x2, x3] [] S js) (F (.inr (t, κ1))) B) (h : rS G 1 (c - 1) S t dp κ) {x4 : Int} : rO q js G 1 c' S dp' (sbk κ) (Y q (d + 3) 249 70 [vr 129, vi x0, vi (st : Int), vu, vu] [vi x4] S js) (F (sfld G j st (.inr (t, κ)))) B := by
  obtain ⟨g1, g2, g3, g4, g5, g6, g7, g8, g9, g10, g11⟩ := rS_t hG h
  have n1 : ¬ yr 1 = 0 := by decide
  have i1 : Y q (d + 2) 221 0 [vr 129, vi 103] [] S js = yret q (vi (yb (skd G (.inr (t, κ)) = 49))) S js := q221 (kd := 49) hG h (by omega)
  rw [w249_70, i1, YB_ret, w249_82]
  unfold sfld
  by_cases z : skd G (.inr (t, κ)) = 49
  · have z' : (gT G t).1 = 49 := z
    obtain ⟨S1, a1, a2, a3⟩ := q217 (q := q) (d := d + 1) (js := js) hG h (by omega)
    rw [yb, if_pos z, if_neg n1, if_pos z, a1, YB_retv, w249_89]
    obtain ⟨v, hv⟩ : ∃ v, v = sfv G (.inr (t + 1, κ)) := ⟨_, rfl⟩
    have q1 : rO q js G 1 (c - 1) S1 dp (sbk κ) (Y q (d + 2) 220 0 [vr 129, vi 1, vi 60, vu, vu] [] S1 js) (snum G 1 60 (.inr (t + 1, κ))) fun S' o => ∃ r : Int, o = yret q (vi r) S' js ∧ ∀ V, κ = .inr V → r = (v : Nat) := by
      rw [hv]
      exact rO_c (by omega) (q220 (d := d) (lo := 1) (hi := 60) hG a3 (by omega) (by omega) (fun V z => rfl)) hG
    obtain ⟨H, hH⟩ : ∃ H : yPS → yPS, H = fun s => F (if sisS (skd G (smp (snI j v) s)) = true then smp (slyP (2, st, v, skd G (smp (snI j v) s) - 30)) (snx (smp (skI j (skd G (smp (snI j v) s))) (smp (snI j v) s))) else smp (slyP (2, st, v, 0)) (smp (snI j v) s)) := ⟨_, rfl⟩
    have hHs : sStr H := by
      rw [hH]
      exact sStr_co (f := F) hF (sStr_if (C := fun s => sisS (skd G (smp (snI j v) s)) = true) (sStr_mp (f := fun s => slyP (2, st, v, skd G (smp (snI j v) s) - 30)) (sStr_co (f := snx) sStr_nx (sStr_mp (f := fun s => skI j (skd G (smp (snI j v) s))) (sStr_mp (f := fun _ => snI j v) sStr_id)))) (sStr_mp (f := fun _ => slyP (2, st, v, 0)) (sStr_mp (f := fun _ => snI j v) sStr_id)))
    have e1 : F (if sisS (skd G (sfld1 G j (.inr (t, κ)))) = true then smp (slyP (2, st, sfv G (snx (.inr (t, κ))), skd G (sfld1 G j (.inr (t, κ))) - 30)) (snx (smp (skI j (skd G (sfld1 G j (.inr (t, κ))))) (sfld1 G j (.inr (t, κ))))) else smp (slyP (2, st, sfv G (snx (.inr (t, κ))), 0)) (sfld1 G j (.inr (t, κ)))) = H (snum G 1 60 (.inr (t + 1, κ))) := by
      have e2 : sfv G (snx (.inr (t, κ))) = v := hv.symm
      have e3 : sfld1 G j (.inr (t, κ)) = smp (snI j v) (snum G 1 60 (.inr (t + 1, κ))) := by
        unfold sfld1
        rw [e2]
        rfl
      rw [e2, e3, hH]
    rw [e1]
    refine rO_tr a2 (rO_bind (F := H) (C := fun o => YB q o (d + 3) 249 93 [vr 129, vi x0, vi (st : Int), vi 0, vi 0] []) (fun a b S => t249 ..) hHs q1 fun S4 t4 κ4 o4 b1 b2 f4 h4 hB4 => ?_)
    obtain ⟨r, ho4, hr⟩ := hB4
    obtain ⟨et4, ek4⟩ := snum_k b1 b2
    subst ek4
    obtain ⟨k1, k2, k3, k4, k5, k6, k7, k8, k9, k10, k11⟩ := rS_t hG h4
    have e44 : yr (gI S4 44) = t4 := by rw [k1]; exact yr_eq (by omega) (by omega)
    have ok4 : 0 ≤ (t4 : Int) ∧ (t4 : Int) < 2001 := by omega
    have i2 : Y q (d + 2) 191 0 [vj (yi2l (gA S4 39 t4)), vu, vj 31, vu, vj 33, vu] [] S4 js = yret q (vi (yb ((31 : Int) ≤ ykR (gT G t4).1 ∧ ykR (gT G t4).1 ≤ 33))) S4 js := q191 (lo := 31) (hi := 33) hG h4 (by decide) (by decide) (by omega) (by omega)
    obtain ⟨s1, s2⟩ := ykR_s _ k9
    show rO q js G 1 c' S4 dp' (sbk κ4) (YB q o4 (d + 3) 249 93 [vr 129, vi x0, vi (st : Int), vi 0, vi 0] []) (H (.inr (t4, κ4))) B
    rw [ho4, YB_ret, w249_96, e44, if_pos ok4, Int.toNat_natCast, i2, YB_ret, w249_116, hH]
    show rO q js G 1 c' S4 dp' (sbk κ4) _ (F (if sisS (skd G (smp (snI j v) (.inr (t4, κ4)))) = true then smp (slyP (2, st, v, skd G (smp (snI j v) (.inr (t4, κ4))) - 30)) (snx (smp (skI j (skd G (smp (snI j v) (.inr (t4, κ4))))) (smp (snI j v) (.inr (t4, κ4))))) else smp (slyP (2, st, v, 0)) (smp (snI j v) (.inr (t4, κ4))))) B
    have sk : skd G (smp (snI j v) (.inr (t4, κ4))) = (gT G t4).1 := ssh_kd ssh_mp0
    rw [sk]
    by_cases y : sisS (gT G t4).1 = true
    · obtain ⟨y1, y2⟩ := s2 y
      obtain ⟨S5, c1, c2, c3⟩ := q217 (q := q) (d := d + 1) (js := js) hG h4 y2
      have c3' : rS G 1 (c - 1) S5 (t4 + 1) dp (smk (skI j (gT G t4).1) (smk (snI j v) κ4)) := rS_I (fun V => ⟨_, rfl⟩) (rS_I (fun V => ⟨_, rfl⟩) (rS_c hG c3 (by omega)))
      obtain ⟨S6, r6, e1, e2, e3, e4, e5⟩ := q250 (q := q) (d := d + 2) (js := js) (k1 := 2) (n1 := st) (n2 := v) (n3 := (gT G t4).1 - 30) (a1 := st) (a2 := r) (a3 := ((gT G t4).1 - 30 : Nat)) c3' (fun V z => by
        refine ⟨rfl, ?_, rfl, rS_pl hG c3' (by omega) V z⟩
        rcases κ4 with e | V0
        · nomatch z
        · exact hr V0 rfl)
      have e1 : Y q (d + 2) 250 0 [vr 129, vi 2, vi (st : Int), vi r, vi (((gT G t4).1 - 30 : Nat) : Int)] [] S5 js = yret q (vi (r6 : Int)) S6 js := e1
      have bb := K S6 (t4 + 1) _ (vi (st : Int)) (vi r) (vi (((gT G t4).1 - 30 : Nat) : Int)) (by omega) (by rw [sbk_k, sbk_k, sbk_k]) (rS_c hG e3 (by omega))
      rw [yb, if_pos (s1.mpr y), if_neg n1, e44, if_pos ok4, Int.toNat_natCast, k7, y1, if_pos y, c1, YB_retv, w249_139, e1, YB_ret, w249_148, smp_k, smp_k]
      have e6 : snx (.inr (t4, smk (skI j (gT G t4).1) (smk (snI j v) κ4))) = .inr (t4 + 1, smk (skI j (gT G t4).1) (smk (snI j v) κ4)) := rfl
      rw [e6, smp_k]
      exact rO_tr c2 (rO_tr e2 bb)
    · have h4' : rS G 1 (c - 1) S4 t4 dp (smk (snI j v) κ4) := rS_I (fun V => ⟨_, rfl⟩) h4
      obtain ⟨S6, r6, e1, e2, e3, e4, e5⟩ := q250 (q := q) (d := d + 2) (js := js) (k1 := 2) (n1 := st) (n2 := v) (n3 := 0) (a1 := st) (a2 := r) (a3 := 0) h4' (fun V z => by
        refine ⟨rfl, ?_, rfl, rS_pl hG h4' (by omega) V z⟩
        rcases κ4 with e | V0
        · nomatch z
        · exact hr V0 rfl)
      have e1 : Y q (d + 2) 250 0 [vr 129, vi 2, vi (st : Int), vi r, vi 0] [] S4 js = yret q (vi (r6 : Int)) S6 js := e1
      have bb := K S6 t4 _ (vi (st : Int)) (vi r) (vi 0) (by omega) (by rw [sbk_k, sbk_k]) (rS_c hG e3 (by omega))
      rw [yb, if_neg (fun x => y (s1.mp x)), if_pos yr_0, if_neg y, e1, YB_ret, w249_148, smp_k, smp_k]
      exact rO_tr e2 bb
  · obtain ⟨S6, r6, e1, e2, e3, e4, e5⟩ := q250 (q := q) (d := d + 2) (js := js) (k1 := 2) (n1 := st) (n2 := 0) (n3 := 0) (a1 := st) (a2 := 0) (a3 := 0) h (fun V z => ⟨rfl, rfl, rfl, rS_pl hG h (by omega) V z⟩)
    have e1 : Y q (d + 2) 250 0 [vr 129, vi 2, vi (st : Int), vi 0, vi 0] [] S js = yret q (vi (r6 : Int)) S6 js := e1
    have bb := K S6 t _ (vi (st : Int)) (vi 0) (vi 0) (by omega) (by rw [sbk_k]) (rS_c hG e3 (by omega))
    rw [yb, if_neg z, if_pos yr_0, if_neg z, e1, YB_ret, w249_148, smp_k]
    exact rO_tr e2 bb
theorem swd_e {f : yPV → yPV} (hf : ∀ V, zPg (f V) = zPg V) : swd (smp f σ) = swd σ := by
  rcases σ with p | ⟨t, e | V⟩
  · rfl
  · rfl
  · show (zPg (f V)).2.1 = (zPg V).2.1
    rw [hf]
/-- the pieces, and the step that ends them -/
theorem q249l {a0 : Nat} {ia : Int} (hG : gOk G) (hd : 100 ≤ d) (hc : c ≤ -1) : ∀ (f t : Nat) (κ : yKp) (S : yS) (x1 x2 x3 : yV), gN G ≤ t + f → (∀ V, κ = .inr V → ia = a0 ∧ a0 < 4000) → rS G 1 c S t dp κ → rO q js G 1 (c + 1) S dp (sbk κ) (Y q (d + 3) 249 9 [vr 129, vi ia, x1, x2, x3] [] S js) (sle a0 (slp G sisP (spc G dp) f (.inr (t, κ)))) (rVo q js) := by
  intro f
  induction f with
  | zero =>
    intro t κ S x1 x2 x3 hf ha h
    have := h.1.2.1
    omega
  | succ f ih =>
    intro t κ S x1 x2 x3 hf ha h
    obtain ⟨g1, g2, g3, g4, g5, g6, g7, g8, g9, g10, g11⟩ := rS_t hG h
    have n1 : ¬ yr 1 = 0 := by decide
    have i1 : Y q (d + 2) 221 0 [vr 129, vi 23] [] S js = yret q (vi (yb (skd G (.inr (t, κ)) = 23))) S js := q221 (kd := 23) hG h (by omega)
    have i2 : Y q (d + 2) 251 0 [vr 129] [] S js = yret q (vi (yb (sbx (gT G t).1 = true))) S js := q251 hG h
    have es : slp G sisP (spc G dp) (f + 1) (.inr (t, κ)) = if sisP (gT G t).1 = true then slp G sisP (spc G dp) f (spc G dp (.inr (t, κ))) else .inr (t, κ) := rfl
    have hFs : sStr fun s => sle a0 (slp G sisP (spc G dp) f s) := sStr_co sStr_le (sStr_lp sStr_pc f)
    have al : ∀ κ1 : yKp, sbk κ1 = sbk κ → ∀ V, κ1 = .inr V → ia = a0 ∧ a0 < 4000 := fun κ1 hb V z => by
      rcases κ with e | V0
      · rw [z] at hb
        nomatch hb
      · exact ha V0 rfl
    rw [w249_9, i1, YB_ret, w249_15, es]
    by_cases z : skd G (.inr (t, κ)) = 23
    · have z' : (gT G t).1 = 23 := z
      have zp : sisP (gT G t).1 = true := by rw [z']; rfl
      obtain ⟨S1, a1, a2, a3⟩ := q217 (q := q) (d := d + 1) (js := js) hG h (by omega)
      rw [yb, if_pos z, if_neg n1, i1, YB_ret, w249_31, yb, if_pos z, if_neg n1, a1, YB_retv, w249_38, if_pos zp]
      obtain ⟨v, hv⟩ : ∃ v, v = sfv G (.inr (t + 1, κ)) := ⟨_, rfl⟩
      obtain ⟨hi, hhi⟩ : ∃ hi, hi = swd (.inr (t + 1, κ)) := ⟨_, rfl⟩
      have hh : ∀ V, κ = .inr V → gI S1 54 = (hi : Int) ∧ hi ≤ 60 := fun V e => by
        subst e
        rw [hhi]
        exact ⟨a3.2.2.1.1.2.1, a3.2.2.2.2.2.2.2.2.2.2.1⟩
      have hi60 : hi ≤ 2000 := by
        rcases κ with e | V
        · rw [hhi]
          show 0 ≤ 2000
          omega
        · have := (hh V rfl).2
          omega
      have q1 : rO q js G 1 (c - 1) S1 dp (sbk κ) (Y q (d + 2) 220 0 [vr 129, vi 1, vi (gI S1 54), vu, vu] [] S1 js) (snum G 1 hi (.inr (t + 1, κ))) fun S' o => ∃ r : Int, o = yret q (vi r) S' js ∧ ∀ V, κ = .inr V → r = (v : Nat) := by
        rw [hv]
        exact rO_c (by omega) (q220 (d := d) (lo := 1) (hi := hi) hG a3 (by omega) hi60 (fun V z => (hh V z).1)) hG
      have e1 : spc G dp (.inr (t, κ)) = smp (slyP (1, v, 0, 0)) (smp (sadI 23 v 0) (snum G 1 hi (.inr (t + 1, κ)))) := by
        unfold spc
        rw [if_pos z]
        unfold spcA
        rw [hv, hhi]
        rfl
      rw [e1]
      refine rO_tr a2 (rO_bind (F := fun s => sle a0 (slp G sisP (spc G dp) f (smp (slyP (1, v, 0, 0)) (smp (sadI 23 v 0) s)))) (C := fun o => YB q o (d + 3) 249 46 [vr 129, vi ia, x1, x2, x3] [vi 1, vr 129]) (fun a b S => t249 ..) (sStr_co (f := fun s => sle a0 (slp G sisP (spc G dp) f s)) hFs (sStr_mp (f := fun _ => slyP (1, v, 0, 0)) (sStr_mp (f := fun _ => sadI 23 v 0) sStr_id))) q1 fun S4 t4 κ4 o4 b1 b2 f4 h4 hB4 => ?_)
      obtain ⟨r, ho4, hr⟩ := hB4
      obtain ⟨et4, ek4⟩ := snum_k b1 b2
      subst ek4
      have h4' : rS G 1 (c - 1) S4 t4 dp (smk (sadI 23 v 0) κ4) := rS_I (fun V => ⟨_, rfl⟩) h4
      obtain ⟨S6, r6, c1, c2, c3, c4, c5⟩ := q250 (q := q) (d := d + 2) (js := js) (k1 := 1) (n1 := v) (n2 := 0) (n3 := 0) (a1 := r) (a2 := 0) (a3 := 0) h4' (fun V z => by
        refine ⟨?_, rfl, rfl, rS_pl hG h4' (by omega) V z⟩
        rcases κ4 with e | V0
        · nomatch z
        · exact hr V0 rfl)
      have c1 : Y q (d + 2) 250 0 [vr 129, vi 1, vi r, vi 0, vi 0] [] S4 js = yret q (vi (r6 : Int)) S6 js := c1
      show rO q js G 1 (c + 1) S4 dp (sbk κ4) (YB q o4 (d + 3) 249 46 [vr 129, vi ia, x1, x2, x3] [vi 1, vr 129]) (sle a0 (slp G sisP (spc G dp) f (smp (slyP (1, v, 0, 0)) (smp (sadI 23 v 0) (.inr (t4, κ4)))))) (rVo q js)
      have bb := ih t4 (smk (slyP (1, v, 0, 0)) (smk (sadI 23 v 0) κ4)) S6 x1 x2 x3 (by omega) (al _ (by rw [sbk_k, sbk_k])) (rS_c hG c3 (by omega))
      rw [sbk_k, sbk_k] at bb
      rw [ho4, YB_ret, w249_49, c1, YB_ret, w249_54, smp_k, smp_k]
      exact rO_tr c2 bb
    · rw [yb, if_neg z, if_pos yr_0, i2, YB_ret, w249_22]
      by_cases zb : sbx (gT G t).1 = true
      · have zp : sisP (gT G t).1 = true := by
          unfold sisP
          rw [zb, Bool.or_true]
        rw [yb, if_pos zb, if_neg n1, i1, YB_ret, w249_31, yb, if_neg z, if_pos yr_0, if_pos g11, w249_62, rS_ln h, if_pos zp]
        obtain ⟨st, hst⟩ : ∃ st, st = sln (fun V => (zC V).length) (.inr (t, κ)) := ⟨_, rfl⟩
        obtain ⟨kk, hkk⟩ : ∃ kk, kk = if sty G 2 dp (.inr (t, κ)) = 1 then 31 else 32 := ⟨_, rfl⟩
        have e1 : spc G dp (.inr (t, κ)) = sfld G (sln (fun V => (zI V).length) (sex G 2 dp (.inr (t, κ)))) st (smp (sadI kk 0 st) (sex G 2 dp (.inr (t, κ)))) := by
          unfold spc
          rw [if_neg z]
          unfold spcE
          rw [← hst, ← hkk]
        rw [e1, ← hst]
        refine rO_bind (F := fun s => sle a0 (slp G sisP (spc G dp) f (sfld G (sln (fun V => (zI V).length) s) st (smp (sadI kk 0 st) s)))) (C := fun o => YB q o (d + 3) 249 67 [vr 129, vi ia, vi (st : Int), x2, x3] []) (fun a b S => t249 ..) (sStr_co (f := fun s => sle a0 (slp G sisP (spc G dp) f s)) hFs (sStr_fld (st := fun _ => st) (sStr_mp (f := fun _ => sadI kk 0 st) sStr_id))) (q226 (d := d + 1) (w := 2) hG h (Or.inr ⟨rfl, rfl⟩) (by omega)) fun S4 t4 κ4 o4 b1 b2 f4 h4 hB4 => ?_
        obtain ⟨r, ho4, _⟩ := hB4
        obtain ⟨l1, _⟩ := sex_lt hG g2 b1
        have h4' : rS G 1 (c - 1) S4 t4 dp (smk (sadI kk 0 st) κ4) := rS_I (fun V => ⟨_, rfl⟩) (rS_c hG h4 (by omega))
        show rO q js G 1 (c + 1) S4 dp (sbk κ) (YB q o4 (d + 3) 249 67 [vr 129, vi ia, vi (st : Int), x2, x3] []) (sle a0 (slp G sisP (spc G dp) f (sfld G (sln (fun V => (zI V).length) (.inr (t4, κ4))) st (smp (sadI kk 0 st) (.inr (t4, κ4)))))) (rVo q js)
        have hb4 : sbk (smk (sadI kk 0 st) κ4) = sbk κ := by rw [sbk_k, ← b2]
        have h70 : Y q (d + 3) 249 70 [vr 129, vi ia, vi (st : Int), x2, x3] [vi (r : Int)] S4 js = Y q (d + 3) 249 70 [vr 129, vi ia, vi (st : Int), vu, vu] [vi (r : Int)] S4 js := by rw [w249_70, w249_70]
        have bb := q249f (q := q) (js := js) (d := d) (F := fun s => sle a0 (slp G sisP (spc G dp) f s)) (st := st) (j := sln (fun V => (zI V).length) (.inr (t4, κ4))) (t0 := t + 1) (x0 := ia) (x4 := (r : Int)) (c' := c + 1) (dp' := dp) (B := rVo q js) hG hFs hc (by omega) (fun S t1 κ1 y1 y2 y3 hl hb hs => by
          have := ih t1 κ1 S y1 y2 y3 (by omega) (al κ1 (by rw [hb, hb4])) hs
          rw [hb] at this
          exact this) h4'
        rw [hb4] at bb
        rw [ho4, YB_ret, h70, smp_k]
        exact bb
      · have zp : ¬ sisP (gT G t).1 = true := by
          unfold sisP
          rw [Bool.or_eq_true, decide_eq_true_iff]
          rintro (y | y)
          · exact z y
          · exact zb y
        obtain ⟨S6, r6, c1, c2, c3, c4, c5⟩ := q250 (q := q) (d := d + 2) (js := js) (k1 := 3) (n1 := 0) (n2 := 0) (n3 := 0) (a1 := 0) (a2 := 0) (a3 := 0) h (fun V z => ⟨rfl, rfl, rfl, rS_pl hG h (by omega) V z⟩)
        have c1 : Y q (d + 2) 250 0 [vr 129, vi 3, vi 0, vi 0, vi 0] [] S js = yret q (vi (r6 : Int)) S6 js := c1
        have h45 := rS_45 c3
        rw [yb, if_neg zb, if_pos yr_0, c1, YB_ret, w249_160, if_neg zp]
        refine rO_tr c2 ?_
        rcases κ with e | V
        · have h45 : gI S6 45 = 0 := h45
          rw [h45, if_pos yr_0]
          exact rO_ok (κ := .inl e) c3 rfl
        · have h45 : gI S6 45 = 1 := h45
          obtain ⟨y1, y2⟩ := ha V rfl
          have ei : yr ia = a0 := by rw [y1]; exact yr_eq (by omega) (by omega)
          have c3 : rS G 1 (c + 1) S6 t dp (.inr (slyP (3, 0, 0, 0) V)) := c3
          have e58 : gI S6 58 = (((zP V).length + 1 : Nat) : Int) := by
            have := c3.2.2.1.2.2.2.2.2.1.1
            rw [this]
            show ((zP V ++ [(3, 0, 0, 0)]).length : Int) = _
            rw [List.length_append]
            rfl
          obtain ⟨d1, d2⟩ := rS_a (i := a0) (n := (zP V).length + 1) c3
          rw [h45, if_neg n1, ei, if_pos (by omega), Int.toNat_natCast, e58]
          exact rO_tr (yWR_q d1) (rO_ok (κ := .inr (saP a0 ((zP V).length + 1) (slyP (3, 0, 0, 0) V))) d2 rfl)
/-- a line, behind its first token -/
theorem q249 (hG : gOk G) (hd : 100 ≤ d) (hc : c ≤ -2) (ht : 1 ≤ t) (h : rS G 1 c S t dp κ) : rO q js G 1 (c + 2) S dp (sbk κ) (Y q (d + 3) 249 0 [vr 129, vu, vu, vu, vu] [] S js) (sle (sln (fun V => (zP V).length) (.inr (t, κ))) (slp G sisP (spc G dp) 2000 (smp (slyP (0, 0, 0, 0)) (.inr (t, κ))))) (rVo q js) := by
  obtain ⟨S6, r6, c1, c2, c3, c4, c5⟩ := q250 (q := q) (d := d + 2) (js := js) (k1 := 0) (n1 := 0) (n2 := 0) (n3 := 0) (a1 := 0) (a2 := 0) (a3 := 0) h (fun V z => ⟨rfl, rfl, rfl, rS_pl hG h (by omega) V z⟩)
  have c1 : Y q (d + 2) 250 0 [vr 129, vi 0, vi 0, vi 0, vi 0] [] S js = yret q (vi (r6 : Int)) S6 js := c1
  have hN := hG.1.2.1
  have bb := q249l (q := q) (js := js) (d := d) (dp := dp) (c := c + 1) (a0 := sln (fun V => (zP V).length) (.inr (t, κ))) (ia := (r6 : Int)) hG hd (by omega) 2000 t (smk (slyP (0, 0, 0, 0)) κ) S6 vu vu vu (by omega) (fun V z => by
    rcases κ with e | V0
    · nomatch z
    · have := c5 V0 rfl
      have := rS_pl hG h (by omega) V0 rfl
      show (r6 : Int) = ((zP V0).length : Nat) ∧ (zP V0).length < 4000
      omega) c3
  rw [sbk_k] at bb
  have e : c + 1 + 1 = c + 2 := by omega
  rw [e] at bb
  rw [w249_0, c1, YB_ret, w249_8, smp_k]
  exact rO_tr c2 bb
end YSCL
end YSC
