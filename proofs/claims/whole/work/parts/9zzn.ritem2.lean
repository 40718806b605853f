/-! THE REFERENCE READS A PROGRAM: an item; items -/
section YSF
section YSFL
variable {q : yQ} {d : Nat} {js : List xO} {G : yGx} {σ σ1 : yPS} {S S1 S' : yS} {sc c c' w fx : Int} {dp dp' t : Nat} {b : Bool} {o : Option xRes} {B B1 B2 : yS → Option xRes → Prop} {κ κ1 : yKp} {g : yPS → yPS}
theorem rS_46 {dp2 : Nat} {x : Int} (h : rS G sc c S t dp κ) (hx : x = dp2) (h12 : dp2 ≤ 12) : yFr yWR S (sI S 46 x) ∧ rS G sc c (sI S 46 x) t dp2 κ := by
  have f : yFr (yWv 0) S (sI S 46 x) := yFr_I (yWv_I (by omega))
  refine ⟨yWR_v f, ?_, rCx_fr h.2.1 f ⟨rfl, rfl, rfl⟩, rTb_fr h.2.2 f⟩
  obtain ⟨h1, h2, h3, h4, h5, h6, h7, h8, h9⟩ := h.1
  exact ⟨h1, h2, h3, h4, by rw [gI_self]; exact hx, h12, h7, h8, rC_I h9 (by omega) (by omega) (by omega)⟩
theorem q237 (h : rS G sc c S t dp κ) (hG : gOk G) (hd : dp < 12) : ∃ S' : yS, Y q (d + 1) 237 0 [vr 129] [] S js = yretv q S' js ∧ yFr yWR S S' ∧ rS G sc c S' t (dp + 1) κ := by
  have g5 := (rS_t hG h).2.2.2.2.1
  obtain ⟨f, h'⟩ := rS_46 (dp2 := dp + 1) (x := gI S 46 + 1) h (by rw [g5]; rfl) (by omega)
  exact ⟨_, r237 (by omega), f, h'⟩
theorem ykR_i : ∀ kd : Nat, kd < 67 → sisI kd = true → ykR kd = kd ∧ kd ≤ 28 := by decide
theorem ykR_j : ∀ kd : Nat, kd < 67 → (kd = 22 ∨ ((24 : Int) ≤ ykR kd ∧ ykR kd ≤ 28) ↔ sisI kd = true) := by decide
theorem q248 {body : Bool} {sub : Option (yPS → yPS)} (hG : gOk G) (hd : 100 ≤ d) (hc : c ≤ 0) (ht : 1 ≤ t) (hdp : dp ≤ 12) (hfx : fx = if body = true then 0 else 1) (hn : dp = 12 → sub = none) (hs : dp < 12 → ∃ g, sub = some g ∧ sStr g ∧ sPr G g ∧ qIt q js G fx (dp + 1) (d + 2) g ∧ qIt q js G fx (dp + 1) (d + 3) g) (h : rS G 1 c S t dp κ) (h0 : sisI (gT G t).1 = true) : rO q js G 1 c S dp (sbk κ) (Y q (d + 4) 248 0 [vr 129, vi fx, vu, vu, vu, vu] [] S js) (sitm G body dp sub (.inr (t, κ))) (rVo q js) := by
  obtain ⟨g1, g2, g3, g4, g5, g6, g7, g8, g9, g10, g11⟩ := rS_t hG h
  have e44 : yr (gI S 44) = t := by rw [g1]; exact yr_eq (by omega) (by omega)
  have ok : 0 ≤ (t : Int) ∧ (t : Int) < 2001 := by omega
  have n1 : ¬ yr 1 = 0 := by decide
  obtain ⟨ek, ek2⟩ := ykR_i _ g9 h0
  have hk : (gT G t).1 = 22 ∨ (gT G t).1 = 24 ∨ (gT G t).1 = 25 ∨ (gT G t).1 = 26 ∨ (gT G t).1 = 27 ∨ (gT G t).1 = 28 := by
    unfold sisI at h0
    exact of_decide_eq_true h0
  obtain ⟨kd, hkd⟩ : ∃ kd, kd = (gT G t).1 := ⟨_, rfl⟩
  obtain ⟨pl, hpl⟩ : ∃ pl, pl = (gT G t).2.1 := ⟨_, rfl⟩
  rw [← hkd] at ek ek2 hk g7
  rw [← hpl] at g8
  have ekd : yr (kd : Int) = kd := yr_eq (by omega) (by omega)
  have y22 : yr 22 = 22 := rfl
  have y24 : yr 24 = 24 := rfl
  have y25 : yr 25 = 25 := rfl
  have y26 : yr 26 = 26 := rfl
  have y27 : yr 27 = 27 := rfl
  have y28 : yr 28 = 28 := rfl
  have hss : ∀ g, sub = some g → sStr g := fun g e => by
    by_cases z : dp < 12
    · obtain ⟨g', e', s1, _⟩ := hs z
      rw [e] at e'
      injection e' with e'
      rw [e']
      exact s1
    · rw [hn (by omega)] at e
      nomatch e
  have st : ∃ x : Int, Y q (d + 4) 248 0 [vr 129, vi fx, vu, vu, vu, vu] [] S js = YB q (Y q (d + 3) 219 0 [vr 129, vi x, vi 6, vi pl] [] S js) (d + 4) 248 45 [vr 129, vi fx, vi (kd : Int), vi pl, vu, vu] [] ∧ x = yb (body = true ∨ kd = 22 ∨ kd = 24) := by
    rw [w248_0, e44, if_pos ok, if_pos ok, Int.toNat_natCast, g7, g8, ek, ekd, y22, y24]
    cases body with
    | true =>
      rw [if_pos (by rw [hfx]; decide)]
      exact ⟨1, rfl, by rw [yb, if_pos (Or.inl rfl)]⟩
    | false =>
      rw [if_neg (by rw [hfx]; decide)]
      by_cases z1 : kd = 22
      · rw [if_pos (by omega)]
        exact ⟨1, rfl, by rw [yb, if_pos (Or.inr (Or.inl z1))]⟩
      · rw [if_neg (by omega)]
        by_cases z2 : kd = 24
        · rw [if_pos (by omega)]
          exact ⟨1, rfl, by rw [yb, if_pos (Or.inr (Or.inr z2))]⟩
        · rw [if_neg (by omega)]
          refine ⟨0, rfl, ?_⟩
          rw [yb, if_neg]
          rintro (y | y | y)
          · nomatch y
          · exact z1 y
          · exact z2 y
  obtain ⟨x, st, hx⟩ := st
  obtain ⟨F, hF⟩ : ∃ F : yPS → yPS → yPS, F = fun x s => smp (seI (sln (fun V => (zI V).length) x)) (sitw G body dp sub kd (sln (fun V => (zI V).length) x) (sln (fun V => (zP V).length) x) pl (smp (sadI kd 0 0) s)) := ⟨_, rfl⟩
  have hFs : sStr fun s => F s s := by
    rw [hF]
    exact sStr_pw (F := fun x s => smp (seI (sln (fun V => (zI V).length) x)) (sitw G body dp sub kd (sln (fun V => (zI V).length) x) (sln (fun V => (zP V).length) x) pl (smp (sadI kd 0 0) s))) (fun x => sStr_mp (f := fun _ => seI (sln (fun V => (zI V).length) x)) (sStr_co (sStr_itw hss) (sStr_mp (f := fun _ => sadI kd 0 0) sStr_id))) sStr_id
  have es : sitm G body dp sub (.inr (t, κ)) = F (sgd (fun _ => decide (body = true ∨ kd = 22 ∨ kd = 24)) 6 pl (.inr (t, κ))) (sgd (fun _ => decide (body = true ∨ kd = 22 ∨ kd = 24)) 6 pl (.inr (t, κ))) := by
    rw [sitm_e, hF, hkd, hpl]
    rfl
  have h219 : rO q js G 1 c S dp (sbk κ) (Y q (d + 3) 219 0 [vr 129, vi x, vi 6, vi pl] [] S js) (sgd (fun _ => decide (body = true ∨ kd = 22 ∨ kd = 24)) 6 pl (.inr (t, κ))) (rVo q js) := q219 (n := 6) (d := d + 2) h (C := body = true ∨ kd = 22 ∨ kd = 24) (fun V e => by rw [decide_eq_true_iff]) (fun V e => hx)
  rw [st, es]
  refine rO_bind (F := fun s => F s s) (C := fun o => YB q o (d + 4) 248 45 [vr 129, vi fx, vi (kd : Int), vi pl, vu, vu] []) (fun a b S => t248 ..) hFs h219 fun S1 t1 κ1 o1 b1 b2 f1 h1 hB1 => ?_
  obtain ⟨q1, q2, _⟩ := sgd_k b1 b2
  subst q1 q2
  have hB1 : o1 = yretv q S1 js := hB1
  show rO q js G 1 c S1 dp (sbk κ1) (YB q o1 (d + 4) 248 45 [vr 129, vi fx, vi (kd : Int), vi pl, vu, vu] []) (F (.inr (t1, κ1)) (.inr (t1, κ1))) (rVo q js)
  rw [hB1, YB_retv, hF]
  refine rO_I (fun V => ⟨_, rfl⟩) ?_
  obtain ⟨i0, hi0⟩ : ∃ i0, i0 = sln (fun V => (zI V).length) (.inr (t1, κ1)) := ⟨_, rfl⟩
  obtain ⟨a0, ha0⟩ : ∃ a0, a0 = sln (fun V => (zP V).length) (.inr (t1, κ1)) := ⟨_, rfl⟩
  obtain ⟨κ2, hκ2⟩ : ∃ κ2, κ2 = smk (sadI kd 0 0) κ1 := ⟨_, rfl⟩
  have h2 : rS G 1 c S1 t1 dp κ2 := by rw [hκ2]; exact rS_I (fun V => ⟨_, rfl⟩) h1
  have hb2 : sbk κ2 = sbk κ1 := by rw [hκ2, sbk_k]
  have ha2 : a0 = sln (fun V => (zP V).length) (.inr (t1, κ2)) := by
    rw [ha0, hκ2]
    rcases κ1 with e | V <;> rfl
  have ha3 : ∀ V, κ2 = .inr V → a0 = (zP V).length := fun V z => by rw [ha2, z]; rfl
  show rO q js G 1 c S1 dp (sbk κ1) (Y q (d + 4) 248 48 [vr 129, vi fx, vi (kd : Int), vi pl, vu, vu] [] S1 js) (sitw G body dp sub kd (sln (fun V => (zI V).length) (.inr (t1, κ1))) (sln (fun V => (zP V).length) (.inr (t1, κ1))) pl (smp (sadI kd 0 0) (.inr (t1, κ1)))) (rVo q js)
  rw [← hi0, ← ha0, smp_k, ← hκ2, ← hb2]
  have k64 : (gT G t1).1 ≤ 64 := by omega
  by_cases zd : kd = 27 ∨ kd = 28
  · -- one deeper
    have st3 : Y q (d + 4) 248 48 [vr 129, vi fx, vi (kd : Int), vi pl, vu, vu] [] S1 js = YB q (Y q (d + 3) 237 0 [vr 129] [] S1 js) (d + 4) 248 61 [vr 129, vi fx, vi (kd : Int), vi pl, vu, vu] [] := by
      rw [w248_48, ekd, y27, y28]
      rcases zd with z | z
      · rw [if_pos (by omega)]
      · rw [if_neg (by omega), if_pos (by omega)]
    rw [st3]
    by_cases z12 : dp < 12
    · obtain ⟨g, hg, hg1, hg2, hg3, hg4⟩ := hs z12
      subst hg
      obtain ⟨S2, a1, a2, a3⟩ := q237 (q := q) (d := d + 2) (js := js) h2 hG z12
      obtain ⟨S3, a4, a5, a6⟩ := q217 (q := q) (d := d + 2) (js := js) hG a3 k64
      rw [a1, YB_retv, w248_64, a4, YB_retv, w248_68, ekd, y22, y24, y25, y26, y27, if_neg (by omega), if_neg (by omega), if_neg (by omega), if_neg (by omega)]
      refine rO_tr a2 (rO_tr a5 ?_)
      -- its end
      have fin : ∀ (S9 : yS) (t9 : Nat) (κ9 : yKp) (x3 x4 : yV), rS G 1 c S9 t9 (dp + 1) κ9 → rO q js G 1 c S9 dp (sbk κ9) (YB q (Y q (d + 3) 225 0 [vr 129, vi 21] [] S9 js) (d + 4) 248 209 [vr 129, vi fx, vi (kd : Int), vi pl, x3, x4] []) (sxp G 21 (.inr (t9, κ9))) (rVo q js) := by
        intro S9 t9 κ9 x3 x4 hS
        have q21 : rO q js G 1 c S9 (dp + 1) (sbk κ9) (Y q (d + 3) 225 0 [vr 129, vi 21] [] S9 js) (sxp G 21 (.inr (t9, κ9))) (rVo q js) := rO_c (by omega) (q225 (d := d + 1) (kd := 21) hG hS (by omega)) hG
        refine rO_bind (F := fun s => s) (C := fun o => YB q o (d + 4) 248 209 [vr 129, vi fx, vi (kd : Int), vi pl, x3, x4] []) (fun a b S => t248 ..) sStr_id q21 fun S10 t10 κ10 o10 v1 v2 v3 v4 v5 => ?_
        have v5 : o10 = yretv q S10 js := v5
        have e46 := (rS_t hG v4).2.2.2.2.1
        obtain ⟨u1, u2⟩ := rS_46 (dp2 := dp) (x := gI S10 46 - 1) v4 (by rw [e46]; omega) hdp
        show rO q js G 1 c S10 dp (sbk κ9) (YB q o10 (d + 4) 248 209 [vr 129, vi fx, vi (kd : Int), vi pl, x3, x4] []) (.inr (t10, κ10)) (rVo q js)
        rw [v5, YB_retv, w248_212, v2]
        exact rO_tr u1 (rO_ok u2 rfl)
      by_cases z27 : kd = 27
      · have ew : sitw G body dp (some g) kd i0 a0 pl (.inr (t1, κ2)) = skp G a0 g (.inr (t1, κ2)) := by
          unfold sitw
          rw [if_neg (by omega), if_neg (by omega), if_pos z27]
        obtain ⟨S4, r4, c1, c2, c3, c4, c5⟩ := q250 (q := q) (d := d + 3) (js := js) (k1 := 7) (n1 := 0) (n2 := 0) (n3 := 0) (a1 := 0) (a2 := 0) (a3 := 0) a6 (fun V z => ⟨rfl, rfl, rfl, rS_pl hG a6 (by omega) V z⟩)
        have c1 : Y q (d + 3) 250 0 [vr 129, vi 7, vi 0, vi 0, vi 0] [] S3 js = yret q (vi (r4 : Int)) S4 js := c1
        have hr4 : ∀ V, κ2 = .inr V → r4 = a0 ∧ a0 < 4000 := fun V z => by
          have w1 := c5 V z
          have w2 := ha3 V z
          have w3 := rS_pl hG a6 (by omega) V z
          omega
        obtain ⟨κ4, hκ4⟩ : ∃ κ4, κ4 = smk (slyP (7, 0, 0, 0)) κ2 := ⟨_, rfl⟩
        have hb4 : sbk κ4 = sbk κ2 := by rw [hκ4, sbk_k]
        rw [← hκ4] at c3
        have ek4 : skp G a0 g (.inr (t1, κ2)) = sxp G 21 (smp (fun V => saP a0 (zP V).length (slyP (8, 0, 0, 0) V)) (g (.inr (t1 + 1, κ4)))) := by
          unfold skp
          have : snx (.inr (t1, κ2)) = .inr (t1 + 1, κ2) := rfl
          rw [this, smp_k, hκ4]
        rw [if_pos (by omega), c1, YB_ret, w248_163, ew, ek4, ← hb4]
        refine rO_tr c2 (rO_bind (F := fun s => sxp G 21 (smp (fun V => saP a0 (zP V).length (slyP (8, 0, 0, 0) V)) s)) (C := fun o => YB q o (d + 4) 248 167 [vr 129, vi fx, vi (kd : Int), vi pl, vi (r4 : Int), vu] []) (fun a b S => t248 ..) (sStr_co sStr_xp (sStr_mp (f := fun _ V => saP a0 (zP V).length (slyP (8, 0, 0, 0) V)) sStr_id)) (hg4 S4 (t1 + 1) κ4 (c - 1) (by omega) (by omega) (rS_c hG c3 (by omega))) fun S6 t6 κ6 o6 b7 b8 f6 h6 hB6 => ?_)
        have hB6 : o6 = yretv q S6 js := hB6
        have hr46 : ∀ V, κ6 = .inr V → r4 = a0 ∧ a0 < 4000 := fun V z => by
          rcases hz : κ2 with e | V0
          · rw [hb4, hz, z] at b8
            nomatch b8
          · exact hr4 V0 hz
        obtain ⟨S7, r7, d1, d2, d3, d4, d5⟩ := q250 (q := q) (d := d + 3) (js := js) (k1 := 8) (n1 := 0) (n2 := 0) (n3 := 0) (a1 := 0) (a2 := 0) (a3 := 0) h6 (fun V z => ⟨rfl, rfl, rfl, rS_pl hG h6 (by omega) V z⟩)
        have d1 : Y q (d + 3) 250 0 [vr 129, vi 8, vi 0, vi 0, vi 0] [] S6 js = yret q (vi (r7 : Int)) S7 js := d1
        have h45 := rS_45 d3
        show rO q js G 1 c S6 dp (sbk κ4) (YB q o6 (d + 4) 248 167 [vr 129, vi fx, vi (kd : Int), vi pl, vi (r4 : Int), vu] []) (sxp G 21 (smp (fun V => saP a0 (zP V).length (slyP (8, 0, 0, 0) V)) (.inr (t6, κ6)))) (rVo q js)
        rw [hB6, YB_retv, w248_170, d1, YB_ret, w248_179, b8]
        refine rO_tr d2 ?_
        rcases κ6 with e | V
        · have h45 : gI S7 45 = 0 := h45
          rw [h45, if_pos yr_0]
          exact fin S7 t6 (.inl e) _ _ (rS_c hG d3 (by omega))
        · have h45 : gI S7 45 = 1 := h45
          obtain ⟨y1, y2⟩ := hr46 V rfl
          have e4 : yr (r4 : Int) = a0 := by rw [y1]; exact yr_eq (by omega) (by omega)
          have e7 := d5 V rfl
          have d3 : rS G 1 (c - 1 + 1) S7 t6 (dp + 1) (.inr (slyP (8, 0, 0, 0) V)) := d3
          obtain ⟨u1, u2⟩ := rS_a (i := a0) (n := (zP V).length) d3
          rw [h45, if_neg n1, e4, if_pos (by omega), Int.toNat_natCast, e7]
          exact rO_tr (yWR_q u1) (fin _ t6 (.inr (saP a0 (zP V).length (slyP (8, 0, 0, 0) V))) _ _ (rS_c hG u2 (by omega)))
      · have z28 : kd = 28 := by omega
        have ew : sitw G body dp (some g) kd i0 a0 pl (.inr (t1, κ2)) = sxp G 21 (tc8 G dp i0 a0 pl g (.inr (t1 + 1, κ2))) := by
          unfold sitw
          rw [if_neg (by omega), if_neg (by omega), if_neg z27, if_pos z28]
          rfl
        rw [if_neg (by omega), ew]
        refine rO_bind (F := sxp G 21) (C := fun o => YB q o (d + 4) 248 203 [vr 129, vi fx, vi (kd : Int), vi pl, vu, vu] []) (fun a b S => t248 ..) sStr_xp (q252 (d := d) (i := i0) (a := a0) (pl := pl) hG hd (by omega) (by omega) hg1 hg2 hg3 ha3 a6) fun S6 t6 κ6 o6 b7 b8 f6 h6 hB6 => ?_
        have hB6 : o6 = yretv q S6 js := hB6
        show rO q js G 1 c S6 dp (sbk κ2) (YB q o6 (d + 4) 248 203 [vr 129, vi fx, vi (kd : Int), vi pl, vu, vu] []) (sxp G 21 (.inr (t6, κ6))) (rVo q js)
        rw [hB6, YB_retv, w248_206, b8]
        exact fin S6 t6 κ6 _ _ (rS_c hG h6 (by omega))
    · have h12 : dp = 12 := by omega
      have hsn := hn h12
      subst hsn
      have ew : sitw G body dp none kd i0 a0 pl (.inr (t1, κ2)) = .inl (gT G t1).2.1 := by
        unfold sitw
        rcases zd with z | z
        · rw [if_neg (by omega), if_neg (by omega), if_pos z]
          rfl
        · rw [if_neg (by omega), if_neg (by omega), if_neg (by omega), if_pos z]
          rfl
      rw [ew]
      intro _
      obtain ⟨m1, _, m3, _, m5, _, _, m8, _⟩ := rS_t hG h2
      refine ⟨S1, ?_, yFr_rf _ _, rS_nz h2⟩
      have et : (gI S1 44).toNat = t1 := by rw [m1]; rfl
      rw [r237t (by rw [m5, h12]; rfl) (by omega), t248, et, m8]
  · -- no items in it
    obtain ⟨S2, a1, a2, a3⟩ := q217 (q := q) (d := d + 2) (js := js) hG h2 k64
    have st3 : Y q (d + 4) 248 48 [vr 129, vi fx, vi (kd : Int), vi pl, vu, vu] [] S1 js = Y q (d + 4) 248 68 [vr 129, vi fx, vi (kd : Int), vi pl, vu, vu] [] S2 js := by
      rw [w248_48, ekd, y27, y28, if_neg (by omega), if_neg (by omega), a1, YB_retv]
    rw [st3, w248_68, ekd, y22, y24, y25, y26, y27]
    refine rO_tr a2 ?_
    by_cases z22 : kd = 22
    · have ew : sitw G body dp sub kd i0 a0 pl (.inr (t1, κ2)) = sle (sln (fun V => (zP V).length) (.inr (t1 + 1, κ2))) (slp G sisP (spc G dp) 2000 (smp (slyP (0, 0, 0, 0)) (.inr (t1 + 1, κ2)))) := by
        unfold sitw
        rw [if_pos z22]
        have : sln (fun V => (zP V).length) (.inr (t1 + 1, κ2)) = sln (fun V => (zP V).length) (.inr (t1, κ2)) := by
          rcases κ2 with e | V <;> rfl
        rw [this]
        rfl
      have q249' := q249 (q := q) (js := js) (d := d) (dp := dp) hG hd (by omega) (by omega) a3
      have e : c - 2 + 2 = c := by omega
      rw [e] at q249'
      rw [if_pos (by omega), ew]
      exact rO_map (C := fun o => YB q o (d + 4) 248 75 [vr 129, vi fx, vi (kd : Int), vi pl, vu, vu] []) (B1 := rVo q js) (fun a b S => t248 ..) (fun S' o' e => by
        have e : o' = yretv q S' js := e
        show YB q o' _ _ _ _ _ = _
        rw [e, YB_retv, w248_78]) q249'
    rw [if_neg (by omega)]
    by_cases z24 : kd = 24 ∨ kd = 25
    · obtain ⟨v, hv⟩ : ∃ v, v = sfv G (.inr (t1 + 1, κ2)) := ⟨_, rfl⟩
      have ew : sitw G body dp sub kd i0 a0 pl (.inr (t1, κ2)) = smp (fun V => slyP (kd - 20, v, 0, 0) (snI i0 v V)) (snum G 1 40 (.inr (t1 + 1, κ2))) := by
        unfold sitw
        rw [if_neg z22, if_pos z24]
        unfold ssk
        rw [hv]
        rfl
      have q1 : rO q js G 1 (c - 2) S2 dp (sbk κ2) (Y q (d + 3) 220 0 [vr 129, vi 1, vi 40, vu, vu] [] S2 js) (snum G 1 40 (.inr (t1 + 1, κ2))) fun S' o => ∃ r : Int, o = yret q (vi r) S' js ∧ ∀ V, κ2 = .inr V → r = (v : Nat) := by
        rw [hv]
        exact rO_c (by omega) (q220 (d := d + 1) (lo := 1) (hi := 40) hG a3 (by omega) (by omega) (fun V z => rfl)) hG
      -- the step of the plan
      have fin : ∀ (k pc : Nat), kd - 20 = k → (∀ (x3 : Int) S', YB q (yret q (vi x3) S' js) (d + 4) 248 pc [vr 129, vi fx, vi (kd : Int), vi pl, vu, vu] [vi (k : Int), vr 129] = YB q (Y q (d + 3) 250 0 [vr 129, vi (k : Int), vi x3, vi 0, vi 0] [] S' js) (d + 4) 248 (pc + 5) [vr 129, vi fx, vi (kd : Int), vi pl, vu, vu] []) → (∀ (x3 : Int) S', YB q (yret q (vi x3) S' js) (d + 4) 248 (pc + 5) [vr 129, vi fx, vi (kd : Int), vi pl, vu, vu] [] = yretv q S' js) → rO q js G 1 c S2 dp (sbk κ2) (YB q (Y q (d + 3) 220 0 [vr 129, vi 1, vi 40, vu, vu] [] S2 js) (d + 4) 248 pc [vr 129, vi fx, vi (kd : Int), vi pl, vu, vu] [vi (k : Int), vr 129]) (smp (fun V => slyP (kd - 20, v, 0, 0) (snI i0 v V)) (snum G 1 40 (.inr (t1 + 1, κ2)))) (rVo q js) := by
        intro k pc hk1 hp1 hp2
        refine rO_bind (F := fun s => smp (fun V => slyP (kd - 20, v, 0, 0) (snI i0 v V)) s) (C := fun o => YB q o (d + 4) 248 pc [vr 129, vi fx, vi (kd : Int), vi pl, vu, vu] [vi (k : Int), vr 129]) (fun a b S => t248 ..) (sStr_mp (f := fun _ V => slyP (kd - 20, v, 0, 0) (snI i0 v V)) sStr_id) q1 fun S4 t4 κ4 o4 b3 b4 f4 h4 hB4 => ?_
        obtain ⟨r, ho4, hr⟩ := hB4
        obtain ⟨_, ek4⟩ := snum_k b3 b4
        subst ek4
        have h4' : rS G 1 (c - 2) S4 t4 dp (smk (snI i0 v) κ4) := rS_I (fun V => ⟨_, rfl⟩) h4
        obtain ⟨S6, r6, c1, c2, c3, c4, c5⟩ := q250 (q := q) (d := d + 3) (js := js) (k1 := k) (n1 := v) (n2 := 0) (n3 := 0) (a1 := r) (a2 := 0) (a3 := 0) h4' (fun V z => by
          refine ⟨?_, rfl, rfl, rS_pl hG h4' (by omega) V z⟩
          rcases κ4 with e | V0
          · nomatch z
          · exact hr V0 rfl)
        have c1 : Y q (d + 3) 250 0 [vr 129, vi (k : Int), vi r, vi 0, vi 0] [] S4 js = yret q (vi (r6 : Int)) S6 js := c1
        show rO q js G 1 c S4 dp (sbk κ4) (YB q o4 (d + 4) 248 pc [vr 129, vi fx, vi (kd : Int), vi pl, vu, vu] [vi (k : Int), vr 129]) (smp (fun V => slyP (kd - 20, v, 0, 0) (snI i0 v V)) (.inr (t4, κ4))) (rVo q js)
        have e9 : smp (fun V => slyP (kd - 20, v, 0, 0) (snI i0 v V)) (.inr (t4, κ4)) = .inr (t4, smk (slyP (k, v, 0, 0)) (smk (snI i0 v) κ4)) := by
          rw [hk1]
          rcases κ4 with e | V <;> rfl
        have bb := rO_ok (q := q) (js := js) (B := rVo q js) (o := yretv q S6 js) (rS_c (c' := c) hG c3 (by omega)) rfl
        rw [sbk_k, sbk_k] at bb
        rw [ho4, hp1, c1, hp2, e9]
        exact rO_tr c2 bb
      rw [ew]
      rcases z24 with z | z
      · rw [if_pos (by omega)]
        exact fin 4 93 (by omega) (fun x3 S' => by rw [YB_ret]; exact w248_96 ..) (fun x3 S' => by rw [YB_ret]; exact w248_101 ..)
      · rw [if_neg (by omega), if_pos (by omega)]
        exact fin 5 117 (by omega) (fun x3 S' => by rw [YB_ret]; exact w248_120 ..) (fun x3 S' => by rw [YB_ret]; exact w248_125 ..)
    · have z26 : kd = 26 := by omega
      have ew : sitw G body dp sub kd i0 a0 pl (.inr (t1, κ2)) = .inr (t1 + 1, smk (slyP (6, 0, 0, 0)) κ2) := by
        unfold sitw
        rw [if_neg z22, if_neg z24, if_neg (by omega), if_neg (by omega)]
        exact smp_k
      obtain ⟨S6, r6, c1, c2, c3, c4, c5⟩ := q250 (q := q) (d := d + 3) (js := js) (k1 := 6) (n1 := 0) (n2 := 0) (n3 := 0) (a1 := 0) (a2 := 0) (a3 := 0) a3 (fun V z => ⟨rfl, rfl, rfl, rS_pl hG a3 (by omega) V z⟩)
      have c1 : Y q (d + 3) 250 0 [vr 129, vi 6, vi 0, vi 0, vi 0] [] S2 js = yret q (vi (r6 : Int)) S6 js := c1
      have bb := rO_ok (q := q) (js := js) (B := rVo q js) (o := yretv q S6 js) (rS_c (c' := c) hG c3 (by omega)) rfl
      rw [sbk_k] at bb
      rw [if_neg (by omega), if_neg (by omega), if_pos (by omega), c1, YB_ret, w248_144, ew]
      exact rO_tr c2 bb
/-- items at some depth -/
theorem q247s {body : Bool} {sub : Option (yPS → yPS)} (hG : gOk G) (hd : 100 ≤ d) (hdp : dp ≤ 12) (hfx : fx = if body = true then 0 else 1) (hn : dp = 12 → sub = none) (hs : dp < 12 → ∃ g, sub = some g ∧ sStr g ∧ sPr G g ∧ qIt q js G fx (dp + 1) (d + 2) g ∧ qIt q js G fx (dp + 1) (d + 3) g) : qIt q js G fx dp (d + 5) (slp G sisI (sitm G body dp sub) 2000) := by
  have hss : (∀ g, sub = some g → sStr g) ∧ ∀ g, sub = some g → sPr G g := by
    by_cases z : dp < 12
    · obtain ⟨g', e', s1, s2, _⟩ := hs z
      refine ⟨fun g e => ?_, fun g e => ?_⟩
      · rw [e] at e'
        injection e' with e'
        rw [e']
        exact s1
      · rw [e] at e'
        injection e' with e'
        rw [e']
        exact s2
    · have := hn (by omega)
      refine ⟨fun g e => ?_, fun g e => ?_⟩
      · rw [this] at e
        nomatch e
      · rw [this] at e
        nomatch e
  have n1 : ¬ yr 1 = 0 := by decide
  have lp : ∀ (f t : Nat) (κ : yKp) (S : yS) (c : Int), gN G ≤ t + f → c ≤ 0 → 1 ≤ t → rS G 1 c S t dp κ → rO q js G 1 c S dp (sbk κ) (Y q (d + 5) 247 0 [vr 129, vi fx] [] S js) (slp G sisI (sitm G body dp sub) f (.inr (t, κ))) (rVo q js) := by
    intro f
    induction f with
    | zero =>
      intro t κ S c hf _ _ h
      have := h.1.2.1
      omega
    | succ f ih =>
      intro t κ S c hf hc ht h
      obtain ⟨g1, g2, g3, g4, g5, g6, g7, g8, g9, g10, g11⟩ := rS_t hG h
      have e44 : yr (gI S 44) = t := by rw [g1]; exact yr_eq (by omega) (by omega)
      have ok : 0 ≤ (t : Int) ∧ (t : Int) < 2001 := by omega
      have i1 : Y q (d + 4) 221 0 [vr 129, vi 22] [] S js = yret q (vi (yb (skd G (.inr (t, κ)) = 22))) S js := q221 (kd := 22) hG h (by omega)
      have i2 : Y q (d + 4) 191 0 [vj (yi2l (gA S 39 t)), vu, vj 24, vu, vj 28, vu] [] S js = yret q (vi (yb ((24 : Int) ≤ ykR (gT G t).1 ∧ ykR (gT G t).1 ≤ 28))) S js := q191 (lo := 24) (hi := 28) hG h (by decide) (by decide) (by omega) (by omega)
      have kI := ykR_j _ g9
      have es : slp G sisI (sitm G body dp sub) (f + 1) (.inr (t, κ)) = if sisI (gT G t).1 = true then slp G sisI (sitm G body dp sub) f (sitm G body dp sub (.inr (t, κ))) else .inr (t, κ) := rfl
      have st : Y q (d + 5) 247 0 [vr 129, vi fx] [] S js = if sisI (gT G t).1 = true then YB q (Y q (d + 4) 248 0 [vr 129, vi fx, vu, vu, vu, vu] [] S js) (d + 5) 247 33 [vr 129, vi fx] [] else yretv q S js := by
        rw [w247_0, i1, YB_ret, w247_6]
        by_cases z1 : skd G (.inr (t, κ)) = 22
        · rw [yb, if_pos z1, if_neg n1, if_pos (kI.mp (Or.inl z1))]
        · rw [yb, if_neg z1, if_pos yr_0, e44, if_pos ok, Int.toNat_natCast, i2, YB_ret, w247_28]
          by_cases z2 : (24 : Int) ≤ ykR (gT G t).1 ∧ ykR (gT G t).1 ≤ 28
          · rw [yb, if_pos z2, if_neg n1, if_pos (kI.mp (Or.inr z2))]
          · rw [yb, if_neg z2, if_pos yr_0, if_neg (fun y => by
              rcases kI.mpr y with y | y
              · exact z1 y
              · exact z2 y)]
      rw [st, es]
      by_cases z : sisI (gT G t).1 = true
      · rw [if_pos z, if_pos z]
        refine rO_bind (F := slp G sisI (sitm G body dp sub) f) (C := fun o => YB q o (d + 5) 247 33 [vr 129, vi fx] []) (fun a b S => t247 ..) (sStr_lp (sStr_itm hss.1) f) (q248 hG hd hc ht hdp hfx hn hs h z) fun S1 t1 κ1 o1 a1 a2 a3 a4 a5 => ?_
        have a5 : o1 = yretv q S1 js := a5
        obtain ⟨l1, l2⟩ := sitm_lt hG hss.1 hss.2 g2 z a1
        show rO q js G 1 c S1 dp (sbk κ) (YB q o1 (d + 5) 247 33 [vr 129, vi fx] []) (slp G sisI (sitm G body dp sub) f (.inr (t1, κ1))) (rVo q js)
        rw [a5, YB_retv, w247_36, a2]
        exact ih t1 κ1 S1 c (by omega) hc (by omega) a4
      · rw [if_neg z, if_neg z]
        exact rO_ok h rfl
  intro S t κ c hc ht h
  have hN := hG.1.2.1
  exact lp 2000 t κ S c (by omega) hc ht h
theorem q247 {body : Bool} (hG : gOk G) (hfx : fx = if body = true then 0 else 1) : ∀ (rd : Nat), rd ≤ 12 → ∀ d, 105 + 3 * rd ≤ d → qIt q js G fx (12 - rd) d (sits G body rd)
  | 0, _, d, hd => by
    obtain ⟨d', rfl⟩ : ∃ d', d = d' + 5 := ⟨d - 5, by omega⟩
    exact q247s (dp := 12) hG (by omega) (by omega) hfx (fun _ => rfl) (fun y => absurd y (by omega))
  | rd + 1, hr, d, hd => by
    obtain ⟨d', rfl⟩ : ∃ d', d = d' + 5 := ⟨d - 5, by omega⟩
    have e : 12 - (rd + 1) = 11 - rd := by omega
    have e2 : 11 - rd + 1 = 12 - rd := by omega
    rw [e]
    refine q247s (dp := 11 - rd) hG (by omega) (by omega) hfx (fun y => absurd y (by omega)) (fun _ => ⟨_, rfl, sStr_its rd, sPr_its hG rd, ?_, ?_⟩)
    · rw [e2]
      exact q247 hG hfx rd (by omega) (d' + 2) (by omega)
    · rw [e2]
      exact q247 hG hfx rd (by omega) (d' + 3) (by omega)
end YSFL
end YSF
