/-! THE REFERENCE READS A PROGRAM: a choice -/
section YSD
def tc3 (G : yGx) (st : Nat) (g : yPS → yPS) (s : yPS) : yPS := g (sxp G 29 (smp (slyP (9, st, 0, 0)) s))
def tc4 (i a : Nat) (s : yPS) : yPS := smp (fun V => sbP a ((zP V).length + 1) (slyP (10, 0, 0, 0) (snI i (zI V).length V))) s
def tc5 (G : yGx) (g : yPS → yPS) (s : yPS) : yPS := if skd G s = 30 then g (snx s) else s
def tc6 (gone : Nat) (s : yPS) : yPS := smp (fun V => saP gone (zP V).length V) s
def tc7 (G : yGx) (i a : Nat) (g : yPS → yPS) (s : yPS) : yPS := tc6 (sln (fun V => (zP V).length) s) (tc5 G g (tc4 i a s))
def tc2 (pl ty : Nat) (s : yPS) : yPS := sgd (fun _ => decide (¬ ty = 1)) 3 pl s
def tc1 (i : Nat) (s : yPS) : yPS := smp (fun V => scI i (zC V).length V) s
def tc8 (G : yGx) (dp i a pl : Nat) (g : yPS → yPS) (s : yPS) : yPS := tc7 G i a g (tc3 G (sln (fun V => (zC V).length) (tc1 i s)) g (tc2 pl (sty G 2 (dp + 1) (tc1 i s)) (sex G 2 (dp + 1) (tc1 i s))))
/-- what a call of items does -/
def qIt (q : yQ) (js : List xO) (G : yGx) (fx : Int) (dp d : Nat) (g : yPS → yPS) : Prop := ∀ (S : yS) (t : Nat) (κ : yKp) (c : Int), c ≤ 0 → 1 ≤ t → rS G 1 c S t dp κ → rO q js G 1 c S dp (sbk κ) (Y q d 247 0 [vr 129, vi fx] [] S js) (g (.inr (t, κ))) (rVo q js)
section YSDL
variable {q : yQ} {d : Nat} {js : List xO} {G : yGx} {σ σ1 : yPS} {S S1 S' : yS} {sc c c' w fx : Int} {dp dp' t : Nat} {b : Bool} {o : Option xRes} {B B1 B2 : yS → Option xRes → Prop} {κ κ1 : yKp} {g : yPS → yPS}
theorem sch_8 {i a pl : Nat} : sch G dp i a pl g σ = sxp G 21 (tc8 G dp i a pl g (snx σ)) := rfl
theorem sStr_7 {i a : Nat} (hg : sStr g) : sStr (tc7 G i a g) := by
  have h5 : sStr fun s => tc5 G g (tc4 i a s) := sStr_co (f := tc5 G g) (sStr_if (C := fun s => skd G s = 30) (sStr_co hg sStr_nx) sStr_id) (sStr_mp sStr_id)
  exact sStr_mp (f := fun s V => saP (sln (fun V => (zP V).length) s) (zP V).length V) h5
theorem sStr_3 {st : Nat} (hg : sStr g) : sStr (tc3 G st g) := sStr_co (f := g) hg (sStr_co sStr_xp (sStr_mp (f := fun _ => slyP (9, st, 0, 0)) sStr_id))
theorem sPr_tc5 (hG : gOk G) (hg : sPr G g) : sPr G (tc5 G g) := fun t κ t1 κ1 h e => by
  have e : (if skd G (.inr (t, κ)) = 30 then g (snx (.inr (t, κ))) else .inr (t, κ)) = .inr (t1, κ1) := e
  split at e
  · rename_i z
    have z : (gT G t).1 = 30 := z
    have := hg (t + 1) κ t1 κ1 (yTo_t hG.1 h (by omega)) e
    omega
  · exact sPr_id (G := G) t κ t1 κ1 h e
theorem sPr_7 {i a : Nat} (hG : gOk G) (hs : sStr g) (hg : sPr G g) : sPr G (tc7 G i a g) := sPr_mp (f := fun s V => saP (sln (fun V => (zP V).length) s) (zP V).length V) (sPr_co (f := tc5 G g) (sStr_if (C := fun s => skd G s = 30) (sStr_co hs sStr_nx) sStr_id) (sPr_tc5 hG hg) (sPr_mp (f := fun _ => fun V => sbP a ((zP V).length + 1) (slyP (10, 0, 0, 0) (snI i (zI V).length V))) sPr_id))
theorem sPr_3 {st : Nat} (hG : gOk G) (hs : sStr g) (hg : sPr G g) : sPr G (tc3 G st g) := sPr_co (f := g) hs hg (sPr_co sStr_xp (sPr_xp hG (by omega)) (sPr_mp (f := fun _ => slyP (9, st, 0, 0)) sPr_id))
theorem sStr_8 {i a pl : Nat} (hg : sStr g) : sStr (tc8 G dp i a pl g) := by
  have h1 : sStr fun s => sex G 2 (dp + 1) (tc1 i s) := sStr_co sStr_ex (sStr_mp sStr_id)
  have h2 : sStr fun s => tc2 pl (sty G 2 (dp + 1) (tc1 i s)) (sex G 2 (dp + 1) (tc1 i s)) := sStr_gd (n := fun _ => 3) (p := fun _ => pl) h1
  have h3 : sStr fun s => tc3 G (sln (fun V => (zC V).length) (tc1 i s)) g (tc2 pl (sty G 2 (dp + 1) (tc1 i s)) (sex G 2 (dp + 1) (tc1 i s))) := sStr_co (f := g) hg (sStr_co sStr_xp (sStr_mp (f := fun s => slyP (9, sln (fun V => (zC V).length) (tc1 i s), 0, 0)) h2))
  exact sStr_co (f := tc7 G i a g) (sStr_7 hg) h3
theorem sPr_8 {i a pl : Nat} (hG : gOk G) (hs : sStr g) (hg : sPr G g) : sPr G (tc8 G dp i a pl g) := by
  have h1 : sPr G fun s => sex G 2 (dp + 1) (tc1 i s) := sPr_co sStr_ex (sPr_ex hG) (sPr_mp sPr_id)
  have h2 : sPr G fun s => tc2 pl (sty G 2 (dp + 1) (tc1 i s)) (sex G 2 (dp + 1) (tc1 i s)) := sPr_gd (n := fun _ => 3) (p := fun _ => pl) h1
  have h3 : sPr G fun s => tc3 G (sln (fun V => (zC V).length) (tc1 i s)) g (tc2 pl (sty G 2 (dp + 1) (tc1 i s)) (sex G 2 (dp + 1) (tc1 i s))) := sPr_co (f := g) hs hg (sPr_co sStr_xp (sPr_xp hG (by omega)) (sPr_mp (f := fun s => slyP (9, sln (fun V => (zC V).length) (tc1 i s), 0, 0)) h2))
  exact sPr_co (f := tc7 G i a g) (sStr_7 hs) (sPr_7 hG hs hg) h3
theorem q252 {i a pl : Nat} (hG : gOk G) (hd : 100 ≤ d) (hc : c ≤ -2) (ht : 1 ≤ t) (hg : sStr g) (hp : sPr G g) (hs : qIt q js G fx (dp + 1) (d + 2) g) (ha : ∀ V, κ = .inr V → a = (zP V).length) (h : rS G 1 c S t (dp + 1) κ) : rO q js G 1 c S (dp + 1) (sbk κ) (Y q (d + 3) 252 0 [vr 129, vi pl, vi fx, vu, vu, vu, vu] [] S js) (tc8 G dp i a pl g (.inr (t, κ))) (rVo q js) := by
  obtain ⟨g1, g2, g3, g4, g5, g6, g7, g8, g9, g10, g11⟩ := rS_t hG h
  have n1 : ¬ yr 1 = 0 := by decide
  obtain ⟨κ1, hκ1⟩ : ∃ κ1, κ1 = smk (fun V => scI i (zC V).length V) κ := ⟨_, rfl⟩
  have e1 : tc1 i (.inr (t, κ)) = .inr (t, κ1) := by
    unfold tc1
    rw [smp_k, hκ1]
  have h1 : rS G 1 c S t (dp + 1) κ1 := by rw [hκ1]; exact rS_I (fun V => ⟨_, rfl⟩) h
  have hb1 : sbk κ1 = sbk κ := by rw [hκ1, sbk_k]
  have ha1 : ∀ V, κ1 = .inr V → a = (zP V).length := fun V z => by
    rw [hκ1] at z
    rcases κ with e | V0
    · nomatch z
    · injection z with z
      rw [← z]
      exact ha V0 rfl
  obtain ⟨st, hst⟩ : ∃ st, st = sln (fun V => (zC V).length) (.inr (t, κ1)) := ⟨_, rfl⟩
  obtain ⟨ty, hty⟩ : ∃ ty, ty = sty G 2 (dp + 1) (.inr (t, κ1)) := ⟨_, rfl⟩
  unfold tc8
  rw [e1, ← hst, ← hty, w252_0, if_pos g11, w252_4, rS_ln h1, ← hst, ← hb1]
  -- the condition
  refine rO_bind (F := fun s => tc7 G i a g (tc3 G st g (tc2 pl ty s))) (C := fun o => YB q o (d + 3) 252 9 [vr 129, vi pl, vi fx, vi (st : Int), vu, vu, vu] []) (fun a b S => t252 ..) (sStr_co (f := tc7 G i a g) (sStr_7 hg) (sStr_co (f := tc3 G st g) (sStr_3 hg) (sStr_gd (n := fun _ => 3) (p := fun _ => pl) sStr_id))) (q226 (d := d + 1) (w := 2) hG h1 (Or.inr ⟨rfl, rfl⟩) (by omega)) fun S2 t2 κ2 o2 b1 b2 f2 h2 hB2 => ?_
  obtain ⟨r, hr1, hr2, hr3⟩ := hB2
  obtain ⟨l1, l2⟩ := sex_lt hG g2 b1
  obtain ⟨k1, k2⟩ := sex_k b1 b2
  have ha2 : ∀ V, κ2 = .inr V → a = (zP V).length ∧ r = ty := fun V z => by
    obtain ⟨V0, x, z1, z2, z3⟩ := k2 V z
    rw [z2]
    exact ⟨ha1 V0 z1, by rw [hr3 V0 z1, hty]⟩
  show rO q js G 1 c S2 (dp + 1) (sbk κ1) (YB q o2 (d + 3) 252 9 [vr 129, vi pl, vi fx, vi (st : Int), vu, vu, vu] []) (tc7 G i a g (tc3 G st g (tc2 pl ty (.inr (t2, κ2))))) (rVo q js)
  have er : yr (r : Int) = r := yr_eq (by omega) (by omega)
  have st2 : ∃ x : Int, Y q (d + 3) 252 12 [vr 129, vi pl, vi fx, vi (st : Int), vu, vu, vu] [vi (r : Int)] S2 js = YB q (Y q (d + 2) 219 0 [vr 129, vi x, vi 3, vi pl] [] S2 js) (d + 3) 252 27 [vr 129, vi pl, vi fx, vi (st : Int), vi (r : Int), vu, vu] [] ∧ x = yb (r = 0) := by
    rw [w252_12, er]
    by_cases z : r = 0
    · rw [if_pos (by omega)]
      exact ⟨1, rfl, by rw [yb, if_pos z]⟩
    · rw [if_neg (by omega)]
      exact ⟨0, rfl, by rw [yb, if_neg z]⟩
  obtain ⟨x, st2, hx⟩ := st2
  have h219 : rO q js G 1 (c - 2) S2 (dp + 1) (sbk κ2) (Y q (d + 2) 219 0 [vr 129, vi x, vi 3, vi pl] [] S2 js) (tc2 pl ty (.inr (t2, κ2))) (rVo q js) := q219 (n := 3) (d := d + 1) h2 (C := r = 0) (fun V e => by
    rw [decide_eq_true_iff]
    have := (ha2 V e).2
    omega) (fun V e => hx)
  rw [b2, hr1, YB_ret, st2]
  refine rO_bind (F := fun s => tc7 G i a g (tc3 G st g s)) (C := fun o => YB q o (d + 3) 252 27 [vr 129, vi pl, vi fx, vi (st : Int), vi (r : Int), vu, vu] []) (fun a b S => t252 ..) (sStr_co (f := tc7 G i a g) (sStr_7 hg) (sStr_3 hg)) h219 fun S3 t3 κ3 o3 b3 b4 f3 h3 hB3 => ?_
  obtain ⟨q1, q2, q3⟩ := sgd_k b3 b4
  subst q1 q2
  have hB3 : o3 = yretv q S3 js := hB3
  -- a step of the plan
  obtain ⟨S4, r4, c1, c2, c3, c4, c5⟩ := q250 (q := q) (d := d + 2) (js := js) (k1 := 9) (n1 := st) (n2 := 0) (n3 := 0) (a1 := st) (a2 := 0) (a3 := 0) h3 (fun V z => ⟨rfl, rfl, rfl, rS_pl hG h3 (by omega) V z⟩)
  have c1 : Y q (d + 2) 250 0 [vr 129, vi 9, vi (st : Int), vi 0, vi 0] [] S3 js = yret q (vi (r4 : Int)) S4 js := c1
  obtain ⟨κ4, hκ4⟩ : ∃ κ4, κ4 = smk (slyP (9, st, 0, 0)) κ3 := ⟨_, rfl⟩
  have hb4 : sbk κ4 = sbk κ3 := by rw [hκ4, sbk_k]
  rw [← hκ4] at c3
  have hr4 : ∀ V, κ3 = .inr V → r4 = a ∧ a < 4000 := fun V z => by
    have y1 := c5 V z
    have y2 := (ha2 V z).1
    have y3 := rS_pl hG h3 (by omega) V z
    omega
  have e5 : tc3 G st g (.inr (t3, κ3)) = g (sxp G 29 (.inr (t3, κ4))) := by
    unfold tc3
    rw [smp_k, hκ4]
  show rO q js G 1 c S3 (dp + 1) (sbk κ3) (YB q o3 (d + 3) 252 27 [vr 129, vi pl, vi fx, vi (st : Int), vi (r : Int), vu, vu] []) (tc7 G i a g (tc3 G st g (.inr (t3, κ3)))) (rVo q js)
  have q29 : rO q js G 1 (c - 3) S4 (dp + 1) (sbk κ4) (Y q (d + 2) 225 0 [vr 129, vi 29] [] S4 js) (sxp G 29 (.inr (t3, κ4))) (rVo q js) := rO_c (by omega) (q225 (d := d) (kd := 29) hG c3 (by omega)) hG
  rw [hB3, YB_retv, w252_30, c1, YB_ret, w252_39, e5, ← hb4]
  refine rO_tr c2 (rO_bind (F := fun s => tc7 G i a g (g s)) (C := fun o => YB q o (d + 3) 252 44 [vr 129, vi pl, vi fx, vi (st : Int), vi (r : Int), vi (r4 : Int), vu] []) (fun a b S => t252 ..) (sStr_co (f := tc7 G i a g) (sStr_7 hg) hg) q29 fun S5 t5 κ5 o5 b5 b6 f5 h5 hB5 => ?_)
  obtain ⟨e6, e7⟩ := sxp_k b5
  subst e7
  have hB5 : o5 = yretv q S5 js := hB5
  show rO q js G 1 c S5 (dp + 1) (sbk κ5) (YB q o5 (d + 3) 252 44 [vr 129, vi pl, vi fx, vi (st : Int), vi (r : Int), vi (r4 : Int), vu] []) (tc7 G i a g (g (.inr (t5, κ5)))) (rVo q js)
  rw [hB5, YB_retv, w252_47]
  -- the items that are chosen
  refine rO_bind (F := tc7 G i a g) (C := fun o => YB q o (d + 3) 252 49 [vr 129, vi pl, vi fx, vi (st : Int), vi (r : Int), vi (r4 : Int), vu] []) (fun a b S => t252 ..) (sStr_7 hg) (hs S5 t5 κ5 (c - 3) (by omega) (by omega) h5) fun S6 t6 κ6 o6 b7 b8 f6 h6 hB6 => ?_
  obtain ⟨l3, l4⟩ := hp t5 κ5 t6 κ6 h5.1.2.1 b7
  have hB6 : o6 = yretv q S6 js := hB6
  have hr46 : ∀ V, κ6 = .inr V → r4 = a ∧ a < 4000 := fun V z => by
    rcases hz : κ3 with e | V0
    · rw [hb4, hz, z] at b8
      nomatch b8
    · exact hr4 V0 hz
  obtain ⟨S7, r7, d1, d2, d3, d4, d5⟩ := q250 (q := q) (d := d + 2) (js := js) (k1 := 10) (n1 := 0) (n2 := 0) (n3 := 0) (a1 := 0) (a2 := 0) (a3 := 0) h6 (fun V z => ⟨rfl, rfl, rfl, rS_pl hG h6 (by omega) V z⟩)
  have d1 : Y q (d + 2) 250 0 [vr 129, vi 10, vi 0, vi 0, vi 0] [] S6 js = yret q (vi (r7 : Int)) S7 js := d1
  have hr7 : ∀ V, κ6 = .inr V → r7 = (zP V).length ∧ (zP V).length < 4000 := fun V z => ⟨d5 V z, rS_pl hG h6 (by omega) V z⟩
  obtain ⟨gone, hgone⟩ : ∃ gone, gone = sln (fun V => (zP V).length) (.inr (t6, κ6)) := ⟨_, rfl⟩
  have hg7 : ∀ V, κ6 = .inr V → r7 = gone ∧ gone < 4000 := fun V z => by
    have := hr7 V z
    rw [hgone, z]
    exact ⟨this.1, this.2⟩
  obtain ⟨κ8, hκ8⟩ : ∃ κ8, κ8 = smk (fun V => sbP a ((zP V).length + 1) (slyP (10, 0, 0, 0) (snI i (zI V).length V))) κ6 := ⟨_, rfl⟩
  have hb8 : sbk κ8 = sbk κ6 := by rw [hκ8, sbk_k]
  have h4c : tc4 i a (.inr (t6, κ6)) = .inr (t6, κ8) := by
    unfold tc4
    rw [smp_k, hκ8]
  have h7c : tc7 G i a g (.inr (t6, κ6)) = tc6 gone (tc5 G g (.inr (t6, κ8))) := by
    unfold tc7
    rw [h4c, ← hgone]
  -- where it goes otherwise
  obtain ⟨S8, m1, m2, m3⟩ : ∃ S8 : yS, Y q (d + 3) 252 61 [vr 129, vi pl, vi fx, vi (st : Int), vi (r : Int), vi (r4 : Int), vu] [vi (r7 : Int)] S7 js = YB q (Y q (d + 2) 221 0 [vr 129, vi 30] [] S8 js) (d + 3) 252 84 [vr 129, vi pl, vi fx, vi (st : Int), vi (r : Int), vi (r4 : Int), vi (r7 : Int)] [] ∧ yFr yWR S7 S8 ∧ rS G 1 (c - 2) S8 t6 (dp + 1) κ8 := by
    have h45 := rS_45 d3
    rw [w252_61, hκ8]
    rcases κ6 with e | V
    · have h45 : gI S7 45 = 0 := h45
      rw [h45, if_pos yr_0]
      exact ⟨S7, rfl, yFr_rf _ _, rS_c hG d3 (by omega)⟩
    · have h45 : gI S7 45 = 1 := h45
      obtain ⟨y1, y2⟩ := hr46 V rfl
      have e4 : yr (r4 : Int) = a := by rw [y1]; exact yr_eq (by omega) (by omega)
      have d3' : rS G 1 (c - 3 + 1) S7 t6 (dp + 1) (.inr (slyP (10, 0, 0, 0) (snI i (zI V).length V))) := rS_I (κ := .inr (slyP (10, 0, 0, 0) V)) (f := fun V' => zsI V' (zI (snI i (zI V).length V))) (fun V => ⟨_, rfl⟩) d3
      have e58 : gI S7 58 = (((zP V).length + 1 : Nat) : Int) := by
        have := d3'.2.2.1.2.2.2.2.2.1.1
        rw [this]
        show ((zP V ++ [(10, 0, 0, 0)]).length : Int) = _
        rw [List.length_append]
        rfl
      obtain ⟨u1, u2⟩ := rS_b (i := a) (n := (zP V).length + 1) d3'
      rw [h45, if_neg n1, e4, if_pos (by omega), Int.toNat_natCast, e58]
      exact ⟨_, rfl, yWR_q u1, rS_c hG u2 (by omega)⟩
  have i8 : Y q (d + 2) 221 0 [vr 129, vi 30] [] S8 js = yret q (vi (yb (skd G (.inr (t6, κ8)) = 30))) S8 js := q221 (kd := 30) hG m3 (by omega)
  -- where it goes on
  have fin : ∀ (S9 : yS) (t9 : Nat) (κ9 : yKp) (o9 : Option xRes), sbk κ9 = sbk κ6 → rS G 1 (c - 2) S9 t9 (dp + 1) κ9 → o9 = (if yr (gI S9 45) = 0 then yretv q S9 js else if 0 ≤ yr (r7 : Int) ∧ yr (r7 : Int) < 4000 then yretv q (sA S9 53 (yr (r7 : Int)).toNat (gI S9 58)) js else Y q (d + 3) 252 116 [vr 129, vi pl, vi fx, vi (st : Int), vi (r : Int), vi (r4 : Int), vi (r7 : Int)] [vi (gI S9 58), vi (r7 : Int), vr 164] S9 js) → rO q js G 1 c S9 (dp + 1) (sbk κ6) o9 (tc6 gone (.inr (t9, κ9))) (rVo q js) := by
    intro S9 t9 κ9 o9 hb hS ho
    have h45 := rS_45 hS
    unfold tc6
    rw [ho, smp_k, ← hb, ← sbk_k (κ := κ9) (f := fun V => saP gone (zP V).length V)]
    rcases κ9 with e | V
    · have h45 : gI S9 45 = 0 := h45
      rw [h45, if_pos yr_0]
      exact rO_ok (κ := .inl e) (rS_c hG hS (by omega)) rfl
    · have h45 : gI S9 45 = 1 := h45
      have hx : ∃ V6, κ6 = .inr V6 := by
        rcases κ6 with e | V6
        · nomatch hb
        · exact ⟨V6, rfl⟩
      obtain ⟨V6, hV6⟩ := hx
      obtain ⟨y1, y2⟩ := hg7 V6 hV6
      have e7' : yr (r7 : Int) = gone := by rw [y1]; exact yr_eq (by omega) (by omega)
      have e58 : gI S9 58 = (((zP V).length : Nat) : Int) := hS.2.2.1.2.2.2.2.2.1.1
      obtain ⟨u1, u2⟩ := rS_a (i := gone) (n := (zP V).length) hS
      rw [h45, if_neg n1, e7', if_pos (by omega), Int.toNat_natCast, e58]
      exact rO_tr (yWR_q u1) (rO_ok (κ := .inr (saP gone (zP V).length V)) (rS_c hG u2 (by omega)) rfl)
  show rO q js G 1 c S6 (dp + 1) (sbk κ5) (YB q o6 (d + 3) 252 49 [vr 129, vi pl, vi fx, vi (st : Int), vi (r : Int), vi (r4 : Int), vu] []) (tc7 G i a g (.inr (t6, κ6))) (rVo q js)
  rw [hB6, YB_retv, w252_52, d1, YB_ret, m1, i8, YB_ret, h7c, b8]
  refine rO_tr d2 (rO_tr m2 ?_)
  unfold tc5
  by_cases z : skd G (.inr (t6, κ8)) = 30
  · have z' : (gT G t6).1 = 30 := z
    obtain ⟨S9, u1, u2, u3⟩ := q217 (q := q) (d := d + 1) (js := js) hG m3 (by omega)
    have hit := hs S9 (t6 + 1) κ8 (c - 2) (by omega) (by omega) (rS_c hG u3 (by omega))
    rw [if_pos z, yb, if_pos z, w252_87, if_neg n1, u1, YB_retv, w252_94]
    rw [hb8] at hit
    refine rO_tr u2 (rO_bind (F := tc6 gone) (C := fun o => YB q o (d + 3) 252 96 [vr 129, vi pl, vi fx, vi (st : Int), vi (r : Int), vi (r4 : Int), vi (r7 : Int)] []) (fun a b S => t252 ..) (sStr_mp (f := fun _ V => saP gone (zP V).length V) sStr_id) hit fun S10 t10 κ10 o10 v1 v2 v3 v4 v5 => ?_)
    have v5 : o10 = yretv q S10 js := v5
    exact fin S10 t10 κ10 _ v2.symm v4 (by
      show YB q o10 (d + 3) 252 96 [vr 129, vi pl, vi fx, vi (st : Int), vi (r : Int), vi (r4 : Int), vi (r7 : Int)] [] = _
      rw [v5, YB_retv, w252_99])
  · rw [if_neg z, yb, if_neg z]
    exact fin S8 t6 κ8 _ hb8 m3 (by rw [w252_87, if_pos yr_0])
end YSDL
end YSD
