/-! THE REFERENCE READS A PROGRAM: a band -/
section YSG
/-- where a band's items begin, once it is known which band it is -/
noncomputable def u246 (q : yQ) (d : Nat) (S : yS) (js : List xO) (x0 x1 w : Int) : Option xRes := if yr (gI S 45) = 0 then if yr w = yr 1 then YB q (Y q d 247 0 [vr 129, vi 1] [] S js) (d + 1) 246 178 [vr 129, vi x0, vi x1, vi w] [] else if yr w = yr 2 then YB q (Y q d 247 0 [vr 129, vi 1] [] S js) (d + 1) 246 178 [vr 129, vi x0, vi x1, vi w] [] else YB q (Y q d 247 0 [vr 129, vi 0] [] S js) (d + 1) 246 178 [vr 129, vi x0, vi x1, vi w] [] else if 0 ≤ yr w ∧ yr w < 11 then if yr (gA S 51 ((yr w).toNat)) = yr (-1) then YB q (Y q d 219 0 [vr 129, vi 1, vi 4, vi x0] [] S js) (d + 1) 246 149 [vr 129, vi x0, vi x1, vi w] [] else YB q (Y q d 219 0 [vr 129, vi 0, vi 4, vi x0] [] S js) (d + 1) 246 149 [vr 129, vi x0, vi x1, vi w] [] else Y q (d + 1) 246 137 [vr 129, vi x0, vi x1, vi w] [vi w, vr 162, vr 129] S js
def sbw (kd : Nat) : Int := if kd = 14 then 0 else if kd = 15 then 1 else if kd = 16 then 2 else if kd = 18 then 3 else 4
def sbe (G : yGx) (i0 : Nat) (body : Bool) (s : yPS) : yPS := smp (seI i0) (sxp G 21 (smp (slyP (11, 0, 0, 0)) (sits G body 12 s)))
def sbf (i0 : Nat) (fb : yPV → Nat) (s : yPS) : yPS := smp (fun V => zsB V fun j => if j = fb V then some (i0, (zP V).length) else zB V j) s
section YSGL
variable {q : yQ} {d : Nat} {js : List xO} {G : yGx} {σ σ1 : yPS} {S S1 S' : yS} {sc c c' w fx : Int} {dp dp' t : Nat} {b : Bool} {o : Option xRes} {B B1 B2 : yS → Option xRes → Prop} {κ κ1 : yKp} {g : yPS → yPS}
theorem st246 {kd : Nat} {x0 : Int} (h : kd = 14 ∨ kd = 15 ∨ kd = 16 ∨ kd = 17 ∨ kd = 18 ∨ kd = 19 ∨ kd = 20) : Y q (d + 1) 246 49 [vr 129, vi x0, vi (ykR kd), vu] [] S js = if kd = 17 ∨ kd = 19 then YB q (Y q d 245 0 [vr 129, vu, vu, vu] [] S js) (d + 1) 246 106 [vr 129, vi x0, vi (ykR kd), vi 4] [vi 2, vi 5] else u246 q d S js x0 (ykR kd) (sbw kd) := by
  rw [w246_49]
  rcases h with rfl | rfl | rfl | rfl | rfl | rfl | rfl
  · have a14 : yr (ykR 14) = yr 14 := by decide
    have a17 : ¬ yr (ykR 14) = yr 17 := by decide
    have a19 : ¬ yr (ykR 14) = yr 19 := by decide
    have z : ¬ (14 = 17 ∨ 14 = 19) := by decide
    rw [if_pos a14, if_neg a17, if_neg a19, if_neg z]
    rfl
  · have a14 : ¬ yr (ykR 15) = yr 14 := by decide
    have a15 : yr (ykR 15) = yr 15 := by decide
    have a17 : ¬ yr (ykR 15) = yr 17 := by decide
    have a19 : ¬ yr (ykR 15) = yr 19 := by decide
    have z : ¬ (15 = 17 ∨ 15 = 19) := by decide
    rw [if_neg a14, if_pos a15, if_neg a17, if_neg a19, if_neg z]
    rfl
  · have a14 : ¬ yr (ykR 16) = yr 14 := by decide
    have a15 : ¬ yr (ykR 16) = yr 15 := by decide
    have a16 : yr (ykR 16) = yr 16 := by decide
    have a17 : ¬ yr (ykR 16) = yr 17 := by decide
    have a19 : ¬ yr (ykR 16) = yr 19 := by decide
    have z : ¬ (16 = 17 ∨ 16 = 19) := by decide
    rw [if_neg a14, if_neg a15, if_pos a16, if_neg a17, if_neg a19, if_neg z]
    rfl
  · have a14 : ¬ yr (ykR 17) = yr 14 := by decide
    have a15 : ¬ yr (ykR 17) = yr 15 := by decide
    have a16 : ¬ yr (ykR 17) = yr 16 := by decide
    have a18 : ¬ yr (ykR 17) = yr 18 := by decide
    have a17 : yr (ykR 17) = yr 17 := by decide
    have z : 17 = 17 ∨ 17 = 19 := by decide
    rw [if_neg a14, if_neg a15, if_neg a16, if_neg a18, if_pos a17, if_pos z]
  · have a14 : ¬ yr (ykR 18) = yr 14 := by decide
    have a15 : ¬ yr (ykR 18) = yr 15 := by decide
    have a16 : ¬ yr (ykR 18) = yr 16 := by decide
    have a18 : yr (ykR 18) = yr 18 := by decide
    have a17 : ¬ yr (ykR 18) = yr 17 := by decide
    have a19 : ¬ yr (ykR 18) = yr 19 := by decide
    have z : ¬ (18 = 17 ∨ 18 = 19) := by decide
    rw [if_neg a14, if_neg a15, if_neg a16, if_pos a18, if_neg a17, if_neg a19, if_neg z]
    rfl
  · have a14 : ¬ yr (ykR 19) = yr 14 := by decide
    have a15 : ¬ yr (ykR 19) = yr 15 := by decide
    have a16 : ¬ yr (ykR 19) = yr 16 := by decide
    have a18 : ¬ yr (ykR 19) = yr 18 := by decide
    have a17 : ¬ yr (ykR 19) = yr 17 := by decide
    have a19 : yr (ykR 19) = yr 19 := by decide
    have z : 19 = 17 ∨ 19 = 19 := by decide
    rw [if_neg a14, if_neg a15, if_neg a16, if_neg a18, if_neg a17, if_pos a19, if_pos z]
  · have a14 : ¬ yr (ykR 20) = yr 14 := by decide
    have a15 : ¬ yr (ykR 20) = yr 15 := by decide
    have a16 : ¬ yr (ykR 20) = yr 16 := by decide
    have a18 : ¬ yr (ykR 20) = yr 18 := by decide
    have a17 : ¬ yr (ykR 20) = yr 17 := by decide
    have a19 : ¬ yr (ykR 20) = yr 19 := by decide
    have z : ¬ (20 = 17 ∨ 20 = 19) := by decide
    rw [if_neg a14, if_neg a15, if_neg a16, if_neg a18, if_neg a17, if_neg a19, if_neg z]
    rfl
theorem rbn_inj : ∀ i : Nat, i < 11 → ∀ j : Nat, j < 11 → (rbn i = rbn j ↔ i = j) := by decide
theorem rbn_lt : ∀ i : Nat, i < 11 → rbn i < 11 := by decide
theorem sStr_be {i0 : Nat} {body : Bool} : sStr (sbe G i0 body) := sStr_mp (f := fun _ => seI i0) (sStr_co (f := sxp G 21) sStr_xp (sStr_mp (f := fun _ => slyP (11, 0, 0, 0)) (sStr_its 12)))
theorem sPr_be {i0 : Nat} {body : Bool} (hG : gOk G) : sPr G (sbe G i0 body) := sPr_mp (f := fun _ => seI i0) (sPr_co (f := sxp G 21) sStr_xp (sPr_xp hG (by omega)) (sPr_mp (f := fun _ => slyP (11, 0, 0, 0)) (sPr_its hG 12)))
/-- a band's items, and its end -/
theorem q246e {i0 : Nat} {body : Bool} {x0 x1 x2 : Int} (hG : gOk G) (hd : 141 ≤ d) (hc : c ≤ -1) (ht : 1 ≤ t) (hfx : fx = if body = true then 0 else 1) (h : rS G 1 c S t 0 κ) : rO q js G 1 c S 0 (sbk κ) (YB q (Y q (d + 2) 247 0 [vr 129, vi fx] [] S js) (d + 3) 246 178 [vr 129, vi x0, vi x1, vi x2] []) (sbe G i0 body (.inr (t, κ))) (rVo q js) := by
  have it : rO q js G 1 c S 0 (sbk κ) (Y q (d + 2) 247 0 [vr 129, vi fx] [] S js) (sits G body 12 (.inr (t, κ))) (rVo q js) := q247 (q := q) (js := js) (G := G) (body := body) hG hfx 12 (by omega) (d + 2) (by omega) S t κ c (by omega) ht h
  refine rO_I (fun V => ⟨_, rfl⟩) (rO_bind (F := fun s => sxp G 21 (smp (slyP (11, 0, 0, 0)) s)) (C := fun o => YB q o (d + 3) 246 178 [vr 129, vi x0, vi x1, vi x2] []) (fun a b S => t246 ..) (sStr_co sStr_xp (sStr_mp (f := fun _ => slyP (11, 0, 0, 0)) sStr_id)) it fun S6 t6 κ6 o6 b7 b8 f6 h6 hB6 => ?_)
  have hB6 : o6 = yretv q S6 js := hB6
  obtain ⟨S7, r7, d1, d2, d3, d4, d5⟩ := q250 (q := q) (d := d + 2) (js := js) (k1 := 11) (n1 := 0) (n2 := 0) (n3 := 0) (a1 := 0) (a2 := 0) (a3 := 0) h6 (fun V z => ⟨rfl, rfl, rfl, rS_pl hG h6 hc V z⟩)
  have d1 : Y q (d + 2) 250 0 [vr 129, vi 11, vi 0, vi 0, vi 0] [] S6 js = yret q (vi (r7 : Int)) S7 js := d1
  have q21 : rO q js G 1 c S7 0 (sbk κ6) (Y q (d + 2) 225 0 [vr 129, vi 21] [] S7 js) (sxp G 21 (.inr (t6, smk (slyP (11, 0, 0, 0)) κ6))) (rVo q js) := by
    have := rO_c (c' := c) (by omega) (q225 (q := q) (js := js) (d := d) (kd := 21) hG d3 (by omega)) hG
    rw [sbk_k] at this
    exact this
  show rO q js G 1 c S6 0 (sbk κ) (YB q o6 (d + 3) 246 178 [vr 129, vi x0, vi x1, vi x2] []) (sxp G 21 (smp (slyP (11, 0, 0, 0)) (.inr (t6, κ6)))) (rVo q js)
  rw [hB6, YB_retv, w246_181, d1, YB_ret, w246_190, b8, smp_k]
  exact rO_tr d2 (rO_map (C := fun o => YB q o (d + 3) 246 194 [vr 129, vi x0, vi x1, vi x2] []) (B1 := rVo q js) (fun a b S => t246 ..) (fun S' o' e => by
    have e : o' = yretv q S' js := e
    show YB q o' _ _ _ _ _ = _
    rw [e, YB_retv, w246_197]) q21)
theorem sgd_cg {f g : yPV → Bool} {n p : Nat} (h : ∀ t V, σ = .inr (t, .inr V) → f V = g V) : sgd f n p σ = sgd g n p σ := by
  rcases σ with x | ⟨t, e | V⟩
  · rfl
  · rfl
  · show (Sum.inr (t, if f V = true then _ else _) : yPS) = .inr (t, if g V = true then _ else _)
    rw [h t V rfl]
/-- which band it is -/
theorem q246t {i0 : Nat} {body : Bool} {x1 w : Int} {pl : Nat} {fb : yPV → Nat} (hG : gOk G) (hd : 141 ≤ d) (hc : c ≤ -1) (ht : 1 ≤ t) (hw : -20 ≤ w ∧ w ≤ 20) (hwb : w = 1 ∨ w = 2 ↔ body = false) (hb : ∀ V, κ = .inr V → fb V < 11 ∧ w = (rbn (fb V) : Nat)) (h : rS G 1 c S t 0 κ) : rO q js G 1 c S 0 (sbk κ) (u246 q (d + 2) S js pl x1 w) (sbe G i0 body (sbf i0 fb (sgd (fun V => (zB V (fb V)).isNone) 4 pl (.inr (t, κ))))) (rVo q js) := by
  have n1 : ¬ yr 1 = 0 := by decide
  have ew : yr w = w := yr_eq (by omega) (by omega)
  have e1 : yr 1 = 1 := rfl
  have e2 : yr 2 = 2 := rfl
  have em : yr (-1) = -1 := rfl
  have h45 := rS_45 h
  obtain ⟨fx, hfx⟩ : ∃ fx : Int, fx = if body = true then 0 else 1 := ⟨_, rfl⟩
  have pick : ∀ (S : yS) (A : Option xRes), (if w = 1 then YB q (Y q (d + 2) 247 0 [vr 129, vi 1] [] S js) (d + 3) 246 178 [vr 129, vi pl, vi x1, vi w] [] else if w = 2 then YB q (Y q (d + 2) 247 0 [vr 129, vi 1] [] S js) (d + 3) 246 178 [vr 129, vi pl, vi x1, vi w] [] else YB q (Y q (d + 2) 247 0 [vr 129, vi 0] [] S js) (d + 3) 246 178 [vr 129, vi pl, vi x1, vi w] []) = YB q (Y q (d + 2) 247 0 [vr 129, vi fx] [] S js) (d + 3) 246 178 [vr 129, vi pl, vi x1, vi w] [] := fun S A => by
    by_cases z1 : w = 1
    · rw [if_pos z1, hfx, hwb.mp (Or.inl z1)]
      rfl
    · rw [if_neg z1]
      by_cases z2 : w = 2
      · rw [if_pos z2, hfx, hwb.mp (Or.inr z2)]
        rfl
      · rw [if_neg z2, hfx]
        cases hbd : body with
        | true => rfl
        | false =>
          have := hwb.mpr hbd
          omega
  unfold u246
  rw [ew, e1, e2, em]
  rcases κ with e | V
  · have h45 : gI S 45 = 0 := h45
    rw [h45, if_pos yr_0, pick S none]
    exact q246e hG hd hc ht hfx h
  · have h45 : gI S 45 = 1 := h45
    obtain ⟨hb1, hb2⟩ := hb V rfl
    have hr := rbn_lt _ hb1
    have hbn := h.2.2.1.2.2.2.2.2.2 (fb V) hb1
    have ok : 0 ≤ w ∧ w < 11 := by omega
    have ewt : w.toNat = rbn (fb V) := by omega
    rw [h45, if_neg n1, if_pos ok, ewt]
    have eg : sgd (fun V => (zB V (fb V)).isNone) 4 pl (.inr (t, .inr V)) = .inr (t, if (zB V (fb V)).isNone = true then .inr V else .inl (4, pl)) := rfl
    cases hz : zB V (fb V) with
    | some y =>
      rw [hz] at hbn eg
      have hbn : gA S 51 (rbn (fb V)) = (y.2 : Int) := hbn
      have eg : sgd (fun V => (zB V (fb V)).isNone) 4 pl (.inr (t, .inr V)) = .inr (t, .inl (4, pl)) := eg
      have r2 : ¬ yr (gA S 51 (rbn (fb V))) = -1 := by
        have hmx := h.2.2.2.2.2.2.2.2.2.2.2.2 (fb V) y.1 y.2 hz
        rw [hbn, yr_eq (by omega) (by omega)]
        omega
      have st : rO q js G 1 c S 0 true (YB q (Y q (d + 2) 219 0 [vr 129, vi 0, vi 4, vi pl] [] S js) (d + 3) 246 149 [vr 129, vi pl, vi x1, vi w] []) (.inr (t, .inl (4, pl))) (rVo q js) := ⟨fun _ => ⟨S, by rw [r219t h45 rfl, t246]; rfl, yFr_rf _ _, rS_nz h⟩, fun z => (nomatch z)⟩
      rw [if_neg r2, eg]
      have hs := sStr_co (f := sbe G i0 body) sStr_be (sStr_mp (f := fun _ V => zsB V fun j => if j = fb V then some (i0, (zP V).length) else zB V j) sStr_id)
      rcases hs.2 t (4, pl) with ⟨p, hp⟩ | ⟨t', hp⟩
      · have hp : sbe G i0 body (sbf i0 fb (.inr (t, .inl (4, pl)))) = .inl p := hp
        rw [hp]
        intro z
        nomatch z
      · have hp : sbe G i0 body (sbf i0 fb (.inr (t, .inl (4, pl)))) = .inr (t', .inl (4, pl)) := hp
        rw [hp]
        exact ⟨fun z => st.1 z, fun z => (nomatch z)⟩
    | none =>
      rw [hz] at hbn eg
      have hbn : gA S 51 (rbn (fb V)) = -1 := hbn
      have eg : sgd (fun V => (zB V (fb V)).isNone) 4 pl (.inr (t, .inr V)) = .inr (t, .inr V) := eg
      have e58 : gI S 58 = (((zP V).length : Nat) : Int) := h.2.2.1.2.2.2.2.2.1.1
      have lt := rS_pl hG h hc V rfl
      have r1 : Y q (d + 2) 219 0 [vr 129, vi 1, vi 4, vi pl] [] S js = yretv q S js := r219n (Or.inr (by decide))
      have fr : yFr yWQ S (sA S 51 (rbn (fb V)) (zP V).length) := yFr_A rfl
      have h' : rS G 1 c (sA S 51 (rbn (fb V)) (zP V).length) t 0 (.inr (zsB V fun j => if j = fb V then some (i0, (zP V).length) else zB V j)) := rS_Q (κ := .inr V) (f := fun V => zsB V fun j => if j = fb V then some (i0, (zP V).length) else zB V j) h fr (fun e z => nomatch z) fun V' z v o => by
        injection z with z
        subst z
        refine ⟨⟨rfl, rfl⟩, ⟨v.1, v.2.1, v.2.2.1, v.2.2.2.1, v.2.2.2.2.1, v.2.2.2.2.2.1, fun j hj => ?_⟩, o.1, o.2.1, o.2.2.1, o.2.2.2.1, o.2.2.2.2.1, o.2.2.2.2.2.1, o.2.2.2.2.2.2.1, o.2.2.2.2.2.2.2.1, o.2.2.2.2.2.2.2.2.1, fun j i a e => ?_⟩
        · show gA (sA S 51 (rbn (fb V)) (zP V).length) 51 (rbn j) = match (if j = fb V then some (i0, (zP V).length) else zB V j) with
            | none => -1
            | some (_, c) => (c : Int)
          rw [gA_self]
          by_cases y : j = fb V
          · rw [if_pos (by rw [y]), if_pos y]
          · rw [if_neg (fun z => y ((rbn_inj j hj _ hb1).mp z)), if_neg y]
            exact v.2.2.2.2.2.2 j hj
        · have e : (if j = fb V then some (i0, (zP V).length) else zB V j) = some (i, a) := e
          split at e
          · injection e with e
            injection e with _ e
            omega
          · exact o.2.2.2.2.2.2.2.2.2 j i a e
      have e51 : (zB V (fb V)) = none := hz
      have rm1 : yr (gA S 51 (rbn (fb V))) = -1 := by rw [hbn]; rfl
      rw [if_pos rm1, r1, YB_retv, w246_152, ew, e1, e2, if_pos ok, ewt, e58, pick _ none, eg]
      exact rO_tr (yWR_q fr) (q246e (κ := .inr (zsB V fun j => if j = fb V then some (i0, (zP V).length) else zB V j)) hG hd hc ht hfx h')
end YSGL
end YSG
