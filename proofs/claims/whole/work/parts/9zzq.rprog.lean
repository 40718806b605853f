/-! THE REFERENCE READS A PROGRAM: a pass -/
section YSI
def yWR2 (s k : Nat) : Bool := yWR s k || (s == 0 && k == 50)
theorem yWR2_r {S S' : yS} (h : yFr yWR S S') : yFr yWR2 S S' := yFr_mo h fun s k e => by
  unfold yWR2 at e
  simp only [Bool.or_eq_false_iff] at e
  exact e.1
/-- behind the last token -/
def rFin (G : yGx) (S : yS) (t : Nat) (κ : yKp) : Prop := ∃ (S0 : yS) (x : Int), S = sI S0 44 x ∧ rS G 1 0 S0 t 0 κ
/-- how a pass comes out -/
def rZ (q : yQ) (js : List xO) (G : yGx) (S : yS) (b : Bool) (o : Option xRes) (σ : yPS) : Prop := match σ with
  | .inl p => b = false → ∃ S', o = ythr q (ystp 1 (Int32.ofInt (p : Nat))) S' js ∧ yFr yWR2 S S' ∧ rNz S'
  | .inr (t, .inl e) => (b = true → ∃ S', o = ythr q (ystp (Int32.ofInt (e.1 : Nat)) (Int32.ofInt (e.2 : Nat))) S' js ∧ yFr yWR2 S S' ∧ rNz S') ∧ (b = false → ∃ S', o = yretv q S' js ∧ yFr yWR2 S S' ∧ rFin G S' t (.inl e))
  | .inr (t, .inr V) => b = true ∧ ∃ S', o = yretv q S' js ∧ yFr yWR2 S S' ∧ rFin G S' t (.inr V)
section YSIL
variable {q : yQ} {d : Nat} {js : List xO} {G : yGx} {σ σ1 : yPS} {S S1 S' : yS} {sc c c' w fx : Int} {dp dp' t : Nat} {b : Bool} {o : Option xRes} {B B1 B2 : yS → Option xRes → Prop} {κ κ1 : yKp} {g : yPS → yPS}
theorem rZ_tr (hf : yFr yWR2 S S1) (h : rZ q js G S1 b o σ) : rZ q js G S b o σ := by
  match σ, h with
  | .inl p, h =>
    intro e
    obtain ⟨S', h1, h2⟩ := h e
    exact ⟨S', h1, yFr_tr hf h2.1, h2.2⟩
  | .inr (t, .inl e), h =>
    refine ⟨fun eb => ?_, fun eb => ?_⟩
    · obtain ⟨S', h1, h2⟩ := h.1 eb
      exact ⟨S', h1, yFr_tr hf h2.1, h2.2⟩
    · obtain ⟨S', h1, h2, h3⟩ := h.2 eb
      exact ⟨S', h1, yFr_tr hf h2, h3⟩
  | .inr (t, .inr V), h =>
    obtain ⟨h0, S', h1, h2, h3⟩ := h
    exact ⟨h0, S', h1, yFr_tr hf h2, h3⟩
theorem rZ_bind {C : Option xRes → Option xRes} {F : yPS → yPS} (hC : ∀ (a p : Int32) (S' : yS), C (ythr q (ystp a p) S' js) = ythr q (ystp a p) S' js) (hF : sStr F) (h : rO q js G sc c S dp b o σ1 B1) (hn : ∀ S1 t1 κ1 o1, σ1 = .inr (t1, κ1) → b = sbk κ1 → rS G sc c S1 t1 dp κ1 → B1 S1 o1 → rZ q js G S1 b (C o1) (F (.inr (t1, κ1)))) : rZ q js G S b (C o) (F σ1) := by
  match σ1, h, hn with
  | .inl p, h, hn =>
    rw [hF.1 p]
    intro e
    obtain ⟨S', h1, h2⟩ := h e
    exact ⟨S', by rw [h1, hC], yWR2_r h2.1, h2.2⟩
  | .inr (t, .inl e), h, hn =>
    cases b with
    | true =>
      obtain ⟨S', h1, h2⟩ := h.1 rfl
      rcases hF.2 t e with ⟨p, hp⟩ | ⟨t', hp⟩
      · rw [hp]
        intro z
        nomatch z
      · rw [hp]
        exact ⟨fun _ => ⟨S', by rw [h1, hC], yWR2_r h2.1, h2.2⟩, fun z => (nomatch z)⟩
    | false =>
      obtain ⟨S', h1, h2, h3⟩ := h.2 rfl
      exact rZ_tr (yWR2_r h2) (hn S' t (.inl e) o rfl rfl h3 h1)
  | .inr (t, .inr V), h, hn =>
    obtain ⟨h0, S', h1, h2, h3⟩ := h
    exact rZ_tr (yWR2_r h2) (hn S' t (.inr V) o rfl h0 h3 h1)
theorem rZ_ok (h : rFin G S t κ) (ho : o = yretv q S js) : rZ q js G S (sbk κ) o (.inr (t, κ)) := by
  match κ, h with
  | .inl e, h => exact ⟨fun z => (nomatch z), fun _ => ⟨S, ho, yFr_rf _ _, h⟩⟩
  | .inr V, h => exact ⟨rfl, S, ho, yFr_rf _ _, h⟩
/-- a token that isn't the last -/
theorem gN_last (hG : gOk G) (ht : t < gN G) (h64 : (gT G t).1 ≤ 64) : t + 1 < gN G := yTo_t hG.1 ht h64
/-- the end of the tape -/
theorem q215e (hG : gOk G) (hc : c ≤ 0) (h : rS G 1 c S t 0 κ) : rZ q js G S (sbk κ) (YB q (Y q (d + 2) 225 0 [vr 129, vi 203] [] S js) (d + 3) 215 77 [vr 129] []) (send G (.inr (t, κ))) := by
  obtain ⟨g1, g2, g3, g4, g5, g6, g7, g8, g9, g10, g11⟩ := rS_t hG h
  have e44 : yr (gI S 44) = t := by rw [g1]; exact yr_eq (by omega) (by omega)
  have n1 : ¬ yr 1 = 0 := by decide
  have i1 : Y q (d + 1) 221 0 [vr 129, vi 203] [] S js = yret q (vi (yb (skd G (.inr (t, κ)) = 65))) S js := q221 (kd := 65) hG h (by omega)
  rw [w225_0, i1, YB_ret, w225_5]
  unfold send
  by_cases z : skd G (.inr (t, κ)) = 65
  · rw [yb, if_pos z, if_neg n1, if_pos z, r217 (by omega) (by omega), if_neg (by omega), YB_retv, w225_17, YB_retv, w215_80]
    exact rZ_tr (yWR2_r (yWR_v (yFr_I (yWv_I (by omega))))) (rZ_ok ⟨S, gI S 44 + 1, rfl, rS_c hG h hc⟩ rfl)
  · rw [yb, if_neg z, if_pos yr_0, if_neg z]
    intro _
    refine ⟨S, ?_, yFr_rf _ _, rS_nz h⟩
    rw [c218 q d js S (by rw [e44]; omega), YB_ret, a225_12, e44, Int.toNat_natCast, g8, t215]
theorem sStr_en : sStr (send G) := sStr_if (C := fun s => skd G s = 65) sStr_id sStr_rf
/-- the bands -/
theorem q215b (hG : gOk G) (hd : 140 ≤ d) (hc : c ≤ 0) : ∀ (f t : Nat) (κ : yKp) (S : yS), gN G ≤ t + f + 1 → rS G 1 c S t 0 κ → rZ q js G S (sbk κ) (Y q (d + 5) 215 57 [vr 129] [] S js) (send G (sbds G f (.inr (t, κ)))) := by
  intro f
  have n1 : ¬ yr 1 = 0 := by decide
  have base : ∀ (t : Nat) (κ : yKp) (S : yS), rS G 1 c S t 0 κ → ¬ (gT G t).1 = 13 → rZ q js G S (sbk κ) (Y q (d + 5) 215 57 [vr 129] [] S js) (send G (.inr (t, κ))) := fun t κ S h z => by
    have i1 : Y q (d + 4) 221 0 [vr 129, vi 13] [] S js = yret q (vi (yb (skd G (.inr (t, κ)) = 13))) S js := q221 (kd := 13) hG h (by omega)
    have z' : ¬ skd G (.inr (t, κ)) = 13 := z
    rw [w215_57, i1, YB_ret, w215_63, yb, if_neg z', if_pos yr_0]
    exact q215e (d := d + 2) hG hc h
  induction f with
  | zero =>
    intro t κ S hf h
    refine base t κ S h fun z => ?_
    have := yTo_t hG.1 h.1.2.1 (by omega)
    omega
  | succ f ih =>
    intro t κ S hf h
    have g2 := h.1.2.1
    have es : sbds G (f + 1) (.inr (t, κ)) = if (gT G t).1 = 13 then sbds G f (sbnd G (.inr (t, κ))) else .inr (t, κ) := by
      show (if decide ((gT G t).1 = 13) = true then sbds G f (sbnd G (.inr (t, κ))) else .inr (t, κ)) = _
      by_cases z : (gT G t).1 = 13
      · rw [if_pos (decide_eq_true z), if_pos z]
      · rw [if_neg (fun y => z (of_decide_eq_true y)), if_neg z]
    rw [es]
    by_cases z : (gT G t).1 = 13
    · have i1 : Y q (d + 4) 221 0 [vr 129, vi 13] [] S js = yret q (vi (yb (skd G (.inr (t, κ)) = 13))) S js := q221 (kd := 13) hG h (by omega)
      have z' : skd G (.inr (t, κ)) = 13 := z
      rw [w215_57, i1, YB_ret, w215_63, yb, if_pos z', if_neg n1, if_pos z]
      refine rZ_bind (F := fun s => send G (sbds G f s)) (C := fun o => YB q o (d + 5) 215 67 [vr 129] []) (fun a b S => t215 ..) (sStr_co (f := send G) sStr_en (sStr_lp sStr_bn f)) (q246 (d := d + 1) hG (by omega) hc h z) fun S1 t1 κ1 o1 a1 a2 a4 a5 => ?_
      have a5 : o1 = yretv q S1 js := a5
      obtain ⟨l1, l2⟩ := sbnd_lt hG g2 z a1
      show rZ q js G S1 (sbk κ) (YB q o1 (d + 5) 215 67 [vr 129] []) (send G (sbds G f (.inr (t1, κ1))))
      rw [a5, YB_retv, w215_70, a2]
      exact ih t1 κ1 S1 (by omega) a4
    · rw [if_neg z]
      exact base t κ S h z
/-- the declarations -/
theorem q215z {F : yPS → yPS} (hG : gOk G) (hd : 100 ≤ d) (hF : sStr F) (K : ∀ S t κ, rS G 0 c S t 0 κ → rZ q js G S (sbk κ) (Y q (d + 5) 215 57 [vr 129] [] (sI S 50 1) js) (F (.inr (t, κ)))) : ∀ (f t : Nat) (κ : yKp) (S : yS), gN G ≤ t + f + 1 → rS G 0 c S t 0 κ → rZ q js G S (sbk κ) (Y q (d + 5) 215 5 [vr 129] [] S js) (F (slp G sisD (sdec G) f (.inr (t, κ)))) := by
  have n1 : ¬ yr 1 = 0 := by decide
  have st : ∀ (t : Nat) (κ : yKp) (S : yS), rS G 0 c S t 0 κ → Y q (d + 5) 215 5 [vr 129] [] S js = if sisD (gT G t).1 = true then YB q (Y q (d + 4) 216 0 [vr 129, vu, vu, vu, vu, vu, vu] [] S js) (d + 5) 215 46 [vr 129] [] else Y q (d + 5) 215 57 [vr 129] [] (sI S 50 1) js := fun t κ S h => by
    obtain ⟨g1, g2, g3, g4, g5, g6, g7, g8, g9, g10, _⟩ := rS_t hG h
    have e44 : yr (gI S 44) = t := by rw [g1]; exact yr_eq (by omega) (by omega)
    have ok : 0 ≤ (t : Int) ∧ (t : Int) < 2001 := by omega
    have i1 : Y q (d + 4) 191 0 [vj (yi2l (gA S 39 t)), vu, vj 0, vu, vj 1, vu] [] S js = yret q (vi (yb ((0 : Int) ≤ ykR (gT G t).1 ∧ ykR (gT G t).1 ≤ 1))) S js := q191 (lo := 0) (hi := 1) hG h (by decide) (by decide) (by omega) (by omega)
    have i2 : Y q (d + 4) 191 0 [vj (yi2l (gA S 39 t)), vu, vj 3, vu, vj 5, vu] [] S js = yret q (vi (yb ((3 : Int) ≤ ykR (gT G t).1 ∧ ykR (gT G t).1 ≤ 5))) S js := q191 (lo := 3) (hi := 5) hG h (by decide) (by decide) (by omega) (by omega)
    have kD := ykR_d _ g9
    rw [w215_5, e44, if_pos ok, Int.toNat_natCast, i1, YB_ret, w215_20, e44, if_pos ok, Int.toNat_natCast, i2, YB_ret]
    by_cases z1 : (0 : Int) ≤ ykR (gT G t).1 ∧ ykR (gT G t).1 ≤ 1
    · rw [yb, if_pos z1, if_neg n1, if_pos (kD.mp (Or.inl z1))]
    · rw [yb, if_neg z1, if_pos yr_0, w215_42]
      by_cases z2 : (3 : Int) ≤ ykR (gT G t).1 ∧ ykR (gT G t).1 ≤ 5
      · rw [yb, if_pos z2, if_neg n1, if_pos (kD.mp (Or.inr z2))]
      · rw [yb, if_neg z2, if_pos yr_0, if_neg (fun y => by
          rcases kD.mpr y with y | y
          · exact z1 y
          · exact z2 y)]
  intro f
  induction f with
  | zero =>
    intro t κ S hf h
    have hz : ¬ sisD (gT G t).1 = true := fun z => by
      have hk : (gT G t).1 = 0 ∨ (gT G t).1 = 1 ∨ (gT G t).1 = 3 ∨ (gT G t).1 = 4 ∨ (gT G t).1 = 5 := of_decide_eq_true z
      have := yTo_t hG.1 h.1.2.1 (by omega)
      omega
    rw [st t κ S h, if_neg hz]
    exact K S t κ h
  | succ f ih =>
    intro t κ S hf h
    have es : slp G sisD (sdec G) (f + 1) (.inr (t, κ)) = if sisD (gT G t).1 = true then slp G sisD (sdec G) f (sdec G (.inr (t, κ))) else .inr (t, κ) := rfl
    rw [st t κ S h, es]
    by_cases z : sisD (gT G t).1 = true
    · rw [if_pos z, if_pos z]
      refine rZ_bind (F := fun s => F (slp G sisD (sdec G) f s)) (C := fun o => YB q o (d + 5) 215 46 [vr 129] []) (fun a b S => t215 ..) (sStr_co hF (sStr_lp sStr_dec f)) (rO_c (c' := c) (by omega) (q216 hG h z hd) hG) fun S1 t1 κ1 o1 a1 a2 a4 a5 => ?_
      have a5 : o1 = yretv q S1 js := a5
      obtain ⟨l1, l2⟩ := sdec_lt hG h.1.2.1 z a1
      show rZ q js G S1 (sbk κ) (YB q o1 (d + 5) 215 46 [vr 129] []) (F (slp G sisD (sdec G) f (.inr (t1, κ1))))
      rw [a5, YB_retv, w215_49, a2]
      exact ih t1 κ1 S1 (by omega) a4
    · rw [if_neg z, if_neg z]
      exact K S t κ h
theorem rS_50 {x : Int} (h : rS G sc c S t dp κ) : rS G x c (sI S 50 x) t dp κ := by
  obtain ⟨⟨h1, h2, h3, h4, h5, h6, h7, h8, h9⟩, hc, ht⟩ := h
  refine ⟨⟨h1, h2, h3, h4, h5, h6, h7, gI_self _ _ _, rC_I h9 (by omega) (by omega) (by omega)⟩, hc, ?_⟩
  rcases κ with e | V
  · exact ht
  · exact ht
/-- a program, whole -/
def spro (G : yGx) (σ : yPS) : yPS := send G (sbds G 2000 (slp G sisD (sdec G) 2000 σ))
theorem q215 (hG : gOk G) (hd : 140 ≤ d) (hc : c ≤ 0) (h : rS G sc c S t 0 κ) : rZ q js G S (sbk κ) (Y q (d + 5) 215 0 [vr 129] [] S js) (spro G (.inr (t, κ))) := by
  have hN := hG.1.2.1
  have f0 : yFr yWR2 S (sI S 50 0) := yFr_I rfl
  rw [w215_0]
  refine rZ_tr f0 (q215z (F := fun s => send G (sbds G 2000 s)) hG (by omega) (sStr_co (f := send G) sStr_en (sStr_lp sStr_bn 2000)) (fun S1 t1 κ1 h1 => ?_) 2000 t κ (sI S 50 0) (by omega) (rS_50 h))
  exact rZ_tr (yFr_I rfl) (q215b hG hd hc 2000 t1 κ1 _ (by omega) (rS_50 h1))
end YSIL
end YSI
