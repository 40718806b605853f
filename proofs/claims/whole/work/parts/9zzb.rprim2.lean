/-! THE REFERENCE READS A PROGRAM: numbers and names, in a program's words -/
section YRR
section YRRL
variable {q : yQ} {d : Nat} {js : List xO} {G : yGx} {σ σ1 : yPS} {S S1 S' : yS} {sc c c' w : Int} {dp dp' t : Nat} {b : Bool} {o : Option xRes} {B B1 B2 : yS → Option xRes → Prop} {κ κ1 : yKp}
theorem sgd_k {f : yPV → Bool} {n p t1 : Nat} (h : sgd f n p (.inr (t, κ)) = .inr (t1, κ1)) (hb : sbk κ = sbk κ1) : t1 = t ∧ κ1 = κ ∧ ∀ V, κ = .inr V → f V = true := by
  rcases κ with e | V
  · have h : (Sum.inr (t, .inl e) : yPS) = .inr (t1, κ1) := h
    injection h with h
    injection h with h1 h2
    exact ⟨h1.symm, h2.symm, fun V z => nomatch z⟩
  · have h : (Sum.inr (t, if f V = true then .inr V else .inl (n, p)) : yPS) = .inr (t1, κ1) := h
    injection h with h
    injection h with h1 h2
    by_cases z : f V = true
    · rw [if_pos z] at h2
      exact ⟨h1.symm, h2.symm, fun V' y => by injection y with y; rw [← y]; exact z⟩
    · rw [if_neg z] at h2
      rw [← h2] at hb
      nomatch hb
/-- a condition, then a token -/
theorem q_gn {f : yPV → Bool} {n p k pc : Nat} {L st : List yV} {x : Int} {C : Prop} [Decidable C] {r : yV} (hG : gOk G) (h : rS G sc c S t dp κ) (h64 : (gT G t).1 ≤ 64) (hC : ∀ V, κ = .inr V → (f V = true ↔ C)) (hx : ∀ V, κ = .inr V → x = yb C) (ht : ∀ (a b : Int32) (S : yS), YB q (ythr q (ystp a b) S js) (d + 2) k pc L st = ythr q (ystp a b) S js) (hw : ∀ S', YB q (yretv q S' js) (d + 2) k pc L st = YB q (Y q (d + 1) 217 0 [vr 129] [] S' js) (d + 2) k (pc + 4) L st) (hr : ∀ S', YB q (yretv q S' js) (d + 2) k (pc + 4) L st = yret q r S' js) (hB : (∀ V, κ = .inr V → f V = true) → ∀ S', B S' (yret q r S' js)) : rO q js G sc (c - 2) S dp (sbk κ) (YB q (Y q (d + 1) 219 0 [vr 129, vi x, vi n, vi p] [] S js) (d + 2) k pc L st) (snx (sgd f n p (.inr (t, κ)))) B := by
  refine rO_bind (F := snx) (C := fun o => YB q o (d + 2) k pc L st) ht sStr_nx (q219 (d := d) h hC hx) fun S1 t1 κ1 o1 e1 e2 f1 h1 hB1 => ?_
  obtain ⟨e3, e4, e5⟩ := sgd_k e1 e2
  subst e3 e4
  have hB1 : o1 = yretv q S1 js := hB1
  obtain ⟨S2, a1, a2, a3⟩ := q217 (q := q) (d := d) (js := js) hG h1 h64
  show rO q js G sc (c - 2) S1 dp (sbk κ1) (YB q o1 (d + 2) k pc L st) _ B
  rw [hB1, hw, a1, hr]
  exact rO_tr a2 (rO_ok (κ := κ1) a3 (hB e5 S2))
theorem snum_63 {lo hi : Nat} (z : skd G σ = 63) : snum G lo hi σ = snx (sgd (fun _ => decide ((lo : Int) ≤ (svl G σ).toInt ∧ (svl G σ).toInt ≤ hi)) 6 (spl G σ) σ) := by
  have e : sxp G 63 σ = snx σ := if_pos z
  unfold snum
  rw [e, ← sgd_nx]
  by_cases y : (lo : Int) ≤ (svl G σ).toInt ∧ (svl G σ).toInt ≤ hi
  · rw [if_pos y, sgd_t fun _ _ _ => decide_eq_true y]
  · rw [if_neg y, sgd_f fun _ _ _ x => y (of_decide_eq_true x)]
theorem snum_no {lo hi : Nat} (z : ¬ skd G (.inr (t, κ)) = 63) : snum G lo hi (.inr (t, κ)) = .inl (gT G t).2.1 := by
  have e : sxp G 63 (.inr (t, κ)) = .inl (gT G t).2.1 := if_neg z
  unfold snum
  rw [e]
  split <;> rfl
theorem rS_w (hG : gOk G) (h : rS G sc c S t dp κ) (hk : (gT G t).1 = 62 ∨ (gT G t).1 = 63) : gB S 13 t = (gT G t).2.2 := (h.1.1 t h.1.2.1).2.2.1 hk
theorem rO_thr {k pc : Nat} {L st : List yV} (hG : gOk G) (h : rS G sc c S t dp κ) (ha : ∀ (a b : Int32), Y q (d + 2) k pc L (vr (179 + js.length) :: st) S (js ++ [ystp a b]) = ythr q (ystp a b) S js) (hy : ∀ o js', YB q (yret q o S js') (d + 2) k (pc - 3) L st = Y q (d + 2) k pc L (o :: st) S js') (c' : Int) (B : yS → Option xRes → Prop) : rO q js G sc c' S dp (sbk κ) (YB q (Y q (d + 1) 218 0 [vr 129] [] S js) (d + 2) k (pc - 3) L st) (.inl (gT G t).2.1) B := by
  obtain ⟨g1, g2, g3, g4, g5, g6, g7, g8, g9, g10, _⟩ := rS_t hG h
  have e44 : yr (gI S 44) = t := by rw [g1]; exact yr_eq (by omega) (by omega)
  intro _
  refine ⟨S, ?_, yFr_rf _ _, rS_nz h⟩
  rw [c218 q d js S (by rw [e44]; omega), hy, ha, e44, Int.toNat_natCast, g8]
theorem yb_ff {P Q : Prop} [Decidable P] [Decidable Q] (h : P ↔ Q) : yb P = yb Q := by
  unfold yb
  by_cases z : P
  · rw [if_pos z, if_pos (h.mp z)]
  · rw [if_neg z, if_neg (fun y => z (h.mpr y))]
theorem yi2l_le64 {lo : Nat} (h : lo ≤ 2000) (v : Int64) : (yi2l (lo : Int) ≤ v ↔ (lo : Int) ≤ v.toInt) ∧ (v ≤ yi2l (lo : Int) ↔ v.toInt ≤ lo) := by
  rw [Int64.le_iff_toInt_le, Int64.le_iff_toInt_le, yi2l_toInt, yr_eq (by omega) (by omega)]
  exact ⟨Iff.rfl, Iff.rfl⟩
theorem yl2i_sm {v : Int64} (h1 : -2147483648 ≤ v.toInt) (h2 : v.toInt < 2147483648) : yl2i v = v.toInt := by
  unfold yl2i
  rw [Int64.toInt_toInt32]
  exact Int.bmod_eq_of_le (by omega) (by omega)
theorem q220 {lo hi : Nat} {hi' : Int} (hG : gOk G) (h : rS G sc c S t dp κ) (hlo : lo ≤ 2000) (hhi : hi ≤ 2000) (hV : ∀ V, κ = .inr V → hi' = hi) : rO q js G sc (c - 2) S dp (sbk κ) (Y q (d + 2) 220 0 [vr 129, vi lo, vi hi', vu, vu] [] S js) (snum G lo hi (.inr (t, κ))) fun S' o => ∃ r : Int, o = yret q (vi r) S' js ∧ ∀ V, κ = .inr V → r = (sfv G (.inr (t, κ)) : Nat) := by
  obtain ⟨g1, g2, g3, g4, g5, g6, g7, g8, g9, g10, _⟩ := rS_t hG h
  have e44 : yr (gI S 44) = t := by rw [g1]; exact yr_eq (by omega) (by omega)
  have ok : 0 ≤ (t : Int) ∧ (t : Int) < 2001 := by omega
  have n1 : ¬ yr 1 = 0 := by decide
  have i1 : Y q (d + 1) 221 0 [vr 129, vi 201] [] S js = _ := q221 (kd := 63) hG h (by omega)
  rw [w220_0, i1, YB_ret, w220_7, e44]
  by_cases z : skd G (.inr (t, κ)) = 63
  · have hw := rS_w hG h (Or.inr z)
    rw [yb, if_pos z, if_neg n1, if_pos ok, Int.toNat_natCast, hw, r191, YB_ret, w220_34, e44, if_pos ok, Int.toNat_natCast, g8, snum_63 z]
    refine q_gn (n := 6) (p := (gT G t).2.1) (C := (lo : Int) ≤ (gT G t).2.2.toInt ∧ (gT G t).2.2.toInt ≤ hi) hG h (by have z : (gT G t).1 = 63 := z; omega) (fun V _ => by rw [decide_eq_true_iff]; rfl) (fun V e => ?_) (fun a b S => t220 ..) (fun S' => by rw [YB_retv, w220_48]) (fun S' => by rw [YB_retv, w220_52]) fun hf S' => ⟨_, rfl, fun V e => ?_⟩
    · rw [hV V e]
      exact yb_ff (by rw [(yi2l_le64 hlo _).1, (yi2l_le64 hhi _).2])
    · have y := of_decide_eq_true (hf V e)
      have y : (lo : Int) ≤ (gT G t).2.2.toInt ∧ (gT G t).2.2.toInt ≤ hi := y
      show yl2i (gT G t).2.2 = (((gT G t).2.2.toInt.toNat : Nat) : Int)
      rw [yl2i_sm (by omega) (by omega)]
      omega
  · rw [yb, if_neg z, if_pos yr_0, snum_no z]
    exact rO_thr (pc := 14) hG h (fun a b => a220_14 ..) (fun o js' => YB_ret ..) _ _
theorem sxp_no {kd : Nat} (z : ¬ skd G (.inr (t, κ)) = kd) : sxp G kd (.inr (t, κ)) = .inl (gT G t).2.1 := if_neg z
theorem q222 (hG : gOk G) (h : rS G sc c S t dp κ) : rO q js G sc (c - 2) S dp (sbk κ) (Y q (d + 2) 222 0 [vr 129, vu] [] S js) (scm G (.inr (t, κ))) fun S' o => o = yret q (vi (sfc G (svl G (.inr (t, κ))))) S' js := by
  obtain ⟨g1, g2, g3, g4, g5, g6, g7, g8, g9, g10, _⟩ := rS_t hG h
  have e44 : yr (gI S 44) = t := by rw [g1]; exact yr_eq (by omega) (by omega)
  have ok : 0 ≤ (t : Int) ∧ (t : Int) < 2001 := by omega
  have n1 : ¬ yr 1 = 0 := by decide
  have em : yr (-1) = -1 := rfl
  have i1 : Y q (d + 1) 221 0 [vr 129, vi 200] [] S js = _ := q221 (kd := 62) hG h (by omega)
  rw [w222_0, i1, YB_ret, w222_7, e44]
  unfold scm
  by_cases z : skd G (.inr (t, κ)) = 62
  · have hw := rS_w hG h (Or.inl z)
    have hcx := h.2.1
    have hcc := hG.2.2.2.2.2.1
    have e2 : yfind (gB S 11) (gT G t).2.2 (gI S 41).toNat 0 = sfc G (gT G t).2.2 := by
      unfold sfc
      rw [hcx.1, Int.toNat_natCast]
      exact yfind_cg fun k _ hk => (hcx.2 k (by omega)).1
    have hr := sfc_r hG (gT G t).2.2
    have es : yr (sfc G (gT G t).2.2) = sfc G (gT G t).2.2 := yr_eq (by omega) (by omega)
    have e3 : sxp G 62 (.inr (t, κ)) = snx (.inr (t, κ)) := if_pos z
    rw [yb, if_pos z, if_neg n1, if_pos ok, Int.toNat_natCast, hw, r196 (by have := hcx.1; omega), YB_ret, e2, w222_35, es, em, e44, Int.toNat_natCast, g8, e3, sgd_nx]
    have key : (if sfc G (gT G t).2.2 = -1 then if 0 ≤ (t : Int) ∧ (t : Int) < 2001 then YB q (Y q (d + 1) 219 0 [vr 129, vi 0, vi 2, vi ((gT G t).2.1 : Nat)] [] S js) (d + 2) 222 57 [vr 129, vi (sfc G (gT G t).2.2)] [] else Y q (d + 2) 222 56 [vr 129, vi (sfc G (gT G t).2.2)] [vi (gI S 44), vr 136, vi 2, vi 0, vr 129] S js else if 0 ≤ (t : Int) ∧ (t : Int) < 2001 then YB q (Y q (d + 1) 219 0 [vr 129, vi 1, vi 2, vi ((gT G t).2.1 : Nat)] [] S js) (d + 2) 222 57 [vr 129, vi (sfc G (gT G t).2.2)] [] else Y q (d + 2) 222 56 [vr 129, vi (sfc G (gT G t).2.2)] [vi (gI S 44), vr 136, vi 2, vi 1, vr 129] S js) = YB q (Y q (d + 1) 219 0 [vr 129, vi (yb (0 ≤ sfc G (gT G t).2.2)), vi ((2 : Nat) : Int), vi ((gT G t).2.1 : Nat)] [] S js) (d + 2) 222 57 [vr 129, vi (sfc G (gT G t).2.2)] [] := by
      rw [if_pos ok, if_pos ok]
      unfold yb
      by_cases y : sfc G (gT G t).2.2 = -1
      · rw [if_pos y, if_neg (by omega)]
        rfl
      · rw [if_neg y, if_pos (by omega)]
        rfl
    rw [key]
    exact q_gn (n := 2) (p := (gT G t).2.1) (C := 0 ≤ sfc G (gT G t).2.2) hG h (by have z : (gT G t).1 = 62 := z; omega) (fun V _ => by rw [decide_eq_true_iff]; rfl) (fun V e => rfl) (fun a b S => t222 ..) (fun S' => by rw [YB_retv, w222_60]) (fun S' => by rw [YB_retv, w222_64]; rfl) fun hf S' => rfl
  · rw [yb, if_neg z, if_pos yr_0, sxp_no z]
    exact rO_thr (pc := 14) hG h (fun a b => a222_14 ..) (fun o js' => YB_ret ..) _ _
/-- is a name new? -/
theorem q224 {v : Int64} (hG : gOk G) (h : rS G sc c S t dp κ) : ∃ x : Int, Y q (d + 1) 224 0 [vr 129, vj v, vu] [] S js = yret q (vi x) S js ∧ ∀ V, κ = .inr V → x = yb (stk G V v = false) := by
  have hcx := h.2.1
  have hcc := hG.2.2.2.2.2.1
  have em : yr (-1) = -1 := rfl
  have y1 : yr 1 = 0 ∨ yr 1 = 1 := by decide
  have y0 : yr 0 = 0 ∨ yr 0 = 1 := by decide
  have hl : (0 ≤ gI S 51 ∧ gI S 51 ≤ 8) ∧ (0 ≤ gI S 52 ∧ gI S 52 ≤ 8) := by
    have h3 := h.2.2
    rcases κ with e | V
    · have h3 : rEm S := h3
      rw [h3.1, h3.2.1]
      omega
    · obtain ⟨v, o⟩ := h3
      have o1 := o.2.2.1
      have e1 := v.2.2.2.1.1
      have e2 := v.2.2.2.2.1.1
      omega
  have e1 : yfind (gB S 11) v (gI S 41).toNat 0 = sfc G v := by
    unfold sfc
    rw [hcx.1, Int.toNat_natCast]
    exact yfind_cg fun k _ hk => (hcx.2 k (by omega)).1
  have r1 := yfind_yr (f := gB S 11) (v := v) (n := (gI S 41).toNat) (by have := hcx.1; omega)
  have r2 := yfind_yr (f := gB S 14) (v := v) (n := (gI S 51).toNat) (by omega)
  have r3 := yfind_yr (f := gB S 15) (v := v) (n := (gI S 52).toNat) (by omega)
  have eV : ∀ V, κ = .inr V → yfind (gB S 14) v (gI S 51).toNat 0 = sfl (zL V) v ∧ yfind (gB S 15) v (gI S 52).toNat 0 = sfl (zT V) v := fun V e => by
    subst e
    obtain ⟨vv, o⟩ := h.2.2
    have d1 := vv.2.2.2.1
    have d2 := vv.2.2.2.2.1
    unfold sfl
    rw [d1.1, d2.1, Int.toNat_natCast, Int.toNat_natCast]
    exact ⟨yfind_cg fun k _ hk => (yLs_D d1 dDf (by omega)).1, yfind_cg fun k _ hk => (yLs_D d2 dDf (by omega)).1⟩
  have tk : ∀ V, κ = .inr V → (stk G V v = false ↔ yfind (gB S 11) v (gI S 41).toNat 0 < 0 ∧ yfind (gB S 14) v (gI S 51).toNat 0 < 0 ∧ yfind (gB S 15) v (gI S 52).toNat 0 < 0) := fun V e => by
    obtain ⟨e2, e3⟩ := eV V e
    unfold stk
    rw [decide_eq_false_iff_not, e1, e2, e3]
    omega
  rw [w224_0, r196 (by have := hcx.1; omega), YB_ret, w224_12, r1.1, em]
  by_cases z1 : yfind (gB S 11) v (gI S 41).toNat 0 = -1
  · rw [if_pos z1, r196b hl.1, YB_ret, w224_28, r2.1, em]
    by_cases z2 : yfind (gB S 14) v (gI S 51).toNat 0 = -1
    · rw [if_pos z2, r196c hl.2, YB_ret, w224_44, r3.1, em]
      by_cases z3 : yfind (gB S 15) v (gI S 52).toNat 0 = -1
      · rw [if_pos z3, if_pos y1]
        exact ⟨1, rfl, fun V e => by rw [yb, if_pos ((tk V e).mpr (by omega))]⟩
      · rw [if_neg z3, if_pos y0]
        exact ⟨0, rfl, fun V e => by rw [yb, if_neg (fun y => by have := (tk V e).mp y; omega)]⟩
    · rw [if_neg z2, if_pos y0]
      exact ⟨0, rfl, fun V e => by rw [yb, if_neg (fun y => by have := (tk V e).mp y; omega)]⟩
  · rw [if_neg z1, if_pos y0]
    exact ⟨0, rfl, fun V e => by rw [yb, if_neg (fun y => by have := (tk V e).mp y; omega)]⟩
theorem q223 (hG : gOk G) (h : rS G sc c S t dp κ) : rO q js G sc (c - 2) S dp (sbk κ) (Y q (d + 2) 223 0 [vr 129, vu, vu] [] S js) (snew G (.inr (t, κ))) fun S' o => o = yret q (vj (svl G (.inr (t, κ)))) S' js := by
  obtain ⟨g1, g2, g3, g4, g5, g6, g7, g8, g9, g10, _⟩ := rS_t hG h
  have e44 : yr (gI S 44) = t := by rw [g1]; exact yr_eq (by omega) (by omega)
  have ok : 0 ≤ (t : Int) ∧ (t : Int) < 2001 := by omega
  have n1 : ¬ yr 1 = 0 := by decide
  have i1 : Y q (d + 1) 221 0 [vr 129, vi 200] [] S js = _ := q221 (kd := 62) hG h (by omega)
  rw [w223_0, i1, YB_ret, w223_7, e44]
  unfold snew
  by_cases z : skd G (.inr (t, κ)) = 62
  · have hw := rS_w hG h (Or.inl z)
    have e3 : sxp G 62 (.inr (t, κ)) = snx (.inr (t, κ)) := if_pos z
    obtain ⟨x, hx, hx2⟩ := q224 (q := q) (d := d) (js := js) (v := (gT G t).2.2) hG h
    rw [yb, if_pos z, if_neg n1, if_pos ok, Int.toNat_natCast, hw, hx, YB_ret, w223_31, e44, if_pos ok, Int.toNat_natCast, g8, e3, sgd_nx]
    obtain ⟨bc, hbc⟩ : ∃ bc : Bool, ∀ V, κ = .inr V → bc = !(stk G V (gT G t).2.2) := by
      rcases κ with e | V
      · exact ⟨true, fun V z => nomatch z⟩
      · exact ⟨!(stk G V (gT G t).2.2), fun V' z => by injection z with z; rw [z]⟩
    exact q_gn (f := fun V => !(stk G V (svl G (.inr (t, κ))))) (n := 5) (p := (gT G t).2.1) (C := bc = true) hG h (by have z : (gT G t).1 = 62 := z; omega) (fun V e => by
      rw [hbc V e]
      exact Iff.rfl) (fun V e => by
      rw [hx2 V e]
      refine yb_ff ?_
      rw [hbc V e, Bool.not_eq_true']) (fun a b S => t223 ..) (fun S' => by rw [YB_retv, w223_44]) (fun S' => by rw [YB_retv, w223_48]; rfl) fun hf S' => rfl
  · rw [yb, if_neg z, if_pos yr_0, sxp_no z]
    exact rO_thr (pc := 14) hG h (fun a b => a223_14 ..) (fun o js' => YB_ret ..) _ _
end YRRL
end YRR
