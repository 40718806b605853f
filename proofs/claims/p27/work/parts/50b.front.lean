/-! UP TO THE ROWS: a closed run; the mill behind it, as a state -/
section YFT
def yf4 (v : Value) : Option xS4 := xto (yPh false v) 81 20000 899 0 24 100 0 (.ref 79 :: List.replicate 24 xU) [] yh0
def yck4 (v : Value) : Bool := match yf4 v with
  | some (pc, L, st, H) => Nat.beq pc 24 && (decide (L = yL1) && (decide (st = []) && (yshp 99 H && (y82 H (.int 0) && (ypI H [(12, 0)] && (ypA H [(20, [0, 0]), (4, [0])] && (ypB H [(6, [103, 118])] && (Nat.beq H.length 137 && (Nat.ble (xsum (H.drop 135)) 1000 && (H.drop 135).all fun o => !yun o)))))))))
  | none => false
set_option maxRecDepth 100000 in
theorem yck4_n : yck4 .null = true := by decide +kernel
set_option maxRecDepth 100000 in
theorem yck4_r : yck4 (.ref 80) = true := by decide +kernel
def yL0 : List yV := vr 79 :: vr 81 :: List.replicate 23 vu
theorem y_front {q : yQ} (hv : jV q.1) : ∃ (S : yS) (js : List xO), yD q.1 900 0 0 (.ref 79 :: List.replicate 24 xU) [] (xB0 q.2.1 q.2.2) = Y q 900 0 24 yL0 [] S js ∧ js.length = 2 ∧ xsum js ≤ 1000 ∧ gI S 10 = 2 ∧ gI S 11 = 0 ∧ gI S 12 = 0 ∧ gA S 4 0 = 0 ∧ gA S 20 0 = 0 ∧ gA S 20 1 = 0 ∧ gB S 6 0 = 103 ∧ gB S 6 1 = 118 := by
  have hb : yck4 q.1 = true := by
    rcases hv with h | h <;> rw [h]
    · exact yck4_n
    · exact yck4_r
  unfold yck4 at hb
  split at hb
  · rename_i pc L st H e
    simp only [Bool.and_eq_true] at hb
    obtain ⟨k1, k2, k3, k4, k5, k6, k7, k8, k9, k10, k11⟩ := hb
    have k1 := Nat.eq_of_beq_eq_true k1
    have k2 := of_decide_eq_true k2
    have k3 := of_decide_eq_true k3
    have k9 := Nat.eq_of_beq_eq_true k9
    have k10 := Nat.le_of_ble_eq_true k10
    subst k1
    subst k2
    subst k3
    have hU : xSim false xU (fun i => if i = 79 then some (.inl (10, q.2.1, .inl q.2.2)) else none) yh0 (xB0 q.2.1 q.2.2) := by
      have := xSim_set (hv := xU) (H := yh0) (a := 79) (z := .inl (10, q.2.1, .inl q.2.2)) yh0_U
      rw [yh0_set] at this
      exact this
    obtain ⟨ah, c1, c2, c3⟩ := xto_sim (u := xP_sf (xPrg q.1)) (v := q.1) (yh_kd q.1) (yh_sf q.1) (yh_mk q.1) e hU (by rw [xB0_len]; omega)
    have c1 : yD q.1 900 0 0 (.ref 79 :: List.replicate 24 xU) [] (xB0 q.2.1 q.2.2) = yD q.1 900 0 24 yL1 [] ah := c1
    have hl : ah.length = 137 := c2.1.symm.trans k9
    obtain ⟨s1, s2⟩ := yshp_real c2 (ex := 99) (w := .int 0) k4 k5 ⟨0, fun z => (by cases z), fun _ => rfl⟩ (fun e he => by
      have : yT[99]? = none := List.getElem?_eq_none (by rw [yT_len]; omega)
      rw [this] at he
      cases he)
    have e81 : ah.take 81 = xB0 q.2.1 q.2.2 := by
      rw [c3, List.take_of_length_le (by rw [xB0_len]; omega)]
    have eH := yH_of (q := q) e81 s1 s2
    obtain ⟨x, g1, -, g2⟩ := y82_real c2 k5
    have g2 := g2 rfl
    subst g2
    have ej : (ah.drop 135).length = 2 := by rw [List.length_drop, hl]
    refine ⟨yext ah, ah.drop 135, ?_, ej, ?_, ?_, ?_, ypI_ok c2 k6 (12, 0) (by simp), ypA_ok c2 k7 (4, [0]) (by simp) 0 (by decide), ypA_ok c2 k7 (20, [0, 0]) (by simp) 0 (by decide), ypA_ok c2 k7 (20, [0, 0]) (by simp) 1 (by decide), ypB_ok c2 k8 (6, [103, 118]) (by simp) 0 (by decide), ypB_ok c2 k8 (6, [103, 118]) (by simp) 1 (by decide)⟩
    · rw [c1]
      show _ = yD q.1 900 0 24 (yL0.map yval) [] (yH q (yext ah) (ah.drop 135))
      rw [← eH]
      rfl
    · rw [xs_dropsum c2 k11]
      exact k10
    · show yxI ah 10 = 2
      unfold yxI yxf
      have e1 : yIs[10]? = some (1, 0) := rfl
      simp only [e1, g1]
      rfl
    · show yxI ah 11 = 0
      unfold yxI yxf
      have e1 : yIs[11]? = some (1, 1) := rfl
      simp only [e1, g1]
      rfl
  · cases hb
/-- how large a heap is -/
def yKsz (e : yDs) : Nat := match e with
  | .inl (_, fs) => fs.length
  | .inr (_, n, _) => n
theorem yKsz_ok (S : yS) (e : yDs) : xsz (ycell S e) = yKsz e := by
  rcases e with ⟨c, fs⟩ | ⟨t, n, s⟩
  · show (fs.map (yfld S)).length = fs.length
    rw [List.length_map]
  · rfl
theorem xsum_app (a b : List xO) : xsum (a ++ b) = xsum a + xsum b := by
  unfold xsum
  rw [List.map_append, List.sum_append]
theorem yH_sum (q : yQ) (S : yS) (js : List xO) : xsum (yH q S js) = xsum (xB0 q.2.1 q.2.2) + (yT.map yKsz).sum + xsum js := by
  have e : (yT.map (ycell S)).map xsz = yT.map yKsz := by
    rw [List.map_map]
    apply List.map_congr_left
    intro e _
    exact yKsz_ok S e
  unfold yH
  rw [xsum_app, xsum_app]
  have : xsum (yT.map (ycell S)) = (yT.map yKsz).sum := by
    unfold xsum
    rw [e]
  rw [this, Nat.add_assoc]
theorem yT_sum : (yT.map yKsz).sum ≤ 1000000 := by decide
end YFT
