/-! THE WHOLE, out of one call -/
section YTP
/-- what a call comes to: the law stands at the next call, and what is known holds on -/
def yCall (I : yS → Prop) (c : Int) : Prop := ∀ (q : yQ) (S : yS) (js : List xO) (x0 : Int) (d : Nat) (y1 y2 y3 y4 : yV), q.2.1 ≤ 3072 → 0 ≤ x0 → x0 + 6 ≤ q.2.1 → yand (xa q x0) 31 = c → I S → ∃ (z1 z2 z3 z4 : yV) (S2 : yS) (js2 : List xO), Y q (d + 400) 0 23 [vr 73, vr 75, vr 129, vr 178, vi x0, y1, y2, y3, y4] [] S js = Y q (d + 400) 0 23 [vr 73, vr 75, vr 129, vr 178, vi (x0 + 6), z1, z2, z3, z4] [] S2 js2 ∧ I S2 ∧ js2.length ≤ js.length + 12 ∧ xsum js2 ≤ xsum js + 120
theorem yand_31 (x : Int) : 0 ≤ yand x 31 ∧ yand x 31 ≤ 31 := by
  unfold yand
  have h : (Int32.ofInt x &&& Int32.ofInt 31).toUInt32 ≤ 31 := by
    show (Int32.ofInt x).toUInt32 &&& (Int32.ofInt 31).toUInt32 ≤ 31
    have e : (Int32.ofInt 31).toUInt32 = 31 := by decide
    rw [e, UInt32.le_iff_toNat_le, UInt32.toNat_and]
    exact Nat.and_le_right
  have h2 : (Int32.ofInt x &&& Int32.ofInt 31).toUInt32.toNat ≤ 31 := UInt32.le_iff_toNat_le.mp h
  generalize Int32.ofInt x &&& Int32.ofInt 31 = z at *
  have h4 : z.toBitVec.toNat ≤ 31 := h2
  have h3 : z.toInt = (z.toBitVec.toNat : Int) := BitVec.toInt_eq_toNat_of_lt (by omega)
  rw [h3]
  omega
theorem lwD {q : yQ} {d : Nat} {S : yS} {js : List xO} {x0 : Int} {y1 y2 y3 y4 : yV} (hL : q.2.1 ≤ 3072) (h0 : 0 ≤ x0) (h6 : x0 + 6 ≤ q.2.1) (hop : 24 ≤ yand (xa q x0) 31) : Y q (d + 1) 0 23 [vr 73, vr 75, vr 129, vr 178, vi x0, y1, y2, y3, y4] [] S js = Y q (d + 1) 0 23 [vr 73, vr 75, vr 129, vr 178, vi (x0 + 6), y1, y2, y3, y4] [] S js := by
  have h1 := (yand_31 (xa q x0)).2
  rw [w0_23]
  have e : (q.2.2 (yr x0).toNat).toInt = xa q x0 := by rw [yr_eq (x := x0) (by omega) (by omega)]
  rw [if_neg (by rw [yr_eq, yr_eq] <;> omega), if_pos (by rw [yr_eq] <;> omega)]
  rw [e]
  simp only [yr_and]
  generalize yand (xa q x0) 31 = z at *
  rw [if_neg (show ¬ z = 0 by omega)]
  rw [if_neg (show ¬ z = 1 by omega)]
  rw [if_neg (show ¬ z = 2 by omega)]
  rw [if_neg (show ¬ z = 3 by omega)]
  rw [if_neg (show ¬ z = 4 by omega)]
  rw [if_neg (show ¬ z = 5 by omega)]
  rw [if_neg (show ¬ z = 6 by omega)]
  rw [if_neg (show ¬ z = 7 by omega)]
  rw [if_neg (show ¬ z = 8 by omega)]
  rw [if_neg (show ¬ z = 9 by omega)]
  rw [if_neg (show ¬ z = 10 by omega)]
  rw [if_neg (show ¬ z = 11 by omega)]
  rw [if_neg (show ¬ z = 12 by omega)]
  rw [if_neg (show ¬ z = 13 by omega)]
  rw [if_neg (show ¬ z = 14 by omega)]
  rw [if_neg (show ¬ z = 15 by omega)]
  rw [if_neg (show ¬ z = 16 by omega)]
  rw [if_neg (show ¬ z = 17 by omega)]
  rw [if_neg (show ¬ z = 18 by omega)]
  rw [if_neg (show ¬ z = 19 by omega)]
  rw [if_neg (show ¬ z = 20 by omega)]
  rw [if_neg (show ¬ z = 21 by omega)]
  rw [if_neg (show ¬ z = 22 by omega)]
  rw [if_neg (show ¬ z = 23 by omega)]
theorem lwE {q : yQ} {d : Nat} {S : yS} {js : List xO} {x0 : Int} {y1 y2 y3 y4 : yV} (hL : q.2.1 ≤ 3072) (h0 : 0 ≤ x0 ∧ x0 ≤ 3072) (h6 : (q.2.1 : Int) < x0 + 6) : Y q (d + 1) 0 23 [vr 73, vr 75, vr 129, vr 178, vi x0, y1, y2, y3, y4] [] S js = yret q (vi 1) S js := by
  rw [w0_23]
  rw [if_pos (by rw [yr_eq, yr_eq] <;> omega)]
  simp only [yz1, if_true]
theorem y_loop {I : yS → Prop} (hc : ∀ c : Nat, c < 24 → yCall I c) {q : yQ} (hL : q.2.1 ≤ 3072) : ∀ (n : Nat) (x0 : Int) (S : yS) (js : List xO) (y1 y2 y3 y4 : yV), 0 ≤ x0 → x0 + 6 * n ≤ q.2.1 → (q.2.1 : Int) < x0 + 6 * n + 6 → I S → ∃ S2 js2, Y q 900 0 23 [vr 73, vr 75, vr 129, vr 178, vi x0, y1, y2, y3, y4] [] S js = yret q (vi 1) S2 js2 ∧ js2.length ≤ js.length + 12 * n ∧ xsum js2 ≤ xsum js + 120 * n
  | 0, x0, S, js, y1, y2, y3, y4, h0, h1, h2, hI => ⟨S, js, lwE hL ⟨h0, by omega⟩ (by omega), by omega, by omega⟩
  | n + 1, x0, S, js, y1, y2, y3, y4, h0, h1, h2, hI => by
    have step : ∃ (z1 z2 z3 z4 : yV) (S2 : yS) (js2 : List xO), Y q 900 0 23 [vr 73, vr 75, vr 129, vr 178, vi x0, y1, y2, y3, y4] [] S js = Y q 900 0 23 [vr 73, vr 75, vr 129, vr 178, vi (x0 + 6), z1, z2, z3, z4] [] S2 js2 ∧ I S2 ∧ js2.length ≤ js.length + 12 ∧ xsum js2 ≤ xsum js + 120 := by
      by_cases hop : 24 ≤ yand (xa q x0) 31
      · exact ⟨y1, y2, y3, y4, S, js, lwD hL h0 (by omega) hop, hI, by omega, by omega⟩
      · have hp := (yand_31 (xa q x0)).1
        exact hc (yand (xa q x0) 31).toNat (by omega) q S js x0 500 y1 y2 y3 y4 hL h0 (by omega) (by omega) hI
    obtain ⟨z1, z2, z3, z4, S2, js2, e, hI2, hl, hs⟩ := step
    obtain ⟨S3, js3, e3, hl3, hs3⟩ := y_loop hc hL n (x0 + 6) S2 js2 z1 z2 z3 z4 (by omega) (by omega) (by omega) hI2
    exact ⟨S3, js3, e.trans e3, by omega, by omega⟩
theorem ycell_sz (S : yS) (e : yDs) : xsz (ycell S e) = match e with | .inl (_, fs) => fs.length | .inr (_, n, _) => n := by
  match e with
  | .inl (c, fs) => exact List.length_map _
  | .inr (t, n, s) => rfl
set_option maxRecDepth 100000 in
theorem yT_sum (S : yS) : xsum (yT.map (ycell S)) ≤ 300000 := by
  have h : (yT.map (ycell S)).map xsz = yT.map fun e => match e with | .inl (_, fs) => fs.length | .inr (_, n, _) => n := by
    rw [List.map_map]
    exact List.map_congr_left fun e _ => ycell_sz S e
  unfold xsum
  rw [h]
  decide +kernel
theorem xsum_app (a b : List xO) : xsum (a ++ b) = xsum a + xsum b := by unfold xsum; rw [List.map_append, List.sum_append]
theorem x_top {I : yS → Prop} (h0 : ∀ S, yfr S = true → I S) (hc : ∀ c : Nat, c < 24 → yCall I c) : xPure := by
  intro v L xs hv hL
  obtain ⟨S0, hS0, e0⟩ := y_start (v := v) L xs hv
  obtain ⟨S2, js2, e, hl, hs⟩ := y_loop hc (q := (v, L, xs)) hL (L / 6) 0 S0 [] vu vu vu vu (by omega) (by show (0 : Int) + 6 * ((L / 6 : Nat) : Int) ≤ (L : Int); omega) (by show (L : Int) < 0 + 6 * ((L / 6 : Nat) : Int) + 6; omega) (h0 S0 hS0)
  rw [e] at e0
  obtain ⟨f, hf⟩ := yD_iff.mp e0
  refine ⟨f, yH (v, L, xs) S2 js2, hf, ?_, ?_⟩
  · rw [yH_len]
    have : js2.length ≤ 12 * (L / 6) := by simpa using hl
    omega
  · unfold yH
    rw [xsum_app, xsum_app]
    have h1 := yT_sum S2
    have h2 : xsum js2 ≤ 120 * (L / 6) := by simpa [xsum] using hs
    show xsum (xB0 L xs) + _ ≤ _
    omega
end YTP
