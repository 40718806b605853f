/-! THE PROGRAM'S TEXT IS MADE: a closed run, the mill hidden -/
section YSB
def yhS : List xO := yh0 ++ List.replicate 56 xUn
def yf3 (v : Value) (h : Int32) : Option (Nat × List xO) := match zcl (yPh false v) 60000 0 134 [.ref 137, .ref 137] (yhS ++ [.inr (11, xP_fd (xPrg v) 11)]) with
  | some ([.ref a1], H1) => (match zcl (yPh false v) 60000 0 139 [.ref 73, .ref a1] H1 with
    | some ([.ref a2], H2) => (match zcl (yPh false v) 60000 0 144 [.int h, .ref a2] H2 with
      | some ([.ref a3], H3) => (match zcl (yPh false v) 60000 0 149 [.ref 75, .ref a3] H3 with
        | some ([.ref a4], H4) => (match zcl (yPh false v) 60000 0 152 [.ref a4] H4 with
          | some ([.ref x], H5) => some (x, H5)
          | _ => none)
        | _ => none)
      | _ => none)
    | _ => none)
  | _ => none
def zsr (h : Nat) (H : List xO) (b : Nat) : Bool := match (H[b]? : Option xO) with
  | some (.inl (t, n, .inl g)) => Nat.beq t 2 && (Nat.beq n (zqn h) && (List.range n).all fun i => decide (g i = Int32.ofInt (zqt h i)))
  | _ => false
def zso (h : Nat) (H : List xO) (x : Nat) : Bool := match (H[x]? : Option xO) with
  | some (.inr (k, fs)) => Nat.beq k 12 && (decide (fs[1]? = some (.int 0)) && (match (fs[0]? : Option Value) with
    | some (.ref b) => Nat.ble 137 b && zsr h H b
    | _ => false))
  | _ => false
def zsb (h : Nat) (o : Option (Nat × List xO)) : Bool := match o with
  | some (x, H) => Nat.ble 137 x && (zso h H x && (Nat.ble H.length 300 && (Nat.ble (xsum (H.drop 137)) 10000 && ((H.drop 137).all (fun o => !yun o) && (List.range 56).all fun i => yunb H (81 + i)))))
  | none => false
set_option maxRecDepth 100000 in
theorem zsb_5n : zsb 5 (yf3 .null (Int32.ofInt ((5 : Nat) : Int))) = true := by decide +kernel
set_option maxRecDepth 100000 in
theorem zsb_5r : zsb 5 (yf3 (.ref 80) (Int32.ofInt ((5 : Nat) : Int))) = true := by decide +kernel
set_option maxRecDepth 100000 in
theorem zsb_6n : zsb 6 (yf3 .null (Int32.ofInt ((6 : Nat) : Int))) = true := by decide +kernel
set_option maxRecDepth 100000 in
theorem zsb_6r : zsb 6 (yf3 (.ref 80) (Int32.ofInt ((6 : Nat) : Int))) = true := by decide +kernel
set_option maxRecDepth 100000 in
theorem zsb_7n : zsb 7 (yf3 .null (Int32.ofInt ((7 : Nat) : Int))) = true := by decide +kernel
set_option maxRecDepth 100000 in
theorem zsb_7r : zsb 7 (yf3 (.ref 80) (Int32.ofInt ((7 : Nat) : Int))) = true := by decide +kernel
set_option maxRecDepth 100000 in
theorem zsb_8n : zsb 8 (yf3 .null (Int32.ofInt ((8 : Nat) : Int))) = true := by decide +kernel
set_option maxRecDepth 100000 in
theorem zsb_8r : zsb 8 (yf3 (.ref 80) (Int32.ofInt ((8 : Nat) : Int))) = true := by decide +kernel
set_option maxRecDepth 100000 in
theorem zsb_9n : zsb 9 (yf3 .null (Int32.ofInt ((9 : Nat) : Int))) = true := by decide +kernel
set_option maxRecDepth 100000 in
theorem zsb_9r : zsb 9 (yf3 (.ref 80) (Int32.ofInt ((9 : Nat) : Int))) = true := by decide +kernel
set_option maxRecDepth 100000 in
theorem zsb_10n : zsb 10 (yf3 .null (Int32.ofInt ((10 : Nat) : Int))) = true := by decide +kernel
set_option maxRecDepth 100000 in
theorem zsb_10r : zsb 10 (yf3 (.ref 80) (Int32.ofInt ((10 : Nat) : Int))) = true := by decide +kernel
theorem zsb_ok {v : Value} {h : Nat} (hv : jV v) (hh : 5 ≤ h ∧ h ≤ 10) : zsb h (yf3 v (Int32.ofInt ((h : Nat) : Int))) = true := by
  have : h = 5 ∨ h = 6 ∨ h = 7 ∨ h = 8 ∨ h = 9 ∨ h = 10 := by omega
  rcases hv with rfl | rfl
  · rcases this with rfl | rfl | rfl | rfl | rfl | rfl
    · exact zsb_5n
    · exact zsb_6n
    · exact zsb_7n
    · exact zsb_8n
    · exact zsb_9n
    · exact zsb_10n
  · rcases this with rfl | rfl | rfl | rfl | rfl | rfl
    · exact zsb_5r
    · exact zsb_6r
    · exact zsb_7r
    · exact zsb_8r
    · exact zsb_9r
    · exact zsb_10r
section YSBL
variable {v : Value} {hv : Value} {R : Nat → Option xO} {H ah : List xO}
theorem xcl_f (hU : xSim false hv R H ah) {pc : Nat} {st st' : List Value} {H1 : List xO} (e : zcl (yPh false v) 60000 0 pc st H = some (st', H1)) (hl : 81 ≤ ah.length) : ∃ ah2, (∀ (d : Nat) (L : List Value), yD v (d + 61) 0 pc L st ah = yD v (d + 61) 0 (pc + 3) L st' ah2) ∧ xSim false hv R H1 ah2 ∧ ah2.take 81 = ah.take 81 ∧ 81 ≤ ah2.length :=
  zcl_sim (u := xP_sf (xPrg v)) (v := v) (yh_kd v) (yh_sf v) (yh_mk v) e hU hl
theorem y_sb {h : Int32} {x : Nat} {H5 : List xO} (e : yf3 v h = some (x, H5)) (hU : xSim false hv R yhS ah) (hl : ah.length = 137) (n : Int32) (a : Int64) (x6 x7 : Value) : ∃ ah5, (∀ d, yD v (d + 61) 0 130 (yL2 n a h x6 x7) [] ah = yD v (d + 61) 0 158 (yL2 n a h (.ref x) x7) [.ref 81] ah5) ∧ xSim false hv R H5 ah5 ∧ ah5.take 81 = ah.take 81 := by
  unfold yf3 at e
  split at e
  · rename_i a1 H1 e1
    split at e
    · rename_i a2 H2 e2
      split at e
      · rename_i a3 H3 e3
        split at e
        · rename_i a4 H4 e4
          split at e
          · rename_i a5 H6 e5
            cases e
            have hU0 : xSim false hv R (yhS ++ [.inr (11, xP_fd (xPrg v) 11)]) (ah ++ [.inr (11, xP_fd (xPrg v) 11)]) := xs_push hU (xlike_rf _)
            obtain ⟨b1, p1, q1, l1, m1⟩ := xcl_f (v := v) hU0 e1 (by rw [List.length_append]; omega)
            obtain ⟨b2, p2, q2, l2, m2⟩ := xcl_f (v := v) q1 e2 m1
            obtain ⟨b3, p3, q3, l3, m3⟩ := xcl_f (v := v) q2 e3 m2
            obtain ⟨b4, p4, q4, l4, m4⟩ := xcl_f (v := v) q3 e4 m3
            obtain ⟨b5, p5, q5, l5, m5⟩ := xcl_f (v := v) q4 e5 m4
            refine ⟨b5, fun d => ?_, q5, ?_⟩
            · refine (yD_one (pc' := 133) (L' := yL2 n a h x6 x7) (st' := [.ref ah.length]) (ah' := ah ++ [.inr (11, xP_fd (xPrg v) 11)]) rfl).trans ?_
              rw [hl]
              refine (yD_one (pc' := 134) (L' := yL2 n a h x6 x7) (st' := [.ref 137, .ref 137]) (ah' := ah ++ [.inr (11, xP_fd (xPrg v) 11)]) rfl).trans ?_
              rw [p1]
              refine (yD_one (pc' := 139) (L' := yL2 n a h x6 x7) (st' := [.ref 73, .ref a1]) (ah' := b1) rfl).trans ?_
              rw [p2]
              refine (yD_one (pc' := 144) (L' := yL2 n a h x6 x7) (st' := [.int h, .ref a2]) (ah' := b2) rfl).trans ?_
              rw [p3]
              refine (yD_one (pc' := 149) (L' := yL2 n a h x6 x7) (st' := [.ref 75, .ref a3]) (ah' := b3) rfl).trans ?_
              rw [p4, p5]
              refine (yD_one (pc' := 157) (L' := yL2 n a h (.ref x) x7) (st' := []) (ah' := b5) rfl).trans ?_
              refine (yD_one (pc' := 158) (L' := yL2 n a h (.ref x) x7) (st' := [.ref 81]) (ah' := b5) rfl).trans ?_
              rfl
            · rw [l5, l4, l3, l2, l1, List.take_append_of_le_length (by omega)]
          · cases e
        · cases e
      · cases e
    · cases e
  · cases e
theorem yhS_get (i : Nat) : yhS[i]? = if i < 81 then yh0[i]? else if i < 137 then some xUn else none := by
  have h0 : yh0.length = 81 := by
    unfold yh0
    rw [List.length_set, xB0_len]
  unfold yhS
  by_cases z : i < 81
  · rw [if_pos z, List.getElem?_append_left (by omega)]
  · rw [if_neg z, List.getElem?_append_right (by omega), h0, List.getElem?_replicate]
    by_cases z2 : i < 137
    · rw [if_pos z2, if_pos (by omega)]
    · rw [if_neg z2, if_neg (by omega)]
/-- everything of the mill is hidden, and the script -/
theorem yhS_sim {q : yQ} {S : yS} {js : List xO} (hj : js.length = 2) : xSim false xU (fun i => if i = 79 ∨ 81 ≤ i then (yH q S js)[i]? else none) yhS (yH q S js) := by
  have hl : (yH q S js).length = 137 := by rw [yH_len, hj]
  have hs : yhS.length = 137 := by
    unfold yhS yh0
    rw [List.length_append, List.length_set, xB0_len, List.length_replicate]
  refine ⟨by rw [hs, hl], fun i hi => ?_, fun i o ho => ?_, fun z => by cases z⟩
  · show (if i = 79 ∨ 81 ≤ i then (yH q S js)[i]? else none) = none
    rw [if_pos (by omega), List.getElem?_eq_none (by omega)]
  · rw [yhS_get] at ho
    by_cases z : i < 81
    · rw [if_pos z] at ho
      by_cases z2 : i = 79
      · subst z2
        have e : yh0[79]? = some xUn := yh0_U
        rw [e] at ho
        cases ho
        obtain ⟨o', ho'⟩ : ∃ o', (yH q S js)[79]? = some o' := ⟨_, List.getElem?_eq_getElem (by omega)⟩
        refine ⟨o', ho', Or.inl rfl, fun _ w hw => ?_⟩
        have hw : (if (79 : Nat) = 79 ∨ 81 ≤ 79 then (yH q S js)[79]? else none) = some w := hw
        rw [if_pos (Or.inl rfl), ho'] at hw
        cases hw
        rfl
      · refine ⟨o, ?_, xlike_rf _, fun _ w hw => ?_⟩
        · rw [yH_lo q S js z, ← ho, ← yh0_set q.2.1 q.2.2, List.getElem?_set_ne (by omega)]
        · have hw : (if i = 79 ∨ 81 ≤ i then (yH q S js)[i]? else none) = some w := hw
          rw [if_neg (by omega)] at hw
          cases hw
    · rw [if_neg z] at ho
      by_cases z2 : i < 137
      · rw [if_pos z2] at ho
        cases ho
        obtain ⟨o', ho'⟩ : ∃ o', (yH q S js)[i]? = some o' := ⟨_, List.getElem?_eq_getElem (by omega)⟩
        refine ⟨o', ho', Or.inl rfl, fun _ w hw => ?_⟩
        have hw : (if i = 79 ∨ 81 ≤ i then (yH q S js)[i]? else none) = some w := hw
        rw [if_pos (by omega), ho'] at hw
        cases hw
        rfl
      · rw [if_neg z2] at ho
        cases ho
/-- from the law's 130 on to the call of its compile -/
theorem y_text {q : yQ} {S : yS} {js : List xO} (hvv : jV q.1) (hj : js.length = 2) {h : Nat} (hh : 5 ≤ h ∧ h ≤ 10) (n : Int32) (a : Int64) (x6 x7 : Value) : ∃ (js5 : List xO) (xa xb : Nat) (g : Nat → Int32), (∀ d, yD q.1 (d + 61) 0 130 (yL2 n a (Int32.ofInt ((h : Nat) : Int)) x6 x7) [] (yH q S js) = yD q.1 (d + 61) 0 158 (yL2 n a (Int32.ofInt ((h : Nat) : Int)) (.ref (135 + xa)) x7) [.ref 81] (yH q S (js ++ js5))) ∧ jStr (js ++ js5) xa xb (zqn h) g ∧ (∀ i, i < zqn h → g i = Int32.ofInt (zqt h i)) ∧ js5.length ≤ 300 ∧ xsum js5 ≤ 10000 := by
  have hb := zsb_ok hvv hh
  cases e : yf3 q.1 (Int32.ofInt ((h : Nat) : Int)) with
  | none =>
    rw [e] at hb
    cases hb
  | some z =>
    obtain ⟨x, H5⟩ := z
    rw [e] at hb
    have hl : (yH q S js).length = 137 := by rw [yH_len, hj]
    obtain ⟨ah5, c1, c2, c3⟩ := y_sb e (yhS_sim (q := q) (S := S) hj) hl n a x6 x7
    unfold zsb at hb
    simp only [Bool.and_eq_true] at hb
    obtain ⟨k1, k2, k3, k4, k5, k6⟩ := hb
    have k1 := Nat.le_of_ble_eq_true k1
    have k3 := Nat.le_of_ble_eq_true k3
    have k4 := Nat.le_of_ble_eq_true k4
    -- the mill is as it was
    have same : ∀ i, i < 137 → ah5[i]? = (yH q S js)[i]? := by
      intro i hi
      by_cases z : i < 81
      · have a1 : (ah5.take 81)[i]? = ah5[i]? := List.getElem?_take_of_lt z
        have a2 : ((yH q S js).take 81)[i]? = (yH q S js)[i]? := List.getElem?_take_of_lt z
        rw [← a1, c3, a2]
      · have u := yunb_ok (List.all_eq_true.mp k6 (i - 81) (List.mem_range.mpr (by omega)))
        rw [show 81 + (i - 81) = i by omega] at u
        obtain ⟨o', g1, -, g2⟩ := c2.2.2.1 _ _ u
        obtain ⟨w, hw⟩ : ∃ w, (yH q S js)[i]? = some w := ⟨_, List.getElem?_eq_getElem (by omega)⟩
        have g3 := g2 rfl w (by
          show (if i = 79 ∨ 81 ≤ i then (yH q S js)[i]? else none) = some w
          rw [if_pos (by omega)]
          exact hw)
        rw [g1, hw, g3]
    have hl5 : 137 ≤ ah5.length := by
      have := same 136 (by omega)
      rw [List.getElem?_eq_getElem (show 136 < (yH q S js).length by omega)] at this
      have := (List.getElem?_eq_some_iff.mp this).1
      omega
    have e5 : ah5 = yH q S (js ++ ah5.drop 137) := by
      have a1 : ah5.take 137 = yH q S js := by
        apply List.ext_getElem?
        intro i
        by_cases z : i < 137
        · rw [List.getElem?_take_of_lt z]
          exact same i z
        · rw [List.getElem?_eq_none (by rw [List.length_take]; omega), List.getElem?_eq_none (by omega)]
      have a2 : yH q S (js ++ ah5.drop 137) = yH q S js ++ ah5.drop 137 := by
        unfold yH
        rw [List.append_assoc, List.append_assoc]
      rw [a2, ← a1]
      exact (List.take_append_drop 137 ah5).symm
    -- the string
    unfold zso at k2
    split at k2
    · rename_i k fs hx
      simp only [Bool.and_eq_true] at k2
      obtain ⟨m1, m2, m3⟩ := k2
      have m1 := Nat.eq_of_beq_eq_true m1
      subst m1
      have m2 := of_decide_eq_true m2
      split at m3
      · rename_i b hb0
        simp only [Bool.and_eq_true] at m3
        obtain ⟨m3, m4⟩ := m3
        have m3 := Nat.le_of_ble_eq_true m3
        unfold zsr at m4
        split at m4
        · rename_i t n' g hg
          simp only [Bool.and_eq_true] at m4
          obtain ⟨n1, n2, n3⟩ := m4
          have n1 := Nat.eq_of_beq_eq_true n1
          have n2 := Nat.eq_of_beq_eq_true n2
          subst n1
          subst n2
          obtain ⟨fs', w1, w2, w3⟩ := xs_obj c2 hx (by rintro ⟨y, -⟩; cases y)
          obtain ⟨g', v1, v2⟩ := xs_int c2 hg
          have w30 := w3 0 (by rintro ⟨y, -⟩; cases y)
          have w31 := w3 1 (by rintro ⟨y, -⟩; cases y)
          have ix : 135 + (x - 135) = x := by omega
          have ib : 135 + (b - 135) = b := Nat.add_sub_of_le (Nat.le_trans (by decide) m3)
          refine ⟨ah5.drop 137, x - 135, b - 135, g', fun d => ?_, ⟨⟨fs', ?_, ?_, w31.trans m2⟩, ?_⟩, fun i hi => ?_, ?_, ?_⟩
          · rw [ix, ← e5]
            exact c1 d
          · rw [← yH_hi q S (js ++ ah5.drop 137), ← e5, ix]
            exact w1
          · rw [ib]
            exact w30.trans hb0
          · rw [← yH_hi q S (js ++ ah5.drop 137), ← e5, ib]
            exact v1
          · rw [← v2 i hi]
            exact of_decide_eq_true (List.all_eq_true.mp n3 i (List.mem_range.mpr hi))
          · rw [List.length_drop, ← c2.1]
            omega
          · rw [xs_dropsum c2 k5]
            exact k4
        · cases m4
      · cases m3
    · cases k2
end YSBL
end YSB
