/-! THE TWO CLOSED RUNS -/
section YFR
def yL1 : List Value := .ref 79 :: .ref 81 :: List.replicate 23 xU
def yf1 (v : Value) : Option xS4 := xto (yPh false v) 81 20000 30 0 24 100 0 (.ref 79 :: List.replicate 24 xU) [] yh0
def yck1 (v : Value) : Bool := match yf1 v with
  | some (pc, L, st, H) => Nat.beq pc 24 && (decide (L = yL1) && (decide (st = []) && (yshp 99 H && (y82 H (.int 0) && (ypA H [(20, [0, 0])] && Nat.beq H.length 137)))))
  | none => false
set_option maxRecDepth 100000 in
theorem yck1_n : yck1 .null = true := by decide +kernel
set_option maxRecDepth 100000 in
theorem yck1_r : yck1 (.ref 80) = true := by decide +kernel
/-- the text is made, fed and compiled -/
def yf2 (v : Value) (h : Int32) (H : List xO) : Option (Nat × Int32 × List xO) := match zcl (yPh true v) 60000 0 134 [.ref 137, .ref 137] (H ++ [.inr (11, xP_fd (xPrg v) 11)]) with
  | some ([.ref a1], H1) => (match zcl (yPh true v) 60000 0 139 [.ref 73, .ref a1] H1 with
    | some ([.ref a2], H2) => (match zcl (yPh true v) 60000 0 144 [.int h, .ref a2] H2 with
      | some ([.ref a3], H3) => (match zcl (yPh true v) 60000 0 149 [.ref 75, .ref a3] H3 with
        | some ([.ref a4], H4) => (match zcl (yPh true v) 60000 0 152 [.ref a4] H4 with
          | some ([.ref x], H5) => (match zcl (yPh true v) 60000 0 160 [.ref x, .ref 81] H5 with
            | some ([.int r], H6) => some (x, r, H6)
            | _ => none)
          | _ => none)
        | _ => none)
      | _ => none)
    | _ => none)
  | _ => none
def pfI (h : Int) : List (Nat × Int) := [(0, 26), (2, 2), (8, 0), (9, 3), (12, 0), (19, 1), (21, 24), (22, h), (23, 1), (24, 1), (25, 18), (29, 0), (30, 0)]
def pfA : List (Nat × List Int) := [(0, [2, 30, 2, 30, 2, 30, 5, 30, 5, 30, 2, 30, 2, 30, 4, 30, 1, 30, 4, 30, 4, 30, 1, 30, 4, 30]), (2, [61, 43]), (4, [0, 1, 2]), (15, [0, 0, 0]), (17, [0, 2, 4]), (19, [-2, 0, -1]), (20, [0, 0]), (23, [0]), (24, [0]), (25, [0]), (26, [-1, 0, -1, 4, 14, -1, -1, -1, -1, -1, 9]), (27, [0, 0, 4, 4, 0, 0, 5, 3, 4, 0, 0, 0, 7, 8, 0, 0, 0, 7]), (28, [0, 0, 6, 8, 0, 0, 10, 12, 14, 0, 0, 16, 18, 20, 0, 0, 22, 24]), (29, [4, 4, 3, 4, 9, 9, 7, 8, 9, 14, 14, 12, 13, 14, 18, 18, 17, 18])]
def pfB : List (Nat × List Int64) := [(0, [1, 0, 1, 0, 1, 0, 0, 0, 1, 0, 1, 0, 0, 0, 2, 0, 0, 0, 1, 0, 1, 0, 1, 0, 0, 0])]
def pfC : List (Nat × List Nat) := [(1, [6, 6, 7]), (3, [13, 22, 32, 32, 13, 22, 32, 32, 32, 13, 22, 31, 32, 32, 13, 22, 31, 32])]
def yunb (H : List xO) (i : Nat) : Bool := match H[i]? with
  | some (.inr (c, fs)) => Nat.beq c 199 && fs.isEmpty
  | _ => false
theorem yunb_ok {H : List xO} {i : Nat} (h : yunb H i = true) : H[i]? = some xUn := by
  unfold yunb at h
  split at h
  · rename_i c fs e
    rw [Bool.and_eq_true] at h
    rw [e, Nat.eq_of_beq_eq_true h.1, List.isEmpty_iff.mp h.2]
    rfl
  · cases h
def ypr2 (h : Int) (H : List xO) : Bool := yshp 4 H && (y82 H (.int 0) && (yunb H 85 && (ypI H (pfI h) && (ypA H pfA && (ypB H pfB && (ypC H pfC && (Nat.ble H.length 1000 && (Nat.ble (xsum (H.drop 135)) 100000 && (H.drop 135).all fun o => !yun o))))))))
def yck2 (v : Value) (h : Int32) : Bool := match yf1 v with
  | some (_, _, _, H1) => (match yf2 v h (H1.set 85 xUn) with
    | some (_, r, H) => decide (r = 0) && ypr2 h.toInt H
    | none => false)
  | none => false
/-- the law's frame behind its rows -/
def yL2 (n : Int32) (a : Int64) (h : Int32) (x6 x7 : Value) : List Value := [.ref 79, .ref 81, .int n, .long a, xU, .int h, x6, x7, xU, xU, xU, xU, xU, xU, xU, xU, xU, xU, xU, xU, xU, xU, xU, xU, xU]
section YFRA
variable {v : Value} {hv : Value} {R : Nat → Option xO} {H ah : List xO}
theorem xcl_s (hU : xSim true hv R H ah) {pc : Nat} {st st' : List Value} {H1 : List xO} (e : zcl (yPh true v) 60000 0 pc st H = some (st', H1)) (hl : 81 ≤ ah.length) : ∃ ah2, (∀ (d : Nat) (L : List Value), yD v (d + 61) 0 pc L st ah = yD v (d + 61) 0 (pc + 3) L st' ah2) ∧ xSim true hv R H1 ah2 ∧ ah2.take 81 = ah.take 81 ∧ 81 ≤ ah2.length :=
  zcl_sim (u := xP_sf (xPrg v)) (v := v) (yh_kd v) (yh_sf v) (yh_mk v) e hU hl
theorem y_comp {h : Int32} {x : Nat} {r : Int32} {H6 : List xO} (e : yf2 v h H = some (x, r, H6)) (hU : xSim true hv R H ah) (hl : ah.length = 137) (n : Int32) (a : Int64) (x6 x7 : Value) : ∃ ah6, (∀ d, yD v (d + 61) 0 130 (yL2 n a h x6 x7) [] ah = yD v (d + 61) 0 163 (yL2 n a h (.ref x) x7) [.int r] ah6) ∧ xSim true hv R H6 ah6 ∧ ah6.take 81 = ah.take 81 := by
  unfold yf2 at e
  split at e
  · rename_i a1 H1 e1
    split at e
    · rename_i a2 H2 e2
      split at e
      · rename_i a3 H3 e3
        split at e
        · rename_i a4 H4 e4
          split at e
          · rename_i a5 H5 e5
            split at e
            · rename_i r6 H7 e6
              cases e
              have hU0 : xSim true hv R (H ++ [.inr (11, xP_fd (xPrg v) 11)]) (ah ++ [.inr (11, xP_fd (xPrg v) 11)]) := xs_push hU (xlike_rf _)
              obtain ⟨b1, p1, q1, l1, m1⟩ := xcl_s (v := v) hU0 e1 (by rw [List.length_append]; omega)
              obtain ⟨b2, p2, q2, l2, m2⟩ := xcl_s (v := v) q1 e2 m1
              obtain ⟨b3, p3, q3, l3, m3⟩ := xcl_s (v := v) q2 e3 m2
              obtain ⟨b4, p4, q4, l4, m4⟩ := xcl_s (v := v) q3 e4 m3
              obtain ⟨b5, p5, q5, l5, m5⟩ := xcl_s (v := v) q4 e5 m4
              obtain ⟨b6, p6, q6, l6, m6⟩ := xcl_s (v := v) q5 e6 m5
              refine ⟨b6, fun d => ?_, q6, ?_⟩
              · refine (yD_one (pc' := 133) (L' := yL2 n a h x6 x7) (st' := [.ref ah.length]) (ah' := ah ++ [.inr (11, xP_fd (xPrg v) 11)]) rfl).trans ?_
                rw [hl]
                refine (yD_one (pc' := 134) (L' := yL2 n a h x6 x7) (st' := [.ref 137, .ref 137]) (ah' := ah ++ [.inr (11, xP_fd (xPrg v) 11)]) rfl).trans ?_
                rw [p1]
                refine (yD_one (pc' := 139) (L' := yL2 n a h x6 x7) (st' := [.ref 73, .ref a1]) (ah' := b1) rfl).trans ?_
                rw [p2]
                refine (yD_one (pc' := 144) (L' := yL2 n a h x6 x7) (st' := [.int h, .ref a2]) (ah' := b2) rfl).trans ?_
                rw [p3]
                refine (yD_one (pc' := 149) (L' := yL2 n a h x6 x7) (st' := [.ref 75, .ref a3]) (ah' := b3) rfl).trans ?_
                rw [p4, p5]
                refine (yD_one (pc' := 157) (L' := yL2 n a h (.ref x) x7) (st' := []) (ah' := b5) rfl).trans ?_
                refine (yD_one (pc' := 158) (L' := yL2 n a h (.ref x) x7) (st' := [.ref 81]) (ah' := b5) rfl).trans ?_
                refine (yD_one (pc' := 160) (L' := yL2 n a h (.ref x) x7) (st' := [.ref x, .ref 81]) (ah' := b5) rfl).trans ?_
                rw [p6]
              · rw [l6, l5, l4, l3, l2, l1, List.take_append_of_le_length (by omega)]
            · cases e
          · cases e
        · cases e
      · cases e
    · cases e
  · cases e
end YFRA
/-! rows were put in between -/
def sPt (S : yS) (f : Nat → Int64) (c : Int) : yS := (yup S.1 11 c, S.2.1, S.2.2.1, S.2.2.2.1, yup S.2.2.2.2.1 7 f, S.2.2.2.2.2)
theorem yH_pt (q : yQ) (S : yS) (js : List xO) (f : Nat → Int64) (c : Int) : yH q (sPt S f c) js = ((yH q S js).set 82 (.inr (8, [.int (Int32.ofInt (gI S 10)), .int (Int32.ofInt c), .ref 83, .ref 84, .ref 85]))).set 85 (.inl (1, 320, .inr (.inl f))) := by
  unfold yH
  rw [List.set_append_right _ _ (by rw [xB0_len]; omega), List.set_append_right _ _ (by rw [xB0_len]; omega), xB0_len]
  rfl
theorem xLike_mono {o o' : xO} (h : xLike false o o') : xLike true o o' := by
  rcases h with h | h | h | h | h | ⟨h, -⟩
  · exact Or.inl h
  · exact Or.inr (Or.inl h)
  · exact Or.inr (Or.inr (Or.inl h))
  · exact Or.inr (Or.inr (Or.inr (Or.inl h)))
  · exact Or.inr (Or.inr (Or.inr (Or.inr (Or.inl h))))
  · cases h
theorem xSim_pt {hv0 : Value} {R : Nat → Option xO} {H ah : List xO} (hU : xSim false hv0 R H ah) (h82 : y82 H (.int 0) = true) (hl : H.length = 137) {z : xO} {x : Int32} : xSim true (.int x) (fun i => if i = 85 then some z else R i) (H.set 85 xUn) ((ah.set 82 (.inr (8, [.int 2, .int x, .ref 83, .ref 84, .ref 85]))).set 85 z) := by
  have hl2 : ah.length = 137 := hU.1.symm.trans hl
  have h82' := y82_ok h82
  refine ⟨by rw [List.length_set, List.length_set, List.length_set, hl, hl2], fun i hi => ?_, fun i o ho => ?_, fun _ => ⟨[.int 2, .int x, .ref 83, .ref 84, .ref 85], ?_, rfl⟩⟩
  · rw [List.length_set] at hi
    show (if i = 85 then some z else R i) = none
    rw [if_neg (by omega)]
    exact hU.2.1 i hi
  · by_cases h1 : i = 85
    · subst h1
      rw [List.getElem?_set_self (by omega)] at ho
      cases ho
      exact ⟨z, by rw [List.getElem?_set_self (by rw [List.length_set]; omega)], Or.inl rfl, fun _ w hw => by simpa using hw⟩
    · rw [List.getElem?_set_ne (Ne.symm h1)] at ho
      rw [List.getElem?_set_ne (Ne.symm h1)]
      by_cases h2 : i = 82
      · subst h2
        rw [h82'] at ho
        cases ho
        refine ⟨.inr (8, [.int 2, .int x, .ref 83, .ref 84, .ref 85]), by rw [List.getElem?_set_self (by omega)], Or.inr (Or.inr (Or.inr (Or.inr (Or.inr ⟨rfl, _, _, rfl, rfl, rfl, fun j hj => ?_⟩)))), fun e => by cases e⟩
        match j, hj with
        | 0, _ => rfl
        | 2, _ => rfl
        | 3, _ => rfl
        | 4, _ => rfl
        | j + 5, _ => rfl
      · rw [List.getElem?_set_ne (Ne.symm h2)]
        obtain ⟨o', g1, g2, g3⟩ := hU.2.2.1 i o ho
        exact ⟨o', g1, xLike_mono g2, fun e w hw => g3 e w (by simpa [h1] using hw)⟩
  · rw [List.getElem?_set_ne (by omega), List.getElem?_set_self (by omega)]
theorem xs_dropsum {b : Bool} {hv : Value} {R : Nat → Option xO} {H ah : List xO} (hU : xSim b hv R H ah) {k : Nat} (hn : ((H.drop k).all fun o => !yun o) = true) : xsum (ah.drop k) = xsum (H.drop k) := by
  unfold xsum
  congr 1
  apply List.ext_getElem?
  intro i
  rw [List.getElem?_map, List.getElem?_map, List.getElem?_drop, List.getElem?_drop]
  cases h : H[k + i]? with
  | none =>
    have : ah[k + i]? = none := List.getElem?_eq_none (by rw [← hU.1]; exact List.getElem?_eq_none_iff.mp h)
    rw [this]
  | some o =>
    obtain ⟨o', g1, g2, -⟩ := hU.2.2.1 _ _ h
    rw [g1]
    have hu : yun o = false := by
      have := List.all_eq_true.mp hn o (List.mem_of_getElem? (i := i) (by rw [List.getElem?_drop]; exact h))
      simpa using this
    show some (xsz o') = some (xsz o)
    congr 1
    rcases g2 with h1 | h1 | ⟨t, n, f, f', h1, h2, -⟩ | ⟨t, n, f, f', h1, h2, -⟩ | ⟨t, n, f, f', h1, h2, -⟩ | ⟨-, fs, fs', h1, h2, h3, -⟩
    · subst h1
      cases hu
    · rw [h1]
    · rw [h1, h2]
      rfl
    · rw [h1, h2]
      rfl
    · rw [h1, h2]
      rfl
    · rw [h1, h2]
      exact h3
end YFR
