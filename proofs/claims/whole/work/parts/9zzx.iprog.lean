/-! WHAT HOLDS BETWEEN CALLS: the program -/
section YSR
/-- a program that both hold, read from what a state had on its tape -/
def iPq (S0 : yS) (t : Nat) (V : yPV) (a : Int) (S : yS) : Prop := (sIn S0 ∧ sprc (sG0 S0) (.inr (0, .inr yV0)) = .inr (t, .inr V) ∧ yr (sht V 2 + sht V 1) < yr ((zPg V).2.2 : Int)) ∧ (gI S 10 = gI S0 10 ∧ (∀ k : Nat, (k : Int) < gI S 10 → gA S 20 k = gA S0 20 k) ∧ ∀ j, j < (gI S0 12).toNat → gA S 8 j = tb S0 j) ∧ (cRg S ∧ cVl S V ∧ sOk (sG0 S0) a t V ∧ cK S 0 (zC V) ∧ cX S 0 (yTexts (gX (sG0 S0)) (zX V))) ∧ (rVl S V ∧ rOk (sG0 S0) 0 t V ∧ rK S 0 (zC V) ∧ rX S 0 (zX V) ∧ gI S 60 = sht V 1 ∧ gI S 61 = sht V 2) ∧ vGd (sG0 S0) V
def iPr (S : yS) : Prop := gI S 19 = 1 → ∃ (S0 : yS) (t : Nat) (V : yPV) (a : Int), iPq S0 t V a S
def yJ (S : yS) : Prop := yI S ∧ iPr S
theorem yJ_out {S : yS} {j : Nat} {x : Int64} (h : yJ S) : yJ (sB S 18 j x) := h
theorem yJ_thr {S : yS} {x : Int} (h : yJ S) : yJ (sI S 39 x) := h
section YSRL
variable {q : yQ} {d : Nat} {js : List xO} {G : yGx} {V : yPV} {S S' S0 : yS} {t : Nat}
theorem cRg_C (h : cRg S) (hf : yFr yWC S S') : cRg S' := by
  unfold cRg cGr at h ⊢
  rw [hf.1 20 rfl, hf.1 21 rfl, hf.1 22 rfl, hf.1 23 rfl, hf.1 24 rfl, hf.1 8 rfl, hf.1 9 rfl, hf.1 25 rfl, hf.2.2.2.1 25 rfl, hf.2.2.2.1 26 rfl, hf.2.2.2.1 29 rfl, hf.2.2.2.2.2 3 rfl]
  exact h
theorem cVl_C (h : cVl S V) (hf : yFr yWC S S') : cVl S' V := ⟨vPg_fr h.1 hf ⟨rfl, rfl, rfl⟩, vO_fr h.2.1 hf ⟨rfl, rfl, rfl⟩, vG_fr h.2.2.1 hf ⟨rfl, rfl⟩, cDe_fr h.2.2.2.1 hf ⟨rfl, rfl, rfl, rfl, rfl, rfl⟩, cDe_fr h.2.2.2.2.1 hf ⟨rfl, rfl, rfl, rfl, rfl, rfl⟩, vIt_fr h.2.2.2.2.2.1 hf ⟨rfl, rfl, rfl, rfl, rfl⟩, cBn_fr h.2.2.2.2.2.2 hf rfl⟩
theorem cK_C {L : yCo} (h : cK S 0 L) (hf : yFr yWC S S') : cK S' 0 L := by
  unfold cK at h ⊢
  rw [hf.1 0 rfl, hf.2.2.2.1 0 rfl, hf.2.2.2.2.1 0 rfl]
  exact h
theorem cX_C {X : List (List Int)} (h : cX S 0 X) (hf : yFr yWC S S') : cX S' 0 X := by
  unfold cX at h ⊢
  rw [hf.1 (2 + 0) rfl, hf.2.2.2.1 (2 + 0) rfl, hf.2.2.2.1 (4 + 0) rfl]
  exact h
theorem oj7 : yCall yJ 7 := by
  intro q S js x0 d y1 y2 y3 y4 hL h0 h6 hop hJ
  obtain ⟨hI, _⟩ := hJ
  obtain ⟨hTp, hTb, hCd, hPg, hRs, hRn⟩ := id hI
  obtain ⟨p1, p2, p3, p4⟩ := id hTp
  obtain ⟨t1, t2, t3, t4, t5, t6, t7, t8, t9⟩ := id hTb
  obtain ⟨hn, hkw, z1, z2, z3, z4, z5, z6, z7, z8⟩ := id hRn
  obtain ⟨S0, hS0⟩ : ∃ S0, S0 = yforg S := ⟨_, rfl⟩
  have hin : sIn S0 := by
    rw [hS0]
    refine ⟨⟨p2, p3⟩, ⟨t2, t3⟩, fun i hi => ?_, z7⟩
    have hi : i < (gI S 10).toNat := hi
    exact (t7 i (by omega)).2.2
  obtain ⟨S1, a1, a2, a3, a4⟩ := k26 (q := q) (d := d + 192) (js := js) hin
  have a1 : Y q (d + 398) 26 0 [vr 117, vu, vu, vu] [] S0 js = yretv q S1 js := a1
  have hc : Y q (d + 399) 160 0 [vr 75] [] S js = yret q (vi (gI S1 17)) (sI S1 12 0) js := by
    rw [w160_0, w111_0, YB_retv, w160_7]
    have e : sI (sI (sI (sI (sI (sI S 30 0) 31 0) 32 0) 33 0) 34 0) 29 0 = S0 := hS0.symm
    rw [e, a1, YB_retv, w160_14]
  obtain ⟨T, hT⟩ : ∃ T, T = sI S1 12 0 := ⟨_, rfl⟩
  -- slots of the class's that it has not touched
  have gi1 : ∀ k, k ≠ 12 → yWF 0 k = false → gI T k = gI S0 k := fun k h12 hk => by
    rw [hT, gI_ne _ _ _ h12]
    exact a2.1 k hk
  have ga1 : ∀ k, yWF 3 k = false → gA T k = gA S0 k := fun k hk => by
    rw [hT]
    exact a2.2.2.2.1 k hk
  have gb1 : ∀ k, yWF 4 k = false → gB T k = gB S0 k := fun k hk => by
    rw [hT]
    exact a2.2.2.2.2.1 k hk
  have s0i : ∀ k, k ≠ 30 → k ≠ 31 → k ≠ 32 → k ≠ 33 → k ≠ 34 → k ≠ 29 → gI S0 k = gI S k := fun k h1 h2 h3 h4 h5 h6 => by
    rw [hS0]
    unfold yforg
    rw [gI_ne _ _ _ h6, gI_ne _ _ _ h5, gI_ne _ _ _ h4, gI_ne _ _ _ h3, gI_ne _ _ _ h2, gI_ne _ _ _ h1]
  have s0a : ∀ k, gA S0 k = gA S k := fun k => by rw [hS0]; rfl
  have s0b : ∀ k, gB S0 k = gB S k := fun k => by rw [hS0]; rfl
  have s0t : tb S0 = tb S := by rw [hS0]; rfl
  have e12 : gI S0 12 = gI S 12 := by rw [hS0]; rfl
  have e10 : gI S0 10 = gI S 10 := by rw [hS0]; rfl
  obtain ⟨S2, code, js2, b1, b2, b3, b4, b5, b6, b7, b8, b9, b10, b11⟩ := r205 (q := q) (d := d + 253) (js := js) (S0 := S0) (S := T) hin (by rw [gi1 40 (by decide) rfl, s0i 40 (by decide) (by decide) (by decide) (by decide) (by decide) (by decide), e12]; exact p1) (fun j hj => by
    rw [ga1 37 rfl, s0a, s0t]
    rw [e12] at hj
    exact p4 j (by omega)) (fun j hj => by
    rw [gb1 10 rfl, s0b]
    exact hkw j hj) (by
    refine ⟨?_, fun i hi => ?_⟩
    · rw [gi1 41 (by decide) rfl, s0i 41 (by decide) (by decide) (by decide) (by decide) (by decide) (by decide), t1]
      show gI S 10 = (((gI S0 10).toNat : Nat) : Int)
      rw [e10]
      omega
    · have hi : i < (gI S0 10).toNat := hi
      rw [e10] at hi
      obtain ⟨k1, k2, _⟩ := t7 i (by omega)
      rw [gb1 11 rfl, s0b, ga1 38 rfl, s0a]
      refine ⟨k1.trans ?_, k2.trans ?_⟩
      · show gB S 6 i = gB S0 6 i
        rw [s0b]
      · show gA S 20 i = gA S0 20 i
        rw [s0a])
  have b1 : Y q (d + 399) 205 0 [vr 129, vu, vu] [] T js = yret q (vi code) S2 js2 := b1
  -- slots that neither has touched
  have gi : ∀ k, k ≠ 12 → yWF 0 k = false → yWC 0 k = false → k ≠ 30 → k ≠ 31 → k ≠ 32 → k ≠ 33 → k ≠ 34 → k ≠ 29 → gI S2 k = gI S k := fun k h12 hF hW h1 h2 h3 h4 h5 h6 => (b2.1 k hW).trans ((gi1 k h12 hF).trans (s0i k h1 h2 h3 h4 h5 h6))
  have ga : ∀ k, yWF 3 k = false → yWC 3 k = false → gA S2 k = gA S k := fun k hF hW => (b2.2.2.2.1 k hW).trans ((ga1 k hF).trans (s0a k))
  have gb : ∀ k, yWF 4 k = false → yWC 4 k = false → gB S2 k = gB S k := fun k hF hW => (b2.2.2.2.2.1 k hW).trans ((gb1 k hF).trans (s0b k))
  have gz : ∀ k, k ≠ 12 → yWF 0 k = false → yWC 0 k = false → gI S2 k = gI S0 k := fun k h12 hF hW => (b2.1 k hW).trans (gi1 k h12 hF)
  have gj2 : gJ S2 2 = gJ S 2 := by
    rw [b2.2.1 2 rfl, hT]
    show gJ S1 2 = _
    rw [a2.2.1 2 rfl, hS0]
    rfl
  have c12 : gI S2 12 = 0 := by rw [b2.1 12 rfl, hT]; rfl
  have c18 : gI S2 18 = gI S1 18 := by rw [b2.1 18 rfl, hT]; rfl
  have c19 : gI S2 19 = gI S1 19 := by rw [b2.1 19 rfl, hT]; rfl
  have c0 : gI S2 0 = gI S1 0 := by rw [b2.1 0 rfl, hT]; rfl
  have c8 : gI S2 8 = gI S1 8 := by rw [b2.1 8 rfl, hT]; rfl
  have c9 : gI S2 9 = gI S1 9 := by rw [b2.1 9 rfl, hT]; rfl
  have d4 : gA S2 4 0 = 0 := by rw [b2.2.2.2.1 4 rfl, hT]; exact a3
  have d5 : gA S2 5 0 = 0 := by rw [ga 5 rfl rfl]; exact z8
  have core : yr code = yr (gI S1 17) ∧ iCd S2 ∧ iPg S2 ∧ ((0 ≤ gI S2 8 ∧ gI S2 8 ≤ 8) ∧ 0 ≤ gI S2 9 ∧ gI S2 9 ≤ 8) ∧ iPr S2 := by
    revert a4 b11
    cases hσ : sfin (gI S0 12).toNat (sprc (sG0 S0) (.inr (0, .inr yV0))) with
    | inl p =>
      intro a4 b11
      obtain ⟨Sx, u1, u2, u3⟩ := a4
      obtain ⟨v1, v2, v3, v4⟩ := b11
      have w17 : gI S1 17 = 1 := by rw [u1]; exact u2
      have w18 : gI S1 18 = p := by rw [u1]; exact u3
      have w19 : gI S1 19 = 0 := by rw [u1]; rfl
      have w0 : gI S1 0 = 0 := by rw [u1]; rfl
      have w8 : gI S1 8 = 0 := by rw [u1]; rfl
      have w9 : gI S1 9 = 0 := by rw [u1]; rfl
      refine ⟨by rw [v1, w17], ⟨by omega, by omega, by omega, fun i hi => by omega⟩, ⟨by rw [v2, c18, w18, yr_yr], by omega, by omega, fun z => by omega⟩, by omega, fun z => by omega⟩
    | inr y =>
      obtain ⟨t', ⟨m, p⟩ | V⟩ := y
      · intro a4 b11
        obtain ⟨Sx, u1, u2, u3, _⟩ := a4
        obtain ⟨v1, v2, v3, v4⟩ := b11
        have w17 : gI S1 17 = m := by rw [u1]; exact u2
        have w18 : gI S1 18 = p := by rw [u1]; exact u3
        have w19 : gI S1 19 = 0 := by rw [u1]; rfl
        have w0 : gI S1 0 = 0 := by rw [u1]; rfl
        have w8 : gI S1 8 = 0 := by rw [u1]; rfl
        have w9 : gI S1 9 = 0 := by rw [u1]; rfl
        refine ⟨by rw [v1, w17, yr_yr], ⟨by omega, by omega, by omega, fun i hi => by omega⟩, ⟨by rw [v2, c18, w18, yr_yr], by omega, by omega, fun z => by omega⟩, by omega, fun z => by omega⟩
      · intro a4 b11
        obtain ⟨a, u1, u2, u3, u4, u5, u6, u7, u8⟩ := a4
        obtain ⟨v1, v2, v3, v4, v5, v6, v7, v8, v9, v10⟩ := b11
        obtain ⟨s1, s2⟩ := sgd_al hσ
        have s2 := of_decide_eq_true s2
        have rg := cRg_C (S := T) (by rw [hT]; exact u4) b2
        have vl := cVl_C (S := T) (V := V) (by rw [hT]; exact u5) b2
        have ck := cK_C (S := T) (L := zC V) (by rw [hT]; exact u7) b2
        have cx := cX_C (S := T) (X := yTexts (gX (sG0 S0)) (zX V)) (by rw [hT]; exact u8) b2
        have hlen := u6.1.1
        have pg := vl.1
        have rpg := v4.1
        have gpg := v8.1
        obtain ⟨pg1, pg2, pg3⟩ := pg
        obtain ⟨rp1, rp2, rp3⟩ := rpg
        have ck1 := ck.1
        have rk1 := v6.1
        have rk1 : gI S2 4 = (zC V).length := rk1
        refine ⟨by rw [v1, u2], ⟨by omega, by omega, by omega, fun i hi => ?_⟩, ⟨by rw [v2, c18, u3], by omega, by omega, fun _ => by omega⟩, ⟨rg.2.2.2.2.2.1, rg.2.2.2.2.2.2.1⟩, fun _ => ⟨S0, t', V, a, ⟨hin, s1, s2⟩, ⟨?_, fun k _ => ?_, b10⟩, ⟨rg, vl, u6, ck, cx⟩, ⟨v4, v5, v6, v7, v9, v10⟩, v8⟩⟩
        · have hi : i < (zC V).length := by omega
          have k1 := ck.2 i _ (List.getElem?_eq_getElem hi)
          have k2 := v6.2 i _ (List.getElem?_eq_getElem hi)
          exact ⟨k2.1.trans k1.1.symm, k2.2.trans k1.2.symm⟩
        · rw [gz 10 (by decide) rfl rfl]
        · rw [ga 20 rfl rfl, s0a]
  obtain ⟨w1, w2, w3, ⟨w4, w5⟩, w6⟩ := core
  refine k7_ok hL h0 h6 hop (hT ▸ hc) b1 w1 ⟨⟨?_, ?_, w2, w3, ?_, ?_, ?_, w4, w5, b9.1, b9.2.1, b9.2.2.1, b9.2.2.2, d4, d5⟩, w6⟩ b7 b8
  · unfold iTp
    rw [b4, c12]
    exact ⟨rfl, by omega, by omega, fun i hi => by omega⟩
  · have g41 := gi 41 (by decide) rfl rfl (by decide) (by decide) (by decide) (by decide) (by decide) (by decide)
    have g10 := gi 10 (by decide) rfl rfl (by decide) (by decide) (by decide) (by decide) (by decide) (by decide)
    have g42 := gi 42 (by decide) rfl rfl (by decide) (by decide) (by decide) (by decide) (by decide) (by decide)
    have g11 := gi 11 (by decide) rfl rfl (by decide) (by decide) (by decide) (by decide) (by decide) (by decide)
    unfold iTb
    rw [g41, g10, g42, g11, gb 11 rfl rfl, gb 6 rfl rfl, ga 38 rfl rfl, ga 20 rfl rfl, gb 12 rfl rfl, gb 7 rfl rfl]
    exact hTb
  · have g62 := gi 62 (by decide) rfl rfl (by decide) (by decide) (by decide) (by decide) (by decide) (by decide)
    unfold iRs
    rw [ga 30 rfl rfl, g62, gj2, gb 9 rfl rfl, ga 31 rfl rfl, ga 56 rfl rfl, ga 32 rfl rfl]
    exact hRs
  · have r30 : gI S2 30 = 0 := by rw [gz 30 (by decide) rfl rfl, hS0]; rfl
    have r31 : gI S2 31 = 0 := by rw [gz 31 (by decide) rfl rfl, hS0]; rfl
    have r29 : gI S2 29 = 0 := by rw [gz 29 (by decide) rfl rfl, hS0]; rfl
    have r32 : gI S2 32 = 0 := by rw [gz 32 (by decide) rfl rfl, hS0]; rfl
    have r33 : gI S2 33 = 0 := by rw [gz 33 (by decide) rfl rfl, hS0]; rfl
    have r34 : gI S2 34 = 0 := by rw [gz 34 (by decide) rfl rfl, hS0]; rfl
    exact ⟨by omega, by omega, by omega, fun _ => ⟨r31, r29, r32, r33, r34⟩, fun z => by omega⟩
  · rw [gb 10 rfl rfl]
    exact hkw
end YSRL
end YSR
