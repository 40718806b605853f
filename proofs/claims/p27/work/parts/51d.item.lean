/-! AN ITEM THAT IS A LINE -/
section YIM
theorem zTurn_P {h P : Nat} {Ls : List zLn} (hh : 5 ≤ h ∧ h ≤ 10) (hP : 1 ≤ P) (h1 : (P - 1) * (h - 1) ≤ Ls.length) (h2 : Ls.length ≤ P * (h - 1)) (ht : P = 1 ∨ (P - 1) * (h - 1) < Ls.length) : zTurn (h - 1) Ls = decide (Ls.length = P * (h - 1)) := by
  obtain ⟨p, rfl⟩ : ∃ p, P = p + 1 := ⟨P - 1, by omega⟩
  rw [Nat.add_sub_cancel] at h1 ht
  have hc : h = 5 ∨ h = 6 ∨ h = 7 ∨ h = 8 ∨ h = 9 ∨ h = 10 := by omega
  unfold zTurn
  by_cases z : Ls.length = (p + 1) * (h - 1)
  · have a : Ls.length % (h - 1) = 0 := by rw [z]; exact Nat.mul_mod_left _ _
    have b : 0 < Ls.length := by
      rw [z]
      exact Nat.mul_pos (by omega) (by omega)
    rw [decide_eq_true z, Bool.and_eq_true, Nat.blt_eq, Nat.beq_eq]
    exact ⟨b, a⟩
  · rw [decide_eq_false z]
    cases e : (Nat.blt 0 Ls.length && Nat.beq (Ls.length % (h - 1)) 0) with
    | false => rfl
    | true =>
      rw [Bool.and_eq_true, Nat.blt_eq, Nat.beq_eq] at e
      obtain ⟨e1, e2⟩ := e
      exfalso
      rcases hc with rfl | rfl | rfl | rfl | rfl | rfl <;> omega
section YIML
variable {q : yQ} {d : Nat} {js : List xO} {S : yS} {h n np : Nat} {f : Nat → Int64} {o : Nat → Nat} {P k : Nat} {M : zSt}
theorem yk22 : yr ((xLf xSm (yr (yKo 22)).toNat).toInt) = 18 := by decide
theorem yk22r : 0 ≤ yr (yKo 22) ∧ yr (yKo 22) < 67 := by decide
theorem dPrint (hh : 5 ≤ h ∧ h ≤ 10) (hr : wR h n np f o P k M S) (hP : 1 ≤ P) (hlt : M.1.length < P * (h - 1)) {L : zLn} {i e : Nat} (hi : wIt L = i) (he : i + 1 + (wVs L).length = e) (he18 : e ≤ 18) (h29 : zA29.getD i 0 = (e : Int)) (h3 : zC3.getD i 0 = 22) (hln : (wVs L).length ≤ 9) (hv : ∀ (j : Nat) (v : yVal), (wVs L)[j]? = some v → wSr S (zn28 (i + 1 + j)) v ∧ wWd v (zn27 (i + 1 + j)) ≤ 10) (ht : ∀ j, j < e → i + 1 ≤ j → zn27 j ≤ 60 ∧ (zn3 j = 31 ∨ zn3 j = 32) ∧ 0 ≤ zA27.getD j 0 ∧ 0 ≤ zA28.getD j 0) (x6 x8 : Int) (x9 : yV) : ∃ S' : yS, YB q (Y q (d + 3) 318 0 [vr 22] [] S js) (d + 4) 121 124 [vr 131, vi i, vi e, vi 0, vi i, vi 0, vi e, vi x6, vr 22, vi x8, x9] [vr 68] = yretv q S' js ∧ wR h n np f o P k (M.1 ++ [L], M.2) S' ∧ wK S S' := by
  obtain ⟨hb, ⟨g35, g36, g38, g32, g33⟩, ⟨v16, v17, v18, v24, v25⟩, ho, hpap, hP30, hl1, hl2⟩ := id hr
  obtain ⟨p0, hp0⟩ : ∃ p0, P = p0 + 1 := ⟨P - 1, by omega⟩
  subst hp0
  have e01 : p0 + 1 - 1 = p0 := by omega
  rw [e01] at hl1 g38
  have hm : (p0 + 1) * (h - 1) = p0 * (h - 1) + (h - 1) := Nat.succ_mul _ _
  obtain ⟨u, hu⟩ : ∃ u, u = M.1.length - p0 * (h - 1) := ⟨_, rfl⟩
  have hlu : M.1.length = p0 * (h - 1) + u := by omega
  have hu2 : u < h - 1 := by omega
  rw [← hu] at g38
  obtain ⟨bl, pl⟩ := wPap_line hh hpap (p0 := p0) (l0 := u) rfl hlu hu2 L
  obtain ⟨S4, a118, f4⟩ := plL (q := q) (d := d) (js := js) (P := p0 + 1) (line := u + 1) (i := i) (e := e) (l := wVs L) (by omega) (by omega) (by omega) he18 hb he h29 h3 hln hv ht
  have eB : ((p0 + 1 - 1) * h + (u + 1)) * 24 = (p0 * h + u + 1) * 24 := by rw [e01, Nat.add_assoc]
  rw [eB, ← hi, wRn_L _ L _ bl, hi] at a118
  have el : gI S 35 + gI S 38 + 1 = ((u + 1 : Nat) : Int) + 1 := by
    rw [g35, g38]
    omega
  obtain ⟨S5, hS5⟩ : ∃ S5, S5 = sI (sAr S4 33 (wPut ((p0 * h + u + 1) * 24) (wLb L) (gA S 33))) 33 (gI S 33 + 1) := ⟨_, rfl⟩
  rw [← hS5] at a118
  have h38 : gI S5 38 = (u : Int) := by
    rw [hS5, gI_ne _ _ _ (by decide)]
    exact (f4.1.1 38 rfl).trans g38
  obtain ⟨S6, hS6⟩ : ∃ S6, S6 = sI S5 38 (gI S5 38 + 1) := ⟨_, rfl⟩
  have f06 : yFr pW S S6 := by
    rw [hS6, hS5]
    exact yFr_tr (pW_s f4) (yFr_tr pW_33 (yFr_tr (pW_I rfl) (pW_I rfl)))
  have i6 : ∀ k, k ≠ 33 → k ≠ 38 → gI S6 k = gI S k := fun k h1 h2 => by
    rw [hS6, gI_ne _ _ _ h2, hS5, gI_ne _ _ _ h1]
    exact f4.1.1 k (by simp [yWm])
  have c6 : ∀ (m : Nat) (v : yVal), m ≠ 28 → cV S m v → cV S6 m v := fun m v h1 hv => by
    rw [hS6, hS5]
    exact cV_I (cV_I (cV_33 (cV_fs f4 h1 hv)))
  have z0 : yr 0 = 0 := rfl
  have z1 : yr (0 + 1) = 1 := rfl
  have e2000 : yr 2000 = 2000 := rfl
  have e12 : yr 12 = 12 := rfl
  have elen : (M.1 ++ [L]).length = M.1.length + 1 := by rw [List.length_append]; rfl
  refine ⟨S6, ?_, ⟨⟨hb.1.fr f06, (i6 34 (by decide) (by decide)).trans hb.2.1, (i6 29 (by decide) (by decide)).trans hb.2.2.1, (i6 28 (by decide) (by decide)).trans hb.2.2.2.1, (i6 27 (by decide) (by decide)).trans hb.2.2.2.2⟩, ⟨?_, ?_, ?_, ?_, ?_⟩, ⟨c6 _ _ (by omega) v16, c6 _ _ (by omega) v17, c6 _ _ (by omega) v18, c6 _ _ (by omega) v24, c6 _ _ (by omega) v25⟩, fun j hj => ?_, ?_, hP30, ?_, ?_⟩, ?_⟩
  · rw [w318_0, if_pos (by decide), YB_ret, w121_127 (d := d + 3), if_pos yk22r, if_pos yk22, el, a118, YB_retv, w121_183, ← hS6, w121_6 (d := d + 3), z1, e2000, if_pos (by decide), z0, e12, if_neg (by decide), if_neg (by omega)]
  · rw [i6 35 (by decide) (by decide), g35]
  · rw [i6 36 (by decide) (by decide), g36]
  · rw [hS6, gI_self, h38]
    show _ = (((M.1 ++ [L]).length - (p0 + 1 - 1) * (h - 1) : Nat) : Int)
    rw [elen, e01]
    omega
  · rw [i6 32 (by decide) (by decide), g32]
  · rw [hS6, gI_ne _ _ _ (by decide), hS5, gI_self, g33]
    show _ = ((p0 + 1 + (M.1 ++ [L]).length : Nat) : Int)
    rw [elen]
    omega
  · have : gA S6 34 = gA S 34 := by
      rw [hS6, hS5]
      show gA S4 34 = _
      exact f4.1.2.2.2.1 34 rfl
    rw [this]
    exact ho j hj
  · have : gA S6 33 = wPut ((p0 * h + u + 1) * 24) (wLb L) (gA S 33) := by
      rw [hS6, hS5]
      exact gAr_self _ _ _
    rw [this]
    exact pl
  · show (p0 + 1 - 1) * (h - 1) ≤ (M.1 ++ [L]).length
    rw [elen, e01]
    omega
  · show (M.1 ++ [L]).length ≤ (p0 + 1) * (h - 1)
    rw [elen]
    omega
  · rw [hS6, hS5]
    exact wK_tr (wK_fs (by omega) f4) (wK_tr wK_33 (wK_tr (wK_I (by decide)) (wK_I (by decide))))
/-- a page ends, the next one begins -/
theorem turn0 (hh : 5 ≤ h ∧ h ≤ 10) (hr : wR h n np f o P k M S) (hP : 1 ≤ P ∧ P < 30) (hlen : M.1.length = P * (h - 1)) : ∃ S' : yS, Y q (d + 4) 117 0 [vr 131, vu] [] S js = yretv q S' js ∧ wR h n np f o (P + 1) k (M.1, M.2.1, M.2.2.1, 0) S' ∧ wK S S' := by
  obtain ⟨hb, ⟨g35, g36, g38, g32, g33⟩, ⟨v16, v17, v18, v24, v25⟩, ho, hpap, hP30, hl1, hl2⟩ := id hr
  obtain ⟨S', a1, a2, a3⟩ := turn34 (q := q) (d := d) (js := js) hh hb.1 hb.2.1 hb.2.2.1 hb.2.2.2.1 hb.2.2.2.2 g35 g36 g32 g33 v16 v17 v25 ho hpap hP.2 hlen
  refine ⟨S', ?_, a2, a3⟩
  have k8 := k108n (q := q) (d := d + 2) (js := js) hb.1 (b := 2) (by decide) rfl
  have k9 := k109n (q := q) (d := d + 2) (js := js) hb.1 (b := 2) (by decide) rfl
  have k8 : Y q (d + 3) 108 0 [vr 91, vi 2] [] S js = yret q (vi 0) S js := k8
  have k9 : Y q (d + 3) 109 0 [vr 91, vi 2] [] S js = yret q (vi 0) S js := k9
  rw [w117_0 (d := d + 3), hb.2.2.1, yrn (n := P) (by omega), if_pos (by omega), k8, YB_ret, w117_19 (d := d + 3), k9, YB_ret, w117_27 (d := d + 3), pl0, YB_retv, a1]
/-- an item that is a line is done -/
theorem dItem (hh : 5 ≤ h ∧ h ≤ 10) (hr : wR h n np f o P k M S) (hP : 1 ≤ P) (ht0 : P = 1 ∨ (P - 1) * (h - 1) < M.1.length) (h60 : M.1.length ≤ 60) {L : zLn} {i e : Nat} (hi : wIt L = i) (he : i + 1 + (wVs L).length = e) (he18 : e ≤ 18) (h29 : zA29.getD i 0 = (e : Int)) (h3 : zC3.getD i 0 = 22) (h27 : zA27.getD i 0 = 0) (hln : (wVs L).length ≤ 9) (hv : ∀ (P1 : Nat) (S1 : yS), wR h n np f o P1 k (M.1, M.2.1, M.2.2.1, zP (h - 1) M) S1 → wK S S1 → ∀ (j : Nat) (v : yVal), (wVs L)[j]? = some v → wSr S1 (zn28 (i + 1 + j)) v ∧ wWd v (zn27 (i + 1 + j)) ≤ 10) (ht : ∀ j, j < e → i + 1 ≤ j → zn27 j ≤ 60 ∧ (zn3 j = 31 ∨ zn3 j = 32) ∧ 0 ≤ zA27.getD j 0 ∧ 0 ≤ zA28.getD j 0) : ∃ (S' : yS) (P' : Nat), Y q (d + 6) 121 0 [vr 131, vi i, vi e, vi 0, vu, vu, vu, vu, vu, vu, vu] [] S js = yretv q S' js ∧ wR h n np f o P' k (M.1 ++ [L], M.2.1, M.2.2.1, zP (h - 1) M) S' ∧ wK S S' ∧ 1 ≤ P' ∧ (P' = 1 ∨ (P' - 1) * (h - 1) < M.1.length + 1) := by
  obtain ⟨hb, ⟨g35, g36, g38, g32, g33⟩, ⟨v16, v17, v18, v24, v25⟩, ho, hpap, hP30, hl1, hl2⟩ := id hr
  have ei := yrn (n := i) (by omega)
  have ee := yrn (n := e) (by omega)
  have z0 : yr 0 = 0 := rfl
  have e2000 : yr 2000 = 2000 := rfl
  have e12 : yr 12 = 12 := rfl
  have gk : gC S 3 i = 22 := (hb.1.c3 i (by omega)).trans h3
  have g29 : gA S 29 i = (e : Int) := (hb.1.a29 i (by omega)).trans h29
  have g27 : gA S 27 i = 0 := (hb.1.a27 i (by omega)).trans h27
  have hzt := zTurn_P hh hP hl1 hl2 ht0
  have start : Y q (d + 6) 121 0 [vr 131, vi i, vi e, vi 0, vu, vu, vu, vu, vu, vu, vu] [] S js = Y q (d + 6) 121 112 [vr 131, vi i, vi e, vi 0, vi i, vi 0, vi e, vi 0, vr 22, vi 0, vu] [vi (yb1 (decide (yr (gI S 36 - gI S 38) = 0)))] S js := by
    rw [w121_0, w121_6 (d := d + 5), z0, e2000, if_pos (by decide), e12, if_neg (by decide), ei, ee, if_pos (by omega), hb.2.1, if_pos z0, if_pos (by omega), if_pos (by omega), Int.toNat_natCast, gk, if_pos ⟨by omega, by decide⟩, if_pos (by decide), if_neg (by decide), if_pos z0, g27, g29, k124 (d := d + 4) (Or.inl rfl), YB_ret, ywb_22]
  obtain ⟨p0, hp0⟩ : ∃ p0, P = p0 + 1 := ⟨P - 1, by omega⟩
  subst hp0
  have e01 : p0 + 1 - 1 = p0 := by omega
  rw [e01] at hl1 g38 ht0
  have hm : (p0 + 1) * (h - 1) = p0 * (h - 1) + (h - 1) := Nat.succ_mul _ _
  have eu : yr (gI S 36 - gI S 38) = ((h - 1 : Nat) : Int) - ((M.1.length - p0 * (h - 1) : Nat) : Int) := by
    rw [g36, g38]
    exact yr_eq (by omega) (by omega)
  rw [start, eu]
  by_cases z : M.1.length = (p0 + 1) * (h - 1)
  · have hp30 : p0 + 1 < 30 := by
      have hc : h = 5 ∨ h = 6 ∨ h = 7 ∨ h = 8 ∨ h = 9 ∨ h = 10 := by omega
      rcases hc with rfl | rfl | rfl | rfl | rfl | rfl <;> omega
    obtain ⟨S1, a1, r1, k1⟩ := turn0 (q := q) (d := d + 1) (js := js) hh hr ⟨by omega, hp30⟩ z
    have ep : zP (h - 1) M = 0 := by
      unfold zP
      rw [hzt, decide_eq_true z]
      rfl
    have r1' : wR h n np f o (p0 + 1 + 1) k (M.1, M.2.1, M.2.2.1, zP (h - 1) M) S1 := by rw [ep]; exact r1
    obtain ⟨S2, a2, r2, k2⟩ := dPrint (q := q) (d := d + 2) (js := js) hh r1' (by omega) (by
      show M.1.length < (p0 + 1 + 1) * (h - 1)
      rw [Nat.succ_mul, ← z]
      omega) hi he he18 h29 h3 hln (hv _ S1 r1' k1) ht 0 0 vu
    refine ⟨S2, p0 + 1 + 1, ?_, r2, wK_tr k1 k2, by omega, Or.inr (by rw [Nat.add_sub_cancel, ← z]; omega)⟩
    have eb : yb1 (decide (((h - 1 : Nat) : Int) - ((M.1.length - p0 * (h - 1) : Nat) : Int) = 0)) = 1 := by
      rw [decide_eq_true (by omega)]
      rfl
    rw [eb, w121_112 (d := d + 5), if_neg (by decide), a1, YB_retv, w121_119 (d := d + 5), if_pos (by decide)]
    exact a2
  · have ep : zP (h - 1) M = M.2.2.2 := by
      unfold zP
      rw [hzt, decide_eq_false z]
      rfl
    have r1' : wR h n np f o (p0 + 1) k (M.1, M.2.1, M.2.2.1, zP (h - 1) M) S := by rw [ep]; exact hr
    obtain ⟨S2, a2, r2, k2⟩ := dPrint (q := q) (d := d + 2) (js := js) hh r1' (by omega) (by
      show M.1.length < (p0 + 1) * (h - 1)
      omega) hi he he18 h29 h3 hln (hv _ S r1' (wK_rf S)) ht 0 0 vu
    refine ⟨S2, p0 + 1, ?_, r2, k2, by omega, ?_⟩
    · have eb : yb1 (decide (((h - 1 : Nat) : Int) - ((M.1.length - p0 * (h - 1) : Nat) : Int) = 0)) = 0 := by
        rw [decide_eq_false (by omega)]
        rfl
      rw [eb, w121_112 (d := d + 5), if_pos z0, if_pos (by decide)]
      exact a2
    · rw [e01]
      omega
/-- nothing is done of a band that isn't there -/
theorem d0 (g34 : gI S 34 = 0) : Y q (d + 1) 121 0 [vr 131, vi 0, vi 0, vi 0, vu, vu, vu, vu, vu, vu, vu] [] S js = yretv q S js := by
  have z0 : yr 0 = 0 := rfl
  have e2000 : yr 2000 = 2000 := rfl
  have e12 : yr 12 = 12 := rfl
  rw [w121_0, w121_6, z0, e2000, if_pos (by decide), e12, if_neg (by decide), if_neg (by decide)]
end YIML
end YIM
