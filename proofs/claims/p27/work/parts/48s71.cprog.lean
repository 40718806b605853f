/-! taken from whole by wip/p27/slice2.py: 9zyb.cprog.lean.txt -/
section YCW
def yV0 : yPV := ((0, 40, 20), [], [], [], [], ([], []), [], [], fun _ => none)
/-- the context of a state: its tape's tokens, its columns -/
def sG0 (S : yS) : yGx := (yTf (ytq (tb S) (gI S 12).toNat), (ytq (tb S) (gI S 12).toNat).length, ytxb S, (fun v => yfind (gB S 6) v (gI S 10).toNat 0), (gI S 10).toNat, (fun k => if k < (gI S 10).toNat then gA S 20 k else 0), yRm0 (tb S) (gI S 12).toNat, yRx (tb S) (gI S 12).toNat)
def sIn (S : yS) : Prop := (0 ≤ gI S 12 ∧ gI S 12 ≤ 2000) ∧ (0 ≤ gI S 10 ∧ gI S 10 ≤ 8) ∧ (∀ i, i < (gI S 10).toNat → gA S 20 i = 0 ∨ gA S 20 i = 1) ∧ gA S 4 0 = 0
/-- declarations, bands, the end -/
def sprc (G : yGx) (σ : yPS) : yPS := send G (sbds G 2000 (slp G sisD (sdec G) 2000 σ))
/-- how the class stands when it has read a program -/
def cFin (G : yGx) (S : yS) (σ : yPS) : Prop := match σ with
  | .inl p => ∃ S0, S = yemp S0 ∧ gI S0 17 = 1 ∧ gI S0 18 = p
  | .inr (_, .inl (n, p)) => ∃ S0, S = yemp S0 ∧ gI S0 17 = n ∧ gI S0 18 = p ∧ 2 ≤ n ∧ n ≤ 6
  | .inr (t, .inr V) => ∃ a, gI S 19 = 1 ∧ gI S 17 = 0 ∧ gI S 18 = -1 ∧ cRg S ∧ cVl S V ∧ sOk G a t V ∧ cK S 0 (qzC V) ∧ cX S 0 (yTexts (gX G) (qzX V))
def yWF (s k : Nat) : Bool := yWD s k || yWt s k || (s == 0 && k == 19)
section YCWL
variable {q : yQ} {d : Nat} {js : List xO} {G : yGx} {σ σ' : yPS} {m : yMo} {S S' : yS} {a a' w : Int} {dp : Nat}
theorem yWF_D (h : yFr yWD S S') : yFr yWF S S' := yFr_mo h fun s k e => by
  unfold yWF at e
  simp only [Bool.or_eq_false_iff] at e
  exact e.1.1
theorem yWF_t (h : yFr (fun s k => yWt s k || (s == 0 && (k == 17 || k == 18))) S S') : yFr yWF S S' := yFr_mo h fun s k e => by
  unfold yWF at e
  simp only [Bool.or_eq_false_iff] at e
  have e2 : yWk s k = false := by
    have := e.1.1
    unfold yWD yWy yWx at this
    simp only [Bool.or_eq_false_iff] at this
    exact this.1.1.1.1.1.1
  unfold yWk at e2
  simp only [Bool.or_eq_false_iff] at e2 ⊢
  refine ⟨e.1.2, ?_⟩
  have h2 := e2.1.1
  cases hs : (s == 0)
  · rfl
  · rw [hs] at h2
    simp only [Bool.true_and, Bool.or_eq_false_iff] at h2 ⊢
    exact ⟨h2.1.2, h2.2⟩
theorem yFr_Ar {W : Nat → Nat → Bool} {S : yS} {k : Nat} {f : Nat → Int} (h : W 3 k = true) : yFr W S (sAr S k f) := ⟨fun _ _ => rfl, fun _ _ => rfl, fun _ _ => rfl, fun j hj => by
  have z : j ≠ k := fun e => by rw [e, h] at hj; cases hj
  show yup S.2.2.2.1 k f j = _
  exact yup_ne _ _ z, fun _ _ => rfl, fun _ _ => rfl⟩
theorem yFr_emp : yFr yWF S (yemp S) := yFr_tr (yFr_I rfl) (yFr_tr (yFr_I rfl) (yFr_tr (yFr_I rfl) (yFr_tr (yFr_I rfl) (yFr_tr (yFr_I rfl) (yFr_tr (yFr_I rfl) (yFr_tr (yFr_I rfl) (yFr_tr (yFr_I rfl) (yFr_tr (yFr_I rfl) (yFr_tr (yFr_I rfl) (yFr_tr (yFr_I rfl) (yFr_Ar rfl)))))))))))
theorem yFr_fin : yFr yWF S (yfin S) := yFr_tr (yFr_I rfl) (yFr_tr (yFr_I rfl) (yFr_tr (yFr_K rfl) (yFr_tr (yFr_I rfl) (yFr_J rfl))))
theorem sIn_len (q : yQ) (h : sIn S) : (ytq (tb S) (gI S 12).toNat).length ≤ 2001 := by
  obtain ⟨S3, _, _, _, _, _, b6, b7⟩ := c142 (q := q) (d := 0) (js := []) (S := S) (n := (gI S 12).toNat) (by have := h.1; omega) (by have := h.1; omega)
  have b6 : ((ytq (tb S) (gI S 12).toNat).length : Int) ≤ gI S3 13 := b6
  omega
theorem gOk_0 (h : sIn S) (hl : (ytq (tb S) (gI S 12).toNat).length ≤ 2001) : gOk (sG0 S) := by
  obtain ⟨h12, h10, h20, _⟩ := h
  have hn : (gI S 12).toNat ≤ 2000 := by omega
  have hb : ∀ i, i < (gI S 12).toNat → 0 ≤ tb S i ∧ tb S i ≤ 255 := fun i _ => tb_rng S i
  obtain ⟨hT, hpl⟩ := ytq_to (b := tb S) hn hl
  refine ⟨hT, (ytq_room hn hl hb).1, fun t ht => ?_, fun t ht hk => ?_, fun _ _ _ => rfl, ⟨by show (gI S 10).toNat ≤ 8; omega, fun v => ?_⟩, fun k hk => ?_⟩
  · have := hpl t ht
    show (yTf (ytq (tb S) (gI S 12).toNat) t).2.1 ≤ 2000
    omega
  · obtain ⟨m, m1, m2, _⟩ := ytq_txt hn hl hb ht hk
    have e : (gT (sG0 S) t).2.2 = yi2l (m : Int) := m1
    rw [e, (ytq_64 m2).2, Int.toNat_natCast]
    refine ⟨by omega, by omega, ?_⟩
    show (ytxb S _ m).length ≤ m
    rw [ytxb_len]
    exact Nat.le_refl _
  · show -1 ≤ yfind (gB S 6) v (gI S 10).toNat 0 ∧ yfind (gB S 6) v (gI S 10).toNat 0 < (((gI S 10).toNat : Nat) : Int)
    rcases yfind_c (f := gB S 6) (v := v) (show (gI S 10).toNat ≤ 8 by omega) with h | ⟨k, h1, h2⟩ <;> omega
  · have hk : k < (gI S 10).toNat := hk
    show (if k < (gI S 10).toNat then gA S 20 k else 0) = 0 ∨ (if k < (gI S 10).toNat then gA S 20 k else 0) = 1
    rw [if_pos hk]
    exact h20 k hk
/-- before the first token is looked at, after it was read -/
theorem k26i (h : sIn S) : ∃ S1 : yS, Y q (d + 5) 26 0 [vr 123, vu, vu, vu] [] S js = Y q (d + 5) 26 16 [vr 123, vi 0, vu, vu] [] S1 js ∧ yFr yWF S S1 ∧ cP (sG0 S) 0 S1 (.inr (0, .inr yV0)) := by
  have hl := sIn_len q h
  have hG := gOk_0 h hl
  obtain ⟨h12, h10, h20, h4⟩ := h
  obtain ⟨S2, hS2⟩ : ∃ S2, S2 = yemp S := ⟨_, rfl⟩
  have f02 : yFr yWF S S2 := by rw [hS2]; exact yFr_emp
  have t2 : tb S2 = tb S := by
    funext i
    unfold tb
    rw [f02.2.2.2.1 21 rfl]
  have g12 : gI S2 12 = ((gI S 12).toNat : Int) := by
    rw [f02.1 12 rfl]
    omega
  obtain ⟨S3, b1, b2, b3, b4, b5, b6, b7⟩ := c142 (q := q) (d := d) (js := js) (S := S2) g12 (by omega)
  rw [t2] at b5 b6
  have b5 : yHold S3 0 (ytq (tb S) (gI S 12).toNat) := b5
  have b6 : ((ytq (tb S) (gI S 12).toNat).length : Int) ≤ gI S3 13 := b6
  obtain ⟨S4, hS4⟩ : ∃ S4, S4 = yfin S3 := ⟨_, rfl⟩
  have f24 : yFr yWF S2 S4 := by
    rw [hS4]
    exact yFr_tr (yWF_t b2) yFr_fin
  have f04 := yFr_tr f02 f24
  have tok : ∀ j, j < gN (sG0 S) → gC S3 2 j = (gT (sG0 S) j).1 ∧ gA S3 22 j = (gT (sG0 S) j).2.1 ∧ gB S3 8 j = (gT (sG0 S) j).2.2 := fun j hj => by
    have := b5 j _ (yTf_some hj)
    rw [Nat.zero_add] at this
    exact this
  have hN : 0 < gN (sG0 S) := hG.1.1
  have i0 : ∀ k x, gI S2 k = x → k ≠ 13 → k ≠ 14 → k ≠ 15 → k ≠ 16 → k ≠ 17 → k ≠ 18 → gI S4 k = x := fun k x e n13 n14 n15 n16 n17 n18 => by
    rw [hS4]
    show gI (sI (sI (sI S3 15 1000000) 14 0) 16 (gA S3 22 0)) k = x
    rw [gI_ne _ _ _ n16, gI_ne _ _ _ n14, gI_ne _ _ _ n15, ← e]
    refine b2.1 k ?_
    have : ¬ k = 13 := n13
    simp [yWt, n13, n17, n18]
  have a4 : gA S4 4 0 = 0 := by
    have : gA S4 4 = gA S 4 := by
      rw [hS4]
      show gA S3 4 = _
      rw [b2.2.2.2.1 4 rfl, hS2]
      rfl
    rw [this]
    exact h4
  have a26 : ∀ j, j < 11 → gA S4 26 j = -1 := fun j hj => by
    have : gA S4 26 = gA S2 26 := by
      rw [hS4]
      show gA S3 26 = _
      rw [b2.2.2.2.1 26 rfl]
    rw [this, hS2]
    show (if j < 11 then (-1 : Int) else _) = -1
    rw [if_pos hj]
  have g0 : gI S4 0 = 0 := i0 0 0 (by rw [hS2]; rfl) (by decide) (by decide) (by decide) (by decide) (by decide) (by decide)
  have g2 : gI S4 2 = 0 := i0 2 0 (by rw [hS2]; rfl) (by decide) (by decide) (by decide) (by decide) (by decide) (by decide)
  have g8 : gI S4 8 = 0 := i0 8 0 (by rw [hS2]; rfl) (by decide) (by decide) (by decide) (by decide) (by decide) (by decide)
  have g9 : gI S4 9 = 0 := i0 9 0 (by rw [hS2]; rfl) (by decide) (by decide) (by decide) (by decide) (by decide) (by decide)
  have g20 : gI S4 20 = 0 := i0 20 0 (by rw [hS2]; rfl) (by decide) (by decide) (by decide) (by decide) (by decide) (by decide)
  have g21 : gI S4 21 = 40 := i0 21 40 (by rw [hS2]; rfl) (by decide) (by decide) (by decide) (by decide) (by decide) (by decide)
  have g22 : gI S4 22 = 20 := i0 22 20 (by rw [hS2]; rfl) (by decide) (by decide) (by decide) (by decide) (by decide) (by decide)
  have g23 : gI S4 23 = 0 := i0 23 0 (by rw [hS2]; rfl) (by decide) (by decide) (by decide) (by decide) (by decide) (by decide)
  have g24 : gI S4 24 = 0 := i0 24 0 (by rw [hS2]; rfl) (by decide) (by decide) (by decide) (by decide) (by decide) (by decide)
  have g25 : gI S4 25 = 0 := i0 25 0 (by rw [hS2]; rfl) (by decide) (by decide) (by decide) (by decide) (by decide) (by decide)
  have kT : cT S4 (gT (sG0 S)) (gN (sG0 S)) := by
    rw [hS4]
    exact ⟨tok, b6, b7⟩
  have kO : cO S4 0 := by
    refine ⟨by rw [g0]; omega, by rw [g0]; decide, by show 0 ≤ gI S4 2; omega, by show gI S4 2 ≤ 1000; omega, fun k hk => ?_⟩
    have hk : (k : Int) ≤ gI S4 2 := hk
    have hk0 : k = 0 := by omega
    subst hk0
    show 0 ≤ gA S4 4 0 ∧ gA S4 4 0 ≤ 2000 ∧ (0 = 0 → gA S4 4 0 = 0)
    rw [a4]
    omega
  have kA : cA S4 (gT (sG0 S)) (gN (sG0 S)) 0 1000000 := by
    refine ⟨kT, hN, ?_, ?_, by omega, ?_, ?_, ?_⟩
    · rw [hS4]
      rfl
    · rw [hS4]
      rfl
    · rw [hS4]
      exact (tok 0 hN).1
    · rw [hS4]
      exact (tok 0 hN).2.1
    · rw [hS4]
      exact (tok 0 hN).2.2
  have kE : cE S4 none := by
    rw [hS4]
    exact ⟨b3, b4⟩
  have kN : cNd (gT (sG0 S)) (gN (sG0 S)) 0 S4 (.inr (0, 1000000, .inr ([], []))) := by
    refine ⟨kT, kO, kA, kE, ⟨g0, fun j x hj => nomatch hj⟩, ⟨g2, fun k hk => ?_, fun k l i y hk => nomatch hk⟩⟩
    have hk0 : k = 0 := Nat.le_zero.mp hk
    subst hk0
    exact a4
  refine ⟨S4, ?_, f04, ⟨_, ⟨1000000, by omega, hN, rfl⟩, kN⟩, ?_, ?_, fun t V e => ?_⟩
  · have b1 : Y q (d + 4) 142 0 [vr 86, vu, vu, vu] [] S2 js = yretv q S4 js := by rw [hS4]; exact b1
    rw [w26_0, c98, YB_retv, w26_7, ← hS2, b1, YB_retv, w26_14]
  · refine ⟨Or.inl g20, by omega, by omega, by omega, ⟨by omega, by omega, fun i hi => by omega⟩, by omega, by omega, by omega, fun j hj => ?_, fun j hj => by omega⟩
    rw [a26 j hj]
    omega
  · refine ⟨?_, by rw [f04.2.2.2.2.1 6 rfl]; rfl, by rw [f04.2.2.2.1 20 rfl]; rfl, ?_, ?_⟩
    · rw [f04.1 10 rfl]
      show _ = (((gI S 10).toNat : Nat) : Int)
      omega
    · funext p n
      show ytxb S4 p n = ytxb S p n
      unfold ytxb tbl tb
      rw [f04.2.2.2.1 21 rfl, f04.1 12 rfl]
    · rw [f04.1 12 rfl]
      exact h12
  · injection e with e
    injection e with e1 e2
    injection e2 with e2
    subst e1 e2
    refine ⟨⟨⟨g20, g21, g22⟩, ⟨g23, fun j x hj => nomatch hj⟩, ⟨g24, fun j x hj => nomatch hj⟩, ⟨g8, fun j x hj => nomatch hj⟩, ⟨g9, fun j x hj => nomatch hj⟩, ⟨g25, fun j x hj => nomatch hj⟩, fun j hj => a26 j hj⟩, ⟨?_, Nat.zero_le _⟩, by show ((0 : Nat) : Int) ≤ _; omega, ⟨by decide, by decide, by decide⟩, ⟨by decide, by decide, by decide, by decide⟩, fun j i c y => (nomatch y), fun c y => (nomatch y), fun x y => (nomatch y), fun x y => (nomatch y)⟩
    show 0 + 2 * ((gI S 12).toNat - _) ≤ 4000
    omega
theorem k26 (h : sIn S) : ∃ S' : yS, Y q (d + 206) 26 0 [vr 123, vu, vu, vu] [] S js = yretv q S' js ∧ yFr yWF S S' ∧ gA S' 4 0 = 0 ∧ cFin (sG0 S) S' (sfin (gI S 12).toNat (sprc (sG0 S) (.inr (0, .inr yV0)))) := by
  have hG := gOk_0 h (sIn_len q h)
  obtain ⟨S1, e1, f1, g1⟩ := k26i (q := q) (d := d + 201) (js := js) h
  obtain ⟨S2, e2, f2, g2⟩ := k26d (q := q) (d := d + 200) (js := js) hG (by omega) 2000 0 _ S1 (by omega) g1
  obtain ⟨S3, y0, y1, y2, e3, f3, g3, n3⟩ := k26b (q := q) (d := d) (js := js) hG 2000 0 _ S2 vu vu (by omega) g2
  have f03 := yFr_tr f1 (yFr_tr (yWF_D f2) (yWF_D f3))
  have e1 : Y q (d + 206) 26 0 [vr 123, vu, vu, vu] [] S js = Y q (d + 206) 26 16 [vr 123, vi 0, vu, vu] [] S1 js := e1
  have e2 : Y q (d + 206) 26 16 [vr 123, vi 0, vu, vu] [] S1 js = Y q (d + 206) 26 50 [vr 123, vi 0, vu, vu] [] S2 js := e2
  have e3 : Y q (d + 206) 26 50 [vr 123, vi 0, vu, vu] [] S2 js = _ := e3
  have g3 : cP (sG0 S) 0 S3 (sprc (sG0 S) (.inr (0, .inr yV0))) := g3
  have n3 : ∀ p, sprc (sG0 S) (.inr (0, .inr yV0)) = .inl p → gI S3 17 = 1 := n3
  revert g3 n3
  generalize sprc (sG0 S) (.inr (0, .inr yV0)) = σ0
  intro g3 n3
  obtain ⟨x3, e4, v3⟩ := k107 (q := q) (d := d + 202) (js := js) (b := 1) g3 (by omega)
  obtain ⟨x4, e5, v4⟩ := k107 (q := q) (d := d + 202) (js := js) (b := 2) g3 (by omega)
  have e4 : Y q (d + 205) 107 0 [vr 91, vi 1, vu, vu, vu, vu] [] S3 js = _ := e4
  have e5 : Y q (d + 205) 107 0 [vr 91, vi 2, vu, vu, vu, vu] [] S3 js = _ := e5
  obtain ⟨⟨m, m1, m2⟩, c1, c2, c3⟩ := id g3
  have a4 : gA S3 4 0 = 0 := (m2.2.1.2.2.2.2 0 (by have := m2.2.1.2.2.1; show ((0 : Nat) : Int) ≤ gI S3 2; exact this)).2.2 rfl
  have i12 : gI S3 12 = ((gI S 12).toNat : Int) := by
    rw [f03.1 12 rfl]
    have := h.1
    omega
  have z0 : yr 0 = 0 := rfl
  have z6 : ¬ yr 6 = 0 := by decide
  rw [e1, e2, e3, e4, YB_ret, w26_158, e5, YB_ret, w26_166]
  -- with an error already
  have bad : ¬ gI S3 17 = 0 → 0 ≤ gI S3 17 → gI S3 17 ≤ 6 → (if yr (x3 + x4) < yr (gI S3 22) then if yr (gI S3 17) = 0 then yretv q (sI S3 19 1) js else YB q (Y q (d + 205) 98 0 [vr 91, vu] [] S3 js) (d + 205 + 1) 26 218 [vr 123, vi y0, y1, y2] [] else YB q (Y q (d + 205) 153 0 [vr 86, vi 6, vi (gI S3 12)] [] S3 js) (d + 205 + 1) 26 190 [vr 123, vi y0, y1, y2] []) = yretv q (yemp S3) js := by
    intro n1 n2 n3
    have e17 : yr (gI S3 17) = gI S3 17 := yr_eq (by omega) (by omega)
    by_cases z : yr (x3 + x4) < yr (gI S3 22)
    · rw [if_pos z, e17, if_neg n1, c98, YB_retv, w26_221]
    · rw [if_neg z, w153_0, e17, if_neg n1, YB_retv, w26_193, e17, if_neg n1, c98, YB_retv, w26_221]
  rcases σ0 with p | ⟨t, ⟨n, p⟩ | V⟩
  · have hm : m = .inl p := m1
    subst hm
    have hD : cD S3 p := m2.2.2
    have h17 := n3 p rfl
    exact ⟨yemp S3, bad (by omega) (by omega) (by omega), yFr_tr f03 yFr_emp, a4, S3, rfl, h17, hD.2.2.1 h17⟩
  · obtain ⟨b, _, _, hm⟩ := m1
    subst hm
    have hE : cE S3 (some (n, p)) := m2.2.2.2
    obtain ⟨h17, h18, n2, n6⟩ := hE
    exact ⟨yemp S3, bad (by omega) (by omega) (by omega), yFr_tr f03 yFr_emp, a4, S3, rfl, h17, h18, n2, n6⟩
  · obtain ⟨b, _, _, hm⟩ := m1
    subst hm
    obtain ⟨hA, hE, hK, hX⟩ := m2.2.2
    obtain ⟨h17, h18⟩ : gI S3 17 = 0 ∧ gI S3 18 = -1 := hE
    obtain ⟨hv, ho⟩ := c3 t V rfl
    have r3 := v3 t V rfl
    have r4 := v4 t V rfl
    have h22 : gI S3 22 = ((qzPg V).2.2 : Int) := hv.1.2.2
    have es : sfin (gI S 12).toNat (.inr (t, .inr V)) = .inr (t, if decide (yr (sht V 2 + sht V 1) < yr ((qzPg V).2.2 : Int)) = true then .inr V else .inl (6, (gI S 12).toNat)) := rfl
    rw [es, r3, r4, h22, h17, z0, i12, Int.add_comm (sht V 1)]
    by_cases z : yr (sht V 2 + sht V 1) < yr ((qzPg V).2.2 : Int)
    · rw [if_pos z, if_pos rfl, if_pos (decide_eq_true z)]
      refine ⟨_, rfl, yFr_tr f03 (yFr_I rfl), a4, 0, gI_self _ _ _, h17, h18, c1, hv, ho, hK, hX⟩
    · rw [if_neg z, if_neg (fun y => z (of_decide_eq_true y)), w153_0, h17, if_pos z0, YB_retv, w26_193]
      have e17 : gI (sI (sI S3 17 6) 18 ((gI S 12).toNat : Int)) 17 = 6 := rfl
      rw [e17, if_neg z6, c98, YB_retv, w26_221]
      exact ⟨_, rfl, yFr_tr f03 (yFr_tr (yFr_I rfl) (yFr_tr (yFr_I rfl) yFr_emp)), a4, _, rfl, rfl, rfl, by decide, by decide⟩
end YCWL
end YCW
