/-! taken from whole by wip/p27/slice2.py: 9o.far.lean.txt -/
section YTF
theorem yKf_e {w : Int64} {k : Nat} (h : yKf w = k) (hk : k ≠ 62) : w = yKw k := by
  unfold yKf at h
  rcases yfind_none (f := yKw) (w := w) (n := 67) (i := 0) with h1 | ⟨j, _, _, h3, h4⟩
  · rw [if_pos h1] at h
    exact absurd h.symm hk
  · rw [h3, if_neg (by omega), Int.toNat_natCast] at h
    rw [← h, h4]
theorem yKw_34 : (yKw 34).toInt = 28530 ∧ (yKw 35).toInt = 6385252 := by decide
theorem yKf_small {w : Int64} (h : w.toInt ≤ 255) : yKf w ≠ 34 ∧ yKf w ≠ 35 := by
  refine ⟨fun e => ?_, fun e => ?_⟩
  · have := yKf_e e (by decide)
    rw [this, yKw_34.1] at h
    omega
  · have := yKf_e e (by decide)
    rw [this, yKw_34.2] at h
    omega
/-- a token and the one behind it -/
def yFar (b : Nat → Int) (x : Nat × Nat × Int64) (p : Nat) : Prop := x.2.1 + 1 ≤ p ∧ (x.1 = 34 ∨ x.1 = 35 → x.2.1 + 2 ≤ p) ∧ (x.1 = 64 → ∃ m : Nat, x.2.2 = yi2l (m : Int) ∧ m ≤ 20 ∧ x.2.1 + 2 + m ≤ p ∧ ∀ i, i < m → 32 ≤ b (x.2.1 + 1 + i) ∧ b (x.2.1 + 1 + i) ≤ 126)
theorem yFar_mo {b : Nat → Int} {x : Nat × Nat × Int64} {p p' : Nat} (h : yFar b x p) (hp : p ≤ p') : yFar b x p' := by
  obtain ⟨h1, h2, h3⟩ := h
  refine ⟨by omega, fun e => by have := h2 e; omega, fun e => ?_⟩
  obtain ⟨m, m1, m2, m3, m4⟩ := h3 e
  exact ⟨m, m1, m2, by omega, m4⟩
theorem yKf_not64 (w : Int64) : yKf w ≠ 64 := by
  have := yKf_le w
  omega
theorem ytk1_far {b : Nat → Int} {n k : Nat} (h : k < n) (hb : ∀ i, i < n → 0 ≤ b i ∧ b i ≤ 255) (hk : (ytk1 b n k).1 ≤ 64) : yFar b ((ytk1 b n k).1, k, (ytk1 b n k).2.1) (ytk1 b n k).2.2 ∧ (ytk1 b n k).2.2 ≤ n := by
  have hn := (ytk1_next (b := b) (n := n) (k := k) h).1
  unfold ytk1 at hk hn ⊢
  by_cases z1 : yL (b k)
  · rw [if_pos z1] at hk hn ⊢
    by_cases z : 8 < yre pLD b (n - k) k - k
    · rw [if_pos z] at hk
      exact absurd hk (by show ¬ 66 ≤ 64; omega)
    · rw [if_neg z] at hn ⊢
      have r1 := yre_rng (p := pLD) (b := b) (m := n - k) (k := k)
      have hn : k < yre pLD b (n - k) k := hn
      have hw : yre pLD b (n - k) k = k + 1 → yKf (ywd b k (yre pLD b (n - k) k - k) 0) ≠ 34 ∧ yKf (ywd b k (yre pLD b (n - k) k - k) 0) ≠ 35 := by
        intro e
        rw [e, show k + 1 - k = 0 + 1 by omega]
        have := (ywd_one (b := b) (n := 0) (i := k) (by omega) (fun j hj hj2 => by
          have e : j = k := by omega
          subst e
          omega)).2
        exact yKf_small (by omega)
      refine ⟨⟨by show k + 1 ≤ yre pLD b (n - k) k; omega, fun e => ?_, fun e => absurd e (yKf_not64 _)⟩, by show yre pLD b (n - k) k ≤ n; omega⟩
      show k + 2 ≤ yre pLD b (n - k) k
      by_cases z2 : yre pLD b (n - k) k = k + 1
      · rcases e with e | e
        · exact absurd e (hw z2).1
        · exact absurd e (hw z2).2
      · omega
  · rw [if_neg z1] at hk hn ⊢
    by_cases z2 : 48 ≤ b k ∧ b k ≤ 57
    · rw [if_pos z2] at hk hn ⊢
      by_cases z : 9 < yre pD b (n - k) k - k
      · rw [if_pos z] at hk
        exact absurd hk (by show ¬ 66 ≤ 64; omega)
      · rw [if_neg z] at hn ⊢
        have r2 := yre_rng (p := pD) (b := b) (m := n - k) (k := k)
        have hn : k < yre pD b (n - k) k := hn
        exact ⟨⟨by show k + 1 ≤ yre pD b (n - k) k; omega, fun e => by rcases e with e | e <;> exact absurd e (by show ¬ 63 = _; omega), fun e => absurd e (by show ¬ 63 = 64; omega)⟩, by show yre pD b (n - k) k ≤ n; omega⟩
    · rw [if_neg z2] at hk hn ⊢
      by_cases z3 : b k = 34
      · rw [if_pos z3] at hk hn ⊢
        have r3 := yre_rng (p := pQ) (b := b) (m := n - (k + 1)) (k := k + 1)
        by_cases z : (yre pQ b (n - (k + 1)) (k + 1) < n ∧ b (yre pQ b (n - (k + 1)) (k + 1)) = 34) ∧ yre pQ b (n - (k + 1)) (k + 1) - k - 1 ≤ 20
        · rw [if_pos z]
          have hall := yre_all (p := pQ) (b := b) (m := n - (k + 1)) (k := k + 1)
          obtain ⟨E, hE⟩ : ∃ E, E = yre pQ b (n - (k + 1)) (k + 1) := ⟨_, rfl⟩
          rw [← hE] at r3 z hall ⊢
          have zl := z.1.1
          have zm := z.2
          refine ⟨⟨by show k + 1 ≤ E + 1; omega, fun e => by rcases e with e | e <;> exact absurd e (by show ¬ 64 = _; omega), fun _ => ⟨E - k - 1, ?_, by omega, by show k + 2 + (E - k - 1) ≤ E + 1; omega, fun i hi => ?_⟩⟩, by show E + 1 ≤ n; omega⟩
          · show yi2l ((E : Int) - k - 1) = yi2l ((E - k - 1 : Nat) : Int)
            congr 1
            omega
          · have hp := hall (k + 1 + i) (by omega) (by omega)
            have hp := of_decide_eq_true hp
            show 32 ≤ b (k + 1 + i) ∧ b (k + 1 + i) ≤ 126
            exact ⟨hp.1, hp.2.1⟩
        · rw [if_neg z] at hk
          exact absurd hk (by show ¬ 66 ≤ 64; omega)
      · rw [if_neg z3] at hk hn ⊢
        have hbk := hb k h
        by_cases z : (b k = 60 ∨ b k = 62) ∧ yKf ((ylshl (yi2l (b k)) 8) ||| yi2l (if k + 1 < n then b (k + 1) else 0)) ≠ 62
        · rw [if_pos z]
          obtain ⟨x, hx, hx2⟩ : ∃ x : Nat, x < 256 ∧ (if k + 1 < n then b (k + 1) else 0) = (x : Int) := by
            by_cases y : k + 1 < n
            · have := hb (k + 1) y
              exact ⟨(b (k + 1)).toNat, by omega, by rw [if_pos y]; omega⟩
            · exact ⟨0, by omega, by rw [if_neg y]; rfl⟩
          obtain ⟨s1, s2⟩ := ySp x hx
          have hz := z.2
          rw [hx2] at hz ⊢
          have hkn : k + 1 < n ∧ yKf ((ylshl (yi2l (b k)) 8) ||| yi2l (x : Int)) ≠ 34 ∧ yKf ((ylshl (yi2l (b k)) 8) ||| yi2l (x : Int)) ≠ 35 := by
            have hx0 : x ≠ 0 → k + 1 < n := fun hne => by
              by_cases y : k + 1 < n
              · exact y
              · rw [if_neg y] at hx2
                omega
            rcases z.1 with e | e
            · rw [e] at hz ⊢
              rw [s1] at hz ⊢
              by_cases y1 : x = 61
              · rw [if_pos y1]
                exact ⟨hx0 (by omega), by decide, by decide⟩
              · rw [if_neg y1] at hz ⊢
                by_cases y2 : x = 62
                · rw [if_pos y2]
                  exact ⟨hx0 (by omega), by decide, by decide⟩
                · rw [if_neg y2] at hz
                  exact absurd rfl hz
            · rw [e] at hz ⊢
              rw [s2] at hz ⊢
              by_cases y1 : x = 61
              · rw [if_pos y1]
                exact ⟨hx0 (by omega), by decide, by decide⟩
              · rw [if_neg y1] at hz
                exact absurd rfl hz
          exact ⟨⟨by show k + 1 ≤ k + 2; omega, fun _ => by show k + 2 ≤ k + 2; omega, fun e => absurd e (yKf_not64 _)⟩, by show k + 2 ≤ n; omega⟩
        · rw [if_neg z] at hk hn ⊢
          by_cases y : yKf (yi2l (b k)) = 62
          · rw [if_pos y] at hk
            exact absurd hk (by show ¬ 66 ≤ 64; omega)
          · rw [if_neg y]
            have hs := yKf_small (w := yi2l (b k)) (by rw [yi2l_toInt, yr_eq (by omega) (by omega)]; omega)
            exact ⟨⟨by show k + 1 ≤ k + 1; omega, fun e => by
              rcases e with e | e
              · exact absurd e hs.1
              · exact absurd e hs.2, fun e => absurd e (yKf_not64 _)⟩, by show k + 1 ≤ n; omega⟩
theorem ytoks_hd {b : Nat → Int} {n : Nat} : ∀ (f k : Nat) (x : Nat × Nat × Int64), k ≤ n → (ytoks b n f k)[0]? = some x → k ≤ x.2.1
  | 0, k, x, _, h => nomatch h
  | f + 1, k, x, hk, h => by
    unfold ytoks at h
    by_cases z : n ≤ k
    · rw [if_pos z] at h
      have e : (65, n, (0 : Int64)) = x := Option.some.inj h
      rw [← e]
      exact hk
    · rw [if_neg z] at h
      by_cases y : b k = 32 ∨ b k = 10
      · rw [if_pos y] at h
        have := ytoks_hd f (k + 1) x (by omega) h
        omega
      · rw [if_neg y] at h
        have e : ((ytk1 b n k).1, k, (ytk1 b n k).2.1) = x := Option.some.inj h
        rw [← e]
        exact Nat.le_refl k
theorem ytoks_far {b : Nat → Int} {n : Nat} (hb : ∀ i, i < n → 0 ≤ b i ∧ b i ≤ 255) : ∀ (f k j : Nat) (x y : Nat × Nat × Int64), (ytoks b n f k)[j]? = some x → (ytoks b n f k)[j + 1]? = some y → x.1 ≤ 64 → yFar b x y.2.1
  | 0, k, j, x, y, h, _, _ => nomatch h
  | f + 1, k, j, x, y, h, h2, hx => by
    unfold ytoks at h h2
    by_cases z : n ≤ k
    · rw [if_pos z] at h2
      nomatch h2
    · rw [if_neg z] at h h2
      by_cases yb : b k = 32 ∨ b k = 10
      · rw [if_pos yb] at h h2
        exact ytoks_far hb f (k + 1) j x y h h2 hx
      · rw [if_neg yb] at h h2
        by_cases yu : (ytk1 b n k).1 = 66
        · rw [if_pos yu] at h2
          nomatch h2
        · rw [if_neg yu] at h h2
          match j with
          | 0 =>
            have e : ((ytk1 b n k).1, k, (ytk1 b n k).2.1) = x := Option.some.inj h
            have h2 : (ytoks b n f (ytk1 b n k).2.2)[0]? = some y := h2
            have hx : x.1 ≤ 64 := hx
            have h1 : (ytk1 b n k).1 = x.1 := by rw [← e]
            obtain ⟨p1, p2⟩ := ytk1_far (b := b) (n := n) (k := k) (by omega) hb (by omega)
            rw [e] at p1
            exact yFar_mo p1 (ytoks_hd f _ y p2 h2)
          | j + 1 => exact ytoks_far hb f _ j x y h h2 hx
end YTF
