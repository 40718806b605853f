/-! taken from whole by wip/p27/slice2.py: 70.text2.lean.txt -/
section YTZ
/-- a text more -/
def ytxm (m : yMo) (l : List Int) : yMo := match m with
  | .inl p => .inl p
  | .inr (t, b, .inl e) => .inr (t, b, .inl e)
  | .inr (t, b, .inr (L, X)) => .inr (t, b, .inr (L, X ++ [l]))
theorem ysl_lt (X : List (List Int)) (l : List Int) (k : Nat) (h : k ≤ X.length) : ysl (X ++ [l]) k = ysl X k := by
  unfold ysl
  rw [List.take_append_of_le_length h]
theorem ysl_last (X : List (List Int)) (l : List Int) : ysl (X ++ [l]) (X.length + 1) = ysl X X.length + l.length := by
  unfold ysl
  rw [show X.length + 1 = (X ++ [l]).length by rw [List.length_append]; rfl, List.take_length, List.take_length, List.map_append, List.sum_append]
  rfl
theorem cM_text {T : yTk} {N u n pos pos' : Nat} {w : Int} {S S' : yS} {m : yMo} {B : Nat → Int} {l : List Int} (hu : u = 0 ∨ u = 1) (h : cM T N u w S m) (g1 : ∀ k, k ≠ 2 + u → gI S' k = gI S k) (g2 : gI S' (2 + u) = n + 1) (g0 : gI S (2 + u) = n) (hn : n < 1000) (hp : gA S (4 + u) n = pos) (hp2 : pos ≤ pos' ∧ pos' ≤ 2000) (ga : ∀ k, k ≠ 2 + u → k ≠ 4 + u → gA S' k = gA S k) (gb : gB S' = gB S) (gc : gC S' = gC S) (gk : gK S' = gK S) (gj : gJ S' = gJ S) (g4 : ∀ j, gA S' (4 + u) j = if j = n + 1 then (pos' : Int) else gA S (4 + u) j) (g3 : ∀ j, gA S' (2 + u) j = if pos ≤ j ∧ j < pos' then B j else gA S (2 + u) j) (hl : ∀ t b L X, m = .inr (t, b, .inr (L, X)) → pos' = pos + l.length) (hB : ∀ i y, l[i]? = some y → B (pos + i) = y) : cM T N u w S' (ytxm m l) := by
  obtain ⟨h1, h2, h3, h4, h5⟩ := h
  have kT : cT S' T N := by
    refine ⟨fun j hj => ?_, ?_, ?_⟩
    · rw [gc, ga 22 (by omega) (by omega), gb]
      exact h1.1 j hj
    · rw [g1 13 (by omega)]; exact h1.2.1
    · rw [g1 13 (by omega)]; exact h1.2.2
  have kA : ∀ t b, cA S T N t b → cA S' T N t b := fun t b hA => ⟨kT, hA.2.1, by rw [g1 14 (by omega)]; exact hA.2.2.1, by rw [g1 15 (by omega)]; exact hA.2.2.2.1, hA.2.2.2.2.1, by rw [gk]; exact hA.2.2.2.2.2.1, by rw [g1 16 (by omega)]; exact hA.2.2.2.2.2.2.1, by rw [gj]; exact hA.2.2.2.2.2.2.2⟩
  have kE : ∀ e, cE S e → cE S' e := fun e he => by
    match e, he with
    | none, he => show gI S' 17 = 0 ∧ gI S' 18 = -1; rw [g1 17 (by omega), g1 18 (by omega)]; exact he
    | some (n, p), he => show gI S' 17 = n ∧ gI S' 18 = p ∧ 2 ≤ n ∧ n ≤ 6; rw [g1 17 (by omega), g1 18 (by omega)]; exact he
  have kO : cO S' u := by
    refine ⟨by rw [g1 u (by omega)]; exact h2.1, by rw [g1 u (by omega)]; exact h2.2.1, by rw [g2]; omega, by rw [g2]; omega, fun k hk => ?_⟩
    rw [g2] at hk
    rw [g4]
    by_cases c : k = n + 1
    · rw [if_pos c]
      omega
    · rw [if_neg c]
      exact h2.2.2.2.2 k (by omega)
  refine ⟨kT, kO, by rw [gk]; exact h3, by rw [g1 26 (by omega)]; exact h4, ?_⟩
  match m, h5, hl with
  | .inl p, h5, _ =>
    obtain ⟨d1, d2, d3, d4, d5⟩ := h5
    exact ⟨by rw [gk]; exact d1, by rw [g1 16 (by omega)]; exact d2, by rw [g1 17 (by omega), g1 18 (by omega)]; exact d3, by rw [g1 17 (by omega)]; exact d4, by rw [g1 17 (by omega)]; exact d5⟩
  | .inr (t, b, .inl e), h5, _ => exact ⟨kA t b h5.1, kE _ h5.2⟩
  | .inr (t, b, .inr (L, X)), h5, hl =>
    obtain ⟨a1, a2, a3, a4⟩ := h5
    have hl := hl t b L X rfl
    have hX : X.length = n := by have := a4.1; omega
    have hpos : ysl X X.length = pos := by
      have := a4.2.1 X.length (Nat.le_refl _)
      rw [hX] at this
      rw [hX]
      omega
    refine ⟨kA t b a1, kE _ a2, ⟨by rw [g1 u (by omega)]; exact a3.1, fun j x hj => by rw [ga u (by omega) (by omega), gb]; exact a3.2 j x hj⟩, ⟨?_, fun k hk => ?_, fun k l' i y hk hi => ?_⟩⟩
    · rw [g2, List.length_append, hX]
      rfl
    · rw [g4]
      rw [List.length_append] at hk
      have hk : k ≤ X.length + 1 := hk
      by_cases c : k = n + 1
      · rw [if_pos c, c, ← hX, ysl_last, hpos, hl]
      · rw [if_neg c, ysl_lt X l k (by omega)]
        exact a4.2.1 k (by omega)
    · rw [g3]
      by_cases c : k < X.length
      · rw [List.getElem?_append_left c] at hk
        have hil : i < l'.length := (List.getElem?_eq_some_iff.mp hi).1
        have := ysl_mono X k l' i hk hil
        rw [ysl_lt X l k (by omega), if_neg (by omega)]
        exact a4.2.2 k l' i y hk hi
      · have hk2 := (List.getElem?_eq_some_iff.mp hk).1
        rw [List.length_append] at hk2
        have hk2 : k < X.length + 1 := hk2
        have ek : k = X.length := by omega
        subst ek
        rw [List.getElem?_append_right (Nat.le_refl _), Nat.sub_self] at hk
        cases hk
        have hil : i < l.length := (List.getElem?_eq_some_iff.mp hi).1
        rw [ysl_lt X l _ (Nat.le_refl _), hpos, if_pos (by omega)]
        exact hB i y hi
end YTZ
