/-! taken from whole by wip/p27/slice2.py: 59.mode.lean.txt -/
section YMO
abbrev yCo : Type := List (Nat × Int64)
abbrev yK9 : Type := (Nat × Nat) ⊕ (yCo × List (List Int))
abbrev yMo : Type := Nat ⊕ (Nat × Nat × yK9)
/-- a unit's code; its texts -/
def cK (S : yS) (u : Nat) (L : yCo) : Prop := gI S u = L.length ∧ ∀ (j : Nat) (x : Nat × Int64), L[j]? = some x → gA S u j = x.1 ∧ gB S u j = x.2
/-- rows and counters in their ranges, whatever was compiled -/
def cO (S : yS) (u : Nat) : Prop := 0 ≤ gI S u ∧ gI S u ≤ capu u ∧ 0 ≤ gI S (2 + u) ∧ gI S (2 + u) ≤ 1000 ∧ ∀ k : Nat, (k : Int) ≤ gI S (2 + u) → 0 ≤ gA S (4 + u) k ∧ gA S (4 + u) k ≤ 2000 ∧ (k = 0 → gA S (4 + u) k = 0)
/-- T, N: the tokens; u: the unit; w: where the expression stands -/
def cM (T : yTk) (N u : Nat) (w : Int) (S : yS) (m : yMo) : Prop := cT S T N ∧ cO S u ∧ gK S 1 = cu u ∧ gI S 26 = w ∧ match m with
  | .inl p => cD S p
  | .inr (t, b, .inl e) => cA S T N t b ∧ cE S (some e)
  | .inr (t, b, .inr (L, X)) => cA S T N t b ∧ cE S none ∧ cK S u L ∧ cX S u X
/-- what compiling changes -/
def yWx (u s k : Nat) : Bool := yWk s k || (s == 3 && (k == u || k == 2 + u || k == 4 + u)) || (s == 4 && k == u) || (s == 0 && (k == u || k == 2 + u))
theorem yWx_k {u s k : Nat} (h : yWx u s k = false) : yWk s k = false := by
  unfold yWx at h
  simp only [Bool.or_eq_false_iff] at h
  exact h.1.1.1
/-- an instruction more, where there is room -/
def yadm (u : Nat) (m : yMo) (op : Nat) (a : Int64) : yMo := match m with
  | .inl p => .inl p
  | .inr (t, b, .inl e) => .inr (t, b, .inl e)
  | .inr (t, b, .inr (L, X)) => .inr (t, b, .inr (if (L.length : Int) < capu u then (L ++ [(op, a)], X) else (L, X)))
theorem yadm_in {u t b op : Nat} {a : Int64} {L : yCo} {X : List (List Int)} (h : (L.length : Int) < capu u) : yadm u (.inr (t, b, .inr (L, X))) op a = .inr (t, b, .inr (L ++ [(op, a)], X)) := by
  unfold yadm
  simp only [h, if_true]
theorem yadm_no {u t b op : Nat} {a : Int64} {L : yCo} {X : List (List Int)} (h : ¬ (L.length : Int) < capu u) : yadm u (.inr (t, b, .inr (L, X))) op a = .inr (t, b, .inr (L, X)) := by
  unfold yadm
  simp only [h, if_false]
/-- what stays while a unit's code grows -/
theorem cM_add {T : yTk} {N u : Nat} {w : Int} {S : yS} {m : yMo} (hu : u = 0 ∨ u = 1) (h : cM T N u w S m) (op : Nat) (a : Int64) : cM T N u w (yad S u op a) (yadm u m op a) := by
  unfold yad
  by_cases z : gI S u < capu u
  · rw [if_pos z]
    obtain ⟨h1, h2, h3, h4, h5⟩ := h
    have g1 : ∀ k, k ≠ u → gI (sI (sB (sA S u (gI S u).toNat op) u (gI S u).toNat a) u (gI S u + 1)) k = gI S k := fun k hk => gI_ne _ _ _ hk
    have gu : gI (sI (sB (sA S u (gI S u).toNat op) u (gI S u).toNat a) u (gI S u + 1)) u = gI S u + 1 := gI_self _ _ _
    have ga : ∀ k, k ≠ u → gA (sI (sB (sA S u (gI S u).toNat op) u (gI S u).toNat a) u (gI S u + 1)) k = gA S k := fun k hk => gA_ne S u _ _ hk
    have gb : ∀ k, k ≠ u → gB (sI (sB (sA S u (gI S u).toNat op) u (gI S u).toNat a) u (gI S u + 1)) k = gB S k := fun k hk => gB_ne (sA S u (gI S u).toNat op) u _ _ hk
    have gau : ∀ j, gA (sI (sB (sA S u (gI S u).toNat op) u (gI S u).toNat a) u (gI S u + 1)) u j = if j = (gI S u).toNat then (op : Int) else gA S u j := fun j => gA_self S u _ _ j
    have gbu : ∀ j, gB (sI (sB (sA S u (gI S u).toNat op) u (gI S u).toNat a) u (gI S u + 1)) u j = if j = (gI S u).toNat then a else gB S u j := fun j => gB_self (sA S u (gI S u).toNat op) u _ _ j
    have gc : gC (sI (sB (sA S u (gI S u).toNat op) u (gI S u).toNat a) u (gI S u + 1)) = gC S := rfl
    have gk : gK (sI (sB (sA S u (gI S u).toNat op) u (gI S u).toNat a) u (gI S u + 1)) = gK S := rfl
    have gj : gJ (sI (sB (sA S u (gI S u).toNat op) u (gI S u).toNat a) u (gI S u + 1)) = gJ S := rfl
    generalize sI (sB (sA S u (gI S u).toNat op) u (gI S u).toNat a) u (gI S u + 1) = S' at *
    have kT : cT S' T N := by
      refine ⟨fun j hj => ?_, ?_, ?_⟩
      · rw [gc, ga 22 (by omega), gb 8 (by omega)]
        exact h1.1 j hj
      · rw [g1 13 (by omega)]; exact h1.2.1
      · rw [g1 13 (by omega)]; exact h1.2.2
    have kA : ∀ t b, cA S T N t b → cA S' T N t b := fun t b hA => ⟨kT, hA.2.1, by rw [g1 14 (by omega)]; exact hA.2.2.1, by rw [g1 15 (by omega)]; exact hA.2.2.2.1, hA.2.2.2.2.1, by rw [gk]; exact hA.2.2.2.2.2.1, by rw [g1 16 (by omega)]; exact hA.2.2.2.2.2.2.1, by rw [gj]; exact hA.2.2.2.2.2.2.2⟩
    have kE : ∀ e, cE S e → cE S' e := fun e he => by
      match e, he with
      | none, he => show gI S' 17 = 0 ∧ gI S' 18 = -1; rw [g1 17 (by omega), g1 18 (by omega)]; exact he
      | some (n, p), he => show gI S' 17 = n ∧ gI S' 18 = p ∧ 2 ≤ n ∧ n ≤ 6; rw [g1 17 (by omega), g1 18 (by omega)]; exact he
    have kO : cO S' u := by
      refine ⟨by rw [gu]; have := h2.1; omega, by rw [gu]; omega, by rw [g1 (2 + u) (by omega)]; exact h2.2.2.1, by rw [g1 (2 + u) (by omega)]; exact h2.2.2.2.1, fun k hk => ?_⟩
      rw [g1 (2 + u) (by omega)] at hk
      rw [ga (4 + u) (by omega)]
      exact h2.2.2.2.2 k hk
    refine ⟨kT, kO, by rw [gk]; exact h3, by rw [g1 26 (by omega)]; exact h4, ?_⟩
    match m, h5 with
    | .inl p, h5 =>
      obtain ⟨d1, d2, d3, d4, d5⟩ := h5
      exact ⟨by rw [gk]; exact d1, by rw [g1 16 (by omega)]; exact d2, by rw [g1 17 (by omega), g1 18 (by omega)]; exact d3, by rw [g1 17 (by omega)]; exact d4, by rw [g1 17 (by omega)]; exact d5⟩
    | .inr (t, b, .inl e), h5 => exact ⟨kA t b h5.1, kE _ h5.2⟩
    | .inr (t, b, .inr (L, X)), h5 =>
      obtain ⟨a1, a2, a3, a4⟩ := h5
      have hL : (L.length : Int) < capu u := by rw [← a3.1]; exact z
      rw [yadm_in hL]
      refine ⟨kA t b a1, kE _ a2, ⟨?_, fun j x hj => ?_⟩, ⟨?_, fun k hk => ?_, fun k l i y hk hi => ?_⟩⟩
      · rw [gu, a3.1, List.length_append]
        rfl
      · have e : (gI S u).toNat = L.length := by rw [a3.1]; rfl
        rw [gau, gbu, e]
        by_cases y : j = L.length
        · subst y
          rw [List.getElem?_append_right (Nat.le_refl _), Nat.sub_self] at hj
          cases hj
          rw [if_pos rfl, if_pos rfl]
          exact ⟨rfl, rfl⟩
        · have hj2 : j < L.length := by
            have := (List.getElem?_eq_some_iff.mp hj).1
            rw [List.length_append] at this
            have e1 : ([(op, a)] : yCo).length = 1 := rfl
            omega
          rw [List.getElem?_append_left hj2] at hj
          rw [if_neg y, if_neg y]
          exact a3.2 j x hj
      · rw [g1 (2 + u) (by omega)]; exact a4.1
      · rw [ga (4 + u) (by omega)]; exact a4.2.1 k hk
      · rw [ga (2 + u) (by omega)]; exact a4.2.2 k l i y hk hi
  · rw [if_neg z]
    obtain ⟨h1, h2, h3, h4, h5⟩ := h
    refine ⟨h1, h2, h3, h4, ?_⟩
    match m, h5 with
    | .inl p, h5 => exact h5
    | .inr (t, b, .inl e), h5 => exact h5
    | .inr (t, b, .inr (L, X)), h5 =>
      have hL : ¬ (L.length : Int) < capu u := by rw [← h5.2.2.1.1]; exact z
      rw [yadm_no hL]
      exact h5
theorem yad_fr (S : yS) {u : Nat} (op : Int) (a : Int64) : yFr (yWx u) S (yad S u op a) := by
  unfold yad
  split
  · have e : ∀ s, s = 0 ∨ s = 3 ∨ s = 4 → yWx u s u = true := by
      intro s hs
      unfold yWx
      rcases hs with rfl | rfl | rfl <;> simp
    exact yFr_tr (yFr_A (e 3 (by omega))) (yFr_tr (yFr_B (e 4 (by omega))) (yFr_I (e 0 (by omega))))
  · exact yFr_rf _ _
section YMOL
variable {q : yQ} {d : Nat} {js : List xO} {S : yS} {T : yTk} {N u : Nat} {w : Int}
/-- an instruction more -/
theorem madd {m : yMo} (hu : u = 0 ∨ u = 1) (h : cM T N u w S m) (op : Nat) (a : Int64) : ∃ (S' : yS) (r : Nat), Y q d 20 0 [vr (cu u), vi op, vj a, vu, vu] [] S js = yret q (vi r) S' js ∧ yFr (yWx u) S S' ∧ r ≤ 4000 ∧ cM T N u w S' (yadm u m op a) ∧ ∀ t b L X, m = .inr (t, b, .inr (L, X)) → r = L.length := by
  have hO := h.2.1
  have hc : capu u ≤ 4000 := by rcases hu with rfl | rfl <;> decide
  have e : ((gI S u).toNat : Int) = gI S u := Int.toNat_of_nonneg hO.1
  refine ⟨yad S u op a, (gI S u).toNat, by rw [c20 hu ⟨hO.1, hO.2.1⟩, e], yad_fr S op a, by have := hO.2.1; omega, cM_add hu h op a, ?_⟩
  intro t b L X hm
  subst hm
  have := h.2.2.2.2.2.2.1.1
  rw [this]
  rfl
end YMOL
end YMO
