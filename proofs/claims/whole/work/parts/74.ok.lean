/-! A FACTOR's PIECES: their sizes, and that the tokens taken do not hang on the base -/
section YOK
section YOKL
variable {T : yTk} {N : Nat} {Rm : Nat → Nat → Nat} {Rx : Nat → Nat} {s : Nat} {tx : Nat → Nat → List Int} {O : yOp} {P : Nat → Nat → Nat → Nat → yPr}
theorem ypar_in (hP : yPin P) (dp : Nat) : yPin (ypar T P dp) := by
  intro base tb base' tb' t b
  unfold ypar
  by_cases z : 12 ≤ dp ∨ b = 0
  · rw [if_pos z, if_pos z]
  · rw [if_neg z, if_neg z]
    have h := hP base tb base' tb' (t + 1) (b - 1)
    match h1 : P base tb (t + 1) (b - 1), h2 : P base' tb' (t + 1) (b - 1) with
    | .inl p, .inl p' => rw [h1, h2] at h; exact h
    | .inl p, .inr (t', b', m') => rw [h1, h2] at h; nomatch h
    | .inr (t1, b1, m1), .inl p => rw [h1, h2] at h; nomatch h
    | .inr (t1, b1, m1), .inr (t', b', m') =>
      rw [h1, h2] at h
      have h : (Sum.inr (t1, b1) : Nat ⊕ (Nat × Nat)) = .inr (t', b') := h
      injection h with h
      injection h with e1 e2
      subst e1
      subst e2
      show ysh (yclo T t1 b1 m1) = ysh (yclo T t1 b1 m')
      unfold yclo
      split
      · split <;> rfl
      · rfl
theorem yfrn_in (hP : yPin P) (op dp : Nat) : yPin (yfrn T O P op dp) := by
  intro base tb base' tb' t b
  unfold yfrn
  by_cases z : 12 ≤ dp ∨ b = 0
  · rw [if_pos z, if_pos z]
  · rw [if_neg z, if_neg z]
    have h := hP base tb base' tb' (t + 1) (b - 1)
    match h1 : P base tb (t + 1) (b - 1), h2 : P base' tb' (t + 1) (b - 1) with
    | .inl p, .inl p' => rw [h1, h2] at h; exact h
    | .inl p, .inr (t', b', m') => rw [h1, h2] at h; nomatch h
    | .inr (t1, b1, m1), .inl p => rw [h1, h2] at h; nomatch h
    | .inr (t1, b1, m1), .inr (t', b', m') => rw [h1, h2] at h; exact h
end YOKL
end YOK
