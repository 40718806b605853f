/-! taken from whole by wip/p27/slice2.py: 74.ok.lean.txt -/
section YOK
section YOKL
variable {T : yTk} {N : Nat} {Rm : Nat → Nat → Nat} {Rx : Nat → Nat} {s : Nat} {tx : Nat → Nat → List Int} {O : yOp} {P : Nat → Nat → Nat → Nat → yPr}
theorem ypar_in (hP : yPin P) (dp : Nat) : yPin (ypar T P dp) := by
  intro base tb base' tb' t b
  unfold ypar
  by_cases z : 12 ≤ dp ∨ b = 0
  · rw [if_pos z, if_pos z]
  · rw [if_neg z, if_neg z]
    have h := hP base tb base' tb' (t + 1) (b - 1)
    match h1 : P base tb (t + 1) (b - 1), h2 : P base' tb' (t + 1) (b - 1) with
    | .inl p, .inl p' => rw [h1, h2] at h; exact h
    | .inl p, .inr (t', b', m') => rw [h1, h2] at h; nomatch h
    | .inr (t1, b1, m1), .inl p => rw [h1, h2] at h; nomatch h
    | .inr (t1, b1, m1), .inr (t', b', m') =>
      rw [h1, h2] at h
      have h : (Sum.inr (t1, b1) : Nat ⊕ (Nat × Nat)) = .inr (t', b') := h
      injection h with h
      injection h with e1 e2
      subst e1
      subst e2
      show ysh (yclo T t1 b1 m1) = ysh (yclo T t1 b1 m')
      unfold yclo
      split
      · split <;> rfl
      · rfl
theorem yfrn_in (hP : yPin P) (op dp : Nat) : yPin (yfrn T O P op dp) := by
  intro base tb base' tb' t b
  unfold yfrn
  by_cases z : 12 ≤ dp ∨ b = 0
  · rw [if_pos z, if_pos z]
  · rw [if_neg z, if_neg z]
    have h := hP base tb base' tb' (t + 1) (b - 1)
    match h1 : P base tb (t + 1) (b - 1), h2 : P base' tb' (t + 1) (b - 1) with
    | .inl p, .inl p' => rw [h1, h2] at h; exact h
    | .inl p, .inr (t', b', m') => rw [h1, h2] at h; nomatch h
    | .inr (t1, b1, m1), .inl p => rw [h1, h2] at h; nomatch h
    | .inr (t1, b1, m1), .inr (t', b', m') => rw [h1, h2] at h; exact h
theorem ypar_ok {base tb t b t' b' dp : Nat} {m : yMn} (hT : yTo T N) (hR : yRoom T N Rm Rx s) (hP : yPok N Rm Rx s tx P) (ht : t < N) (h64 : (T t).1 ≤ 64) (h : ypar T P dp base tb t b = .inr (t', b', m)) : t' < N ∧ b' ≤ b ∧ Rm t' b' ≤ Rm t b ∧ Rx t ≤ Rx t' ∧ ∀ x, m = .inr x → yWf x ∧ x.2.2.1.length + s + Rm t' b' ≤ Rm t b ∧ ytl tx x.2.2.2.1 + Rx t ≤ Rx t' := by
  have ht1 := yTo_t hT ht h64
  unfold ypar at h
  by_cases z : 12 ≤ dp ∨ b = 0
  · rw [if_pos z] at h
    nomatch h
  · rw [if_neg z] at h
    obtain ⟨s1, s2, hR⟩ := hR
    obtain ⟨R1, R2, R3⟩ := hR t b ht1 h64
    obtain ⟨R3, R4⟩ := R3 (by omega)
    match hp : P base tb (t + 1) (b - 1) with
    | .inl p =>
      rw [hp] at h
      nomatch h
    | .inr (t1, b1, m1) =>
      rw [hp] at h
      have h : yclo T t1 b1 m1 = .inr (t', b', m) := h
      obtain ⟨p1, p2, p3, p4, p5⟩ := hP _ _ _ _ _ _ _ ht1 hp
      unfold yclo at h
      by_cases z1 : (T t1).1 = 47
      · rw [if_pos z1] at h
        by_cases z2 : b1 = 0
        · rw [if_pos z2] at h
          nomatch h
        · rw [if_neg z2] at h
          obtain ⟨h1, h2, h3⟩ := yinr h
          have ht2 := yTo_t hT p1 (by omega)
          obtain ⟨Q1, Q2, Q3⟩ := hR t1 b1 ht2 (by omega)
          obtain ⟨Q3, Q4⟩ := Q3 (by omega)
          rw [← h1, ← h2, ← h3]
          exact ⟨ht2, by omega, by omega, by omega, fun x hx => by
            obtain ⟨x1, x2, x3⟩ := p5 x hx
            exact ⟨x1, by omega, by omega⟩⟩
      · rw [if_neg z1] at h
        nomatch h
theorem yfrn_ok {base tb t b t' b' op dp : Nat} {m : yMn} (hT : yTo T N) (hR : yRoom T N Rm Rx s) (hP : yPok N Rm Rx s tx P) (ht : t < N) (h64 : (T t).1 ≤ 64) (h : yfrn T O P op dp base tb t b = .inr (t', b', m)) : t' < N ∧ b' ≤ b ∧ Rm t' b' ≤ Rm t b ∧ Rx t ≤ Rx t' ∧ ∀ x, m = .inr x → yWf x ∧ x.2.2.1.length + s + Rm t' b' ≤ Rm t b ∧ ytl tx x.2.2.2.1 + Rx t ≤ Rx t' := by
  have ht1 := yTo_t hT ht h64
  unfold yfrn at h
  by_cases z : 12 ≤ dp ∨ b = 0
  · rw [if_pos z] at h
    nomatch h
  · rw [if_neg z] at h
    obtain ⟨s1, s2, hR⟩ := hR
    obtain ⟨R1, R2, R3⟩ := hR t b ht1 h64
    obtain ⟨R3, R4⟩ := R3 (by omega)
    match hp : P base tb (t + 1) (b - 1) with
    | .inl p =>
      rw [hp] at h
      nomatch h
    | .inr (t1, b1, m1) =>
      rw [hp] at h
      obtain ⟨p1, p2, p3, p4, p5⟩ := hP _ _ _ _ _ _ _ ht1 hp
      obtain ⟨h1, h2, h3⟩ := yinr (m := yfront O op (T t).2.1 m1) h
      rw [← h1, ← h2]
      refine ⟨p1, by omega, by omega, by omega, fun x hx => ?_⟩
      match m1, h3, p5 with
      | .inl e, h3, _ => rw [← h3] at hx; nomatch hx
      | .inr y, h3, p5 =>
        obtain ⟨y1, y2, y3⟩ := p5 y rfl
        rw [← h3, yfront_r] at hx
        by_cases z1 : y.1 = true
        · rw [if_pos z1] at hx
          nomatch hx
        · rw [if_neg z1] at hx
          match hv : y.2.1 with
          | some v =>
            rw [hv] at hx
            injection hx with hx
            subst hx
            have hl : y.2.2.1.length = 1 := by rw [(y1 v hv).2.1]; rfl
            refine ⟨fun v' hv' => ?_, ?_, ?_⟩
            · have hv' : some (ycal op v v) = some v' := hv'
              injection hv' with hv'
              subst hv'
              exact ⟨rfl, rfl, rfl⟩
            · show 1 + s + Rm t1 b1 ≤ Rm t b
              omega
            · show 0 + Rx t ≤ Rx t1
              omega
          | none =>
            rw [hv] at hx
            injection hx with hx
            subst hx
            refine ⟨(fun v' hv' => nomatch hv'), ?_, ?_⟩
            · show (y.2.2.1 ++ [(op, 0)]).length + s + Rm t1 b1 ≤ Rm t b
              rw [List.length_append]
              show y.2.2.1.length + 1 + s + Rm t1 b1 ≤ Rm t b
              omega
            · show ytl tx y.2.2.2.1 + Rx t ≤ Rx t1
              omega
end YOKL
end YOK
