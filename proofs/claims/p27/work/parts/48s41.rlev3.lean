/-! taken from whole by wip/p27/slice2.py: 87.rlev3.lean.txt -/
section YRD
section YRDL
variable {q : yQ} {d : Nat} {js : List xO} {S0 S S5 : yS} {T : yTk} {N u : Nat} {sc : Int} {Rm : Nat → Nat → Nat} {Rx : Nat → Nat} {s dp : Nat} {tx : Nat → Nat → List Int} {O : yOp} {P : Nat → Nat → Nat → Nat → yPr}
/-- a level takes a token at least -/
theorem ylev_lt {lv : Int} (h : yPlt P) : yPlt (ylev T O lv P) := by
  have lop : ∀ f base tb t b (l : yMn) t' b' m, ylop T O lv P f base tb t b l = .inr (t', b', m) → b' ≤ b := by
    intro f
    induction f with
    | zero =>
      intro base tb t b l t' b' m e
      have := (yinr (m := l) e).2.1
      omega
    | succ f ih =>
      intro base tb t b l t' b' m e
      by_cases hk : yKr (T t).1 = lv
      · rw [ylop_s hk] at e
        by_cases hb : b = 0
        · subst hb
          nomatch e
        · rw [ysp_s hb] at e
          match hp : P (yrbs base (T t).1 l) (yrtx tb l) (t + 1) (b - 1) with
          | .inl p =>
            rw [hp] at e
            nomatch e
          | .inr (t2, b2, r) =>
            rw [hp] at e
            have h1 := h _ _ _ _ _ _ _ hp
            have h2 := ih _ _ _ _ _ _ _ _ e
            omega
      · have e2 : ylop T O lv P (f + 1) base tb t b l = .inr (t, b, l) := if_neg hk
        rw [e2] at e
        have := (yinr (m := l) e).2.1
        omega
  intro base tb t b t' b' m e
  unfold ylev at e
  match hp : P base tb t b with
  | .inl p =>
    rw [hp] at e
    nomatch e
  | .inr (t1, b1, l) =>
    rw [hp] at e
    have h1 := h _ _ _ _ _ _ _ hp
    have h2 := lop _ _ _ _ _ _ _ _ _ e
    omega
theorem yfrom_lt (h : yPlt P) : yPlt (yfrom T O P 0) := ylev_lt (ylev_lt (ylev_lt (ylev_lt (ylev_lt h))))
end YRDL
end YRD
