/-! taken from whole by wip/p27/slice2.py: 90.rfac.lean.txt -/
section YRF
section YRFL
variable {q : yQ} {d : Nat} {js : List xO} {S0 S S5 S1 : yS} {T : yTk} {N u : Nat} {sc : Int} {Rm : Nat → Nat → Nat} {Rx : Nat → Nat} {s dp t b : Nat} {tx : Nat → Nat → List Int} {O : yOp} {P : Nat → Nat → Nat → Nat → yPr}
/-- a factor takes a token at least -/
theorem yfcd_lt {nm : Int64 → Option (Nat × Nat × Bool)} {decl : Bool} (hL : dp < 12 → yPlt P) : yPlt (yfcd T tx nm decl O dp P) := by
  have lop : ∀ f base tb t b (a : yAr) t' b' a', dp < 12 → yargs T (yfrom T O P 0) f base tb t b a = .inr (t', b', a') → b' ≤ b := by
    intro f base tb t b a t' b' a' hd
    have h := yfrom_lt (O := O) (T := T) (hL hd)
    induction f generalizing base tb t b a with
    | zero =>
      intro e
      injection e with e
      injection e with _ e
      injection e with e _
      omega
    | succ f ih =>
      intro e
      unfold yargs at e
      match hp : yfrom T O P 0 (base + yarl a) (tb + yart a) t b with
      | .inl p =>
        rw [hp] at e
        nomatch e
      | .inr (t1, b1, m) =>
        rw [hp] at e
        have h1 := h _ _ _ _ _ _ _ hp
        have e : (if (T t1).1 = 48 then (if b1 = 0 then (.inl (T t1).2.1 : Nat ⊕ (Nat × Nat × yAr)) else yargs T (yfrom T O P 0) f base tb (t1 + 1) (b1 - 1) (yapp a m)) else .inr (t1, b1, yapp a m)) = .inr (t', b', a') := e
        split at e
        · split at e
          · nomatch e
          · have := ih _ _ _ _ _ e
            omega
        · injection e with e
          injection e with _ e
          injection e with e _
          omega
  have clo : ∀ {t1 b1 t' b' : Nat} {m m' : yMn}, yclo T t1 b1 m = .inr (t', b', m') → b' < b1 ∨ b' ≤ b1 ∧ b1 = 0 := by
    intro t1 b1 t' b' m m' e
    unfold yclo at e
    split at e
    · split at e
      · nomatch e
      · have := (yinr e).2.1
        omega
    · nomatch e
  intro base tb t b t' b' m e
  unfold yfcd at e
  split at e
  · unfold ynum at e
    split at e
    · nomatch e
    · have := (yinr e).2.1
      omega
  · split at e
    · unfold ytxt at e
      split at e
      · nomatch e
      · have := (yinr e).2.1
        omega
    · split at e
      · unfold ynme at e
        split at e
        · nomatch e
        · have := (yinr e).2.1
          omega
      · split at e
        · unfold yfrn at e
          split at e
          · nomatch e
          · match hp : P base tb (t + 1) (b - 1) with
            | .inl p =>
              rw [hp] at e
              nomatch e
            | .inr (t1, b1, m1) =>
              rw [hp] at e
              have h1 := hL (by omega) _ _ _ _ _ _ _ hp
              have := (yinr (m := yfront O (if (T t).1 = 52 then 19 else 18) (T t).2.1 m1) e).2.1
              omega
        · split at e
          · unfold ypar at e
            split at e
            · nomatch e
            · match hp : yfrom T O P 0 base tb (t + 1) (b - 1) with
              | .inl p =>
                rw [hp] at e
                nomatch e
              | .inr (t1, b1, m1) =>
                rw [hp] at e
                have h1 := yfrom_lt (O := O) (T := T) (hL (by omega)) _ _ _ _ _ _ _ hp
                have := clo (m := m1) e
                omega
          · split at e
            · unfold yfnc at e
              split at e
              · nomatch e
              · split at e
                · nomatch e
                · match hp : yargs T (yfrom T O P 0) 100 base tb (t + 2) (b - 1 - 1) (.inr ([], [], [], fun _ => some [])) with
                  | .inl p =>
                    rw [hp] at e
                    nomatch e
                  | .inr (t1, b1, a) =>
                    rw [hp] at e
                    have h1 := lop _ _ _ _ _ _ _ _ _ (by omega) hp
                    have := clo (m := yfun O (T t).1 (T t).2.1 a) e
                    omega
            · split at e
              · unfold yspc at e
                split at e
                · nomatch e
                · have := (yinr e).2.1
                  omega
              · nomatch e
end YRFL
end YRF
