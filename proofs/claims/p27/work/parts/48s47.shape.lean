/-! taken from whole by wip/p27/slice2.py: 9z.shape.lean.txt -/
section YSH
def yPsh (P Q : Nat → Nat → Nat → Nat → yPr) : Prop := ∀ base tb base' tb' t b, ysh (P base tb t b) = ysh (Q base' tb' t b)
theorem yvsp_sh {T : yTk} {O : yOp} {P Q : Nat → Nat → Nat → Nat → yPr} (hP : yPsh P Q) (base tb base' tb' t b : Nat) (l l' : yMn) : ysh (yvsp T O P base tb t b l) = ysh (yvsp T O Q base' tb' t b l') := by
  by_cases hb : b = 0
  · subst hb
    rw [ysp_0, ysp_0]
  · rw [ysp_s hb, ysp_s hb]
    have h := hP (yrbs base (T t).1 l) (yrtx tb l) (yrbs base' (T t).1 l') (yrtx tb' l') (t + 1) (b - 1)
    match h1 : P (yrbs base (T t).1 l) (yrtx tb l) (t + 1) (b - 1), h2 : Q (yrbs base' (T t).1 l') (yrtx tb' l') (t + 1) (b - 1) with
    | .inl p, .inl p' => rw [h1, h2] at h; exact h
    | .inl p, .inr (t', b', m') => rw [h1, h2] at h; nomatch h
    | .inr (t1, b1, m1), .inl p => rw [h1, h2] at h; nomatch h
    | .inr (t1, b1, m1), .inr (t', b', m') => rw [h1, h2] at h; exact h
theorem ylop_sh {T : yTk} {O : yOp} {lv : Int} {P Q : Nat → Nat → Nat → Nat → yPr} (hP : yPsh P Q) (f : Nat) : ∀ (base tb base' tb' t b : Nat) (l l' : yMn), ysh (ylop T O lv P f base tb t b l) = ysh (ylop T O lv Q f base' tb' t b l') := by
  induction f with
  | zero => exact fun _ _ _ _ _ _ _ _ => rfl
  | succ f ih =>
    intro base tb base' tb' t b l l'
    by_cases hlv : yKr (T t).1 = lv
    · rw [ylop_s hlv, ylop_s hlv]
      have h := yvsp_sh (T := T) (O := O) hP base tb base' tb' t b l l'
      match h1 : yvsp T O P base tb t b l, h2 : yvsp T O Q base' tb' t b l' with
      | .inl p, .inl p' => rw [h1, h2] at h; exact h
      | .inl p, .inr (t', b', m') => rw [h1, h2] at h; nomatch h
      | .inr (t1, b1, m1), .inl p => rw [h1, h2] at h; nomatch h
      | .inr (t1, b1, m1), .inr (t', b', m') =>
        rw [h1, h2] at h
        have h : (Sum.inr (t1, b1) : Nat ⊕ (Nat × Nat)) = .inr (t', b') := h
        injection h with h
        injection h with e1 e2
        subst e1
        subst e2
        exact ih base tb base' tb' t1 b1 m1 m'
    · have e : ∀ R base tb l, ylop T O lv R (f + 1) base tb t b l = .inr (t, b, l) := by
        intro R base tb l
        show (if yKr (T t).1 = lv then _ else _) = _
        rw [if_neg hlv]
      rw [e, e]
      rfl
theorem ylev_sh {T : yTk} {O : yOp} {lv : Int} {P Q : Nat → Nat → Nat → Nat → yPr} (hP : yPsh P Q) : yPsh (ylev T O lv P) (ylev T O lv Q) := by
  intro base tb base' tb' t b
  unfold ylev
  have h := hP base tb base' tb' t b
  match h1 : P base tb t b, h2 : Q base' tb' t b with
  | .inl p, .inl p' => rw [h1, h2] at h; exact h
  | .inl p, .inr (t', b', m') => rw [h1, h2] at h; nomatch h
  | .inr (t1, b1, m1), .inl p => rw [h1, h2] at h; nomatch h
  | .inr (t1, b1, m1), .inr (t', b', m') =>
    rw [h1, h2] at h
    have h : (Sum.inr (t1, b1) : Nat ⊕ (Nat × Nat)) = .inr (t', b') := h
    injection h with h
    injection h with e1 e2
    subst e1
    subst e2
    exact ylop_sh hP _ base tb base' tb' t1 b1 m1 m'
section YSHL
variable {T : yTk} {tx : Nat → Nat → List Int} {nm nm' : Int64 → Option (Nat × Nat × Bool)} {decl decl' : Bool} {O : yOp} {P Q : Nat → Nat → Nat → Nat → yPr}
theorem yfrom_sh (hP : yPsh P Q) : yPsh (yfrom T O P 0) (yfrom T O Q 0) := ylev_sh (ylev_sh (ylev_sh (ylev_sh (ylev_sh hP))))
theorem ypar_sh (hP : yPsh P Q) (dp : Nat) : yPsh (ypar T P dp) (ypar T Q dp) := by
  intro base tb base' tb' t b
  unfold ypar
  by_cases z : 12 ≤ dp ∨ b = 0
  · rw [if_pos z, if_pos z]
  · rw [if_neg z, if_neg z]
    have h := hP base tb base' tb' (t + 1) (b - 1)
    match h1 : P base tb (t + 1) (b - 1), h2 : Q base' tb' (t + 1) (b - 1) with
    | .inl p, .inl p' => rw [h1, h2] at h; exact h
    | .inl p, .inr (t', b', m') => rw [h1, h2] at h; nomatch h
    | .inr (t1, b1, m1), .inl p => rw [h1, h2] at h; nomatch h
    | .inr (t1, b1, m1), .inr (t', b', m') =>
      rw [h1, h2] at h
      have h : (Sum.inr (t1, b1) : Nat ⊕ (Nat × Nat)) = .inr (t', b') := h
      injection h with h
      injection h with e1 e2
      subst e1
      subst e2
      show ysh (yclo T t1 b1 m1) = ysh (yclo T t1 b1 m')
      unfold yclo
      split
      · split <;> rfl
      · rfl
theorem yfrn_sh (hP : yPsh P Q) (op dp : Nat) : yPsh (yfrn T O P op dp) (yfrn T O Q op dp) := by
  intro base tb base' tb' t b
  unfold yfrn
  by_cases z : 12 ≤ dp ∨ b = 0
  · rw [if_pos z, if_pos z]
  · rw [if_neg z, if_neg z]
    have h := hP base tb base' tb' (t + 1) (b - 1)
    match h1 : P base tb (t + 1) (b - 1), h2 : Q base' tb' (t + 1) (b - 1) with
    | .inl p, .inl p' => rw [h1, h2] at h; exact h
    | .inl p, .inr (t', b', m') => rw [h1, h2] at h; nomatch h
    | .inr (t1, b1, m1), .inl p => rw [h1, h2] at h; nomatch h
    | .inr (t1, b1, m1), .inr (t', b', m') => rw [h1, h2] at h; exact h
theorem yargs_sh (hP : yPsh P Q) (f : Nat) : ∀ (base tb base' tb' t b : Nat) (a a' : yAr), ysa (yargs T P f base tb t b a) = ysa (yargs T Q f base' tb' t b a') := by
  induction f with
  | zero => intros; rfl
  | succ f ih =>
    intro base tb base' tb' t b a a'
    have h := hP (base + yarl a) (tb + yart a) (base' + yarl a') (tb' + yart a') t b
    unfold yargs
    match h1 : P (base + yarl a) (tb + yart a) t b, h2 : Q (base' + yarl a') (tb' + yart a') t b with
    | .inl p, .inl p' => rw [h1, h2] at h; exact h
    | .inl p, .inr (t', b', m') => rw [h1, h2] at h; nomatch h
    | .inr (t1, b1, m1), .inl p => rw [h1, h2] at h; nomatch h
    | .inr (t1, b1, m1), .inr (t', b', m') =>
      rw [h1, h2] at h
      have h : (Sum.inr (t1, b1) : Nat ⊕ (Nat × Nat)) = .inr (t', b') := h
      injection h with h
      injection h with e1 e2
      subst e1
      subst e2
      show ysa (if (T t1).1 = 48 then _ else _) = ysa (if (T t1).1 = 48 then _ else _)
      by_cases z : (T t1).1 = 48
      · rw [if_pos z, if_pos z]
        by_cases zb : b1 = 0
        · rw [if_pos zb, if_pos zb]
        · rw [if_neg zb, if_neg zb]
          exact ih _ _ _ _ _ _ _ _
      · rw [if_neg z, if_neg z]
        rfl
theorem yfnc_sh (hP : yPsh P Q) (dp : Nat) : yPsh (yfnc T O P dp) (yfnc T O Q dp) := by
  intro base tb base' tb' t b
  unfold yfnc
  by_cases hb : b = 0
  · rw [if_pos hb, if_pos hb]
  · rw [if_neg hb, if_neg hb]
    by_cases z : (T (t + 1)).1 ≠ 46 ∨ 12 ≤ dp ∨ b - 1 = 0
    · rw [if_pos z, if_pos z]
    · rw [if_neg z, if_neg z]
      have h := yargs_sh (T := T) hP 100 base tb base' tb' (t + 2) (b - 1 - 1) (.inr ([], [], [], fun _ => some [])) (.inr ([], [], [], fun _ => some []))
      match h1 : yargs T P 100 base tb (t + 2) (b - 1 - 1) (.inr ([], [], [], fun _ => some [])), h2 : yargs T Q 100 base' tb' (t + 2) (b - 1 - 1) (.inr ([], [], [], fun _ => some [])) with
      | .inl p, .inl p' => rw [h1, h2] at h; exact h
      | .inl p, .inr (t', b', m') => rw [h1, h2] at h; nomatch h
      | .inr (t1, b1, m1), .inl p => rw [h1, h2] at h; nomatch h
      | .inr (t1, b1, a1), .inr (t', b', a') =>
        rw [h1, h2] at h
        have h : (Sum.inr (t1, b1) : Nat ⊕ (Nat × Nat)) = .inr (t', b') := h
        injection h with h
        injection h with e1 e2
        subst e1
        subst e2
        show ysh (yclo T t1 b1 _) = ysh (yclo T t1 b1 _)
        unfold yclo
        split
        · split <;> rfl
        · rfl
theorem yfcd_sh {dp : Nat} (hP : dp < 12 → yPsh P Q) : yPsh (yfcd T tx nm decl O dp P) (yfcd T tx nm' decl' O dp Q) := by
  intro base tb base' tb' t b
  unfold yfcd
  by_cases e1 : (T t).1 = 63
  · rw [if_pos e1, if_pos e1]
  · rw [if_neg e1, if_neg e1]
    by_cases e2 : (T t).1 = 64
    · rw [if_pos e2, if_pos e2]
      by_cases hb : b = 0
      · unfold ytxt
        rw [if_pos hb, if_pos hb]
      · unfold ytxt
        rw [if_neg hb, if_neg hb]
        exact Eq.refl (Sum.inr (t + 1, b - 1))
    · rw [if_neg e2, if_neg e2]
      by_cases e3 : (T t).1 = 62
      · rw [if_pos e3, if_pos e3]
        unfold ynme
        by_cases hb : b = 0
        · rw [if_pos hb, if_pos hb]
        · rw [if_neg hb, if_neg hb]
          exact Eq.refl (Sum.inr (t + 1, b - 1))
      · rw [if_neg e3, if_neg e3]
        by_cases e4 : (T t).1 = 52 ∨ (T t).1 = 36
        · rw [if_pos e4, if_pos e4]
          by_cases z : dp < 12
          · exact yfrn_sh (hP z) _ dp base tb base' tb' t b
          · unfold yfrn
            rw [if_pos (Or.inl (by omega)), if_pos (Or.inl (by omega))]
        · rw [if_neg e4, if_neg e4]
          by_cases e5 : (T t).1 = 46
          · rw [if_pos e5, if_pos e5]
            by_cases z : dp < 12
            · exact ypar_sh (yfrom_sh (hP z)) dp base tb base' tb' t b
            · unfold ypar
              rw [if_pos (Or.inl (by omega)), if_pos (Or.inl (by omega))]
          · rw [if_neg e5, if_neg e5]
            by_cases e6 : yKr (T t).1 = 5
            · rw [if_pos e6, if_pos e6]
              by_cases z : dp < 12
              · exact yfnc_sh (yfrom_sh (hP z)) dp base tb base' tb' t b
              · unfold yfnc
                by_cases hb : b = 0
                · rw [if_pos hb, if_pos hb]
                · rw [if_neg hb, if_neg hb, if_pos (Or.inr (Or.inl (by omega))), if_pos (Or.inr (Or.inl (by omega)))]
            · rw [if_neg e6, if_neg e6]
              by_cases e7 : yKr (T t).1 = 6
              · rw [if_pos e7, if_pos e7]
                unfold yspc
                by_cases hb : b = 0
                · rw [if_pos hb, if_pos hb]
                · rw [if_neg hb, if_neg hb]
                  exact Eq.refl (Sum.inr (t + 1, b - 1))
              · rw [if_neg e7, if_neg e7]
theorem yfac_sh : ∀ rd, rd ≤ 12 → yPsh (yfac T tx nm decl O rd) (yfac T tx nm' decl' O rd) := by
  intro rd
  induction rd with
  | zero =>
    intro _ base tb base' tb' t b
    rw [yfac_e (dp := 12) rfl, yfac_e (dp := 12) rfl]
    exact yfcd_sh (fun z => absurd z (by omega)) base tb base' tb' t b
  | succ r ih =>
    intro hr base tb base' tb' t b
    rw [yfac_e (dp := 11 - r) (by omega), yfac_e (dp := 11 - r) (by omega)]
    exact yfcd_sh (fun _ => ih (by omega)) base tb base' tb' t b
theorem yexp_sh {rd : Nat} (hr : rd ≤ 12) : yPsh (yexp T tx nm decl O rd) (yexp T tx nm' decl' O rd) := yfrom_sh (yfac_sh rd hr)
end YSHL
end YSH
