/-! taken from whole by wip/p27/slice2.py: 79.fac2.lean.txt -/
section YFB
def ysa (r : Nat ⊕ (Nat × Nat × yAr)) : Nat ⊕ (Nat × Nat) := match r with
  | .inl p => .inl p
  | .inr (t, b, _) => .inr (t, b)
/-- a factor of a factor's depth -/
def yfcd (T : yTk) (tx : Nat → Nat → List Int) (nm : Int64 → Option (Nat × Nat × Bool)) (decl : Bool) (O : yOp) (dp : Nat) (P : Nat → Nat → Nat → Nat → yPr) (base tb t b : Nat) : yPr := if (T t).1 = 63 then ynum T t b else if (T t).1 = 64 then ytxt T tx tb t b else if (T t).1 = 62 then ynme T nm t b else if (T t).1 = 52 ∨ (T t).1 = 36 then yfrn T O P (if (T t).1 = 52 then 19 else 18) dp base tb t b else if (T t).1 = 46 then ypar T (yfrom T O P 0) dp base tb t b else if yKr (T t).1 = 5 then yfnc T O (yfrom T O P 0) dp base tb t b else if yKr (T t).1 = 6 then yspc T decl t b else .inl (T t).2.1
def ypv (T : yTk) (tx : Nat → Nat → List Int) (nm : Int64 → Option (Nat × Nat × Bool)) (decl : Bool) (O : yOp) (rd : Nat) : Nat → Nat → Nat → Nat → yPr := match rd with
  | 0 => fun _ _ t _ => .inl (T t).2.1
  | r + 1 => yfac T tx nm decl O r
section YFBL
variable {q : yQ} {d : Nat} {js : List xO} {S0 S : yS} {T : yTk} {N u : Nat} {w : Int} {Rm : Nat → Nat → Nat} {Rx : Nat → Nat} {s : Nat} {tx : Nat → Nat → List Int} {nm : Int64 → Option (Nat × Nat × Bool)} {decl : Bool} {O : yOp} {P : Nat → Nat → Nat → Nat → yPr}
theorem yfac_e {rd dp base tb t b : Nat} (hd : dp + rd = 12) : yfac T tx nm decl O rd base tb t b = yfcd T tx nm decl O dp (ypv T tx nm decl O rd) base tb t b := by
  unfold yfcd
  cases rd with
  | zero =>
    have h12 : 12 ≤ dp := by omega
    unfold yfac
    by_cases e1 : (T t).1 = 63
    · rw [if_pos e1, if_pos e1]; rfl
    · rw [if_neg e1, if_neg e1]
      by_cases e2 : (T t).1 = 64
      · rw [if_pos e2, if_pos e2]; rfl
      · rw [if_neg e2, if_neg e2]
        by_cases e3 : (T t).1 = 62
        · rw [if_pos e3, if_pos e3]; rfl
        · rw [if_neg e3, if_neg e3]
          by_cases e4 : (T t).1 = 52 ∨ (T t).1 = 36
          · rw [if_pos e4, if_pos e4]
            unfold yfrn
            rw [if_pos (Or.inl h12)]
          · rw [if_neg e4, if_neg e4]
            by_cases e5 : (T t).1 = 46
            · rw [if_pos e5, if_pos e5]
              unfold ypar
              rw [if_pos (Or.inl h12)]
            · rw [if_neg e5, if_neg e5]
              by_cases e6 : yKr (T t).1 = 5
              · rw [if_pos e6, if_pos e6]
                unfold yfnc
                by_cases hb : b = 0
                · rw [if_pos hb, if_pos hb]
                · rw [if_neg hb, if_neg hb, if_pos (Or.inr (Or.inl h12))]
                  split <;> rfl
              · rw [if_neg e6, if_neg e6]; rfl
  | succ r =>
    have h12 : ¬ 12 ≤ dp := by omega
    unfold yfac
    by_cases e1 : (T t).1 = 63
    · rw [if_pos e1, if_pos e1]; rfl
    · rw [if_neg e1, if_neg e1]
      by_cases e2 : (T t).1 = 64
      · rw [if_pos e2, if_pos e2]; rfl
      · rw [if_neg e2, if_neg e2]
        by_cases e3 : (T t).1 = 62
        · rw [if_pos e3, if_pos e3]; rfl
        · rw [if_neg e3, if_neg e3]
          by_cases e4 : (T t).1 = 52 ∨ (T t).1 = 36
          · rw [if_pos e4, if_pos e4]
            unfold yfrn
            by_cases hb : b = 0
            · rw [if_pos (Or.inr hb)]
              exact if_pos hb
            · rw [if_neg (show ¬ (12 ≤ dp ∨ b = 0) by omega)]
              exact (if_neg hb).trans rfl
          · rw [if_neg e4, if_neg e4]
            by_cases e5 : (T t).1 = 46
            · rw [if_pos e5, if_pos e5]
              unfold ypar
              by_cases hb : b = 0
              · rw [if_pos (Or.inr hb)]
                exact if_pos hb
              · rw [if_neg (show ¬ (12 ≤ dp ∨ b = 0) by omega)]
                exact (if_neg hb).trans rfl
            · rw [if_neg e5, if_neg e5]
              by_cases e6 : yKr (T t).1 = 5
              · rw [if_pos e6, if_pos e6]
                unfold yfnc
                by_cases hb : b = 0
                · rw [if_pos hb, if_pos hb]
                · rw [if_neg hb, if_neg hb]
                  by_cases e7 : (T (t + 1)).1 = 46
                  · rw [if_neg (fun v => v e7)]
                    by_cases e8 : b = 1
                    · rw [if_pos (Or.inr (Or.inr (by omega)))]
                      exact if_pos e8
                    · rw [if_neg (by omega)]
                      refine (if_neg e8).trans ?_
                      rfl
                  · rw [if_pos e7, if_pos (Or.inl e7)]
              · rw [if_neg e6, if_neg e6]; rfl
/-- at no token nothing is read -/
theorem yfcd_66 {dp base tb t b : Nat} (h : (T t).1 = 66) : yfcd T tx nm decl O dp P base tb t b = .inl (T t).2.1 := by
  unfold yfcd
  have k5 : ¬ yKr 66 = 5 := by decide
  have k6 : ¬ yKr 66 = 6 := by decide
  rw [h, if_neg (by omega), if_neg (by omega), if_neg (by omega), if_neg (by omega), if_neg (by omega), if_neg k5, if_neg k6]
theorem ypv_66 {rd base tb t b : Nat} (hr : rd ≤ 13) (h : (T t).1 = 66) : ypv T tx nm decl O rd base tb t b = .inl (T t).2.1 := by
  match rd with
  | 0 => rfl
  | r + 1 =>
    show yfac T tx nm decl O r base tb t b = _
    rw [yfac_e (dp := 12 - r) (by omega)]
    exact yfcd_66 h
theorem ylev_66 {lv : Int} {base tb t b p : Nat} (h : P base tb t b = .inl p) : ylev T O lv P base tb t b = .inl p := by
  unfold ylev
  rw [h]
theorem yfrom_66 {base tb t b p : Nat} (h : P base tb t b = .inl p) : yfrom T O P 0 base tb t b = .inl p := ylev_66 (ylev_66 (ylev_66 (ylev_66 (ylev_66 h))))
/-- arguments' sizes -/
theorem yargs_in (hP : yPin P) (f : Nat) : ∀ (base tb base' tb' t b : Nat) (a a' : yAr), ysa (yargs T P f base tb t b a) = ysa (yargs T P f base' tb' t b a') := by
  induction f with
  | zero => intros; rfl
  | succ f ih =>
    intro base tb base' tb' t b a a'
    have h := hP (base + yarl a) (tb + yart a) (base' + yarl a') (tb' + yart a') t b
    unfold yargs
    match h1 : P (base + yarl a) (tb + yart a) t b, h2 : P (base' + yarl a') (tb' + yart a') t b with
    | .inl p, .inl p' => rw [h1, h2] at h; exact h
    | .inl p, .inr (t', b', m') => rw [h1, h2] at h; nomatch h
    | .inr (t1, b1, m1), .inl p => rw [h1, h2] at h; nomatch h
    | .inr (t1, b1, m1), .inr (t', b', m') =>
      rw [h1, h2] at h
      have h : (Sum.inr (t1, b1) : Nat ⊕ (Nat × Nat)) = .inr (t', b') := h
      injection h with h
      injection h with e1 e2
      subst e1
      subst e2
      show ysa (if (T t1).1 = 48 then _ else _) = ysa (if (T t1).1 = 48 then _ else _)
      by_cases z : (T t1).1 = 48
      · rw [if_pos z, if_pos z]
        by_cases zb : b1 = 0
        · rw [if_pos zb, if_pos zb]
        · rw [if_neg zb, if_neg zb]
          exact ih _ _ _ _ _ _ _ _
      · rw [if_neg z, if_neg z]
        rfl
theorem yfnc_in (hP : yPin P) (dp : Nat) : yPin (yfnc T O P dp) := by
  intro base tb base' tb' t b
  unfold yfnc
  by_cases hb : b = 0
  · rw [if_pos hb, if_pos hb]
  · rw [if_neg hb, if_neg hb]
    by_cases z : (T (t + 1)).1 ≠ 46 ∨ 12 ≤ dp ∨ b - 1 = 0
    · rw [if_pos z, if_pos z]
    · rw [if_neg z, if_neg z]
      have h := yargs_in (T := T) hP 100 base tb base' tb' (t + 2) (b - 1 - 1) (.inr ([], [], [], fun _ => some [])) (.inr ([], [], [], fun _ => some []))
      match h1 : yargs T P 100 base tb (t + 2) (b - 1 - 1) (.inr ([], [], [], fun _ => some [])), h2 : yargs T P 100 base' tb' (t + 2) (b - 1 - 1) (.inr ([], [], [], fun _ => some [])) with
      | .inl p, .inl p' => rw [h1, h2] at h; exact h
      | .inl p, .inr (t', b', m') => rw [h1, h2] at h; nomatch h
      | .inr (t1, b1, m1), .inl p => rw [h1, h2] at h; nomatch h
      | .inr (t1, b1, a1), .inr (t', b', a') =>
        rw [h1, h2] at h
        have h : (Sum.inr (t1, b1) : Nat ⊕ (Nat × Nat)) = .inr (t', b') := h
        injection h with h
        injection h with e1 e2
        subst e1
        subst e2
        show ysh (yclo T t1 b1 _) = ysh (yclo T t1 b1 _)
        unfold yclo
        split
        · split <;> rfl
        · rfl
theorem yargs_ok (hT : yTo T N) (hR : yRoom T N Rm Rx s) (hP : yPok N Rm Rx s tx P) {base tb : Nat} (f : Nat) : ∀ (t b t' b' : Nat) (a a' : yAr), t < N → yargs T P f base tb t b a = .inr (t', b', a') → t' < N ∧ b' ≤ b ∧ Rm t' b' ≤ Rm t b ∧ Rx t ≤ Rx t' ∧ ∀ ts seg txs g, a' = .inr (ts, seg, txs, g) → ∃ ts0 seg0 txs0 g0, a = .inr (ts0, seg0, txs0, g0) ∧ seg.length + Rm t' b' ≤ seg0.length + Rm t b ∧ ytl tx txs + Rx t ≤ ytl tx txs0 + Rx t' := by
  induction f with
  | zero =>
    intro t b t' b' a a' ht h
    injection h with h
    injection h with e1 h
    injection h with e2 e3
    subst e1
    subst e2
    subst e3
    exact ⟨ht, Nat.le_refl _, Nat.le_refl _, Nat.le_refl _, fun ts seg txs g e => ⟨ts, seg, txs, g, e, Nat.le_refl _, Nat.le_refl _⟩⟩
  | succ f ih =>
    intro t b t' b' a a' ht h
    unfold yargs at h
    match hp : P (base + yarl a) (tb + yart a) t b with
    | .inl p =>
      rw [hp] at h
      nomatch h
    | .inr (t1, b1, m) =>
      rw [hp] at h
      obtain ⟨p1, p2, p3, p4, p5⟩ := hP _ _ _ _ _ _ _ ht hp
      have h : (if (T t1).1 = 48 then (if b1 = 0 then (.inl (T t1).2.1 : Nat ⊕ (Nat × Nat × yAr)) else yargs T P f base tb (t1 + 1) (b1 - 1) (yapp a m)) else .inr (t1, b1, yapp a m)) = .inr (t', b', a') := h
      -- one argument more
      have one : ∀ ts seg txs g, yapp a m = .inr (ts, seg, txs, g) → ∃ ts0 seg0 txs0 g0, a = .inr (ts0, seg0, txs0, g0) ∧ seg.length + Rm t1 b1 ≤ seg0.length + Rm t b ∧ ytl tx txs + Rx t ≤ ytl tx txs0 + Rx t1 := by
        intro ts seg txs g e
        match a, m, e, p5 with
        | .inr (ts0, seg0, txs0, g0), .inr x, e, p5 =>
          obtain ⟨x1, x2, x3⟩ := p5 x rfl
          have e : (Sum.inr (ts0 ++ [x.1], seg0 ++ x.2.2.1, txs0 ++ x.2.2.2.1, _) : yAr) = .inr (ts, seg, txs, g) := e
          injection e with e
          injection e with e1 e
          injection e with e2 e
          injection e with e3 e
          subst e2
          subst e3
          exact ⟨ts0, seg0, txs0, g0, rfl, by rw [List.length_append]; omega, by rw [ytl_app]; omega⟩
      by_cases z : (T t1).1 = 48
      · rw [if_pos z] at h
        by_cases zb : b1 = 0
        · rw [if_pos zb] at h
          nomatch h
        · rw [if_neg zb] at h
          have ht1 := yTo_t hT p1 (by omega)
          have R := hR.2.2 t1 b1 ht1 (by omega)
          have R3 := (R.2.2 (by omega)).1
          have R1 := R.1
          obtain ⟨w1, w2, w3, w4, w5⟩ := ih (t1 + 1) (b1 - 1) t' b' (yapp a m) a' ht1 h
          refine ⟨w1, by omega, by omega, by omega, fun ts seg txs g e => ?_⟩
          obtain ⟨ts1, seg1, txs1, g1, v1, v2, v3⟩ := w5 ts seg txs g e
          obtain ⟨ts0, seg0, txs0, g0, u1, u2, u3⟩ := one ts1 seg1 txs1 g1 v1
          exact ⟨ts0, seg0, txs0, g0, u1, by omega, by omega⟩
      · rw [if_neg z] at h
        injection h with h
        injection h with e1 h
        injection h with e2 e3
        subst e1
        subst e2
        subst e3
        exact ⟨p1, p2, p3, p4, one⟩
theorem yfnc_ok {base tb t b t' b' dp : Nat} {m : yMn} (hT : yTo T N) (hR : yRoom T N Rm Rx s) (hP : yPok N Rm Rx s tx P) (ht : t < N) (h64 : (T t).1 ≤ 64) (h : yfnc T O P dp base tb t b = .inr (t', b', m)) : t' < N ∧ b' ≤ b ∧ Rm t' b' ≤ Rm t b ∧ Rx t ≤ Rx t' ∧ ∀ x, m = .inr x → yWf x ∧ x.2.2.1.length + s + Rm t' b' ≤ Rm t b ∧ ytl tx x.2.2.2.1 + Rx t ≤ Rx t' := by
  have ht1 := yTo_t hT ht h64
  unfold yfnc at h
  by_cases hb : b = 0
  · rw [if_pos hb] at h
    nomatch h
  · rw [if_neg hb] at h
    by_cases z : (T (t + 1)).1 ≠ 46 ∨ 12 ≤ dp ∨ b - 1 = 0
    · rw [if_pos z] at h
      nomatch h
    · rw [if_neg z] at h
      have z46 : (T (t + 1)).1 = 46 := by omega
      have ht2 := yTo_t hT ht1 (by omega)
      have A := hR.2.2 t b ht1 h64
      have A1 := A.1
      have A3 := (A.2.2 (by omega)).1
      have B := hR.2.2 (t + 1) (b - 1) ht2 (by omega)
      have B1 := B.1
      have B3 := (B.2.2 (by omega)).1
      match hy : yargs T P 100 base tb (t + 2) (b - 1 - 1) (.inr ([], [], [], fun _ => some [])) with
      | .inl p =>
        rw [hy] at h
        nomatch h
      | .inr (t1, b1, a) =>
        rw [hy] at h
        obtain ⟨w1, w2, w3, w4, w5⟩ := yargs_ok hT hR hP 100 (t + 2) (b - 1 - 1) t1 b1 _ a ht2 hy
        have h : yclo T t1 b1 (yfun O (T t).1 (T t).2.1 a) = .inr (t', b', m) := h
        unfold yclo at h
        by_cases z1 : (T t1).1 = 47
        · rw [if_pos z1] at h
          by_cases z2 : b1 = 0
          · rw [if_pos z2] at h
            nomatch h
          · rw [if_neg z2] at h
            obtain ⟨h1, h2, h3⟩ := yinr h
            have ht3 := yTo_t hT w1 (by omega)
            have C := hR.2.2 t1 b1 ht3 (by omega)
            have C1 := C.1
            have C3 := (C.2.2 (by omega)).1
            have e2 : t + 1 + 1 = t + 2 := rfl
            rw [e2] at B3 B1
            rw [← h1, ← h2, ← h3]
            refine ⟨ht3, by omega, by omega, by omega, fun x hx => ?_⟩
            match a, hx, w5 with
            | .inr (ts, seg, txs, g), hx, w5 =>
              rw [yfun_r] at hx
              split at hx
              · injection hx with hx
                subst hx
                obtain ⟨ts0, seg0, txs0, g0, v1, v2, v3⟩ := w5 ts seg txs g rfl
                injection v1 with v1
                injection v1 with _ v1
                injection v1 with v4 v1
                injection v1 with v5 _
                subst v4
                subst v5
                have v2 : seg.length + Rm t1 b1 ≤ 0 + Rm (t + 2) (b - 1 - 1) := v2
                have v3 : ytl tx txs + Rx (t + 2) ≤ 0 + Rx t1 := v3
                refine ⟨fun v hv => (nomatch hv), ?_, ?_⟩
                · show (seg ++ [(yop (T t).1, (0 : Int64))]).length + s + Rm (t1 + 1) (b1 - 1) ≤ Rm t b
                  rw [List.length_append]
                  show seg.length + 1 + s + Rm (t1 + 1) (b1 - 1) ≤ Rm t b
                  omega
                · show ytl tx txs + Rx t ≤ Rx (t1 + 1)
                  omega
              · nomatch hx
        · rw [if_neg z1] at h
          nomatch h
/-- a factor's sizes -/
theorem yfcd_ok {dp : Nat} (hT : yTo T N) (hR : yRoom T N Rm Rx s) (htx : ∀ t, t < N → (T t).1 = 64 → (tx ((T t).2.1 + 1) (T t).2.2.toInt.toNat).length ≤ (T t).2.2.toInt.toNat) (hP : dp < 12 → yPok N Rm Rx s tx P) (hF : dp < 12 → yPok N Rm Rx s tx (yfrom T O P 0)) : yPok N Rm Rx s tx (yfcd T tx nm decl O dp P) := by
  intro base tb t b t' b' m ht h
  have h67 := (hT.2.2.2.2 t ht).2
  unfold yfcd at h
  by_cases e1 : (T t).1 = 63
  · rw [if_pos e1] at h
    exact ynum_ok hT hR ht (by omega) h
  · rw [if_neg e1] at h
    by_cases e2 : (T t).1 = 64
    · rw [if_pos e2] at h
      exact ytxt_ok hT hR ht e2 (htx t ht e2) h
    · rw [if_neg e2] at h
      by_cases e3 : (T t).1 = 62
      · rw [if_pos e3] at h
        exact ynme_ok hT hR ht (by omega) h
      · rw [if_neg e3] at h
        by_cases e4 : (T t).1 = 52 ∨ (T t).1 = 36
        · rw [if_pos e4] at h
          by_cases z : dp < 12
          · exact yfrn_ok hT hR (hP z) ht (by omega) h
          · unfold yfrn at h
            rw [if_pos (Or.inl (by omega))] at h
            nomatch h
        · rw [if_neg e4] at h
          by_cases e5 : (T t).1 = 46
          · rw [if_pos e5] at h
            by_cases z : dp < 12
            · exact ypar_ok hT hR (hF z) ht (by omega) h
            · unfold ypar at h
              rw [if_pos (Or.inl (by omega))] at h
              nomatch h
          · rw [if_neg e5] at h
            by_cases e6 : yKr (T t).1 = 5
            · rw [if_pos e6] at h
              by_cases z : dp < 12
              · exact yfnc_ok hT hR (hF z) ht (yk5 _ h67 e6).1 h
              · unfold yfnc at h
                by_cases hb : b = 0
                · rw [if_pos hb] at h
                  nomatch h
                · rw [if_neg hb, if_pos (Or.inr (Or.inl (by omega)))] at h
                  nomatch h
            · rw [if_neg e6] at h
              by_cases e7 : yKr (T t).1 = 6
              · rw [if_pos e7] at h
                have k6 : ∀ kd : Nat, kd < 67 → yKr kd = 6 → kd ≤ 64 := by decide
                exact yspc_ok hT hR ht (k6 _ h67 e7) h
              · rw [if_neg e7] at h
                nomatch h
theorem yfcd_in {dp : Nat} (hP : dp < 12 → yPin P) (hF : dp < 12 → yPin (yfrom T O P 0)) : yPin (yfcd T tx nm decl O dp P) := by
  intro base tb base' tb' t b
  unfold yfcd
  by_cases e1 : (T t).1 = 63
  · rw [if_pos e1, if_pos e1]
  · rw [if_neg e1, if_neg e1]
    by_cases e2 : (T t).1 = 64
    · rw [if_pos e2, if_pos e2]
      by_cases hb : b = 0
      · unfold ytxt
        rw [if_pos hb, if_pos hb]
      · unfold ytxt
        rw [if_neg hb, if_neg hb]
        exact Eq.refl (Sum.inr (t + 1, b - 1))
    · rw [if_neg e2, if_neg e2]
      by_cases e3 : (T t).1 = 62
      · rw [if_pos e3, if_pos e3]
      · rw [if_neg e3, if_neg e3]
        by_cases e4 : (T t).1 = 52 ∨ (T t).1 = 36
        · rw [if_pos e4, if_pos e4]
          by_cases z : dp < 12
          · exact yfrn_in (hP z) _ dp base tb base' tb' t b
          · unfold yfrn
            rw [if_pos (Or.inl (by omega)), if_pos (Or.inl (by omega))]
        · rw [if_neg e4, if_neg e4]
          by_cases e5 : (T t).1 = 46
          · rw [if_pos e5, if_pos e5]
            by_cases z : dp < 12
            · exact ypar_in (hF z) dp base tb base' tb' t b
            · unfold ypar
              rw [if_pos (Or.inl (by omega)), if_pos (Or.inl (by omega))]
          · rw [if_neg e5, if_neg e5]
            by_cases e6 : yKr (T t).1 = 5
            · rw [if_pos e6, if_pos e6]
              by_cases z : dp < 12
              · exact yfnc_in (hF z) dp base tb base' tb' t b
              · unfold yfnc
                by_cases hb : b = 0
                · rw [if_pos hb, if_pos hb]
                · rw [if_neg hb, if_neg hb, if_pos (Or.inr (Or.inl (by omega))), if_pos (Or.inr (Or.inl (by omega)))]
            · rw [if_neg e6, if_neg e6]
end YFBL
end YFB
