/-! taken from whole by wip/p27/slice2.py: 63b.step.lean.txt -/
section YST
/-- room for code and texts: what a token takes -/
def yRoom (T : yTk) (N : Nat) (Rm : Nat → Nat → Nat) (Rx : Nat → Nat) (s : Nat) : Prop := 1 ≤ s ∧ s ≤ 2 ∧ ∀ t b, t + 1 < N → (T t).1 ≤ 64 → Rx t + 1 ≤ Rx (t + 1) ∧ ((T t).1 = 64 → Rx t + 2 + (T t).2.2.toInt.toNat ≤ Rx (t + 1)) ∧ (0 < b → Rm (t + 1) (b - 1) + 1 + s ≤ Rm t b ∧ ((T t).1 = 34 ∨ (T t).1 = 35 → Rm (t + 1) (b - 1) + 5 ≤ Rm t b + s))
/-- what a meaning's parts have in common -/
def yWf (x : yX) : Prop := ∀ v, x.2.1 = some v → x.1 = false ∧ x.2.2.1 = [(0, v)] ∧ x.2.2.2.1 = []
def ytl (tx : Nat → Nat → List Int) (txs : List (Nat × Nat)) : Nat := ((yTexts tx txs).map List.length).sum + 2 * txs.length
def yPok (N : Nat) (Rm : Nat → Nat → Nat) (Rx : Nat → Nat) (s : Nat) (tx : Nat → Nat → List Int) (P : Nat → Nat → Nat → Nat → yPr) : Prop := ∀ base tb t b t' b' m, t < N → P base tb t b = .inr (t', b', m) → t' < N ∧ b' ≤ b ∧ Rm t' b' ≤ Rm t b ∧ Rx t ≤ Rx t' ∧ ∀ x, m = .inr x → yWf x ∧ x.2.2.1.length + s + Rm t' b' ≤ Rm t b ∧ ytl tx x.2.2.2.1 + Rx t ≤ Rx t'
/-- what holds between operators -/
def yvst (u : Nat) (Rm : Nat → Nat → Nat) (Rx : Nat → Nat) (s : Nat) (tx : Nat → Nat → List Int) (base tb : Nat) (k : yK9) (l : yMn) (t b r : Nat) : Prop := ∀ L X, k = .inr (L, X) → base = L.length ∧ tb = X.length ∧ ∀ x, l = .inr x → yWf x ∧ ((L.length + x.2.2.1.length + s + Rm t b : Nat) : Int) ≤ capu u ∧ (X.map List.length).sum + 2 * X.length + ytl tx x.2.2.2.1 ≤ Rx t ∧ r = yty x
/-- one operator and its right operand -/
def yvsp (T : yTk) (O : yOp) (sub : Nat → Nat → Nat → Nat → yPr) (base tb t b : Nat) (l : yMn) : yPr := if b = 0 then .inl (T t).2.1 else match sub (yrbs base (T t).1 l) (yrtx tb l) (t + 1) (b - 1) with
  | .inl p => .inl p
  | .inr (t2, b2, r) => .inr (t2, b2, ycomb O base (T t).1 (T t).2.1 l r)
theorem ywn_dead (p x y pl : Nat) : ywn (.inl p) x y pl = .inl p := by
  unfold ywn
  split <;> rfl
theorem ywn_err (t b x y pl : Nat) (e : Nat × Nat) : ywn (.inr (t, b, .inl e)) x y pl = .inr (t, b, .inl e) := by
  unfold ywn
  split <;> rfl
theorem ysl_all (X : List (List Int)) : ysl X X.length = (X.map List.length).sum := by
  unfold ysl
  rw [List.take_length]
theorem ytl_app (tx : Nat → Nat → List Int) (a b : List (Nat × Nat)) : ytl tx (a ++ b) = ytl tx a + ytl tx b := by
  unfold ytl yTexts
  rw [List.map_append, List.map_append, List.sum_append, List.length_append]
  omega
theorem ytx_app (tx : Nat → Nat → List Int) (a b : List (Nat × Nat)) : yTexts tx (a ++ b) = yTexts tx a ++ yTexts tx b := by
  unfold yTexts
  rw [List.map_append]
theorem ytx_len (tx : Nat → Nat → List Int) (a : List (Nat × Nat)) : (yTexts tx a).length = a.length := by
  unfold yTexts
  rw [List.length_map]
theorem yty_1 {x : yX} (h : x.1 = true) : yty x = 1 := by
  unfold yty
  rw [if_pos h]
theorem yty_n1 {x : yX} (h : ¬ x.1 = true) : yty x ≠ 1 := by
  unfold yty
  rw [if_neg h]
  split <;> omega
theorem yty_i {x : yX} : yty x = 1 ↔ x.1 = true := ⟨fun h => Classical.byContradiction fun n => yty_n1 n h, yty_1⟩
theorem ysb {t : Nat} (T : yTk) (k : yK9) : ynx T (.inr (t, 0, k)) = .inl (T t).2.1 := rfl
theorem ysn {t b : Nat} (T : yTk) (k : yK9) (h : b ≠ 0) : ynx T (.inr (t, b, k)) = .inr (t + 1, b - 1, k) := by
  exact if_neg h
section YSTL
variable {T : yTk} {N u : Nat} {Rm : Nat → Nat → Nat} {Rx : Nat → Nat} {s : Nat} {tx : Nat → Nat → List Int} {O : yOp} {P : Nat → Nat → Nat → Nat → yPr}
/-- or -/
theorem sOr {base tb t b r r1 r4 r6 pl : Nat} {k : yK9} {l : yMn} {m6 : yMo} (hR : yRoom T N Rm Rx s) (hP : yPok N Rm Rx s tx P) (hI : yvst u Rm Rx s tx base tb k l t b r) (ht : t + 1 < N) (hkd : (T t).1 = 34) (hpl : pl = (T t).2.1) (i1 : ∀ t' b' L X, ynx T (.inr (t, b, ykm k tx l)) = .inr (t', b', .inr (L, X)) → r1 = L.length) (i4 : ∀ t' b' L X, yadm u (yadm u (ynx T (.inr (t, b, ykm k tx l))) 29 0) 0 1 = .inr (t', b', .inr (L, X)) → r4 = L.length) (h6 : ysf u Rm Rx tx P N (ycode (yadm u (yadm u (yadm u (ynx T (.inr (t, b, ykm k tx l))) 29 0) 0 1) 28 0) (yset r1)) m6 r6) : ywn (ycode (yadm u (yadm u m6 18 0) 18 0) (yset r4)) r r6 pl = ymode k tx (yvsp T O P base tb t b l) ∧ ∀ L X, k = .inr (L, X) → ∀ t' b' x, yvsp T O P base tb t b l = .inr (t', b', .inr x) → 0 = yty x := by
  obtain ⟨q1, q2, q3⟩ := h6
  subst hpl
  by_cases hb : b = 0
  · subst hb
    rw [ysb] at q2
    rw [q2 (T t).2.1 rfl]
    refine ⟨ywn_dead _ _ _ _, fun L X hk t' b' x hx => ?_⟩
    unfold yvsp at hx
    rw [if_pos rfl] at hx
    nomatch hx
  · rw [ysn T _ hb] at i1 i4 q3
    have es : yvsp T O P base tb t b l = match P (yrbs base 34 l) (yrtx tb l) (t + 1) (b - 1) with
      | .inl p => .inl p
      | .inr (t2, b2, r) => .inr (t2, b2, ycomb O base 34 (T t).2.1 l r) := by
      unfold yvsp
      rw [if_neg hb, hkd]
    rw [es]
    have er : ∀ e, ykm k tx l = .inl e → ∀ r', ykm k tx (ycomb O base 34 (T t).2.1 l r') = .inl e ∧ ∀ L X, k = .inr (L, X) → ∀ x, ycomb O base 34 (T t).2.1 l r' ≠ .inr x := by
      intro e he r'
      match k, l, he with
      | .inl e0, l, he => exact ⟨he, fun L X hk => nomatch hk⟩
      | .inr (L, X), .inl e0, he => exact ⟨he, fun _ _ _ x hx => nomatch hx⟩
    match hk1 : ykm k tx l with
    | .inl e =>
      rw [hk1] at q3
      obtain ⟨g1, g2⟩ := q3 (t + 1) (b - 1) (.inl e) rfl (yrbs base 34 l) (yrtx tb l) (fun L X hk => nomatch hk)
      rw [g1]
      match hp : P (yrbs base 34 l) (yrtx tb l) (t + 1) (b - 1) with
      | .inl p => exact ⟨ywn_dead _ _ _ _, fun L X hk t' b' x hx => nomatch hx⟩
      | .inr (t2, b2, r') =>
        refine ⟨?_, fun L X hk t' b' x hx => ?_⟩
        · show ywn (.inr (t2, b2, .inl e)) r r6 _ = .inr (t2, b2, ykm k tx (ycomb O base 34 (T t).2.1 l r'))
          rw [ywn_err, (er e hk1 r').1]
        · have hx : (Sum.inr (t2, b2, ycomb O base 34 (T t).2.1 l r') : yPr) = .inr (t', b', .inr x) := hx
          injection hx with hx
          injection hx with _ hx
          injection hx with _ hx
          exact ((er e hk1 r').2 L X hk x hx).elim
    | .inr (L1, X1) =>
      match k, l, hk1, hI with
      | .inr (L, X), .inr x, hk1, hI =>
        have e1 : L ++ x.2.2.1 = L1 ∧ X ++ yTexts tx x.2.2.2.1 = X1 := by
          injection hk1 with hk1
          injection hk1 with a1 a2
          exact ⟨a1, a2⟩
        obtain ⟨e1, e2⟩ := e1
        obtain ⟨b1, b2, b3⟩ := hI L X rfl
        obtain ⟨b3, b4, b5, b6⟩ := b3 x rfl
        obtain ⟨s1, s2, hR⟩ := hR
        obtain ⟨R1, R2, R3⟩ := hR t b ht (by omega)
        obtain ⟨R3, R4⟩ := R3 (by omega)
        have R4 := R4 (Or.inl hkd)
        have l1 : L1.length = L.length + x.2.2.1.length := by rw [← e1, List.length_append]
        rw [hk1] at i1 i4 q3
        have c1 : (L1.length : Int) < capu u := by omega
        have c2 : ((L1 ++ [(29, 0)] : yCo).length : Int) < capu u := by rw [List.length_append]; simp only [List.length_cons, List.length_nil]; omega
        have c3 : ((L1 ++ [(29, 0)] ++ [(0, 1)] : yCo).length : Int) < capu u := by rw [List.length_append, List.length_append]; simp only [List.length_cons, List.length_nil]; omega
        rw [yadm_in c1, yadm_in c2] at i4 q3
        rw [yadm_in c3] at q3
        have j1 : r1 = L1.length := i1 _ _ _ _ rfl
        have j4 : r4 = (L1 ++ [(29, 0)] ++ [(0, 1)] : yCo).length := i4 _ _ _ _ rfl
        have a5 : yset r1 (L1 ++ [(29, 0)] ++ [(0, 1)] ++ [(28, 0)]) = L1 ++ [(29, ya64 (L1.length + 3)), (0, 1), (28, 0)] := by
          rw [List.append_assoc, List.append_assoc, j1]
          refine (yset_at (B := [(0, 1), (28, 0)])).trans ?_
          rw [List.length_append]
          rfl
        have q3 := q3 (t + 1) (b - 1) (.inr (yset r1 (L1 ++ [(29, 0)] ++ [(0, 1)] ++ [(28, 0)]), X1)) rfl (yrbs base 34 (.inr x)) (yrtx tb (.inr x)) (by
          intro L' X' hk'
          injection hk' with hk'
          injection hk' with k1 k2
          subst k2
          rw [← k1, a5, List.length_append]
          refine ⟨?_, ?_, ?_, ?_⟩
          · show base + x.2.2.1.length + _ = _
            rw [if_pos rfl, l1, b1]
            rfl
          · show tb + _ = _
            rw [← e2, List.length_append, ytx_len, b2]
          · simp only [List.length_cons, List.length_nil]
            omega
          · rw [ysl_all, ← e2, List.map_append, List.sum_append, List.length_append, ytx_len]
            unfold ytl at b5
            omega)
        obtain ⟨g1, g2⟩ := q3
        rw [a5] at g1 g2
        rw [g1]
        match hp : P (yrbs base 34 (.inr x)) (yrtx tb (.inr x)) (t + 1) (b - 1) with
        | .inl p => exact ⟨ywn_dead _ _ _ _, fun L X hk t' b' x hx => nomatch hx⟩
        | .inr (t2, b2', .inl e) =>
          refine ⟨?_, fun L X hk t' b' x hx => nomatch hx⟩
          show ywn (.inr (t2, b2', .inl e)) r r6 _ = _
          rw [ywn_err]
          rfl
        | .inr (t2, b2', .inr y) =>
          obtain ⟨p1, p2, p3, p4, p5⟩ := hP _ _ _ _ _ _ _ ht hp
          obtain ⟨p5, p6, p7⟩ := p5 y rfl
          have g2 := g2 _ _ rfl t2 b2' y hp
          have z1 : ((L1 ++ [(29, ya64 (L1.length + 3)), (0, 1), (28, 0)] ++ y.2.2.1 : yCo).length : Int) < capu u := by rw [List.length_append, List.length_append]; simp only [List.length_cons, List.length_nil]; omega
          have z2 : ((L1 ++ [(29, ya64 (L1.length + 3)), (0, 1), (28, 0)] ++ y.2.2.1 ++ [(18, 0)] : yCo).length : Int) < capu u := by rw [List.length_append, List.length_append, List.length_append]; simp only [List.length_cons, List.length_nil]; omega
          show ywn (ycode (yadm u (yadm u (.inr (t2, b2', .inr (L1 ++ [(29, ya64 (L1.length + 3)), (0, 1), (28, 0)] ++ y.2.2.1, X1 ++ yTexts tx y.2.2.2.1))) 18 0) 18 0) (yset r4)) r r6 _ = _ ∧ _
          rw [yadm_in z1, yadm_in z2]
          have a9 : yset r4 (L1 ++ [(29, ya64 (L1.length + 3)), (0, 1), (28, 0)] ++ y.2.2.1 ++ [(18, 0)] ++ [(18, 0)]) = L1 ++ [(29, ya64 (L1.length + 3)), (0, 1), (28, ya64 (L1.length + 3 + y.2.2.1.length + 2))] ++ y.2.2.1 ++ [(18, 0), (18, 0)] := by
            have e : (L1 ++ [(29, ya64 (L1.length + 3)), (0, 1), (28, 0)] ++ y.2.2.1 ++ [(18, 0)] ++ [(18, 0)] : yCo) = (L1 ++ [(29, ya64 (L1.length + 3)), (0, 1)]) ++ (28, 0) :: (y.2.2.1 ++ [(18, 0), (18, 0)]) := by simp
            have e' : r4 = (L1 ++ [(29, ya64 (L1.length + 3)), (0, 1)] : yCo).length := by rw [j4]; simp
            rw [e, e', yset_at]
            have el : (L1 ++ [(29, ya64 (L1.length + 3)), (0, 1)] ++ (28, (0 : Int64)) :: (y.2.2.1 ++ [(18, 0), (18, 0)]) : yCo).length = L1.length + 3 + y.2.2.1.length + 2 := by
              simp only [List.length_append, List.length_cons, List.length_nil]
              omega
            rw [el]
            simp
          show ywn (.inr (t2, b2', .inr (yset r4 (L1 ++ [(29, ya64 (L1.length + 3)), (0, 1), (28, 0)] ++ y.2.2.1 ++ [(18, 0)] ++ [(18, 0)]), X1 ++ yTexts tx y.2.2.2.1))) r r6 _ = .inr (t2, b2', ykm (.inr (L, X)) tx (ycomb O base 34 (T t).2.1 (.inr x) (.inr y))) ∧ _
          rw [a9]
          have ec : ycomb O base 34 (T t).2.1 (.inr x) (.inr y) = if (x.1 || y.1) = true then .inl (3, (T t).2.1) else .inr (false, none, x.2.2.1 ++ [(29, ya64 (base + x.2.2.1.length + 3)), (0, 1), (28, ya64 (base + x.2.2.1.length + 3 + y.2.2.1.length + 2))] ++ y.2.2.1 ++ [(18, 0), (18, 0)], x.2.2.2.1 ++ y.2.2.2.1, ydor x.2.2.2.2 y.2.2.2.2) := rfl
          unfold ywn
          by_cases zz : r = 1 ∨ r6 = 1
          · have zx : (x.1 || y.1) = true := by
              rw [Bool.or_eq_true, ← yty_i, ← yty_i, ← b6, ← g2]
              exact zz
            rw [if_pos zx] at ec
            rw [if_pos zz, ec]
            refine ⟨rfl, fun L' X' hk' t' b' x' hx' => ?_⟩
            have hx' : (Sum.inr (t2, b2', ycomb O base 34 (T t).2.1 (.inr x) (.inr y)) : yPr) = .inr (t', b', .inr x') := hx'
            rw [ec] at hx'
            nomatch hx'
          · have zx : ¬ (x.1 || y.1) = true := by
              rw [Bool.or_eq_true, ← yty_i, ← yty_i, ← b6, ← g2]
              exact zz
            rw [if_neg zx] at ec
            rw [if_neg zz, ec]
            refine ⟨?_, fun L' X' hk' t' b' x' hx' => ?_⟩
            · show _ = (Sum.inr (t2, b2', Sum.inr (L ++ (x.2.2.1 ++ _ ++ _ ++ _), X ++ yTexts tx (x.2.2.2.1 ++ y.2.2.2.1))) : yMo)
              rw [ytx_app, ← e1, ← e2, b1]
              simp only [List.length_append, List.append_assoc]
            · have hx' : (Sum.inr (t2, b2', ycomb O base 34 (T t).2.1 (.inr x) (.inr y)) : yPr) = .inr (t', b', .inr x') := hx'
              rw [ec] at hx'
              injection hx' with hx'
              injection hx' with _ hx'
              injection hx' with _ hx'
              injection hx' with hx'
              subst hx'
              rfl
end YSTL
end YST
