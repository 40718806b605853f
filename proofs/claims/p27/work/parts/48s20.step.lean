/-! taken from whole by wip/p27/slice2.py: 63c.step.lean.txt -/
section YSU
theorem yset_len {A B : yCo} {n op : Nat} {a : Int64} (h : n = A.length) : yset n (A ++ (op, a) :: B) = A ++ (op, ya64 (A.length + 1 + B.length)) :: B := by
  rw [h, yset_at]
  have : (A ++ (op, a) :: B : yCo).length = A.length + 1 + B.length := by
    rw [List.length_append, List.length_cons]
    omega
  rw [this]
theorem yer {O : yOp} {tx : Nat → Nat → List Int} {k : yK9} {l : yMn} {e : Nat × Nat} (he : ykm k tx l = .inl e) (base kd pl : Nat) (r' : yMn) : ykm k tx (ycomb O base kd pl l r') = .inl e ∧ ∀ L X, k = .inr (L, X) → ∀ x, ycomb O base kd pl l r' ≠ .inr x := by
  match k, l, he with
  | .inl e0, l, he => exact ⟨he, fun L X hk => nomatch hk⟩
  | .inr (L, X), .inl e0, he => exact ⟨he, fun _ _ _ x hx => nomatch hx⟩
theorem ysp_0 {T : yTk} {O : yOp} {P : Nat → Nat → Nat → Nat → yPr} {base tb t : Nat} {l : yMn} : yvsp T O P base tb t 0 l = .inl (T t).2.1 := rfl
theorem ysp_s {T : yTk} {O : yOp} {P : Nat → Nat → Nat → Nat → yPr} {base tb t b : Nat} {l : yMn} (hb : b ≠ 0) : yvsp T O P base tb t b l = match P (yrbs base (T t).1 l) (yrtx tb l) (t + 1) (b - 1) with
      | .inl p => .inl p
      | .inr (t2, b2, r) => .inr (t2, b2, ycomb O base (T t).1 (T t).2.1 l r) := by
  unfold yvsp
  rw [if_neg hb]
  rfl
theorem yinr {t b t' b' : Nat} {m m' : yMn} (h : (Sum.inr (t, b, m) : yPr) = .inr (t', b', m')) : t = t' ∧ b = b' ∧ m = m' := by
  injection h with h
  injection h with h1 h
  injection h with h2 h3
  exact ⟨h1, h2, h3⟩
section YSUL
variable {T : yTk} {N u : Nat} {Rm : Nat → Nat → Nat} {Rx : Nat → Nat} {s : Nat} {tx : Nat → Nat → List Int} {O : yOp} {P : Nat → Nat → Nat → Nat → yPr}
/-- and -/
theorem sAnd {base tb t b r r1 r3 r5 r6 pl : Nat} {k : yK9} {l : yMn} {m6 : yMo} (hR : yRoom T N Rm Rx s) (hP : yPok N Rm Rx s tx P) (hI : yvst u Rm Rx s tx base tb k l t b r) (ht : t + 1 < N) (hkd : (T t).1 = 35) (hpl : pl = (T t).2.1) (i1 : ∀ t' b' L X, ynx T (.inr (t, b, ykm k tx l)) = .inr (t', b', .inr (L, X)) → r1 = L.length) (i3 : ∀ t' b' L X, m6 = .inr (t', b', .inr (L, X)) → r3 = L.length) (i5 : ∀ t' b' L X, yadm u (yadm u m6 29 0) 0 1 = .inr (t', b', .inr (L, X)) → r5 = L.length) (h6 : ysf u Rm Rx tx P N (yadm u (ynx T (.inr (t, b, ykm k tx l))) 29 0) m6 r6) : ywn (ycode (yadm u (ycode (ycode (yadm u (yadm u (yadm u m6 29 0) 0 1) 28 0) (yset r1)) (yset r3)) 0 0) (yset r5)) r r6 pl = ymode k tx (yvsp T O P base tb t b l) ∧ ∀ L X, k = .inr (L, X) → ∀ t' b' x, yvsp T O P base tb t b l = .inr (t', b', .inr x) → 0 = yty x := by
  obtain ⟨q1, q2, q3⟩ := h6
  subst hpl
  by_cases hb : b = 0
  · subst hb
    rw [ysb] at q2
    rw [q2 (T t).2.1 rfl]
    exact ⟨ywn_dead _ _ _ _, fun L X hk t' b' x hx => nomatch hx⟩
  · rw [ysn T _ hb] at i1 q3
    rw [ysp_s hb, hkd]
    match hk1 : ykm k tx l with
    | .inl e =>
      rw [hk1] at q3
      obtain ⟨g1, g2⟩ := q3 (t + 1) (b - 1) (.inl e) rfl (yrbs base 35 l) (yrtx tb l) (fun L X hk => nomatch hk)
      rw [g1]
      match hp : P (yrbs base 35 l) (yrtx tb l) (t + 1) (b - 1) with
      | .inl p => exact ⟨ywn_dead _ _ _ _, fun L X hk t' b' x hx => nomatch hx⟩
      | .inr (t2, b2, r') =>
        refine ⟨?_, fun L X hk t' b' x hx => ((yer hk1 _ _ _ r').2 L X hk x (yinr hx).2.2).elim⟩
        show ywn (.inr (t2, b2, .inl e)) r r6 _ = .inr (t2, b2, ykm k tx (ycomb O base 35 (T t).2.1 l r'))
        rw [ywn_err, (yer hk1 _ _ _ r').1]
    | .inr (L1, X1) =>
      match k, l, hk1, hI with
      | .inr (L, X), .inr x, hk1, hI =>
        have e1 : L ++ x.2.2.1 = L1 ∧ X ++ yTexts tx x.2.2.2.1 = X1 := by
          injection hk1 with hk1
          injection hk1 with a1 a2
          exact ⟨a1, a2⟩
        obtain ⟨e1, e2⟩ := e1
        obtain ⟨b1, b2, b3⟩ := hI L X rfl
        obtain ⟨b3, b4, b5, b6⟩ := b3 x rfl
        obtain ⟨s1, s2, hR⟩ := hR
        obtain ⟨R1, R2, R3⟩ := hR t b ht (by omega)
        obtain ⟨R3, R4⟩ := R3 (by omega)
        have R4 := R4 (Or.inr hkd)
        have l1 : L1.length = L.length + x.2.2.1.length := by rw [← e1, List.length_append]
        rw [hk1] at i1 q3
        have c1 : (L1.length : Int) < capu u := by omega
        rw [yadm_in c1] at q3
        have j1 : r1 = L1.length := i1 _ _ _ _ rfl
        have q3 := q3 (t + 1) (b - 1) (.inr (L1 ++ [(29, 0)], X1)) rfl (yrbs base 35 (.inr x)) (yrtx tb (.inr x)) (by
          intro L' X' hk'
          injection hk' with hk'
          injection hk' with k1 k2
          subst k2
          rw [← k1, List.length_append]
          refine ⟨?_, ?_, ?_, ?_⟩
          · show base + x.2.2.1.length + 1 = L1.length + 1
            omega
          · show tb + _ = _
            rw [← e2, List.length_append, ytx_len, b2]
          · simp only [List.length_cons, List.length_nil]
            omega
          · rw [ysl_all, ← e2, List.map_append, List.sum_append, List.length_append, ytx_len]
            unfold ytl at b5
            omega)
        obtain ⟨g1, g2⟩ := q3
        match hp : P (yrbs base 35 (.inr x)) (yrtx tb (.inr x)) (t + 1) (b - 1) with
        | .inl p =>
          rw [g1, hp]
          exact ⟨ywn_dead _ _ _ _, fun L X hk t' b' x hx => nomatch hx⟩
        | .inr (t2, b2', .inl e) =>
          rw [g1, hp]
          refine ⟨?_, fun L X hk t' b' x hx => nomatch hx⟩
          show ywn (.inr (t2, b2', .inl e)) r r6 _ = _
          rw [ywn_err]
          rfl
        | .inr (t2, b2', .inr y) =>
          obtain ⟨p1, p2, p3, p4, p5⟩ := hP _ _ _ _ _ _ _ ht hp
          obtain ⟨p5, p6, p7⟩ := p5 y rfl
          have g2 := g2 _ _ rfl t2 b2' y hp
          rw [hp] at g1
          have g1 : m6 = .inr (t2, b2', .inr (L1 ++ [(29, 0)] ++ y.2.2.1, X1 ++ yTexts tx y.2.2.2.1)) := g1
          have z1 : ((L1 ++ [(29, 0)] ++ y.2.2.1 : yCo).length : Int) < capu u := by rw [List.length_append, List.length_append]; simp only [List.length_cons, List.length_nil]; omega
          have z2 : ((L1 ++ [(29, 0)] ++ y.2.2.1 ++ [(29, 0)] : yCo).length : Int) < capu u := by rw [List.length_append, List.length_append, List.length_append]; simp only [List.length_cons, List.length_nil]; omega
          have z3 : ((L1 ++ [(29, 0)] ++ y.2.2.1 ++ [(29, 0)] ++ [(0, 1)] : yCo).length : Int) < capu u := by rw [List.length_append, List.length_append, List.length_append, List.length_append]; simp only [List.length_cons, List.length_nil]; omega
          rw [g1] at i3 i5 ⊢
          rw [yadm_in z1, yadm_in z2] at i5 ⊢
          rw [yadm_in z3]
          have j3 : r3 = (L1 ++ [(29, 0)] ++ y.2.2.1 : yCo).length := i3 _ _ _ _ rfl
          have j5 : r5 = (L1 ++ [(29, 0)] ++ y.2.2.1 ++ [(29, 0)] ++ [(0, 1)] : yCo).length := i5 _ _ _ _ rfl
          have a6 : yset r1 (L1 ++ [(29, 0)] ++ y.2.2.1 ++ [(29, 0)] ++ [(0, 1)] ++ [(28, 0)]) = L1 ++ (29, ya64 (L1.length + 1 + y.2.2.1.length + 3)) :: (y.2.2.1 ++ [(29, 0), (0, 1), (28, 0)]) := by
            have e : (L1 ++ [(29, 0)] ++ y.2.2.1 ++ [(29, 0)] ++ [(0, 1)] ++ [(28, 0)] : yCo) = L1 ++ (29, 0) :: (y.2.2.1 ++ [(29, 0), (0, 1), (28, 0)]) := by simp
            rw [e, yset_len j1]
            have : L1.length + 1 + (y.2.2.1 ++ [(29, 0), (0, 1), (28, 0)] : yCo).length = L1.length + 1 + y.2.2.1.length + 3 := by
              simp only [List.length_append, List.length_cons, List.length_nil]
              omega
            rw [this]
          have a7 : yset r3 (L1 ++ (29, ya64 (L1.length + 1 + y.2.2.1.length + 3)) :: (y.2.2.1 ++ [(29, 0), (0, 1), (28, 0)])) = L1 ++ [(29, ya64 (L1.length + 1 + y.2.2.1.length + 3))] ++ y.2.2.1 ++ (29, ya64 (L1.length + 1 + y.2.2.1.length + 3)) :: [(0, 1), (28, 0)] := by
            have e : (L1 ++ (29, ya64 (L1.length + 1 + y.2.2.1.length + 3)) :: (y.2.2.1 ++ [(29, 0), (0, 1), (28, 0)]) : yCo) = (L1 ++ [(29, ya64 (L1.length + 1 + y.2.2.1.length + 3))] ++ y.2.2.1) ++ (29, 0) :: [(0, 1), (28, 0)] := by simp
            have en : r3 = (L1 ++ [(29, ya64 (L1.length + 1 + y.2.2.1.length + 3))] ++ y.2.2.1 : yCo).length := by rw [j3]; simp
            rw [e, yset_len en]
            have : (L1 ++ [(29, ya64 (L1.length + 1 + y.2.2.1.length + 3))] ++ y.2.2.1 : yCo).length + 1 + ([(0, 1), (28, 0)] : yCo).length = L1.length + 1 + y.2.2.1.length + 3 := by
              simp only [List.length_append, List.length_cons, List.length_nil]
            rw [this]
          have z4 : ((L1 ++ [(29, ya64 (L1.length + 1 + y.2.2.1.length + 3))] ++ y.2.2.1 ++ (29, ya64 (L1.length + 1 + y.2.2.1.length + 3)) :: [(0, 1), (28, 0)] : yCo).length : Int) < capu u := by
            simp only [List.length_append, List.length_cons, List.length_nil]
            omega
          have a8 : yset r5 (L1 ++ [(29, ya64 (L1.length + 1 + y.2.2.1.length + 3))] ++ y.2.2.1 ++ (29, ya64 (L1.length + 1 + y.2.2.1.length + 3)) :: [(0, 1), (28, 0)] ++ [(0, 0)]) = L1 ++ [(29, ya64 (L1.length + 1 + y.2.2.1.length + 3))] ++ y.2.2.1 ++ [(29, ya64 (L1.length + 1 + y.2.2.1.length + 3)), (0, 1), (28, ya64 (L1.length + 1 + y.2.2.1.length + 4)), (0, 0)] := by
            have e : (L1 ++ [(29, ya64 (L1.length + 1 + y.2.2.1.length + 3))] ++ y.2.2.1 ++ (29, ya64 (L1.length + 1 + y.2.2.1.length + 3)) :: [(0, 1), (28, 0)] ++ [(0, 0)] : yCo) = (L1 ++ [(29, ya64 (L1.length + 1 + y.2.2.1.length + 3))] ++ y.2.2.1 ++ [(29, ya64 (L1.length + 1 + y.2.2.1.length + 3)), (0, 1)]) ++ (28, 0) :: [(0, 0)] := by simp
            have en : r5 = (L1 ++ [(29, ya64 (L1.length + 1 + y.2.2.1.length + 3))] ++ y.2.2.1 ++ [(29, ya64 (L1.length + 1 + y.2.2.1.length + 3)), (0, 1)] : yCo).length := by rw [j5]; simp
            rw [e, yset_len en]
            have : (L1 ++ [(29, ya64 (L1.length + 1 + y.2.2.1.length + 3))] ++ y.2.2.1 ++ [(29, ya64 (L1.length + 1 + y.2.2.1.length + 3)), (0, 1)] : yCo).length + 1 + ([(0, 0)] : yCo).length = L1.length + 1 + y.2.2.1.length + 4 := by
              simp only [List.length_append, List.length_cons, List.length_nil]
            rw [this]
            simp
          show ywn (ycode (yadm u (.inr (t2, b2', .inr (yset r3 (yset r1 (L1 ++ [(29, 0)] ++ y.2.2.1 ++ [(29, 0)] ++ [(0, 1)] ++ [(28, 0)])), X1 ++ yTexts tx y.2.2.2.1))) 0 0) (yset r5)) r r6 _ = _ ∧ _
          rw [a6, a7, yadm_in z4]
          show ywn (.inr (t2, b2', .inr (yset r5 (L1 ++ [(29, ya64 (L1.length + 1 + y.2.2.1.length + 3))] ++ y.2.2.1 ++ (29, ya64 (L1.length + 1 + y.2.2.1.length + 3)) :: [(0, 1), (28, 0)] ++ [(0, 0)]), X1 ++ yTexts tx y.2.2.2.1))) r r6 _ = .inr (t2, b2', ykm (.inr (L, X)) tx (ycomb O base 35 (T t).2.1 (.inr x) (.inr y))) ∧ _
          rw [a8]
          have ec : ycomb O base 35 (T t).2.1 (.inr x) (.inr y) = if (x.1 || y.1) = true then .inl (3, (T t).2.1) else .inr (false, none, x.2.2.1 ++ [(29, ya64 (base + x.2.2.1.length + 1 + y.2.2.1.length + 3))] ++ y.2.2.1 ++ [(29, ya64 (base + x.2.2.1.length + 1 + y.2.2.1.length + 3)), (0, 1), (28, ya64 (base + x.2.2.1.length + 1 + y.2.2.1.length + 4)), (0, 0)], x.2.2.2.1 ++ y.2.2.2.1, ydand x.2.2.2.2 y.2.2.2.2) := rfl
          unfold ywn
          by_cases zz : r = 1 ∨ r6 = 1
          · have zx : (x.1 || y.1) = true := by
              rw [Bool.or_eq_true, ← yty_i, ← yty_i, ← b6, ← g2]
              exact zz
            rw [if_pos zx] at ec
            rw [if_pos zz, ec]
            refine ⟨rfl, fun L' X' hk' t' b' x' hx' => ?_⟩
            have hx' := (yinr (m := ycomb O base 35 (T t).2.1 (.inr x) (.inr y)) hx').2.2
            rw [ec] at hx'
            nomatch hx'
          · have zx : ¬ (x.1 || y.1) = true := by
              rw [Bool.or_eq_true, ← yty_i, ← yty_i, ← b6, ← g2]
              exact zz
            rw [if_neg zx] at ec
            rw [if_neg zz, ec]
            refine ⟨?_, fun L' X' hk' t' b' x' hx' => ?_⟩
            · show _ = (Sum.inr (t2, b2', Sum.inr (L ++ (x.2.2.1 ++ _ ++ _ ++ _), X ++ yTexts tx (x.2.2.2.1 ++ y.2.2.2.1))) : yMo)
              rw [ytx_app, ← e1, ← e2, b1]
              simp only [List.length_append, List.append_assoc]
            · have hx' := (yinr (m := ycomb O base 35 (T t).2.1 (.inr x) (.inr y)) hx').2.2
              rw [ec] at hx'
              injection hx' with hx'
              subst hx'
              rfl
/-- & -/
theorem sCat {base tb t b r r6 : Nat} {k : yK9} {l : yMn} {m6 : yMo} (hR : yRoom T N Rm Rx s) (hP : yPok N Rm Rx s tx P) (hI : yvst u Rm Rx s tx base tb k l t b r) (ht : t + 1 < N) (hkd : (T t).1 = 56) (h6 : ysf u Rm Rx tx P N (if r = 1 then ynx T (.inr (t, b, ykm k tx l)) else yadm u (ynx T (.inr (t, b, ykm k tx l))) 23 0) m6 r6) : yadm u (if r6 = 1 then m6 else yadm u m6 23 0) 11 0 = ymode k tx (yvsp T O P base tb t b l) ∧ ∀ L X, k = .inr (L, X) → ∀ t' b' x, yvsp T O P base tb t b l = .inr (t', b', .inr x) → 1 = yty x := by
  obtain ⟨q1, q2, q3⟩ := h6
  by_cases hb : b = 0
  · subst hb
    rw [ysb] at q2
    have := q2 (T t).2.1 (by split <;> rfl)
    rw [this]
    refine ⟨?_, fun L X hk t' b' x hx => nomatch hx⟩
    split <;> rfl
  · rw [ysn T _ hb] at q3
    rw [ysp_s hb, hkd]
    match hk1 : ykm k tx l with
    | .inl e =>
      rw [hk1] at q3
      obtain ⟨g1, g2⟩ := q3 (t + 1) (b - 1) (.inl e) (by split <;> rfl) (yrbs base 56 l) (yrtx tb l) (fun L X hk => nomatch hk)
      rw [g1]
      match hp : P (yrbs base 56 l) (yrtx tb l) (t + 1) (b - 1) with
      | .inl p => exact ⟨by split <;> rfl, fun L X hk t' b' x hx => nomatch hx⟩
      | .inr (t2, b2, r') =>
        refine ⟨?_, fun L X hk t' b' x hx => ((yer hk1 _ _ _ r').2 L X hk x (yinr hx).2.2).elim⟩
        show _ = (Sum.inr (t2, b2, ykm k tx (ycomb O base 56 (T t).2.1 l r')) : yMo)
        rw [(yer hk1 _ _ _ r').1]
        split <;> rfl
    | .inr (L1, X1) =>
      match k, l, hk1, hI with
      | .inr (L, X), .inr x, hk1, hI =>
        have e1 : L ++ x.2.2.1 = L1 ∧ X ++ yTexts tx x.2.2.2.1 = X1 := by
          injection hk1 with hk1
          injection hk1 with a1 a2
          exact ⟨a1, a2⟩
        obtain ⟨e1, e2⟩ := e1
        obtain ⟨b1, b2, b3⟩ := hI L X rfl
        obtain ⟨b3, b4, b5, b6⟩ := b3 x rfl
        obtain ⟨s1, s2, hR⟩ := hR
        obtain ⟨R1, R2, R3⟩ := hR t b ht (by omega)
        obtain ⟨R3, R4⟩ := R3 (by omega)
        have l1 : L1.length = L.length + x.2.2.1.length := by rw [← e1, List.length_append]
        rw [hk1] at q3
        have c1 : (L1.length : Int) < capu u := by omega
        have hs1 : (ystr O x).1 = x.2.2.1 ++ (if r = 1 then [] else [(23, 0)]) := by
          unfold ystr
          by_cases zz : x.1 = true
          · rw [if_pos zz, if_pos (by rw [b6]; exact yty_1 zz), List.append_nil]
          · rw [if_neg zz, if_neg (by rw [b6]; exact yty_n1 zz)]
        have q3 := q3 (t + 1) (b - 1) (.inr (L ++ (ystr O x).1, X1)) (by
          rw [hs1, ← List.append_assoc, e1]
          by_cases zz : r = 1
          · rw [if_pos zz, if_pos zz, List.append_nil]
          · rw [if_neg zz, if_neg zz, yadm_in c1]) (yrbs base 56 (.inr x)) (yrtx tb (.inr x)) (by
          intro L' X' hk'
          injection hk' with hk'
          injection hk' with k1 k2
          subst k2
          rw [← k1, List.length_append]
          refine ⟨?_, ?_, ?_, ?_⟩
          · show base + x.2.2.1.length + (if (56 : Nat) = 34 then 3 else if (56 : Nat) = 35 then 1 else if (56 : Nat) = 56 ∧ x.1 = false then 1 else 0) = L.length + (ystr O x).1.length
            rw [if_neg (by decide), if_neg (by decide)]
            unfold ystr
            by_cases zz : x.1 = true
            · rw [if_pos zz, if_neg (by rw [zz]; decide)]
              show _ = L.length + x.2.2.1.length
              omega
            · rw [if_neg zz, if_pos ⟨rfl, by simpa using zz⟩, List.length_append]
              show _ = L.length + (x.2.2.1.length + 1)
              omega
          · show tb + _ = _
            rw [← e2, List.length_append, ytx_len, b2]
          · have : (ystr O x).1.length ≤ x.2.2.1.length + 1 := by
              rw [hs1, List.length_append]
              split
              · exact Nat.add_le_add_left (Nat.zero_le 1) _
              · exact Nat.le_refl _
            omega
          · rw [ysl_all, ← e2, List.map_append, List.sum_append, List.length_append, ytx_len]
            unfold ytl at b5
            omega)
        obtain ⟨g1, g2⟩ := q3
        match hp : P (yrbs base 56 (.inr x)) (yrtx tb (.inr x)) (t + 1) (b - 1) with
        | .inl p =>
          rw [g1, hp]
          refine ⟨?_, fun L X hk t' b' x hx => nomatch hx⟩
          split <;> rfl
        | .inr (t2, b2', .inl e) =>
          rw [g1, hp]
          refine ⟨?_, fun L X hk t' b' x hx => nomatch hx⟩
          split <;> rfl
        | .inr (t2, b2', .inr y) =>
          obtain ⟨p1, p2, p3, p4, p5⟩ := hP _ _ _ _ _ _ _ ht hp
          obtain ⟨p5, p6, p7⟩ := p5 y rfl
          have g2 := g2 _ _ rfl t2 b2' y hp
          rw [hp] at g1
          have g1 : m6 = .inr (t2, b2', .inr (L ++ (ystr O x).1 ++ y.2.2.1, X1 ++ yTexts tx y.2.2.2.1)) := g1
          have hl1 : (ystr O x).1.length ≤ x.2.2.1.length + 1 := by
            rw [hs1, List.length_append]
            split
            · exact Nat.add_le_add_left (Nat.zero_le 1) _
            · exact Nat.le_refl _
          have z1 : ((L ++ (ystr O x).1 ++ y.2.2.1 : yCo).length : Int) < capu u := by rw [List.length_append, List.length_append]; omega
          have hs2 : (ystr O y).1 = y.2.2.1 ++ (if r6 = 1 then [] else [(23, 0)]) := by
            unfold ystr
            by_cases zz : y.1 = true
            · rw [if_pos zz, if_pos (by rw [g2]; exact yty_1 zz), List.append_nil]
            · rw [if_neg zz, if_neg (by rw [g2]; exact yty_n1 zz)]
          have g7 : (if r6 = 1 then m6 else yadm u m6 23 0) = .inr (t2, b2', .inr (L ++ (ystr O x).1 ++ (ystr O y).1, X1 ++ yTexts tx y.2.2.2.1)) := by
            rw [g1, hs2]
            by_cases zz : r6 = 1
            · rw [if_pos zz, if_pos zz, List.append_nil]
            · rw [if_neg zz, if_neg zz, yadm_in z1, List.append_assoc, List.append_assoc]
          have hl2 : (ystr O y).1.length ≤ y.2.2.1.length + 1 := by
            rw [hs2, List.length_append]
            split
            · exact Nat.add_le_add_left (Nat.zero_le 1) _
            · exact Nat.le_refl _
          have z2 : ((L ++ (ystr O x).1 ++ (ystr O y).1 : yCo).length : Int) < capu u := by rw [List.length_append, List.length_append]; omega
          rw [g7, yadm_in z2]
          have ec : ycomb O base 56 (T t).2.1 (.inr x) (.inr y) = .inr (true, none, (ystr O x).1 ++ (ystr O y).1 ++ [(11, 0)], x.2.2.2.1 ++ y.2.2.2.1, yd2 O 11 (ystr O x).2 (ystr O y).2) := rfl
          show _ = (Sum.inr (t2, b2', ykm (.inr (L, X)) tx (ycomb O base 56 (T t).2.1 (.inr x) (.inr y))) : yMo) ∧ _
          rw [ec]
          refine ⟨?_, fun L' X' hk' t' b' x' hx' => ?_⟩
          · show _ = (Sum.inr (t2, b2', Sum.inr (L ++ ((ystr O x).1 ++ (ystr O y).1 ++ [(11, 0)]), X ++ yTexts tx (x.2.2.2.1 ++ y.2.2.2.1))) : yMo)
            rw [ytx_app, ← e2]
            simp only [List.append_assoc]
          · have hx' := (yinr (m := ycomb O base 56 (T t).2.1 (.inr x) (.inr y)) hx').2.2
            rw [ec] at hx'
            injection hx' with hx'
            subst hx'
            rfl
end YSUL
end YSU
