/-! taken from whole by wip/p27/slice2.py: 63d.step.lean.txt -/
section YSV
theorem yty_2 {x : yX} (hw : yWf x) : yty x = 2 ↔ ∃ v, x.2.1 = some v := by
  unfold yty
  constructor
  · intro h
    by_cases z : x.1 = true
    · rw [if_pos z] at h
      omega
    · rw [if_neg z] at h
      match hv : x.2.1 with
      | some v => exact ⟨v, rfl⟩
      | none =>
        rw [hv] at h
        have h : (0 : Nat) = 2 := h
        omega
  · rintro ⟨v, hv⟩
    have := (hw v hv).1
    rw [if_neg (by rw [this]; decide), hv]
theorem ycomb_op {O : yOp} {base kd pl : Nat} {x y : yX} (h1 : kd ≠ 34) (h2 : kd ≠ 35) (h3 : kd ≠ 56) : ycomb O base kd pl (.inr x) (.inr y) = if (if yKr kd = 2 then x.1 != y.1 else x.1 || y.1) then .inl (3, pl) else match x.2.1, y.2.1 with
      | some a, some b => if (yop kd = 9 ∨ yop kd = 10) ∧ b = 0 then .inr (false, none, x.2.2.1 ++ y.2.2.1 ++ [(yop kd, 0)], x.2.2.2.1 ++ y.2.2.2.1, yd2 O (yop kd) x.2.2.2.2 y.2.2.2.2) else .inr (ycn (ycal (yop kd) a b))
      | _, _ => .inr (false, none, x.2.2.1 ++ y.2.2.1 ++ [(yop kd, 0)], x.2.2.2.1 ++ y.2.2.2.1, yd2 O (yop kd) x.2.2.2.2 y.2.2.2.2) := by
  exact (if_neg h1).trans ((if_neg h2).trans (if_neg h3))
theorem yk3 : ∀ kd : Nat, kd < 67 → 2 ≤ yKr kd ∧ yKr kd ≤ 4 → kd ≠ 34 ∧ kd ≠ 35 := by decide
section YSVL
variable {T : yTk} {N u : Nat} {Rm : Nat → Nat → Nat} {Rx : Nat → Nat} {s : Nat} {tx : Nat → Nat → List Int} {O : yOp} {P : Nat → Nat → Nat → Nat → yPr}
theorem sOp {base tb t b r r6 rr lv : Nat} {k : yK9} {l : yMn} {m6 m7 m' : yMo} (hR : yRoom T N Rm Rx s) (hP : yPok N Rm Rx s tx P) (hI : yvst u Rm Rx s tx base tb k l t b r) (ht : t + 1 < N) (h67 : (T t).1 < 67) (hlv : yKr (T t).1 = lv) (hl2 : 2 ≤ lv ∧ lv ≤ 4) (h56 : (T t).1 ≠ 56) (h6 : ysf u Rm Rx tx P N (ynx T (.inr (t, b, ykm k tx l))) m6 r6) (h7 : m7 = (if lv = 2 ∧ r = 1 ∧ r6 = 1 then m6 else ywn m6 r r6 (T t).2.1)) (g1 : ¬ (r = 2 ∧ r6 = 2) → m' = yadm u m7 (yop (T t).1) 0 ∧ rr = 0) (g2 : r = 2 ∧ r6 = 2 → (∀ p, m7 = .inl p → m' = m7) ∧ (∀ t b e, m7 = .inr (t, b, .inl e) → m' = m7) ∧ ∀ t' b' A a c X, m7 = .inr (t', b', .inr (A ++ [(0, a), (0, c)], X)) → if (yop (T t).1 = 9 ∨ yop (T t).1 = 10) ∧ c = 0 then m' = yadm u m7 (yop (T t).1) 0 ∧ rr = 0 else m' = .inr (t', b', .inr (A ++ [(0, ycal (yop (T t).1) a c)], X)) ∧ rr = 2) : m' = ymode k tx (yvsp T O P base tb t b l) ∧ ∀ L X, k = .inr (L, X) → ∀ t' b' x, yvsp T O P base tb t b l = .inr (t', b', .inr x) → rr = yty x := by
  obtain ⟨q1, q2, q3⟩ := h6
  obtain ⟨n34, n35⟩ := yk3 _ h67 (by omega)
  have gd : ∀ p, m7 = .inl p → m' = .inl p := by
    intro p hp
    by_cases z : r = 2 ∧ r6 = 2
    · rw [(g2 z).1 p hp, hp]
    · rw [(g1 z).1, hp]
      rfl
  have ge : ∀ t' b' e, m7 = .inr (t', b', .inl e) → m' = .inr (t', b', .inl e) := by
    intro t' b' e hp
    by_cases z : r = 2 ∧ r6 = 2
    · rw [(g2 z).2.1 t' b' e hp, hp]
    · rw [(g1 z).1, hp]
      rfl
  have fd : ∀ p, m6 = .inl p → m7 = .inl p := by
    intro p hp
    rw [h7, hp]
    split
    · rfl
    · exact ywn_dead _ _ _ _
  have fe : ∀ t' b' e, m6 = .inr (t', b', .inl e) → m7 = .inr (t', b', .inl e) := by
    intro t' b' e hp
    rw [h7, hp]
    split
    · rfl
    · exact ywn_err _ _ _ _ _ _
  by_cases hb : b = 0
  · subst hb
    rw [ysb] at q2
    exact ⟨gd _ (fd _ (q2 (T t).2.1 rfl)), fun L X hk t' b' x hx => nomatch hx⟩
  · rw [ysn T _ hb] at q3
    rw [ysp_s hb]
    match hk1 : ykm k tx l with
    | .inl e =>
      rw [hk1] at q3
      obtain ⟨a1, a2⟩ := q3 (t + 1) (b - 1) (.inl e) rfl (yrbs base (T t).1 l) (yrtx tb l) (fun L X hk => nomatch hk)
      match hp : P (yrbs base (T t).1 l) (yrtx tb l) (t + 1) (b - 1) with
      | .inl p =>
        rw [hp] at a1
        exact ⟨gd _ (fd _ a1), fun L X hk t' b' x hx => nomatch hx⟩
      | .inr (t2, b2, r') =>
        rw [hp] at a1
        refine ⟨?_, fun L X hk t' b' x hx => ((yer hk1 _ _ _ r').2 L X hk x (yinr hx).2.2).elim⟩
        rw [ge t2 b2 e (fe _ _ _ a1)]
        show _ = (Sum.inr (t2, b2, ykm k tx (ycomb O base (T t).1 (T t).2.1 l r')) : yMo)
        rw [(yer hk1 _ _ _ r').1]
    | .inr (L1, X1) =>
      match k, l, hk1, hI with
      | .inr (L, X), .inr x, hk1, hI =>
        have e1 : L ++ x.2.2.1 = L1 ∧ X ++ yTexts tx x.2.2.2.1 = X1 := by
          injection hk1 with hk1
          injection hk1 with a1 a2
          exact ⟨a1, a2⟩
        obtain ⟨e1, e2⟩ := e1
        obtain ⟨b1, b2, b3⟩ := hI L X rfl
        obtain ⟨b3, b4, b5, b6⟩ := b3 x rfl
        obtain ⟨s1, s2, hR⟩ := hR
        obtain ⟨R1, R2, R3⟩ := hR t b ht (yk64 _ h67 (by omega))
        obtain ⟨R3, R4⟩ := R3 (by omega)
        have l1 : L1.length = L.length + x.2.2.1.length := by rw [← e1, List.length_append]
        rw [hk1] at q3
        have er : yrbs base (T t).1 (.inr x) = L1.length := by
          show base + x.2.2.1.length + (if (T t).1 = 34 then 3 else if (T t).1 = 35 then 1 else if (T t).1 = 56 ∧ x.1 = false then 1 else 0) = L1.length
          rw [if_neg n34, if_neg n35, if_neg (fun z => h56 z.1)]
          omega
        have q3 := q3 (t + 1) (b - 1) (.inr (L1, X1)) rfl (yrbs base (T t).1 (.inr x)) (yrtx tb (.inr x)) (by
          intro L' X' hk'
          injection hk' with hk'
          injection hk' with k1 k2
          subst k2
          rw [← k1, er]
          refine ⟨rfl, ?_, ?_, ?_⟩
          · show tb + _ = _
            rw [← e2, List.length_append, ytx_len, b2]
          · omega
          · rw [ysl_all, ← e2, List.map_append, List.sum_append, List.length_append, ytx_len]
            unfold ytl at b5
            omega)
        obtain ⟨a1, a2⟩ := q3
        match hp : P (yrbs base (T t).1 (.inr x)) (yrtx tb (.inr x)) (t + 1) (b - 1) with
        | .inl p =>
          rw [hp] at a1
          exact ⟨gd _ (fd _ a1), fun L X hk t' b' x hx => nomatch hx⟩
        | .inr (t2, b2', .inl e) =>
          rw [hp] at a1
          refine ⟨?_, fun L X hk t' b' x hx => nomatch hx⟩
          rw [ge t2 b2' e (fe _ _ _ a1)]
          rfl
        | .inr (t2, b2', .inr y) =>
          obtain ⟨p1, p2, p3, p4, p5⟩ := hP _ _ _ _ _ _ _ ht hp
          obtain ⟨p5, p6, p7⟩ := p5 y rfl
          have a2 := a2 _ _ rfl t2 b2' y hp
          rw [hp] at a1
          have a1 : m6 = .inr (t2, b2', .inr (L1 ++ y.2.2.1, X1 ++ yTexts tx y.2.2.2.1)) := a1
          have z1 : ((L1 ++ y.2.2.1 : yCo).length : Int) < capu u := by rw [List.length_append]; omega
          have ec := ycomb_op (O := O) (base := base) (pl := (T t).2.1) (x := x) (y := y) n34 n35 h56
          have ew : ∀ {M : yMn}, ycomb O base (T t).1 (T t).2.1 (.inr x) (.inr y) = M → m' = .inr (t2, b2', ykm (.inr (L, X)) tx M) → (∀ x', M = .inr x' → rr = yty x') → m' = ymode (.inr (L, X)) tx (match (Sum.inr (t2, b2', Sum.inr y) : yPr) with
              | .inl p => .inl p
              | .inr (t2, b2, r) => .inr (t2, b2, ycomb O base (T t).1 (T t).2.1 (.inr x) r)) ∧ ∀ L' X', (Sum.inr (L, X) : yK9) = .inr (L', X') → ∀ t' b' x', (match (Sum.inr (t2, b2', Sum.inr y) : yPr) with
              | .inl p => .inl p
              | .inr (t2, b2, r) => .inr (t2, b2, ycomb O base (T t).1 (T t).2.1 (.inr x) r) : yPr) = .inr (t', b', .inr x') → rr = yty x' := by
            intro M hM hm hx
            refine ⟨?_, fun L' X' _ t' b' x' hx' => hx x' ?_⟩
            · rw [hm]
              show _ = (Sum.inr (t2, b2', ykm (.inr (L, X)) tx (ycomb O base (T t).1 (T t).2.1 (.inr x) (.inr y))) : yMo)
              rw [hM]
            · have := (yinr (m := ycomb O base (T t).1 (T t).2.1 (.inr x) (.inr y)) hx').2.2
              rw [hM] at this
              exact this
          have hx1 := yty_i (x := x)
          have hy1 := yty_i (x := y)
          have hc : ((if yKr (T t).1 = 2 then x.1 != y.1 else x.1 || y.1) = true) ↔ (r = 1 ∨ r6 = 1) ∧ ¬ (lv = 2 ∧ r = 1 ∧ r6 = 1) := by
            rw [b6, a2, hx1, hy1, hlv]
            by_cases z2 : lv = 2
            · rw [if_pos (by omega)]
              cases x.1 <;> cases y.1 <;> simp [z2]
            · rw [if_neg (by omega)]
              cases x.1 <;> cases y.1 <;> simp [z2]
          by_cases zz : (r = 1 ∨ r6 = 1) ∧ ¬ (lv = 2 ∧ r = 1 ∧ r6 = 1)
          · rw [if_pos (hc.mpr zz)] at ec
            refine ew ec ?_ (fun x' hx' => nomatch hx')
            refine ge t2 b2' (3, (T t).2.1) ?_
            rw [h7, if_neg zz.2, a1]
            unfold ywn
            rw [if_pos zz.1]
            rfl
          · rw [if_neg (fun w => zz (hc.mp w))] at ec
            have h7 : m7 = m6 := by
              rw [h7]
              split
              · rfl
              · next w =>
                unfold ywn
                rw [if_neg (fun v => zz ⟨v, w⟩)]
            rw [a1] at h7
            have plain : m' = yadm u m7 (yop (T t).1) 0 → rr = 0 → m' = .inr (t2, b2', ykm (.inr (L, X)) tx (.inr (false, none, x.2.2.1 ++ y.2.2.1 ++ [(yop (T t).1, 0)], x.2.2.2.1 ++ y.2.2.2.1, yd2 O (yop (T t).1) x.2.2.2.2 y.2.2.2.2))) ∧ ∀ x', (.inr (false, none, x.2.2.1 ++ y.2.2.1 ++ [(yop (T t).1, 0)], x.2.2.2.1 ++ y.2.2.2.1, yd2 O (yop (T t).1) x.2.2.2.2 y.2.2.2.2) : yMn) = .inr x' → rr = yty x' := by
              intro hm hr
              refine ⟨?_, fun x' hx' => ?_⟩
              · rw [hm, h7, yadm_in z1]
                show _ = (Sum.inr (t2, b2', Sum.inr (L ++ (x.2.2.1 ++ y.2.2.1 ++ [(yop (T t).1, 0)]), X ++ yTexts tx (x.2.2.2.1 ++ y.2.2.2.1))) : yMo)
                rw [ytx_app, ← e1, ← e2]
                simp only [List.append_assoc]
              · injection hx' with hx'
                subst hx'
                exact hr
            by_cases z2 : r = 2 ∧ r6 = 2
            · obtain ⟨a, ha⟩ := (yty_2 b3).mp (by rw [← b6]; exact z2.1)
              obtain ⟨c, hc2⟩ := (yty_2 p5).mp (by rw [← a2]; exact z2.2)
              rw [ha, hc2] at ec
              have ec : ycomb O base (T t).1 (T t).2.1 (.inr x) (.inr y) = if (yop (T t).1 = 9 ∨ yop (T t).1 = 10) ∧ c = 0 then .inr (false, none, x.2.2.1 ++ y.2.2.1 ++ [(yop (T t).1, 0)], x.2.2.2.1 ++ y.2.2.2.1, yd2 O (yop (T t).1) x.2.2.2.2 y.2.2.2.2) else .inr (ycn (ycal (yop (T t).1) a c)) := ec
              obtain ⟨w1, w2, w3⟩ := b3 a ha
              obtain ⟨v1, v2, v3⟩ := p5 c hc2
              have g3 := (g2 z2).2.2 t2 b2' L a c X (by
                rw [h7, ← e1, ← e2, w2, v2, w3, v3]
                show (Sum.inr (t2, b2', Sum.inr (L ++ [(0, a)] ++ [(0, c)], X ++ [] ++ [])) : yMo) = _
                simp only [List.append_assoc, List.append_nil, List.cons_append, List.nil_append])
              by_cases z9 : (yop (T t).1 = 9 ∨ yop (T t).1 = 10) ∧ c = 0
              · rw [if_pos z9] at ec g3
                obtain ⟨u1, u2⟩ := plain g3.1 g3.2
                exact ew ec u1 u2
              · rw [if_neg z9] at ec g3
                refine ew ec ?_ (fun x' hx' => ?_)
                · rw [g3.1]
                  show _ = (Sum.inr (t2, b2', Sum.inr (L ++ [(0, ycal (yop (T t).1) a c)], X ++ [])) : yMo)
                  rw [List.append_nil]
                · injection hx' with hx'
                  subst hx'
                  exact g3.2
            · obtain ⟨u1, u2⟩ := plain (g1 z2).1 (g1 z2).2
              refine ew ?_ u1 u2
              rw [ec]
              match hx : x.2.1, hy : y.2.1 with
              | some a, some c => exact (z2 ⟨by rw [b6]; exact (yty_2 b3).mpr ⟨a, hx⟩, by rw [a2]; exact (yty_2 p5).mpr ⟨c, hy⟩⟩).elim
              | none, _ => rfl
              | some a, none => rfl
end YSVL
end YSV
