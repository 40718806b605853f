/-! THE REFERENCE: or, and -/
section YRV
def rOut (q : yQ) (js : List xO) (T : yTk) (N u : Nat) (sc : Int) (S : yS) (dp : Nat) (k : yRk) (o : Option xRes) (r : yPr) : Prop := match r with
  | .inl p => k = none → ∃ S', o = ythr q (ystp 1 (Int32.ofInt (p : Nat))) S' js ∧ yFr (yWv u) S S'
  | .inr (t', b', m) => match k with
    | none => ∃ (S' : yS) (n : Nat), o = yret q (vi (n : Int)) S' js ∧ yFr (yWv u) S S' ∧ rM T N u sc S' t' b' dp none ∧ n ≤ 1
    | some (L, X) => match m with
      | .inl (n, p) => ∃ S', o = ythr q (ystp (Int32.ofInt (n : Nat)) (Int32.ofInt (p : Nat))) S' js ∧ yFr (yWv u) S S'
      | .inr x => ∃ S', o = yret q (vi ((if x.1 = true then 1 else 0 : Nat) : Int)) S' js ∧ yFr (yWv u) S S' ∧ rM T N u sc S' t' b' dp (some (L ++ x.2.2.1, X ++ x.2.2.2.1)) ∧ rP S' x.2.1
theorem rOut_tr {q : yQ} {js : List xO} {T : yTk} {N u : Nat} {sc : Int} {S S1 : yS} {dp : Nat} {k : yRk} {o : Option xRes} {r : yPr} (hf : yFr (yWv u) S S1) (h : rOut q js T N u sc S1 dp k o r) : rOut q js T N u sc S dp k o r := by
  match r, k, h with
  | .inl p, k, h =>
    intro e
    obtain ⟨S', h1, h2⟩ := h e
    exact ⟨S', h1, yFr_tr hf h2⟩
  | .inr (t', b', m), none, h =>
    obtain ⟨S', n, h1, h2, h3⟩ := h
    exact ⟨S', n, h1, yFr_tr hf h2, h3⟩
  | .inr (t', b', .inl (n, p)), some (L, X), h =>
    obtain ⟨S', h1, h2⟩ := h
    exact ⟨S', h1, yFr_tr hf h2⟩
  | .inr (t', b', .inr x), some (L, X), h =>
    obtain ⟨S', h1, h2, h3⟩ := h
    exact ⟨S', h1, yFr_tr hf h2, h3⟩
def rcap (Rm : Nat → Nat → Nat) (Rx : Nat → Nat) (t b : Nat) (k : yRk) : Prop := ∀ L X, k = some (L, X) → L.length + Rm t b ≤ 4000 ∧ 2 * X.length ≤ Rx t
def rbas (base tb : Nat) (k : yRk) : Prop := ∀ L X, k = some (L, X) → base = L.length ∧ tb = X.length
def rSub (q : yQ) (js : List xO) (S0 : yS) (T : yTk) (N u : Nat) (sc : Int) (Rm : Nat → Nat → Nat) (Rx : Nat → Nat) (dp : Nat) (F : yS → Option xRes) (P : Nat → Nat → Nat → Nat → yPr) : Prop := ∀ S t b k, yFr (yWv u) S0 S → rM T N u sc S t b dp k → rcap Rm Rx t b k → ∀ base tb, rbas base tb k → rOut q js T N u sc S dp k (F S) (P base tb t b)
/-- an operand takes a token at least -/
def yPlt (P : Nat → Nat → Nat → Nat → yPr) : Prop := ∀ base tb t b t' b' m, P base tb t b = .inr (t', b', m) → b' < b
/-- between operators -/
def rls (s : Nat) (Rm : Nat → Nat → Nat) (Rx : Nat → Nat) (base tb : Nat) (k k' : yRk) (l : yMn) (t b ty : Nat) (S : yS) : Prop := ty ≤ 1 ∧ match k with
  | none => k' = none
  | some (L, X) => base = L.length ∧ tb = X.length ∧ ∃ x, l = .inr x ∧ k' = some (L ++ x.2.2.1, X ++ x.2.2.2.1) ∧ ty = (if x.1 = true then 1 else 0) ∧ rP S x.2.1 ∧ L.length + x.2.2.1.length + s + Rm t b ≤ 4000 ∧ 2 * (X.length + x.2.2.2.1.length) ≤ Rx t ∧ yWf x
theorem ylop_e {T : yTk} {O : yOp} {lv : Int} {P : Nat → Nat → Nat → Nat → yPr} {e : Nat × Nat} : ∀ (f base tb t b : Nat), (∃ p, ylop T O lv P f base tb t b (.inl e) = .inl p) ∨ ∃ t' b', ylop T O lv P f base tb t b (.inl e) = .inr (t', b', .inl e)
  | 0, base, tb, t, b => Or.inr ⟨t, b, rfl⟩
  | f + 1, base, tb, t, b => by
    by_cases h : yKr (T t).1 = lv
    · rw [ylop_s h]
      by_cases hb : b = 0
      · subst hb
        exact Or.inl ⟨_, rfl⟩
      · rw [ysp_s hb]
        match P (yrbs base (T t).1 (.inl e)) (yrtx tb (.inl e)) (t + 1) (b - 1) with
        | .inl p => exact Or.inl ⟨p, rfl⟩
        | .inr (t2, b2, r) => exact ylop_e f base tb t2 b2
    · exact Or.inr ⟨t, b, if_neg h⟩
section YRVL
variable {q : yQ} {d : Nat} {js : List xO} {S0 S S1 : yS} {T : yTk} {N u : Nat} {sc : Int} {Rm : Nat → Nat → Nat} {Rx : Nat → Nat} {s dp : Nat} {tx : Nat → Nat → List Int} {O : yOp} {P : Nat → Nat → Nat → Nat → yPr} {k : yRk}
theorem rOut_e {o : Option xRes} {lv : Int} {f base tb t b : Nat} {e : Nat × Nat} {L : yCo} {X : List (Nat × Nat)} (ho : o = ythr q (ystp (Int32.ofInt (e.1 : Nat)) (Int32.ofInt (e.2 : Nat))) S1 js) (hf : yFr (yWv u) S S1) : rOut q js T N u sc S dp (some (L, X)) o (ylop T O lv P f base tb t b (.inl e)) := by
  rcases ylop_e (T := T) (O := O) (lv := lv) (P := P) (e := e) f base tb t b with ⟨p, h⟩ | ⟨t', b', h⟩
  · rw [h]
    intro hk
    nomatch hk
  · rw [h]
    exact ⟨S1, ho, hf⟩
theorem rOut_n {p : Nat} {o : Option xRes} (h : k = none → ∃ S', o = ythr q (ystp 1 (Int32.ofInt (p : Nat))) S' js ∧ yFr (yWv u) S S') : rOut q js T N u sc S dp k o (.inl p) := h
/-- what a level ends with -/
theorem rls_out {base tb t b ty : Nat} {k' : yRk} {l : yMn} (hI : rls s Rm Rx base tb k k' l t b ty S) (h : rM T N u sc S t b dp k') : rOut q js T N u sc S dp k (yret q (vi (ty : Int)) S js) (.inr (t, b, l)) := by
  match k, hI with
  | none, hI =>
    have e : k' = none := hI.2
    subst e
    exact ⟨S, ty, rfl, yFr_rf _ _, h, hI.1⟩
  | some (L, X), hI =>
    obtain ⟨h0, h1, h2, x, hx, hk, hty, hp, hl1, hl2, hw⟩ := hI
    subst hx
    subst hk
    exact ⟨S, by rw [hty], yFr_rf _ _, h, hp⟩
/-- after a first operand -/
theorem rls_in {base tb t b t1 b1 : Nat} {l : yMn} {o : Option xRes} (hP : yPok N Rm Rx s tx P) (ht : t < N) (hc : rcap Rm Rx t b k) (hbs : rbas base tb k) (hp : P base tb t b = .inr (t1, b1, l)) (h : rOut q js T N u sc S dp k o (.inr (t1, b1, l))) : (∃ (S1 : yS) (ty : Nat) (k' : yRk), o = yret q (vi (ty : Int)) S1 js ∧ yFr (yWv u) S S1 ∧ rM T N u sc S1 t1 b1 dp k' ∧ rls s Rm Rx base tb k k' l t1 b1 ty S1) ∨ ∃ (e : Nat × Nat) (L : yCo) (X : List (Nat × Nat)) (S1 : yS), k = some (L, X) ∧ l = .inl e ∧ o = ythr q (ystp (Int32.ofInt (e.1 : Nat)) (Int32.ofInt (e.2 : Nat))) S1 js ∧ yFr (yWv u) S S1 := by
  obtain ⟨p1, p2, p3, p4, p5⟩ := hP _ _ _ _ _ _ _ ht hp
  match k, l, h, p5 with
  | none, l, h, p5 =>
    obtain ⟨S1, n, a1, a2, a3, a4⟩ := h
    exact Or.inl ⟨S1, n, none, a1, a2, a3, a4, rfl⟩
  | some (L, X), .inl (n, p), h, p5 =>
    obtain ⟨S1, a1, a2⟩ := h
    exact Or.inr ⟨(n, p), L, X, S1, rfl, rfl, a1, a2⟩
  | some (L, X), .inr x, h, p5 =>
    obtain ⟨S1, a1, a2, a3, a4⟩ := h
    obtain ⟨c1, c2⟩ := hc L X rfl
    obtain ⟨b1', b2'⟩ := hbs L X rfl
    obtain ⟨x1, x2, x3⟩ := p5 x rfl
    have x4 : 2 * x.2.2.2.1.length ≤ ytl tx x.2.2.2.1 := by unfold ytl; omega
    exact Or.inl ⟨S1, _, _, a1, a2, a3, by split <;> omega, b1', b2', x, rfl, rfl, rfl, a4, by omega, by omega, x1⟩
/-- rOut for a level out of the one below -/
theorem rLevel {lv : Int} {base tb t b : Nat} {o : Option xRes} {C : Option xRes → Option xRes} (hP : yPok N Rm Rx s tx P) (ht : t < N) (hc : rcap Rm Rx t b k) (hbs : rbas base tb k) (hC : ∀ (a p : Int32) (S' : yS), C (ythr q (ystp a p) S' js) = ythr q (ystp a p) S' js) (h : rOut q js T N u sc S dp k o (P base tb t b)) (hl : ∀ (S1 : yS) (ty : Nat) (k' : yRk) (t1 b1 : Nat) (l : yMn), P base tb t b = .inr (t1, b1, l) → yFr (yWv u) S S1 → rM T N u sc S1 t1 b1 dp k' → rls s Rm Rx base tb k k' l t1 b1 ty S1 → rOut q js T N u sc S1 dp k (C (yret q (vi (ty : Int)) S1 js)) (ylop T O lv P (if lv = 2 then 1 else 100) base tb t1 b1 l)) : rOut q js T N u sc S dp k (C o) (ylev T O lv P base tb t b) := by
  unfold ylev
  match hp : P base tb t b with
  | .inl p =>
    rw [hp] at h
    intro hk
    obtain ⟨S', h1, h2⟩ := h hk
    exact ⟨S', by rw [h1, hC], h2⟩
  | .inr (t1, b1, l) =>
    rw [hp] at h
    rcases rls_in hP ht hc hbs hp h with ⟨S1, ty, k', a1, a2, a3, a4⟩ | ⟨e, L, X, S1, a1, a2, a3, a4⟩
    · rw [a1]
      exact rOut_tr a2 (hl S1 ty k' t1 b1 l hp a2 a3 a4)
    · subst a1
      subst a2
      exact rOut_e (by rw [a3, hC]) a4
theorem ykr_eq0 : ∀ kd : Nat, kd < 67 → (yKr kd = 0 ↔ kd = 34) ∧ (yKr kd = 1 ↔ kd = 35) := by decide
/-- the loop of 227: or -/
theorem l227 {base tb : Nat} (hu : u = 0 ∨ u = 1) (hT : yTo T N) (hR : yRoom T N Rm Rx s) (hP : yPok N Rm Rx s tx P) (hL : yPlt P) (hs : rSub q js S0 T N u sc Rm Rx dp (fun S => Y q (d + 2) 228 0 [vr 129, vu, vu, vu, vu, vu, vu] [] S js) P) (f : Nat) : ∀ (t b ty : Nat) (l : yMn) (k' : yRk) (x1 x2 x3 x4 : yV) (S : yS), b + 1 ≤ f → yFr (yWv u) S0 S → rM T N u sc S t b dp k' → rls s Rm Rx base tb k k' l t b ty S → rOut q js T N u sc S dp k (Y q (d + 3) 227 5 [vr 129, vi ty, x1, x2, x3, x4] [] S js) (ylop T O 0 P f base tb t b l) := by
  induction f with
  | zero => intro t b ty l k' x1 x2 x3 x4 S hf; omega
  | succ f ih =>
    intro t b ty l k' x1 x2 x3 x4 S hf hz h hI
    have h2 := h.2.1
    have h67 := (hT.2.2.2.2 t h2).2
    have his := rm_is (q := q) (d := d + 2) (js := js) hT h (kd := 34) (by omega)
    have his : Y q (d + 2) 221 0 [vr 129, vi 34] [] S js = yret q (vi (yb ((T t).1 = 34))) S js := his
    rw [w227_5, his, YB_ret, w227_11]
    simp only [yr_yb, yb_eq0]
    by_cases h34 : (T t).1 = 34
    · have hkr : yKr (T t).1 = 0 := (ykr_eq0 _ h67).1.mpr h34
      obtain ⟨g1, g2, g3, g4, g5, g6, g7, g8⟩ := rM_t h
      have ht := yTo_t hT h2 (by omega)
      have hN := hT.2.1
      have e44 : yr (gI S 44) = t := by rw [g1]; exact yr_eq (by omega) (by omega)
      rw [if_neg (fun n => n h34), e44, if_pos (by omega), Int.toNat_natCast, g8, ylop_s hkr]
      by_cases hb : b = 0
      · subst hb
        refine rOut_n fun hk => ⟨S, ?_, yFr_rf _ _⟩
        rw [rm_take0 hT h, t227]
      · obtain ⟨S1, a1, f1, h1, _, _⟩ := rm_take (q := q) (d := d + 1) (js := js) hT h (by omega) hb hu
        rw [a1, YB_retv, w227_28, ysp_s hb, h34]
        have R := hR.2.2 t b ht (by omega)
        have R1 := R.1
        obtain ⟨R3, R4⟩ := R.2.2 (by omega)
        have R4 := R4 (Or.inl h34)
        have s1 := hR.1
        have s2 := hR.2.1
        have cap : ∀ L X, k' = some (L, X) → L.length + s + Rm t b ≤ 4000 ∧ 2 * X.length ≤ Rx t := by
          intro L' X' e
          match k, hI with
          | none, hI => rw [hI.2] at e; nomatch e
          | some (L, X), hI =>
            obtain ⟨h0, q1, q2, x, hx, hk, hty, hp, hl1, hl2, hw⟩ := hI
            rw [hk] at e
            injection e with e
            injection e with e1 e2
            rw [← e1, ← e2, List.length_append, List.length_append]
            exact ⟨by omega, hl2⟩
        obtain ⟨S2, r2, a2, f2, h2', _, _, i2⟩ := rm_emit (q := q) (d := d + 2) (js := js) hu h1 (fun L X e => by have := cap L X e; omega) 29 0
        obtain ⟨S3, r3, a3, f3, h3, _, _, i3⟩ := rm_emit (q := q) (d := d + 2) (js := js) hu h2' (fun L X e => by
          match k', e, cap with
          | some (L0, X0), e, cap =>
            injection e with e
            injection e with e1 e2
            have := cap L0 X0 rfl
            rw [← e1, List.length_append]
            show _ + 1 < 8000
            omega) 0 1
        obtain ⟨S4, r4, a4, f4, h4, _, _, i4⟩ := rm_emit (q := q) (d := d + 2) (js := js) hu h3 (fun L X e => by
          match k', e, cap with
          | some (L0, X0), e, cap =>
            injection e with e
            injection e with e1 e2
            have := cap L0 X0 rfl
            rw [← e1, List.length_append, List.length_append]
            show _ + 1 + 1 < 8000
            omega) 28 0
        have a2 : Y q (d + 2) 234 0 [vr 129, vi 29, vj 0, vu] [] S1 js = yret q (vi r2) S2 js := a2
        have a3 : Y q (d + 2) 234 0 [vr 129, vi 0, vj 1, vu] [] S2 js = yret q (vi r3) S3 js := a3
        have a4 : Y q (d + 2) 234 0 [vr 129, vi 28, vj 0, vu] [] S3 js = yret q (vi r4) S4 js := a4
        obtain ⟨S5, a5, f5, h5, _, _⟩ := rm_aim (q := q) (d := d + 2) (js := js) (i := r2) hu h4 (fun L X e => by
          match k', e, cap, i2 with
          | some (L0, X0), e, cap, i2 =>
            injection e with e
            injection e with e1 e2
            have := cap L0 X0 rfl
            have i2 := i2 L0 X0 rfl
            rw [← e1, List.length_append, List.length_append, List.length_append, i2]
            show _ < _ + 1 + 1 + 1 ∧ _ + 1 + 1 + 1 ≤ 8000
            omega)
        rw [a2, YB_ret, w227_35, a3, YB_ret, w227_42, a4, YB_ret, w227_50, a5, YB_retv, w227_57]
        have fz : yFr (yWv u) S S5 := yFr_tr f1 (yFr_tr f2 (yFr_tr f3 (yFr_tr f4 f5)))
        -- what was compiled up to here
        have form : (k' = none ∧ rkcd (rkad (rkad (rkad k' 29 0) 0 1) 28 0) (yset r2) = none) ∨ ∃ L0 X0, k' = some (L0, X0) ∧ r4 = L0.length + 2 ∧ rkcd (rkad (rkad (rkad k' 29 0) 0 1) 28 0) (yset r2) = some (L0 ++ [(29, ya64 (L0.length + 3)), (0, 1), (28, 0)], X0) := by
          match k', i2, i4 with
          | none, _, _ => exact Or.inl ⟨rfl, rfl⟩
          | some (L0, X0), i2, i4 =>
            have i2 := i2 L0 X0 rfl
            have i4 := i4 _ _ rfl
            refine Or.inr ⟨L0, X0, rfl, ?_, ?_⟩
            · rw [i4, List.length_append, List.length_append]
              rfl
            · show some (yset r2 (((L0 ++ [(29, 0)]) ++ [(0, 1)]) ++ [(28, 0)]), X0) = _
              have e : ((L0 ++ [((29 : Nat), (0 : Int64))]) ++ [(0, 1)]) ++ [(28, 0)] = L0 ++ (29, 0) :: [(0, 1), (28, 0)] := by simp only [List.append_assoc, List.cons_append, List.nil_append]
              rw [e, i2, yset_at]
              rw [List.length_append]
              rfl
        have sub := hs S5 (t + 1) (b - 1) _ (yFr_tr hz fz) h5 (by
          intro L X e
          rcases form with ⟨_, e2⟩ | ⟨L0, X0, e1, _, e2⟩
          · rw [e2] at e; nomatch e
          · rw [e2] at e
            injection e with e
            injection e with q1 q2
            have := cap L0 X0 e1
            rw [← q1, ← q2, List.length_append]
            show _ + 3 + _ ≤ 4000 ∧ _
            omega) (yrbs base 34 l) (yrtx tb l) (by
          intro L X e
          rcases form with ⟨_, e2⟩ | ⟨L0, X0, e1, _, e2⟩
          · rw [e2] at e; nomatch e
          · rw [e2] at e
            injection e with e
            injection e with q1 q2
            match k, hI with
            | none, hI => rw [hI.2] at e1; nomatch e1
            | some (L, X), hI =>
              obtain ⟨h0, w1, w2, x, hx, hk, _⟩ := hI
              rw [hk] at e1
              injection e1 with e1
              injection e1 with v1 v2
              subst hx
              rw [← q1, ← q2, ← v1, ← v2, List.length_append, List.length_append, List.length_append, w1, w2]
              exact ⟨rfl, rfl⟩)
        match hp : P (yrbs base 34 l) (yrtx tb l) (t + 1) (b - 1) with
        | .inl p =>
          rw [hp] at sub
          refine rOut_n fun hk => ?_
          have e1 : k' = none := by
            subst hk
            exact hI.2
          obtain ⟨S6, g1, g2⟩ := sub (by rw [e1]; rfl)
          have g1 : Y q (d + 2) 228 0 [vr 129, vu, vu, vu, vu, vu, vu] [] S5 js = _ := g1
          exact ⟨S6, by rw [g1, t227], yFr_tr fz g2⟩
        | .inr (t2, b2, rr) =>
          rw [hp] at sub
          have hlt := hL _ _ _ _ _ _ _ hp
          obtain ⟨p1, p2, p3, p4, p5⟩ := hP _ _ _ _ _ _ _ ht hp
          show rOut q js T N u sc S dp k _ (ylop T O 0 P f base tb t2 b2 (ycomb O base 34 (T t).2.1 l rr))
          match k, hI with
          | none, hI =>
            have e1 : k' = none := hI.2
            subst e1
            obtain ⟨S6, n, g1, g2, g3, g4⟩ := sub
            have g1 : Y q (d + 2) 228 0 [vr 129, vu, vu, vu, vu, vu, vu] [] S5 js = yret q (vi (n : Int)) S6 js := g1
            obtain ⟨S7, r7, c7, d7, h7, _, _, _⟩ := rm_emit (q := q) (d := d + 2) (js := js) hu g3 (fun L X e => nomatch e) 18 0
            obtain ⟨S8, r8, c8, d8, h8, _, _, _⟩ := rm_emit (q := q) (d := d + 2) (js := js) hu h7 (fun L X e => nomatch e) 18 0
            have c7 : Y q (d + 2) 234 0 [vr 129, vi 18, vj 0, vu] [] S6 js = yret q (vi r7) S7 js := c7
            have c8 : Y q (d + 2) 234 0 [vr 129, vi 18, vj 0, vu] [] S7 js = yret q (vi r8) S8 js := c8
            obtain ⟨S9, c9, d9, h9, _, _⟩ := rm_aim (q := q) (d := d + 2) (js := js) (i := r4) hu h8 (fun L X e => nomatch e)
            obtain ⟨d10, h10, _⟩ := rm_no h9 hu
            have fin := ih t2 b2 0 (ycomb O base 34 (T t).2.1 l rr) none (vi (T t).2.1) (vi r2) (vi r4) (vi n) (sI S9 49 0) (by omega) (yFr_tr hz (yFr_tr fz (yFr_tr g2 (yFr_tr d7 (yFr_tr d8 (yFr_tr d9 d10)))))) h10 ⟨by omega, rfl⟩
            have m1 : ∀ c : Int, Y q (d + 2) 219 0 [vr 129, vi c, vi 3, vi ((T t).2.1 : Nat)] [] S6 js = yretv q S6 js := fun c => rm_mustn g3
            have st : YB q (Y q (d + 2) 228 0 [vr 129, vu, vu, vu, vu, vu, vu] [] S5 js) (d + 3) 227 58 [vr 129, vi ty, vi ((T t).2.1 : Nat), vi r2, vi r4, x4] [] = Y q (d + 3) 227 5 [vr 129, vi (0 : Nat), vi ((T t).2.1 : Nat), vi r2, vi r4, vi n] [] (sI S9 49 0) js := by
              rw [g1, YB_ret, w227_61, m1, m1]
              have : ∀ z : Option xRes, (if yr (ty : Int) = 0 then (if yr (n : Int) = 0 then z else z) else z) = z := fun z => by split; split; rfl; rfl; rfl
              rw [this, YB_retv, w227_83, c7, YB_ret, w227_90, c8, YB_ret, w227_98, c9, YB_retv, w227_105]
              rfl
            rw [st]
            exact rOut_tr (yFr_tr fz (yFr_tr g2 (yFr_tr d7 (yFr_tr d8 (yFr_tr d9 d10))))) fin
          | some (L, X), hI =>
            obtain ⟨h0, w1, w2, x, hx, hk, hty, hpl, hl1, hl2, hw⟩ := hI
            subst hx
            rcases form with ⟨e1, _⟩ | ⟨L0, X0, e1, er4, e2⟩
            · rw [hk] at e1; nomatch e1
            · rw [e2] at sub h5
              rw [hk] at e1
              injection e1 with e1
              injection e1 with v1 v2
              match rr, sub, p5, hp with
              | .inl (n, p), sub, p5, hp =>
                obtain ⟨S6, g1, g2⟩ := sub
                have g1 : Y q (d + 2) 228 0 [vr 129, vu, vu, vu, vu, vu, vu] [] S5 js = _ := g1
                exact rOut_e (e := (n, p)) (S1 := S6) (by rw [g1, t227]) (yFr_tr fz g2)
              | .inr y, sub, p5, hp =>
                obtain ⟨S6, g1, g2, g3, g4⟩ := sub
                obtain ⟨y1, y2, y3⟩ := p5 y rfl
                have y4 : 2 * y.2.2.2.1.length ≤ ytl tx y.2.2.2.1 := by unfold ytl; omega
                have g1 : Y q (d + 2) 228 0 [vr 129, vu, vu, vu, vu, vu, vu] [] S5 js = yret q (vi ((if y.1 = true then 1 else 0 : Nat) : Int)) S6 js := g1
                have ec : ycomb O base 34 (T t).2.1 (.inr x) (.inr y) = if (x.1 || y.1) = true then (.inl (3, (T t).2.1) : yMn) else .inr (false, none, x.2.2.1 ++ [(29, ya64 (base + x.2.2.1.length + 3)), (0, 1), (28, ya64 (base + x.2.2.1.length + 3 + y.2.2.1.length + 2))] ++ y.2.2.1 ++ [(18, 0), (18, 0)], x.2.2.2.1 ++ y.2.2.2.1, ydor x.2.2.2.2 y.2.2.2.2) := rfl
                rw [ec]
                have tyx : yr (ty : Int) = ty := yr_eq (by omega) (by omega)
                have tyy : yr ((if y.1 = true then 1 else 0 : Nat) : Int) = ((if y.1 = true then 1 else 0 : Nat) : Int) := by split <;> rfl
                by_cases hxy : (x.1 || y.1) = true
                · rw [if_pos hxy]
                  refine rOut_e (e := (3, (T t).2.1)) (S1 := S6) ?_ (yFr_tr fz g2)
                  rw [g1, YB_ret, w227_61, tyx, tyy, hty]
                  have m0 : Y q (d + 2) 219 0 [vr 129, vi 0, vi 3, vi ((T t).2.1 : Nat)] [] S6 js = ythr q (ystp (Int32.ofInt (3 : Nat)) (Int32.ofInt ((T t).2.1 : Nat))) S6 js := rm_must0 g3
                  cases hx1 : x.1 with
                  | true =>
                    rw [if_neg (by decide), m0, t227]
                  | false =>
                    cases hy1 : y.1 with
                    | true => rw [if_pos (by decide), if_neg (by decide), m0, t227]
                    | false => rw [hx1, hy1] at hxy; nomatch hxy
                · rw [if_neg hxy]
                  have hx1 : x.1 = false := by cases hx1 : x.1; rfl; rw [hx1] at hxy; exact (hxy rfl).elim
                  have hy1 : y.1 = false := by cases hy1 : y.1; rfl; rw [hx1, hy1] at hxy; exact (hxy rfl).elim
                  have hlen0 : L0.length = L.length + x.2.2.1.length := by rw [← v1, List.length_append]
                  have g3 : rM T N u sc S6 t2 b2 dp (some ((L0 ++ [(29, ya64 (L0.length + 3)), (0, 1), (28, 0)]) ++ y.2.2.1, X0 ++ y.2.2.2.1)) := g3
                  have len1 : ((L0 ++ [((29 : Nat), ya64 (L0.length + 3)), (0, 1), (28, 0)]) ++ y.2.2.1).length = L0.length + 3 + y.2.2.1.length := by rw [List.length_append, List.length_append]; rfl
                  obtain ⟨S7, r7, c7, d7, h7, _, _, _⟩ := rm_emit (q := q) (d := d + 2) (js := js) hu g3 (fun L' X' e => by
                    injection e with e
                    injection e with q1 q2
                    rw [← q1, len1]
                    omega) 18 0
                  obtain ⟨S8, r8, c8, d8, h8, _, _, _⟩ := rm_emit (q := q) (d := d + 2) (js := js) hu h7 (fun L' X' e => by
                    injection e with e
                    injection e with q1 q2
                    rw [← q1, List.length_append, len1]
                    show _ + 1 < 8000
                    omega) 18 0
                  have c7 : Y q (d + 2) 234 0 [vr 129, vi 18, vj 0, vu] [] S6 js = yret q (vi r7) S7 js := c7
                  have c8 : Y q (d + 2) 234 0 [vr 129, vi 18, vj 0, vu] [] S7 js = yret q (vi r8) S8 js := c8
                  obtain ⟨S9, c9, d9, h9, _, _⟩ := rm_aim (q := q) (d := d + 2) (js := js) (i := r4) hu h8 (fun L' X' e => by
                    injection e with e
                    injection e with q1 q2
                    rw [← q1, List.length_append, List.length_append, len1, er4]
                    show _ < _ + 1 + 1 ∧ _ + 1 + 1 ≤ 8000
                    omega)
                  obtain ⟨d10, h10, p10⟩ := rm_no h9 hu
                  have ek : rkcd (rkad (rkad (some ((L0 ++ [(29, ya64 (L0.length + 3)), (0, 1), (28, 0)]) ++ y.2.2.1, X0 ++ y.2.2.2.1)) 18 0) 18 0) (yset r4) = some (L ++ (x.2.2.1 ++ [(29, ya64 (base + x.2.2.1.length + 3)), (0, 1), (28, ya64 (base + x.2.2.1.length + 3 + y.2.2.1.length + 2))] ++ y.2.2.1 ++ [(18, 0), (18, 0)]), X ++ (x.2.2.2.1 ++ y.2.2.2.1)) := by
                    show some (yset r4 (((L0 ++ [(29, ya64 (L0.length + 3)), (0, 1), (28, 0)]) ++ y.2.2.1 ++ [(18, 0)]) ++ [(18, 0)]), X0 ++ y.2.2.2.1) = _
                    have e : ((L0 ++ [((29 : Nat), ya64 (L0.length + 3)), (0, 1), (28, 0)]) ++ y.2.2.1 ++ [(18, 0)]) ++ [(18, 0)] = (L0 ++ [(29, ya64 (L0.length + 3)), (0, 1)]) ++ (28, 0) :: (y.2.2.1 ++ [(18, 0), (18, 0)]) := by simp only [List.append_assoc, List.cons_append, List.nil_append]
                    have er : r4 = (L0 ++ [((29 : Nat), ya64 (L0.length + 3)), ((0 : Nat), (1 : Int64))]).length := by rw [er4, List.length_append]; rfl
                    rw [e, er, yset_at]
                    have el : ((L0 ++ [((29 : Nat), ya64 (L0.length + 3)), ((0 : Nat), (1 : Int64))]) ++ ((28 : Nat), (0 : Int64)) :: (y.2.2.1 ++ [(18, 0), (18, 0)])).length = base + x.2.2.1.length + 3 + y.2.2.1.length + 2 := by
                      simp only [List.length_append, List.length_cons, List.length_nil]
                      omega
                    have eb : L0.length + 3 = base + x.2.2.1.length + 3 := by omega
                    rw [el, eb, ← v1, ← v2]
                    simp only [List.append_assoc, List.cons_append, List.nil_append]
                  rw [ek] at h10
                  have fin := ih t2 b2 0 (.inr (false, none, x.2.2.1 ++ [(29, ya64 (base + x.2.2.1.length + 3)), (0, 1), (28, ya64 (base + x.2.2.1.length + 3 + y.2.2.1.length + 2))] ++ y.2.2.1 ++ [(18, 0), (18, 0)], x.2.2.2.1 ++ y.2.2.2.1, ydor x.2.2.2.2 y.2.2.2.2)) _ (vi (T t).2.1) (vi r2) (vi r4) (vi (0 : Nat)) (sI S9 49 0) (by omega) (yFr_tr hz (yFr_tr fz (yFr_tr g2 (yFr_tr d7 (yFr_tr d8 (yFr_tr d9 d10)))))) h10 ⟨by omega, w1, w2, _, rfl, rfl, rfl, p10, by
                      show L.length + (x.2.2.1 ++ [((29 : Nat), ya64 (base + x.2.2.1.length + 3)), (0, 1), (28, ya64 (base + x.2.2.1.length + 3 + y.2.2.1.length + 2))] ++ y.2.2.1 ++ [(18, 0), (18, 0)]).length + s + Rm t2 b2 ≤ 4000
                      simp only [List.length_append, List.length_cons, List.length_nil]
                      omega, by
                      show 2 * (X.length + (x.2.2.2.1 ++ y.2.2.2.1).length) ≤ Rx t2
                      rw [List.length_append]
                      omega, fun v hv => nomatch hv⟩
                  have st : YB q (Y q (d + 2) 228 0 [vr 129, vu, vu, vu, vu, vu, vu] [] S5 js) (d + 3) 227 58 [vr 129, vi ty, vi ((T t).2.1 : Nat), vi r2, vi r4, x4] [] = Y q (d + 3) 227 5 [vr 129, vi (0 : Nat), vi ((T t).2.1 : Nat), vi r2, vi r4, vi (0 : Nat)] [] (sI S9 49 0) js := by
                    rw [g1, YB_ret, w227_61, tyx, tyy, hty, hx1, hy1, if_pos (by decide), if_pos (by decide), rm_must1, YB_retv, w227_83, c7, YB_ret, w227_90, c8, YB_ret, w227_98, c9, YB_retv, w227_105]
                    rfl
                  rw [st]
                  exact rOut_tr (yFr_tr fz (yFr_tr g2 (yFr_tr d7 (yFr_tr d8 (yFr_tr d9 d10))))) fin
    · have hkr : ¬ yKr (T t).1 = 0 := fun z => h34 ((ykr_eq0 _ h67).1.mp z)
      have e : ylop T O 0 P (f + 1) base tb t b l = .inr (t, b, l) := if_neg hkr
      rw [if_pos h34, e]
      exact rls_out hI h
end YRVL
end YRV
