/-! taken from whole by wip/p27/slice2.py: 65.lev2.lean.txt -/
section YLW
/-- where a meaning leaves the tokens -/
def ysh (r : yPr) : Nat ⊕ (Nat × Nat) := match r with
  | .inl p => .inl p
  | .inr (t, b, _) => .inr (t, b)
/-- the tokens that an expression takes do not hang on where its code stands -/
def yPin (P : Nat → Nat → Nat → Nat → yPr) : Prop := ∀ base tb base' tb' t b, ysh (P base tb t b) = ysh (P base' tb' t b)
theorem ysh_e {tx : Nat → Nat → List Int} {e : Nat × Nat} {r r' : yPr} (h : ysh r = ysh r') : ymode (.inl e) tx r = ymode (.inl e) tx r' := by
  match r, r', h with
  | .inl p, .inl p', h =>
    injection h with h
    rw [h]
  | .inr (t, b, m), .inr (t', b', m'), h =>
    have h : (Sum.inr (t, b) : Nat ⊕ (Nat × Nat)) = .inr (t', b') := h
    injection h with h
    injection h with h1 h2
    rw [h1, h2]
    rfl
theorem yvsp_in {T : yTk} {O : yOp} {P : Nat → Nat → Nat → Nat → yPr} (hP : yPin P) (base tb base' tb' t b : Nat) (l l' : yMn) : ysh (yvsp T O P base tb t b l) = ysh (yvsp T O P base' tb' t b l') := by
  by_cases hb : b = 0
  · subst hb
    rw [ysp_0, ysp_0]
  · rw [ysp_s hb, ysp_s hb]
    have h := hP (yrbs base (T t).1 l) (yrtx tb l) (yrbs base' (T t).1 l') (yrtx tb' l') (t + 1) (b - 1)
    match h1 : P (yrbs base (T t).1 l) (yrtx tb l) (t + 1) (b - 1), h2 : P (yrbs base' (T t).1 l') (yrtx tb' l') (t + 1) (b - 1) with
    | .inl p, .inl p' => rw [h1, h2] at h; exact h
    | .inl p, .inr (t', b', m') => rw [h1, h2] at h; nomatch h
    | .inr (t1, b1, m1), .inl p => rw [h1, h2] at h; nomatch h
    | .inr (t1, b1, m1), .inr (t', b', m') => rw [h1, h2] at h; exact h
theorem ylop_in {T : yTk} {O : yOp} {lv : Int} {P : Nat → Nat → Nat → Nat → yPr} (hP : yPin P) (f : Nat) : ∀ (base tb base' tb' t b : Nat) (l l' : yMn), ysh (ylop T O lv P f base tb t b l) = ysh (ylop T O lv P f base' tb' t b l') := by
  induction f with
  | zero => exact fun _ _ _ _ _ _ _ _ => rfl
  | succ f ih =>
    intro base tb base' tb' t b l l'
    by_cases hlv : yKr (T t).1 = lv
    · rw [ylop_s hlv, ylop_s hlv]
      have h := yvsp_in (T := T) (O := O) hP base tb base' tb' t b l l'
      match h1 : yvsp T O P base tb t b l, h2 : yvsp T O P base' tb' t b l' with
      | .inl p, .inl p' => rw [h1, h2] at h; exact h
      | .inl p, .inr (t', b', m') => rw [h1, h2] at h; nomatch h
      | .inr (t1, b1, m1), .inl p => rw [h1, h2] at h; nomatch h
      | .inr (t1, b1, m1), .inr (t', b', m') =>
        rw [h1, h2] at h
        have h : (Sum.inr (t1, b1) : Nat ⊕ (Nat × Nat)) = .inr (t', b') := h
        injection h with h
        injection h with e1 e2
        subst e1
        subst e2
        exact ih base tb base' tb' t1 b1 m1 m'
    · have e : ∀ base tb l, ylop T O lv P (f + 1) base tb t b l = .inr (t, b, l) := by
        intro base tb l
        show (if yKr (T t).1 = lv then _ else _) = _
        rw [if_neg hlv]
      rw [e, e]
      rfl
theorem ylev_in {T : yTk} {O : yOp} {lv : Int} {P : Nat → Nat → Nat → Nat → yPr} (hP : yPin P) : yPin (ylev T O lv P) := by
  intro base tb base' tb' t b
  unfold ylev
  have h := hP base tb base' tb' t b
  match h1 : P base tb t b, h2 : P base' tb' t b with
  | .inl p, .inl p' => rw [h1, h2] at h; exact h
  | .inl p, .inr (t', b', m') => rw [h1, h2] at h; nomatch h
  | .inr (t1, b1, m1), .inl p => rw [h1, h2] at h; nomatch h
  | .inr (t1, b1, m1), .inr (t', b', m') =>
    rw [h1, h2] at h
    have h : (Sum.inr (t1, b1) : Nat ⊕ (Nat × Nat)) = .inr (t', b') := h
    injection h with h
    injection h with e1 e2
    subst e1
    subst e2
    exact ylop_in hP _ base tb base' tb' t1 b1 m1 m'
section YLWL
variable {q : yQ} {d : Nat} {js : List xO} {S0 S : yS} {T : yTk} {N u : Nat} {w : Int} {Rm : Nat → Nat → Nat} {Rx : Nat → Nat} {s : Nat} {tx : Nat → Nat → List Int} {O : yOp} {P : Nat → Nat → Nat → Nat → yPr}
theorem yTo_t {t : Nat} (hT : yTo T N) (ht : t < N) (h64 : (T t).1 ≤ 64) : t + 1 < N := by
  by_cases z : t + 1 < N
  · exact z
  · have : t = N - 1 := by omega
    have := hT.2.2.1
    subst t
    omega
theorem ylop_ok {lv : Nat} (hT : yTo T N) (hR : yRoom T N Rm Rx s) (hP : yPok N Rm Rx s tx P) (hl4 : lv ≤ 4) {base tb a A B : Nat} (f : Nat) : ∀ (t b t' b' : Nat) (l m : yMn), t < N → (∀ x, l = .inr x → yWf x ∧ a + x.2.2.1.length + s + Rm t b ≤ A ∧ B + ytl tx x.2.2.2.1 ≤ Rx t) → ylop T O lv P f base tb t b l = .inr (t', b', m) → t' < N ∧ b' ≤ b ∧ Rm t' b' ≤ Rm t b ∧ Rx t ≤ Rx t' ∧ ∀ z, m = .inr z → yWf z ∧ a + z.2.2.1.length + s + Rm t' b' ≤ A ∧ B + ytl tx z.2.2.2.1 ≤ Rx t' := by
  have same : ∀ (t b t' b' : Nat) (l m : yMn), t < N → (∀ x, l = .inr x → yWf x ∧ a + x.2.2.1.length + s + Rm t b ≤ A ∧ B + ytl tx x.2.2.2.1 ≤ Rx t) → (Sum.inr (t, b, l) : yPr) = .inr (t', b', m) → t' < N ∧ b' ≤ b ∧ Rm t' b' ≤ Rm t b ∧ Rx t ≤ Rx t' ∧ ∀ z, m = .inr z → yWf z ∧ a + z.2.2.1.length + s + Rm t' b' ≤ A ∧ B + ytl tx z.2.2.2.1 ≤ Rx t' := by
    intro t b t' b' l m ht hl h
    obtain ⟨h1, h2, h3⟩ := yinr h
    subst h1
    subst h2
    subst h3
    exact ⟨ht, Nat.le_refl _, Nat.le_refl _, Nat.le_refl _, hl⟩
  induction f with
  | zero => exact fun t b t' b' l m ht hl h => same t b t' b' l m ht hl h
  | succ f ih =>
    intro t b t' b' l m ht hl h
    by_cases hlv : yKr (T t).1 = lv
    · have h64 := yk64 _ (hT.2.2.2.2 t ht).2 (by omega)
      rw [ylop_s hlv] at h
      match hv : yvsp T O P base tb t b l with
      | .inl p =>
        rw [hv] at h
        nomatch h
      | .inr (t2, b2, l') =>
        rw [hv] at h
        obtain ⟨z1, z2, z3, z4, z5⟩ := yspok hR hP (yTo_t hT ht h64) h64 hl hv
        obtain ⟨w1, w2, w3, w4, w5⟩ := ih t2 b2 t' b' l' m z1 z5 h
        exact ⟨w1, by omega, by omega, by omega, w5⟩
    · have e : ylop T O lv P (f + 1) base tb t b l = .inr (t, b, l) := by
        show (if yKr (T t).1 = lv then _ else _) = _
        rw [if_neg hlv]
      rw [e] at h
      exact same t b t' b' l m ht hl h
theorem ylev_ok {lv : Nat} (hT : yTo T N) (hR : yRoom T N Rm Rx s) (hP : yPok N Rm Rx s tx P) (hl4 : lv ≤ 4) : yPok N Rm Rx s tx (ylev T O lv P) := by
  intro base tb t b t' b' m ht h
  unfold ylev at h
  match hp : P base tb t b with
  | .inl p =>
    rw [hp] at h
    nomatch h
  | .inr (t1, b1, l) =>
    rw [hp] at h
    obtain ⟨p1, p2, p3, p4, p5⟩ := hP _ _ _ _ _ _ _ ht hp
    obtain ⟨w1, w2, w3, w4, w5⟩ := ylop_ok (a := 0) (A := Rm t b) (B := Rx t) hT hR hP hl4 _ t1 b1 t' b' l m p1 (fun x hx => by
      obtain ⟨x1, x2, x3⟩ := p5 x hx
      exact ⟨x1, by omega, by omega⟩) h
    exact ⟨w1, by omega, by omega, by omega, fun z hz => by
      obtain ⟨x1, x2, x3⟩ := w5 z hz
      exact ⟨x1, by omega, by omega⟩⟩
/-- a level out of the one below -/
theorem c52 {lv rd : Nat} (hu : u = 0 ∨ u = 1) (hT : yTo T N) (hR : yRoom T N Rm Rx s) (hP : yPok N Rm Rx s tx P) (hN : yPin P) (hl4 : lv ≤ 4) (h0 : cSub q js S0 T N u w Rm Rx tx (fun S => Y q (d + 2) 52 0 [vr 122, vi ((lv : Int) + 1), vi rd, vu, vu, vu] [] S js) P) (h1 : cSub q js S0 T N u w Rm Rx tx (fun S => Y q (d + 1) 52 0 [vr 122, vi ((lv : Int) + 1), vi rd, vu, vu, vu] [] S js) P) : cSub q js S0 T N u w Rm Rx tx (fun S => Y q (d + 3) 52 0 [vr 122, vi lv, vi rd, vu, vu, vu] [] S js) (ylev T O lv P) := by
  intro S m hz h hbs
  obtain ⟨S1, r1, m1, a1, a2, a3, a4, a5, a6⟩ := h0 S m hz h hbs
  have a1 : Y q (d + 2) 52 0 [vr 122, vi ((lv : Int) + 1), vi rd, vu, vu, vu] [] S js = yret q (vi r1) S1 js := a1
  have el : yr (lv : Int) = lv := yr_eq (by omega) (by omega)
  have e4 : yr 4 = 4 := rfl
  have e2 : yr 2 = 2 := rfl
  obtain ⟨lim, hlim, hl2⟩ : ∃ lim : Nat, lim = (if (lv : Int) = 2 then 1 else 100) ∧ lim ≤ 100 := ⟨_, rfl, by split <;> omega⟩
  have st : Y q (d + 3) 52 0 [vr 122, vi lv, vi rd, vu, vu, vu] [] S js = Y q (d + 3) 52 36 [vr 122, vi lv, vi rd, vi r1, vi lim, vi ((0 : Nat) : Int)] [] S1 js := by
    rw [w52_0, el, e4, if_neg (by omega), a1, YB_ret, w52_19, el, e2, hlim]
    split <;> rfl
  have dead : ∀ p, cM T N u w S1 (.inl p) → ∀ m', (Sum.inl p : yMo) = m' → Y q (d + 3) 52 0 [vr 122, vi lv, vi rd, vu, vu, vu] [] S js = yret q (vi r1) S1 js := by
    intro p hp m' _
    rw [st]
    exact m52d hp hl4 (Nat.zero_le _) hl2
  match m, h, hbs, a5, a6 with
  | .inl p, h, hbs, a5, a6 =>
    have e := a5 p rfl
    rw [e] at a3
    exact ⟨S1, r1, .inl p, dead p a3 _ rfl, a2, a3, a4, fun p' hp' => hp', fun t b k hk => nomatch hk⟩
  | .inr (t, b, k), h, hbs, a5, a6 =>
    -- the base that fits; any other gives the same where an error stands
    have main : ∀ base tb, ybs u Rm Rx base tb t b k → ∃ (S' : yS) (r : Nat), Y q (d + 3) 52 0 [vr 122, vi lv, vi rd, vu, vu, vu] [] S js = yret q (vi r) S' js ∧ yFr (yWx u) S S' ∧ r ≤ 2 ∧ cM T N u w S' (ymode k tx (ylev T O lv P base tb t b)) ∧ ∀ L X, k = .inr (L, X) → ∀ t' b' x, ylev T O lv P base tb t b = .inr (t', b', .inr x) → r = yty x := by
      intro base tb hb
      obtain ⟨g1, g2⟩ := a6 t b k rfl base tb hb
      rw [g1] at a3
      unfold ylev
      match hp : P base tb t b with
      | .inl p =>
        rw [hp] at a3
        exact ⟨S1, r1, dead p a3 _ rfl, a2, a4, a3, fun L X hk t' b' x hx => nomatch hx⟩
      | .inr (t1, b1, l) =>
        rw [hp] at a3 g2
        have ht : t < N := (cM_kd h).2.2
        obtain ⟨p1, p2, p3, p4, p5⟩ := hP _ _ _ _ _ _ _ ht hp
        have hI : yvst u Rm Rx s tx base tb k l t1 b1 r1 := by
          intro L X hk
          obtain ⟨b1', b2', b3', b4'⟩ := hb L X hk
          rw [ysl_all] at b4'
          refine ⟨b1', b2', fun x hx => ?_⟩
          obtain ⟨x1, x2, x3⟩ := p5 x hx
          exact ⟨x1, by omega, by omega, g2 L X hk t1 b1 x (by rw [hx])⟩
        obtain ⟨S2, r2, c1, c2, c3, c4, c5⟩ := m52l (q := q) (d := d) (js := js) (O := O) (rd := rd) hu hT hR hP hl4 hl2 h1 lim 0 t1 b1 r1 l S1 (by omega) hI a3 (yFr_tr hz a2) a4
        rw [hlim] at c4 c5
        exact ⟨S2, r2, by rw [st, c1], yFr_tr a2 c2, c3, c4, c5⟩
    match k, hbs, main with
    | .inl e, hbs, main =>
      obtain ⟨S2, r2, c1, c2, c3, c4, c5⟩ := main 0 0 (fun L X hk => nomatch hk)
      refine ⟨S2, r2, _, c1, c2, c4, c3, (fun p hp => nomatch hp), fun t' b' k' hk base tb _ => ?_⟩
      injection hk with hk
      injection hk with e1 hk
      injection hk with e2 e3
      subst e1
      subst e2
      subst e3
      exact ⟨ysh_e (ylev_in hN _ _ _ _ _ _), fun L X hk => nomatch hk⟩
    | .inr (L, X), hbs, main =>
      obtain ⟨base0, tb0, hb⟩ := hbs t b _ rfl
      obtain ⟨S2, r2, c1, c2, c3, c4, c5⟩ := main base0 tb0 hb
      refine ⟨S2, r2, _, c1, c2, c4, c3, (fun p hp => nomatch hp), fun t' b' k' hk base tb hb' => ?_⟩
      injection hk with hk
      injection hk with e1 hk
      injection hk with e2 e3
      subst e1
      subst e2
      subst e3
      obtain ⟨w1, w2, _⟩ := hb' L X rfl
      obtain ⟨v1, v2, _⟩ := hb L X rfl
      rw [w1, w2]
      rw [v1, v2] at c5 ⊢
      exact ⟨rfl, c5⟩
end YLWL
end YLW
