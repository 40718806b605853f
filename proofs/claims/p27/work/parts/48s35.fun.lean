/-! taken from whole by wip/p27/slice2.py: 77.fun.lean.txt -/
section YFU
/-- arguments that were read, in a mode -/
def ykA (k : yK9) (tx : Nat → Nat → List Int) (a : yAr) : yK9 := match k, a with
  | .inl e, _ => .inl e
  | .inr _, .inl e => .inl e
  | .inr (L, X), .inr x => .inr (L ++ x.2.1, X ++ yTexts tx x.2.2.1)
def ymodA (k : yK9) (tx : Nat → Nat → List Int) (r : Nat ⊕ (Nat × Nat × yAr)) : yMo := match r with
  | .inl p => .inl p
  | .inr (t, b, a) => .inr (t, b, ykA k tx a)
theorem ykA_app (k : yK9) (tx : Nat → Nat → List Int) (a : yAr) (m : yMn) : ykm (ykA k tx a) tx m = ykA k tx (yapp a m) := by
  match k, a, m with
  | .inl e, a, m => rfl
  | .inr (L, X), .inl e, m => rfl
  | .inr (L, X), .inr (ts, seg, txs, f), .inl e => rfl
  | .inr (L, X), .inr (ts, seg, txs, f), .inr x =>
    show (Sum.inr ((L ++ seg) ++ x.2.2.1, (X ++ yTexts tx txs) ++ yTexts tx x.2.2.2.1) : yK9) = .inr (L ++ (seg ++ x.2.2.1), X ++ yTexts tx (txs ++ x.2.2.2.1))
    rw [List.append_assoc, List.append_assoc, ytx_app]
/-- types as they have to be -/
def yfits (c : Bool) (ts : List Bool) : Prop := ∀ (i : Nat) (x : Bool), ts[i]? = some x → x = (c && decide (i = 0))
theorem yfits_s {c : Bool} {ts : List Bool} {x : Bool} : yfits c (ts ++ [x]) ↔ yfits c ts ∧ x = (c && decide (ts.length = 0)) := by
  constructor
  · intro h
    refine ⟨fun i y hy => h i y ?_, h ts.length x ?_⟩
    · rw [List.getElem?_append_left (List.getElem?_eq_some_iff.mp hy).1]
      exact hy
    · rw [List.getElem?_append_right (Nat.le_refl _), Nat.sub_self]
      rfl
  · rintro ⟨h1, h2⟩ i y hy
    by_cases z : i < ts.length
    · rw [List.getElem?_append_left z] at hy
      exact h1 i y hy
    · have hl := (List.getElem?_eq_some_iff.mp hy).1
      rw [List.length_append] at hl
      have e1 : ([x] : List Bool).length = 1 := rfl
      have hi : i = ts.length := by omega
      subst hi
      rw [List.getElem?_append_right (Nat.le_refl _), Nat.sub_self] at hy
      have hy : some x = some y := hy
      injection hy with hy
      rw [← hy]
      exact h2
theorem yfits_e {c : Bool} {ts : List Bool} {n : Nat} (hn : 1 ≤ n) : ts = c :: List.replicate (n - 1) false ↔ yfits c ts ∧ ts.length = n := by
  constructor
  · intro h
    subst h
    refine ⟨fun i x hx => ?_, by rw [List.length_cons, List.length_replicate]; omega⟩
    match i, hx with
    | 0, hx =>
      have hx : some c = some x := hx
      injection hx with hx
      rw [← hx]
      cases c <;> rfl
    | i + 1, hx =>
      have hx : (List.replicate (n - 1) false)[i]? = some x := hx
      have hl := (List.getElem?_eq_some_iff.mp hx).1
      rw [List.length_replicate] at hl
      rw [List.getElem?_replicate, if_pos hl] at hx
      injection hx with hx
      rw [← hx, decide_eq_false (by omega), Bool.and_false]
  · rintro ⟨h1, h2⟩
    apply List.ext_getElem?
    intro i
    match i with
    | 0 =>
      show ts[0]? = some c
      have hl : 0 < ts.length := by omega
      rw [List.getElem?_eq_getElem hl, h1 0 ts[0] (List.getElem?_eq_getElem hl)]
      cases c <;> rfl
    | i + 1 =>
      show ts[i + 1]? = (List.replicate (n - 1) false)[i]?
      by_cases z : i + 1 < ts.length
      · rw [List.getElem?_eq_getElem z, h1 (i + 1) _ (List.getElem?_eq_getElem z), List.getElem?_replicate, if_pos (by omega), decide_eq_false (by omega), Bool.and_false]
      · rw [List.getElem?_eq_none (by omega), List.getElem?_eq_none (by rw [List.length_replicate]; omega)]
section YFUL
variable {q : yQ} {d : Nat} {js : List xO} {S0 S : yS} {T : yTk} {N u : Nat} {w : Int} {Rm : Nat → Nat → Nat} {Rx : Nat → Nat} {s : Nat} {tx : Nat → Nat → List Int} {O : yOp} {P : Nat → Nat → Nat → Nat → yPr}
/-- whether it still fits -/
def yft (x3 x4 x5 x8 : Nat) : Nat := if x4 = 0 then 0 else if (x8 = 1 ↔ x3 = 1 ∧ x5 = 0) then 1 else 0
theorem v60_110 {x0 x2 : Int} {x1 x3 x4 x5 x8 : Nat} {x6 : Int} {x7 : yV} (hk : gK S 0 < 67) (h3 : x3 = 0 ∨ x3 = 1) (h4 : x4 = 0 ∨ x4 = 1) (h5 : x5 ≤ 100) (h8 : x8 ≤ 2) : Y q (d + 1) 60 110 [vr 122, vi x0, vr x1, vi x2, vi x3, vi x4, vi x5, vi x6, x7] [vi x8] S js = if gK S 0 = 48 then YB q (Y q d 154 0 [vr 86] [] S js) (d + 1) 60 185 [vr 122, vi x0, vr x1, vi x2, vi x3, vi (yft x3 x4 x5 x8 : Nat), vi (x5 + 1 : Nat), vi 1, vi x8] [] else Y q (d + 1) 60 90 [vr 122, vi x0, vr x1, vi x2, vi x3, vi (yft x3 x4 x5 x8 : Nat), vi (x5 + 1 : Nat), vi 0, vi x8] [] S js := by
  rw [w60_110]
  have e0 : yr 0 = 0 := rfl
  have e1 : yr 1 = 1 := rfl
  have k1 : gK S 0 < 67 ∧ 48 < 67 := ⟨hk, by omega⟩
  have c5 : yr (x5 : Int) = x5 := yr_eq (by omega) (by omega)
  have c8 : yr (x8 : Int) = x8 := yr_eq (by omega) (by omega)
  have c3 : yr (x3 : Int) = x3 := yr_eq (by omega) (by omega)
  have c4 : yr (x4 : Int) = x4 := yr_eq (by omega) (by omega)
  have n10 : ¬ (1 : Int) = 0 := by omega
  have n01 : ¬ (0 : Int) = 1 := by omega
  rw [c3, c4, c5, c8, e0, e1, if_pos k1, if_neg n10]
  simp only [if_pos k1, if_neg n10, if_neg n01, if_true]
  have p5 : ((x5 + 1 : Nat) : Int) = (x5 : Int) + 1 := rfl
  rw [p5]
  unfold yft
  by_cases z4 : x4 = 0
  · rw [if_pos (show (x4 : Int) = 0 by omega), if_pos z4]
    rfl
  · rw [if_neg (show ¬ (x4 : Int) = 0 by omega), if_neg z4]
    by_cases z8 : x8 = 1
    · rw [if_pos (show (x8 : Int) = 1 by omega)]
      by_cases z3 : x3 = 1
      · rw [if_neg (show ¬ (x3 : Int) = 0 by omega)]
        by_cases z5 : x5 = 0
        · rw [if_pos (show (x5 : Int) = 0 by omega), if_pos (show (x8 = 1 ↔ x3 = 1 ∧ x5 = 0) by omega)]
          rfl
        · rw [if_neg (show ¬ (x5 : Int) = 0 by omega), if_neg (show ¬ (x8 = 1 ↔ x3 = 1 ∧ x5 = 0) by omega)]
          rfl
      · rw [if_pos (show (x3 : Int) = 0 by omega), if_neg (show ¬ (x8 = 1 ↔ x3 = 1 ∧ x5 = 0) by omega)]
        rfl
    · rw [if_neg (show ¬ (x8 : Int) = 1 by omega)]
      by_cases z3 : x3 = 1
      · rw [if_neg (show ¬ (x3 : Int) = 0 by omega)]
        by_cases z5 : x5 = 0
        · rw [if_pos (show (x5 : Int) = 0 by omega), if_neg (show ¬ (x8 = 1 ↔ x3 = 1 ∧ x5 = 0) by omega)]
          rfl
        · rw [if_neg (show ¬ (x5 : Int) = 0 by omega), if_pos (show (x8 = 1 ↔ x3 = 1 ∧ x5 = 0) by omega)]
          rfl
      · rw [if_pos (show (x3 : Int) = 0 by omega), if_pos (show (x8 = 1 ↔ x3 = 1 ∧ x5 = 0) by omega)]
        rfl
/-- the loop is left -/
theorem v60_90x {x0 x2 : Int} {x1 x3 x4 x5 : Nat} {x7 : yV} : Y q (d + 1) 60 90 [vr 122, vi x0, vr x1, vi x2, vi x3, vi x4, vi x5, vi 0, x7] [] S js = YB q (Y q d 59 0 [vr 122] [] S js) (d + 1) 60 192 [vr 122, vi x0, vr x1, vi x2, vi x3, vi x4, vi x5, vi 0, x7] [] := by
  have e0 : yr 0 = 0 := rfl
  rw [w60_90, if_pos e0]
theorem v60_90 {x0 x2 : Int} {x1 x3 x4 x5 : Nat} {x7 : yV} (h5 : x5 ≤ 100) : Y q (d + 1) 60 90 [vr 122, vi x0, vr x1, vi x2, vi x3, vi x4, vi x5, vi 1, x7] [] S js = if x5 < 100 then YB q (Y q d 52 0 [vr 122, vi 0, vi (x0 + 1), vu, vu, vu] [] S js) (d + 1) 60 107 [vr 122, vi x0, vr x1, vi x2, vi x3, vi x4, vi x5, vi 1, x7] [] else YB q (Y q d 59 0 [vr 122] [] S js) (d + 1) 60 192 [vr 122, vi x0, vr x1, vi x2, vi x3, vi x4, vi x5, vi 1, x7] [] := by
  have e1 : yr 1 = 1 := rfl
  have e100 : yr 100 = 100 := rfl
  rw [w60_90, e1, e100, if_neg (by omega), yr_eq (x := (x5 : Int)) (by omega) (by omega)]
  by_cases z : x5 < 100
  · rw [if_pos z, if_pos (by omega)]
  · rw [if_neg z, if_neg (by omega)]
/-- no argument is read on -/
theorem l60d {x0 x2 : Int} {x1 x3 x4 x5 p : Nat} {x7 : yV} (hu : u = 0 ∨ u = 1) (hz : yFr (yWx u) S0 S) (h : cM T N u w S (.inl p)) (h3 : x3 = 0 ∨ x3 = 1) (h4 : x4 = 0 ∨ x4 = 1) (h5 : x5 ≤ 100) (hs : cSub q js S0 T N u w Rm Rx tx (fun S => Y q d 52 0 [vr 122, vi 0, vi (x0 + 1), vu, vu, vu] [] S js) P) : ∃ (S' : yS) (y4 y5 y6 : Nat) (y7 : yV), Y q (d + 1) 60 90 [vr 122, vi x0, vr x1, vi x2, vi x3, vi x4, vi x5, vi 1, x7] [] S js = YB q (Y q d 59 0 [vr 122] [] S' js) (d + 1) 60 192 [vr 122, vi x0, vr x1, vi x2, vi x3, vi y4, vi y5, vi y6, y7] [] ∧ yFr (yWx u) S S' ∧ cM T N u w S' (.inl p) ∧ y5 ≤ 101 ∧ (y4 = 0 ∨ y4 = 1) := by
  by_cases z : x5 < 100
  · obtain ⟨S1, r, m1, a1, a2, a3, a4, a5, a6⟩ := hs S (.inl p) hz h (fun t b k e => nomatch e)
    have a1 : Y q d 52 0 [vr 122, vi 0, vi (x0 + 1), vu, vu, vu] [] S js = yret q (vi r) S1 js := a1
    have := a5 p rfl
    subst this
    have k66 : gK S1 0 = 66 := a3.2.2.2.2.1
    refine ⟨S1, yft x3 x4 x5 r, x5 + 1, 0, vi r, ?_, a2, a3, by omega, ?_⟩
    · rw [v60_90 h5, if_pos z, a1, YB_ret, v60_110 (by omega) h3 h4 h5 a4, if_neg (by omega), v60_90x]
      rfl
    · unfold yft
      split
      · exact Or.inl rfl
      · split
        · exact Or.inr rfl
        · exact Or.inl rfl
  · refine ⟨S, x4, x5, 1, x7, ?_, yFr_rf _ _, h, by omega, h4⟩
    rw [v60_90 h5, if_neg z]
    rfl
/-- what is known in the loop -/
def yalp (u : Nat) (Rm : Nat → Nat → Nat) (Rx : Nat → Nat) (tx : Nat → Nat → List Int) (c : Bool) (base tb : Nat) (k : yK9) (a : yAr) (t b x4 x5 : Nat) : Prop := ∀ L X, k = .inr (L, X) → base = L.length ∧ tb = X.length ∧ ∀ ts seg txs f, a = .inr (ts, seg, txs, f) → ((L.length + seg.length + Rm t b : Nat) : Int) ≤ capu u ∧ (X.map List.length).sum + 2 * X.length + ytl tx txs ≤ Rx t ∧ ts.length = x5 ∧ (x4 = 1 ↔ yfits c ts)
theorem yalp_bs {c : Bool} {base tb t b x4 x5 : Nat} {k : yK9} {a : yAr} (h : yalp u Rm Rx tx c base tb k a t b x4 x5) : ybs u Rm Rx (base + yarl a) (tb + yart a) t b (ykA k tx a) := by
  intro L X hk
  match k, a, hk, h with
  | .inr (L0, X0), .inr (ts, seg, txs, f), hk, h =>
    obtain ⟨h1, h2, h3⟩ := h L0 X0 rfl
    obtain ⟨h3, h4, h5, h6⟩ := h3 ts seg txs f rfl
    have hk : (Sum.inr (L0 ++ seg, X0 ++ yTexts tx txs) : yK9) = .inr (L, X) := hk
    injection hk with hk
    injection hk with e1 e2
    subst e1
    subst e2
    have l1 : (L0 ++ seg).length = L0.length + seg.length := List.length_append
    have l2 : (X0 ++ yTexts tx txs).length = X0.length + txs.length := by rw [List.length_append, ytx_len]
    refine ⟨?_, ?_, by rw [l1]; exact h3, ?_⟩
    · rw [l1, h1]
      rfl
    · rw [l2, h2]
      rfl
    · rw [ysl_all, List.map_append, List.sum_append, l2]
      unfold ytl at h4
      omega
/-- the loop -/
theorem l60 {x0 x2 : Int} {x1 x3 base tb : Nat} {k : yK9} {c : Bool} (hu : u = 0 ∨ u = 1) (hT : yTo T N) (hR : yRoom T N Rm Rx s) (hP : yPok N Rm Rx s tx P) (h3 : x3 = 0 ∨ x3 = 1) (hc : c = true ↔ x3 = 1) (hs : cSub q js S0 T N u w Rm Rx tx (fun S => Y q d 52 0 [vr 122, vi 0, vi (x0 + 1), vu, vu, vu] [] S js) P) (f : Nat) : ∀ (x5 t b x4 : Nat) (a : yAr) (x7 : yV) (S : yS), x5 + f = 100 → yalp u Rm Rx tx c base tb k a t b x4 x5 → cM T N u w S (.inr (t, b, ykA k tx a)) → yFr (yWx u) S0 S → (x4 = 0 ∨ x4 = 1) → ∃ (S' : yS) (y4 y5 y6 : Nat) (y7 : yV), Y q (d + 1) 60 90 [vr 122, vi x0, vr x1, vi x2, vi x3, vi x4, vi x5, vi 1, x7] [] S js = YB q (Y q d 59 0 [vr 122] [] S' js) (d + 1) 60 192 [vr 122, vi x0, vr x1, vi x2, vi x3, vi y4, vi y5, vi y6, y7] [] ∧ yFr (yWx u) S S' ∧ cM T N u w S' (ymodA k tx (yargs T P f base tb t b a)) ∧ y5 ≤ 101 ∧ (y4 = 0 ∨ y4 = 1) ∧ ∀ t' b' a', yargs T P f base tb t b a = .inr (t', b', a') → t' < N ∧ yalp u Rm Rx tx c base tb k a' t' b' y4 y5 := by
  induction f with
  | zero =>
    intro x5 t b x4 a x7 S hi hI h hz h4
    refine ⟨S, x4, x5, 1, x7, ?_, yFr_rf _ _, h, by omega, h4, fun t' b' a' e => ?_⟩
    · rw [v60_90 (by omega), if_neg (by omega)]
      rfl
    · injection e with e
      injection e with e1 e
      injection e with e2 e3
      subst e1
      subst e2
      subst e3
      exact ⟨(cM_kd h).2.2, hI⟩
  | succ f ih =>
    intro x5 t b x4 a x7 S hi hI h hz h4
    have hbs := yalp_bs hI
    obtain ⟨S1, r, m1, a1, a2, a3, a4, a5, a6⟩ := hs S _ hz h (fun t' b' k' e => by
      injection e with e
      injection e with e1 e
      injection e with e2 e3
      subst e1
      subst e2
      subst e3
      exact ⟨_, _, hbs⟩)
    have a1 : Y q d 52 0 [vr 122, vi 0, vi (x0 + 1), vu, vu, vu] [] S js = yret q (vi r) S1 js := a1
    obtain ⟨g1, g2⟩ := a6 _ _ _ rfl _ _ hbs
    subst g1
    have h4' : yft x3 x4 x5 r = 0 ∨ yft x3 x4 x5 r = 1 := by
      unfold yft
      split
      · exact Or.inl rfl
      · split
        · exact Or.inr rfl
        · exact Or.inl rfl
    have head : gK S1 0 < 67 → Y q (d + 1) 60 90 [vr 122, vi x0, vr x1, vi x2, vi x3, vi x4, vi x5, vi 1, x7] [] S js = if gK S1 0 = 48 then YB q (Y q d 154 0 [vr 86] [] S1 js) (d + 1) 60 185 [vr 122, vi x0, vr x1, vi x2, vi x3, vi (yft x3 x4 x5 r : Nat), vi (x5 + 1 : Nat), vi 1, vi r] [] else Y q (d + 1) 60 90 [vr 122, vi x0, vr x1, vi x2, vi x3, vi (yft x3 x4 x5 r : Nat), vi (x5 + 1 : Nat), vi 0, vi r] [] S1 js := by
      intro hk
      rw [v60_90 (by omega), if_pos (by omega), a1, YB_ret, v60_110 hk h3 h4 (by omega) a4]
    match hp : P (base + yarl a) (tb + yart a) t b with
    | .inl p =>
      rw [hp] at a3
      have k66 : gK S1 0 = 66 := a3.2.2.2.2.1
      have ea : yargs T P (f + 1) base tb t b a = .inl p := by
        show (match P (base + yarl a) (tb + yart a) t b with
          | .inl p => _
          | .inr (t1, b1, m) => _) = _
        rw [hp]
      rw [ea]
      refine ⟨S1, yft x3 x4 x5 r, x5 + 1, 0, vi r, ?_, a2, a3, by omega, h4', fun t' b' a' e => nomatch e⟩
      rw [head (by omega), if_neg (by omega), v60_90x]
      rfl
    | .inr (t1, b1, m) =>
      rw [hp] at a3
      have a3 : cM T N u w S1 (.inr (t1, b1, ykm (ykA k tx a) tx m)) := a3
      rw [ykA_app] at a3
      obtain ⟨k1, k2, k3⟩ := cM_kd a3
      have h67 := (hT.2.2.2.2 t1 k3).2
      have ea : yargs T P (f + 1) base tb t b a = if (T t1).1 = 48 then (if b1 = 0 then .inl (T t1).2.1 else yargs T P f base tb (t1 + 1) (b1 - 1) (yapp a m)) else .inr (t1, b1, yapp a m) := by
        show (match P (base + yarl a) (tb + yart a) t b with
          | .inl p => _
          | .inr (t1, b1, m) => _) = _
        rw [hp]
      have hI1 : yalp u Rm Rx tx c base tb k (yapp a m) t1 b1 (yft x3 x4 x5 r) (x5 + 1) := by
        intro L X hk
        obtain ⟨i1, i2, i3⟩ := hI L X hk
        refine ⟨i1, i2, fun ts' seg' txs' f' e => ?_⟩
        match a, m, e, i3, hp, g2 with
        | .inr (ts, seg, txs, ff), .inr x, e, i3, hp, g2 =>
          obtain ⟨i3, i4, i5, i6⟩ := i3 ts seg txs ff rfl
          obtain ⟨p1, p2, p3, p4, p5⟩ := hP _ _ _ _ _ _ _ (cM_kd h).2.2 hp
          obtain ⟨p5, p6, p7⟩ := p5 x rfl
          have e : (Sum.inr (ts ++ [x.1], seg ++ x.2.2.1, txs ++ x.2.2.2.1, _) : yAr) = .inr (ts', seg', txs', f') := e
          injection e with e
          injection e with e1 e
          injection e with e2 e
          injection e with e3 e
          subst e1
          subst e2
          subst e3
          subst hk
          have hr := g2 (L ++ seg) (X ++ yTexts tx txs) rfl t1 b1 x hp
          refine ⟨by rw [List.length_append]; omega, by rw [ytl_app]; omega, by rw [List.length_append, i5]; rfl, ?_⟩
          rw [yfits_s, ← i6, i5]
          have hx1 : r = 1 ↔ x.1 = true := by rw [hr]; exact yty_i
          have q1 : x.1 = (c && decide (x5 = 0)) ↔ (r = 1 ↔ x3 = 1 ∧ x5 = 0) := by
            rw [hx1, ← hc]
            constructor
            · intro z
              rw [z, Bool.and_eq_true, decide_eq_true_eq]
            · intro z
              rw [Bool.eq_iff_iff, Bool.and_eq_true, decide_eq_true_eq]
              exact z
          rw [q1]
          unfold yft
          by_cases z : x4 = 0
          · rw [if_pos z]
            omega
          · rw [if_neg z]
            by_cases z2 : (r = 1 ↔ x3 = 1 ∧ x5 = 0)
            · rw [if_pos z2]
              exact ⟨fun _ => ⟨by omega, z2⟩, fun _ => rfl⟩
            · rw [if_neg z2]
              exact ⟨fun v => by omega, fun v => (z2 v.2).elim⟩
      by_cases z : (T t1).1 = 48
      · rw [ea, if_pos z]
        have ht1 := yTo_t hT k3 (by omega)
        obtain ⟨S2, c1, c2, c3⟩ := mnext (q := q) (d := d) (js := js) hu hT a3 (fun t' b' k' e => by
          injection e with e
          injection e with e _
          rw [← e]
          omega)
        have st : Y q (d + 1) 60 90 [vr 122, vi x0, vr x1, vi x2, vi x3, vi x4, vi x5, vi 1, x7] [] S js = Y q (d + 1) 60 90 [vr 122, vi x0, vr x1, vi x2, vi x3, vi (yft x3 x4 x5 r : Nat), vi (x5 + 1 : Nat), vi 1, vi r] [] S2 js := by
          rw [head (by omega), if_pos (by omega), c1, YB_retv, w60_188]
        rw [st]
        by_cases zb : b1 = 0
        · subst zb
          rw [if_pos rfl]
          have c3 : cM T N u w S2 (.inl (T t1).2.1) := c3
          obtain ⟨S3, y4, y5, y6, y7, f1, f2, f3, f4, f5⟩ := l60d (x2 := x2) (x1 := x1) (x7 := vi r) hu (yFr_tr hz (yFr_tr a2 (yWk_x c2))) c3 h3 h4' (show x5 + 1 ≤ 100 by omega) hs
          exact ⟨S3, y4, y5, y6, y7, f1, yFr_tr a2 (yFr_tr (yWk_x c2) f2), f3, f4, f5, fun t' b' a' e => nomatch e⟩
        · rw [if_neg zb]
          rw [ysn T _ zb] at c3
          have R := hR.2.2 t1 b1 ht1 (by omega)
          have R3 := (R.2.2 (by omega)).1
          have R1 := R.1
          have hI2 : yalp u Rm Rx tx c base tb k (yapp a m) (t1 + 1) (b1 - 1) (yft x3 x4 x5 r) (x5 + 1) := by
            intro L X hk
            obtain ⟨i1, i2, i3⟩ := hI1 L X hk
            refine ⟨i1, i2, fun ts' seg' txs' f' e => ?_⟩
            obtain ⟨j1, j2, j3, j4⟩ := i3 ts' seg' txs' f' e
            exact ⟨by omega, by omega, j3, j4⟩
          obtain ⟨S3, y4, y5, y6, y7, f1, f2, f3, f4, f5, f6⟩ := ih (x5 + 1) (t1 + 1) (b1 - 1) (yft x3 x4 x5 r) (yapp a m) (vi r) S2 (by omega) hI2 c3 (yFr_tr hz (yFr_tr a2 (yWk_x c2))) h4'
          exact ⟨S3, y4, y5, y6, y7, f1, yFr_tr a2 (yFr_tr (yWk_x c2) f2), f3, f4, f5, f6⟩
      · rw [ea, if_neg z]
        refine ⟨S1, yft x3 x4 x5 r, x5 + 1, 0, vi r, ?_, a2, a3, by omega, h4', fun t' b' a' e => ?_⟩
        · rw [head (by omega), if_neg (by omega), v60_90x]
          rfl
        · injection e with e
          injection e with e1 e
          injection e with e2 e3
          subst e1
          subst e2
          subst e3
          exact ⟨k3, hI1⟩
end YFUL
end YFU
