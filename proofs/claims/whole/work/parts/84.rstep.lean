/-! THE REFERENCE: one operator of any level; and -/
section YRW
/-- what is compiled ahead of the right operand -/
def ypre (base kd : Nat) (l : yMn) : yCo := match l with
  | .inl _ => []
  | .inr x => if kd = 34 then [(29, ya64 (base + x.2.2.1.length + 3)), (0, 1), (28, 0)] else if kd = 35 then [(29, 0)] else if kd = 56 ∧ x.1 = false then [(23, 0)] else []
theorem ypre_n (base kd : Nat) (x : yX) : yrbs base kd (.inr x) = base + x.2.2.1.length + (ypre base kd (.inr x)).length := by
  show base + x.2.2.1.length + (if kd = 34 then 3 else if kd = 35 then 1 else if kd = 56 ∧ x.1 = false then 1 else 0) = base + x.2.2.1.length + (if kd = 34 then [((29 : Nat), ya64 (base + x.2.2.1.length + 3)), (0, 1), (28, 0)] else if kd = 35 then [(29, 0)] else if kd = 56 ∧ x.1 = false then [(23, 0)] else []).length
  split
  · rfl
  · split
    · rfl
    · split <;> rfl
theorem ytl_0 (txs : List (Nat × Nat)) : ytl (fun _ _ => []) txs = 2 * txs.length := by
  have : ∀ l : List (Nat × Nat), ((yTexts (fun _ _ => []) l).map List.length).sum = 0 := by
    intro l
    induction l with
    | nil => rfl
    | cons a t ih =>
      show 0 + ((yTexts (fun _ _ => []) t).map List.length).sum = 0
      rw [ih]
  unfold ytl
  rw [this, Nat.zero_add]
def ytyn (x : yX) : Nat := if x.1 = true then 1 else 0
section YRWL
variable {q : yQ} {d : Nat} {js : List xO} {S0 S S5 : yS} {T : yTk} {N u : Nat} {sc : Int} {Rm : Nat → Nat → Nat} {Rx : Nat → Nat} {s dp : Nat} {tx : Nat → Nat → List Int} {O : yOp} {P : Nat → Nat → Nat → Nat → yPr} {k k' k5 : yRk}
/-- the code and the texts before an operator -/
theorem rls_k {base tb t b ty : Nat} {l : yMn} (hI : rls s Rm Rx base tb k k' l t b ty S) : (k = none ∧ k' = none) ∨ ∃ L X x, k = some (L, X) ∧ l = .inr x ∧ k' = some (L ++ x.2.2.1, X ++ x.2.2.2.1) ∧ base = L.length ∧ tb = X.length ∧ ty = ytyn x ∧ rP S x.2.1 ∧ L.length + x.2.2.1.length + s + Rm t b ≤ 4000 ∧ 2 * (X.length + x.2.2.2.1.length) ≤ Rx t ∧ yWf x := by
  match k, hI with
  | none, hI => exact Or.inl ⟨rfl, hI.2⟩
  | some (L, X), hI =>
    obtain ⟨h0, w1, w2, x, hx, hk, hty, hp, hl1, hl2, hw⟩ := hI
    exact Or.inr ⟨L, X, x, rfl, hx, hk, w1, w2, hty, hp, hl1, hl2, hw⟩
theorem rStep {lv : Int} {kd f base tb t b ty : Nat} {l : yMn} {hd : Option xRes → Nat → yS → Prop} {C : Option xRes → Option xRes} {F : yS → Option xRes} (hT : yTo T N) (hR : yRoom T N Rm Rx s) (hP : yPok N Rm Rx s tx P) (hL : yPlt P) (hs : rSub q js S0 T N u sc Rm Rx dp F P) (ht : t + 1 < N) (hkd : (T t).1 = kd) (h64 : kd ≤ 64) (hlv : yKr kd = lv) (hb : b ≠ 0) (hz : yFr (yWv u) S0 S) (hI : rls s Rm Rx base tb k k' l t b ty S) (hC : ∀ (a p : Int32) (S' : yS), C (ythr q (ystp a p) S' js) = ythr q (ystp a p) S' js) (f5 : yFr (yWv u) S S5) (h5 : rM T N u sc S5 (t + 1) (b - 1) dp k5) (hk5 : (k = none ∧ k5 = none) ∨ ∃ L X x, k = some (L, X) ∧ l = .inr x ∧ k5 = some (L ++ x.2.2.1 ++ ypre base kd l, X ++ x.2.2.2.1)) (hN : k = none → ∀ (S6 : yS) (n t2 b2 : Nat), rM T N u sc S6 t2 b2 dp none → n ≤ 1 → ∃ (S7 : yS) (ty' : Nat), hd (C (yret q (vi (n : Int)) S6 js)) ty' S7 ∧ yFr (yWv u) S6 S7 ∧ rM T N u sc S7 t2 b2 dp none ∧ ty' ≤ 1) (hS : ∀ L X x, k = some (L, X) → l = .inr x → base = L.length → tb = X.length → yWf x → ∀ (S6 : yS) (y : yX) (t2 b2 : Nat), yWf y → L.length + x.2.2.1.length + y.2.2.1.length ≤ 4000 → rM T N u sc S6 t2 b2 dp (some ((L ++ x.2.2.1 ++ ypre base kd l) ++ y.2.2.1, (X ++ x.2.2.2.1) ++ y.2.2.2.1)) → rP S6 y.2.1 → match ycomb O base kd (T t).2.1 (.inr x) (.inr y) with
    | .inl e => ∃ S7, C (yret q (vi (ytyn y : Nat)) S6 js) = ythr q (ystp (Int32.ofInt (e.1 : Nat)) (Int32.ofInt (e.2 : Nat))) S7 js ∧ yFr (yWv u) S6 S7
    | .inr z => ∃ S7, hd (C (yret q (vi (ytyn y : Nat)) S6 js)) (ytyn z) S7 ∧ yFr (yWv u) S6 S7 ∧ rM T N u sc S7 t2 b2 dp (some (L ++ z.2.2.1, X ++ z.2.2.2.1)) ∧ rP S7 z.2.1) (ih : ∀ (o : Option xRes) (t b ty : Nat) (l : yMn) (k' : yRk) (S : yS), hd o ty S → b + 1 ≤ f ∨ lv = 2 → yFr (yWv u) S0 S → rM T N u sc S t b dp k' → rls s Rm Rx base tb k k' l t b ty S → rOut q js T N u sc S dp k o (ylop T O lv P f base tb t b l)) (hf : b + 1 ≤ f + 1 ∨ lv = 2) : rOut q js T N u sc S dp k (C (F S5)) (ylop T O lv P (f + 1) base tb t b l) := by
  have R := hR.2.2 t b ht (by omega)
  have R1 := R.1
  obtain ⟨R3, R4⟩ := R.2.2 (by omega)
  have s1 := hR.1
  have s2 := hR.2.1
  rw [ylop_s (by rw [hkd]; exact hlv), ysp_s hb, hkd]
  have plen : ∀ x, l = .inr x → (ypre base kd l).length + Rm (t + 1) (b - 1) ≤ s + Rm t b := by
    intro x hx
    subst hx
    show (if kd = 34 then [((29 : Nat), ya64 (base + x.2.2.1.length + 3)), (0, 1), (28, 0)] else if kd = 35 then [(29, 0)] else if kd = 56 ∧ x.1 = false then [(23, 0)] else []).length + _ ≤ _
    by_cases z : kd = 34
    · have := R4 (Or.inl (by rw [hkd]; exact z))
      rw [if_pos z]
      show 3 + _ ≤ _
      omega
    · rw [if_neg z]
      split
      · show 1 + _ ≤ _
        omega
      · split
        · show 1 + _ ≤ _
          omega
        · show 0 + _ ≤ _
          omega
  have sub := hs S5 (t + 1) (b - 1) k5 (yFr_tr hz f5) h5 (by
    intro L' X' e
    rcases hk5 with ⟨_, e2⟩ | ⟨L, X, x, e1, e3, e2⟩
    · rw [e2] at e; nomatch e
    · rcases rls_k hI with ⟨v1, _⟩ | ⟨L1, X1, x1, v1, v2, v3, v4, v5, v6, v7, v8, v9, v10⟩
      · rw [v1] at e1; nomatch e1
      · rw [v1] at e1
        injection e1 with e1
        injection e1 with q1 q2
        rw [v2] at e3
        injection e3 with e3
        subst e3
        rw [e2] at e
        injection e with e
        injection e with w1 w2
        have := plen x1 v2
        rw [← w1, ← w2, List.length_append, List.length_append, List.length_append, ← q1, ← q2]
        omega) (yrbs base kd l) (yrtx tb l) (by
    intro L' X' e
    rcases hk5 with ⟨_, e2⟩ | ⟨L, X, x, e1, e3, e2⟩
    · rw [e2] at e; nomatch e
    · rcases rls_k hI with ⟨v1, _⟩ | ⟨L1, X1, x1, v1, v2, v3, v4, v5, v6, v7, v8, v9, v10⟩
      · rw [v1] at e1; nomatch e1
      · rw [v1] at e1
        injection e1 with e1
        injection e1 with q1 q2
        rw [v2] at e3
        injection e3 with e3
        subst e3
        rw [e2] at e
        injection e with e
        injection e with w1 w2
        rw [← w1, ← w2, v2, ypre_n, List.length_append, List.length_append, List.length_append, ← q1, ← q2, v4, v5]
        exact ⟨rfl, rfl⟩)
  match hp : P (yrbs base kd l) (yrtx tb l) (t + 1) (b - 1) with
  | .inl p =>
    rw [hp] at sub
    refine rOut_n fun hk => ?_
    have e1 : k5 = none := by
      rcases hk5 with ⟨_, e2⟩ | ⟨L, X, x, e1, _⟩
      · exact e2
      · rw [hk] at e1; nomatch e1
    obtain ⟨S6, g1, g2⟩ := sub e1
    exact ⟨S6, by rw [g1, hC], yFr_tr f5 g2⟩
  | .inr (t2, b2, rr) =>
    rw [hp] at sub
    have hlt := hL _ _ _ _ _ _ _ hp
    obtain ⟨p1, p2, p3, p4, p5⟩ := hP _ _ _ _ _ _ _ ht hp
    show rOut q js T N u sc S dp k _ (ylop T O lv P f base tb t2 b2 (ycomb O base kd (T t).2.1 l rr))
    rcases hk5 with ⟨e1, e2⟩ | ⟨L, X, x, e1, e3, e2⟩
    · subst e1
      subst e2
      obtain ⟨S6, n, g1, g2, g3, g4⟩ := sub
      obtain ⟨S7, ty', c1, c2, c3, c4⟩ := hN rfl S6 n t2 b2 g3 g4
      rw [g1]
      have fin := ih _ t2 b2 ty' (ycomb O base kd (T t).2.1 l rr) none S7 c1 (by omega) (yFr_tr hz (yFr_tr f5 (yFr_tr g2 c2))) c3 ⟨c4, rfl⟩
      exact rOut_tr (yFr_tr f5 (yFr_tr g2 c2)) fin
    · subst e1
      subst e2
      subst e3
      rcases rls_k hI with ⟨v1, _⟩ | ⟨L1, X1, x1, v1, v2, v3, v4, v5, v6, v7, v8, v9, v10⟩
      · nomatch v1
      · injection v1 with v1
        injection v1 with q1 q2
        subst q1
        subst q2
        injection v2 with v2
        subst v2
        match rr, sub, p5, hp with
        | .inl (n, p), sub, p5, hp =>
          obtain ⟨S6, g1, g2⟩ := sub
          exact rOut_e (e := (n, p)) (S1 := S6) (by rw [g1, hC]) (yFr_tr f5 g2)
        | .inr y, sub, p5, hp =>
          obtain ⟨S6, g1, g2, g3, g4⟩ := sub
          obtain ⟨y1, y2, y3⟩ := p5 y rfl
          have y4 : 2 * y.2.2.2.1.length ≤ ytl tx y.2.2.2.1 := by unfold ytl; omega
          have hpl := plen x rfl
          have post := hS L X x rfl rfl v4 v5 v10 S6 y t2 b2 y1 (by omega) g3 g4
          rw [g1]
          match hc : ycomb O base kd (T t).2.1 (.inr x) (.inr y) with
          | .inl e =>
            rw [hc] at post
            obtain ⟨S7, c1, c2⟩ := post
            exact rOut_e (e := e) (S1 := S7) c1 (yFr_tr f5 (yFr_tr g2 c2))
          | .inr z =>
            rw [hc] at post
            obtain ⟨S7, c1, c2, c3, c4⟩ := post
            obtain ⟨z1, z2, z3, z4⟩ := ycomb_ok (tx := tx) v10 y1 hc
            have z5 : z.2.2.2.1.length ≤ x.2.2.2.1.length + y.2.2.2.1.length := by
              have := (ycomb_ok (tx := fun _ _ => []) v10 y1 hc).2.2.2
              rw [ytl_0, ytl_0, ytl_0] at this
              omega
            have zl : L.length + z.2.2.1.length + s + Rm t2 b2 ≤ 4000 := by
              by_cases z34 : kd = 34 ∨ kd = 35
              · have := z2 z34
                have := R4 (by rw [hkd]; exact z34)
                omega
              · have := z3 z34
                omega
            have fin := ih _ t2 b2 (ytyn z) (.inr z) _ S7 c1 (by omega) (yFr_tr hz (yFr_tr f5 (yFr_tr g2 c2))) c3 ⟨by unfold ytyn; split <;> omega, v4, v5, z, rfl, rfl, rfl, c4, zl, by omega, z1⟩
            exact rOut_tr (yFr_tr f5 (yFr_tr g2 c2)) fin
/-- some code, whatever pass -/
theorem rk_len {k : yRk} {L : yCo} {X : List (Nat × Nat)} {n : Nat} (h : ∀ L X, k = some (L, X) → L.length ≤ n) (op : Nat) (a : Int64) (e : rkad k op a = some (L, X)) : L.length ≤ n + 1 := by
  match k, h, e with
  | some (L0, X0), h, e =>
    injection e with e
    injection e with e1 e2
    have := h L0 X0 rfl
    rw [← e1, List.length_append]
    show _ + 1 ≤ _
    omega
theorem rls_cap {base tb t b ty : Nat} {l : yMn} (hI : rls s Rm Rx base tb k k' l t b ty S) : ∀ L X, k' = some (L, X) → L.length ≤ 4000 := by
  intro L' X' e
  rcases rls_k hI with ⟨_, v⟩ | ⟨L, X, x, v1, v2, v3, v4, v5, v6, v7, v8, v9, v10⟩
  · rw [v] at e; nomatch e
  · rw [v3] at e
    injection e with e
    injection e with e1 e2
    rw [← e1, List.length_append]
    omega
/-- the loop of 228: and -/
theorem l228 {base tb : Nat} (hu : u = 0 ∨ u = 1) (hT : yTo T N) (hR : yRoom T N Rm Rx s) (hP : yPok N Rm Rx s tx P) (hL : yPlt P) (hs : rSub q js S0 T N u sc Rm Rx dp (fun S => Y q (d + 2) 229 0 [vr 129, vu, vu, vu, vu, vu, vu, vu, vu] [] S js) P) (f : Nat) : ∀ (t b ty : Nat) (l : yMn) (k' : yRk) (x1 x2 x3 x4 x5 : yV) (S : yS), b + 1 ≤ f → yFr (yWv u) S0 S → rM T N u sc S t b dp k' → rls s Rm Rx base tb k k' l t b ty S → rOut q js T N u sc S dp k (Y q (d + 3) 228 5 [vr 129, vi ty, x1, x2, x3, x4, x5] [] S js) (ylop T O 1 P f base tb t b l) := by
  induction f with
  | zero => intro t b ty l k' x1 x2 x3 x4 x5 S hf; omega
  | succ f ih =>
    intro t b ty l k' x1 x2 x3 x4 x5 S hf hz h hI
    have h2 := h.2.1
    have h67 := (hT.2.2.2.2 t h2).2
    have his := rm_is (q := q) (d := d + 2) (js := js) hT h (kd := 35) (by omega)
    have his : Y q (d + 2) 221 0 [vr 129, vi 35] [] S js = yret q (vi (yb ((T t).1 = 35))) S js := his
    rw [w228_5, his, YB_ret, w228_11]
    simp only [yr_yb, yb_eq0]
    by_cases h35 : (T t).1 = 35
    · have hkr : yKr (T t).1 = 1 := (ykr_eq0 _ h67).2.mpr h35
      obtain ⟨g1, g2, g3, g4, g5, g6, g7, g8⟩ := rM_t h
      have ht := yTo_t hT h2 (by omega)
      have hN := hT.2.1
      have e44 : yr (gI S 44) = t := by rw [g1]; exact yr_eq (by omega) (by omega)
      rw [if_neg (fun n => n h35), e44, if_pos (by omega), Int.toNat_natCast, g8]
      by_cases hb : b = 0
      · subst hb
        rw [ylop_s hkr]
        refine rOut_n fun hk => ⟨S, ?_, yFr_rf _ _⟩
        rw [rm_take0 hT h, t228]
      · obtain ⟨S1, a1, f1, h1, _, _⟩ := rm_take (q := q) (d := d + 1) (js := js) hT h (by omega) hb hu
        have cap := rls_cap hI
        obtain ⟨S2, r2, a2, f2, h2', _, _, i2⟩ := rm_emit (q := q) (d := d + 2) (js := js) hu h1 (fun L X e => by have := cap L X e; omega) 29 0
        have a2 : Y q (d + 2) 234 0 [vr 129, vi 29, vj 0, vu] [] S1 js = yret q (vi r2) S2 js := a2
        rw [a1, YB_retv, w228_28, a2, YB_ret, w228_35]
        refine rStep (hd := fun o ty S => ∃ y1 y2 y3 y4 y5 : yV, o = Y q (d + 3) 228 5 [vr 129, vi ty, y1, y2, y3, y4, y5] [] S js) (C := fun o => YB q o (d + 3) 228 37 [vr 129, vi ty, vi ((T t).2.1 : Nat), vi r2, x3, x4, x5] []) (kd := 35) hT hR hP hL hs ht h35 (by omega) (by decide) hb hz hI (fun a p S' => t228 ..) (yFr_tr f1 f2) h2' ?_ ?_ ?_ ?_ (Or.inl hf)
        · rcases rls_k hI with ⟨v1, v2⟩ | ⟨L, X, x, v1, v2, v3, _⟩
          · exact Or.inl ⟨v1, by rw [v2]; rfl⟩
          · refine Or.inr ⟨L, X, x, v1, v2, ?_⟩
            rw [v2, v3]
            rfl
        · intro _ S6 n t2 b2 g3 g4
          obtain ⟨S7, r7, c7, d7, h7, _, _, _⟩ := rm_emit (q := q) (d := d + 2) (js := js) hu g3 (fun L X e => nomatch e) 29 0
          obtain ⟨S8, r8, c8, d8, h8, _, _, _⟩ := rm_emit (q := q) (d := d + 2) (js := js) hu h7 (fun L X e => nomatch e) 0 1
          obtain ⟨S9, r9, c9, d9, h9, _, _, _⟩ := rm_emit (q := q) (d := d + 2) (js := js) hu h8 (fun L X e => nomatch e) 28 0
          obtain ⟨Sa, ca, da, ha, _, _⟩ := rm_aim (q := q) (d := d + 2) (js := js) (i := r2) hu h9 (fun L X e => nomatch e)
          obtain ⟨Sb, cb, db, hb', _, _⟩ := rm_aim (q := q) (d := d + 2) (js := js) (i := r7) hu ha (fun L X e => nomatch e)
          obtain ⟨Sc, rc, cc, dc, hc, _, _, _⟩ := rm_emit (q := q) (d := d + 2) (js := js) hu hb' (fun L X e => nomatch e) 0 0
          obtain ⟨Sd, cd, dd, hd', _, _⟩ := rm_aim (q := q) (d := d + 2) (js := js) (i := r9) hu hc (fun L X e => nomatch e)
          have c7 : Y q (d + 2) 234 0 [vr 129, vi 29, vj 0, vu] [] S6 js = yret q (vi r7) S7 js := c7
          have c8 : Y q (d + 2) 234 0 [vr 129, vi 0, vj 1, vu] [] S7 js = yret q (vi r8) S8 js := c8
          have c9 : Y q (d + 2) 234 0 [vr 129, vi 28, vj 0, vu] [] S8 js = yret q (vi r9) S9 js := c9
          have cc : Y q (d + 2) 234 0 [vr 129, vi 0, vj 0, vu] [] Sb js = yret q (vi rc) Sc js := cc
          obtain ⟨d10, h10, _⟩ := rm_no hd' hu
          have m1 : ∀ c : Int, Y q (d + 2) 219 0 [vr 129, vi c, vi 3, vi ((T t).2.1 : Nat)] [] S6 js = yretv q S6 js := fun c => rm_mustn g3
          refine ⟨sI Sd 49 0, 0, ⟨vi ((T t).2.1 : Nat), vi r2, vi n, vi r7, vi r9, ?_⟩, yFr_tr d7 (yFr_tr d8 (yFr_tr d9 (yFr_tr da (yFr_tr db (yFr_tr dc (yFr_tr dd d10)))))), h10, by omega⟩
          show YB q (yret q (vi (n : Int)) S6 js) (d + 3) 228 37 _ [] = _
          rw [YB_ret, w228_40, m1, m1]
          have : ∀ z : Option xRes, (if yr (ty : Int) = 0 then (if yr (n : Int) = 0 then z else z) else z) = z := fun z => by split; split; rfl; rfl; rfl
          rw [this, YB_retv, w228_62, c7, YB_ret, w228_69, c8, YB_ret, w228_77, c9, YB_ret, w228_85, ca, YB_retv, w228_92, cb, YB_retv, w228_98, cc, YB_ret, w228_104, cd, YB_retv, w228_111]
          rfl
        · intro L X x hk hl hb1 hb2 hwx S6 y t2 b2 hwy hlen g3 g4
          subst hl
          have hty : ty = ytyn x := by
            rcases rls_k hI with ⟨v1, _⟩ | ⟨L1, X1, x1, v1, v2, v3, v4, v5, v6, _⟩
            · rw [v1] at hk; nomatch hk
            · injection v2 with v2
              rw [v6, v2]
          have er2 : r2 = L.length + x.2.2.1.length := by
            rcases rls_k hI with ⟨v1, _⟩ | ⟨L1, X1, x1, v1, v2, v3, v4, v5, v6, _⟩
            · rw [v1] at hk; nomatch hk
            · rw [v1] at hk
              injection hk with hk
              injection hk with q1 q2
              injection v2 with v2
              rw [i2 _ _ v3, List.length_append, q1, v2]
          have ec : ycomb O base 35 (T t).2.1 (.inr x) (.inr y) = if (x.1 || y.1) = true then (.inl (3, (T t).2.1) : yMn) else .inr (false, none, x.2.2.1 ++ [(29, ya64 (base + x.2.2.1.length + 1 + y.2.2.1.length + 3))] ++ y.2.2.1 ++ [(29, ya64 (base + x.2.2.1.length + 1 + y.2.2.1.length + 3)), (0, 1), (28, ya64 (base + x.2.2.1.length + 1 + y.2.2.1.length + 4)), (0, 0)], x.2.2.2.1 ++ y.2.2.2.1, ydand x.2.2.2.2 y.2.2.2.2) := rfl
          rw [ec]
          have tyx : yr (ty : Int) = ty := by rw [hty]; unfold ytyn; split <;> rfl
          have tyy : yr (ytyn y : Int) = (ytyn y : Int) := by unfold ytyn; split <;> rfl
          by_cases hxy : (x.1 || y.1) = true
          · rw [if_pos hxy]
            have m0 : Y q (d + 2) 219 0 [vr 129, vi 0, vi 3, vi ((T t).2.1 : Nat)] [] S6 js = ythr q (ystp (Int32.ofInt (3 : Nat)) (Int32.ofInt ((T t).2.1 : Nat))) S6 js := rm_must0 g3
            refine ⟨S6, ?_, yFr_rf _ _⟩
            show YB q (yret q (vi (ytyn y : Nat)) S6 js) (d + 3) 228 37 _ [] = _
            rw [YB_ret, w228_40, tyx, tyy, hty]
            unfold ytyn
            cases hx1 : x.1 with
            | true => rw [if_neg (by decide), m0, t228]
            | false =>
              cases hy1 : y.1 with
              | true => rw [if_pos (by decide), if_neg (by decide), m0, t228]
              | false => rw [hx1, hy1] at hxy; nomatch hxy
          · rw [if_neg hxy]
            have hx1 : x.1 = false := by cases hx1 : x.1; rfl; rw [hx1] at hxy; exact (hxy rfl).elim
            have hy1 : y.1 = false := by cases hy1 : y.1; rfl; rw [hx1, hy1] at hxy; exact (hxy rfl).elim
            have tx0 : ytyn x = 0 := by unfold ytyn; rw [hx1]; rfl
            have ty0 : ytyn y = 0 := by unfold ytyn; rw [hy1]; rfl
            have g3 : rM T N u sc S6 t2 b2 dp (some ((L ++ x.2.2.1 ++ [(29, 0)]) ++ y.2.2.1, (X ++ x.2.2.2.1) ++ y.2.2.2.1)) := g3
            have len1 : ((L ++ x.2.2.1 ++ [((29 : Nat), (0 : Int64))]) ++ y.2.2.1).length = L.length + x.2.2.1.length + 1 + y.2.2.1.length := by simp only [List.length_append, List.length_cons, List.length_nil]
            obtain ⟨S7, r7, c7, d7, h7, _, _, i7⟩ := rm_emit (q := q) (d := d + 2) (js := js) hu g3 (fun L' X' e => by
              injection e with e
              injection e with q1 q2
              rw [← q1, len1]
              omega) 29 0
            have i7 : r7 = L.length + x.2.2.1.length + 1 + y.2.2.1.length := by rw [i7 _ _ rfl, len1]
            have n7 : ∀ L' X', rkad (some ((L ++ x.2.2.1 ++ [((29 : Nat), (0 : Int64))]) ++ y.2.2.1, (X ++ x.2.2.2.1) ++ y.2.2.2.1)) 29 0 = some (L', X') → L'.length ≤ 4002 := fun L' X' e => rk_len (n := 4001) (fun L2 X2 e2 => by injection e2 with e2; injection e2 with q1 q2; rw [← q1, len1]; omega) 29 0 e
            obtain ⟨S8, r8, c8, d8, h8, _, _, i8⟩ := rm_emit (q := q) (d := d + 2) (js := js) hu h7 (fun L' X' e => by have := n7 L' X' e; omega) 0 1
            have n8 := fun L' X' e => rk_len n7 0 1 (L := L') (X := X') e
            obtain ⟨S9, r9, c9, d9, h9, _, _, i9⟩ := rm_emit (q := q) (d := d + 2) (js := js) hu h8 (fun L' X' e => by have := n8 L' X' e; omega) 28 0
            have i9 : r9 = L.length + x.2.2.1.length + 1 + y.2.2.1.length + 2 := by
              rw [i9 _ _ rfl, List.length_append, List.length_append, len1]
              rfl
            have l9 : (((((L ++ x.2.2.1 ++ [((29 : Nat), (0 : Int64))]) ++ y.2.2.1) ++ [((29 : Nat), (0 : Int64))]) ++ [((0 : Nat), (1 : Int64))]) ++ [((28 : Nat), (0 : Int64))]).length = L.length + x.2.2.1.length + y.2.2.1.length + 4 := by simp only [List.length_append, List.length_cons, List.length_nil]; omega
            obtain ⟨Sa, ca, da, ha, _, _⟩ := rm_aim (q := q) (d := d + 2) (js := js) (i := r2) hu h9 (fun L' X' e => by
              injection e with e
              injection e with q1 q2
              rw [← q1, l9]
              omega)
            obtain ⟨Sb, cb, db, hb', _, _⟩ := rm_aim (q := q) (d := d + 2) (js := js) (i := r7) hu ha (fun L' X' e => by
              injection e with e
              injection e with q1 q2
              rw [← q1, yset_ln, l9]
              omega)
            obtain ⟨Sc, rc, cc, dc, hc, _, _, _⟩ := rm_emit (q := q) (d := d + 2) (js := js) hu hb' (fun L' X' e => by
              injection e with e
              injection e with q1 q2
              rw [← q1, yset_ln, yset_ln, l9]
              omega) 0 0
            obtain ⟨Sd, cd, dd, hd', _, _⟩ := rm_aim (q := q) (d := d + 2) (js := js) (i := r9) hu hc (fun L' X' e => by
              injection e with e
              injection e with q1 q2
              rw [← q1, List.length_append, yset_ln, yset_ln, l9]
              show _ < _ + 1 ∧ _ + 1 ≤ 8000
              omega)
            have c7 : Y q (d + 2) 234 0 [vr 129, vi 29, vj 0, vu] [] S6 js = yret q (vi r7) S7 js := c7
            have c8 : Y q (d + 2) 234 0 [vr 129, vi 0, vj 1, vu] [] S7 js = yret q (vi r8) S8 js := c8
            have c9 : Y q (d + 2) 234 0 [vr 129, vi 28, vj 0, vu] [] S8 js = yret q (vi r9) S9 js := c9
            have cc : Y q (d + 2) 234 0 [vr 129, vi 0, vj 0, vu] [] Sb js = yret q (vi rc) Sc js := cc
            obtain ⟨d10, h10, p10⟩ := rm_no hd' hu
            refine ⟨sI Sd 49 0, ⟨vi ((T t).2.1 : Nat), vi r2, vi (ytyn y : Nat), vi r7, vi r9, ?_⟩, yFr_tr d7 (yFr_tr d8 (yFr_tr d9 (yFr_tr da (yFr_tr db (yFr_tr dc (yFr_tr dd d10)))))), ?_, p10⟩
            · show YB q (yret q (vi (ytyn y : Nat)) S6 js) (d + 3) 228 37 _ [] = _
              rw [YB_ret, w228_40, tyx, tyy, hty, tx0, ty0, if_pos (by decide), if_pos (by decide), rm_must1, YB_retv, w228_62, c7, YB_ret, w228_69, c8, YB_ret, w228_77, c9, YB_ret, w228_85, ca, YB_retv, w228_92, cb, YB_retv, w228_98, cc, YB_ret, w228_104, cd, YB_retv, w228_111]
              rfl
            · have ek : rkcd (rkad (rkcd (rkcd (rkad (rkad (rkad (some ((L ++ x.2.2.1 ++ [((29 : Nat), (0 : Int64))]) ++ y.2.2.1, (X ++ x.2.2.2.1) ++ y.2.2.2.1)) 29 0) 0 1) 28 0) (yset r2)) (yset r7)) 0 0) (yset r9) = some (L ++ (x.2.2.1 ++ [(29, ya64 (base + x.2.2.1.length + 1 + y.2.2.1.length + 3))] ++ y.2.2.1 ++ [(29, ya64 (base + x.2.2.1.length + 1 + y.2.2.1.length + 3)), (0, 1), (28, ya64 (base + x.2.2.1.length + 1 + y.2.2.1.length + 4)), (0, 0)]), X ++ (x.2.2.2.1 ++ y.2.2.2.1)) := by
                show some (yset r9 (yset r7 (yset r2 ((((L ++ x.2.2.1 ++ [((29 : Nat), (0 : Int64))]) ++ y.2.2.1) ++ [(29, 0)] ++ [(0, 1)]) ++ [(28, 0)])) ++ [(0, 0)]), (X ++ x.2.2.2.1) ++ y.2.2.2.1) = _
                have e1 : (((L ++ x.2.2.1 ++ [((29 : Nat), (0 : Int64))]) ++ y.2.2.1) ++ [((29 : Nat), (0 : Int64))] ++ [((0 : Nat), (1 : Int64))]) ++ [((28 : Nat), (0 : Int64))] = (L ++ x.2.2.1) ++ (29, 0) :: (y.2.2.1 ++ [(29, 0), (0, 1), (28, 0)]) := by simp only [List.append_assoc, List.cons_append, List.nil_append]
                have q2 : r2 = (L ++ x.2.2.1).length := by rw [List.length_append]; exact er2
                have n1 : ((L ++ x.2.2.1) ++ ((29 : Nat), (0 : Int64)) :: (y.2.2.1 ++ [((29 : Nat), (0 : Int64)), (0, 1), (28, 0)])).length = base + x.2.2.1.length + 1 + y.2.2.1.length + 3 := by
                  simp only [List.length_append, List.length_cons, List.length_nil]
                  omega
                rw [e1, q2, yset_at, n1]
                have e2 : (L ++ x.2.2.1) ++ ((29 : Nat), ya64 (base + x.2.2.1.length + 1 + y.2.2.1.length + 3)) :: (y.2.2.1 ++ [((29 : Nat), (0 : Int64)), (0, 1), (28, 0)]) = ((L ++ x.2.2.1) ++ (29, ya64 (base + x.2.2.1.length + 1 + y.2.2.1.length + 3)) :: y.2.2.1) ++ (29, 0) :: [(0, 1), (28, 0)] := by simp only [List.append_assoc, List.cons_append]
                have q7 : r7 = ((L ++ x.2.2.1) ++ ((29 : Nat), ya64 (base + x.2.2.1.length + 1 + y.2.2.1.length + 3)) :: y.2.2.1).length := by
                  rw [i7]
                  simp only [List.length_append, List.length_cons]
                  omega
                have n2 : (((L ++ x.2.2.1) ++ ((29 : Nat), ya64 (base + x.2.2.1.length + 1 + y.2.2.1.length + 3)) :: y.2.2.1) ++ ((29 : Nat), (0 : Int64)) :: [((0 : Nat), (1 : Int64)), (28, 0)]).length = base + x.2.2.1.length + 1 + y.2.2.1.length + 3 := by
                  simp only [List.length_append, List.length_cons, List.length_nil]
                  omega
                rw [e2, q7, yset_at, n2]
                have e3 : (((L ++ x.2.2.1) ++ ((29 : Nat), ya64 (base + x.2.2.1.length + 1 + y.2.2.1.length + 3)) :: y.2.2.1) ++ ((29 : Nat), ya64 (base + x.2.2.1.length + 1 + y.2.2.1.length + 3)) :: [((0 : Nat), (1 : Int64)), (28, 0)]) ++ [((0 : Nat), (0 : Int64))] = (((L ++ x.2.2.1) ++ (29, ya64 (base + x.2.2.1.length + 1 + y.2.2.1.length + 3)) :: y.2.2.1) ++ [(29, ya64 (base + x.2.2.1.length + 1 + y.2.2.1.length + 3)), (0, 1)]) ++ (28, 0) :: [(0, 0)] := by simp only [List.append_assoc, List.cons_append, List.nil_append]
                have q9 : r9 = (((L ++ x.2.2.1) ++ ((29 : Nat), ya64 (base + x.2.2.1.length + 1 + y.2.2.1.length + 3)) :: y.2.2.1) ++ [((29 : Nat), ya64 (base + x.2.2.1.length + 1 + y.2.2.1.length + 3)), ((0 : Nat), (1 : Int64))]).length := by
                  rw [i9]
                  simp only [List.length_append, List.length_cons, List.length_nil]
                  omega
                have n3 : ((((L ++ x.2.2.1) ++ ((29 : Nat), ya64 (base + x.2.2.1.length + 1 + y.2.2.1.length + 3)) :: y.2.2.1) ++ [((29 : Nat), ya64 (base + x.2.2.1.length + 1 + y.2.2.1.length + 3)), ((0 : Nat), (1 : Int64))]) ++ ((28 : Nat), (0 : Int64)) :: [((0 : Nat), (0 : Int64))]).length = base + x.2.2.1.length + 1 + y.2.2.1.length + 4 := by
                  simp only [List.length_append, List.length_cons, List.length_nil]
                  omega
                rw [e3, q9, yset_at, n3]
                simp only [List.append_assoc, List.cons_append, List.nil_append]
              rw [ek] at h10
              exact h10
        · rintro o t b ty l k' S ⟨y1, y2, y3, y4, y5, rfl⟩ hf' hz' h' hI'
          exact ih t b ty l k' y1 y2 y3 y4 y5 S (hf'.resolve_right (by decide)) hz' h' hI'
    · have hkr : ¬ yKr (T t).1 = 1 := fun z => h35 ((ykr_eq0 _ h67).2.mp z)
      have e : ylop T O 1 P (f + 1) base tb t b l = .inr (t, b, l) := if_neg hkr
      rw [if_pos h35, e]
      exact rls_out hI h
end YRWL
end YRW
