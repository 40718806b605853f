/-! THE REFERENCE: the loops of products, sums, relations -/
section YRB
section YRBL
variable {q : yQ} {d : Nat} {js : List xO} {S0 S S5 : yS} {T : yTk} {N u : Nat} {sc : Int} {Rm : Nat → Nat → Nat} {Rx : Nat → Nat} {s dp : Nat} {tx : Nat → Nat → List Int} {O : yOp} {P : Nat → Nat → Nat → Nat → yPr} {k k' k5 : yRk}
theorem yif2 {c1 c2 : Prop} [Decidable c1] [Decidable c2] (z : Option xRes) : (if c1 then (if c2 then z else z) else z) = z := by
  split
  · split <;> rfl
  · rfl
theorem ytyn_r (x : yX) : yr (ytyn x : Int) = (ytyn x : Int) := by unfold ytyn; split <;> rfl
theorem ytyn_0 {x : yX} (h : x.1 = false) : ytyn x = 0 := by unfold ytyn; rw [h]; rfl
theorem ytyn_1 {x : yX} (h : x.1 = true) : ytyn x = 1 := by unfold ytyn; rw [h]; rfl
theorem ytyn_z {x : yX} : (ytyn x : Int) = 0 ↔ x.1 = false := by
  unfold ytyn
  cases x.1 with
  | true => exact ⟨fun h => absurd h (by decide), fun h => nomatch h⟩
  | false => exact ⟨fun _ => rfl, fun _ => rfl⟩
/-- start of a level's code, its known number -/
def rst (st : Int) (k : yRk) : Prop := ∀ L X, k = some (L, X) → st = L.length
theorem rls_ty {base tb t b ty : Nat} {l : yMn} {L : yCo} {X : List (Nat × Nat)} {x : yX} (hI : rls s Rm Rx base tb k k' l t b ty S) (hk : k = some (L, X)) (hl : l = .inr x) : ty = ytyn x ∧ rLo (gI S 49) (gJ S 1) x.2.1 := by
  rcases rls_k hI with ⟨v1, _⟩ | ⟨L1, X1, x1, v1, v2, v3, v4, v5, v6, v7, _⟩
  · rw [v1] at hk; nomatch hk
  · rw [hl] at v2
    injection v2 with v2
    rw [v2]
    exact ⟨v6, rP_lo v7⟩
/-- what two numbers come to, behind their operands: must, and reckoning -/
theorem l231 {base tb : Nat} {st : Int} (hu : u = 0 ∨ u = 1) (hT : yTo T N) (hR : yRoom T N Rm Rx s) (hP : yPok N Rm Rx s tx P) (hL : yPlt P) (hs : rSub q js S0 T N u sc Rm Rx dp (fun S => Y q (d + 3) 232 0 [vr 129, vu, vu, vu, vu, vu] [] S js) P) (hst : rst st k) (f : Nat) : ∀ (t b ty : Nat) (l : yMn) (k' : yRk) (x2 x3 x4 x5 x6 : yV) (S : yS), b + 1 ≤ f → yFr (yWv u) S0 S → rM T N u sc S t b dp k' → rls s Rm Rx base tb k k' l t b ty S → rOut q js T N u sc S dp k (Y q (d + 4) 231 13 [vr 129, vi st, vi ty, x2, x3, x4, x5, vu, x6] [] S js) (ylop T O 4 P f base tb t b l) := by
  induction f with
  | zero => intro t b ty l k' x2 x3 x4 x5 x6 S hf; omega
  | succ f ih =>
    intro t b ty l k' x2 x3 x4 x5 x6 S hf hz h hI
    have h2 := h.2.1
    have h67 := (hT.2.2.2.2 t h2).2
    obtain ⟨g1, g2, g3, g4, g5, g6, g7, g8⟩ := rM_t h
    have hN := hT.2.1
    have e44 : yr (gI S 44) = t := by rw [g1]; exact yr_eq (by omega) (by omega)
    have rng := ykR_rng h67
    have k4 := (ykop2 _ h67).2.2
    have hin : (107 ≤ ykR (T t).1 ∧ ykR (T t).1 ≤ 109) = ((T t).1 = 53 ∨ (T t).1 = 54 ∨ (T t).1 = 55) := by
      unfold ykR
      apply propext
      split
      · omega
      · split <;> omega
    rw [w231_13, e44, if_pos (by omega), Int.toNat_natCast, g7, r191i (l := 107) (u := 109) (by decide) (by decide) (by omega) (by omega) (by omega), YB_ret, w231_32, e44]
    simp only [yr_yb, yb_eq0, hin]
    by_cases hk4 : (T t).1 = 53 ∨ (T t).1 = 54 ∨ (T t).1 = 55
    · have hkr : yKr (T t).1 = 4 := k4.mpr hk4
      have ht := yTo_t hT h2 (by omega)
      rw [if_neg (fun n => n hk4), if_pos (by omega), if_pos (by omega), Int.toNat_natCast, g8, g7]
      by_cases hb : b = 0
      · subst hb
        rw [ylop_s hkr]
        refine rOut_n fun hk => ⟨S, ?_, yFr_rf _ _⟩
        rw [rm_take0 hT h, t231]
      · obtain ⟨S1, a1, f1, h1, p1, p2⟩ := rm_take (q := q) (d := d + 2) (js := js) hT h (by omega) hb hu
        have ek : ykR (T t).1 - 105 = (((T t).1 - 51 : Nat) : Int) := by
          unfold ykR
          rw [if_neg (by omega), if_pos (by omega)]
          omega
        rw [a1, YB_retv, w231_75, ek]
        refine rStep (hd := fun o ty S => ∃ y2 y3 y4 y5 y6 : yV, o = Y q (d + 4) 231 13 [vr 129, vi st, vi ty, y2, y3, y4, y5, vu, y6] [] S js) (C := fun o => YB q o (d + 4) 231 76 [vr 129, vi st, vi ty, vi (((T t).1 - 51 : Nat) : Int), vi ((T t).2.1 : Nat), vi (gI S 49), vj (gJ S 1), vu, x6] []) (kd := (T t).1) hT hR hP hL hs ht rfl (by omega) hkr hb hz hI (fun a p S' => t231 ..) f1 h1 ?_ ?_ ?_ ?_ (Or.inl hf)
        · rcases rls_k hI with ⟨v1, v2⟩ | ⟨L, X, x, v1, v2, v3, _⟩
          · exact Or.inl ⟨v1, v2⟩
          · refine Or.inr ⟨L, X, x, v1, v2, ?_⟩
            rw [v2, v3]
            show _ = some (_ ++ (if (T t).1 = 34 then _ else if (T t).1 = 35 then _ else if (T t).1 = 56 ∧ x.1 = false then _ else []), _)
            rw [if_neg (by omega), if_neg (by omega), if_neg (by omega), List.append_nil]
        · intro _ S6 n t2 b2 g3 g4
          have m1 : ∀ c : Int, Y q (d + 3) 219 0 [vr 129, vi c, vi 3, vi ((T t).2.1 : Nat)] [] S6 js = yretv q S6 js := fun c => rm_mustn g3
          obtain ⟨S7, c7, d7, h7⟩ := r240n (q := q) (d := d + 1) (js := js) (wh := (T t).1 - 51) (st := st) (x2 := gI S 49) (x3 := gJ S 1) hu (by omega) g3
          refine ⟨S7, 0, ⟨vi (((T t).1 - 51 : Nat) : Int), vi ((T t).2.1 : Nat), vi (gI S 49), vj (gJ S 1), vi n, ?_⟩, d7, h7, by omega⟩
          show YB q (yret q (vi (n : Int)) S6 js) (d + 4) 231 76 _ [] = _
          rw [YB_ret, w231_79, m1, m1, yif2, YB_retv, w231_102, c7, YB_retv, w231_112]
          rfl
        · intro L X x hk hl hb1 hb2 hwx S6 y t2 b2 hwy hlen g3 g4
          obtain ⟨hty, hlo⟩ := rls_ty hI hk hl
          subst hl
          have epre : ypre base (T t).1 (.inr x) = [] := by
            show (if (T t).1 = 34 then _ else if (T t).1 = 35 then _ else if (T t).1 = 56 ∧ x.1 = false then _ else []) = []
            rw [if_neg (by omega), if_neg (by omega), if_neg (by omega)]
          rw [epre] at g3
          have tyx : yr (ty : Int) = (ytyn x : Int) := by rw [hty]; exact ytyn_r x
          by_cases hxy : (x.1 || y.1) = true
          · have ec : ycomb O base (T t).1 (T t).2.1 (.inr x) (.inr y) = .inl (3, (T t).2.1) := by
              rw [ycomb_op (by omega) (by omega) (by omega), if_neg (show ¬ yKr (T t).1 = 2 by omega), if_pos hxy]
            rw [ec]
            have m0 : Y q (d + 3) 219 0 [vr 129, vi 0, vi 3, vi ((T t).2.1 : Nat)] [] S6 js = ythr q (ystp (Int32.ofInt (3 : Nat)) (Int32.ofInt ((T t).2.1 : Nat))) S6 js := rm_must0 g3
            refine ⟨S6, ?_, yFr_rf _ _⟩
            show YB q (yret q (vi (ytyn y : Nat)) S6 js) (d + 4) 231 76 _ [] = _
            rw [YB_ret, w231_79, tyx, ytyn_r]
            cases hx1 : x.1 with
            | true => rw [ytyn_1 hx1, if_neg (by decide), m0, t231]
            | false =>
              cases hy1 : y.1 with
              | true => rw [ytyn_0 hx1, ytyn_1 hy1, if_pos (by decide), if_neg (by decide), m0, t231]
              | false => rw [hx1, hy1] at hxy; nomatch hxy
          · have hx1 : x.1 = false := by cases hx1 : x.1; rfl; rw [hx1] at hxy; exact (hxy rfl).elim
            have hy1 : y.1 = false := by cases hy1 : y.1; rfl; rw [hx1, hy1] at hxy; exact (hxy rfl).elim
            obtain ⟨S7, z, c1, c2, c3, c4, c5, c6⟩ := r240s (q := q) (d := d + 1) (js := js) (O := O) (base := base) (kd := (T t).1) (pl := (T t).2.1) (x2 := gI S 49) (x3 := gJ S 1) hu (by omega) hx1 hy1 hwx hwy hlen g3 g4 hlo
            rw [c1]
            refine ⟨S7, ⟨vi (((T t).1 - 51 : Nat) : Int), vi ((T t).2.1 : Nat), vi (gI S 49), vj (gJ S 1), vi (ytyn y : Nat), ?_⟩, c4, c5, c6⟩
            show YB q (yret q (vi (ytyn y : Nat)) S6 js) (d + 4) 231 76 _ [] = _
            rw [YB_ret, w231_79, tyx, ytyn_r, ytyn_0 hx1, ytyn_0 hy1, if_pos (by decide), if_pos (by decide), rm_must1, YB_retv, w231_102, hst L X hk, c3, YB_retv, w231_112, ytyn_0 c2]
            rfl
        · rintro o t b ty l k' S ⟨y1, y2, y3, y4, y5, rfl⟩ hf' hz' h' hI'
          exact ih t b ty l k' y1 y2 y3 y4 y5 S (hf'.resolve_right (by decide)) hz' h' hI'
    · have hkr : ¬ yKr (T t).1 = 4 := fun z => hk4 (k4.mp z)
      have e : ylop T O 4 P (f + 1) base tb t b l = .inr (t, b, l) := if_neg hkr
      rw [if_pos hk4, e]
      exact rls_out hI h
/-- the head of 230 -/
theorem v230 {t b ty : Nat} {st : Int} {x2 x3 x4 x5 x6 : yV} (hT : yTo T N) (h : rM T N u sc S t b dp k') : Y q (d + 2) 230 13 [vr 129, vi st, vi ty, x2, x3, x4, x5, vu, x6] [] S js = if yKr (T t).1 = 3 then YB q (Y q (d + 1) 217 0 [vr 129] [] S js) (d + 2) 230 74 [vr 129, vi st, vi ty, vi (ykR (T t).1), vi ((T t).2.1 : Nat), vi (gI S 49), vj (gJ S 1), vu, x6] [] else yret q (vi ty) S js := by
  have h2 := h.2.1
  have h67 := (hT.2.2.2.2 t h2).2
  obtain ⟨g1, g2, g3, g4, g5, g6, g7, g8⟩ := rM_t h
  have hN := hT.2.1
  have e44 : yr (gI S 44) = t := by rw [g1]; exact yr_eq (by omega) (by omega)
  have k3 := (ykop2 _ h67).2.1
  have i1 : Y q (d + 1) 221 0 [vr 129, vi 105] [] S js = yret q (vi (yb ((T t).1 = 51))) S js := rm_is hT h (kd := 51) (by omega)
  have i2 : Y q (d + 1) 221 0 [vr 129, vi 106] [] S js = yret q (vi (yb ((T t).1 = 52))) S js := rm_is hT h (kd := 52) (by omega)
  have i3 : Y q (d + 1) 221 0 [vr 129, vi 110] [] S js = yret q (vi (yb ((T t).1 = 56))) S js := rm_is hT h (kd := 56) (by omega)
  have ok : 0 ≤ (t : Int) ∧ (t : Int) < 2001 := by omega
  rw [w230_13, i1, YB_ret, w230_19, e44, i2, YB_ret, w230_28, e44, i3, YB_ret, w230_37, e44]
  simp only [yr_yb, yb_eq0, if_pos ok, Int.toNat_natCast, g7, g8]
  by_cases z1 : (T t).1 = 51
  · rw [if_neg (fun n => n z1), if_pos (k3.mpr (Or.inl z1))]
  · rw [if_pos z1]
    by_cases z2 : (T t).1 = 52
    · rw [if_neg (fun n => n z2), if_pos (k3.mpr (Or.inr (Or.inl z2)))]
    · rw [if_pos z2]
      by_cases z3 : (T t).1 = 56
      · rw [if_neg (fun n => n z3), if_pos (k3.mpr (Or.inr (Or.inr z3)))]
      · rw [if_pos z3, if_neg (fun v => by have := k3.mp v; omega)]
theorem l230 {base tb : Nat} {st : Int} (hu : u = 0 ∨ u = 1) (hT : yTo T N) (hR : yRoom T N Rm Rx s) (hP : yPok N Rm Rx s tx P) (hL : yPlt P) (hs : rSub q js S0 T N u sc Rm Rx dp (fun S => Y q (d + 3) 231 0 [vr 129, vu, vu, vu, vu, vu, vu, vu, vu] [] S js) P) (hst : rst st k) (f : Nat) : ∀ (t b ty : Nat) (l : yMn) (k' : yRk) (x2 x3 x4 x5 x6 : yV) (S : yS), b + 1 ≤ f → yFr (yWv u) S0 S → rM T N u sc S t b dp k' → rls s Rm Rx base tb k k' l t b ty S → rOut q js T N u sc S dp k (Y q (d + 4) 230 13 [vr 129, vi st, vi ty, x2, x3, x4, x5, vu, x6] [] S js) (ylop T O 3 P f base tb t b l) := by
  induction f with
  | zero => intro t b ty l k' x2 x3 x4 x5 x6 S hf; omega
  | succ f ih =>
    intro t b ty l k' x2 x3 x4 x5 x6 S hf hz h hI
    have h2 := h.2.1
    have h67 := (hT.2.2.2.2 t h2).2
    have k3 := (ykop2 _ h67).2.1
    rw [v230 hT h]
    by_cases hkr : yKr (T t).1 = 3
    · have hk3 := k3.mp hkr
      have ht := yTo_t hT h2 (by omega)
      rw [if_pos hkr]
      by_cases hb : b = 0
      · subst hb
        rw [ylop_s hkr]
        refine rOut_n fun hk => ⟨S, ?_, yFr_rf _ _⟩
        rw [rm_take0 hT h, t230]
      · obtain ⟨S1, a1, f1, h1, p1, p2⟩ := rm_take (q := q) (d := d + 2) (js := js) hT h (by omega) hb hu
        have rng := ykR_rng h67
        have ek : yr (ykR (T t).1) = ykR (T t).1 := yr_eq (by omega) (by omega)
        have e110 : yr 110 = 110 := rfl
        have hlast : ∀ (o : Option xRes) (t b ty : Nat) (l : yMn) (k' : yRk) (S : yS), (∃ y2 y3 y4 y5 y6 : yV, o = Y q (d + 4) 230 13 [vr 129, vi st, vi ty, y2, y3, y4, y5, vu, y6] [] S js) → b + 1 ≤ f ∨ (3 : Int) = 2 → yFr (yWv u) S0 S → rM T N u sc S t b dp k' → rls s Rm Rx base tb k k' l t b ty S → rOut q js T N u sc S dp k o (ylop T O 3 P f base tb t b l) := by
          rintro o t b ty l k' S ⟨y1, y2, y3, y4, y5, rfl⟩ hf' hz' h' hI'
          exact ih t b ty l k' y1 y2 y3 y4 y5 S (hf'.resolve_right (by decide)) hz' h' hI'
        rw [a1, YB_retv, w230_77, ek, e110]
        by_cases h56 : (T t).1 = 56
        · -- & : texts
          have e56 : ykR (T t).1 = 110 := by rw [h56]; rfl
          rw [if_pos e56]
          have cap := rls_cap hI
          -- the left one as text
          have left : ∃ (S2 : yS) (k5 : yRk), (if yr (ty : Int) = 0 then YB q (Y q (d + 3) 234 0 [vr 129, vi 23, vj 0, vu] [] S1 js) (d + 4) 230 91 [vr 129, vi st, vi ty, vi (ykR (T t).1), vi ((T t).2.1 : Nat), vi (gI S 49), vj (gJ S 1), vu, x6] [] else YB q (Y q (d + 3) 231 0 [vr 129, vu, vu, vu, vu, vu, vu, vu, vu] [] S1 js) (d + 4) 230 96 [vr 129, vi st, vi ty, vi (ykR (T t).1), vi ((T t).2.1 : Nat), vi (gI S 49), vj (gJ S 1), vu, x6] []) = YB q (Y q (d + 3) 231 0 [vr 129, vu, vu, vu, vu, vu, vu, vu, vu] [] S2 js) (d + 4) 230 96 [vr 129, vi st, vi ty, vi (ykR (T t).1), vi ((T t).2.1 : Nat), vi (gI S 49), vj (gJ S 1), vu, x6] [] ∧ yFr (yWv u) S S2 ∧ rM T N u sc S2 (t + 1) (b - 1) dp k5 ∧ ((k = none ∧ k5 = none) ∨ ∃ L X x, k = some (L, X) ∧ l = .inr x ∧ k5 = some (L ++ x.2.2.1 ++ ypre base (T t).1 l, X ++ x.2.2.2.1)) := by
            have tyr : yr (ty : Int) = ty := by have := hI.1; exact yr_eq (by omega) (by omega)
            rw [tyr]
            by_cases zt : ty = 0
            · obtain ⟨S2, r2, a2, f2, h2', _, _, i2⟩ := rm_emit (q := q) (d := d + 3) (js := js) hu h1 (fun L X e => by have := cap L X e; omega) 23 0
              have a2 : Y q (d + 3) 234 0 [vr 129, vi 23, vj 0, vu] [] S1 js = yret q (vi r2) S2 js := a2
              refine ⟨S2, _, ?_, yFr_tr f1 f2, h2', ?_⟩
              · rw [if_pos (by omega), a2, YB_ret, w230_94]
              · rcases rls_k hI with ⟨v1, v2⟩ | ⟨L, X, x, v1, v2, v3, v4, v5, v6, _⟩
                · exact Or.inl ⟨v1, by rw [v2]; rfl⟩
                · refine Or.inr ⟨L, X, x, v1, v2, ?_⟩
                  have hx1 : x.1 = false := ytyn_z.mp (by omega)
                  rw [v2, v3]
                  show some (_ ++ [((23 : Nat), (0 : Int64))], _) = some (_ ++ (if (T t).1 = 34 then _ else if (T t).1 = 35 then _ else if (T t).1 = 56 ∧ x.1 = false then _ else []), _)
                  rw [if_neg (by omega), if_neg (by omega), if_pos ⟨h56, hx1⟩]
            · refine ⟨S1, _, ?_, f1, h1, ?_⟩
              · rw [if_neg (by omega)]
              · rcases rls_k hI with ⟨v1, v2⟩ | ⟨L, X, x, v1, v2, v3, v4, v5, v6, _⟩
                · exact Or.inl ⟨v1, v2⟩
                · refine Or.inr ⟨L, X, x, v1, v2, ?_⟩
                  have hx1 : ¬ x.1 = false := fun z => zt (by rw [v6]; exact ytyn_0 z)
                  rw [v2, v3]
                  show _ = some (_ ++ (if (T t).1 = 34 then _ else if (T t).1 = 35 then _ else if (T t).1 = 56 ∧ x.1 = false then _ else []), _)
                  rw [if_neg (by omega), if_neg (by omega), if_neg (fun v => hx1 v.2), List.append_nil]
          obtain ⟨S2, k5, l1, l2, l3, l4⟩ := left
          rw [l1]
          refine rStep (hd := fun o ty S => ∃ y2 y3 y4 y5 y6 : yV, o = Y q (d + 4) 230 13 [vr 129, vi st, vi ty, y2, y3, y4, y5, vu, y6] [] S js) (C := fun o => YB q o (d + 4) 230 96 [vr 129, vi st, vi ty, vi (ykR (T t).1), vi ((T t).2.1 : Nat), vi (gI S 49), vj (gJ S 1), vu, x6] []) (kd := (T t).1) hT hR hP hL hs ht rfl (by omega) hkr hb hz hI (fun a p S' => t230 ..) l2 l3 l4 ?_ ?_ hlast (Or.inl hf)
          · intro _ S6 n t2 b2 g3 g4
            obtain ⟨S7, r7, c7, d7, h7, _, _, _⟩ := rm_emit (q := q) (d := d + 3) (js := js) hu g3 (fun L X e => nomatch e) 23 0
            have c7 : Y q (d + 3) 234 0 [vr 129, vi 23, vj 0, vu] [] S6 js = yret q (vi r7) S7 js := c7
            by_cases zn : n = 0
            · obtain ⟨S8, r8, c8, d8, h8, _, _, _⟩ := rm_emit (q := q) (d := d + 3) (js := js) hu h7 (fun L X e => nomatch e) 11 0
              have c8 : Y q (d + 3) 234 0 [vr 129, vi 11, vj 0, vu] [] S7 js = yret q (vi r8) S8 js := c8
              obtain ⟨d9, h9, _⟩ := rm_no h8 hu
              refine ⟨_, 1, ⟨vi (ykR (T t).1), vi ((T t).2.1 : Nat), vi (gI S 49), vj (gJ S 1), x6, ?_⟩, yFr_tr d7 (yFr_tr d8 d9), h9, by omega⟩
              show YB q (yret q (vi (n : Int)) S6 js) (d + 4) 230 96 _ [] = _
              rw [YB_ret, w230_99, yr_eq (x := (n : Int)) (by omega) (by omega), if_pos (by omega), c7, YB_ret, w230_109, c8, YB_ret, w230_117]
              rfl
            · obtain ⟨S8, r8, c8, d8, h8, _, _, _⟩ := rm_emit (q := q) (d := d + 3) (js := js) hu g3 (fun L X e => nomatch e) 11 0
              have c8 : Y q (d + 3) 234 0 [vr 129, vi 11, vj 0, vu] [] S6 js = yret q (vi r8) S8 js := c8
              obtain ⟨d9, h9, _⟩ := rm_no h8 hu
              refine ⟨_, 1, ⟨vi (ykR (T t).1), vi ((T t).2.1 : Nat), vi (gI S 49), vj (gJ S 1), x6, ?_⟩, yFr_tr d8 d9, h9, by omega⟩
              show YB q (yret q (vi (n : Int)) S6 js) (d + 4) 230 96 _ [] = _
              rw [YB_ret, w230_99, yr_eq (x := (n : Int)) (by omega) (by omega), if_neg (by omega), c8, YB_ret, w230_117]
              rfl
          · intro L X x hk hl hb1 hb2 hwx S6 y t2 b2 hwy hlen g3 g4
            subst hl
            have ec : ycomb O base (T t).1 (T t).2.1 (.inr x) (.inr y) = .inr (true, none, (ystr O x).1 ++ (ystr O y).1 ++ [(11, 0)], x.2.2.2.1 ++ y.2.2.2.1, yd2 O 11 (ystr O x).2 (ystr O y).2) := by rw [h56]; rfl
            rw [ec]
            have epre : x.2.2.1 ++ ypre base (T t).1 (.inr x) = (ystr O x).1 := by
              show x.2.2.1 ++ (if (T t).1 = 34 then _ else if (T t).1 = 35 then _ else if (T t).1 = 56 ∧ x.1 = false then _ else []) = (if x.1 = true then (x.2.2.1, x.2.2.2.2) else (x.2.2.1 ++ [(23, 0)], yd1 O 23 x.2.2.2.2)).1
              rw [if_neg (by omega), if_neg (by omega)]
              cases hx1 : x.1 with
              | true => rw [if_neg (fun v => nomatch v.2), if_pos rfl, List.append_nil]
              | false => rw [if_pos ⟨h56, rfl⟩, if_neg (by decide)]
            rw [List.append_assoc L, epre] at g3
            have xl : (ystr O x).1.length ≤ x.2.2.1.length + 1 := by
              unfold ystr
              split
              · exact Nat.le_succ _
              · rw [List.length_append]; exact Nat.le_refl _
            have len0 : ((L ++ (ystr O x).1) ++ y.2.2.1).length ≤ 4001 := by rw [List.length_append, List.length_append]; omega
            -- the right one as text
            have right : ∃ S7 : yS, YB q (yret q (vi (ytyn y : Nat)) S6 js) (d + 4) 230 96 [vr 129, vi st, vi ty, vi (ykR (T t).1), vi ((T t).2.1 : Nat), vi (gI S 49), vj (gJ S 1), vu, x6] [] = YB q (Y q (d + 3) 234 0 [vr 129, vi 11, vj 0, vu] [] S7 js) (d + 4) 230 114 [vr 129, vi st, vi ty, vi (ykR (T t).1), vi ((T t).2.1 : Nat), vi (gI S 49), vj (gJ S 1), vu, x6] [] ∧ yFr (yWv u) S6 S7 ∧ rM T N u sc S7 t2 b2 dp (some (L ++ ((ystr O x).1 ++ (ystr O y).1), X ++ (x.2.2.2.1 ++ y.2.2.2.1))) := by
              cases hy1 : y.1 with
              | true =>
                refine ⟨S6, ?_, yFr_rf _ _, ?_⟩
                · rw [YB_ret, w230_99, ytyn_r, ytyn_1 hy1, if_neg (by decide)]
                · have : (ystr O y).1 = y.2.2.1 := by unfold ystr; rw [if_pos hy1]
                  rw [this]
                  rw [List.append_assoc, List.append_assoc] at g3
                  exact g3
              | false =>
                obtain ⟨S7, r7, c7, d7, h7, _, _, _⟩ := rm_emit (q := q) (d := d + 3) (js := js) hu g3 (fun L' X' e => by
                  injection e with e
                  injection e with q1 q2
                  rw [← q1]
                  omega) 23 0
                have c7 : Y q (d + 3) 234 0 [vr 129, vi 23, vj 0, vu] [] S6 js = yret q (vi r7) S7 js := c7
                refine ⟨S7, ?_, d7, ?_⟩
                · rw [YB_ret, w230_99, ytyn_r, ytyn_0 hy1, if_pos (by decide), c7, YB_ret, w230_109]
                · have : (ystr O y).1 = y.2.2.1 ++ [(23, 0)] := by unfold ystr; rw [if_neg (by rw [hy1]; decide)]
                  rw [this]
                  have h7 : rM T N u sc S7 t2 b2 dp (some (((L ++ (ystr O x).1) ++ y.2.2.1) ++ [(23, 0)], (X ++ x.2.2.2.1) ++ y.2.2.2.1)) := h7
                  rw [List.append_assoc, List.append_assoc, List.append_assoc] at h7
                  exact h7
            obtain ⟨S7, r1, r2, r3⟩ := right
            have yl : (ystr O y).1.length ≤ y.2.2.1.length + 1 := by
              unfold ystr
              split
              · exact Nat.le_succ _
              · rw [List.length_append]; exact Nat.le_refl _
            obtain ⟨S8, r8, c8, d8, h8, _, _, _⟩ := rm_emit (q := q) (d := d + 3) (js := js) hu r3 (fun L' X' e => by
              injection e with e
              injection e with q1 q2
              rw [← q1, List.length_append, List.length_append]
              omega) 11 0
            have c8 : Y q (d + 3) 234 0 [vr 129, vi 11, vj 0, vu] [] S7 js = yret q (vi r8) S8 js := c8
            have h8 : rM T N u sc S8 t2 b2 dp (some ((L ++ ((ystr O x).1 ++ (ystr O y).1)) ++ [(11, 0)], X ++ (x.2.2.2.1 ++ y.2.2.2.1))) := h8
            rw [List.append_assoc L] at h8
            obtain ⟨d9, h9, p9⟩ := rm_no h8 hu
            refine ⟨_, ⟨vi (ykR (T t).1), vi ((T t).2.1 : Nat), vi (gI S 49), vj (gJ S 1), x6, ?_⟩, yFr_tr r2 (yFr_tr d8 d9), h9, p9⟩
            show YB q (yret q (vi (ytyn y : Nat)) S6 js) (d + 4) 230 96 _ [] = _
            rw [r1, c8, YB_ret, w230_117]
            rfl
        · -- + and -
          have hk2 : (T t).1 = 51 ∨ (T t).1 = 52 := by omega
          have ek : ykR (T t).1 - 105 = (((T t).1 - 51 : Nat) : Int) := by
            unfold ykR
            rw [if_neg (by omega), if_pos (by omega)]
            omega
          rw [if_neg (by omega)]
          refine rStep (hd := fun o ty S => ∃ y2 y3 y4 y5 y6 : yV, o = Y q (d + 4) 230 13 [vr 129, vi st, vi ty, y2, y3, y4, y5, vu, y6] [] S js) (C := fun o => YB q o (d + 4) 230 129 [vr 129, vi st, vi ty, vi (ykR (T t).1), vi ((T t).2.1 : Nat), vi (gI S 49), vj (gJ S 1), vu, x6] []) (kd := (T t).1) hT hR hP hL hs ht rfl (by omega) hkr hb hz hI (fun a p S' => t230 ..) f1 h1 ?_ ?_ ?_ hlast (Or.inl hf)
          · rcases rls_k hI with ⟨v1, v2⟩ | ⟨L, X, x, v1, v2, v3, _⟩
            · exact Or.inl ⟨v1, v2⟩
            · refine Or.inr ⟨L, X, x, v1, v2, ?_⟩
              rw [v2, v3]
              show _ = some (_ ++ (if (T t).1 = 34 then _ else if (T t).1 = 35 then _ else if (T t).1 = 56 ∧ x.1 = false then _ else []), _)
              rw [if_neg (by omega), if_neg (by omega), if_neg (by omega), List.append_nil]
          · intro _ S6 n t2 b2 g3 g4
            have m1 : ∀ c : Int, Y q (d + 3) 219 0 [vr 129, vi c, vi 3, vi ((T t).2.1 : Nat)] [] S6 js = yretv q S6 js := fun c => rm_mustn g3
            obtain ⟨S7, c7, d7, h7⟩ := r240n (q := q) (d := d + 1) (js := js) (wh := (T t).1 - 51) (st := st) (x2 := gI S 49) (x3 := gJ S 1) hu (by omega) g3
            refine ⟨S7, 0, ⟨vi (ykR (T t).1), vi ((T t).2.1 : Nat), vi (gI S 49), vj (gJ S 1), vi n, ?_⟩, d7, h7, by omega⟩
            show YB q (yret q (vi (n : Int)) S6 js) (d + 4) 230 129 _ [] = _
            rw [YB_ret, w230_132, m1, m1, yif2, YB_retv, w230_155, ek, c7, YB_retv, w230_168]
            rfl
          · intro L X x hk hl hb1 hb2 hwx S6 y t2 b2 hwy hlen g3 g4
            obtain ⟨hty, hlo⟩ := rls_ty hI hk hl
            subst hl
            have epre : ypre base (T t).1 (.inr x) = [] := by
              show (if (T t).1 = 34 then _ else if (T t).1 = 35 then _ else if (T t).1 = 56 ∧ x.1 = false then _ else []) = []
              rw [if_neg (by omega), if_neg (by omega), if_neg (by omega)]
            rw [epre] at g3
            have tyx : yr (ty : Int) = (ytyn x : Int) := by rw [hty]; exact ytyn_r x
            by_cases hxy : (x.1 || y.1) = true
            · have ec : ycomb O base (T t).1 (T t).2.1 (.inr x) (.inr y) = .inl (3, (T t).2.1) := by
                rw [ycomb_op (by omega) (by omega) (by omega), if_neg (show ¬ yKr (T t).1 = 2 by omega), if_pos hxy]
              rw [ec]
              have m0 : Y q (d + 3) 219 0 [vr 129, vi 0, vi 3, vi ((T t).2.1 : Nat)] [] S6 js = ythr q (ystp (Int32.ofInt (3 : Nat)) (Int32.ofInt ((T t).2.1 : Nat))) S6 js := rm_must0 g3
              refine ⟨S6, ?_, yFr_rf _ _⟩
              show YB q (yret q (vi (ytyn y : Nat)) S6 js) (d + 4) 230 129 _ [] = _
              rw [YB_ret, w230_132, tyx, ytyn_r]
              cases hx1 : x.1 with
              | true => rw [ytyn_1 hx1, if_neg (by decide), m0, t230]
              | false =>
                cases hy1 : y.1 with
                | true => rw [ytyn_0 hx1, ytyn_1 hy1, if_pos (by decide), if_neg (by decide), m0, t230]
                | false => rw [hx1, hy1] at hxy; nomatch hxy
            · have hx1 : x.1 = false := by cases hx1 : x.1; rfl; rw [hx1] at hxy; exact (hxy rfl).elim
              have hy1 : y.1 = false := by cases hy1 : y.1; rfl; rw [hx1, hy1] at hxy; exact (hxy rfl).elim
              obtain ⟨S7, z, c1, c2, c3, c4, c5, c6⟩ := r240s (q := q) (d := d + 1) (js := js) (O := O) (base := base) (kd := (T t).1) (pl := (T t).2.1) (x2 := gI S 49) (x3 := gJ S 1) hu (by omega) hx1 hy1 hwx hwy hlen g3 g4 hlo
              rw [c1]
              refine ⟨S7, ⟨vi (ykR (T t).1), vi ((T t).2.1 : Nat), vi (gI S 49), vj (gJ S 1), vi (ytyn y : Nat), ?_⟩, c4, c5, c6⟩
              show YB q (yret q (vi (ytyn y : Nat)) S6 js) (d + 4) 230 129 _ [] = _
              rw [YB_ret, w230_132, tyx, ytyn_r, ytyn_0 hx1, ytyn_0 hy1, if_pos (by decide), if_pos (by decide), rm_must1, YB_retv, w230_155, ek, hst L X hk, c3, YB_retv, w230_168, ytyn_0 c2]
              rfl
    · have e : ylop T O 3 P (f + 1) base tb t b l = .inr (t, b, l) := if_neg hkr
      rw [if_neg hkr, e]
      exact rls_out hI h
end YRBL
end YRB
