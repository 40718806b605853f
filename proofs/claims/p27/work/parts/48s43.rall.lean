/-! taken from whole by wip/p27/slice2.py: 91.rall.lean.txt -/
section YWH
section YWHL
variable {q : yQ} {js : List xO} {S0 S S5 S1 : yS} {T : yTk} {N u : Nat} {sc w : Int} {Rm : Nat → Nat → Nat} {Rx : Nat → Nat} {s dp t b : Nat} {tx : Nat → Nat → List Int} {O : yOp} {P : Nat → Nat → Nat → Nat → yPr}
theorem yfac_lt {nm : Int64 → Option (Nat × Nat × Bool)} {decl : Bool} : ∀ rd, rd ≤ 12 → yPlt (yfac T tx nm decl O rd) := by
  intro rd
  induction rd with
  | zero =>
    intro _
    have e : yfac T tx nm decl O 0 = yfcd T tx nm decl O 12 (ypv T tx nm decl O 0) := by
      funext base tb t b
      exact yfac_e rfl
    rw [e]
    exact yfcd_lt (fun z => absurd z (by omega))
  | succ r ih =>
    intro hr
    have e : yfac T tx nm decl O (r + 1) = yfcd T tx nm decl O (11 - r) (ypv T tx nm decl O (r + 1)) := by
      funext base tb t b
      exact yfac_e (by omega)
    rw [e]
    exact yfcd_lt (fun _ => ih (by omega))
/-- the class, outside of expressions -/
def cNd (T : yTk) (N u : Nat) (S : yS) (m : yMo) : Prop := cT S T N ∧ cO S u ∧ match m with
  | .inl p => cD S p
  | .inr (t, b, .inl e) => cA S T N t b ∧ cE S (some e)
  | .inr (t, b, .inr (L, X)) => cA S T N t b ∧ cE S none ∧ cK S u L ∧ cX S u X
def yWy (u s k : Nat) : Bool := yWx u s k || (s == 2 && k == 1) || (s == 0 && k == 26)
/-- behind an expression: all the room again, and DONE -/
def ymdn (u : Nat) (m : yMo) : yMo := match m with
  | .inl p => .inl p
  | .inr (t, _, k) => yadm u (.inr (t, 1000000, k)) 30 0
def yrmx (m : yMo) : yMo := match m with
  | .inl p => .inl p
  | .inr (t, _, k) => .inr (t, 1000000, k)
theorem yWx_y {u : Nat} {S S' : yS} (h : yFr (yWx u) S S') : yFr (yWy u) S S' := yFr_mo h fun s k e => by
  unfold yWy at e
  simp only [Bool.or_eq_false_iff] at e
  exact e.1.1
theorem m51 {m : yMo} (hu : u = 0 ∨ u = 1) (hz0 : u = 0) (hT : yTo T N) (hR : yRoom T N Rm Rx s) (hRx : ∀ t, t < N → Rx t ≤ 2000) (h12 : 0 ≤ gI S 12 ∧ gI S 12 ≤ 2000) (hw : w = 0 ∨ w = 1 ∨ w = 2) (h10 : 0 ≤ gI S 10 ∧ gI S 10 ≤ 8) (h8 : 0 ≤ gI S 8 ∧ gI S 8 ≤ 8) (h9 : 0 ≤ gI S 9 ∧ gI S 9 ≤ 8) (hl : ∀ t, t < N → (T t).1 = 64 → 0 ≤ (T t).2.2.toInt ∧ (T t).2.2.toInt ≤ 2000) (hdp : dp ≤ 12) (h : cNd T N u S m) {d : Nat} (hd : 170 ≤ d) (hbs : ∀ t b k, m = .inr (t, b, k) → ∃ base tb, ybs u Rm Rx base tb t 100 k) : ∃ (S' : yS) (r : Nat) (m' : yMo), Y q (d + 1) 51 0 [vr 122, vr (cu u), vi w, vi dp, vu] [] S js = yret q (vi (r : Int)) S' js ∧ yFr (yWy u) S S' ∧ cNd T N u S' m' ∧ r ≤ 1 ∧ (∀ p, m = .inl p → m' = .inl p) ∧ ∀ t b k, m = .inr (t, b, k) → ∀ base tb, ybs u Rm Rx base tb t 100 k → m' = ymdn u (ymode k (ytxb S) (yexp T (ytxb S) (ynmS S w) (decide (w = 1)) O (12 - dp) base tb t 100)) ∧ ∀ L X, k = .inr (L, X) → ∀ t' b' x, yexp T (ytxb S) (ynmS S w) (decide (w = 1)) O (12 - dp) base tb t 100 = .inr (t', b', .inr x) → r = ytyn x := by
  obtain ⟨S1, hS1⟩ : ∃ S1, S1 = sI (sI (sK S 1 (cu u)) 26 w) 15 100 := ⟨_, rfl⟩
  have gi : ∀ j, j ≠ 26 → j ≠ 15 → gI S1 j = gI S j := fun j z1 z2 => by
    rw [hS1]
    exact (gI_ne _ _ _ z2).trans (gI_ne _ _ _ z1)
  have ga : gA S1 = gA S := by rw [hS1]; rfl
  have gb : gB S1 = gB S := by rw [hS1]; rfl
  have gc : gC S1 = gC S := by rw [hS1]; rfl
  have gj : gJ S1 = gJ S := by rw [hS1]; rfl
  have gk0 : gK S1 0 = gK S 0 := by rw [hS1]; rfl
  have gk1 : gK S1 1 = cu u := by rw [hS1]; rfl
  have g26 : gI S1 26 = w := by rw [hS1]; rfl
  have g15 : gI S1 15 = 100 := by rw [hS1]; rfl
  have f1 : yFr (yWy u) S S1 := by
    rw [hS1]
    exact yFr_tr (yFr_K (by unfold yWy; simp)) (yFr_tr (yFr_I (by unfold yWy; simp)) (yFr_I (by unfold yWy yWx yWk; simp)))
  have key : Y q (d + 1) 51 0 [vr 122, vr (cu u), vi w, vi dp, vu] [] S js = YB q (Y q d 52 0 [vr 122, vi 0, vi dp, vu, vu, vu] [] S1 js) (d + 1) 51 22 [vr 122, vr (cu u), vi w, vi dp, vu] [] := by
    rw [hS1]
    rcases hu with rfl | rfl
    · exact w51b_0 ..
    · exact absurd hz0 (by decide)
  -- the tail
  have tail : ∀ (S2 : yS) (r : Nat) (m2 : yMo), r ≤ 2 → yFr (yWx u) S1 S2 → cM T N u w S2 m2 → ∃ S' : yS, YB q (yret q (vi (r : Int)) S2 js) (d + 1) 51 22 [vr 122, vr (cu u), vi w, vi dp, vu] [] = yret q (vi ((if r = 1 then 1 else 0 : Nat) : Int)) S' js ∧ yFr (yWy u) S S' ∧ cNd T N u S' (ymdn u m2) := by
    intro S2 r m2 hr f2 h2
    have f3 : yFr (yWx u) S2 (sI S2 15 1000000) := yFr_I (by unfold yWx yWk; simp)
    -- the mode with all the room
    have h3 : cM T N u w (sI S2 15 1000000) (yrmx m2) := by
      obtain ⟨c1, c2, c3, c4, c5⟩ := h2
      have cO' : cO (sI S2 15 1000000) u := by
        obtain ⟨o1, o2, o3, o4, o5⟩ := c2
        have a1 : gI (sI S2 15 1000000) u = gI S2 u := gI_ne _ _ _ (by omega)
        have a2 : gI (sI S2 15 1000000) (2 + u) = gI S2 (2 + u) := gI_ne _ _ _ (by omega)
        exact ⟨by rw [a1]; exact o1, by rw [a1]; exact o2, by rw [a2]; exact o3, by rw [a2]; exact o4, fun k hk => o5 k (by rw [a2] at hk; exact hk)⟩
      have kA : ∀ t b, cA S2 T N t b → cA (sI S2 15 1000000) T N t 1000000 := fun t b hA => ⟨c1, hA.2.1, hA.2.2.1, rfl, by omega, hA.2.2.2.2.2.1, hA.2.2.2.2.2.2.1, hA.2.2.2.2.2.2.2⟩
      have kE : ∀ e, cE S2 e → cE (sI S2 15 1000000) e := fun e he => by
        match e, he with
        | none, he => exact he
        | some (n, p), he => exact he
      refine ⟨c1, cO', c3, c4, ?_⟩
      match m2, c5 with
      | .inl p, c5 => exact c5
      | .inr (t, b, .inl e), c5 => exact ⟨kA t b c5.1, kE _ c5.2⟩
      | .inr (t, b, .inr (L, X)), c5 =>
        have a1 : gI (sI S2 15 1000000) u = gI S2 u := gI_ne _ _ _ (by omega)
        have a2 : gI (sI S2 15 1000000) (2 + u) = gI S2 (2 + u) := gI_ne _ _ _ (by omega)
        exact ⟨kA t b c5.1, kE _ c5.2.1, ⟨a1.trans c5.2.2.1.1, c5.2.2.1.2⟩, ⟨a2.trans c5.2.2.2.1, c5.2.2.2.2⟩⟩
    obtain ⟨S4, r4, a1, a2, a3, a4, a5⟩ := madd (q := q) (d := d) (js := js) hu h3 30 0
    have a1 : Y q d 20 0 [vr (cu u), vi 30, vj 0, vu, vu] [] (sI S2 15 1000000) js = yret q (vi r4) S4 js := a1
    have er : yr (r : Int) = r := yr_eq (by omega) (by omega)
    have e1 : yr 1 = 1 := rfl
    have st : YB q (yret q (vi (r : Int)) S2 js) (d + 1) 51 22 [vr 122, vr (cu u), vi w, vi dp, vu] [] = YB q (Y q d 20 0 [vr (cu u), vi 30, vj 0, vu, vu] [] (sI S2 15 1000000) js) (d + 1) 51 43 [vr 122, vr (cu u), vi w, vi dp, vi r] [] := by
      have hk := h2.2.2.1
      rw [YB_ret]
      rcases hu with rfl | rfl
      · have hk : gK S2 1 = 107 := hk
        show Y q (d + 1) 51 25 [vr 122, vr 107, vi w, vi dp, vu] [vi r] S2 js = _
        rw [w51b_25, if_pos hk, w51b_40]
        rfl
      · exact absurd hz0 (by decide)
    have last : Y q (d + 1) 51 46 [vr 122, vr (cu u), vi w, vi dp, vi r] [vi r4] S4 js = yret q (vi ((if r = 1 then 1 else 0 : Nat) : Int)) S4 js := by
      rcases hu with rfl | rfl
      · show Y q (d + 1) 51 46 [vr 122, vr 107, vi w, vi dp, vi r] [vi r4] S4 js = _
        rw [w51b_46, er, e1]
        by_cases z : r = 1
        · rw [if_pos (by omega), if_pos (by omega), if_pos z]
          rfl
        · rw [if_neg (by omega), if_pos (by decide), if_neg z]
          rfl
      · exact absurd hz0 (by decide)
    have ed : yadm u (yrmx m2) 30 0 = ymdn u m2 := by
      match m2 with
      | .inl p => rfl
      | .inr (t, b, k) => rfl
    rw [ed] at a4
    refine ⟨S4, by rw [st, a1, YB_ret, last], yFr_tr f1 (yWx_y (yFr_tr f2 (yFr_tr f3 a2))), a4.1, a4.2.1, ?_⟩
    match ymdn u m2, a4.2.2.2.2 with
    | .inl p, z => exact z
    | .inr (t, b, .inl e), z => exact z
    | .inr (t, b, .inr (L, X)), z => exact z
  -- the state at the expression
  have cO1 : cO S1 u := by
    obtain ⟨o1, o2, o3, o4, o5⟩ := h.2.1
    exact ⟨by rw [gi u (by omega) (by omega)]; exact o1, by rw [gi u (by omega) (by omega)]; exact o2, by rw [gi (2 + u) (by omega) (by omega)]; exact o3, by rw [gi (2 + u) (by omega) (by omega)]; exact o4, fun k hk => by rw [ga]; exact o5 k (by rw [gi (2 + u) (by omega) (by omega)] at hk; exact hk)⟩
  have cT1 : cT S1 T N := ⟨fun j hj => by rw [ga, gb, gc]; exact h.1.1 j hj, by rw [gi 13 (by omega) (by omega)]; exact h.1.2.1, by rw [gi 13 (by omega) (by omega)]; exact h.1.2.2⟩
  have cv := cLv_a (q := q) (js := js) (S0 := S1) (w := w) (O := O) hu hT hR hRx (by rw [gi 12 (by omega) (by omega)]; exact h12) hw (by rw [gi 10 (by omega) (by omega)]; exact h10) (by rw [gi 8 (by omega) (by omega)]; exact h8) (by rw [gi 9 (by omega) (by omega)]; exact h9) hl hdp
  have etx : ytxb S1 = ytxb S := by
    funext p n
    unfold ytxb tbl tb
    rw [ga, gi 12 (by omega) (by omega)]
  have enm : ynmS S1 w = ynmS S w := by
    funext v
    unfold ynmS
    rw [ga, gb, gi 10 (by omega) (by omega), gi 8 (by omega) (by omega), gi 9 (by omega) (by omega)]
  rw [etx, enm] at cv
  have sub := cv.1 d hd
  match m, h, hbs with
  | .inl p, h, hbs =>
    have hD := h.2.2
    have hM : cM T N u w S1 (.inl p) := ⟨cT1, cO1, gk1, g26, by rw [gk0]; exact hD.1, by rw [gi 16 (by omega) (by omega)]; exact hD.2.1, by rw [gi 17 (by omega) (by omega), gi 18 (by omega) (by omega)]; exact hD.2.2.1, by rw [gi 17 (by omega) (by omega)]; exact hD.2.2.2.1, by rw [gi 17 (by omega) (by omega)]; exact hD.2.2.2.2⟩
    obtain ⟨S2, r, m2, a1, a2, a3, a4, a5, a6⟩ := sub S1 (.inl p) (yFr_rf _ _) hM (fun t b k e => nomatch e)
    have := a5 p rfl
    subst this
    obtain ⟨S', b1, b2, b3⟩ := tail S2 r (.inl p) a4 a2 a3
    have a1 : Y q d 52 0 [vr 122, vi 0, vi dp, vu, vu, vu] [] S1 js = yret q (vi r) S2 js := a1
    exact ⟨S', _, .inl p, by rw [key, a1]; exact b1, b2, b3, by split <;> omega, fun p' hp' => hp', fun t b k e => nomatch e⟩
  | .inr (t, b, k), h, hbs =>
    have hA : cA S T N t b ∧ cE S (yke k) := by
      match k, h with
      | .inl e, h => exact h.2.2
      | .inr (L, X), h => exact ⟨h.2.2.1, h.2.2.2.1⟩
    obtain ⟨hA, hE⟩ := hA
    have hA1 : cA S1 T N t 100 := ⟨cT1, hA.2.1, by rw [gi 14 (by omega) (by omega)]; exact hA.2.2.1, g15, by omega, by rw [gk0]; exact hA.2.2.2.2.2.1, by rw [gi 16 (by omega) (by omega)]; exact hA.2.2.2.2.2.2.1, by rw [gj]; exact hA.2.2.2.2.2.2.2⟩
    have hM : cM T N u w S1 (.inr (t, 100, k)) := by
      refine ⟨cT1, cO1, gk1, g26, ?_⟩
      match k, h, hE with
      | .inl (n, p), h, hE => exact ⟨hA1, by rw [gi 17 (by omega) (by omega)]; exact hE.1, by rw [gi 18 (by omega) (by omega)]; exact hE.2.1, hE.2.2⟩
      | .inr (L, X), h, hE =>
        refine ⟨hA1, ?_, ⟨by rw [gi u (by omega) (by omega)]; exact h.2.2.2.2.1.1, fun j x hj => by rw [ga, gb]; exact h.2.2.2.2.1.2 j x hj⟩, ⟨by rw [gi (2 + u) (by omega) (by omega)]; exact h.2.2.2.2.2.1, fun j hj => by rw [ga]; exact h.2.2.2.2.2.2.1 j hj, fun j l i y hj hi => by rw [ga]; exact h.2.2.2.2.2.2.2 j l i y hj hi⟩⟩
        show gI S1 17 = 0 ∧ gI S1 18 = -1
        rw [gi 17 (by omega) (by omega), gi 18 (by omega) (by omega)]
        exact hE
    obtain ⟨base0, tb0, hb0⟩ := hbs t b k rfl
    obtain ⟨S2, r, m2, a1, a2, a3, a4, a5, a6⟩ := sub S1 _ (yFr_rf _ _) hM (fun t' b' k' e => by
      injection e with e
      injection e with e1 e
      injection e with e2 e3
      subst e1
      subst e2
      subst e3
      exact ⟨base0, tb0, hb0⟩)
    have a1 : Y q d 52 0 [vr 122, vi 0, vi dp, vu, vu, vu] [] S1 js = yret q (vi r) S2 js := a1
    obtain ⟨S', b1, b2, b3⟩ := tail S2 r m2 a4 a2 a3
    refine ⟨S', _, ymdn u m2, by rw [key, a1]; exact b1, b2, b3, by split <;> omega, (fun p' hp' => nomatch hp'), fun t' b' k' e base tb hb => ?_⟩
    injection e with e
    injection e with e1 e
    injection e with e2 e3
    subst e1
    subst e2
    subst e3
    obtain ⟨g1, g2⟩ := a6 t 100 k rfl base tb hb
    refine ⟨by rw [g1], fun L X hk t' b' x hx => ?_⟩
    have hr := g2 L X hk t' b' x hx
    unfold ytyn
    by_cases z : x.1 = true
    · rw [if_pos z, if_pos (by rw [hr]; exact yty_1 z)]
    · rw [if_neg z, if_neg (by rw [hr]; exact yty_n1 z)]
end YWHL
end YWH
