/-! taken from whole by wip/p27/slice2.py: 67.paren.lean.txt -/
section YPN
section YPNL
variable {q : yQ} {d : Nat} {js : List xO} {S0 S : yS} {T : yTk} {N u : Nat} {w : Int} {Rm : Nat → Nat → Nat} {Rx : Nat → Nat} {s : Nat} {tx : Nat → Nat → List Int} {O : yOp} {P : Nat → Nat → Nat → Nat → yPr}
/-- room goes on behind a token -/
theorem ybs_n {base tb t b : Nat} {k : yK9} (hR : yRoom T N Rm Rx s) (ht : t + 1 < N) (h64 : (T t).1 ≤ 64) (hb : b ≠ 0) (h : ybs u Rm Rx base tb t b k) : ybs u Rm Rx base tb (t + 1) (b - 1) k := by
  intro L X hk
  obtain ⟨h1, h2, h3, h4⟩ := h L X hk
  obtain ⟨s1, s2, hR⟩ := hR
  obtain ⟨R1, R2, R3⟩ := hR t b ht h64
  obtain ⟨R3, R4⟩ := R3 (by omega)
  exact ⟨h1, h2, by omega, by omega⟩
/-- what closes -/
theorem yclm_m (k : yK9) (r : yPr) : yclm T (ymode k tx r) = ymode k tx (match r with
    | .inl p => .inl p
    | .inr (t1, b1, m) => yclo T t1 b1 m) := by
  match r with
  | .inl p => rfl
  | .inr (t1, b1, m) =>
    show (if (T t1).1 = 47 ∧ 0 < b1 then _ else _) = ymode k tx (if (T t1).1 = 47 then (if b1 = 0 then _ else _) else _)
    by_cases z : (T t1).1 = 47
    · by_cases z2 : b1 = 0
      · rw [if_neg (by omega), if_pos z, if_pos z2]
        rfl
      · rw [if_pos ⟨z, by omega⟩, if_pos z, if_neg z2]
        rfl
    · rw [if_neg (fun v => z v.1), if_neg z]
      rfl
theorem yclo_x {t1 b1 t' b' : Nat} {m : yMn} {x : yX} (h : yclo T t1 b1 m = .inr (t', b', .inr x)) : m = .inr x := by
  unfold yclo at h
  split at h
  · split at h
    · nomatch h
    · exact (yinr h).2.2
  · nomatch h
/-- an expression in parentheses, with so much depth -/
def ypar (T : yTk) (P : Nat → Nat → Nat → Nat → yPr) (dp base tb t b : Nat) : yPr := if 12 ≤ dp ∨ b = 0 then .inl (T t).2.1 else match P base tb (t + 1) (b - 1) with
  | .inl p => .inl p
  | .inr (t1, b1, m) => yclo T t1 b1 m
theorem m58 {base tb t b dp : Nat} {k : yK9} (hu : u = 0 ∨ u = 1) (hT : yTo T N) (hR : yRoom T N Rm Rx s) (hdp : dp ≤ 12) (h66 : ∀ base tb t b, (T t).1 = 66 → P base tb t b = .inl (T t).2.1) (h : cM T N u w S (.inr (t, b, k))) (hz : yFr (yWx u) S0 S) (h64 : (T t).1 ≤ 64) (hb : ybs u Rm Rx base tb t b k) (hs : dp < 12 → cSub q js S0 T N u w Rm Rx tx (fun S => Y q (d + 1) 52 0 [vr 122, vi 0, vi ((dp : Int) + 1), vu, vu, vu] [] S js) P) : ∃ (S' : yS) (r : Nat), Y q (d + 2) 58 0 [vr 122, vi dp, vu] [] S js = yret q (vi r) S' js ∧ yFr (yWx u) S S' ∧ r ≤ 2 ∧ cM T N u w S' (ymode k tx (ypar T P dp base tb t b)) ∧ ∀ L X, k = .inr (L, X) → ∀ t' b' x, ypar T P dp base tb t b = .inr (t', b', .inr x) → r = yty x := by
  obtain ⟨S1, r0, a1, a2, a3, a4⟩ := mopen (q := q) (d := d) (js := js) (dp := dp) hu hT h h64 (by omega)
  have ht := yTo_t hT (cM_kd h).2.2 h64
  unfold ypar
  by_cases z : 12 ≤ dp ∨ b = 0
  · obtain ⟨b1, b2⟩ := a3 z
    rw [if_pos z]
    refine ⟨S1, 0, ?_, yWk_x a2, by omega, b2, fun L X hk t' b' x hx => nomatch hx⟩
    rw [w58_0, a1, YB_ret, b1, w58_5]
    exact if_pos rfl
  · obtain ⟨b1, b2⟩ := a4 (by omega)
    rw [if_neg z]
    by_cases y : (T (t + 1)).1 = 66
    · rw [h66 _ _ _ _ y]
      refine ⟨S1, 0, ?_, yWk_x a2, by omega, cM_66 b1 y, fun L X hk t' b' x hx => nomatch hx⟩
      rw [w58_0, a1, YB_ret, b2, yb_f (fun n => n y), w58_5]
      exact if_pos rfl
    · have hb1 := ybs_n hR ht h64 (by omega) hb
      obtain ⟨S2, r2, m2, c1, c2, c3, c4⟩ := hs (by omega) S1 _ (yFr_tr hz (yWk_x a2)) b1 (fun t' b' k' e => by
        injection e with e
        injection e with e1 e
        injection e with e2 e3
        subst e1
        subst e2
        subst e3
        exact ⟨base, tb, hb1⟩)
      have c1 : Y q (d + 1) 52 0 [vr 122, vi 0, vi ((dp : Int) + 1), vu, vu, vu] [] S1 js = yret q (vi r2) S2 js := c1
      obtain ⟨g1, g2⟩ := c4.2.2 _ _ _ rfl base tb hb1
      obtain ⟨S3, d1, d2, d3⟩ := mclose (q := q) (d := d) (js := js) hu hT c3
      rw [g1, yclm_m] at d3
      refine ⟨S3, r2, ?_, yFr_tr (yWk_x a2) (yFr_tr c2 (yWk_x d2)), c4.1, d3, fun L X hk t' b' x hx => ?_⟩
      · rw [w58_0, a1, YB_ret, b2, yb_t y, w58_5]
        refine (if_neg (by decide)).trans ?_
        rw [c1, YB_ret, w58_18, d1, YB_retv, w58_23]
      · match hp : P base tb (t + 1) (b - 1) with
        | .inl p =>
          rw [hp] at hx
          nomatch hx
        | .inr (t1, b1', m) =>
          rw [hp] at hx
          have := yclo_x hx
          subst this
          exact g2 L X hk t1 b1' x hp
/-- a special number -/
def yspc (T : yTk) (decl : Bool) (t b : Nat) : yPr := if b = 0 then .inl (T t).2.1 else .inr (t + 1, b - 1, if decl = true ∧ (T t).1 ≠ 45 then .inl (2, (T t).2.1) else .inr (false, none, [(5, yi2l (yKn (T t).1))], [], fun e => some (e 5 (yop (T t).1))))
theorem m62 {base tb t b : Nat} {k : yK9} (hu : u = 0 ∨ u = 1) (hT : yTo T N) (hR : yRoom T N Rm Rx s) (hw : 0 ≤ w ∧ w ≤ 100) (h : cM T N u w S (.inr (t, b, k))) (h64 : (T t).1 ≤ 64) (hb : ybs u Rm Rx base tb t b k) : ∃ S' : yS, Y q (d + 1) 62 0 [vr 122, vr (T t).1] [] S js = yret q (vi 0) S' js ∧ yFr (yWx u) S S' ∧ cM T N u w S' (ymode k tx (yspc T (decide (w = 1)) t b)) ∧ ∀ L X, k = .inr (L, X) → ∀ t' b' x, yspc T (decide (w = 1)) t b = .inr (t', b', .inr x) → 0 = yty x := by
  obtain ⟨k1, k2, k3⟩ := cM_kd h
  have ht := yTo_t hT k3 h64
  have ew : yr (gI S 26) = w := by rw [h.2.2.2.1]; exact yr_eq (by omega) (by omega)
  have e1 : yr 1 = 1 := rfl
  have h67 : (T t).1 < 67 := by omega
  -- with or without the error
  have fin : ∀ (m1 : yMo) (S1 : yS), m1 = (if w = 1 ∧ (T t).1 ≠ 45 then ywr (.inr (t, b, k)) 2 (T t).2.1 else .inr (t, b, k)) → cM T N u w S1 m1 → yFr (yWx u) S S1 → ∃ S' : yS, YB q (Y q d 154 0 [vr 86] [] S1 js) (d + 1) 62 34 [vr 122, vr (T t).1] [] = yret q (vi 0) S' js ∧ yFr (yWx u) S S' ∧ cM T N u w S' (ymode k tx (yspc T (decide (w = 1)) t b)) := by
    intro m1 S1 hm h1 f1
    have hform : ∃ k1, m1 = .inr (t, b, k1) ∧ k1 = (if w = 1 ∧ (T t).1 ≠ 45 then ykw k 2 (T t).2.1 else k) := by
      by_cases z : w = 1 ∧ (T t).1 ≠ 45
      · rw [if_pos z] at hm
        exact ⟨_, hm, (if_pos z).symm⟩
      · rw [if_neg z] at hm
        exact ⟨_, hm, (if_neg z).symm⟩
    obtain ⟨k1', hm1, hk1⟩ := hform
    subst hm1
    obtain ⟨S2, a1, a2, a3⟩ := mnext (q := q) (d := d) (js := js) hu hT h1 (fun t' b' k' e => by
      injection e with e
      injection e with e _
      rw [← e]
      exact h64)
    obtain ⟨S3, r3, c1, c2, c3, c4, c5⟩ := madd (q := q) (d := d) (js := js) hu a3 5 (yi2l (yKn (T t).1))
    have c1 : Y q d 20 0 [vr (cu u), vi 5, vj (yi2l (yKn (T t).1)), vu, vu] [] S2 js = yret q (vi r3) S3 js := c1
    refine ⟨S3, ?_, yFr_tr f1 (yFr_tr (yWk_x a2) c2), ?_⟩
    · rw [a1, YB_retv, v62_37 hu a3.2.2.1, if_pos h67, c1, YB_ret, w62_50]
    · have e : yadm u (ynx T (.inr (t, b, k1'))) 5 (yi2l (yKn (T t).1)) = ymode k tx (yspc T (decide (w = 1)) t b) := by
        unfold yspc
        by_cases hb0 : b = 0
        · subst hb0
          rfl
        · rw [if_neg hb0, ysn T _ hb0, hk1]
          by_cases z : w = 1 ∧ (T t).1 ≠ 45
          · rw [if_pos z]
            show _ = (Sum.inr (t + 1, b - 1, ykm k tx (if decide (w = 1) = true ∧ (T t).1 ≠ 45 then _ else _)) : yMo)
            rw [if_pos ⟨decide_eq_true z.1, z.2⟩]
            match k with
            | .inl e => rfl
            | .inr (L, X) => rfl
          · rw [if_neg z]
            show _ = (Sum.inr (t + 1, b - 1, ykm k tx (if decide (w = 1) = true ∧ (T t).1 ≠ 45 then _ else _)) : yMo)
            rw [if_neg (fun v => z ⟨of_decide_eq_true v.1, v.2⟩)]
            match k, hb with
            | .inl e, _ => rfl
            | .inr (L, X), hb =>
              obtain ⟨h1, h2, h3, h4⟩ := hb L X rfl
              obtain ⟨s1, s2, hR⟩ := hR
              obtain ⟨R1, R2, R3⟩ := hR t b ht h64
              obtain ⟨R3, R4⟩ := R3 (by omega)
              rw [yadm_in (by omega)]
              show _ = (Sum.inr (t + 1, b - 1, Sum.inr (L ++ _, X ++ [])) : yMo)
              rw [List.append_nil]
      rw [← e]
      exact c4
  have ty : ∀ L X, k = .inr (L, X) → ∀ t' b' x, yspc T (decide (w = 1)) t b = .inr (t', b', .inr x) → 0 = yty x := by
    intro L X hk t' b' x hx
    unfold yspc at hx
    split at hx
    · nomatch hx
    · have hx := (yinr hx).2.2
      split at hx
      · nomatch hx
      · injection hx with hx
        subst hx
        rfl
  rw [w62_0, ew, e1]
  by_cases z : w = 1
  · rw [if_pos z, if_pos ⟨h67, by omega⟩]
    by_cases z2 : (T t).1 = 45
    · rw [if_pos z2]
      obtain ⟨S', g1, g2, g3⟩ := fin _ S (if_neg (fun v => v.2 z2)).symm h (yFr_rf _ _)
      exact ⟨S', g1, g2, g3, ty⟩
    · obtain ⟨S1, a1, a2, a3⟩ := mwrong (q := q) (d := d) (js := js) (n := 2) (p := (T t).2.1) hu h (by omega)
      have a1 : Y q d 153 0 [vr 86, vi 2, vi ((T t).2.1 : Nat)] [] S js = yretv q S1 js := a1
      obtain ⟨S', g1, g2, g3⟩ := fin _ S1 (if_pos ⟨z, z2⟩).symm a3 (yWk_x a2)
      rw [if_neg z2, k2, a1, YB_retv, w62_30]
      exact ⟨S', g1, g2, g3, ty⟩
  · rw [if_neg z]
    obtain ⟨S', g1, g2, g3⟩ := fin _ S (if_neg (fun v => z v.1)).symm h (yFr_rf _ _)
    exact ⟨S', g1, g2, g3, ty⟩
end YPNL
end YPN
