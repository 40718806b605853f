/-! taken from whole by wip/p27/slice2.py: 80.fac3.lean.txt -/
section YFC
section YFCL
variable {q : yQ} {js : List xO} {S0 : yS} {T : yTk} {N u : Nat} {w : Int} {Rm : Nat → Nat → Nat} {Rx : Nat → Nat} {s : Nat} {nm : Int64 → Option (Nat × Nat × Bool)} {O : yOp} {P : Nat → Nat → Nat → Nat → yPr}
def ysv (kd : Nat) : Int := yr ((xLf xSm (yr (yKo kd)).toNat).toInt)
theorem ysw_a : ∀ kd : Nat, kd < 67 → 0 ≤ yr (yKo kd) ∧ yr (yKo kd) < 67 ∧ (ysv kd = 1 ↔ kd = 63) ∧ (ysv kd = 2 ↔ kd = 64) ∧ (ysv kd = 3 ↔ kd = 62) ∧ (ysv kd = 4 ↔ kd = 52) ∧ (ysv kd = 5 ↔ kd = 36) ∧ (ysv kd = 6 ↔ kd = 46) := by decide
theorem ykr_a : ∀ kd : Nat, kd < 67 → yr (yKr kd) = yKr kd := by decide
/-- the switch of 53 -/
theorem v53_0 {d : Nat} {S : yS} {x0 : Int} {kd : Nat} (hk : gK S 0 = kd) (h67 : kd < 67) : Y q (d + 1) 53 0 [vr 122, vi x0, vu, vu, vu] [] S js = if ysv kd = 1 then YB q (Y q d 154 0 [vr 86] [] S js) (d + 1) 53 72 [vr 122, vi x0, vi (gI S 16), vj (gJ S 0), vu] [] else if ysv kd = 2 then YB q (Y q d 154 0 [vr 86] [] S js) (d + 1) 53 91 [vr 122, vi x0, vi (gI S 16), vj (gJ S 0), vu] [] else if ysv kd = 3 then YB q (Y q d 154 0 [vr 86] [] S js) (d + 1) 53 125 [vr 122, vi x0, vi (gI S 16), vj (gJ S 0), vu] [] else if ysv kd = 4 then YB q (Y q d 55 0 [vr 122, vi 19, vi x0, vu, vu, vu, vu] [] S js) (d + 1) 53 139 [vr 122, vi x0, vi (gI S 16), vj (gJ S 0), vu] [] else if ysv kd = 5 then YB q (Y q d 55 0 [vr 122, vi 18, vi x0, vu, vu, vu, vu] [] S js) (d + 1) 53 147 [vr 122, vi x0, vi (gI S 16), vj (gJ S 0), vu] [] else if ysv kd = 6 then YB q (Y q d 58 0 [vr 122, vi x0, vu] [] S js) (d + 1) 53 153 [vr 122, vi x0, vi (gI S 16), vj (gJ S 0), vu] [] else if yKr kd = 5 then YB q (Y q d 60 0 [vr 122, vi x0, vu, vu, vu, vu, vu, vu, vu] [] S js) (d + 1) 53 173 [vr 122, vi x0, vi (gI S 16), vj (gJ S 0), vu] [] else if yKr kd = 6 then YB q (Y q d 62 0 [vr 122, vr kd] [] S js) (d + 1) 53 200 [vr 122, vi x0, vi (gI S 16), vj (gJ S 0), vu] [] else YB q (Y q d 155 0 [vr 86] [] S js) (d + 1) 53 208 [vr 122, vi x0, vi (gI S 16), vj (gJ S 0), vu] [] := by
  obtain ⟨a1, a2, _⟩ := ysw_a kd h67
  have e5 : yr 5 = 5 := rfl
  have e6 : yr 6 = 6 := rfl
  rw [w53_0, hk, if_pos h67, w318_0, if_pos h67, YB_ret, w53_29, hk, if_pos ⟨a1, a2⟩, if_pos h67, if_pos h67, ykr_a kd h67, e5, e6]
  rfl
theorem m53 {d dp : Nat} (hu : u = 0 ∨ u = 1) (hT : yTo T N) (hR : yRoom T N Rm Rx s) (hRx : ∀ t, t < N → Rx t ≤ 2000) (h12 : 0 ≤ gI S0 12 ∧ gI S0 12 ≤ 2000) (hw : w = 0 ∨ w = 1 ∨ w = 2) (h10 : 0 ≤ gI S0 10 ∧ gI S0 10 ≤ 8) (h8 : 0 ≤ gI S0 8 ∧ gI S0 8 ≤ 8) (h9 : 0 ≤ gI S0 9 ∧ gI S0 9 ≤ 8) (hl : ∀ t, t < N → (T t).1 = 64 → 0 ≤ (T t).2.2.toInt ∧ (T t).2.2.toInt ≤ 2000) (hdp : dp ≤ 12) (h66 : ∀ base tb t b, (T t).1 = 66 → P base tb t b = .inl (T t).2.1) (hP : dp < 12 → yPok N Rm Rx s (ytxb S0) P ∧ yPin P ∧ yPok N Rm Rx s (ytxb S0) (yfrom T O P 0) ∧ yPin (yfrom T O P 0)) (hs : dp < 12 → cSub q js S0 T N u w Rm Rx (ytxb S0) (fun S => Y q (d + 1) 53 0 [vr 122, vi ((dp : Int) + 1), vu, vu, vu] [] S js) P) (hs2 : dp < 12 → cSub q js S0 T N u w Rm Rx (ytxb S0) (fun S => Y q (d + 1) 52 0 [vr 122, vi 0, vi ((dp : Int) + 1), vu, vu, vu] [] S js) (yfrom T O P 0)) : cSub q js S0 T N u w Rm Rx (ytxb S0) (fun S => Y q (d + 3) 53 0 [vr 122, vi dp, vu, vu, vu] [] S js) (yfcd T (ytxb S0) (ynmS S0 w) (decide (w = 1)) O dp P) := by
  intro S m hz h hbs
  match m, h, hbs with
  | .inl p, h, hbs =>
    obtain ⟨S1, a1, a2, a3, a4⟩ := mrefuse (q := q) (d := d + 2) (js := js) hu h
    refine ⟨S1, 0, .inl p, ?_, yWk_x a2, a3, by omega, fun p' hp' => hp', fun t b k hk => nomatch hk⟩
    have k66 : gK S 0 = 66 := h.2.2.2.2.1
    have e : ¬ ysv 66 = 1 ∧ ¬ ysv 66 = 2 ∧ ¬ ysv 66 = 3 ∧ ¬ ysv 66 = 4 ∧ ¬ ysv 66 = 5 ∧ ¬ ysv 66 = 6 ∧ ¬ yKr 66 = 5 ∧ ¬ yKr 66 = 6 := by decide
    obtain ⟨z1, z2, z3, z4, z5, z6, z7, z8⟩ := e
    show Y q (d + 3) 53 0 [vr 122, vi dp, vu, vu, vu] [] S js = _
    rw [v53_0 k66 (by omega), if_neg z1, if_neg z2, if_neg z3, if_neg z4, if_neg z5, if_neg z6, if_neg z7, if_neg z8, a1, YB_retv, w53_211]
    rfl
  | .inr (t, b, k), h, hbs =>
    obtain ⟨k1, k2, k3⟩ := cM_kd h
    have h67 := (hT.2.2.2.2 t k3).2
    obtain ⟨_, _, w1, w2, w3, w4, w5, w6⟩ := ysw_a _ h67
    have main : ∀ base tb, ybs u Rm Rx base tb t b k → ∃ (S' : yS) (r : Nat), Y q (d + 3) 53 0 [vr 122, vi dp, vu, vu, vu] [] S js = yret q (vi r) S' js ∧ yFr (yWx u) S S' ∧ r ≤ 2 ∧ cM T N u w S' (ymode k (ytxb S0) (yfcd T (ytxb S0) (ynmS S0 w) (decide (w = 1)) O dp P base tb t b)) ∧ ∀ L X, k = .inr (L, X) → ∀ t' b' x, yfcd T (ytxb S0) (ynmS S0 w) (decide (w = 1)) O dp P base tb t b = .inr (t', b', .inr x) → r = yty x := by
      intro base tb hb
      unfold yfcd
      by_cases e1 : (T t).1 = 63
      · rw [if_pos e1]
        obtain ⟨S1, a1, a2, a3, a4⟩ := m53n (q := q) (d := d + 2) (js := js) (dp := dp) hu hT hR h e1 hb
        exact ⟨S1, 2, a1, a2, by omega, a3, a4⟩
      · rw [if_neg e1]
        by_cases e2 : (T t).1 = 64
        · rw [if_pos e2]
          obtain ⟨S1, a1, a2, a3, a4⟩ := m53t (q := q) (d := d + 1) (js := js) (dp := dp) hu hT hR hRx h12 h hz e2 (hl t k3 e2) hb
          exact ⟨S1, 1, a1, a2, by omega, a3, a4⟩
        · rw [if_neg e2]
          by_cases e3 : (T t).1 = 62
          · rw [if_pos e3]
            obtain ⟨S1, r, a1, a2, a3, a4, a5⟩ := m53m (q := q) (d := d + 1) (js := js) (dp := dp) (tx := ytxb S0) hu hT hR hw h10 h8 h9 h hz e3 hb
            exact ⟨S1, r, a1, a2, a3, a4, a5⟩
          · rw [if_neg e3]
            have n1 : ¬ ysv (T t).1 = 1 := fun v => e1 (w1.mp v)
            have n2 : ¬ ysv (T t).1 = 2 := fun v => e2 (w2.mp v)
            have n3 : ¬ ysv (T t).1 = 3 := fun v => e3 (w3.mp v)
            by_cases e4 : (T t).1 = 52 ∨ (T t).1 = 36
            · rw [if_pos e4]
              by_cases hd : dp < 12
              · obtain ⟨P1, P2, P3, P4⟩ := hP hd
                by_cases e52 : (T t).1 = 52
                · rw [if_pos e52]
                  obtain ⟨S1, r, a1, a2, a3, a4, a5⟩ := m55 (q := q) (d := d) (js := js) (dp := dp) (op := 19) (O := O) hu hT hR P1 hdp (Or.inr rfl) h66 h hz (by omega) hb hs
                  have a1 : Y q (d + 2) 55 0 [vr 122, vi 19, vi dp, vu, vu, vu, vu] [] S js = yret q (vi r) S1 js := a1
                  refine ⟨S1, r, ?_, a2, a3, a4, a5⟩
                  rw [v53_0 k1 h67, if_neg n1, if_neg n2, if_neg n3, if_pos (w4.mpr e52), a1, YB_ret, w53_142]
                · rw [if_neg e52]
                  have e36 : (T t).1 = 36 := e4.resolve_left e52
                  obtain ⟨S1, r, a1, a2, a3, a4, a5⟩ := m55 (q := q) (d := d) (js := js) (dp := dp) (op := 18) (O := O) hu hT hR P1 hdp (Or.inl rfl) h66 h hz (by omega) hb hs
                  have a1 : Y q (d + 2) 55 0 [vr 122, vi 18, vi dp, vu, vu, vu, vu] [] S js = yret q (vi r) S1 js := a1
                  refine ⟨S1, r, ?_, a2, a3, a4, a5⟩
                  rw [v53_0 k1 h67, if_neg n1, if_neg n2, if_neg n3, if_neg (fun v => e52 (w4.mp v)), if_pos (w5.mpr e36), a1, YB_ret, w53_150]
              · have ef : yfrn T O P (if (T t).1 = 52 then 19 else 18) dp base tb t b = .inl (T t).2.1 := by unfold yfrn; rw [if_pos (Or.inl (by omega))]
                rw [ef]
                obtain ⟨S1, r0, a1, a2, a3, a4⟩ := mopen (q := q) (d := d) (js := js) (dp := dp) hu hT h (by omega) (by omega)
                obtain ⟨b1, b2⟩ := a3 (Or.inl (by omega))
                refine ⟨S1, 0, ?_, yWk_x a2, by omega, b2, fun L X hk t' b' x hx => nomatch hx⟩
                have e0 : yr 0 = 0 := rfl
                by_cases e52 : (T t).1 = 52
                · rw [v53_0 k1 h67, if_neg n1, if_neg n2, if_neg n3, if_pos (w4.mpr e52), w55_0, a1, YB_ret, b1, w55_13, e0, if_pos rfl, YB_ret, w53_142]
                  rfl
                · have e36 : (T t).1 = 36 := e4.resolve_left e52
                  rw [v53_0 k1 h67, if_neg n1, if_neg n2, if_neg n3, if_neg (fun v => e52 (w4.mp v)), if_pos (w5.mpr e36), w55_0, a1, YB_ret, b1, w55_13, e0, if_pos rfl, YB_ret, w53_150]
                  rfl
            · rw [if_neg e4]
              have n4 : ¬ ysv (T t).1 = 4 := fun v => e4 (Or.inl (w4.mp v))
              have n5 : ¬ ysv (T t).1 = 5 := fun v => e4 (Or.inr (w5.mp v))
              have f66 : ∀ base tb t b, (T t).1 = 66 → yfrom T O P 0 base tb t b = .inl (T t).2.1 := fun base tb t b z => yfrom_66 (h66 base tb t b z)
              by_cases e5 : (T t).1 = 46
              · rw [if_pos e5]
                obtain ⟨S1, r, a1, a2, a3, a4, a5⟩ := m58 (q := q) (d := d) (js := js) (dp := dp) hu hT hR hdp f66 h hz (by omega) hb hs2
                refine ⟨S1, r, ?_, a2, a3, a4, a5⟩
                rw [v53_0 k1 h67, if_neg n1, if_neg n2, if_neg n3, if_neg n4, if_neg n5, if_pos (w6.mpr e5), a1, YB_ret, w53_156]
              · rw [if_neg e5]
                have n6 : ¬ ysv (T t).1 = 6 := fun v => e5 (w6.mp v)
                by_cases e6 : yKr (T t).1 = 5
                · rw [if_pos e6]
                  by_cases hd : dp < 12
                  · obtain ⟨S1, r, a1, a2, a3, a4, a5⟩ := m60 (q := q) (d := d) (js := js) (dp := dp) (O := O) hu hT hR (hP hd).2.2.1 hdp f66 h hz e6 hb hs2
                    refine ⟨S1, r, ?_, a2, a3, a4, a5⟩
                    rw [v53_0 k1 h67, if_neg n1, if_neg n2, if_neg n3, if_neg n4, if_neg n5, if_neg n6, if_pos e6, a1, YB_ret, w53_176]
                  · obtain ⟨S1, r, a1, a2, a3, a4, a5⟩ := m60 (q := q) (d := d) (js := js) (dp := dp) (O := O) (P := fun _ _ t _ => .inl (T t).2.1) (tx := ytxb S0) (s := s) hu hT hR (fun base tb t b t' b' m _ hh => nomatch hh) hdp (fun _ _ _ _ _ => rfl) h hz e6 hb (fun v => absurd v hd)
                    have ef : ∀ P : Nat → Nat → Nat → Nat → yPr, yfnc T O P dp base tb t b = if b = 0 then .inl (T t).2.1 else .inl (T (t + 1)).2.1 := by
                      intro P
                      unfold yfnc
                      by_cases hb0 : b = 0
                      · rw [if_pos hb0, if_pos hb0]
                      · rw [if_neg hb0, if_neg hb0, if_pos (Or.inr (Or.inl (by omega)))]
                    rw [ef] at a4 a5 ⊢
                    refine ⟨S1, r, ?_, a2, a3, a4, a5⟩
                    rw [v53_0 k1 h67, if_neg n1, if_neg n2, if_neg n3, if_neg n4, if_neg n5, if_neg n6, if_pos e6, a1, YB_ret, w53_176]
                · rw [if_neg e6]
                  by_cases e7 : yKr (T t).1 = 6
                  · rw [if_pos e7]
                    have k6 : ∀ kd : Nat, kd < 67 → yKr kd = 6 → kd ≤ 64 := by decide
                    obtain ⟨S1, a1, a2, a3, a4⟩ := m62 (q := q) (d := d + 1) (js := js) (tx := ytxb S0) hu hT hR (by omega) h (k6 _ h67 e7) hb
                    refine ⟨S1, 0, ?_, a2, by omega, a3, a4⟩
                    rw [v53_0 k1 h67, if_neg n1, if_neg n2, if_neg n3, if_neg n4, if_neg n5, if_neg n6, if_neg e6, if_pos e7, a1, YB_ret, w53_203]
                    rfl
                  · rw [if_neg e7]
                    obtain ⟨S1, a1, a2, a3, a4⟩ := mrefuse (q := q) (d := d + 2) (js := js) hu h
                    refine ⟨S1, 0, ?_, yWk_x a2, by omega, a3, fun L X hk t' b' x hx => nomatch hx⟩
                    rw [v53_0 k1 h67, if_neg n1, if_neg n2, if_neg n3, if_neg n4, if_neg n5, if_neg n6, if_neg e6, if_neg e7, a1, YB_retv, w53_211]
                    rfl
    have hin : yPin (yfcd T (ytxb S0) (ynmS S0 w) (decide (w = 1)) O dp P) := yfcd_in (fun z => (hP z).2.1) (fun z => (hP z).2.2.2)
    match k, hbs, main with
    | .inl e, hbs, main =>
      obtain ⟨S2, r2, c1, c2, c3, c4, c5⟩ := main 0 0 (fun L X hk => nomatch hk)
      refine ⟨S2, r2, _, c1, c2, c4, c3, (fun p hp => nomatch hp), fun t' b' k' hk base tb _ => ?_⟩
      injection hk with hk
      injection hk with e1 hk
      injection hk with e2 e3
      subst e1
      subst e2
      subst e3
      exact ⟨ysh_e (hin _ _ _ _ _ _), fun L X hk => nomatch hk⟩
    | .inr (L, X), hbs, main =>
      obtain ⟨base0, tb0, hb⟩ := hbs t b _ rfl
      obtain ⟨S2, r2, c1, c2, c3, c4, c5⟩ := main base0 tb0 hb
      refine ⟨S2, r2, _, c1, c2, c4, c3, (fun p hp => nomatch hp), fun t' b' k' hk base tb hb' => ?_⟩
      injection hk with hk
      injection hk with e1 hk
      injection hk with e2 e3
      subst e1
      subst e2
      subst e3
      obtain ⟨w1, w2, _⟩ := hb' L X rfl
      obtain ⟨v1, v2, _⟩ := hb L X rfl
      rw [w1, w2]
      rw [v1, v2] at c5 ⊢
      exact ⟨rfl, c5⟩
/-- sizes of a factor and of an expression, at every depth -/
theorem yfac_sz (hT : yTo T N) (hR : yRoom T N Rm Rx s) {tx : Nat → Nat → List Int} {decl : Bool} (htx : ∀ t, t < N → (T t).1 = 64 → (tx ((T t).2.1 + 1) (T t).2.2.toInt.toNat).length ≤ (T t).2.2.toInt.toNat) : ∀ rd, rd ≤ 12 → yPok N Rm Rx s tx (yfac T tx nm decl O rd) ∧ yPin (yfac T tx nm decl O rd) ∧ yPok N Rm Rx s tx (yfrom T O (yfac T tx nm decl O rd) 0) ∧ yPin (yfrom T O (yfac T tx nm decl O rd) 0) := by
  have up : ∀ P, yPok N Rm Rx s tx P → yPin P → yPok N Rm Rx s tx (yfrom T O P 0) ∧ yPin (yfrom T O P 0) := fun P h1 h2 => ⟨ylev_ok (lv := 0) hT hR (ylev_ok (lv := 1) hT hR (ylev_ok (lv := 2) hT hR (ylev_ok (lv := 3) hT hR (ylev_ok (lv := 4) hT hR h1 (by omega)) (by omega)) (by omega)) (by omega)) (by omega), ylev_in (ylev_in (ylev_in (ylev_in (ylev_in h2))))⟩
  intro rd
  induction rd with
  | zero =>
    intro _
    have e : yfac T tx nm decl O 0 = yfcd T tx nm decl O 12 (ypv T tx nm decl O 0) := by
      funext base tb t b
      exact yfac_e rfl
    rw [e]
    have a := yfcd_ok (nm := nm) (decl := decl) (O := O) (dp := 12) (P := ypv T tx nm decl O 0) hT hR htx (fun z => absurd z (by omega)) (fun z => absurd z (by omega))
    have b := yfcd_in (T := T) (tx := tx) (nm := nm) (decl := decl) (O := O) (dp := 12) (P := ypv T tx nm decl O 0) (fun z => absurd z (by omega)) (fun z => absurd z (by omega))
    exact ⟨a, b, up _ a b⟩
  | succ r ih =>
    intro hr
    obtain ⟨i1, i2, i3, i4⟩ := ih (by omega)
    have e : yfac T tx nm decl O (r + 1) = yfcd T tx nm decl O (11 - r) (ypv T tx nm decl O (r + 1)) := by
      funext base tb t b
      exact yfac_e (by omega)
    rw [e]
    have a := yfcd_ok (nm := nm) (decl := decl) (O := O) (dp := 11 - r) (P := ypv T tx nm decl O (r + 1)) hT hR htx (fun _ => i1) (fun _ => i3)
    have b := yfcd_in (T := T) (tx := tx) (nm := nm) (decl := decl) (O := O) (dp := 11 - r) (P := ypv T tx nm decl O (r + 1)) (fun _ => i2) (fun _ => i4)
    exact ⟨a, b, up _ a b⟩
theorem ytxb_len (S : yS) (p n : Nat) : (ytxb S p n).length = n := by
  unfold ytxb
  rw [List.length_map, List.length_range]
theorem cFc_a (hu : u = 0 ∨ u = 1) (hT : yTo T N) (hR : yRoom T N Rm Rx s) (hRx : ∀ t, t < N → Rx t ≤ 2000) (h12 : 0 ≤ gI S0 12 ∧ gI S0 12 ≤ 2000) (hw : w = 0 ∨ w = 1 ∨ w = 2) (h10 : 0 ≤ gI S0 10 ∧ gI S0 10 ≤ 8) (h8 : 0 ≤ gI S0 8 ∧ gI S0 8 ≤ 8) (h9 : 0 ≤ gI S0 9 ∧ gI S0 9 ≤ 8) (hl : ∀ t, t < N → (T t).1 = 64 → 0 ≤ (T t).2.2.toInt ∧ (T t).2.2.toInt ≤ 2000) : ∀ rd dp, dp + rd = 12 → cFc q js S0 T N u w Rm Rx s (ytxb S0) dp (3 + 13 * rd) (yfac T (ytxb S0) (ynmS S0 w) (decide (w = 1)) O rd) := by
  have sz := yfac_sz (nm := ynmS S0 w) (decl := decide (w = 1)) (O := O) (tx := ytxb S0) hT hR (fun t _ _ => Nat.le_of_eq (ytxb_len _ _ _))
  intro rd
  induction rd with
  | zero =>
    intro dp hdp
    have e : yfac T (ytxb S0) (ynmS S0 w) (decide (w = 1)) O 0 = yfcd T (ytxb S0) (ynmS S0 w) (decide (w = 1)) O dp (ypv T (ytxb S0) (ynmS S0 w) (decide (w = 1)) O 0) := by
      funext base tb t b
      exact yfac_e (by omega)
    refine ⟨fun d hd => ?_, (sz 0 (by omega)).1, (sz 0 (by omega)).2.1⟩
    obtain ⟨d', rfl⟩ : ∃ d', d = d' + 3 := ⟨d - 3, by omega⟩
    rw [e]
    exact m53 hu hT hR hRx h12 hw h10 h8 h9 hl (by omega) (fun base tb t b z => ypv_66 (by omega) z) (fun z => absurd z (by omega)) (fun z => absurd z (by omega)) (fun z => absurd z (by omega))
  | succ r ih =>
    intro dp hdp
    have i := ih (dp + 1) (by omega)
    have i2 := cLv_0 (O := O) hu hT hR i
    have e : yfac T (ytxb S0) (ynmS S0 w) (decide (w = 1)) O (r + 1) = yfcd T (ytxb S0) (ynmS S0 w) (decide (w = 1)) O dp (ypv T (ytxb S0) (ynmS S0 w) (decide (w = 1)) O (r + 1)) := by
      funext base tb t b
      exact yfac_e (by omega)
    refine ⟨fun d hd => ?_, (sz (r + 1) (by omega)).1, (sz (r + 1) (by omega)).2.1⟩
    obtain ⟨d', rfl⟩ : ∃ d', d = d' + 3 := ⟨d - 3, by omega⟩
    rw [e]
    exact m53 hu hT hR hRx h12 hw h10 h8 h9 hl (by omega) (fun base tb t b z => ypv_66 (by omega) z) (fun _ => ⟨i.2.1, i.2.2, i2.2.1, i2.2.2⟩) (fun _ => i.1 (d' + 1) (by omega)) (fun _ => i2.1 (d' + 1) (by omega))
/-- the whole expression, at a depth -/
theorem cLv_a (hu : u = 0 ∨ u = 1) (hT : yTo T N) (hR : yRoom T N Rm Rx s) (hRx : ∀ t, t < N → Rx t ≤ 2000) (h12 : 0 ≤ gI S0 12 ∧ gI S0 12 ≤ 2000) (hw : w = 0 ∨ w = 1 ∨ w = 2) (h10 : 0 ≤ gI S0 10 ∧ gI S0 10 ≤ 8) (h8 : 0 ≤ gI S0 8 ∧ gI S0 8 ≤ 8) (h9 : 0 ≤ gI S0 9 ∧ gI S0 9 ≤ 8) (hl : ∀ t, t < N → (T t).1 = 64 → 0 ≤ (T t).2.2.toInt ∧ (T t).2.2.toInt ≤ 2000) {dp : Nat} (hdp : dp ≤ 12) : cLv q js S0 T N u w Rm Rx s (ytxb S0) dp 170 0 (yexp T (ytxb S0) (ynmS S0 w) (decide (w = 1)) O (12 - dp)) := by
  have h := cLv_0 (O := O) hu hT hR (cFc_a (q := q) (js := js) (O := O) hu hT hR hRx h12 hw h10 h8 h9 hl (12 - dp) dp (by omega))
  exact ⟨fun d hd => h.1 d (by omega), h.2.1, h.2.2⟩
end YFCL
end YFC
