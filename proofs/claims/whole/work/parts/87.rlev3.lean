/-! THE REFERENCE: relations; all levels out of a factor -/
section YRD
section YRDL
variable {q : yQ} {d : Nat} {js : List xO} {S0 S S5 : yS} {T : yTk} {N u : Nat} {sc : Int} {Rm : Nat → Nat → Nat} {Rx : Nat → Nat} {s dp : Nat} {tx : Nat → Nat → List Int} {O : yOp} {P : Nat → Nat → Nat → Nat → yPr} {k k' k5 : yRk}
/-- behind the first operand of 229 -/
theorem v229 {t b : Nat} {st x1 : Int} (hT : yTo T N) (h : rM T N u sc S t b dp k') : Y q (d + 2) 229 12 [vr 129, vi st, vu, vu, vu, vu, vu, vu, vu] [vi x1] S js = if yKr (T t).1 = 2 then YB q (Y q (d + 1) 217 0 [vr 129] [] S js) (d + 2) 229 124 [vr 129, vi st, vi x1, vi ((yop (T t).1 - 12 : Nat) : Int), vi ((T t).2.1 : Nat), vi (gI S 49), vj (gJ S 1), vu, vu] [] else yret q (vi x1) S js := by
  have h2 := h.2.1
  have h67 := (hT.2.2.2.2 t h2).2
  obtain ⟨g1, g2, g3, g4, g5, g6, g7, g8⟩ := rM_t h
  have hN := hT.2.1
  have e44 : yr (gI S 44) = t := by rw [g1]; exact yr_eq (by omega) (by omega)
  have k2 := (ykop2 _ h67).1
  have i1 : Y q (d + 1) 221 0 [vr 129, vi 104] [] S js = yret q (vi (yb ((T t).1 = 50))) S js := rm_is hT h (kd := 50) (by omega)
  have i2 : Y q (d + 1) 221 0 [vr 129, vi 115] [] S js = yret q (vi (yb ((T t).1 = 61))) S js := rm_is hT h (kd := 61) (by omega)
  have i3 : Y q (d + 1) 221 0 [vr 129, vi 111] [] S js = yret q (vi (yb ((T t).1 = 57))) S js := rm_is hT h (kd := 57) (by omega)
  have i4 : Y q (d + 1) 221 0 [vr 129, vi 112] [] S js = yret q (vi (yb ((T t).1 = 58))) S js := rm_is hT h (kd := 58) (by omega)
  have i5 : Y q (d + 1) 221 0 [vr 129, vi 113] [] S js = yret q (vi (yb ((T t).1 = 59))) S js := rm_is hT h (kd := 59) (by omega)
  have i6 : Y q (d + 1) 221 0 [vr 129, vi 114] [] S js = yret q (vi (yb ((T t).1 = 60))) S js := rm_is hT h (kd := 60) (by omega)
  have ok : 0 ≤ (t : Int) ∧ (t : Int) < 2001 := by omega
  have v := yop_v
  have n0 : ¬ yr 0 = yr (-1) := by decide
  have n1 : ¬ yr 1 = yr (-1) := by decide
  have n2 : ¬ yr 2 = yr (-1) := by decide
  have n3 : ¬ yr 3 = yr (-1) := by decide
  have n4 : ¬ yr 4 = yr (-1) := by decide
  have n5 : ¬ yr 5 = yr (-1) := by decide
  have nm : yr (-1) = yr (-1) := rfl
  rw [w229_12, i1, YB_ret, w229_19, i2, YB_ret, w229_32, i3, YB_ret, w229_45, i4, YB_ret, w229_58, i5, YB_ret, w229_71, i6, YB_ret, w229_84, e44, if_neg n0, if_neg n1, if_neg n2, if_neg n3, if_neg n4, if_neg n5, if_pos nm]
  simp only [yr_yb, yb_eq0, if_pos ok, Int.toNat_natCast, g8]
  by_cases z1 : (T t).1 = 50
  · rw [if_neg (fun n => n z1), if_pos (k2.mpr (by omega)), z1, v.1]
    rfl
  · rw [if_pos z1]
    by_cases z2 : (T t).1 = 61
    · rw [if_neg (fun n => n z2), if_pos (k2.mpr (by omega)), z2, v.2.1]
      rfl
    · rw [if_pos z2]
      by_cases z3 : (T t).1 = 57
      · rw [if_neg (fun n => n z3), if_pos (k2.mpr (by omega)), z3, v.2.2.1]
        rfl
      · rw [if_pos z3]
        by_cases z4 : (T t).1 = 58
        · rw [if_neg (fun n => n z4), if_pos (k2.mpr (by omega)), z4, v.2.2.2.1]
          rfl
        · rw [if_pos z4]
          by_cases z5 : (T t).1 = 59
          · rw [if_neg (fun n => n z5), if_pos (k2.mpr (by omega)), z5, v.2.2.2.2.1]
            rfl
          · rw [if_pos z5]
            by_cases z6 : (T t).1 = 60
            · rw [if_neg (fun n => n z6), if_pos (k2.mpr (by omega)), z6, v.2.2.2.2.2.1]
              rfl
            · rw [if_pos z6, if_neg (fun v => by have := k2.mp v; omega)]
theorem l229 {base tb t b ty : Nat} {st : Int} {l : yMn} (hu : u = 0 ∨ u = 1) (hT : yTo T N) (hR : yRoom T N Rm Rx s) (hP : yPok N Rm Rx s tx P) (hL : yPlt P) (hs : rSub q js S0 T N u sc Rm Rx dp (fun S => Y q (d + 3) 230 0 [vr 129, vu, vu, vu, vu, vu, vu, vu, vu] [] S js) P) (hst : rst st k) (hz : yFr (yWv u) S0 S) (h : rM T N u sc S t b dp k') (hI : rls s Rm Rx base tb k k' l t b ty S) : rOut q js T N u sc S dp k (Y q (d + 4) 229 12 [vr 129, vi st, vu, vu, vu, vu, vu, vu, vu] [vi ty] S js) (ylop T O 2 P 1 base tb t b l) := by
  have h2 := h.2.1
  have h67 := (hT.2.2.2.2 t h2).2
  have k2 := (ykop2 _ h67).1
  rw [v229 hT h]
  by_cases hkr : yKr (T t).1 = 2
  · have hk2 := k2.mp hkr
    have ht := yTo_t hT h2 (by omega)
    rw [if_pos hkr]
    by_cases hb : b = 0
    · subst hb
      rw [ylop_s hkr]
      refine rOut_n fun hk => ⟨S, ?_, yFr_rf _ _⟩
      rw [rm_take0 hT h, t229]
    · obtain ⟨S1, a1, f1, h1, p1, p2⟩ := rm_take (q := q) (d := d + 2) (js := js) hT h (by omega) hb hu
      obtain ⟨wh, hwh⟩ : ∃ wh, wh = yop (T t).1 - 12 := ⟨_, rfl⟩
      have hop : yop (T t).1 = 12 + wh ∧ wh ≤ 5 := by
        have v := yop_v
        rcases hk2 with e | e | e | e | e | e <;> rw [e] at hwh ⊢ <;> omega
      rw [a1, YB_retv, w229_127, ← hwh]
      have e12 : 12 + (wh : Int) = (yop (T t).1 : Nat) := by omega
      refine rStep (f := 0) (hd := fun o ty S => o = yret q (vi (ty : Int)) S js) (C := fun o => YB q o (d + 4) 229 128 [vr 129, vi st, vi ty, vi (wh : Int), vi ((T t).2.1 : Nat), vi (gI S 49), vj (gJ S 1), vu, vu] []) (kd := (T t).1) hT hR hP hL hs ht rfl (by omega) hkr hb hz hI (fun a p S' => t229 ..) f1 h1 ?_ ?_ ?_ ?_ (Or.inr rfl)
      · rcases rls_k hI with ⟨v1, v2⟩ | ⟨L, X, x, v1, v2, v3, _⟩
        · exact Or.inl ⟨v1, v2⟩
        · refine Or.inr ⟨L, X, x, v1, v2, ?_⟩
          rw [v2, v3]
          show _ = some (_ ++ (if (T t).1 = 34 then _ else if (T t).1 = 35 then _ else if (T t).1 = 56 ∧ x.1 = false then _ else []), _)
          rw [if_neg (by omega), if_neg (by omega), if_neg (by omega), List.append_nil]
      · intro _ S6 n t2 b2 g3 g4
        have m1 : ∀ c : Int, Y q (d + 3) 219 0 [vr 129, vi c, vi 3, vi ((T t).2.1 : Nat)] [] S6 js = yretv q S6 js := fun c => rm_mustn g3
        have emit : ∃ S7 : yS, YB q (Y q (d + 3) 234 0 [vr 129, vi (12 + (wh : Int)), vj 0, vu] [] S6 js) (d + 4) 229 198 [vr 129, vi st, vi ty, vi (wh : Int), vi ((T t).2.1 : Nat), vi (gI S 49), vj (gJ S 1), vu, vi n] [] = yret q (vi ((0 : Nat) : Int)) S7 js ∧ yFr (yWv u) S6 S7 ∧ rM T N u sc S7 t2 b2 dp none ∧ 0 ≤ 1 := by
          obtain ⟨S7, r7, c7, d7, h7, _, _, _⟩ := rm_emit (q := q) (d := d + 3) (js := js) hu g3 (fun L X e => nomatch e) (12 + wh) 0
          have c7 : Y q (d + 3) 234 0 [vr 129, vi (12 + (wh : Int)), vj 0, vu] [] S6 js = yret q (vi r7) S7 js := c7
          obtain ⟨d8, h8, _⟩ := rm_no h7 hu
          exact ⟨_, by rw [c7, YB_ret, w229_201]; rfl, yFr_tr d7 d8, h8, by omega⟩
        show ∃ (S7 : yS) (ty' : Nat), YB q (yret q (vi (n : Int)) S6 js) (d + 4) 229 128 _ [] = yret q (vi (ty' : Int)) S7 js ∧ _
        rw [YB_ret, w229_131, m1, m1]
        have yif1 : ∀ (c : Prop) [Decidable c] (z : Option xRes), (if c then z else z) = z := fun c _ z => by split <;> rfl
        rw [yif1, YB_retv, w229_151]
        split
        · obtain ⟨S7, c⟩ := emit
          exact ⟨S7, 0, c⟩
        · split
          · obtain ⟨S7, c⟩ := emit
            exact ⟨S7, 0, c⟩
          · rw [r319, YB_ret, w229_175, r242 _ _ hop.2, YB_ret, w229_178]
            split
            · obtain ⟨S7, c7, d7, h7, _⟩ := rm_plain (q := q) (d := d + 2) (js := js) (n := 0) (st := st) (v := 0) hu g3 (fun L X e => nomatch e)
              exact ⟨S7, 0, by rw [c7, YB_retv, w229_189]; rfl, d7, h7, by omega⟩
            · obtain ⟨S7, c7, d7, h7, _⟩ := rm_plain (q := q) (d := d + 2) (js := js) (n := 0) (st := st) (v := 1) hu g3 (fun L X e => nomatch e)
              exact ⟨S7, 0, by rw [c7, YB_retv, w229_189]; rfl, d7, h7, by omega⟩
      · intro L X x hk hl hb1 hb2 hwx S6 y t2 b2 hwy hlen g3 g4
        obtain ⟨hty, hlo⟩ := rls_ty hI hk hl
        subst hl
        have epre : ypre base (T t).1 (.inr x) = [] := by
          show (if (T t).1 = 34 then _ else if (T t).1 = 35 then _ else if (T t).1 = 56 ∧ x.1 = false then _ else []) = []
          rw [if_neg (by omega), if_neg (by omega), if_neg (by omega)]
        rw [epre] at g3
        have tyx : yr (ty : Int) = (ytyn x : Int) := by rw [hty]; exact ytyn_r x
        have heq : ((ytyn x : Int) = (ytyn y : Int)) ↔ x.1 = y.1 := by
          unfold ytyn
          cases x.1 <;> cases y.1 <;> decide
        show (match ycomb O base (T t).1 (T t).2.1 (.inr x) (.inr y) with
          | .inl e => ∃ S7, YB q (yret q (vi (ytyn y : Nat)) S6 js) (d + 4) 229 128 _ [] = ythr q (ystp (Int32.ofInt (e.1 : Nat)) (Int32.ofInt (e.2 : Nat))) S7 js ∧ yFr (yWv u) S6 S7
          | .inr z => ∃ S7, YB q (yret q (vi (ytyn y : Nat)) S6 js) (d + 4) 229 128 _ [] = yret q (vi ((ytyn z : Nat) : Int)) S7 js ∧ yFr (yWv u) S6 S7 ∧ rM T N u sc S7 t2 b2 dp (some (L ++ z.2.2.1, X ++ z.2.2.2.1)) ∧ rP S7 z.2.1)
        rw [YB_ret, w229_131, tyx, ytyn_r]
        by_cases hxy : x.1 = y.1
        · have hne : (x.1 != y.1) = false := by rw [hxy]; cases y.1 <;> rfl
          have hcomb := ycomb_nn (O := O) (base := base) (kd := (T t).1) (pl := (T t).2.1) (x := x) (y := y) (by omega) (by omega) (by omega) (by rw [if_pos hkr]; exact hne)
          rw [if_pos (heq.mpr hxy), rm_must1, YB_retv, w229_151]
          have emit : ∃ S7 : yS, YB q (Y q (d + 3) 234 0 [vr 129, vi (12 + (wh : Int)), vj 0, vu] [] S6 js) (d + 4) 229 198 [vr 129, vi st, vi ty, vi (wh : Int), vi ((T t).2.1 : Nat), vi (gI S 49), vj (gJ S 1), vu, vi (ytyn y : Nat)] [] = yret q (vi ((0 : Nat) : Int)) S7 js ∧ yFr (yWv u) S6 S7 ∧ rM T N u sc S7 t2 b2 dp (some (L ++ (x.2.2.1 ++ y.2.2.1 ++ [(yop (T t).1, 0)]), X ++ (x.2.2.2.1 ++ y.2.2.2.1))) ∧ rP S7 none := by
            obtain ⟨S7, r7, c7, d7, h7⟩ := rm_op (q := q) (d := d + 3) (js := js) (op := yop (T t).1) hu hlen g3
            have c7 : Y q (d + 3) 234 0 [vr 129, vi (12 + (wh : Int)), vj 0, vu] [] S6 js = yret q (vi r7) S7 js := by rw [e12]; exact c7
            obtain ⟨d8, h8, p8⟩ := rm_no h7 hu
            exact ⟨_, by rw [c7, YB_ret, w229_201]; rfl, yFr_tr d7 d8, h8, p8⟩
          match hxo : x.2.1, hlo with
          | none, hlo =>
            have hlo : gI S 49 = 0 := hlo
            rw [hxo] at hcomb
            rw [hcomb, hlo, if_pos yr_0]
            rw [hlo] at emit
            exact emit
          | some a, hlo =>
            obtain ⟨ho1, ho2⟩ := hlo
            rw [ho1, if_neg (by decide)]
            rw [ho1] at emit
            match hyo : y.2.1, g4 with
            | none, g4 =>
              have g4 : gI S6 49 = 0 := g4
              rw [hxo, hyo] at hcomb
              rw [hcomb, g4, if_pos yr_0]
              exact emit
            | some c, g4 =>
              obtain ⟨hp1, hp2⟩ := g4
              rw [hxo, hyo] at hcomb
              have hcomb : ycomb O base (T t).1 (T t).2.1 (.inr x) (.inr y) = if (yop (T t).1 = 9 ∨ yop (T t).1 = 10) ∧ c = 0 then .inr (false, none, x.2.2.1 ++ y.2.2.1 ++ [(yop (T t).1, 0)], x.2.2.2.1 ++ y.2.2.2.1, yd2 O (yop (T t).1) x.2.2.2.2 y.2.2.2.2) else .inr (ycn (ycal (yop (T t).1) a c)) := hcomb
              rw [if_neg (by omega)] at hcomb
              rw [hcomb, hp1, if_neg (by decide), ho2, hp2, r319, YB_ret, w229_175, r242 _ _ hop.2, YB_ret, w229_178]
              have ev : ycal ((yop (T t).1 : Nat) : Int) a c = ycal ((12 + wh : Nat) : Int) a c := by rw [hop.1]
              obtain ⟨S7, c7, d7, h7, p7⟩ := rm_kn (q := q) (d := d + 2) (js := js) (v := ycal ((yop (T t).1 : Nat) : Int) a c) hu hlen (hwx a hxo).2.2 (hwy c hyo).2.2 g3
              refine ⟨S7, ?_, d7, h7, p7⟩
              rcases ycal_01 a c hop.2 with e | e
              · rw [e, if_pos rfl, if_pos (by decide), hst L X hk]
                rw [ev, e] at c7
                rw [c7, YB_retv, w229_189]
                rfl
              · have n1 : ¬ (1 : Int64) = 0 := by decide
                have n2 : ¬ yr (if (1 : Int64) = 0 then 0 else 1) = 0 := by decide
                rw [e, if_neg n2, hst L X hk]
                rw [ev, e] at c7
                rw [c7, YB_retv, w229_189]
                rfl
        · have hne : (x.1 != y.1) = true := by cases hx : x.1 <;> cases hy : y.1 <;> first | rfl | (rw [hx, hy] at hxy; exact (hxy rfl).elim)
          have ec : ycomb O base (T t).1 (T t).2.1 (.inr x) (.inr y) = .inl (3, (T t).2.1) := by
            rw [ycomb_op (by omega) (by omega) (by omega), if_pos hkr, if_pos hne]
          rw [ec, if_neg (fun v => hxy (heq.mp v))]
          have m0 : Y q (d + 3) 219 0 [vr 129, vi 0, vi 3, vi ((T t).2.1 : Nat)] [] S6 js = ythr q (ystp (Int32.ofInt (3 : Nat)) (Int32.ofInt ((T t).2.1 : Nat))) S6 js := rm_must0 g3
          exact ⟨S6, by rw [m0, t229], yFr_rf _ _⟩
      · rintro o t b ty l k' S rfl _ hz' h' hI'
        exact rls_out hI' h'
  · have e : ylop T O 2 P 1 base tb t b l = .inr (t, b, l) := if_neg hkr
    rw [if_neg hkr, e]
    exact rls_out hI h
/-- a level takes a token at least -/
theorem ylev_lt {lv : Int} (h : yPlt P) : yPlt (ylev T O lv P) := by
  have lop : ∀ f base tb t b (l : yMn) t' b' m, ylop T O lv P f base tb t b l = .inr (t', b', m) → b' ≤ b := by
    intro f
    induction f with
    | zero =>
      intro base tb t b l t' b' m e
      have := (yinr (m := l) e).2.1
      omega
    | succ f ih =>
      intro base tb t b l t' b' m e
      by_cases hk : yKr (T t).1 = lv
      · rw [ylop_s hk] at e
        by_cases hb : b = 0
        · subst hb
          nomatch e
        · rw [ysp_s hb] at e
          match hp : P (yrbs base (T t).1 l) (yrtx tb l) (t + 1) (b - 1) with
          | .inl p =>
            rw [hp] at e
            nomatch e
          | .inr (t2, b2, r) =>
            rw [hp] at e
            have h1 := h _ _ _ _ _ _ _ hp
            have h2 := ih _ _ _ _ _ _ _ _ e
            omega
      · have e2 : ylop T O lv P (f + 1) base tb t b l = .inr (t, b, l) := if_neg hk
        rw [e2] at e
        have := (yinr (m := l) e).2.1
        omega
  intro base tb t b t' b' m e
  unfold ylev at e
  match hp : P base tb t b with
  | .inl p =>
    rw [hp] at e
    nomatch e
  | .inr (t1, b1, l) =>
    rw [hp] at e
    have h1 := h _ _ _ _ _ _ _ hp
    have h2 := lop _ _ _ _ _ _ _ _ _ e
    omega
theorem yfrom_lt (h : yPlt P) : yPlt (yfrom T O P 0) := ylev_lt (ylev_lt (ylev_lt (ylev_lt (ylev_lt h))))
theorem rst_of {t b : Nat} (h : rM T N u sc S t b dp k) : rst (gI S (4 + u)) k := by
  intro L X hk
  subst hk
  exact h.2.2.2.2.2.2.2.2.2.2.1.1
theorem r231c (hu : u = 0 ∨ u = 1) (hT : yTo T N) (hR : yRoom T N Rm Rx s) (hP : yPok N Rm Rx s tx P) (hL : yPlt P) (hs : rSub q js S0 T N u sc Rm Rx dp (fun S => Y q (d + 3) 232 0 [vr 129, vu, vu, vu, vu, vu] [] S js) P) : rSub q js S0 T N u sc Rm Rx dp (fun S => Y q (d + 4) 231 0 [vr 129, vu, vu, vu, vu, vu, vu, vu, vu] [] S js) (ylev T O 4 P) := by
  intro S t b k hz h hc base tb hbs
  have hk := h.2.2.2.2.2.2.2.1
  have st : Y q (d + 4) 231 0 [vr 129, vu, vu, vu, vu, vu, vu, vu, vu] [] S js = YB q (Y q (d + 3) 232 0 [vr 129, vu, vu, vu, vu, vu] [] S js) (d + 4) 231 9 [vr 129, vi (gI S (4 + u)), vu, vu, vu, vu, vu, vu, vu] [] := by
    rcases hu with rfl | rfl
    · have hk : gK S 2 = 139 := hk
      rw [w231_0, if_pos hk, w231_4]
    · have hk : gK S 2 = 145 := hk
      rw [w231_0, if_neg (by omega), if_pos hk, w231_4x]
  show rOut q js T N u sc S dp k (Y q (d + 4) 231 0 [vr 129, vu, vu, vu, vu, vu, vu, vu, vu] [] S js) _
  rw [st]
  refine rLevel (C := fun o => YB q o (d + 4) 231 9 [vr 129, vi (gI S (4 + u)), vu, vu, vu, vu, vu, vu, vu] []) hP h.2.1 hc hbs (fun a p S' => t231 ..) (hs S t b k hz h hc base tb hbs) fun S1 ty k' t1 b1 l hp f1 h1 hI => ?_
  have hlt := hL _ _ _ _ _ _ _ hp
  have hb := h.2.2.2.2.1
  show rOut q js T N u sc S1 dp k (YB q (yret q (vi (ty : Int)) S1 js) (d + 4) 231 9 _ []) _
  rw [YB_ret, w231_12]
  exact l231 hu hT hR hP hL hs (rst_of h) 100 t1 b1 ty l k' vu vu vu vu vu S1 (by omega) (yFr_tr hz f1) h1 hI
theorem r230c (hu : u = 0 ∨ u = 1) (hT : yTo T N) (hR : yRoom T N Rm Rx s) (hP : yPok N Rm Rx s tx P) (hL : yPlt P) (hs : rSub q js S0 T N u sc Rm Rx dp (fun S => Y q (d + 3) 231 0 [vr 129, vu, vu, vu, vu, vu, vu, vu, vu] [] S js) P) : rSub q js S0 T N u sc Rm Rx dp (fun S => Y q (d + 4) 230 0 [vr 129, vu, vu, vu, vu, vu, vu, vu, vu] [] S js) (ylev T O 3 P) := by
  intro S t b k hz h hc base tb hbs
  have hk := h.2.2.2.2.2.2.2.1
  have st : Y q (d + 4) 230 0 [vr 129, vu, vu, vu, vu, vu, vu, vu, vu] [] S js = YB q (Y q (d + 3) 231 0 [vr 129, vu, vu, vu, vu, vu, vu, vu, vu] [] S js) (d + 4) 230 9 [vr 129, vi (gI S (4 + u)), vu, vu, vu, vu, vu, vu, vu] [] := by
    rcases hu with rfl | rfl
    · have hk : gK S 2 = 139 := hk
      rw [w230_0, if_pos hk, w230_4]
    · have hk : gK S 2 = 145 := hk
      rw [w230_0, if_neg (by omega), if_pos hk, w230_4x]
  show rOut q js T N u sc S dp k (Y q (d + 4) 230 0 [vr 129, vu, vu, vu, vu, vu, vu, vu, vu] [] S js) _
  rw [st]
  refine rLevel (C := fun o => YB q o (d + 4) 230 9 [vr 129, vi (gI S (4 + u)), vu, vu, vu, vu, vu, vu, vu] []) hP h.2.1 hc hbs (fun a p S' => t230 ..) (hs S t b k hz h hc base tb hbs) fun S1 ty k' t1 b1 l hp f1 h1 hI => ?_
  have hlt := hL _ _ _ _ _ _ _ hp
  have hb := h.2.2.2.2.1
  show rOut q js T N u sc S1 dp k (YB q (yret q (vi (ty : Int)) S1 js) (d + 4) 230 9 _ []) _
  rw [YB_ret, w230_12]
  exact l230 hu hT hR hP hL hs (rst_of h) 100 t1 b1 ty l k' vu vu vu vu vu S1 (by omega) (yFr_tr hz f1) h1 hI
theorem r229c (hu : u = 0 ∨ u = 1) (hT : yTo T N) (hR : yRoom T N Rm Rx s) (hP : yPok N Rm Rx s tx P) (hL : yPlt P) (hs : rSub q js S0 T N u sc Rm Rx dp (fun S => Y q (d + 3) 230 0 [vr 129, vu, vu, vu, vu, vu, vu, vu, vu] [] S js) P) : rSub q js S0 T N u sc Rm Rx dp (fun S => Y q (d + 4) 229 0 [vr 129, vu, vu, vu, vu, vu, vu, vu, vu] [] S js) (ylev T O 2 P) := by
  intro S t b k hz h hc base tb hbs
  have hk := h.2.2.2.2.2.2.2.1
  have st : Y q (d + 4) 229 0 [vr 129, vu, vu, vu, vu, vu, vu, vu, vu] [] S js = YB q (Y q (d + 3) 230 0 [vr 129, vu, vu, vu, vu, vu, vu, vu, vu] [] S js) (d + 4) 229 9 [vr 129, vi (gI S (4 + u)), vu, vu, vu, vu, vu, vu, vu] [] := by
    rcases hu with rfl | rfl
    · have hk : gK S 2 = 139 := hk
      rw [w229_0, if_pos hk, w229_4]
    · have hk : gK S 2 = 145 := hk
      rw [w229_0, if_neg (by omega), if_pos hk, w229_4x]
  show rOut q js T N u sc S dp k (Y q (d + 4) 229 0 [vr 129, vu, vu, vu, vu, vu, vu, vu, vu] [] S js) _
  rw [st]
  refine rLevel (C := fun o => YB q o (d + 4) 229 9 [vr 129, vi (gI S (4 + u)), vu, vu, vu, vu, vu, vu, vu] []) hP h.2.1 hc hbs (fun a p S' => t229 ..) (hs S t b k hz h hc base tb hbs) fun S1 ty k' t1 b1 l hp f1 h1 hI => ?_
  show rOut q js T N u sc S1 dp k (YB q (yret q (vi (ty : Int)) S1 js) (d + 4) 229 9 _ []) _
  rw [YB_ret]
  exact l229 hu hT hR hP hL hs (rst_of h) (yFr_tr hz f1) h1 hI
theorem r228c (hu : u = 0 ∨ u = 1) (hT : yTo T N) (hR : yRoom T N Rm Rx s) (hP : yPok N Rm Rx s tx P) (hL : yPlt P) (hs : rSub q js S0 T N u sc Rm Rx dp (fun S => Y q (d + 2) 229 0 [vr 129, vu, vu, vu, vu, vu, vu, vu, vu] [] S js) P) : rSub q js S0 T N u sc Rm Rx dp (fun S => Y q (d + 3) 228 0 [vr 129, vu, vu, vu, vu, vu, vu] [] S js) (ylev T O 1 P) := by
  intro S t b k hz h hc base tb hbs
  show rOut q js T N u sc S dp k (Y q (d + 3) 228 0 [vr 129, vu, vu, vu, vu, vu, vu] [] S js) _
  rw [w228_0]
  refine rLevel (C := fun o => YB q o (d + 3) 228 1 [vr 129, vu, vu, vu, vu, vu, vu] []) hP h.2.1 hc hbs (fun a p S' => t228 ..) (hs S t b k hz h hc base tb hbs) fun S1 ty k' t1 b1 l hp f1 h1 hI => ?_
  have hlt := hL _ _ _ _ _ _ _ hp
  have hb := h.2.2.2.2.1
  show rOut q js T N u sc S1 dp k (YB q (yret q (vi (ty : Int)) S1 js) (d + 3) 228 1 _ []) _
  rw [YB_ret, w228_4]
  exact l228 hu hT hR hP hL hs 100 t1 b1 ty l k' vu vu vu vu vu S1 (by omega) (yFr_tr hz f1) h1 hI
theorem r227c (hu : u = 0 ∨ u = 1) (hT : yTo T N) (hR : yRoom T N Rm Rx s) (hP : yPok N Rm Rx s tx P) (hL : yPlt P) (hs : rSub q js S0 T N u sc Rm Rx dp (fun S => Y q (d + 2) 228 0 [vr 129, vu, vu, vu, vu, vu, vu] [] S js) P) : rSub q js S0 T N u sc Rm Rx dp (fun S => Y q (d + 3) 227 0 [vr 129, vu, vu, vu, vu, vu] [] S js) (ylev T O 0 P) := by
  intro S t b k hz h hc base tb hbs
  show rOut q js T N u sc S dp k (Y q (d + 3) 227 0 [vr 129, vu, vu, vu, vu, vu] [] S js) _
  rw [w227_0]
  refine rLevel (C := fun o => YB q o (d + 3) 227 1 [vr 129, vu, vu, vu, vu, vu] []) hP h.2.1 hc hbs (fun a p S' => t227 ..) (hs S t b k hz h hc base tb hbs) fun S1 ty k' t1 b1 l hp f1 h1 hI => ?_
  have hlt := hL _ _ _ _ _ _ _ hp
  have hb := h.2.2.2.2.1
  show rOut q js T N u sc S1 dp k (YB q (yret q (vi (ty : Int)) S1 js) (d + 3) 227 1 _ []) _
  rw [YB_ret, w227_4]
  exact l227 hu hT hR hP hL hs 100 t1 b1 ty l k' vu vu vu vu S1 (by omega) (yFr_tr hz f1) h1 hI
/-- the whole expression out of a factor -/
theorem r227a (hu : u = 0 ∨ u = 1) (hT : yTo T N) (hR : yRoom T N Rm Rx s) (hP : yPok N Rm Rx s tx P) (hL : yPlt P) {E : Nat} (hE : 3 ≤ E) (hs : ∀ d, E ≤ d → rSub q js S0 T N u sc Rm Rx dp (fun S => Y q d 232 0 [vr 129, vu, vu, vu, vu, vu] [] S js) P) : ∀ d, E + 5 ≤ d → rSub q js S0 T N u sc Rm Rx dp (fun S => Y q d 227 0 [vr 129, vu, vu, vu, vu, vu] [] S js) (yfrom T O P 0) := by
  intro d hd
  obtain ⟨d', rfl⟩ : ∃ d', d = d' + 8 := ⟨d - 8, by omega⟩
  have h4 := ylev_ok (lv := 4) (O := O) hT hR hP (by omega)
  have h3 := ylev_ok (lv := 3) (O := O) hT hR h4 (by omega)
  have h2 := ylev_ok (lv := 2) (O := O) hT hR h3 (by omega)
  have h1 := ylev_ok (lv := 1) (O := O) hT hR h2 (by omega)
  have l4 : yPlt (ylev T O 4 P) := ylev_lt hL
  have l3 : yPlt (ylev T O 3 (ylev T O 4 P)) := ylev_lt l4
  have l2 : yPlt (ylev T O 2 (ylev T O 3 (ylev T O 4 P))) := ylev_lt l3
  have l1 : yPlt (ylev T O 1 (ylev T O 2 (ylev T O 3 (ylev T O 4 P)))) := ylev_lt l2
  have a4 := r231c (d := d') (O := O) hu hT hR hP hL (hs (d' + 3) (by omega))
  have a3 := r230c (d := d' + 1) (O := O) hu hT hR h4 l4 a4
  have a2 := r229c (d := d' + 2) (O := O) hu hT hR h3 l3 a3
  have a1 := r228c (d := d' + 4) (O := O) hu hT hR h2 l2 a2
  exact r227c (d := d' + 5) (O := O) hu hT hR h1 l1 a1
end YRDL
end YRD
