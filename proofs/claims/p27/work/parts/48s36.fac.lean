/-! taken from whole by wip/p27/slice2.py: 78.fac.lean.txt -/
section YFA
def yfnc (T : yTk) (O : yOp) (P : Nat → Nat → Nat → Nat → yPr) (dp base tb t b : Nat) : yPr := if b = 0 then .inl (T t).2.1 else if (T (t + 1)).1 ≠ 46 ∨ 12 ≤ dp ∨ b - 1 = 0 then .inl (T (t + 1)).2.1 else match yargs T P 100 base tb (t + 2) (b - 1 - 1) (.inr ([], [], [], fun _ => some [])) with
  | .inl p => .inl p
  | .inr (t1, b1, a) => yclo T t1 b1 (yfun O (T t).1 (T t).2.1 a)
theorem yarity_1 (kd : Nat) : 1 ≤ yarity kd := by
  unfold yarity
  split
  · omega
  · split <;> omega
theorem yk5 : ∀ kd : Nat, kd < 67 → yKr kd = 5 → kd ≤ 64 ∧ 0 ≤ yKn kd ∧ yKn kd < 30 ∧ yKn kd = (yop kd : Nat) := by decide
section YFAL
variable {q : yQ} {d : Nat} {js : List xO} {S0 S : yS} {T : yTk} {N u : Nat} {w : Int} {Rm : Nat → Nat → Nat} {Rx : Nat → Nat} {s : Nat} {tx : Nat → Nat → List Int} {O : yOp} {P : Nat → Nat → Nat → Nat → yPr}
theorem c61 {kd : Nat} (h : kd < 67) : Y q d 61 0 [vr kd] [] S js = yret q (vi (yarity kd : Nat)) S js := by
  have p1 : kd < 67 ∧ 39 < 67 := ⟨h, by omega⟩
  have p2 : kd < 67 ∧ 8 < 67 := ⟨h, by omega⟩
  have p3 : kd < 67 ∧ 9 < 67 := ⟨h, by omega⟩
  rw [w61_0, if_pos p1, if_pos p2, if_pos p3]
  unfold yarity
  by_cases z1 : kd = 39
  · rw [if_pos z1, if_pos z1]
    rfl
  · rw [if_neg z1, if_neg z1]
    by_cases z2 : kd = 8
    · rw [if_pos z2, if_pos (Or.inl z2)]
      rfl
    · rw [if_neg z2]
      by_cases z3 : kd = 9
      · rw [if_pos z3, if_pos (Or.inr z3)]
        rfl
      · rw [if_neg z3, if_neg (by omega)]
        rfl
def ytkf (kd : Nat) : Nat := if kd = 37 ∨ kd = 38 ∨ kd = 39 then 1 else 0
theorem v60_48 {x0 x2 : Int} {x1 : Nat} (h : x1 < 67) : Y q d 60 48 [vr 122, vi x0, vr x1, vi x2, vu, vu, vu, vu, vu] [vi 1] S js = Y q d 60 90 [vr 122, vi x0, vr x1, vi x2, vi (ytkf x1 : Nat), vi (1 : Nat), vi (0 : Nat), vi 1, vu] [] S js := by
  have e1 : yr 1 = 1 := rfl
  have p1 : x1 < 67 ∧ 37 < 67 := ⟨h, by omega⟩
  have p2 : x1 < 67 ∧ 38 < 67 := ⟨h, by omega⟩
  have p3 : x1 < 67 ∧ 39 < 67 := ⟨h, by omega⟩
  have n1 : ¬ (1 : Int) = 0 := by decide
  rw [w60_48, e1, if_neg n1, if_pos p1, if_pos p2, if_pos p3]
  unfold ytkf
  by_cases z1 : x1 = 37
  · rw [if_pos z1, if_pos (Or.inl z1)]
    rfl
  · rw [if_neg z1]
    by_cases z2 : x1 = 38
    · rw [if_pos z2, if_pos (Or.inr (Or.inl z2))]
      rfl
    · rw [if_neg z2]
      by_cases z3 : x1 = 39
      · rw [if_pos z3, if_pos (Or.inr (Or.inr z3))]
        rfl
      · rw [if_neg z3, if_neg (by omega)]
        rfl
theorem v60_48z {x0 x2 : Int} {x1 : Nat} : Y q d 60 48 [vr 122, vi x0, vr x1, vi x2, vu, vu, vu, vu, vu] [vi 0] S js = yret q (vi 0) S js := by
  have e0 : yr 0 = 0 := rfl
  rw [w60_48, e0, if_pos rfl]
theorem v60_230 {x0 x2 : Int} {x1 : Nat} {x3 x4 x5 x6 x8 : Int} {x7 : yV} (h : x1 < 67) : Y q d 60 230 [vr 122, vi x0, vr x1, vi x2, vi x3, vi x4, vi x5, vi x6, x7] [vi x8] S js = yret q (vi ((if ymakes x1 = true then 1 else 0 : Nat) : Int)) S js := by
  have e1 : yr 1 = 1 := rfl
  have e0 : yr 0 = 0 := rfl
  have n1 : ¬ (1 : Int) = 0 := by omega
  have p1 : x1 < 67 ∧ 38 < 67 := ⟨h, by omega⟩
  have p2 : x1 < 67 ∧ 39 < 67 := ⟨h, by omega⟩
  have p3 : x1 < 67 ∧ 40 < 67 := ⟨h, by omega⟩
  have p4 : x1 < 67 ∧ 41 < 67 := ⟨h, by omega⟩
  rw [w60_230, if_pos p1, if_pos p2, if_pos p3, if_pos p4, e1, e0]
  simp only [if_neg n1, if_true]
  unfold ymakes
  by_cases z : x1 = 38 ∨ x1 = 39 ∨ x1 = 40 ∨ x1 = 41
  · rw [decide_eq_true z, if_pos rfl]
    rcases z with rfl | rfl | rfl | rfl <;> rfl
  · rw [decide_eq_false z, if_neg (show ¬ x1 = 38 by omega), if_neg (show ¬ x1 = 39 by omega), if_neg (show ¬ x1 = 40 by omega), if_neg (show ¬ x1 = 41 by omega)]
    rfl
/-- what is said of the number and the kinds of arguments, in a mode -/
def yfnm (m : yMo) (g : Bool) (pl : Nat) : yMo := if g then m else ywr m 3 pl
theorem l60f {m : yMo} {x0 : Int} {kd pl y3 y4 y5 y6 : Nat} {y7 : yV} (hu : u = 0 ∨ u = 1) (hk : kd < 67) (hkr : yKr kd = 5) (h : cM T N u w S m) (h4 : y4 = 0 ∨ y4 = 1) (h5 : y5 ≤ 101) : ∃ S' : yS, Y q (d + 1) 60 195 [vr 122, vi x0, vr kd, vi pl, vi y3, vi y4, vi y5, vi y6, y7] [] S js = yret q (vi ((if ymakes kd = true then 1 else 0 : Nat) : Int)) S' js ∧ yFr (yWx u) S S' ∧ cM T N u w S' (yadm u (yfnm m (decide (y4 = 1 ∧ y5 = yarity kd)) pl) (yop kd) 0) := by
  obtain ⟨o1, o2, o3, o4⟩ := yk5 kd hk hkr
  have fin : ∀ (m1 : yMo) (S1 : yS), cM T N u w S1 m1 → ∃ S' : yS, Y q (d + 1) 60 218 [vr 122, vi x0, vr kd, vi pl, vi y3, vi y4, vi y5, vi y6, y7] [] S1 js = yret q (vi ((if ymakes kd = true then 1 else 0 : Nat) : Int)) S' js ∧ yFr (yWx u) S1 S' ∧ cM T N u w S' (yadm u m1 (yop kd) 0) := by
    intro m1 S1 h1
    obtain ⟨S2, r2, a1, a2, a3, a4, a5⟩ := madd (q := q) (d := d) (js := js) hu h1 (yop kd) 0
    have a1 : Y q d 20 0 [vr (cu u), vi (yop kd : Nat), vj 0, vu, vu] [] S1 js = yret q (vi r2) S2 js := a1
    refine ⟨S2, ?_, a2, a4⟩
    rw [v60_218 hu h1.2.2.1, if_pos hk, o4, a1, YB_ret, v60_230 hk]
  have e4 : yr (y4 : Int) = y4 := yr_eq (by omega) (by omega)
  have e5 : yr (y5 : Int) = y5 := yr_eq (by omega) (by omega)
  have ea : yr (yarity kd : Nat) = yarity kd := by
    have : yarity kd ≤ 3 := by
      unfold yarity
      split
      · omega
      · split <;> omega
    exact yr_eq (by omega) (by omega)
  have bad : ¬ (y4 = 1 ∧ y5 = yarity kd) → ∃ S' : yS, YB q (Y q d 153 0 [vr 86, vi 3, vi pl] [] S js) (d + 1) 60 215 [vr 122, vi x0, vr kd, vi pl, vi y3, vi y4, vi y5, vi y6, y7] [] = yret q (vi ((if ymakes kd = true then 1 else 0 : Nat) : Int)) S' js ∧ yFr (yWx u) S S' ∧ cM T N u w S' (yadm u (yfnm m (decide (y4 = 1 ∧ y5 = yarity kd)) pl) (yop kd) 0) := by
    intro z
    obtain ⟨S1, a1, a2, a3⟩ := mwrong (q := q) (d := d) (js := js) (n := 3) (p := pl) hu h (by omega)
    have a1 : Y q d 153 0 [vr 86, vi 3, vi pl] [] S js = yretv q S1 js := a1
    obtain ⟨S2, c1, c2, c3⟩ := fin _ S1 a3
    refine ⟨S2, ?_, yFr_tr (yWk_x a2) c2, ?_⟩
    · rw [a1, YB_retv, c1]
    · unfold yfnm
      rw [decide_eq_false z]
      exact c3
  rw [w60_195, e4]
  by_cases z4 : y4 = 0
  · rw [if_pos (by omega)]
    exact bad (by omega)
  · rw [if_neg (by omega), c61 hk, YB_ret, w60_206, e5, ea]
    by_cases z5 : y5 = yarity kd
    · rw [if_pos (by omega)]
      obtain ⟨S2, c1, c2, c3⟩ := fin m S h
      refine ⟨S2, ?_, c2, ?_⟩
      · rw [w60_218] at c1
        exact c1
      · unfold yfnm
        rw [decide_eq_true ⟨by omega, z5⟩]
        exact c3
    · rw [if_neg (by omega)]
      exact bad (by omega)
theorem yfun_r {kd pl : Nat} {ts : List Bool} {seg : List (Nat × Int64)} {txs : List (Nat × Nat)} {f : yEnv → Option (List yVal)} : yfun O kd pl (.inr (ts, seg, txs, f)) = if ts = ytakes kd :: List.replicate (yarity kd - 1) false then .inr (ymakes kd, none, seg ++ [(yop kd, 0)], txs, fun e => match f e with
    | some l => O (yop kd) l
    | none => none) else .inl (3, pl) := rfl
theorem ytkf_i (kd : Nat) : ytakes kd = true ↔ ytkf kd = 1 := by
  unfold ytakes ytkf
  rw [decide_eq_true_eq]
  split
  · rename_i h
    exact ⟨fun _ => rfl, fun _ => h⟩
  · rename_i h
    exact ⟨fun z => (h z).elim, fun z => by omega⟩
theorem m60 {base tb t b dp : Nat} {k : yK9} (hu : u = 0 ∨ u = 1) (hT : yTo T N) (hR : yRoom T N Rm Rx s) (hP : yPok N Rm Rx s tx P) (hdp : dp ≤ 12) (h66 : ∀ base tb t b, (T t).1 = 66 → P base tb t b = .inl (T t).2.1) (h : cM T N u w S (.inr (t, b, k))) (hz : yFr (yWx u) S0 S) (hkr : yKr (T t).1 = 5) (hb : ybs u Rm Rx base tb t b k) (hs : dp < 12 → cSub q js S0 T N u w Rm Rx tx (fun S => Y q (d + 1) 52 0 [vr 122, vi 0, vi ((dp : Int) + 1), vu, vu, vu] [] S js) P) : ∃ (S' : yS) (r : Nat), Y q (d + 2) 60 0 [vr 122, vi dp, vu, vu, vu, vu, vu, vu, vu] [] S js = yret q (vi r) S' js ∧ yFr (yWx u) S S' ∧ r ≤ 2 ∧ cM T N u w S' (ymode k tx (yfnc T O P dp base tb t b)) ∧ ∀ L X, k = .inr (L, X) → ∀ t' b' x, yfnc T O P dp base tb t b = .inr (t', b', .inr x) → r = yty x := by
  obtain ⟨k1, k2, k3⟩ := cM_kd h
  have h67 := (hT.2.2.2.2 t k3).2
  obtain ⟨o1, o2, o3, o4⟩ := yk5 _ h67 hkr
  have ht := yTo_t hT k3 o1
  obtain ⟨S1, a1, a2, a3⟩ := mnext (q := q) (d := d + 1) (js := js) hu hT h (fun t' b' k' e => by
    injection e with e
    injection e with e _
    rw [← e]
    exact o1)
  have st : Y q (d + 2) 60 0 [vr 122, vi dp, vu, vu, vu, vu, vu, vu, vu] [] S js = Y q (d + 2) 60 23 [vr 122, vi dp, vr (T t).1, vi ((T t).2.1 : Nat), vu, vu, vu, vu, vu] [] S1 js := by
    rw [w60_0, a1, YB_retv, k1, k2]
  -- where it does not open
  have dead : ∀ (p : Nat) (S2 : yS), cM T N u w S2 (.inl p) → yFr (yWx u) S S2 → Y q (d + 2) 60 23 [vr 122, vi dp, vr (T t).1, vi ((T t).2.1 : Nat), vu, vu, vu, vu, vu] [] S1 js = Y q (d + 2) 60 43 [vr 122, vi dp, vr (T t).1, vi ((T t).2.1 : Nat), vu, vu, vu, vu, vu] [] S2 js → yfnc T O P dp base tb t b = .inl p → ∃ (S' : yS) (r : Nat), Y q (d + 2) 60 0 [vr 122, vi dp, vu, vu, vu, vu, vu, vu, vu] [] S js = yret q (vi r) S' js ∧ yFr (yWx u) S S' ∧ r ≤ 2 ∧ cM T N u w S' (ymode k tx (yfnc T O P dp base tb t b)) ∧ ∀ L X, k = .inr (L, X) → ∀ t' b' x, yfnc T O P dp base tb t b = .inr (t', b', .inr x) → r = yty x := by
    intro p S2 h2 f2 e2 ef
    obtain ⟨S3, c1, c2, c3⟩ := mopend (q := q) (d := d) (js := js) (dp := dp) hu h2 (by omega)
    rw [ef]
    refine ⟨S3, 0, ?_, yFr_tr f2 (yWk_x c2), by omega, c3, fun L X hk t' b' x hx => nomatch hx⟩
    rw [st, e2, w60_43, c1, YB_ret, v60_48z]
    rfl
  by_cases zb : b = 0
  · subst zb
    have a3 : cM T N u w S1 (.inl (T t).2.1) := a3
    obtain ⟨S2, c1, c2, c3, c4⟩ := mrefuse (q := q) (d := d + 1) (js := js) hu a3
    have c3 : cM T N u w S2 (.inl (T t).2.1) := c3
    have k66 : gK S1 0 = 66 := a3.2.2.2.2.1
    refine dead (T t).2.1 S2 c3 (yFr_tr (yWk_x a2) (yWk_x c2)) ?_ (by unfold yfnc; rw [if_pos rfl])
    rw [w60_23, if_pos ⟨by omega, by omega⟩, if_neg (by omega), c1, YB_retv]
  · rw [ysn T _ zb] at a3
    obtain ⟨n1, n2, n3⟩ := cM_kd a3
    have n67 := (hT.2.2.2.2 (t + 1) n3).2
    by_cases z46 : (T (t + 1)).1 = 46
    · have ht1 := yTo_t hT n3 (by omega)
      have hb1 := ybs_n hR ht o1 zb hb
      obtain ⟨S2, r0, c1, c2, c3, c4⟩ := mopen (q := q) (d := d) (js := js) (dp := dp) hu hT a3 (by omega) (by omega)
      have st2 : Y q (d + 2) 60 0 [vr 122, vi dp, vu, vu, vu, vu, vu, vu, vu] [] S js = Y q (d + 2) 60 48 [vr 122, vi dp, vr (T t).1, vi ((T t).2.1 : Nat), vu, vu, vu, vu, vu] [vi r0] S2 js := by
        rw [st, w60_23, n1, if_pos ⟨n67, by omega⟩, if_pos z46, c1, YB_ret]
      by_cases z : 12 ≤ dp ∨ b - 1 = 0
      · obtain ⟨d1, d2⟩ := c3 z
        have ef : yfnc T O P dp base tb t b = .inl (T (t + 1)).2.1 := by unfold yfnc; rw [if_neg zb, if_pos (Or.inr z)]
        rw [ef]
        refine ⟨S2, 0, ?_, yFr_tr (yWk_x a2) (yWk_x c2), by omega, d2, fun L X hk t' b' x hx => nomatch hx⟩
        rw [st2, d1, v60_48z]
        rfl
      · obtain ⟨d1, d2⟩ := c4 (by omega)
        have hb2 := ybs_n hR ht1 (by omega) (by omega) hb1
        have ef : yfnc T O P dp base tb t b = match yargs T P 100 base tb (t + 2) (b - 1 - 1) (.inr ([], [], [], fun _ => some [])) with
          | .inl p => .inl p
          | .inr (t1, b1, a) => yclo T t1 b1 (yfun O (T t).1 (T t).2.1 a) := by
          unfold yfnc
          rw [if_neg zb, if_neg (by omega)]
        rw [ef]
        by_cases y : (T (t + 2)).1 = 66
        · have ep : yargs T P 100 base tb (t + 2) (b - 1 - 1) (.inr ([], [], [], fun _ => some [])) = .inl (T (t + 2)).2.1 := by
            show (match P (base + 0) (tb + 0) (t + 2) (b - 1 - 1) with
              | .inl p => _
              | .inr (t1, b1, m) => _) = _
            rw [h66 _ _ _ _ y]
          rw [ep]
          refine ⟨S2, 0, ?_, yFr_tr (yWk_x a2) (yWk_x c2), by omega, cM_66 d1 y, fun L X hk t' b' x hx => nomatch hx⟩
          rw [st2, d2, yb_f (fun n => n y), v60_48z]
          rfl
        · have hI : yalp u Rm Rx tx (ytakes (T t).1) base tb k (.inr ([], [], [], fun _ => some [])) (t + 2) (b - 1 - 1) 1 0 := by
            intro L X hk
            obtain ⟨i1, i2, i3, i4⟩ := hb2 L X hk
            refine ⟨i1, i2, fun ts seg txs f e => ?_⟩
            injection e with e
            injection e with e1 e
            injection e with e2 e
            injection e with e3 e
            subst e1
            subst e2
            subst e3
            rw [ysl_all] at i4
            exact ⟨i3, i4, rfl, ⟨fun _ i x hx => (nomatch hx), fun _ => rfl⟩⟩
          have hA : ykA k tx (.inr ([], [], [], fun _ => some [])) = k := by
            match k with
            | .inl e => rfl
            | .inr (L, X) =>
              show (Sum.inr (L ++ [], X ++ []) : yK9) = _
              rw [List.append_nil, List.append_nil]
          have h3 : ytkf (T t).1 = 0 ∨ ytkf (T t).1 = 1 := by
            unfold ytkf
            split
            · exact Or.inr rfl
            · exact Or.inl rfl
          obtain ⟨S3, y4, y5, y6, y7, f1, f2, f3, f4, f5, f6⟩ := l60 (q := q) (d := d + 1) (js := js) (x0 := (dp : Int)) (x2 := ((T t).2.1 : Nat)) (x1 := (T t).1) (x3 := ytkf (T t).1) (base := base) (tb := tb) (k := k) hu hT hR hP h3 (ytkf_i _) (hs (by omega)) 100 0 (t + 2) (b - 1 - 1) 1 (.inr ([], [], [], fun _ => some [])) vu S2 rfl hI (by rw [hA]; exact d1) (yFr_tr hz (yFr_tr (yWk_x a2) (yWk_x c2))) (Or.inr rfl)
          obtain ⟨S4, g1, g2, g3⟩ := mclose (q := q) (d := d) (js := js) hu hT f3
          obtain ⟨S5, e1, e2, e3⟩ := l60f (q := q) (d := d + 1) (js := js) (x0 := (dp : Int)) (kd := (T t).1) (pl := (T t).2.1) (y3 := ytkf (T t).1) (y4 := y4) (y5 := y5) (y6 := y6) (y7 := y7) hu h67 hkr g3 f5 f4
          refine ⟨S5, if ymakes (T t).1 = true then 1 else 0, ?_, yFr_tr (yWk_x a2) (yFr_tr (yWk_x c2) (yFr_tr f2 (yFr_tr (yWk_x g2) e2))), by split <;> omega, ?_, ?_⟩
          · rw [st2, d2, yb_t y, v60_48 h67]
            have f1 : Y q (d + 1 + 1) 60 90 [vr 122, vi dp, vr (T t).1, vi ((T t).2.1 : Nat), vi (ytkf (T t).1 : Nat), vi (1 : Nat), vi (0 : Nat), vi 1, vu] [] S2 js = _ := f1
            rw [f1, g1, YB_retv, e1]
          · match hy : yargs T P 100 base tb (t + 2) (b - 1 - 1) (.inr ([], [], [], fun _ => some [])) with
            | .inl p =>
              rw [hy] at e3
              have e3 : cM T N u w S5 (yadm u (yfnm (.inl p) (decide (y4 = 1 ∧ y5 = yarity (T t).1)) (T t).2.1) (yop (T t).1) 0) := e3
              unfold yfnm at e3
              split at e3 <;> exact e3
            | .inr (t1, b1, a) =>
              rw [hy] at e3
              obtain ⟨l1, l2⟩ := f6 t1 b1 a hy
              have e3 : cM T N u w S5 (yadm u (yfnm (if (T t1).1 = 47 ∧ 0 < b1 then .inr (t1 + 1, b1 - 1, ykA k tx a) else .inl (T t1).2.1) (decide (y4 = 1 ∧ y5 = yarity (T t).1)) (T t).2.1) (yop (T t).1) 0) := e3
              show cM T N u w S5 (ymode k tx (yclo T t1 b1 (yfun O (T t).1 (T t).2.1 a)))
              unfold yclo
              by_cases z47 : (T t1).1 = 47
              · rw [if_pos z47]
                by_cases zb1 : b1 = 0
                · rw [if_pos zb1]
                  rw [if_neg (by omega)] at e3
                  unfold yfnm at e3
                  split at e3 <;> exact e3
                · rw [if_neg zb1]
                  rw [if_pos ⟨z47, by omega⟩] at e3
                  have ht2 := yTo_t hT l1 (by omega)
                  have R := hR.2.2 t1 b1 ht2 (by omega)
                  have R3 := (R.2.2 (by omega)).1
                  match k, a, e3, l2 with
                  | .inl e, a, e3, l2 =>
                    unfold yfnm at e3
                    split at e3 <;> exact e3
                  | .inr (L, X), .inl e, e3, l2 =>
                    unfold yfnm at e3
                    split at e3 <;> exact e3
                  | .inr (L, X), .inr (ts, seg, txs, f), e3, l2 =>
                    obtain ⟨i1, i2, i3⟩ := l2 L X rfl
                    obtain ⟨i3, i4, i5, i6⟩ := i3 ts seg txs f rfl
                    show cM T N u w S5 (.inr (t1 + 1, b1 - 1, ykm (.inr (L, X)) tx (yfun O (T t).1 (T t).2.1 (.inr (ts, seg, txs, f)))))
                    have hg : (ts = ytakes (T t).1 :: List.replicate (yarity (T t).1 - 1) false) ↔ (y4 = 1 ∧ y5 = yarity (T t).1) := by
                      rw [yfits_e (yarity_1 _), ← i6, i5]
                    rw [yfun_r]
                    unfold yfnm at e3
                    by_cases zg : y4 = 1 ∧ y5 = yarity (T t).1
                    · rw [if_pos (hg.mpr zg)]
                      rw [decide_eq_true zg] at e3
                      have e3 : cM T N u w S5 (yadm u (.inr (t1 + 1, b1 - 1, .inr (L ++ seg, X ++ yTexts tx txs))) (yop (T t).1) 0) := e3
                      rw [yadm_in (by rw [List.length_append]; omega), List.append_assoc] at e3
                      exact e3
                    · rw [if_neg (fun v => zg (hg.mp v))]
                      rw [decide_eq_false zg] at e3
                      exact e3
              · rw [if_neg z47]
                rw [if_neg (fun v => z47 v.1)] at e3
                unfold yfnm at e3
                split at e3 <;> exact e3
          · intro L X hk t' b' x hx
            match hy : yargs T P 100 base tb (t + 2) (b - 1 - 1) (.inr ([], [], [], fun _ => some [])) with
            | .inl p =>
              rw [hy] at hx
              nomatch hx
            | .inr (t1, b1, a) =>
              rw [hy] at hx
              have hx := yclo_x hx
              match a, hx with
              | .inr (ts, seg, txs, f), hx =>
                rw [yfun_r] at hx
                split at hx
                · injection hx with hx
                  subst hx
                  unfold yty
                  by_cases zm : ymakes (T t).1 = true
                  · rw [if_pos zm]
                  · rw [if_neg zm]
                · nomatch hx
    · obtain ⟨S2, c1, c2, c3, c4⟩ := mrefuse (q := q) (d := d + 1) (js := js) hu a3
      have c3 : cM T N u w S2 (.inl (T (t + 1)).2.1) := c3
      refine dead (T (t + 1)).2.1 S2 c3 (yFr_tr (yWk_x a2) (yWk_x c2)) ?_ (by unfold yfnc; rw [if_neg zb, if_pos (Or.inl z46)])
      rw [w60_23, n1, if_pos ⟨n67, by omega⟩, if_neg z46, c1, YB_retv]
end YFAL
end YFA
