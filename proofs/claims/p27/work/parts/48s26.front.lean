/-! taken from whole by wip/p27/slice2.py: 68.front.lean.txt -/
section YFN
section YFNL
variable {q : yQ} {d : Nat} {js : List xO} {S0 S : yS} {T : yTk} {N u : Nat} {w : Int} {Rm : Nat → Nat → Nat} {Rx : Nat → Nat} {s : Nat} {tx : Nat → Nat → List Int} {O : yOp} {P : Nat → Nat → Nat → Nat → yPr}
theorem v55_25a {x0 x1 x2 x3 : Int} (hu : u = 0 ∨ u = 1) (hk : gK S 1 = cu u) (h : yr x3 = 2) : Y q (d + 1) 55 25 [vr 122, vi x0, vi x1, vi x2, vu, vu, vu] [vi x3] S js = YB q (Y q d 22 0 [vr (cu u), vi 1] [] S js) (d + 1) 55 38 [vr 122, vi x0, vi x1, vi x2, vi x3, vu, vu] [] := by
  have e2 : yr 2 = 2 := rfl
  rw [w55_25, h, e2, if_pos rfl]
  rcases hu with rfl | rfl
  · have hk : gK S 1 = 107 := hk
    rw [if_pos hk, w55_37]
    rfl
  · have hk : gK S 1 = 117 := hk
    rw [if_neg (by omega), if_pos hk, w55_37x]
    rfl
theorem v55_25b {x0 x1 x2 x3 : Int} (hu : u = 0 ∨ u = 1) (hk : gK S 1 = cu u) (h : ¬ yr x3 = 2) : Y q (d + 1) 55 25 [vr 122, vi x0, vi x1, vi x2, vu, vu, vu] [vi x3] S js = YB q (Y q d 20 0 [vr (cu u), vi x0, vj 0, vu, vu] [] S js) (d + 1) 55 67 [vr 122, vi x0, vi x1, vi x2, vi x3, vu, vu] [] := by
  have e2 : yr 2 = 2 := rfl
  rw [w55_25, e2, if_neg h]
  rcases hu with rfl | rfl
  · have hk : gK S 1 = 107 := hk
    rw [if_pos hk, w55_65]
    rfl
  · have hk : gK S 1 = 117 := hk
    rw [if_neg (by omega), if_pos hk, w55_65x]
    rfl
theorem v55_41 {x0 x1 x2 x3 : Int} {x4 : Int64} (hu : u = 0 ∨ u = 1) (hk : gK S 1 = cu u) : Y q (d + 1) 55 41 [vr 122, vi x0, vi x1, vi x2, vi x3, vu, vu] [vj x4] S js = YB q (Y q d 69 0 [vi x0, vj x4, vu, vj x4, vu] [] S js) (d + 1) 55 53 [vr 122, vi x0, vi x1, vi x2, vi x3, vj x4, vu] [vi 1, vr (cu u)] := by
  rcases hu with rfl | rfl
  · have hk : gK S 1 = 107 := hk
    rw [w55_41, if_pos hk, w55_47]
    rfl
  · have hk : gK S 1 = 117 := hk
    rw [w55_41, if_neg (by omega), if_pos hk, w55_47x]
    rfl
theorem v55_56 {x0 x1 x2 x3 x6 : Int} {x4 x5 : Int64} (hu : u = 0 ∨ u = 1) : Y q (d + 1) 55 56 [vr 122, vi x0, vi x1, vi x2, vi x3, vj x4, vu] [vj x5, vi x6, vr (cu u)] S js = YB q (Y q d 23 0 [vr (cu u), vi x6, vj x5, vu] [] S js) (d + 1) 55 56 [vr 122, vi x0, vi x1, vi x2, vi x3, vj x4, vu] [] := by
  rcases hu with rfl | rfl
  · exact w55_56 ..
  · exact w55_56x ..
theorem yfront_r {op pl : Nat} {x : yX} : yfront O op pl (.inr x) = if x.1 = true then .inl (3, pl) else match x.2.1 with
    | some v => .inr (ycn (ycal op v v))
    | none => .inr (false, none, x.2.2.1 ++ [(op, 0)], x.2.2.2.1, yd1 O op x.2.2.2.2) := rfl
/-- an operator in front, with so much depth -/
def yfrn (T : yTk) (O : yOp) (P : Nat → Nat → Nat → Nat → yPr) (op dp base tb t b : Nat) : yPr := if 12 ≤ dp ∨ b = 0 then .inl (T t).2.1 else match P base tb (t + 1) (b - 1) with
  | .inl p => .inl p
  | .inr (t1, b1, m) => .inr (t1, b1, yfront O op (T t).2.1 m)
theorem m55 {base tb t b dp op : Nat} {k : yK9} (hu : u = 0 ∨ u = 1) (hT : yTo T N) (hR : yRoom T N Rm Rx s) (hP : yPok N Rm Rx s tx P) (hdp : dp ≤ 12) (hop : op = 18 ∨ op = 19) (h66 : ∀ base tb t b, (T t).1 = 66 → P base tb t b = .inl (T t).2.1) (h : cM T N u w S (.inr (t, b, k))) (hz : yFr (yWx u) S0 S) (h64 : (T t).1 ≤ 64) (hb : ybs u Rm Rx base tb t b k) (hs : dp < 12 → cSub q js S0 T N u w Rm Rx tx (fun S => Y q (d + 1) 53 0 [vr 122, vi ((dp : Int) + 1), vu, vu, vu] [] S js) P) : ∃ (S' : yS) (r : Nat), Y q (d + 2) 55 0 [vr 122, vi op, vi dp, vu, vu, vu, vu] [] S js = yret q (vi r) S' js ∧ yFr (yWx u) S S' ∧ r ≤ 2 ∧ cM T N u w S' (ymode k tx (yfrn T O P op dp base tb t b)) ∧ ∀ L X, k = .inr (L, X) → ∀ t' b' x, yfrn T O P op dp base tb t b = .inr (t', b', .inr x) → r = yty x := by
  obtain ⟨k1, k2, k3⟩ := cM_kd h
  obtain ⟨S1, r0, a1, a2, a3, a4⟩ := mopen (q := q) (d := d) (js := js) (dp := dp) hu hT h h64 (by omega)
  have ht := yTo_t hT k3 h64
  unfold yfrn
  by_cases z : 12 ≤ dp ∨ b = 0
  · obtain ⟨b1, b2⟩ := a3 z
    rw [if_pos z]
    refine ⟨S1, 0, ?_, yWk_x a2, by omega, b2, fun L X hk t' b' x hx => nomatch hx⟩
    rw [w55_0, a1, YB_ret, b1, w55_13]
    exact if_pos rfl
  · obtain ⟨b1, b2⟩ := a4 (by omega)
    rw [if_neg z]
    by_cases y : (T (t + 1)).1 = 66
    · rw [h66 _ _ _ _ y]
      refine ⟨S1, 0, ?_, yWk_x a2, by omega, cM_66 b1 y, fun L X hk t' b' x hx => nomatch hx⟩
      rw [w55_0, a1, YB_ret, b2, yb_f (fun n => n y), w55_13]
      exact if_pos rfl
    · have hb1 := ybs_n hR ht h64 (by omega) hb
      obtain ⟨S2, r2, m2, c1, c2, c3, c4⟩ := hs (by omega) S1 _ (yFr_tr hz (yWk_x a2)) b1 (fun t' b' k' e => by
        injection e with e
        injection e with e1 e
        injection e with e2 e3
        subst e1
        subst e2
        subst e3
        exact ⟨base, tb, hb1⟩)
      have c1 : Y q (d + 1) 53 0 [vr 122, vi ((dp : Int) + 1), vu, vu, vu] [] S1 js = yret q (vi r2) S2 js := c1
      obtain ⟨g1, g2⟩ := c4.2.2 _ _ _ rfl base tb hb1
      have q2 := c4.1
      have er : yr (r2 : Int) = r2 := yr_eq (by omega) (by omega)
      have head : Y q (d + 2) 55 0 [vr 122, vi op, vi dp, vu, vu, vu, vu] [] S js = Y q (d + 2) 55 25 [vr 122, vi op, vi dp, vi ((T t).2.1 : Nat), vu, vu, vu] [vi r2] S2 js := by
        rw [w55_0, a1, YB_ret, b2, yb_t y, w55_13]
        refine (if_neg (by decide)).trans ?_
        rw [c1, YB_ret, k2]
      by_cases y2 : r2 = 2
      · obtain ⟨v, d1, d2⟩ := mback (q := q) (d := d + 1) (js := js) (k := 1) hu c3 (by omega)
        have d1 : Y q (d + 1) 22 0 [vr (cu u), vi 1] [] S2 js = yret q (vj v) S2 js := d1
        obtain ⟨S3, f1, f2, f3⟩ := mrep (q := q) (d := d + 1) (js := js) (k := 1) (v := ycal op v v) hu c3 (by omega)
        have f1 : Y q (d + 1) 23 0 [vr (cu u), vi 1, vj (ycal op v v), vu] [] S2 js = yretv q S3 js := f1
        refine ⟨S3, 2, ?_, yFr_tr (yWk_x a2) (yFr_tr c2 f2), by omega, ?_, ?_⟩
        · rw [head, v55_25a hu c3.2.2.1 (by omega), d1, YB_ret, v55_41 hu c3.2.2.1, c69 (by omega), YB_ret, v55_56 hu, f1, YB_retv, w55_59]
          rfl
        · rw [g1] at f3 d2
          match hp : P base tb (t + 1) (b - 1) with
          | .inl p => rw [hp] at f3; exact f3
          | .inr (t1, b1', m) =>
            rw [hp] at f3 d2
            match k, m, hp, g2, f3, d2 with
            | .inl e, m, hp, g2, f3, d2 => exact f3
            | .inr (L, X), .inl e, hp, g2, f3, d2 => exact f3
            | .inr (L, X), .inr x, hp, g2, f3, d2 =>
              obtain ⟨p1, p2, p3, p4, p5⟩ := hP _ _ _ _ _ _ _ ht hp
              obtain ⟨p5, p6, p7⟩ := p5 x rfl
              have hx2 : yty x = 2 := by rw [← g2 L X rfl t1 b1' x hp]; exact y2
              obtain ⟨a, ha⟩ := (yty_2 p5).mp hx2
              obtain ⟨w1, w2, w3⟩ := p5 a ha
              have hv : v = a := d2 t1 b1' L [] 0 a (X ++ yTexts tx x.2.2.2.1) (by
                show (Sum.inr (t1, b1', Sum.inr (L ++ x.2.2.1, X ++ yTexts tx x.2.2.2.1)) : yMo) = _
                rw [w2]) rfl
              have ef : yfront O op (T t).2.1 (.inr x) = .inr (ycn (ycal op a a)) := by
                rw [yfront_r, ha, w1]
                rfl
              have f3 : cM T N u w S3 (.inr (t1, b1', .inr (ylast 1 (ycal op v v) (L ++ x.2.2.1), X ++ yTexts tx x.2.2.2.1))) := f3
              show cM T N u w S3 (.inr (t1, b1', ykm (.inr (L, X)) tx (yfront O op (T t).2.1 (.inr x))))
              rw [ef]
              rw [w2, w3, hv] at f3
              have hl : ylast 1 (ycal op a a) (L ++ [(0, a)]) = L ++ [(0, ycal op a a)] := ylast_at (B := [(0, a)])
              rw [hl] at f3
              exact f3
        · intro L X hk t' b' x hx
          match hp : P base tb (t + 1) (b - 1) with
          | .inl p =>
            rw [hp] at hx
            nomatch hx
          | .inr (t1, b1', .inl e) =>
            rw [hp] at hx
            nomatch (yinr (m := yfront O op (T t).2.1 (.inl e)) hx).2.2
          | .inr (t1, b1', .inr x0) =>
            rw [hp] at hx
            have hx := (yinr (m := yfront O op (T t).2.1 (.inr x0)) hx).2.2
            obtain ⟨p1, p2, p3, p4, p5⟩ := hP _ _ _ _ _ _ _ ht hp
            obtain ⟨p5, p6, p7⟩ := p5 x0 rfl
            have hx2 : yty x0 = 2 := by rw [← g2 L X hk t1 b1' x0 hp]; exact y2
            obtain ⟨a, ha⟩ := (yty_2 p5).mp hx2
            obtain ⟨w1, w2, w3⟩ := p5 a ha
            have ef : yfront O op (T t).2.1 (.inr x0) = .inr (ycn (ycal op a a)) := by
              rw [yfront_r, ha, w1]
              rfl
            rw [ef] at hx
            injection hx with hx
            subst hx
            rfl
      · obtain ⟨S3, r3, f1, f2, f3, f4, f5⟩ := madd (q := q) (d := d + 1) (js := js) hu c3 op 0
        obtain ⟨S4, e1, e2, e3⟩ := mwant (q := q) (d := d) (js := js) (x := r2) (y := 0) (p := (T t).2.1) hu f4 q2 (by omega)
        have e1 : Y q (d + 1) 57 0 [vr 122, vi r2, vi 0, vi ((T t).2.1 : Nat)] [] S3 js = yret q (vi 0) S4 js := e1
        have keep : ∀ L X, k = .inr (L, X) → ∀ t1 b1' x, P base tb (t + 1) (b - 1) = .inr (t1, b1', .inr x) → (r2 = 1 ↔ x.1 = true) ∧ x.2.1 = none := by
          intro L X hk t1 b1' x hp
          obtain ⟨p1, p2, p3, p4, p5⟩ := hP _ _ _ _ _ _ _ ht hp
          obtain ⟨p5, p6, p7⟩ := p5 x rfl
          have hg := g2 L X hk t1 b1' x hp
          refine ⟨by rw [hg]; exact yty_i, ?_⟩
          match hc : x.2.1 with
          | none => rfl
          | some a => exact (y2 (by rw [hg]; exact (yty_2 p5).mpr ⟨a, hc⟩)).elim
        refine ⟨S4, 0, ?_, yFr_tr (yWk_x a2) (yFr_tr c2 (yFr_tr f2 (yWk_x e2))), by omega, ?_, ?_⟩
        · rw [head, v55_25b hu c3.2.2.1 (by omega), f1, YB_ret, w55_70, e1, YB_ret, w55_79]
          rfl
        · rw [g1] at e3
          match hp : P base tb (t + 1) (b - 1) with
          | .inl p =>
            rw [hp] at e3
            have e3 : cM T N u w S4 (ywn (.inl p) r2 0 (T t).2.1) := e3
            rw [ywn_dead] at e3
            exact e3
          | .inr (t1, b1', m) =>
            rw [hp] at e3
            match k, m, hp, hb1, keep, e3 with
            | .inl e, m, hp, hb1, keep, e3 =>
              have e3 : cM T N u w S4 (ywn (.inr (t1, b1', .inl e)) r2 0 (T t).2.1) := e3
              rw [ywn_err] at e3
              exact e3
            | .inr (L, X), .inl e, hp, hb1, keep, e3 =>
              have e3 : cM T N u w S4 (ywn (.inr (t1, b1', .inl e)) r2 0 (T t).2.1) := e3
              rw [ywn_err] at e3
              exact e3
            | .inr (L, X), .inr x, hp, hb1, keep, e3 =>
              obtain ⟨p1, p2, p3, p4, p5⟩ := hP _ _ _ _ _ _ _ ht hp
              obtain ⟨p5, p6, p7⟩ := p5 x rfl
              obtain ⟨n1, n2⟩ := keep L X rfl t1 b1' x hp
              obtain ⟨hb2, hb3, hb4, hb5⟩ := hb1 L X rfl
              have hs1 := hR.1
              have z1 : ((L ++ x.2.2.1 : yCo).length : Int) < capu u := by rw [List.length_append]; omega
              have e3 : cM T N u w S4 (ywn (yadm u (.inr (t1, b1', .inr (L ++ x.2.2.1, X ++ yTexts tx x.2.2.2.1))) op 0) r2 0 (T t).2.1) := e3
              rw [yadm_in z1] at e3
              unfold ywn at e3
              show cM T N u w S4 (.inr (t1, b1', ykm (.inr (L, X)) tx (yfront O op (T t).2.1 (.inr x))))
              unfold yfront
              by_cases zx : x.1 = true
              · rw [if_pos (Or.inl (n1.mpr zx))] at e3
                show cM T N u w S4 (.inr (t1, b1', ykm (.inr (L, X)) tx (if x.1 = true then _ else _)))
                rw [if_pos zx]
                exact e3
              · rw [if_neg (by rintro (v | v); exact zx (n1.mp v); omega)] at e3
                show cM T N u w S4 (.inr (t1, b1', ykm (.inr (L, X)) tx (if x.1 = true then _ else _)))
                rw [if_neg zx, n2]
                rw [List.append_assoc] at e3
                exact e3
        · intro L X hk t' b' x hx
          match hp : P base tb (t + 1) (b - 1) with
          | .inl p =>
            rw [hp] at hx
            nomatch hx
          | .inr (t1, b1', .inl e) =>
            rw [hp] at hx
            nomatch (yinr (m := yfront O op (T t).2.1 (.inl e)) hx).2.2
          | .inr (t1, b1', .inr x0) =>
            rw [hp] at hx
            have hx := (yinr (m := yfront O op (T t).2.1 (.inr x0)) hx).2.2
            obtain ⟨n1, n2⟩ := keep L X hk t1 b1' x0 hp
            unfold yfront at hx
            by_cases zx : x0.1 = true
            · have hx : (if x0.1 = true then (.inl (3, (T t).2.1) : yMn) else _) = .inr x := hx
              rw [if_pos zx] at hx
              nomatch hx
            · have hx : (if x0.1 = true then (.inl (3, (T t).2.1) : yMn) else (match x0.2.1 with
                | some v => .inr (ycn (ycal op v v))
                | none => .inr (false, none, x0.2.2.1 ++ [(op, 0)], x0.2.2.2.1, yd1 O op x0.2.2.2.2))) = .inr x := hx
              rw [if_neg zx, n2] at hx
              injection hx with hx
              subst hx
              rfl
end YFNL
end YFN
