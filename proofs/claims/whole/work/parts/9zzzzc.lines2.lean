/-! RUN: the lines that items would take, on both sides: the loop -/
section YUD
section YUDL
variable {q : yQ} {d d' : Nat} {js ks : List xO} {S0 : yS} {t : Nat} {V : yPV} {a : Int} {n : Nat} {B C S T : yS} {e : yEnv}
theorem q295_o {y0 l0 : Int} {p bn k : Nat} {w4 w5 : yV} (hp : p < bn) (hbn : bn ≤ 4000) (hk : gA S 52 p = (k : Int)) (h : ¬ yr (k : Int) = 0 ∧ ¬ yr (k : Int) = yr 4 ∧ ¬ yr (k : Int) = yr 9 ∧ ¬ yr (k : Int) = yr 10) : Y q (d + 1) 295 5 [vr 129, vi y0, vi bn, vi l0, vi p, w4, w5] [] S js = Y q (d + 1) 295 5 [vr 129, vi y0, vi bn, vi l0, vi ((p + 1 : Nat) : Int), vi (k : Int), vi ((p + 1 : Nat) : Int)] [] S js := by
  have ep : yr (p : Int) = p := yr_eq (by omega) (by omega)
  have eb : yr (bn : Int) = bn := yr_eq (by omega) (by omega)
  have kk : 0 ≤ (p : Int) ∧ (p : Int) < 4000 := by omega
  have e1 : (p : Int) + 1 = ((p + 1 : Nat) : Int) := by omega
  rw [w295_5, ep, eb, if_pos (show (p : Int) < bn by omega), if_pos kk, Int.toNat_natCast, hk, if_neg h.1, if_neg h.2.1, if_neg h.2.2.1, if_neg h.2.2.2, e1]
theorem q295_i {y0 l0 : Int} {p bn k : Nat} {w4 w5 : yV} (hp : p < bn) (hbn : bn ≤ 4000) (hk : gA S 52 p = (k : Int)) (h : k = 9 ∨ k = 10) : Y q (d + 1) 295 5 [vr 129, vi y0, vi bn, vi l0, vi p, w4, w5] [] S js = YB q (Y q d 296 0 [vr 129, vi p] [] S js) (d + 1) 295 82 [vr 129, vi y0, vi bn, vi l0, vi p, vi (k : Int), vi ((p + 1 : Nat) : Int)] [] := by
  have ep : yr (p : Int) = p := yr_eq (by omega) (by omega)
  have eb : yr (bn : Int) = bn := yr_eq (by omega) (by omega)
  have kk : 0 ≤ (p : Int) ∧ (p : Int) < 4000 := by omega
  have e1 : (p : Int) + 1 = ((p + 1 : Nat) : Int) := by omega
  rcases h with rfl | rfl
  · rw [w295_5, ep, eb, if_pos (show (p : Int) < bn by omega), if_pos kk, Int.toNat_natCast, hk, if_neg (show ¬ yr ((9 : Nat) : Int) = 0 by decide), if_neg (show ¬ yr ((9 : Nat) : Int) = yr 4 by decide), if_pos (show yr ((9 : Nat) : Int) = yr 9 from rfl), e1]
  · rw [w295_5, ep, eb, if_pos (show (p : Int) < bn by omega), if_pos kk, Int.toNat_natCast, hk, if_neg (show ¬ yr ((10 : Nat) : Int) = 0 by decide), if_neg (show ¬ yr ((10 : Nat) : Int) = yr 4 by decide), if_neg (show ¬ yr ((10 : Nat) : Int) = yr 9 by decide), if_pos (show yr ((10 : Nat) : Int) = yr 10 from rfl), e1]
theorem q296_g {p : Nat} (hp : p < 4000) (hk : gA S 52 p = ((10 : Nat) : Int)) : Y q (d + 1) 296 0 [vr 129, vi p] [] S js = yret q (vi (gA S 53 p)) S js := by
  have ep : yr (p : Int) = p := yr_eq (by omega) (by omega)
  have kk : 0 ≤ (p : Int) ∧ (p : Int) < 4000 := by omega
  rw [w296_0, ep, if_pos kk, Int.toNat_natCast, hk, if_pos (show yr ((10 : Nat) : Int) = yr 10 from rfl), if_pos kk]
theorem yLi_tr {S1 : yS} {c0 l0 l1 y0 bn : Int} {b D' : Nat} {cl rf : Option xRes} (hf : yFr yWm S S1) (h : yLi q js ks V n B C e S1 (c0 + l1) (l0 + l1) b D' y0 bn cl rf) : yLi q js ks V n B C e S c0 l0 b D' y0 bn cl rf := by
  rcases h with ⟨S', T', l, w4, w5, h1, h2, h3, h4⟩ | h
  · refine Or.inl ⟨S', T', l1 + l, w4, w5, h1, yFr_tr hf h2, ?_, ?_⟩
    · rw [h3, Int.add_assoc]
    · rw [h4, Int.add_assoc]
  · exact Or.inr h
theorem ylinl (hx : yCx S0 t V a n B C) {sub : Nat → Nat → Nat → Nat → Prop} (hs : ∀ i j a b, sub i j a b → i ≤ j ∧ a ≤ b) {j b bn dp : Nat} (hj : j ≤ 2000) (hb : b ≤ bn) (hbn : bn ≤ 4000) (hdp : dp ≤ 12) (Hs : yLs0 q js ks V n B C (d + 3) (d' + 6) (dp + 1) sub) {x0 y0 : Int} : ∀ (f i a0 m : Nat) (c0 l0 : Int) (S T : yS) (z6 z7 z8 w4 w5 : yV), yIl (yIw (zI V) (zP V) (sGd (sG0 S0) V) true sub) f i j a0 b → m + f = 2000 → yRl V n B C e S T → yLi q js ks V n B C e S c0 l0 b (d' + 6) y0 bn (Y q (d + 4) 122 9 [vr 125, vi x0, vi j, vi dp, vi c0, vi i, vi m, z6, z7, z8] [] S js) (Y q (d' + 6) 295 5 [vr 129, vi y0, vi bn, vi l0, vi a0, w4, w5] [] T ks) := by
  have fin : ∀ (m : Nat) (c0 l0 : Int) (S T : yS) (z6 z7 z8 w4 w5 : yV), yRl V n B C e S T → yLi q js ks V n B C e S c0 l0 b (d' + 6) y0 bn (Y q (d + 4) 122 9 [vr 125, vi x0, vi j, vi dp, vi c0, vi j, vi m, z6, z7, z8] [] S js) (Y q (d' + 6) 295 5 [vr 129, vi y0, vi bn, vi l0, vi b, w4, w5] [] T ks) := by
    intro m c0 l0 S T z6 z7 z8 w4 w5 h
    refine Or.inl ⟨S, T, 0, w4, w5, h, yFr_rf _ _, ?_, ?_⟩
    · rw [k122_to, Int.add_zero]
    · rw [Int.add_zero]
  intro f
  induction f with
  | zero =>
    intro i a0 m c0 l0 S T z6 z7 z8 w4 w5 hl _ h
    obtain ⟨rfl, rfl⟩ := hl
    exact fin m c0 l0 S T z6 z7 z8 w4 w5 h
  | succ f ih =>
    intro i a0 m c0 l0 S T z6 z7 z8 w4 w5 hl hm h
    rcases hl with ⟨rfl, rfl⟩ | ⟨en, a1, l1, l2, l3⟩
    · exact fin m c0 l0 S T z6 z7 z8 w4 w5 h
    · have h34 : gI S 34 = 0 := h.1.2.1
      have le1 := yIl_le (fun i e a a' h => (yIw_le hs i e a a' h).2) f en j a1 b l3
      have le2 := yIw_le hs _ _ _ _ l2
      obtain ⟨u, v, u1, u2, u3, u4, u5⟩ := l2
      obtain ⟨⟨i1, i2, i3⟩, j1, j2, j3, j4⟩ := cit (iPq_cw hx.1.2.1 h.1.1.1.1) u1
      obtain ⟨v1, v2, v3, v4, _⟩ := rit (iPq_rw hx.1.2.2 h.1.1.1.2) hx.1.1 u2
      have m1 : (m : Int) + 1 = ((m + 1 : Nat) : Int) := by omega
      have i11 : (i : Int) + 1 = ((i + 1 : Nat) : Int) := by omega
      have d11 : (dp : Int) + 1 = ((dp + 1 : Nat) : Int) := by omega
      have ea : yr (a0 : Int) = a0 := yr_eq (by omega) (by omega)
      have eb : yr (bn : Int) = bn := yr_eq (by omega) (by omega)
      have ka : 0 ≤ (a0 : Int) ∧ (a0 : Int) < 4000 := by omega
      have nx : ∀ (l1 : Int) (S1 T1 : yS) (x7 x8 x9 w4 w5 : yV), yFr yWm S S1 → yRl V n B C e S1 T1 → yLi q js ks V n B C e S c0 l0 b (d' + 6) y0 bn (Y q (d + 4) 122 9 [vr 125, vi x0, vi j, vi dp, vi (c0 + l1), vi en, vi ((m + 1 : Nat) : Int), x7, x8, x9] [] S1 js) (Y q (d' + 6) 295 5 [vr 129, vi y0, vi bn, vi (l0 + l1), vi a1, w4, w5] [] T1 ks) := fun l1 S1 T1 x7 x8 x9 w4 w5 hf hr => yLi_tr hf (ih en a1 (m + 1) (c0 + l1) (l0 + l1) S1 T1 x7 x8 x9 w4 w5 l3 (by omega) hr)
      rcases u5 with ⟨k1, k2, k3, k4, k5, k6, k7⟩ | ⟨k1, k2, k3, k4, k5, k6, k7⟩ | ⟨k1, k2, k3, k4, k5, k6, k7⟩ | ⟨k1, k2, k6, k7⟩ | ⟨k1, k2, z, k3, k4, k5, k6⟩ | ⟨k1, k2, k3, k4, g, z, k5, k6, k7, k8, k9, k10⟩
      · have c := k122_it (q := q) (d := d + 3) (js := js) (x0 := x0) (x3 := c0) (m := m) (dp := dp) (x6 := z6) (x7 := z7) (x8 := z8) (to := j) (kd := 22) h34 (by omega) hdp (show i < j by omega) hj (by rw [j1, k1]) (by decide) (by decide)
        rw [if_pos (show yswv 22 = 18 by decide), j4, u3, m1] at c
        have r : Y q (d' + 6) 295 5 [vr 129, vi y0, vi bn, vi l0, vi a0, w4, w5] [] T ks = Y q (d' + 6) 295 5 [vr 129, vi y0, vi bn, vi (l0 + 1), vi a1, vi ((0 : Nat) : Int), vi a1] [] T ks := by
          rw [w295_5, ea, eb, if_pos (show (a0 : Int) < bn by omega), if_pos ka, Int.toNat_natCast, v2, k2, if_pos (show yr ((0 : Nat) : Int) = 0 from rfl), if_pos ka, v3, k3]
        rw [c, r]
        exact nx 1 S T _ _ _ _ _ (yFr_rf _ _) h
      · have c := k122_it (q := q) (d := d + 3) (js := js) (x0 := x0) (x3 := c0) (m := m) (dp := dp) (x6 := z6) (x7 := z7) (x8 := z8) (to := j) (kd := 24) h34 (by omega) hdp (show i < j by omega) hj (by rw [j1, k1]) (by decide) (by decide)
        rw [if_neg (show ¬ yswv 24 = 18 by decide), if_pos (show yswv 24 = 19 by decide), j4, u3, m1, j2] at c
        have a11 : (a0 : Int) + 1 = (a1 : Int) := by omega
        have r : Y q (d' + 6) 295 5 [vr 129, vi y0, vi bn, vi l0, vi a0, w4, w5] [] T ks = Y q (d' + 6) 295 5 [vr 129, vi y0, vi bn, vi (l0 + (u.2.1 : Nat)), vi a1, vi ((4 : Nat) : Int), vi a1] [] T ks := by
          rw [w295_5, ea, eb, if_pos (show (a0 : Int) < bn by omega), if_pos ka, Int.toNat_natCast, v2, k2, if_neg (show ¬ yr ((4 : Nat) : Int) = 0 by decide), if_pos (show yr ((4 : Nat) : Int) = yr 4 from rfl), if_pos ka, v3, k3, a11]
        rw [c, r]
        exact nx (u.2.1 : Nat) S T _ _ _ _ _ (yFr_rf _ _) h
      · have c := k122_it (q := q) (d := d + 3) (js := js) (x0 := x0) (x3 := c0) (m := m) (dp := dp) (x6 := z6) (x7 := z7) (x8 := z8) (to := j) (kd := 25) h34 (by omega) hdp (show i < j by omega) hj (by rw [j1, k1]) (by decide) (by decide)
        rw [if_neg (show ¬ yswv 25 = 18 by decide), if_neg (show ¬ yswv 25 = 19 by decide), if_pos (show yswv 25 = 20 by decide), j4, u3, m1] at c
        have r := q295_o (q := q) (d := d' + 5) (js := ks) (y0 := y0) (l0 := l0) (w4 := w4) (w5 := w5) (bn := bn) (k := 5) (show a0 < bn by omega) hbn (by rw [v2, k2]) (by decide)
        rw [c, r, ← k7]
        have := nx 0 S T (vi en) (vi (gA S 27 i)) z8 (vi ((5 : Nat) : Int)) (vi a1) (yFr_rf _ _) h
        rw [Int.add_zero, Int.add_zero] at this
        exact this
      · have c := k122_it (q := q) (d := d + 3) (js := js) (x0 := x0) (x3 := c0) (m := m) (dp := dp) (x6 := z6) (x7 := z7) (x8 := z8) (to := j) (kd := 26) h34 (by omega) hdp (show i < j by omega) hj (by rw [j1, k1]) (by decide) (by decide)
        rw [if_neg (show ¬ yswv 26 = 18 by decide), if_neg (show ¬ yswv 26 = 19 by decide), if_neg (show ¬ yswv 26 = 20 by decide), if_neg (show ¬ yswv 26 = 21 by decide), if_neg (show ¬ yswv 26 = 22 by decide), j4, u3, m1] at c
        have r := q295_o (q := q) (d := d' + 5) (js := ks) (y0 := y0) (l0 := l0) (w4 := w4) (w5 := w5) (bn := bn) (k := 6) (show a0 < bn by omega) hbn (by rw [v2, k2]) (by decide)
        rw [c, r, ← k7]
        have := nx 0 S T (vi en) (vi (gA S 27 i)) z8 (vi ((6 : Nat) : Int)) (vi a1) (yFr_rf _ _) h
        rw [Int.add_zero, Int.add_zero] at this
        exact this
      · have sl := hs _ _ _ _ k6
        have c := k122_it (q := q) (d := d + 3) (js := js) (x0 := x0) (x3 := c0) (m := m) (dp := dp) (x6 := z6) (x7 := z7) (x8 := z8) (to := j) (kd := 27) h34 (by omega) hdp (show i < j by omega) hj (by rw [j1, k1]) (by decide) (by decide)
        rw [if_neg (show ¬ yswv 27 = 18 by decide), if_neg (show ¬ yswv 27 = 19 by decide), if_neg (show ¬ yswv 27 = 20 by decide), if_pos (show yswv 27 = 21 by decide), j4, u3, i11, d11] at c
        have r := q295_o (q := q) (d := d' + 5) (js := ks) (y0 := y0) (l0 := l0) (w4 := w4) (w5 := w5) (bn := bn) (k := 7) (show a0 < bn by omega) hbn (by rw [v2, k2]) (by decide)
        rw [c, r]
        rcases Hs _ _ _ _ k6 (by omega) e S T y0 l0 bn (vi ((7 : Nat) : Int)) (vi ((a0 + 1 : Nat) : Int)) (by omega) hbn h with ⟨S1, T1, l, w4', w5', r1, r2, r3, r4⟩ | ⟨S1, T1, l, r1, r3, r4⟩
        · obtain ⟨y1, y2, _⟩ := rit (iPq_rw hx.1.2.2 r1.1.1.1.2) hx.1.1 k3
          have r' := q295_o (q := q) (d := d' + 5) (js := ks) (y0 := y0) (l0 := l0 + l) (w4 := w4') (w5 := w5') (bn := bn) (k := 8) (show v.2.1 < bn by omega) hbn (by rw [y2, k4]) (by decide)
          rw [r3, r4, r', ← k5, YB_ret, w122_143, Int.zero_add, m1]
          exact nx l S1 T1 _ _ _ _ _ r2 r1
        · refine Or.inr ⟨S1, T1, c0 + l, r1, ?_, r4⟩
          have h34' : ¬ yr (gI S1 34) = 0 := by rw [r1.2.1]; decide
          rw [r3, YB_ret, w122_143, k122_x h34']
      · have sl1 := hs _ _ _ _ k9
        have sl2 := hs _ _ _ _ k10
        have c := k122_it (q := q) (d := d + 3) (js := js) (x0 := x0) (x3 := c0) (m := m) (dp := dp) (x6 := z6) (x7 := z7) (x8 := z8) (to := j) (kd := 28) h34 (by omega) hdp (show i < j by omega) hj (by rw [j1, k1]) (by decide) (by decide)
        rw [if_neg (show ¬ yswv 28 = 18 by decide), if_neg (show ¬ yswv 28 = 19 by decide), if_neg (show ¬ yswv 28 = 20 by decide), if_neg (show ¬ yswv 28 = 21 by decide), if_pos (show yswv 28 = 22 by decide), j4, u3, j2] at c
        have r := q295_i (q := q) (d := d' + 5) (js := ks) (y0 := y0) (l0 := l0) (w4 := w4) (w5 := w5) (bn := bn) (k := 9) (show a0 < bn by omega) hbn (by rw [v2, k2]) (Or.inl rfl)
        rw [c, r]
        rcases yhol (q := q) (d := d) (d' := d') (js := js) (ks := ks) hx h u1 u2 k2 k3 k4 with ⟨S1, T1, bb, r1, r2, r3, r4⟩ | ⟨S1, T1, r1, r3, r4⟩
        · cases bb with
          | true =>
            have n1 : ¬ yr (yb1 true) = 0 := by decide
            rw [if_pos rfl] at r4
            rw [r3, r4, YB_ret, w122_155, if_neg n1, if_neg n1, YB_ret, w295_85, i11, d11]
            rcases Hs _ _ _ _ k9 (by omega) e S1 T1 y0 l0 bn (vi ((9 : Nat) : Int)) (vi ((a0 + 1 : Nat) : Int)) (by omega) hbn r1 with ⟨S2, T2, l, w4', w5', q1, q2, q3, q4⟩ | ⟨S2, T2, l, q1, q3, q4⟩
            · obtain ⟨y1, y2, y3, _⟩ := rit (iPq_rw hx.1.2.2 q1.1.1.1.2) hx.1.1 k5
              have r' := q295_i (q := q) (d := d' + 5) (js := ks) (y0 := y0) (l0 := l0 + l) (w4 := w4') (w5 := w5') (bn := bn) (k := 10) (show g < bn by omega) hbn (by rw [y2, k6]) (Or.inr rfl)
              have r'' := q296_g (q := q) (d := d' + 4) (js := ks) y1 (by rw [y2, k6])
              rw [q3, q4, r', r'', YB_ret, YB_ret, w295_85, w122_192, Int.zero_add, m1, y3, k7]
              exact nx l S2 T2 _ _ _ _ _ (yFr_tr r2 q2) q1
            · refine Or.inr ⟨S2, T2, c0 + l, q1, ?_, q4⟩
              have h34' : ¬ yr (gI S2 34) = 0 := by rw [q1.2.1]; decide
              rw [q3, YB_ret, w122_192, k122_x h34']
          | false =>
            have n0 : yr (yb1 false) = 0 := by decide
            rw [if_neg (fun v => Bool.noConfusion v), k8] at r4
            rw [r3, r4, YB_ret, w122_155, if_pos n0, if_pos n0, YB_ret, w295_85, d11]
            rcases Hs _ _ _ _ k10 (by omega) e S1 T1 y0 l0 bn (vi ((9 : Nat) : Int)) (vi ((g + 1 : Nat) : Int)) (by omega) hbn r1 with ⟨S2, T2, l, w4', w5', q1, q2, q3, q4⟩ | ⟨S2, T2, l, q1, q3, q4⟩
            · rw [q3, q4, YB_ret, w122_192, Int.zero_add, m1]
              exact nx l S2 T2 _ _ _ _ _ (yFr_tr r2 q2) q1
            · refine Or.inr ⟨S2, T2, c0 + l, q1, ?_, q4⟩
              have h34' : ¬ yr (gI S2 34) = 0 := by rw [q1.2.1]; decide
              rw [q3, YB_ret, w122_192, k122_x h34']
        · have h34' : ¬ yr (gI S1 34) = 0 := by rw [r1.2.1]; decide
          have hin : ∀ z1 z2 : Int, Y q (d + 3) 122 0 [vr 125, vi z1, vi z2, vi ((dp + 1 : Nat) : Int), vu, vu, vu, vu, vu, vu] [] S1 js = yret q (vi 0) S1 js := fun z1 z2 => by
            rw [w122_0, k122_x h34']
          refine Or.inr ⟨S1, T1, c0 + 0, r1, ?_, ?_⟩
          · rw [r3, YB_ret, w122_155, if_pos yr_0, if_pos yr_0, d11, hin, YB_ret, w122_192, k122_x h34']
          · rw [r4, t295]
theorem ylins (hx : yCx S0 t V a n B C) : ∀ (rd d dp : Nat), dp + rd = 12 → yLs0 q js ks V n B C (d + rd + 4) (d' + 6) dp (yIts (zI V) (zP V) (sGd (sG0 S0) V) true rd)
  | 0, d, dp, hdp => by
    intro i j a0 b hl hj e S T y0 l0 bn w4 w5 hb hbn h
    have := ylinl (q := q) (d := d) (d' := d') (js := js) (ks := ks) (e := e) (x0 := (i : Int)) (y0 := y0) hx (sub := fun _ _ _ _ => False) (fun _ _ _ _ h => h.elim) hj hb hbn (show dp ≤ 12 by omega) (fun _ _ _ _ h => h.elim) 2000 i a0 0 0 l0 S T vu vu vu w4 w5 hl (by omega) h
    rw [w122_0]
    exact this
  | rd + 1, d, dp, hdp => by
    intro i j a0 b hl hj e S T y0 l0 bn w4 w5 hb hbn h
    have H := ylins hx rd d (dp + 1) (by omega)
    have := ylinl (q := q) (d := d + rd + 1) (d' := d') (js := js) (ks := ks) (e := e) (x0 := (i : Int)) (y0 := y0) hx (yIts_le rd) hj hb hbn (show dp ≤ 12 by omega) H 2000 i a0 0 0 l0 S T vu vu vu w4 w5 hl (by omega) h
    rw [w122_0]
    exact this
end YUDL
end YUD
