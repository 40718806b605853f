/-! THE LAW's LOOPS OVER LINES AND PAGES -/
section YLP
def lFr (n h x P : Nat) (all dg sm : Int64) (en gs tk : Int) (gr : Int64) (page : Int) (x12 x13 x14 x15 x16 : yV) : List yV := [vr 79, vr 81, vi n, vj all, vu, vi h, vr x, vj dg, vu, vi P, vj sm, vu, vi en, vi gs, vi tk, vj gr, vu, vi page, x12, x13, x14, x15, vu, x16, vu]
section YLPL
variable {q : yQ} {d : Nat} {js : List xO} {S : yS} {h n P : Nat} {f : Nat → Int64} {o : Nat → Nat} {M : zSt} {V G : Nat → Int} {A : Int} {x : Nat} {dg : Int64}
theorem lLine (hh : 5 ≤ h ∧ h ≤ 10) (hn : n ≤ 23) (hw : wRw n f o V G) (hr : wR h n P f o P n M S) (hP : P = wPn (h - 1) M.1) (hg : zGd (h - 1) V G A M.1.length M.1) (hk : (zw (h - 1) M.1 M.1.length).1 = n) (hA : -2300 ≤ A ∧ A ≤ 2300) {p0 l0 : Nat} (hp : p0 < P) (hl : l0 < h - 1) {j : Nat} (hj : j = p0 * (h - 1) + l0) (w : zW) (hwj : w = zw (h - 1) M.1 j) (x14 x15 x16 : yV) : ∃ x14' x15' x16' : yV, Y q (d + 4) 0 285 (lFr n h x P (yi2l A) dg (yi2l w.2.2.1) (w.2.2.2.2.1 : Int) (w.2.2.2.1 : Int) (w.1 : Int) (yi2l w.2.1) ((p0 + 1 : Nat) : Int) (vi ((zH (h - 1) j w : Nat) : Int)) (vi ((l0 + 2 : Nat) : Int)) x14 x15 x16) [] S js = Y q (d + 4) 0 285 (lFr n h x P (yi2l A) dg (yi2l (zStep (h - 1) j M.1[j]? w).2.2.1) ((zStep (h - 1) j M.1[j]? w).2.2.2.2.1 : Int) ((zStep (h - 1) j M.1[j]? w).2.2.2.1 : Int) ((zStep (h - 1) j M.1[j]? w).1 : Int) (yi2l (zStep (h - 1) j M.1[j]? w).2.1) ((p0 + 1 : Nat) : Int) (vi ((zStep (h - 1) j M.1[j]? w).2.2.2.2.2 : Nat)) (vi ((l0 + 3 : Nat) : Int)) x14' x15' x16') [] S js := by
  obtain ⟨ho, hG, hV, hVb⟩ := hw
  obtain ⟨hb, ⟨g35, g36, g38, g32, g33⟩, _, hO, hpap, hP30, hl1, hl2⟩ := id hr
  have e61 : yr 61 = 61 := rfl
  have e43 : yr 43 = 43 := rfl
  have e32 : yr 32 = 32 := rfl
  have eh := yrn (n := h) (by omega)
  have el := yrn (n := l0 + 2) (by omega)
  have el3 : ((l0 + 2 : Nat) : Int) + 1 = ((l0 + 3 : Nat) : Int) := by omega
  have hpp : 1 ≤ p0 + 1 ∧ p0 + 1 ≤ P := by omega
  have hll : 1 ≤ l0 + 2 ∧ l0 + 2 ≤ h := by omega
  obtain ⟨B0, hB0⟩ : ∃ B0, B0 = wBy S h (p0 + 1) (l0 + 2) 1 := ⟨_, rfl⟩
  obtain ⟨B4, hB4⟩ : ∃ B4, B4 = wBy S h (p0 + 1) (l0 + 2) 5 := ⟨_, rfl⟩
  have k1 : Y q (d + 3) 178 0 [vr 81, vi ((p0 + 1 : Nat) : Int), vi ((l0 + 2 : Nat) : Int), vi 1] [] S js = yret q (vi B0) S js := by
    rw [hB0]
    exact cByte (d := d + 1) (c := 1) hh hr hpp hll (by omega)
  have k5 : Y q (d + 3) 178 0 [vr 81, vi ((p0 + 1 : Nat) : Int), vi ((l0 + 2 : Nat) : Int), vi 5] [] S js = yret q (vi B4) S js := by
    rw [hB4]
    exact cByte (d := d + 1) (c := 5) hh hr hpp hll (by omega)
  have by' : ∀ t, t < 24 → wBy S h (p0 + 1) (l0 + 2) (t + 1) = wBd M.1 j t := fun t ht => by
    rw [hj]
    exact wBy_body hr hp hl ht
  have b0 : B0 = wBd M.1 j 0 := by rw [hB0]; exact by' 0 (by omega)
  have b4 : B4 = wBd M.1 j 4 := by rw [hB4]; exact by' 4 (by omega)
  have bd := zw_bd hg hVb j
  rw [← hwj] at bd
  have tk := zw_le (h - 1) M.1 j
  rw [← hwj, hk] at tk
  have start : ∀ x14 x15 x16 : yV, Y q (d + 4) 0 285 (lFr n h x P (yi2l A) dg (yi2l w.2.2.1) (w.2.2.2.2.1 : Int) (w.2.2.2.1 : Int) (w.1 : Int) (yi2l w.2.1) ((p0 + 1 : Nat) : Int) (vi ((zH (h - 1) j w : Nat) : Int)) (vi ((l0 + 2 : Nat) : Int)) x14 x15 x16) [] S js = Y q (d + 4) 0 301 (lFr n h x P (yi2l A) dg (yi2l w.2.2.1) (w.2.2.2.2.1 : Int) (w.2.2.2.1 : Int) (w.1 : Int) (yi2l w.2.1) ((p0 + 1 : Nat) : Int) (vi ((zH (h - 1) j w : Nat) : Int)) (vi ((l0 + 2 : Nat) : Int)) x14 x15 x16) [vi B0] S js := fun x14 x15 x16 => by
    unfold lFr
    rw [w0b_285 (d := d + 3), eh, el, if_neg (by omega), k1, YB_ret]
  rw [start]
  cases hL : M.1[j]? with
  | none =>
    have c0 : B0 = 32 := by rw [b0]; unfold wBd; rw [hL]
    have c4 : B4 = 32 := by rw [b4]; unfold wBd; rw [hL]
    refine ⟨vi 32, x15, x16, ?_⟩
    show _ = Y q (d + 4) 0 285 (lFr n h x P (yi2l A) dg (yi2l w.2.2.1) (w.2.2.2.2.1 : Int) (w.2.2.2.1 : Int) (w.1 : Int) (yi2l w.2.1) ((p0 + 1 : Nat) : Int) (vi ((zH (h - 1) j w : Nat) : Int)) (vi ((l0 + 3 : Nat) : Int)) (vi 32) x15 x16) [] S js
    unfold lFr
    rw [w0b_301 (d := d + 3), c0, e32, e61, if_neg (by decide), e43, if_neg (by decide), k5, YB_ret, w0b_411 (d := d + 3), c4, if_pos rfl, el3]
  | some L =>
    have hz := hg j L hL
    rw [← hwj] at hz
    have lb : ∀ t, t < 24 → wBy S h (p0 + 1) (l0 + 2) (t + 1) = wLb L t := fun t ht => by
      rw [by' t ht]
      unfold wBd
      rw [hL]
    have hB0' : B0 = wLb L 0 := by rw [hB0]; exact lb 0 (by omega)
    have hB4' : B4 = wLb L 4 := by rw [hB4]; exact lb 4 (by omega)
    match L, hz, lb, hB0', hB4', hL with
    | (0, v, g, p), hz, lb, hB0', hB4', hL =>
      have hz : v = V w.1 ∧ g = G w.1 ∧ 0 ≤ p ∧ (p = (zH (h - 1) j w : Nat) + 1 ∨ p = (zH (h - 1) j w : Nat)) ∧ p ≤ (w.1 : Int) + 1 := by
        rcases hz with ⟨-, z⟩ | ⟨z, -⟩ | ⟨z, -⟩
        · exact z
        · cases z
        · cases z
      obtain ⟨z1, z2, z3, z4, z5⟩ := hz
      -- the row is one of those taken
      have hlt : w.1 < n := by
        have h1 := zw_le (h - 1) M.1 (j + 1)
        have h2 : zw (h - 1) M.1 (j + 1) = zStep (h - 1) j M.1[j]? w := by rw [hwj]; rfl
        rw [h2, hL, zStep_0, hk] at h1
        exact h1
      have vb := hVb w.1
      rw [← z1] at vb
      obtain ⟨gc, gb1, gb2⟩ := hG w.1 hlt
      rw [← z2] at gc gb1 gb2
      have vc := hV w.1 hlt
      rw [← z1] at vc
      obtain ⟨m1, m2, m3⟩ := n5 (x := v) vb
      have l5 : ∀ t, t < 5 → wLb (0, v, g, p) t = wF (wI v) 5 32 t := fun t ht => by
        show (if t < 5 then _ else _ : Int) = _
        rw [if_pos ht]
      rw [l5 0 (by omega)] at hB0'
      rw [l5 4 (by omega)] at hB4'
      have r1 : Y q (d + 3) 7 0 [vr 81, vi ((p0 + 1 : Nat) : Int), vi ((l0 + 2 : Nat) : Int), vi 1, vi 5, vu, vu, vu, vu, vu] [] S js = yret q (vj (yi2l v)) S js :=
        c7n (a := 1) (e := 5) (w := 5) hh hr hpp hll (by omega) (by omega) (by omega) m1 (fun t ht => by
          rw [show 1 + t = t + 1 by omega, lb t (by omega), l5 t ht])
      have r2 : Y q (d + 3) 7 0 [vr 81, vi ((p0 + 1 : Nat) : Int), vi ((l0 + 2 : Nat) : Int), vi 6, vi 8, vu, vu, vu, vu, vu] [] S js = yret q (vj (yi2l g)) S js :=
        c7n (a := 6) (e := 8) (w := 3) hh hr hpp hll (by omega) (by omega) (by omega) (n3 (by omega)) (fun t ht => by
          rw [show 6 + t = (5 + t) + 1 by omega, lb (5 + t) (by omega)]
          show (if 5 + t < 5 then _ else if 5 + t < 8 then wF (wI g) 3 32 (5 + t - 5) else _ : Int) = _
          rw [if_neg (by omega), if_pos (by omega), Nat.add_sub_cancel_left])
      have r3 : Y q (d + 3) 7 0 [vr 81, vi ((p0 + 1 : Nat) : Int), vi ((l0 + 2 : Nat) : Int), vi 9, vi 12, vu, vu, vu, vu, vu] [] S js = yret q (vj (yi2l p)) S js :=
        c7n (a := 9) (e := 12) (w := 4) hh hr hpp hll (by omega) (by omega) (by omega) (n4 (by omega)) (fun t ht => by
          rw [show 9 + t = (8 + t) + 1 by omega, lb (8 + t) (by omega)]
          show (if 8 + t < 5 then _ else if 8 + t < 8 then _ else if 8 + t < 12 then wF (wI p) 4 32 (8 + t - 8) else _ : Int) = _
          rw [if_neg (by omega), if_neg (by omega), if_pos (by omega), Nat.add_sub_cancel_left])
      have t1 : Y q (d + 3) 180 0 [vr 81, vi (w.1 : Int)] [] S js = yret q (vi ((o w.1 : Nat) : Int)) S js := by
        rw [c180 (by omega) (by rw [g32]; omega), g32, if_pos (by omega), Int.toNat_natCast, hO _ hlt]
      have ow := ho w.1 hlt
      have c10 := hb.1.i10
      have c11 := hb.1.i11
      have en2 : nrow (gI S 10) (gI S 11) = (n : Int) := by
        unfold nrow
        rw [c10, c11, if_neg (by decide)]
        omega
      have u1 : Y q (d + 3) 171 0 [vr 81, vi ((o w.1 : Nat) : Int), vi 1] [] S js = yret q (vj (yi2l v)) S js := by
        rw [c171 (d := d + 2) (by omega) (by omega) (by rw [c10]; omega) (by rw [c10, c11]; omega), en2, if_pos (by rw [c10]; omega), hb.1.b7, c10, ← vc]
        congr 3
        omega
      have u0 : Y q (d + 3) 171 0 [vr 81, vi ((o w.1 : Nat) : Int), vi 0] [] S js = yret q (vj (yi2l g)) S js := by
        rw [c171 (d := d + 2) (by omega) (by omega) (by rw [c10]; omega) (by rw [c10, c11]; omega), en2, if_pos (by rw [c10]; omega), hb.1.b7, c10, ← gc]
        congr 3
        omega
      have hzH : zH (h - 1) j w ≤ 1000 := by omega
      refine ⟨vi B0, vj (yi2l v), vj (yi2l p), ?_⟩
      rw [zStep_0]
      show _ = Y q (d + 4) 0 285 (lFr n h x P (yi2l A) dg (yi2l w.2.2.1) (w.2.2.2.2.1 : Int) (w.2.2.2.1 : Int) ((w.1 + 1 : Nat) : Int) (yi2l (w.2.1 + v)) ((p0 + 1 : Nat) : Int) (vi ((zH (h - 1) j w + 1 : Nat) : Int)) (vi ((l0 + 3 : Nat) : Int)) (vi B0) (vj (yi2l v)) (vj (yi2l p))) [] S js
      have e1 : ((w.1 + 1 : Nat) : Int) = (w.1 : Int) + 1 := by omega
      have e2 : ((zH (h - 1) j w + 1 : Nat) : Int) = (zH (h - 1) j w : Int) + 1 := by omega
      rw [e1, e2, ← yi2l_add (x := w.2.1) (y := v) (by omega) (by omega)]
      have s0 : yr B0 = 32 := by rw [hB0']; exact m2
      have s4 : ¬ yr B4 = 32 := by rw [hB4']; exact m3
      have q1 : ¬ 0 < yr (ylcmp (yi2l p) (yi2l ((zH (h - 1) j w : Int) + 1))) := by
        rw [ylc_gt (by omega) (by omega)]
        omega
      have q2 : ¬ yr (ylcmp (yi2l p) 0) < 0 := by
        rw [yi2l_0, ylc_lt (by omega) (by omega)]
        omega
      have q3 : ¬ yr (ylcmp (yi2l p) (yi2l ((zH (h - 1) j w : Int) + 1 - 1))) < 0 := by
        rw [ylc_lt (by omega) (by omega)]
        omega
      have same : ∀ a : Int64, yr (ylcmp a a) = 0 := fun a => by
        rw [yr_lcmp, ylcmp_eq]
      unfold lFr
      rw [w0b_301 (d := d + 3), s0, e61, if_neg (by decide), e43, if_neg (by decide), k5, YB_ret, w0b_411 (d := d + 3), e32, if_neg s4, r1, YB_ret, w0b_426 (d := d + 3), t1, YB_ret, w0b_435 (d := d + 3), u1, YB_ret, w0b_439 (d := d + 3), if_pos (same _), t1, YB_ret, w0b_452 (d := d + 3), u0, YB_ret, w0b_456 (d := d + 3), r2, YB_ret, w0b_468 (d := d + 3), if_pos (same _), r3, YB_ret, w0b_489, if_neg q1, if_neg q2, if_neg q3, el3]
    | (1, b, g, p), hz, lb, hB0', hB4', hL =>
      have hz : b = w.2.1 := by
        rcases hz with ⟨z, -⟩ | ⟨-, z⟩ | ⟨z, -⟩
        · cases z
        · exact z
        · cases z
      have hB0'' : B0 = 61 := hB0'
      have r1 : Y q (d + 3) 7 0 [vr 81, vi ((p0 + 1 : Nat) : Int), vi ((l0 + 2 : Nat) : Int), vi 2, vi 8, vu, vu, vu, vu, vu] [] S js = yret q (vj (yi2l b)) S js :=
        c7n (a := 2) (e := 8) (w := 7) hh hr hpp hll (by omega) (by omega) (by omega) (n7 (by omega)) (fun t ht => by
          rw [show 2 + t = (1 + t) + 1 by omega, lb (1 + t) (by omega)]
          show (if 1 + t < 1 then _ else if 1 + t < 8 then wF (wI b) 7 32 (1 + t - 1) else _ : Int) = _
          rw [if_neg (by omega), if_pos (by omega), Nat.add_sub_cancel_left])
      have r2 : Y q (d + 3) 7 0 [vr 81, vi ((p0 + 1 : Nat) : Int), vi ((l0 + 2 : Nat) : Int), vi 9, vi 16, vu, vu, vu, vu, vu] [] S js = yret q (vj (yi2l b)) S js :=
        c7n (a := 9) (e := 16) (w := 8) hh hr hpp hll (by omega) (by omega) (by omega) (n8 (by omega)) (fun t ht => by
          rw [show 9 + t = (8 + t) + 1 by omega, lb (8 + t) (by omega)]
          show (if 8 + t < 1 then _ else if 8 + t < 8 then _ else if 8 + t < 16 then wF (wI b) 8 32 (8 + t - 8) else _ : Int) = _
          rw [if_neg (by omega), if_neg (by omega), if_pos (by omega), Nat.add_sub_cancel_left])
      refine ⟨vi 61, vj (yi2l b), x16, ?_⟩
      rw [zStep_1]
      show _ = Y q (d + 4) 0 285 (lFr n h x P (yi2l A) dg (yi2l (w.2.2.1 + b)) (w.2.2.2.2.1 : Int) ((w.2.2.2.1 + 1 : Nat) : Int) (w.1 : Int) (yi2l 0) ((p0 + 1 : Nat) : Int) (vi ((zH (h - 1) j w : Nat) : Int)) (vi ((l0 + 3 : Nat) : Int)) (vi 61) (vj (yi2l b)) x16) [] S js
      have e1 : ((w.2.2.2.1 + 1 : Nat) : Int) = (w.2.2.2.1 : Int) + 1 := by omega
      rw [e1, ← yi2l_add (x := w.2.2.1) (y := b) (by omega) (by omega), ← yi2l_0]
      have same : ∀ a : Int64, yr (ylcmp a a) = 0 := fun a => by
        rw [yr_lcmp, ylcmp_eq]
      unfold lFr
      rw [w0b_301 (d := d + 3), hB0'', if_pos rfl, r1, YB_ret, ← hz, w0b_324 (d := d + 3), if_pos (same _), r2, YB_ret, w0b_346, if_pos (same _), el3]
    | (i + 2, a, g, p), hz, lb, hB0', hB4', hL =>
      have hz : a = A ∧ j + 1 = M.1.length := by
        rcases hz with ⟨z, -⟩ | ⟨z, -⟩ | ⟨-, z⟩
        · have z : i + 2 = 0 := z
          omega
        · have z : i + 2 = 1 := z
          omega
        · exact z
      have hB0'' : B0 = 43 := hB0'
      have r1 : Y q (d + 3) 7 0 [vr 81, vi ((p0 + 1 : Nat) : Int), vi ((l0 + 2 : Nat) : Int), vi 2, vi 8, vu, vu, vu, vu, vu] [] S js = yret q (vj (yi2l a)) S js :=
        c7n (a := 2) (e := 8) (w := 7) hh hr hpp hll (by omega) (by omega) (by omega) (n7 (by omega)) (fun t ht => by
          rw [show 2 + t = (1 + t) + 1 by omega, lb (1 + t) (by omega)]
          show (if 1 + t < 1 then _ else if 1 + t < 8 then wF (wI a) 7 32 (1 + t - 1) else _ : Int) = _
          rw [if_neg (by omega), if_pos (by omega), Nat.add_sub_cancel_left])
      have hpg : p0 + 1 = P := by
        rw [hP]
        unfold wPn
        have e : M.1.length - 1 = j := by omega
        rw [e, hj]
        have hc : h = 5 ∨ h = 6 ∨ h = 7 ∨ h = 8 ∨ h = 9 ∨ h = 10 := by omega
        rcases hc with rfl | rfl | rfl | rfl | rfl | rfl <;> omega
      refine ⟨vi 43, x15, x16, ?_⟩
      show _ = Y q (d + 4) 0 285 (lFr n h x P (yi2l A) dg (yi2l w.2.2.1) ((w.2.2.2.2.1 + 1 : Nat) : Int) (w.2.2.2.1 : Int) (w.1 : Int) (yi2l w.2.1) ((p0 + 1 : Nat) : Int) (vi ((zH (h - 1) j w : Nat) : Int)) (vi ((l0 + 3 : Nat) : Int)) (vi 43) x15 x16) [] S js
      have e1 : ((w.2.2.2.2.1 + 1 : Nat) : Int) = (w.2.2.2.2.1 : Int) + 1 := by omega
      rw [e1]
      have same : ∀ a : Int64, yr (ylcmp a a) = 0 := fun a => by
        rw [yr_lcmp, ylcmp_eq]
      unfold lFr
      rw [w0b_301 (d := d + 3), hB0'', e43, e61, if_neg (by decide), if_pos rfl, r1, YB_ret, w0b_388, hz.1, if_pos (same _), hpg, if_pos rfl, el3]
end YLPL
end YLP
