/-! RUN: the reference sorts rows -/
section YTC
section YTCL
variable {q : yQ} {d : Nat} {js : List xO} {S : yS}
theorem r283l {x0 : Int64} : ∀ (n : Nat) (a : Int64) (i : Nat), i + n = 8 → Y q d 283 5 [vj x0, vu, vj a, vu, vi i] [] S js = yret q (vj (yhig n a)) S js
  | 0, a, i, h => by
    rw [w283_5, if_neg (by rw [yr_eq, yr_eq] <;> omega)]
    rfl
  | n + 1, a, i, h => by
    have e1 : (i : Int) + 1 = ((i + 1 : Nat) : Int) := by omega
    rw [w283_5, if_pos (by rw [yr_eq, yr_eq] <;> omega)]
    unfold yhig
    by_cases z0 : a = 0
    · rw [if_pos (by rw [yr_lcmp]; exact (ylcmp_eq _ _).mpr z0), if_pos z0]
    · rw [if_neg (fun y => z0 ((ylcmp_eq _ _).mp (by rw [← yr_lcmp]; exact y))), if_neg z0]
      by_cases z : ylushr a 56 = 0
      · rw [if_pos (by rw [yr_lcmp]; exact (ylcmp_eq _ _).mpr z), if_pos z, e1]
        exact r283l n _ (i + 1) (by omega)
      · rw [if_neg (fun y => z ((ylcmp_eq _ _).mp (by rw [← yr_lcmp]; exact y))), if_neg z]
theorem r283 (a : Int64) : Y q d 283 0 [vj a, vu, vu, vu, vu] [] S js = yret q (vj (ylef 7 a)) S js := by
  rw [w283_0, ← yhig_l]
  exact r283l 8 a 0 (by omega)
theorem r282 {a b : Int64} (ha : yOkN (ynv a)) (hb : yOkN (ynv b)) : Y q (d + 2) 282 0 [vj a, vu, vj b, vu] [] S js = yret q (vi (ycmp (ylef 7 a) (ylef 7 b))) S js := by
  rw [w282_0, r283, YB_ret, w282_4, r283, YB_ret, w282_8, w320_0, r319, YB_ret, w320_13, YB_ret, w282_11, ycmp_u (yOkN_63 (ylef_ok 7 a ha)) (yOkN_63 (ylef_ok 7 b hb))]
theorem r204 {x k : Nat} (h : iTb S) (hx : (x : Int) < nrow (gI S 10) (gI S 11)) (hk : (k : Int) < gI S 10) : Y q d 204 0 [vr 129, vi x, vi k] [] S js = yret q (vj (ycel S x k)) S js := by
  obtain ⟨t1, t2, t3, t4, t5, t6, t7, t8, t9⟩ := id h
  obtain ⟨c, hc⟩ : ∃ c : Nat, gI S 10 = c := ⟨(gI S 10).toNat, by omega⟩
  obtain ⟨i1, i2⟩ := iTb_in (k := k) hc t5 (by omega) (by omega) hx
  have e : gI S 41 * (x : Int) + k = x * c + k := by rw [t1, hc, Int.mul_comm]
  have ok : 0 ≤ (x : Int) * c + k ∧ (x : Int) * c + k < 320 := by omega
  rw [w204_0, e, yr_eq (by omega) (by omega), if_pos ok, t8 _ (by omega)]
  unfold ycel
  rw [hc]
theorem ycel_ok {x k : Nat} (h : iTb S) (hx : (x : Int) < nrow (gI S 10) (gI S 11)) (hk : (k : Int) < gI S 10) (h1 : gA S 20 k = 1) : yOkN (ynv (ycel S x k)) := by
  obtain ⟨c, hc⟩ : ∃ c : Nat, gI S 10 = c := ⟨(gI S 10).toNat, by have := h.2.1; omega⟩
  have := iTb_ok h hc (k := k) (by omega) hx h1
  rw [if_neg (by omega)] at this
  unfold ycel
  rw [hc]
  exact this
/-- two rows by all orders; by their places if they are alike -/
def yrvl (f : Nat → Int) (x y : Nat) (l : List (Nat × Nat)) : Int := if ycro f l = 0 then (x : Int) - y else ycro f l
theorem r281 {O : List (Nat × Nat)} (hO : rOs S O) (h : iTb S) (h4 : O.length ≤ 4) (hc : ∀ x, x ∈ O → (x.1 : Int) < gI S 10) (hd : ∀ x, x ∈ O → x.2 ≤ 1) {x y : Nat} (hx : (x : Int) < nrow (gI S 10) (gI S 11)) (hy : (y : Int) < nrow (gI S 10) (gI S 11)) : ∀ (l : List (Nat × Nat)) (i : Nat) (z3 z4 z5 z6 : yV), O.drop i = l → i ≤ O.length → Y q (d + 3) 281 2 [vr 129, vi x, vi y, vi i, z3, z4, vu, z5, vu, z6] [] S js = yret q (vi (yrvl (ycc S x y) x y l)) S js
  | [], i, z3, z4, z5, z6, hl, hi => by
    have hn : i = O.length := by
      have := congrArg List.length hl
      rw [List.length_drop] at this
      have this : O.length - i = 0 := this
      omega
    have e56 := hO.1
    rw [w281_2, if_neg (by rw [yr_eq, yr_eq] <;> omega)]
    rfl
  | w :: l, i, z3, z4, z5, z6, hl, hi => by
    have e56 := hO.1
    obtain ⟨t1, t2, t3, t4, t5, t6, t7, t8, t9⟩ := id h
    have hlt : i < O.length := by
      have := congrArg List.length hl
      rw [List.length_drop, List.length_cons] at this
      omega
    have hw : O[i]? = some w := by
      have : (O.drop i)[0]? = some w := by rw [hl]; rfl
      rw [List.getElem?_drop, Nat.add_zero] at this
      exact this
    have hmem := List.mem_of_getElem? hw
    obtain ⟨g1, g2⟩ := hO.2 i w hw
    have g1 : gA S 48 i = (w.1 : Int) := g1
    have g2 : gA S 49 i = (w.2 : Int) := g2
    have ei : yr (i : Int) = i := yr_eq (by omega) (by omega)
    have e1 : (i : Int) + 1 = ((i + 1 : Nat) : Int) := by omega
    have r := ycc_r (S := S) x y w.1
    have er : yr (ycc S x y w.1) = ycc S x y w.1 := yr_eq (by omega) (by omega)
    have hw2 := hd w hmem
    have hw1 := hc w hmem
    have ew2 : yr (w.2 : Int) = w.2 := yr_eq (by omega) (by omega)
    have ew1 : yr (w.1 : Int) = w.1 := yr_eq (by omega) (by omega)
    have k8 : 0 ≤ (w.1 : Int) ∧ (w.1 : Int) < 8 := by omega
    have k4 : 0 ≤ (i : Int) ∧ (i : Int) < 4 := by omega
    have dl : O.drop (i + 1) = l := by
      have := congrArg List.tail hl
      rw [List.tail_drop] at this
      exact this
    have ih := fun z3 z4 z5 z6 => r281 hO h h4 hc hd hx hy l (i + 1) z3 z4 z5 z6 dl (by omega)
    have ev : yrvl (ycc S x y) x y (w :: l) = if ycc S x y w.1 = 0 then yrvl (ycc S x y) x y l else if w.2 = 0 then ycc S x y w.1 else - ycc S x y w.1 := by
      unfold yrvl
      show (if (if ycc S x y w.1 = 0 then ycro (ycc S x y) l else if w.2 = 0 then ycc S x y w.1 else - ycc S x y w.1) = 0 then (x : Int) - y else (if ycc S x y w.1 = 0 then ycro (ycc S x y) l else if w.2 = 0 then ycc S x y w.1 else - ycc S x y w.1)) = _
      by_cases z : ycc S x y w.1 = 0
      · rw [if_pos z, if_pos z]
      · rw [if_neg z, if_neg z]
        by_cases z2 : w.2 = 0
        · rw [if_pos z2, if_neg z]
        · rw [if_neg z2, if_neg (by omega)]
    obtain ⟨_, s2, s3⟩ := t7 w.1 hw1
    have e38 : yr (gA S 38 w.1) = gA S 20 w.1 := by rw [s2]; rcases s3 with s | s <;> rw [s] <;> rfl
    have e20 : yr (gA S 20 w.1) = gA S 20 w.1 := by rcases s3 with s | s <;> rw [s] <;> rfl
    have e1' : Y q (d + 2) 204 0 [vr 129, vi x, vi w.1] [] S js = yret q (vj (ycel S x w.1)) S js := r204 h hx hw1
    have e2' : Y q (d + 2) 204 0 [vr 129, vi y, vi w.1] [] S js = yret q (vj (ycel S y w.1)) S js := r204 h hy hw1
    rw [w281_2, ei, if_pos (by rw [yr_eq] <;> omega), if_pos k4, Int.toNat_natCast, g1, e1', YB_ret, w281_25, e2', YB_ret, w281_34, ew1, if_pos k8, Int.toNat_natCast, e38, ev]
    have fin : ∀ (a b : Int64) (v : Int), v = ycc S x y w.1 → (if yr v = 0 then Y q (d + 3) 281 2 [vr 129, vi x, vi y, vi ((i : Int) + 1), vi w.1, vj a, vu, vj b, vu, vi v] [] S js else if 0 ≤ yr (i : Int) ∧ yr (i : Int) < 4 then if yr (gA S 49 (yr (i : Int)).toNat) = 0 then yret q (vi v) S js else yret q (vi (-v)) S js else Y q (d + 3) 281 75 [vr 129, vi x, vi y, vi i, vi w.1, vj a, vu, vj b, vu, vi v] [vi i, vr 160] S js) = yret q (vi (if ycc S x y w.1 = 0 then yrvl (ycc S x y) x y l else if w.2 = 0 then ycc S x y w.1 else - ycc S x y w.1)) S js := by
      intro a b v hv
      rw [hv, er, ei, if_pos k4, Int.toNat_natCast, g2, ew2, e1]
      by_cases z : ycc S x y w.1 = 0
      · rw [if_pos z, if_pos z]
        exact ih _ _ _ _
      · rw [if_neg z, if_neg z]
        by_cases z2 : w.2 = 0
        · rw [if_pos (by omega), if_pos z2]
        · rw [if_neg (by omega), if_neg z2]
    by_cases z : gA S 20 w.1 = 0
    · rw [if_pos z, r319, YB_ret, w281_53]
      exact fin _ _ _ (by unfold ycc; rw [e20, if_pos z])
    · have s1 : gA S 20 w.1 = 1 := s3.resolve_left z
      rw [if_neg z, r282 (ycel_ok h hx hw1 s1) (ycel_ok h hy hw1 s1), YB_ret, w281_63]
      exact fin _ _ _ (by unfold ycc; rw [e20, if_neg z])
theorem r280i {O : List (Nat × Nat)} (h4 : O.length ≤ 4) (hd : ∀ x, x ∈ O → x.2 ≤ 1) {r : Nat} : ∀ (p : Nat) (S : yS), rOs S O → iTb S → (∀ x, x ∈ O → (x.1 : Int) < gI S 10) → (r : Int) < nrow (gI S 10) (gI S 11) → p ≤ r → (∀ i, i ≤ r → i ≠ p → 0 ≤ gA S 61 i ∧ gA S 61 i < r) → ∃ z : yV, Y q (d + 4) 280 12 [vr 129, vi r, vi p] [] S js = Y q (d + 4) 280 2 [vr 129, vi ((r : Int) + 1), z] [] (sAr S 61 (yin (ylt S O) r p (gA S 61))) js
  | 0, S, hO, h, hc, hr, hp, hi => by
    have e0 : (yr 0).toNat = 0 := rfl
    refine ⟨vi 0, ?_⟩
    have st : Y q (d + 4) 280 12 [vr 129, vi r, vi ((0 : Nat) : Int)] [] S js = Y q (d + 4) 280 2 [vr 129, vi ((r : Int) + 1), vi 0] [] (sA S 61 0 r) js := by
      show Y q (d + 4) 280 12 [vr 129, vi r, vi 0] [] S js = _
      rw [w280_12, if_neg (by decide), if_pos (by decide), e0]
    rw [st]
    rfl
  | p + 1, S, hO, h, hc, hr, hp, hi => by
    have hn := nrow_le (c := gI S 10) (n := gI S 11) ⟨h.2.1, h.2.2.1⟩ ⟨h.2.2.2.2.1, h.2.2.2.2.2.1⟩
    have ep : yr ((p + 1 : Nat) : Int) = ((p + 1 : Nat) : Int) := yr_eq (by omega) (by omega)
    have e1 : ((p + 1 : Nat) : Int) - 1 = p := by omega
    have e1' : ((p + 1 : Nat) : Int) + (-1) = p := by omega
    have epp : yr (p : Int) = p := yr_eq (by omega) (by omega)
    have k1 : 0 ≤ (p : Int) ∧ (p : Int) < 40 := by omega
    have k2 : 0 ≤ ((p + 1 : Nat) : Int) ∧ ((p + 1 : Nat) : Int) < 40 := by omega
    obtain ⟨g1, g2⟩ := hi p (by omega) (by omega)
    obtain ⟨s, hs⟩ : ∃ s : Nat, gA S 61 p = s := ⟨(gA S 61 p).toNat, by omega⟩
    have hcb := r281 (q := q) (d := d) (js := js) hO h h4 hc hd (x := r) (y := s) hr (by omega) O 0 vu vu vu vu rfl (Nat.zero_le _)
    have hcb : Y q (d + 3) 281 2 [vr 129, vi r, vi s, vi 0, vu, vu, vu, vu, vu, vu] [] S js = _ := hcb
    have bnd : ∀ l : List (Nat × Nat), -1 ≤ ycro (ycc S r s) l ∧ ycro (ycc S r s) l ≤ 1 := by
      intro l
      induction l with
      | nil =>
        show -1 ≤ (0 : Int) ∧ (0 : Int) ≤ 1
        omega
      | cons w l ih =>
        have := ycc_r (S := S) r s w.1
        unfold ycro
        split
        · exact ih
        · split <;> omega
    have bO := bnd O
    have hv : yr (yrvl (ycc S r s) r s O) < 0 ↔ ycro (ycc S r s) O < 0 := by
      unfold yrvl
      by_cases z : ycro (ycc S r s) O = 0
      · rw [if_pos z, yr_eq (by omega) (by omega)]
        omega
      · rw [if_neg z, yr_eq (by omega) (by omega)]
    have st : Y q (d + 4) 280 12 [vr 129, vi r, vi ((p + 1 : Nat) : Int)] [] S js = if ycro (ycc S r s) O < 0 then Y q (d + 4) 280 12 [vr 129, vi r, vi p] [] (sA S 61 (p + 1) (gA S 61 p)) js else Y q (d + 4) 280 2 [vr 129, vi ((r : Int) + 1), vi ((p + 1 : Nat) : Int)] [] (sA S 61 (p + 1) r) js := by
      rw [w280_12, ep, e1, epp, if_pos (by omega), if_pos k1, Int.toNat_natCast, hs, w281_0, hcb, YB_ret, w280_29, ep, e1, e1', epp, Int.toNat_natCast, Int.toNat_natCast]
      by_cases z : ycro (ycc S r s) O < 0
      · rw [if_pos z, if_pos (hv.mpr z), if_pos k1, if_pos k2, hs]
      · rw [if_neg z, if_neg (fun y => z (hv.mp y)), if_pos k2]
    have ey : yin (ylt S O) r (p + 1) (gA S 61) = if ycro (ycc S r s) O < 0 then yin (ylt S O) r p (yup (gA S 61) (p + 1) (gA S 61 p)) else yup (gA S 61) (p + 1) r := by
      show (if ylt S O r (gA S 61 p).toNat = true then _ else _) = _
      rw [hs, Int.toNat_natCast]
      by_cases z : ycro (ycc S r s) O < 0
      · rw [if_pos z, if_pos (show ylt S O r s = true from decide_eq_true z)]
      · rw [if_neg z, if_neg (show ¬ ylt S O r s = true from fun y => z (of_decide_eq_true y))]
    rw [st, ey]
    by_cases z : ycro (ycc S r s) O < 0
    · rw [if_pos z, if_pos z]
      obtain ⟨w, ih⟩ := r280i h4 hd (r := r) p (sA S 61 (p + 1) (gA S 61 p)) hO h hc hr (by omega) (fun i h2 h3 => by
        rw [gA_self]
        by_cases y : i = p + 1
        · rw [if_pos y]
          exact ⟨g1, g2⟩
        · rw [if_neg y]
          exact hi i h2 y)
      refine ⟨w, ?_⟩
      rw [ih, sAr_sA]
      rfl
    · rw [if_neg z, if_neg z]
      exact ⟨_, rfl⟩
theorem r280 {O : List (Nat × Nat)} (h4 : O.length ≤ 4) (hd : ∀ x, x ∈ O → x.2 ≤ 1) {n : Nat} : ∀ (m r : Nat) (S : yS) (z : yV), r + m = n → nrow (gI S 10) (gI S 11) = n → rOs S O → iTb S → (∀ x, x ∈ O → (x.1 : Int) < gI S 10) → (∀ i, i < r → 0 ≤ gA S 61 i ∧ gA S 61 i < r) → Y q (d + 4) 280 2 [vr 129, vi r, z] [] S js = yretv q (sAr S 61 (ysrf (ylt S O) m r (gA S 61))) js
  | 0, r, S, z, hm, hn, hO, h, hc, hi => by
    obtain ⟨t1, t2, t3, t4, t5, t6, _⟩ := id h
    have hn2 := nrow_le (c := gI S 10) (n := gI S 11) ⟨t2, t3⟩ ⟨t5, t6⟩
    rw [w280_2, r199 (by omega) (by omega), t1, t4, hn, YB_ret, w280_7, if_neg (by rw [yr_eq, yr_eq] <;> omega)]
    show _ = yretv q (sAr S 61 (gA S 61)) js
    rw [sAr_sf]
  | m + 1, r, S, z, hm, hn, hO, h, hc, hi => by
    obtain ⟨t1, t2, t3, t4, t5, t6, _⟩ := id h
    have hn2 := nrow_le (c := gI S 10) (n := gI S 11) ⟨t2, t3⟩ ⟨t5, t6⟩
    obtain ⟨w, hs⟩ := r280i (q := q) (d := d) (js := js) h4 hd (r := r) r S hO h hc (by omega) (Nat.le_refl _) (fun i h2 h3 => hi i (by omega))
    have e1 : (r : Int) + 1 = ((r + 1 : Nat) : Int) := by omega
    have e : gA (sAr S 61 (yin (ylt S O) r r (gA S 61))) 61 = yin (ylt S O) r r (gA S 61) := gAr_self _ _ _
    have ih := r280 h4 hd m (r + 1) (sAr S 61 (yin (ylt S O) r r (gA S 61))) w (by omega) hn hO h hc (fun i hlt => by
      rw [e]
      have := yin_rng (lt := ylt S O) r (gA S 61) (Nat.le_refl _) (fun k hk hkr => hi k (by omega)) i (by omega)
      omega)
    rw [w280_2, r199 (by omega) (by omega), t1, t4, hn, YB_ret, w280_7, if_pos (by rw [yr_eq, yr_eq] <;> omega), hs, e1, ih, sAr_Ar, e]
    rfl
end YTCL
end YTC
