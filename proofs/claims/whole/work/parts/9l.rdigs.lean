/-! THE REFERENCE's MACHINE: digits -/
section YRD
theorem ydivp {x p : Int64} {M P : Nat} (hp : p.toInt = P) (hP : 0 < P) : (x.toInt = (M : Int) → (x / p).toInt = ((M / P : Nat) : Int)) ∧ (x.toInt = -(M : Int) → (x / p).toInt = -((M / P : Nat) : Int)) := by
  have r1 := Int64.le_toInt x
  have r2 := Int64.toInt_lt x
  have hd : M / P ≤ M := Nat.div_le_self _ _
  refine ⟨fun h => ?_, fun h => ?_⟩
  · rw [Int64.toInt_div, h, hp, show (M : Int).tdiv (P : Int) = ((M / P : Nat) : Int) from rfl]
    generalize M / P = D at hd ⊢
    rw [Int.bmod_eq_of_le (by omega) (by omega)]
  · rw [Int64.toInt_div, h, hp, Int.neg_tdiv, show (M : Int).tdiv (P : Int) = ((M / P : Nat) : Int) from rfl]
    generalize M / P = D at hd ⊢
    rw [Int.bmod_eq_of_le (by omega) (by omega)]
theorem yremp {x p : Int64} {M P : Nat} (hp : p.toInt = P) (hP : 0 < P) : (x.toInt = (M : Int) → (ylrem x p).toInt = ((M % P : Nat) : Int)) ∧ (x.toInt = -(M : Int) → (ylrem x p).toInt = -((M % P : Nat) : Int)) := by
  have r1 := Int64.le_toInt x
  have r2 := Int64.toInt_lt x
  have hm : P * (M / P) + M % P = M := Nat.div_add_mod _ _
  have hc : ((M / P : Nat) : Int) * (P : Int) = ((P * (M / P) : Nat) : Int) := by rw [← Int.natCast_mul, Nat.mul_comm]
  have hc2 : -((M / P : Nat) : Int) * (P : Int) = -((P * (M / P) : Nat) : Int) := by rw [Int.neg_mul, hc]
  refine ⟨fun h => ?_, fun h => ?_⟩
  · unfold ylrem
    rw [Int64.toInt_sub, Int64.toInt_mul, (ydivp hp hP).1 h, h, hp, hc]
    generalize P * (M / P) = A at hm ⊢
    generalize M % P = B at hm ⊢
    rw [Int.bmod_eq_of_le (n := (A : Int)) (by omega) (by omega), Int.bmod_eq_of_le (by omega) (by omega)]
    omega
  · unfold ylrem
    rw [Int64.toInt_sub, Int64.toInt_mul, (ydivp hp hP).2 h, h, hp, hc2]
    generalize P * (M / P) = A at hm ⊢
    generalize M % P = B at hm ⊢
    rw [Int.bmod_eq_of_le (n := -(A : Int)) (by omega) (by omega), Int.bmod_eq_of_le (by omega) (by omega)]
    omega
theorem yabsl_e {x : Int64} {M : Nat} (h : x.toInt = (M : Int) ∨ x.toInt = -(M : Int)) (hM : M < 9223372036854775808) : (yabsl x).toInt = M := by
  have z0 : (0 : Int64).toInt = 0 := by decide
  unfold yabsl
  by_cases z : (0 : Int64) < x
  · rw [if_pos z]
    have := Int64.lt_iff_toInt_lt.mp z
    omega
  · rw [if_neg z]
    have z2 : ¬ (0 : Int64).toInt < x.toInt := fun h => z (Int64.lt_iff_toInt_lt.mpr h)
    rw [Int64.toInt_neg, Int.bmod_eq_of_le (by omega) (by omega)]
    omega
theorem ycnt_k : ∀ (k f M : Nat), k + 1 ≤ f → M < 10 ^ (k + 1) → (k = 0 ∨ 10 ^ k ≤ M) → ycnt f M = k + 1
  | 0, f + 1, M, hf, h1, h2 => by
    unfold ycnt
    rw [if_pos (by rw [Nat.pow_succ, Nat.pow_zero] at h1; omega)]
  | k + 1, f + 1, M, hf, h1, h2 => by
    have h2 : 10 ^ (k + 1) ≤ M := by rcases h2 with h | h; exact absurd h (Nat.succ_ne_zero _); exact h
    have p1 : 1 ≤ 10 ^ k := Nat.one_le_pow _ _ (by omega)
    rw [Nat.pow_succ] at h1 h2
    unfold ycnt
    rw [if_neg (by omega), ycnt_k k f (M / 10) (by omega) (by omega) (by
      by_cases z : k = 0
      · exact Or.inl z
      · exact Or.inr (by omega))]
section YRDL
variable {q : yQ} {d : Nat} {js : List xO} {S : yS} {n : Nat}
/-- the number's size, its sign -/
def yabs (x : Int64) (M : Nat) : Prop := x.toInt = (M : Int) ∨ x.toInt = -(M : Int)
theorem r273a {x1 : Int64} {M : Nat} {x0 x2 x4 : Int} (hx : yabs x1 M) (hM : M ≤ 9223372036854775808) : ∀ (g k : Nat) (x3 : Int64), k + g = 18 → x3.toInt = ((10 ^ k : Nat) : Int) → ∃ (k' : Nat) (y3 : Int64), k ≤ k' ∧ k' ≤ 18 ∧ y3.toInt = ((10 ^ k' : Nat) : Int) ∧ M < 10 ^ (k' + 1) ∧ (k' = k ∨ 10 ^ k' ≤ M) ∧ Y q d 273 40 [vr 129, vi x0, vj x1, vu, vi x2, vj x3, vu, vi x4] [] S js = Y q d 273 73 [vr 129, vi x0, vj x1, vu, vi x2, vj y3, vu, vi x4] [] S js := by
  intro g
  have z10 : (10 : Int64).toInt = 10 := by decide
  have zm10 : (-10 : Int64).toInt = -10 := by decide
  have z0 : (0 : Int64).toInt = 0 := by decide
  induction g with
  | zero =>
    intro k x3 hk h3
    have hP : 0 < 10 ^ k := Nat.pow_pos (by omega)
    have hk : k = 18 := hk
    subst hk
    have e18 : (10 : Nat) ^ 18 = 1000000000000000000 := by decide
    have e19 : (10 : Nat) ^ (18 + 1) = 10000000000000000000 := by decide
    have n3 : ¬ x3 = 0 := fun h => by rw [h, z0] at h3; omega
    refine ⟨18, x3, Nat.le_refl _, Nat.le_refl _, h3, by omega, Or.inl rfl, ?_⟩
    have hd : M / 10 ^ 18 < 10 := by rw [e18]; omega
    have hdv := ydivp (x := x1) (M := M) h3 hP
    have hq : (x1 / x3).toInt < 10 ∧ -10 < (x1 / x3).toInt := by
      rcases hx with h | h
      · rw [hdv.1 h]; omega
      · rw [hdv.2 h]; omega
    rw [w273_40, if_neg n3]
    simp only [yr_lcmp, ylcmp_lt, ylcmp_gt, Int64.lt_iff_toInt_lt, z10, zm10]
    rw [if_pos hq.1, if_neg n3, if_pos hq.2]
  | succ g ih =>
    intro k x3 hk h3
    have hP : 0 < 10 ^ k := Nat.pow_pos (by omega)
    have e18 : (10 : Nat) ^ 18 = 1000000000000000000 := by decide
    have hk2 : 10 ^ (k + 1) ≤ 10 ^ 18 := Nat.pow_le_pow_right (by omega) (by omega)
    have n3 : ¬ x3 = 0 := fun h => by rw [h, z0] at h3; omega
    have hdv := ydivp (x := x1) (M := M) h3 hP
    generalize hD : M / 10 ^ k = D at hdv
    have h10 : (x3 * 10).toInt = ((10 ^ (k + 1) : Nat) : Int) := by
      rw [Int64.toInt_mul, h3, z10, Nat.pow_succ, Int.bmod_eq_of_le]
      · rfl
      · omega
      · rw [Nat.pow_succ] at hk2; omega
    rw [w273_40, if_neg n3]
    simp only [yr_lcmp, ylcmp_lt, ylcmp_gt, Int64.lt_iff_toInt_lt, z10, zm10]
    by_cases z : D < 10
    · have hq : (x1 / x3).toInt < 10 ∧ -10 < (x1 / x3).toInt := by
        rcases hx with h | h
        · rw [hdv.1 h]; omega
        · rw [hdv.2 h]; omega
      refine ⟨k, x3, Nat.le_refl _, by omega, h3, ?_, Or.inl rfl, by rw [if_pos hq.1, if_neg n3, if_pos hq.2]⟩
      rw [Nat.pow_succ, Nat.mul_comm]
      exact (Nat.div_lt_iff_lt_mul hP).mp (by omega)
    · obtain ⟨k', y3, i1, i2, i3, i4, i5, i6⟩ := ih (k + 1) (x3 * 10) (by omega) h10
      have hge : 10 ^ (k + 1) ≤ M := by
        rw [Nat.pow_succ, Nat.mul_comm]
        exact (Nat.le_div_iff_mul_le hP).mp (by omega)
      refine ⟨k', y3, by omega, i2, i3, i4, ?_, ?_⟩
      · rcases i5 with h | h
        · exact Or.inr (by rw [h]; exact hge)
        · exact Or.inr h
      · rw [← i6]
        rcases hx with h | h
        · rw [if_neg (by rw [hdv.1 h]; omega)]
        · rw [if_pos (by rw [hdv.2 h]; omega), if_neg n3, if_neg (by rw [hdv.2 h]; omega)]
theorem r273b (hn : n < 128) {x1 : Int64} {M : Nat} {x2 x4 : Int} (hx : yabs x1 M) (hM : M ≤ 9223372036854775808) : ∀ (k : Nat) (x3 : Int64) (l : List Int) (S : yS), k ≤ 18 → x3.toInt = ((10 ^ k : Nat) : Int) → rV S n (.inr l) → ∃ S' : yS, Y q (d + 1) 273 73 [vr 129, vi n, vj x1, vu, vi x2, vj x3, vu, vi x4] [] S js = yretv q S' js ∧ rFs n S S' ∧ gI S' 63 = gI S 63 ∧ rV S' n (.inr ((l ++ ydl M (k + 1)).take 60)) := by
  have z10 : (10 : Int64).toInt = 10 := by decide
  have z0 : (0 : Int64).toInt = 0 := by decide
  have n10 : ¬ (10 : Int64) = 0 := by decide
  -- one digit
  have one : ∀ (k : Nat) (x3 : Int64) (l : List Int) (S : yS), k ≤ 18 → x3.toInt = ((10 ^ k : Nat) : Int) → rV S n (.inr l) → ∃ S' : yS, Y q (d + 1) 273 73 [vr 129, vi n, vj x1, vu, vi x2, vj x3, vu, vi x4] [] S js = Y q (d + 1) 273 73 [vr 129, vi n, vj x1, vu, vi x2, vj (x3 / 10), vu, vi x4] [] S' js ∧ rFs n S S' ∧ gI S' 63 = gI S 63 ∧ rV S' n (.inr ((l ++ [48 + ((M / 10 ^ k % 10 : Nat) : Int)]).take 60)) := by
    intro k x3 l S hk h3 hv
    have hP : 0 < 10 ^ k := Nat.pow_pos (by omega)
    have n3 : ¬ x3 = 0 := fun h => by rw [h, z0] at h3; omega
    have hdv := ydivp (x := x1) (M := M) h3 hP
    have hdl : M / 10 ^ k ≤ M := Nat.div_le_self _ _
    generalize M / 10 ^ k = D at hdv hdl ⊢
    have hr : (ylrem (x1 / x3) 10).toInt = ((D % 10 : Nat) : Int) ∨ (ylrem (x1 / x3) 10).toInt = -((D % 10 : Nat) : Int) := by
      rcases hx with h | h
      · exact Or.inl ((yremp (P := 10) z10 (by omega)).1 (hdv.1 h))
      · exact Or.inr ((yremp (P := 10) z10 (by omega)).2 (hdv.2 h))
    have ha := yabsl_e hr (by omega)
    have hl : yl2i (yabsl (ylrem (x1 / x3) 10)) = ((D % 10 : Nat) : Int) := by
      unfold yl2i
      rw [Int64.toInt_toInt32, ha, Int.bmod_eq_of_le (by omega) (by omega)]
    obtain ⟨S', a1, a2, a3, a4, _⟩ := r263 (q := q) (d := d) (js := js) hn hv (y := 48 + ((D % 10 : Nat) : Int)) (by omega)
    refine ⟨S', ?_, a2, a3, a4⟩
    rw [w273_73]
    simp only [yr_lcmp, ylcmp_gt, Int64.lt_iff_toInt_lt, z0]
    rw [if_pos (by rw [h3]; omega), if_neg n3, if_neg n10, hl, a1, YB_retv, w273_100, if_neg n10]
  intro k
  induction k with
  | zero =>
    intro x3 l S hk h3 hv
    obtain ⟨S', a1, a2, a3, a4⟩ := one 0 x3 l S hk h3 hv
    refine ⟨S', ?_, a2, a3, a4⟩
    rw [a1, w273_73]
    have : (x3 / 10).toInt = 0 := by
      rw [(ydivp (x := x3) (M := 10 ^ 0) (P := 10) z10 (by omega)).1 h3]
      rfl
    simp only [yr_lcmp, ylcmp_gt, Int64.lt_iff_toInt_lt, z0]
    rw [if_neg (by omega)]
  | succ k ih =>
    intro x3 l S hk h3 hv
    obtain ⟨S1, a1, a2, a3, a4⟩ := one (k + 1) x3 l S hk h3 hv
    have h4 : (x3 / 10).toInt = ((10 ^ k : Nat) : Int) := by
      rw [(ydivp (x := x3) (M := 10 ^ (k + 1)) (P := 10) z10 (by omega)).1 h3, Nat.pow_succ, Nat.mul_div_cancel _ (by omega)]
    obtain ⟨S', c1, c2, c3, c4⟩ := ih (x3 / 10) _ S1 (by omega) h4 a4
    refine ⟨S', a1.trans c1, rFs_tr a2 c2, c3.trans a3, ?_⟩
    rw [ytake_app, List.append_assoc] at c4
    exact c4
/-- digits, at least as many -/
theorem r273 (hn : n < 128) {x1 : Int64} {M lea : Nat} {l : List Int} (hx : yabs x1 M) (hM : M ≤ 9223372036854775808) (hle : lea = 1 ∨ (lea = 2 ∧ M < 100)) (hv : rV S n (.inr l)) : ∃ S' : yS, Y q (d + 1) 273 0 [vr 129, vi n, vj x1, vu, vi lea, vu, vu, vu] [] S js = yretv q S' js ∧ rFs n S S' ∧ gI S' 63 = gI S 63 ∧ rV S' n (.inr ((l ++ ((if x1.toInt < 0 then [45] else []) ++ if lea = 1 then ydgs 30 M [] else ydl M 2)).take 60)) := by
  have z0 : (0 : Int64).toInt = 0 := by decide
  have e1 : (1 : Int64).toInt = ((10 ^ 0 : Nat) : Int) := by decide
  have e2 : (1 * 10 : Int64).toInt = ((10 ^ 1 : Nat) : Int) := by decide
  -- behind the sign
  have rest : ∀ (l : List Int) (S : yS), rV S n (.inr l) → ∃ S' : yS, Y q (d + 1) 273 19 [vr 129, vi n, vj x1, vu, vi lea, vj 1, vu, vi 1] [] S js = yretv q S' js ∧ rFs n S S' ∧ gI S' 63 = gI S 63 ∧ rV S' n (.inr ((l ++ if lea = 1 then ydgs 30 M [] else ydl M 2).take 60)) := by
    intro l S hv
    rcases hle with rfl | ⟨rfl, h100⟩
    · obtain ⟨k, y3, k1, k2, k3, k4, k5, k6⟩ := r273a (q := q) (d := d + 1) (js := js) (S := S) (x0 := (n : Int)) (x2 := ((1 : Nat) : Int)) (x4 := 1) hx hM 18 0 1 (by omega) e1
      obtain ⟨S', a1, a2, a3, a4⟩ := r273b (q := q) (d := d) (js := js) hn (x2 := ((1 : Nat) : Int)) (x4 := 1) hx hM k y3 l S k2 k3 hv
      refine ⟨S', ?_, a2, a3, ?_⟩
      · rw [w273_19, if_neg (by decide), k6, a1]
      · have e30 : (10 : Nat) ^ 30 = 1000000000000000000000000000000 := by decide
        rw [if_pos rfl, ydgs_e 30 M [] (by omega), ycnt_k k 30 M (by omega) k4 k5, List.append_nil]
        exact a4
    · obtain ⟨k, y3, k1, k2, k3, k4, k5, k6⟩ := r273a (q := q) (d := d + 1) (js := js) (S := S) (x0 := (n : Int)) (x2 := ((2 : Nat) : Int)) (x4 := 1 + 1) hx hM 17 1 (1 * 10) (by omega) e2
      have hk : k = 1 := by
        rcases k5 with h | h
        · exact h
        · by_cases z : k = 1
          · exact z
          · have : 10 ^ 2 ≤ 10 ^ k := Nat.pow_le_pow_right (by omega) (by omega)
            omega
      obtain ⟨S', a1, a2, a3, a4⟩ := r273b (q := q) (d := d) (js := js) hn (x2 := ((2 : Nat) : Int)) (x4 := 1 + 1) hx hM k y3 l S k2 k3 hv
      refine ⟨S', ?_, a2, a3, ?_⟩
      · rw [w273_19, if_pos (by decide), w273_19, if_neg (by decide), k6, a1]
      · rw [if_neg (by decide)]
        rw [hk] at a4
        exact a4
  rw [w273_0]
  simp only [yr_lcmp, ylcmp_lt, Int64.lt_iff_toInt_lt, z0]
  by_cases z : x1.toInt < 0
  · obtain ⟨S1, a1, a2, a3, a4, _⟩ := r263 (q := q) (d := d) (js := js) hn hv (y := 45) (by omega)
    obtain ⟨S', c1, c2, c3, c4⟩ := rest _ S1 a4
    rw [if_pos z, a1, YB_retv, w273_13, if_pos z]
    refine ⟨S', c1, rFs_tr a2 c2, c3.trans a3, ?_⟩
    rw [ytake_app, List.append_assoc] at c4
    exact c4
  · obtain ⟨S', c1, c2, c3, c4⟩ := rest _ S hv
    rw [if_neg z, if_neg z, List.nil_append]
    exact ⟨S', c1, c2, c3, c4⟩
end YRDL
end YRD
