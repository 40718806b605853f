/-! FILLED -/
section YFI
theorem nan_no {a b : Int32} (h : b ≠ 0) : FP.ddiv (FP.i2d a) (FP.i2d b) &&& 0x7fffffffffffffff ≤ 0x7ff0000000000000 := by
  have h1 : Jvm.FP.Core.dIsNaN (FP.ddiv (FP.i2d a) (FP.i2d b)) = false := by
    refine Jvm.FP.Core.ddiv_out ?_ (Jvm.FP.Core.i2d_fin b) ?_
    · exact (Jvm.FP.Core.i2d_fin a).notNaN
    · rw [Jvm.FP.Core.zero_bits2]
      exact Jvm.FP.Core.i2d_ne_zero h
  have h2 : ¬ 9218868437227405312 < (FP.ddiv (FP.i2d a) (FP.i2d b)).toNat % 2 ^ 63 := fun z => by
    have := (Jvm.FP.Core.isNaN_bits _).mpr z
    rw [h1] at this
    cases this
  rw [UInt64.le_iff_toNat_le, UInt64.toNat_and]
  have e : (0x7fffffffffffffff : UInt64).toNat = 2 ^ 63 - 1 := rfl
  rw [e, Nat.and_two_pow_sub_one_eq_mod]
  show _ ≤ 9218868437227405312
  omega
/-- how many of n places from i on are other than a blank -/
def ynb (f : Nat → Int) : Nat → Nat → Int → Int
  | _, 0, s => s
  | i, n + 1, s => ynb f (i + 1) n (if yr (f i) = 32 then s else s + 1)
theorem ynb_cg {f g : Nat → Int} : ∀ {n i : Nat} {s : Int}, (∀ k, i ≤ k → k < i + n → f k = g k) → ynb f i n s = ynb g i n s
  | 0, i, s, _ => rfl
  | n + 1, i, s, h => by
    unfold ynb
    rw [h i (Nat.le_refl i) (by omega)]
    exact ynb_cg (n := n) (i := i + 1) fun k h1 h2 => h k (by omega) (by omega)
def yshare (f : Nat → Int) (n : Nat) : UInt64 := if n = 0 then FP.dconst0 else FP.ddiv (FP.i2d (Int32.ofInt (ynb f 0 n 0))) (FP.i2d (Int32.ofInt n))
theorem ofn0 {n : Nat} (h : 0 < n) (h2 : n ≤ 72000) : Int32.ofInt (n : Int) ≠ 0 := fun z => by
  have h3 : yr (n : Int) = yr 0 := yr_cg z
  rw [yr_eq (by omega) (by omega), yr_eq (by omega) (by omega)] at h3
  omega
section YFIL
variable {q : yQ} {d : Nat} {js : List xO} {S : yS}
theorem c89a {N : Nat} (hN : 0 < N) (hN2 : N ≤ 72000) : ∀ (n i : Nat) (s : Int), i + n = N → Y q d 89 25 [vr 123, vi N, vi s, vi i] [] S js = yret q (vd (FP.ddiv (FP.i2d (Int32.ofInt (ynb (gA S 33) i n s))) (FP.i2d (Int32.ofInt N)))) S js
  | 0, i, s, h => by
    rw [w89_25, if_neg (by rw [yr_eq, yr_eq] <;> omega), if_pos (nan_no (ofn0 hN hN2))]
    rfl
  | n + 1, i, s, h => by
    have e : yr (i : Int) = i := yr_eq (by omega) (by omega)
    have e2 : yr 32 = 32 := rfl
    have e3 : yr 72000 = 72000 := rfl
    rw [w89_25, if_pos (by rw [yr_eq, yr_eq] <;> omega), e, e3, if_pos (by omega), if_pos (by omega), e2, Int.toNat_natCast]
    have ih := fun s => c89a hN hN2 n (i + 1) s (by omega)
    have e4 : ((i : Int) + 1) = ((i + 1 : Nat) : Int) := by omega
    rw [e4]
    unfold ynb
    split
    · exact ih s
    · exact ih (s + 1)
theorem c164 {N : Nat} (hN : gI S 29 * gI S 27 * gI S 28 = N) (hN2 : N ≤ 72000) : Y q (d + 1) 164 0 [vr 75] [] S js = yret q (vd (yshare (gA S 33) N)) S js := by
  rw [w164_0, w89_0, hN]
  have e : yr (N : Int) = N := yr_eq (by omega) (by omega)
  unfold yshare
  by_cases h : N = 0
  · rw [if_pos (by omega), if_pos h, YB_ret, w164_7]
  · rw [if_neg (by omega), if_neg h]
    have z := c89a (q := q) (d := d) (S := S) (js := js) (N := N) (by omega) hN2 N 0 0 (by omega)
    rw [show (0 : Int) = ((0 : Nat) : Int) from rfl] at *
    rw [z, YB_ret, w164_7]
theorem r312a {N : Nat} (hN2 : N ≤ 72000) : ∀ (n i : Nat) (s : Int), i + n = N → Y q d 312 35 [vr 129, vi N, vi s, vi i] [] S js = yret q (vd (if N = 0 then FP.dconst0 else FP.ddiv (FP.i2d (Int32.ofInt (ynb (gA S 64) i n s))) (FP.i2d (Int32.ofInt N)))) S js
  | 0, i, s, h => by
    have e : yr (N : Int) = N := yr_eq (by omega) (by omega)
    rw [w312_35, if_neg (by rw [yr_eq, yr_eq] <;> omega), e]
    by_cases h : N = 0
    · rw [if_pos (by omega), if_pos h]
    · rw [if_neg (by omega), if_neg h, if_pos (nan_no (ofn0 (by omega) hN2))]
      rfl
  | n + 1, i, s, h => by
    have e : yr (i : Int) = i := yr_eq (by omega) (by omega)
    have e2 : yr 32 = 32 := rfl
    rw [w312_35, if_pos (by rw [yr_eq, yr_eq] <;> omega), e, if_pos (by omega), e2, Int.toNat_natCast]
    have ih := fun s => r312a hN2 n (i + 1) s (by omega)
    have e4 : ((i : Int) + 1) = ((i + 1 : Nat) : Int) := by omega
    rw [e4]
    unfold ynb
    split
    · have := ih (s + 0)
      rw [Int.add_zero] at *
      exact this
    · exact ih (s + 1)
theorem r312 {N : Nat} (hN : (if gI S 66 = 0 then 0 else gI S 68 * gI S 55 * gI S 54) = N) (hN2 : N ≤ 72000) (h66 : 0 ≤ gI S 66 ∧ gI S 66 ≤ 4) : Y q d 312 0 [vr 129, vu, vu, vu] [] S js = yret q (vd (yshare (gA S 64) N)) (sI S 39 0) js := by
  rw [w312_0, yr_eq (x := gI S 66) (by omega) (by omega)]
  have z := r312a (q := q) (d := d) (S := sI S 39 0) (js := js) (N := N) hN2 N 0 0 (by omega)
  unfold yshare
  by_cases h : gI S 66 = 0
  · rw [if_pos h] at hN
    have : N = 0 := by omega
    subst this
    rw [if_pos h]
    exact z
  · rw [if_neg h] at hN
    rw [if_neg h, hN]
    exact z
end YFIL
theorem op22 : yCall yI 22 := by
  intro q S js x0 d y1 y2 y3 y4 hL h0 h6 hop hI
  obtain ⟨hTp, hTb, hCd, hPg, hRs, hRn⟩ := id hI
  obtain ⟨n1, n2, n3, n4, n5⟩ := id hRn.1
  by_cases z : gI S 30 = 0
  · have h9 := n4 z
    have hN : gI S 29 * gI S 27 * gI S 28 = ((0 : Nat) : Int) := by rw [h9.2.1, Int.zero_mul, Int.zero_mul]; rfl
    have hc := c164 (q := q) (d := d + 398) (js := js) hN (by omega)
    have hm := r312 (q := q) (d := d + 399) (js := js) (S := S) (N := 0) (by rw [n1, if_pos z]; rfl) (by omega) (by omega)
    exact k22_ok hL h0 h6 hop hc hm rfl (yI_thr hI) (by omega) (by omega)
  · have h9 := n5 (by omega)
    have h8 := hPg.2.2.2 h9.1
    obtain ⟨-, a1, a2, -, -, -, a3, a4, a5, a6, -, -, -, -, -, -, -, -, hpp, -⟩ := h9
    have hr : gI S 29 * gI S 28 * gI S 27 ≤ 72000 := by
      have b1 : gI S 29 * gI S 28 ≤ 30 * 40 := Int.mul_le_mul a6 (by omega) (by omega) (by omega)
      have b2 : gI S 29 * gI S 28 * gI S 27 ≤ 1200 * 60 := Int.mul_le_mul b1 (by omega) (by omega) (by omega)
      omega
    have hr0 : 0 ≤ gI S 29 * gI S 28 * gI S 27 := Int.mul_nonneg (Int.mul_nonneg a5 (by omega)) (by omega)
    have hN : gI S 29 * gI S 27 * gI S 28 = ((gI S 29 * gI S 28 * gI S 27).toNat : Int) := by
      rw [Int.mul_right_comm]
      omega
    have hc := c164 (q := q) (d := d + 398) (js := js) hN (by omega)
    have hm := r312 (q := q) (d := d + 399) (js := js) (S := S) (N := (gI S 29 * gI S 28 * gI S 27).toNat) (by
      have e1 : gI S 68 = gI S 29 := a2
      have e2 : gI S 55 = gI S 28 := by omega
      have e3 : gI S 54 = gI S 27 := by omega
      rw [n1, if_neg z, e1, e2, e3]
      omega) (by omega) (by omega)
    refine k22_ok hL h0 h6 hop hc hm ?_ (yI_thr hI) (by omega) (by omega)
    unfold yshare
    split
    · rfl
    · rw [ynb_cg (f := gA S 33) (g := gA S 64) fun k k1 k2 => (hpp k (by omega)).symm]
end YFI
