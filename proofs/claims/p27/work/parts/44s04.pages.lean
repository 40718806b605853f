/-! taken from whole by wip/p27/slice.py: 49d.pages.lean.txt -/
section YPG
theorem idx_rng {p l k P h w : Int} (hp : 1 ≤ p ∧ p ≤ P) (hl : 1 ≤ l ∧ l ≤ h) (hk : 1 ≤ k ∧ k ≤ w) (hP : P ≤ 30) (hh : h ≤ 40) (hw : w ≤ 60) : 0 ≤ ((p - 1) * h + l - 1) * w ∧ ((p - 1) * h + l - 1) * w + w ≤ P * h * w ∧ P * h * w ≤ 72000 := by
  have a1 : 0 ≤ (p - 1) * h := Int.mul_nonneg (by omega) (by omega)
  have a2 : (p - 1) * h ≤ (P - 1) * h := Int.mul_le_mul_of_nonneg_right (by omega) (by omega)
  have a3 : (P - 1) * h = P * h - h := by rw [Int.sub_mul, Int.one_mul]
  have a4 : 0 ≤ ((p - 1) * h + l - 1) * w := Int.mul_nonneg (by omega) (by omega)
  have a5 : ((p - 1) * h + l - 1) * w ≤ (P * h - 1) * w := Int.mul_le_mul_of_nonneg_right (by omega) (by omega)
  have a6 : (P * h - 1) * w = P * h * w - w := by rw [Int.sub_mul, Int.one_mul]
  have a7 : P * h ≤ 30 * 40 := Int.mul_le_mul hP hh (by omega) (by omega)
  have a8 : P * h * w ≤ 1200 * 60 := Int.mul_le_mul a7 hw (by omega) (by omega)
  omega
section YPGL
variable {q : yQ} {d : Nat} {js : List xO} {S : yS}
theorem c95 {p l : Int} (hp : -2147483648 ≤ p ∧ p < 2147483648) (hl : -2147483648 ≤ l ∧ l < 2147483648) (h1 : 0 ≤ gI S 29 ∧ gI S 29 ≤ 30) : Y q d 95 0 [vr 129, vi p, vi l] [] S js = yret q (vi (yb (1 ≤ p ∧ p ≤ gI S 29 ∧ 1 ≤ l ∧ l ≤ yr (gI S 28)))) S js := by
  rw [w95_0]
  simp only [yz0, yz1, if_true]
  rw [yr_eq hp.1 hp.2, yr_eq hl.1 hl.2, yr_eq (x := 1) (by omega) (by omega), yr_eq (x := gI S 29) (by omega) (by omega)]
  unfold yb
  by_cases a : p < 1
  · rw [if_pos a, if_neg (by omega)]
  · rw [if_neg a]
    by_cases b : gI S 29 < p
    · rw [if_pos b, if_neg (by omega)]
    · rw [if_neg b]
      by_cases c : l < 1
      · rw [if_pos c, if_neg (by omega)]
      · rw [if_neg c]
        by_cases e : yr (gI S 28) < l
        · rw [if_pos e, if_neg (by omega)]
        · rw [if_neg e, if_pos (by omega)]
theorem c91 {p l k : Int} (h1 : 0 ≤ ((p - 1) * gI S 28 + l - 1) * gI S 27 + k - 1) (h2 : ((p - 1) * gI S 28 + l - 1) * gI S 27 + k - 1 < 72000) : Y q (d + 1) 91 0 [vr 129, vi p, vi l, vi k] [] S js = yret q (vi (gA S 33 (((p - 1) * gI S 28 + l - 1) * gI S 27 + k - 1).toNat)) S js := by
  rw [w91_0, w92_0, YB_ret, w91_11, if_pos (by rw [yr_eq] <;> omega), yr_eq (by omega) (by omega)]
theorem c178 {p l k : Int} (hp : -2147483648 ≤ p ∧ p < 2147483648) (hl : -2147483648 ≤ l ∧ l < 2147483648) (hk : -2147483648 ≤ k ∧ k < 2147483648) (h1 : 0 ≤ gI S 29 ∧ gI S 29 ≤ 30) (h2 : 0 < gI S 29 → 10 ≤ gI S 27 ∧ gI S 27 ≤ 60 ∧ 4 ≤ gI S 28 ∧ gI S 28 ≤ 40) : Y q (d + 2) 178 0 [vr 81, vi p, vi l, vi k] [] S js = if 1 ≤ p ∧ p ≤ gI S 29 ∧ 1 ≤ l ∧ l ≤ gI S 28 ∧ 1 ≤ k ∧ k ≤ gI S 27 then yret q (vi (gA S 33 (((p - 1) * gI S 28 + l - 1) * gI S 27 + k - 1).toNat)) S js else ythr q (yexc 16) S js := by
  rw [w178_0, c95 hp hl h1, YB_ret, w178_9]
  simp only [yr_yb, yb_eq0]
  rw [yr_eq hk.1 hk.2, yr_eq (x := 1) (by omega) (by omega)]
  by_cases a : 1 ≤ p ∧ p ≤ gI S 29
  · obtain ⟨b1, b2, b3, b4⟩ := h2 (by omega)
    rw [yr_eq (x := gI S 28) (by omega) (by omega), yr_eq (x := gI S 27) (by omega) (by omega)]
    by_cases b : 1 ≤ l ∧ l ≤ gI S 28
    · rw [if_neg (by omega)]
      by_cases c : k < 1
      · rw [if_pos c, if_neg (by omega)]
      · rw [if_neg c]
        by_cases e : gI S 27 < k
        · rw [if_pos e, if_neg (by omega)]
        · have hi := idx_rng (p := p) (l := l) (k := k) (P := gI S 29) (h := gI S 28) (w := gI S 27) a b (by omega) (by omega) (by omega) (by omega)
          rw [if_neg e, if_pos (by omega), c91 (by omega) (by omega), YB_ret, w178_46]
    · rw [if_pos (by omega), if_neg (by omega)]
  · rw [if_pos (by omega), if_neg (by omega)]
/-- a sum over a row's cells -/
def yls (f : Nat → Int) : Nat → Nat → Int64 → Int64
  | _, 0, s => s
  | i, n + 1, s => yls f (i + 1) n (s * 31 + yi2l (f i))
theorem c90a {p l B : Int} (hB : B = ((p - 1) * gI S 28 + l - 1) * gI S 27) (h1 : 0 ≤ B) (hw : 0 ≤ gI S 27 ∧ gI S 27 ≤ 60) (h2 : B + gI S 27 ≤ 72000) : ∀ (n : Nat) (k : Int) (s : Int64), 1 ≤ k → k + n = gI S 27 + 1 → Y q (d + 2) 90 5 [vr 129, vi p, vi l, vj s, vu, vi k] [] S js = yret q (vj (yls (gA S 33) (B + k - 1).toNat n s)) S js
  | 0, k, s, hk, hn => by
    rw [w90_5, if_pos (by rw [yr_eq, yr_eq] <;> omega)]
    rfl
  | n + 1, k, s, hk, hn => by
    rw [w90_5, if_neg (by rw [yr_eq, yr_eq] <;> omega), c91 (by rw [← hB]; omega) (by rw [← hB]; omega), YB_ret, w90_27, c90a hB h1 hw h2 n (k + 1) _ (by omega) (by omega), ← hB]
    have e : (B + (k + 1) - 1).toNat = (B + k - 1).toNat + 1 := by omega
    rw [e]
    rfl
theorem c90 {p l B : Int} (hB : B = ((p - 1) * gI S 28 + l - 1) * gI S 27) (h1 : 0 ≤ B) (hw : 0 ≤ gI S 27 ∧ gI S 27 ≤ 60) (h2 : B + gI S 27 ≤ 72000) : Y q (d + 2) 90 0 [vr 129, vi p, vi l, vu, vu, vu] [] S js = yret q (vj (yls (gA S 33) B.toNat (gI S 27).toNat 0)) S js := by
  rw [w90_0, c90a hB h1 hw h2 (gI S 27).toNat 1 0 (by omega) (by omega)]
  have e : B + 1 - 1 = B := by omega
  rw [e]
theorem c180 {x : Int} (hx : -2147483648 ≤ x ∧ x < 2147483648) (h1 : 0 ≤ gI S 32 ∧ gI S 32 ≤ 40) : Y q d 180 0 [vr 81, vi x] [] S js = if 0 ≤ x ∧ x < gI S 32 then yret q (vi (gA S 34 x.toNat)) S js else ythr q (yexc 16) S js := by
  rw [w180_0]
  simp (disch := omega) only [yr_eq]
  repeat' split
  all_goals first | rfl | (exfalso; omega)
theorem c182 {x : Int} (hx : -2147483648 ≤ x ∧ x < 2147483648) (hr : 0 ≤ gI S 30 ∧ gI S 30 ≤ 4) (h1 : 0 < gI S 30 → 0 ≤ gI S 24 ∧ gI S 24 ≤ 3) : Y q d 182 0 [vr 81, vi x] [] S js = if 0 < gI S 30 ∧ 0 ≤ x ∧ x < gI S 24 then yret q (vi (gA S 35 x.toNat)) S js else ythr q (yexc 16) S js := by
  rw [w182_0, yr_eq (x := gI S 30) (by omega) (by omega)]
  by_cases a : gI S 30 = 0
  · rw [if_pos a, if_neg (by omega)]
  · have b := h1 (by omega)
    rw [if_neg a]
    simp (disch := omega) only [yr_eq]
    repeat' split
    all_goals first | rfl | (exfalso; omega)
theorem c181 {x : Int} (hx : -2147483648 ≤ x ∧ x < 2147483648) (hr : 0 ≤ gI S 30 ∧ gI S 30 ≤ 4) (h1 : 0 < gI S 30 → 0 ≤ gI S 9 ∧ gI S 9 ≤ 8) : Y q (d + 1) 181 0 [vr 81, vi x] [] S js = if 0 < gI S 30 ∧ 0 ≤ x ∧ x < gI S 9 then (if yr (gA S 30 (16 + x.toNat)) = 0 then yret q (vj (gB S 9 (16 + x.toNat))) S js else yret q (vj (yi2l (gA S 31 (16 + x.toNat)))) S js) else ythr q (yexc 16) S js := by
  rw [w181_0, yr_eq (x := gI S 30) (by omega) (by omega)]
  by_cases a : gI S 30 = 0
  · rw [if_pos a, if_neg (by omega)]
  · have b := h1 (by omega)
    rw [if_neg a, yr_eq hx.1 hx.2, yr_eq (x := gI S 9) (by omega) (by omega)]
    by_cases c : x < 0
    · rw [if_pos c, if_neg (by omega)]
    · rw [if_neg c]
      by_cases e : x < gI S 9
      · have f : (16 + x : Int) = ((16 + x.toNat : Nat) : Int) := by omega
        rw [if_pos e, if_pos ⟨by omega, by omega, e⟩, f, c70 (by omega), YB_ite, YB_ret, YB_ret, w181_47, w181_47]
      · rw [if_neg e, if_neg (by omega)]
end YPGL
section YPGO
end YPGO
end YPG
