/-! THE PAGES, looked at -/
section YPG
theorem idx_rng {p l k P h w : Int} (hp : 1 ≤ p ∧ p ≤ P) (hl : 1 ≤ l ∧ l ≤ h) (hk : 1 ≤ k ∧ k ≤ w) (hP : P ≤ 30) (hh : h ≤ 40) (hw : w ≤ 60) : 0 ≤ ((p - 1) * h + l - 1) * w ∧ ((p - 1) * h + l - 1) * w + w ≤ P * h * w ∧ P * h * w ≤ 72000 := by
  have a1 : 0 ≤ (p - 1) * h := Int.mul_nonneg (by omega) (by omega)
  have a2 : (p - 1) * h ≤ (P - 1) * h := Int.mul_le_mul_of_nonneg_right (by omega) (by omega)
  have a3 : (P - 1) * h = P * h - h := by rw [Int.sub_mul, Int.one_mul]
  have a4 : 0 ≤ ((p - 1) * h + l - 1) * w := Int.mul_nonneg (by omega) (by omega)
  have a5 : ((p - 1) * h + l - 1) * w ≤ (P * h - 1) * w := Int.mul_le_mul_of_nonneg_right (by omega) (by omega)
  have a6 : (P * h - 1) * w = P * h * w - w := by rw [Int.sub_mul, Int.one_mul]
  have a7 : P * h ≤ 30 * 40 := Int.mul_le_mul hP hh (by omega) (by omega)
  have a8 : P * h * w ≤ 1200 * 60 := Int.mul_le_mul a7 hw (by omega) (by omega)
  omega
section YPGL
variable {q : yQ} {d : Nat} {js : List xO} {S : yS}
theorem c95 {p l : Int} (hp : -2147483648 ≤ p ∧ p < 2147483648) (hl : -2147483648 ≤ l ∧ l < 2147483648) (h1 : 0 ≤ gI S 29 ∧ gI S 29 ≤ 30) : Y q d 95 0 [vr 123, vi p, vi l] [] S js = yret q (vi (yb (1 ≤ p ∧ p ≤ gI S 29 ∧ 1 ≤ l ∧ l ≤ yr (gI S 28)))) S js := by
  rw [w95_0]
  simp only [yz0, yz1, if_true]
  rw [yr_eq hp.1 hp.2, yr_eq hl.1 hl.2, yr_eq (x := 1) (by omega) (by omega), yr_eq (x := gI S 29) (by omega) (by omega)]
  unfold yb
  by_cases a : p < 1
  · rw [if_pos a, if_neg (by omega)]
  · rw [if_neg a]
    by_cases b : gI S 29 < p
    · rw [if_pos b, if_neg (by omega)]
    · rw [if_neg b]
      by_cases c : l < 1
      · rw [if_pos c, if_neg (by omega)]
      · rw [if_neg c]
        by_cases e : yr (gI S 28) < l
        · rw [if_pos e, if_neg (by omega)]
        · rw [if_neg e, if_pos (by omega)]
theorem r306 {p l : Int} (hp : -2147483648 ≤ p ∧ p < 2147483648) (hl : -2147483648 ≤ l ∧ l < 2147483648) (hr : 0 ≤ gI S 66 ∧ gI S 66 ≤ 4) (h1 : 0 < gI S 66 → (0 ≤ gI S 68 ∧ gI S 68 ≤ 30) ∧ 0 ≤ gI S 55 ∧ gI S 55 ≤ 40) : Y q (d + 1) 306 0 [vr 129, vi p, vi l] [] S js = yret q (vi (yb (0 < gI S 66 ∧ 1 ≤ p ∧ p ≤ gI S 68 ∧ 1 ≤ l ∧ l ≤ gI S 55))) S js := by
  rw [w306_0]
  simp only [yz0, yz1, if_true]
  rw [yr_eq (x := gI S 66) (by omega) (by omega)]
  by_cases a : 0 < gI S 66
  · obtain ⟨b1, b2⟩ := h1 a
    rw [if_pos a, r191i (l := 1) (u := gI S 68) e1 rfl hp (by omega) (by omega), YB_ret, w306_18]
    simp only [yr_yb, yb_eq0, yz0, if_true]
    by_cases b : 1 ≤ p ∧ p ≤ gI S 68
    · rw [if_neg (fun z => z b), r191i (l := 1) (u := gI S 55) e1 rfl hl (by omega) (by omega), YB_ret, w306_32]
      simp only [yr_yb, yb_eq0, yz0, yz1, if_true]
      by_cases c : 1 ≤ l ∧ l ≤ gI S 55
      · rw [if_neg (fun z => z c), yb_t (by omega)]
      · rw [if_pos c, yb_f (by omega)]
    · rw [if_pos b, yb_f (by omega)]
  · rw [if_neg a, yb_f (by omega)]
theorem c91 {p l k : Int} (h1 : 0 ≤ ((p - 1) * gI S 28 + l - 1) * gI S 27 + k - 1) (h2 : ((p - 1) * gI S 28 + l - 1) * gI S 27 + k - 1 < 72000) : Y q (d + 1) 91 0 [vr 123, vi p, vi l, vi k] [] S js = yret q (vi (gA S 33 (((p - 1) * gI S 28 + l - 1) * gI S 27 + k - 1).toNat)) S js := by
  rw [w91_0, w92_0, YB_ret, w91_11, if_pos (by rw [yr_eq] <;> omega), yr_eq (by omega) (by omega)]
theorem c178 {p l k : Int} (hp : -2147483648 ≤ p ∧ p < 2147483648) (hl : -2147483648 ≤ l ∧ l < 2147483648) (hk : -2147483648 ≤ k ∧ k < 2147483648) (h1 : 0 ≤ gI S 29 ∧ gI S 29 ≤ 30) (h2 : 0 < gI S 29 → 10 ≤ gI S 27 ∧ gI S 27 ≤ 60 ∧ 4 ≤ gI S 28 ∧ gI S 28 ≤ 40) : Y q (d + 2) 178 0 [vr 75, vi p, vi l, vi k] [] S js = if 1 ≤ p ∧ p ≤ gI S 29 ∧ 1 ≤ l ∧ l ≤ gI S 28 ∧ 1 ≤ k ∧ k ≤ gI S 27 then yret q (vi (gA S 33 (((p - 1) * gI S 28 + l - 1) * gI S 27 + k - 1).toNat)) S js else ythr q (yexc 16) S js := by
  rw [w178_0, c95 hp hl h1, YB_ret, w178_9]
  simp only [yr_yb, yb_eq0]
  rw [yr_eq hk.1 hk.2, yr_eq (x := 1) (by omega) (by omega)]
  by_cases a : 1 ≤ p ∧ p ≤ gI S 29
  · obtain ⟨b1, b2, b3, b4⟩ := h2 (by omega)
    rw [yr_eq (x := gI S 28) (by omega) (by omega), yr_eq (x := gI S 27) (by omega) (by omega)]
    by_cases b : 1 ≤ l ∧ l ≤ gI S 28
    · rw [if_neg (by omega)]
      by_cases c : k < 1
      · rw [if_pos c, if_neg (by omega)]
      · rw [if_neg c]
        by_cases e : gI S 27 < k
        · rw [if_pos e, if_neg (by omega)]
        · have hi := idx_rng (p := p) (l := l) (k := k) (P := gI S 29) (h := gI S 28) (w := gI S 27) a b (by omega) (by omega) (by omega) (by omega)
          rw [if_neg e, if_pos (by omega), c91 (by omega) (by omega), YB_ret, w178_46]
    · rw [if_pos (by omega), if_neg (by omega)]
  · rw [if_pos (by omega), if_neg (by omega)]
theorem r305 {p l k : Int} (hp : -2147483648 ≤ p ∧ p < 2147483648) (hl : -2147483648 ≤ l ∧ l < 2147483648) (hk : -2147483648 ≤ k ∧ k < 2147483648) (hr : 0 ≤ gI S 66 ∧ gI S 66 ≤ 4) (h1 : 0 < gI S 66 → (0 ≤ gI S 68 ∧ gI S 68 ≤ 30) ∧ 4 ≤ gI S 55 ∧ gI S 55 ≤ 40 ∧ 10 ≤ gI S 54 ∧ gI S 54 ≤ 60) : Y q (d + 2) 305 0 [vr 129, vi p, vi l, vi k] [] S js = if 0 < gI S 66 ∧ 1 ≤ p ∧ p ≤ gI S 68 ∧ 1 ≤ l ∧ l ≤ gI S 55 ∧ 1 ≤ k ∧ k ≤ gI S 54 then yret q (vi (gA S 64 (((p - 1) * gI S 55 + l - 1) * gI S 54 + k - 1).toNat)) (sI S 39 0) js else yret q (vi 0) (sI (sI S 39 0) 39 1) js := by
  rw [w305_0, r306 (S := sI S 39 0) hp hl hr (fun z => ⟨(h1 z).1, by have := h1 z; show 0 ≤ gI S 55 ∧ gI S 55 ≤ 40; omega⟩), YB_ret, w305_11]
  simp only [yr_yb, yb_eq0, w188_0, YB_ret]
  by_cases a : 0 < gI S 66 ∧ 1 ≤ p ∧ p ≤ gI S 68 ∧ 1 ≤ l ∧ l ≤ gI S 55
  · obtain ⟨b1, b2, b3, b4, b5⟩ := h1 a.1
    have a' : 0 < gI (sI S 39 0) 66 ∧ 1 ≤ p ∧ p ≤ gI (sI S 39 0) 68 ∧ 1 ≤ l ∧ l ≤ gI (sI S 39 0) 55 := a
    have e8 : gI (sI S 39 0) 54 = gI S 54 := rfl
    rw [if_neg (fun z => z a'), e8, r191i (l := 1) (u := gI S 54) e1 rfl hk (by omega) (by omega), YB_ret, w305_25]
    simp only [yr_yb, yb_eq0, w188_0, YB_ret]
    by_cases c : 1 ≤ k ∧ k ≤ gI S 54
    · have hi := idx_rng (p := p) (l := l) (k := k) (P := gI S 68) (h := gI S 55) (w := gI S 54) ⟨a.2.1, a.2.2.1⟩ ⟨a.2.2.2.1, a.2.2.2.2⟩ c (by omega) (by omega) (by omega)
      have e9 : (p - 1) * gI (sI S 39 0) 55 + (l - 1) = (p - 1) * gI S 55 + l - 1 := by show (p - 1) * gI S 55 + (l - 1) = _; omega
      rw [if_neg (fun z => z c), if_pos (by omega), w285_0, YB_ret, w305_40, e9]
      rw [e8, if_pos (by rw [yr_eq] <;> omega), yr_eq (by omega) (by omega)]
      rfl
    · rw [if_pos c, if_neg (by omega), w305_53]
  · have a' : ¬ (0 < gI (sI S 39 0) 66 ∧ 1 ≤ p ∧ p ≤ gI (sI S 39 0) 68 ∧ 1 ≤ l ∧ l ≤ gI (sI S 39 0) 55) := a
    rw [if_pos a', if_neg (by omega), w305_53]
/-- a sum over a row's cells -/
def yls (f : Nat → Int) : Nat → Nat → Int64 → Int64
  | _, 0, s => s
  | i, n + 1, s => yls f (i + 1) n (s * 31 + yi2l (f i))
theorem yls_cg {f g : Nat → Int} : ∀ {n i : Nat} {s : Int64}, (∀ k, i ≤ k → k < i + n → f k = g k) → yls f i n s = yls g i n s
  | 0, i, s, _ => rfl
  | n + 1, i, s, h => by
    unfold yls
    rw [h i (Nat.le_refl i) (by omega)]
    exact yls_cg (n := n) (i := i + 1) fun k h1 h2 => h k (by omega) (by omega)
theorem c90a {p l B : Int} (hB : B = ((p - 1) * gI S 28 + l - 1) * gI S 27) (h1 : 0 ≤ B) (hw : 0 ≤ gI S 27 ∧ gI S 27 ≤ 60) (h2 : B + gI S 27 ≤ 72000) : ∀ (n : Nat) (k : Int) (s : Int64), 1 ≤ k → k + n = gI S 27 + 1 → Y q (d + 2) 90 5 [vr 123, vi p, vi l, vj s, vu, vi k] [] S js = yret q (vj (yls (gA S 33) (B + k - 1).toNat n s)) S js
  | 0, k, s, hk, hn => by
    rw [w90_5, if_pos (by rw [yr_eq, yr_eq] <;> omega)]
    rfl
  | n + 1, k, s, hk, hn => by
    rw [w90_5, if_neg (by rw [yr_eq, yr_eq] <;> omega), c91 (by rw [← hB]; omega) (by rw [← hB]; omega), YB_ret, w90_27, c90a hB h1 hw h2 n (k + 1) _ (by omega) (by omega), ← hB]
    have e : (B + (k + 1) - 1).toNat = (B + k - 1).toNat + 1 := by omega
    rw [e]
    rfl
theorem c90 {p l B : Int} (hB : B = ((p - 1) * gI S 28 + l - 1) * gI S 27) (h1 : 0 ≤ B) (hw : 0 ≤ gI S 27 ∧ gI S 27 ≤ 60) (h2 : B + gI S 27 ≤ 72000) : Y q (d + 2) 90 0 [vr 123, vi p, vi l, vu, vu, vu] [] S js = yret q (vj (yls (gA S 33) B.toNat (gI S 27).toNat 0)) S js := by
  rw [w90_0, c90a hB h1 hw h2 (gI S 27).toNat 1 0 (by omega) (by omega)]
  have e : B + 1 - 1 = B := by omega
  rw [e]
theorem r308a {p l B : Int} (hB : B + gI S 54 = ((p - 1) * gI S 55 + l) * gI S 54) (h1 : 0 ≤ B) (hw : 0 ≤ gI S 54 ∧ gI S 54 ≤ 60) (h2 : B + gI S 54 ≤ 72000) : ∀ (n : Nat) (k : Int) (s : Int64), B ≤ k → k + n = B + gI S 54 → Y q (d + 1) 308 12 [vr 129, vi p, vi l, vj s, vu, vi k] [] S js = yret q (vj (yls (gA S 64) k.toNat n s)) S js
  | 0, k, s, hk, hn => by
    rw [w308_12, w285_0, YB_ret, w308_20, ← hB, if_neg (by rw [yr_eq, yr_eq] <;> omega)]
    rfl
  | n + 1, k, s, hk, hn => by
    rw [w308_12, w285_0, YB_ret, w308_20, ← hB, if_pos (by rw [yr_eq, yr_eq] <;> omega), if_pos (by rw [yr_eq] <;> omega), r308a hB h1 hw h2 n (k + 1) _ (by omega) (by omega), yr_eq (by omega) (by omega)]
    have e : (k + 1).toNat = k.toNat + 1 := by omega
    rw [e]
    rfl
theorem r308 {p l B : Int} (hB : B = ((p - 1) * gI S 55 + l - 1) * gI S 54) (h1 : 0 ≤ B) (hw : 0 ≤ gI S 54 ∧ gI S 54 ≤ 60) (h2 : B + gI S 54 ≤ 72000) : Y q (d + 1) 308 0 [vr 129, vi p, vi l, vu, vu, vu] [] S js = yret q (vj (yls (gA S 64) B.toNat (gI S 54).toNat 0)) S js := by
  have e : (p - 1) * gI S 55 + (l - 1) = (p - 1) * gI S 55 + l - 1 := by omega
  have e2 : B + gI S 54 = ((p - 1) * gI S 55 + l) * gI S 54 := by
    have : ((p - 1) * gI S 55 + l - 1) * gI S 54 = ((p - 1) * gI S 55 + l) * gI S 54 - gI S 54 := by rw [Int.sub_mul, Int.one_mul]
    omega
  rw [w308_0, w285_0, YB_ret, w308_10, e, ← hB, r308a e2 h1 hw h2 (gI S 54).toNat B 0 (by omega) (by omega)]
theorem c179 {p l : Int} (hp : -2147483648 ≤ p ∧ p < 2147483648) (hl : -2147483648 ≤ l ∧ l < 2147483648) (h1 : 0 ≤ gI S 29 ∧ gI S 29 ≤ 30) (h2 : 0 < gI S 29 → 10 ≤ gI S 27 ∧ gI S 27 ≤ 60 ∧ 4 ≤ gI S 28 ∧ gI S 28 ≤ 40) : Y q (d + 3) 179 0 [vr 75, vi p, vi l] [] S js = if 1 ≤ p ∧ p ≤ gI S 29 ∧ 1 ≤ l ∧ l ≤ gI S 28 then yret q (vj (yls (gA S 33) (((p - 1) * gI S 28 + l - 1) * gI S 27).toNat (gI S 27).toNat 0)) S js else ythr q (yexc 16) S js := by
  rw [w179_0, c95 hp hl h1, YB_ret, w179_9]
  simp only [yr_yb, yb_eq0]
  by_cases a : 1 ≤ p ∧ p ≤ gI S 29
  · obtain ⟨b1, b2, b3, b4⟩ := h2 (by omega)
    rw [yr_eq (x := gI S 28) (by omega) (by omega)]
    by_cases b : 1 ≤ l ∧ l ≤ gI S 28
    · have hi := idx_rng (p := p) (l := l) (k := 1) (P := gI S 29) (h := gI S 28) (w := gI S 27) a b (by omega) (by omega) (by omega) (by omega)
      rw [if_neg (by omega), if_pos (by omega), c90 rfl (by omega) (by omega) (by omega), YB_ret, w179_29]
    · rw [if_pos (by omega), if_neg (by omega)]
  · rw [if_pos (by omega), if_neg (by omega)]
theorem r307 {p l : Int} (hp : -2147483648 ≤ p ∧ p < 2147483648) (hl : -2147483648 ≤ l ∧ l < 2147483648) (hr : 0 ≤ gI S 66 ∧ gI S 66 ≤ 4) (h1 : 0 < gI S 66 → (0 ≤ gI S 68 ∧ gI S 68 ≤ 30) ∧ 4 ≤ gI S 55 ∧ gI S 55 ≤ 40 ∧ 10 ≤ gI S 54 ∧ gI S 54 ≤ 60) : Y q (d + 2) 307 0 [vr 129, vi p, vi l] [] S js = if 0 < gI S 66 ∧ 1 ≤ p ∧ p ≤ gI S 68 ∧ 1 ≤ l ∧ l ≤ gI S 55 then yret q (vj (yls (gA S 64) (((p - 1) * gI S 55 + l - 1) * gI S 54).toNat (gI S 54).toNat 0)) (sI S 39 0) js else yret q (vj 0) (sI S 39 1) js := by
  rw [w307_0, r306 hp hl hr (fun z => ⟨(h1 z).1, by have := h1 z; omega⟩), YB_ret, w307_7]
  simp only [yr_yb, yb_eq0]
  have e0 : ¬ yr 1 = 0 := by decide
  have e1 : yr 0 = 0 := rfl
  rw [if_neg e0, if_pos e1]
  by_cases a : 0 < gI S 66 ∧ 1 ≤ p ∧ p ≤ gI S 68 ∧ 1 ≤ l ∧ l ≤ gI S 55
  · obtain ⟨b1, b2, b3, b4, b5⟩ := h1 a.1
    have hi := idx_rng (p := p) (l := l) (k := 1) (P := gI S 68) (h := gI S 55) (w := gI S 54) ⟨a.2.1, a.2.2.1⟩ ⟨a.2.2.2.1, a.2.2.2.2⟩ (by omega) (by omega) (by omega) (by omega)
    rw [if_neg (fun z => z a), if_pos a, r308 (S := sI S 39 0) rfl (show 0 ≤ ((p - 1) * gI S 55 + l - 1) * gI S 54 by omega) (show 0 ≤ gI S 54 ∧ gI S 54 ≤ 60 by omega) (show ((p - 1) * gI S 55 + l - 1) * gI S 54 + gI S 54 ≤ 72000 by omega), YB_ret, w307_31]
    rfl
  · rw [if_pos a, if_neg a]
theorem c180 {x : Int} (hx : -2147483648 ≤ x ∧ x < 2147483648) (h1 : 0 ≤ gI S 32 ∧ gI S 32 ≤ 40) : Y q d 180 0 [vr 75, vi x] [] S js = if 0 ≤ x ∧ x < gI S 32 then yret q (vi (gA S 34 x.toNat)) S js else ythr q (yexc 16) S js := by
  rw [w180_0]
  simp (disch := omega) only [yr_eq]
  repeat' split
  all_goals first | rfl | (exfalso; omega)
theorem r309 {x : Int} (hx : -2147483648 ≤ x ∧ x < 2147483648) (hr : 0 ≤ gI S 66 ∧ gI S 66 ≤ 4) (h1 : 0 < gI S 66 → 0 ≤ gI S 69 ∧ gI S 69 ≤ 40) : Y q (d + 1) 309 0 [vr 129, vi x] [] S js = if 0 < gI S 66 ∧ 0 ≤ x ∧ x < gI S 69 then yret q (vi (gA S 61 x.toNat)) (sI S 39 0) js else yret q (vi 0) (sI (sI S 39 0) 39 1) js := by
  rw [w309_0, yr_eq (x := gI S 66) (by omega) (by omega), w188_0, YB_ret, w309_42]
  by_cases a : 0 < gI S 66
  · have b := h1 a
    rw [if_pos a, r191i (l := 0) (u := gI S 69 - 1) e0 rfl hx (by omega) (by omega), YB_ret, w309_25]
    simp only [yr_yb, yb_eq0, w188_0, YB_ret]
    by_cases c : 0 ≤ x ∧ x < gI S 69
    · rw [if_neg (by omega), if_pos (show 0 < gI S 66 ∧ 0 ≤ x ∧ x < gI S 69 from ⟨a, c⟩), yr_eq hx.1 hx.2, if_pos (by omega)]
      rfl
    · rw [if_pos (by omega), if_neg (by omega), w309_42]
  · rw [if_neg a, if_neg (by omega)]
theorem c182 {x : Int} (hx : -2147483648 ≤ x ∧ x < 2147483648) (hr : 0 ≤ gI S 30 ∧ gI S 30 ≤ 4) (h1 : 0 < gI S 30 → 0 ≤ gI S 24 ∧ gI S 24 ≤ 3) : Y q d 182 0 [vr 75, vi x] [] S js = if 0 < gI S 30 ∧ 0 ≤ x ∧ x < gI S 24 then yret q (vi (gA S 35 x.toNat)) S js else ythr q (yexc 16) S js := by
  rw [w182_0, yr_eq (x := gI S 30) (by omega) (by omega)]
  by_cases a : gI S 30 = 0
  · rw [if_pos a, if_neg (by omega)]
  · have b := h1 (by omega)
    rw [if_neg a]
    simp (disch := omega) only [yr_eq]
    repeat' split
    all_goals first | rfl | (exfalso; omega)
theorem r311 {x : Int} (hx : -2147483648 ≤ x ∧ x < 2147483648) (hr : 0 ≤ gI S 66 ∧ gI S 66 ≤ 4) (h1 : 0 < gI S 66 → 0 ≤ gI S 57 ∧ gI S 57 ≤ 3) : Y q (d + 1) 311 0 [vr 129, vi x] [] S js = if 0 < gI S 66 ∧ 0 ≤ x ∧ x < gI S 57 then yret q (vi (gA S 62 x.toNat)) (sI S 39 0) js else yret q (vi 0) (sI (sI S 39 0) 39 1) js := by
  rw [w311_0, yr_eq (x := gI S 66) (by omega) (by omega), w188_0, YB_ret, w311_42]
  by_cases a : 0 < gI S 66
  · have b := h1 a
    rw [if_pos a, r191i (l := 0) (u := gI S 57 - 1) e0 rfl hx (by omega) (by omega), YB_ret, w311_25]
    simp only [yr_yb, yb_eq0, w188_0, YB_ret]
    by_cases c : 0 ≤ x ∧ x < gI S 57
    · rw [if_neg (by omega), if_pos (show 0 < gI S 66 ∧ 0 ≤ x ∧ x < gI S 57 from ⟨a, c⟩), yr_eq hx.1 hx.2, if_pos (by omega)]
      rfl
    · rw [if_pos (by omega), if_neg (by omega), w311_42]
  · rw [if_neg a, if_neg (by omega)]
theorem c181 {x : Int} (hx : -2147483648 ≤ x ∧ x < 2147483648) (hr : 0 ≤ gI S 30 ∧ gI S 30 ≤ 4) (h1 : 0 < gI S 30 → 0 ≤ gI S 9 ∧ gI S 9 ≤ 8) : Y q (d + 1) 181 0 [vr 75, vi x] [] S js = if 0 < gI S 30 ∧ 0 ≤ x ∧ x < gI S 9 then (if yr (gA S 30 (16 + x.toNat)) = 0 then yret q (vj (gB S 9 (16 + x.toNat))) S js else yret q (vj (yi2l (gA S 31 (16 + x.toNat)))) S js) else ythr q (yexc 16) S js := by
  rw [w181_0, yr_eq (x := gI S 30) (by omega) (by omega)]
  by_cases a : gI S 30 = 0
  · rw [if_pos a, if_neg (by omega)]
  · have b := h1 (by omega)
    rw [if_neg a, yr_eq hx.1 hx.2, yr_eq (x := gI S 9) (by omega) (by omega)]
    by_cases c : x < 0
    · rw [if_pos c, if_neg (by omega)]
    · rw [if_neg c]
      by_cases e : x < gI S 9
      · have f : (16 + x : Int) = ((16 + x.toNat : Nat) : Int) := by omega
        rw [if_pos e, if_pos ⟨by omega, by omega, e⟩, f, c70 (by omega), YB_ite, YB_ret, YB_ret, w181_47, w181_47]
      · rw [if_neg e, if_neg (by omega)]
theorem r310 {x : Int} (hx : -2147483648 ≤ x ∧ x < 2147483648) (hr : 0 ≤ gI S 66 ∧ gI S 66 ≤ 4) (h1 : 0 < gI S 66 → 0 ≤ gI S 52 ∧ gI S 52 ≤ 8) : Y q (d + 1) 310 0 [vr 129, vi x] [] S js = if 0 < gI S 66 ∧ 0 ≤ x ∧ x < gI S 52 then (if yr (gA S 59 (8 + x.toNat)) = -1 then yret q (vj (gB S 17 (8 + x.toNat))) (sI S 39 0) js else yret q (vj (yi2l (gA S 59 (8 + x.toNat)))) (sI S 39 0) js) else yret q (vj 0) (sI S 39 1) js := by
  have e10 : ¬ yr 1 = 0 := by decide
  have e11 : yr 0 = 0 := rfl
  have e12 : yr (-1) = -1 := rfl
  rw [w310_0, yr_eq (x := gI S 66) (by omega) (by omega), if_neg e10]
  by_cases a : 0 < gI S 66
  · have b := h1 a
    rw [if_pos a, r191i (l := 0) (u := gI S 52 - 1) e0 rfl hx (by omega) (by omega), YB_ret, w310_21, if_neg e10, if_pos e11]
    simp only [yr_yb, yb_eq0]
    by_cases c : 0 ≤ x ∧ x < gI S 52
    · have f : yr (8 + x) = 8 + x := yr_eq (by omega) (by omega)
      have g : (8 + x : Int).toNat = 8 + x.toNat := by omega
      have h : 0 ≤ 8 + x ∧ 8 + x < 16 := by omega
      rw [if_neg (by omega), if_pos (show 0 < gI S 66 ∧ 0 ≤ x ∧ x < gI S 52 from ⟨a, c⟩), f, g, e12]
      simp only [h, and_self, if_true]
    · rw [if_pos (by omega), if_neg (by omega)]
  · rw [if_neg a, if_neg (by omega)]
end YPGL
section YPGO
theorem op17 : yCall yI 17 := by
  intro q S js x0 d y1 y2 y3 y4 hL h0 h6 hop hI
  obtain ⟨hTp, hTb, hCd, hPg, hRs, hRn⟩ := id hI
  have hp := xa_rng q (x0 + 1)
  have hl := xa_rng q (x0 + 2)
  have hk := xa_rng q (x0 + 3)
  obtain ⟨n1, n2, n3, n4, n5⟩ := id hRn.1
  have hP : 0 ≤ gI S 29 ∧ gI S 29 ≤ 30 := by
    by_cases z : gI S 30 = 0
    · have := n4 z; omega
    · have := n5 (by omega); omega
  have hW : 0 < gI S 29 → 0 < gI S 30 ∧ gI S 68 = gI S 29 ∧ gI S 55 = gI S 28 ∧ gI S 54 = gI S 27 ∧ 10 ≤ gI S 27 ∧ gI S 27 ≤ 60 ∧ 4 ≤ gI S 28 ∧ gI S 28 ≤ 40 := by
    intro z
    by_cases z' : gI S 30 = 0
    · have := n4 z'; omega
    · have h5 := n5 (by omega)
      have h9 := hPg.2.2.2 h5.1
      omega
  have hM : 0 < gI S 66 → (0 ≤ gI S 68 ∧ gI S 68 ≤ 30) ∧ 4 ≤ gI S 55 ∧ gI S 55 ≤ 40 ∧ 10 ≤ gI S 54 ∧ gI S 54 ≤ 60 := by
    intro z
    have h5 := n5 (by omega)
    have h9 := hPg.2.2.2 h5.1
    omega
  have hc := c178 (q := q) (d := d + 396) (js := js) (S := S) hp hl hk hP (fun z => (hW z).2.2.2.2)
  by_cases a : 1 ≤ xa q (x0 + 1) ∧ xa q (x0 + 1) ≤ gI S 29 ∧ 1 ≤ xa q (x0 + 2) ∧ xa q (x0 + 2) ≤ gI S 28 ∧ 1 ≤ xa q (x0 + 3) ∧ xa q (x0 + 3) ≤ gI S 27
  · obtain ⟨w1, w2, w3, w4, w5⟩ := hW (by omega)
    rw [if_pos a] at hc
    have hm := fun w => (r305 (q := q) (d := d + 397) (js := js) (S := sB S 18 0 w) hp hl hk (show 0 ≤ gI S 66 ∧ gI S 66 ≤ 4 by omega) hM).trans (if_pos (show 0 < gI S 66 ∧ 1 ≤ xa q (x0 + 1) ∧ xa q (x0 + 1) ≤ gI S 68 ∧ 1 ≤ xa q (x0 + 2) ∧ xa q (x0 + 2) ≤ gI S 55 ∧ 1 ≤ xa q (x0 + 3) ∧ xa q (x0 + 3) ≤ gI S 54 by omega))
    refine k17_ok hL h0 h6 hop hc (hm _) rfl (congrArg yi2l ?_) (yI_thr (yI_out hI)) (by omega) (by omega)
    show gA S 33 _ = gA S 64 (((xa q (x0 + 1) - 1) * gI S 55 + xa q (x0 + 2) - 1) * gI S 54 + xa q (x0 + 3) - 1).toNat
    have hi := idx_rng (p := xa q (x0 + 1)) (l := xa q (x0 + 2)) (k := xa q (x0 + 3)) (P := gI S 29) (h := gI S 28) (w := gI S 27) ⟨a.1, a.2.1⟩ ⟨a.2.2.1, a.2.2.2.1⟩ ⟨a.2.2.2.2.1, a.2.2.2.2.2⟩ hP.2 (by omega) (by omega)
    rw [w3, w4]
    obtain ⟨-, -, -, -, -, -, -, -, -, -, -, -, -, -, -, -, -, -, hpp, -⟩ := n5 w1
    exact (hpp _ (by omega)).symm
  · rw [if_neg a] at hc
    have hm := (r305 (q := q) (d := d + 397) (js := js ++ [yexc 16]) (S := S) hp hl hk (by omega) hM).trans (if_neg (by
      intro z
      have h5 := n5 (by omega)
      have h9 := hPg.2.2.2 h5.1
      omega))
    exact k17_16 hL h0 h6 hop hc hm rfl (yI_thr (yI_thr hI)) (len_1 _ _) (xsum_1 _ _)
theorem op18 : yCall yI 18 := by
  intro q S js x0 d y1 y2 y3 y4 hL h0 h6 hop hI
  obtain ⟨hTp, hTb, hCd, hPg, hRs, hRn⟩ := id hI
  have hp := xa_rng q (x0 + 1)
  have hl := xa_rng q (x0 + 2)
  obtain ⟨n1, n2, n3, n4, n5⟩ := id hRn.1
  have hP : 0 ≤ gI S 29 ∧ gI S 29 ≤ 30 := by
    by_cases z : gI S 30 = 0
    · have := n4 z; omega
    · have := n5 (by omega); omega
  have hW : 0 < gI S 29 → 0 < gI S 30 ∧ gI S 68 = gI S 29 ∧ gI S 55 = gI S 28 ∧ gI S 54 = gI S 27 ∧ 10 ≤ gI S 27 ∧ gI S 27 ≤ 60 ∧ 4 ≤ gI S 28 ∧ gI S 28 ≤ 40 := by
    intro z
    by_cases z' : gI S 30 = 0
    · have := n4 z'; omega
    · have h5 := n5 (by omega)
      have h9 := hPg.2.2.2 h5.1
      omega
  have hM : 0 < gI S 66 → (0 ≤ gI S 68 ∧ gI S 68 ≤ 30) ∧ 4 ≤ gI S 55 ∧ gI S 55 ≤ 40 ∧ 10 ≤ gI S 54 ∧ gI S 54 ≤ 60 := by
    intro z
    have h5 := n5 (by omega)
    have h9 := hPg.2.2.2 h5.1
    omega
  have hc := c179 (q := q) (d := d + 395) (js := js) (S := S) hp hl hP (fun z => (hW z).2.2.2.2)
  by_cases a : 1 ≤ xa q (x0 + 1) ∧ xa q (x0 + 1) ≤ gI S 29 ∧ 1 ≤ xa q (x0 + 2) ∧ xa q (x0 + 2) ≤ gI S 28
  · obtain ⟨w1, w2, w3, w4, w5⟩ := hW (by omega)
    rw [if_pos a] at hc
    have hm := fun w => (r307 (q := q) (d := d + 397) (js := js) (S := sB S 18 0 w) hp hl (show 0 ≤ gI S 66 ∧ gI S 66 ≤ 4 by omega) hM).trans (if_pos (show 0 < gI S 66 ∧ 1 ≤ xa q (x0 + 1) ∧ xa q (x0 + 1) ≤ gI S 68 ∧ 1 ≤ xa q (x0 + 2) ∧ xa q (x0 + 2) ≤ gI S 55 by omega))
    refine k18_ok hL h0 h6 hop hc (hm _) rfl ?_ (yI_thr (yI_out hI)) (by omega) (by omega)
    show _ = yls (gA S 64) (((xa q (x0 + 1) - 1) * gI S 55 + xa q (x0 + 2) - 1) * gI S 54).toNat (gI S 54).toNat 0
    have hi := idx_rng (p := xa q (x0 + 1)) (l := xa q (x0 + 2)) (k := 1) (P := gI S 29) (h := gI S 28) (w := gI S 27) ⟨a.1, a.2.1⟩ ⟨a.2.2.1, a.2.2.2⟩ (by omega) hP.2 (by omega) (by omega)
    rw [w3, w4]
    obtain ⟨-, -, -, -, -, -, -, -, -, -, -, -, -, -, -, -, -, -, hpp, -⟩ := n5 w1
    exact yls_cg fun k k1 k2 => (hpp k (by omega)).symm
  · rw [if_neg a] at hc
    have hm := (r307 (q := q) (d := d + 397) (js := js ++ [yexc 16]) (S := S) hp hl (by omega) hM).trans (if_neg (by
      intro z
      have h5 := n5 (by omega)
      have h9 := hPg.2.2.2 h5.1
      omega))
    exact k18_16 hL h0 h6 hop hc hm rfl (yI_thr hI) (len_1 _ _) (xsum_1 _ _)
theorem op19 : yCall yI 19 := by
  intro q S js x0 d y1 y2 y3 y4 hL h0 h6 hop hI
  obtain ⟨hTp, hTb, hCd, hPg, hRs, hRn⟩ := id hI
  have hp := xa_rng q (x0 + 1)
  obtain ⟨n1, n2, n3, n4, n5⟩ := id hRn.1
  have hP : 0 ≤ gI S 32 ∧ gI S 32 ≤ 40 := by
    by_cases z : gI S 30 = 0
    · have := n4 z; omega
    · have := n5 (by omega); omega
  have hM : 0 < gI S 66 → 0 ≤ gI S 69 ∧ gI S 69 ≤ 40 := fun z => by have := n5 (by omega); omega
  have hc := c180 (q := q) (d := d + 398) (js := js) (S := S) hp hP
  by_cases a : 0 ≤ xa q (x0 + 1) ∧ xa q (x0 + 1) < gI S 32
  · rw [if_pos a] at hc
    have z : 0 < gI S 30 := by
      by_cases z : gI S 30 = 0
      · have := n4 z; omega
      · omega
    have h5 := n5 z
    have hm := fun w => (r309 (q := q) (d := d + 398) (js := js) (S := sB S 18 0 w) hp (show 0 ≤ gI S 66 ∧ gI S 66 ≤ 4 by omega) hM).trans (if_pos (show 0 < gI S 66 ∧ 0 ≤ xa q (x0 + 1) ∧ xa q (x0 + 1) < gI S 69 by omega))
    refine k19_ok hL h0 h6 hop hc (hm _) rfl (congrArg yi2l ?_) (yI_thr (yI_out hI)) (by omega) (by omega)
    obtain ⟨-, -, -, -, -, -, -, -, -, -, -, -, -, -, -, -, -, -, -, hpp, -⟩ := h5
    exact (hpp _ (by omega)).symm
  · rw [if_neg a] at hc
    have hm := (r309 (q := q) (d := d + 398) (js := js ++ [yexc 16]) (S := S) hp (by omega) hM).trans (if_neg (by
      intro z
      have h5 := n5 (by omega)
      omega))
    exact k19_16 hL h0 h6 hop hc hm rfl (yI_thr (yI_thr hI)) (len_1 _ _) (xsum_1 _ _)
theorem op21 : yCall yI 21 := by
  intro q S js x0 d y1 y2 y3 y4 hL h0 h6 hop hI
  obtain ⟨hTp, hTb, hCd, hPg, hRs, hRn⟩ := id hI
  have hp := xa_rng q (x0 + 1)
  obtain ⟨n1, n2, n3, n4, n5⟩ := id hRn.1
  have hN : 0 < gI S 30 → 0 ≤ gI S 24 ∧ gI S 24 ≤ 3 := fun z => by have := n5 (by omega); omega
  have hM : 0 < gI S 66 → 0 ≤ gI S 57 ∧ gI S 57 ≤ 3 := fun z => by have := n5 (by omega); omega
  have hc := c182 (q := q) (d := d + 398) (js := js) (S := S) hp ⟨n2, n3⟩ hN
  by_cases a : 0 < gI S 30 ∧ 0 ≤ xa q (x0 + 1) ∧ xa q (x0 + 1) < gI S 24
  · rw [if_pos a] at hc
    have h5 := n5 a.1
    have hm := fun w => (r311 (q := q) (d := d + 398) (js := js) (S := sB S 18 0 w) hp (show 0 ≤ gI S 66 ∧ gI S 66 ≤ 4 by omega) hM).trans (if_pos (show 0 < gI S 66 ∧ 0 ≤ xa q (x0 + 1) ∧ xa q (x0 + 1) < gI S 57 by omega))
    refine k21_ok hL h0 h6 hop hc (hm _) rfl (congrArg yi2l ?_) (yI_thr (yI_out hI)) (by omega) (by omega)
    obtain ⟨-, -, -, -, -, -, -, -, -, -, -, -, -, -, -, -, -, -, -, -, hpp, -⟩ := h5
    exact (hpp _ (by omega)).symm
  · rw [if_neg a] at hc
    have hm := (r311 (q := q) (d := d + 398) (js := js ++ [yexc 16]) (S := S) hp (by omega) hM).trans (if_neg (by
      intro z
      have h5 := n5 (by omega)
      omega))
    exact k21_16 hL h0 h6 hop hc hm rfl (yI_thr (yI_thr hI)) (len_1 _ _) (xsum_1 _ _)
theorem op20 : yCall yI 20 := by
  intro q S js x0 d y1 y2 y3 y4 hL h0 h6 hop hI
  obtain ⟨hTp, hTb, hCd, hPg, hRs, hRn⟩ := id hI
  have hp := xa_rng q (x0 + 1)
  obtain ⟨n1, n2, n3, n4, n5⟩ := id hRn.1
  have hN : 0 < gI S 30 → 0 ≤ gI S 9 ∧ gI S 9 ≤ 8 := fun z => by have := n5 (by omega); omega
  have hM : 0 < gI S 66 → 0 ≤ gI S 52 ∧ gI S 52 ≤ 8 := fun z => by have := n5 (by omega); omega
  have hc := c181 (q := q) (d := d + 397) (js := js) (S := S) hp ⟨n2, n3⟩ hN
  by_cases a : 0 < gI S 30 ∧ 0 ≤ xa q (x0 + 1) ∧ xa q (x0 + 1) < gI S 9
  · rw [if_pos a] at hc
    have h5 := n5 a.1
    have hm := fun w => (r310 (q := q) (d := d + 398) (js := js) (S := sB S 18 0 w) hp (show 0 ≤ gI S 66 ∧ gI S 66 ≤ 4 by omega) hM).trans (if_pos (show 0 < gI S 66 ∧ 0 ≤ xa q (x0 + 1) ∧ xa q (x0 + 1) < gI S 52 by omega))
    obtain ⟨-, -, -, -, -, -, -, -, -, -, -, -, -, -, -, -, -, -, -, -, -, hpp⟩ := h5
    rcases hpp (xa q (x0 + 1)).toNat (by omega) with ⟨u1, u2, u3⟩ | ⟨u1, u2, u3, u4⟩
    · rw [if_pos (by rw [u1]; rfl)] at hc
      have hm := fun w => (hm w).trans (if_pos (show yr (gA S 59 (8 + (xa q (x0 + 1)).toNat)) = -1 by rw [u2]; rfl))
      exact k20_ok hL h0 h6 hop hc (hm _) rfl u3.symm (yI_thr (yI_out hI)) (by omega) (by omega)
    · rw [if_neg (by rw [u1]; decide)] at hc
      have hm := fun w => (hm w).trans (if_neg (show ¬ yr (gA S 59 (8 + (xa q (x0 + 1)).toNat)) = -1 by rw [u2, yr_eq] <;> omega))
      exact k20_ok hL h0 h6 hop hc (hm _) rfl (congrArg yi2l u2.symm) (yI_thr (yI_out hI)) (by omega) (by omega)
  · rw [if_neg a] at hc
    have hm := (r310 (q := q) (d := d + 398) (js := js ++ [yexc 16]) (S := S) hp (by omega) hM).trans (if_neg (by
      intro z
      have h5 := n5 (by omega)
      omega))
    exact k20_16 hL h0 h6 hop hc hm rfl (yI_thr hI) (len_1 _ _) (xsum_1 _ _)
end YPGO
end YPG
