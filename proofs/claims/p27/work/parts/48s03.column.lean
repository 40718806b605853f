/-! taken from whole by wip/p27/slice2.py: 49h.column.lean.txt -/
section YCO
/-- a byte put behind a word -/
theorem yw8 {x : Int64} {b : Int} (h0 : 0 ≤ x.toInt) (h1 : x.toInt < 36028797018963968) (hb : 0 ≤ b ∧ b ≤ 255) : ((ylshl x 8) ||| (yi2l b)).toInt = x.toInt * 256 + b := by
  have e1 : (ylshl x 8).toBitVec = x.toBitVec <<< 8 := rfl
  have e2 : x.toInt = (x.toBitVec.toNat : Int) := by
    have h : x.toInt = if 2 * x.toBitVec.toNat < 2 ^ 64 then (x.toBitVec.toNat : Int) else (x.toBitVec.toNat : Int) - ((2 ^ 64 : Nat) : Int) := BitVec.toInt_eq_toNat_cond _
    by_cases z : 2 * x.toBitVec.toNat < 2 ^ 64
    · rw [h, if_pos z]
    · rw [if_neg z] at h
      have := x.toBitVec.isLt
      omega
  have e3 : (yi2l b).toInt = b := by rw [yi2l_toInt, yr_eq (by omega) (by omega)]
  have e4 : (yi2l b).toBitVec.toNat = b.toNat := by
    have h : (yi2l b).toInt = if 2 * (yi2l b).toBitVec.toNat < 2 ^ 64 then ((yi2l b).toBitVec.toNat : Int) else ((yi2l b).toBitVec.toNat : Int) - ((2 ^ 64 : Nat) : Int) := BitVec.toInt_eq_toNat_cond _
    by_cases z : 2 * (yi2l b).toBitVec.toNat < 2 ^ 64
    · rw [if_pos z] at h
      omega
    · rw [if_neg z] at h
      have := (yi2l b).toBitVec.isLt
      omega
  have e5 : ((ylshl x 8) ||| (yi2l b)).toBitVec.toNat = x.toBitVec.toNat * 256 + b.toNat := by
    rw [Int64.toBitVec_or, BitVec.toNat_or, e1, BitVec.toNat_shiftLeft, e4]
    have h2 : x.toBitVec.toNat <<< 8 = x.toBitVec.toNat * 256 := by rw [Nat.shiftLeft_eq]
    have h3 : x.toBitVec.toNat <<< 8 % 2 ^ 64 = x.toBitVec.toNat <<< 8 := Nat.mod_eq_of_lt (by rw [h2]; omega)
    rw [h3, ← Nat.shiftLeft_add_eq_or_of_lt (show b.toNat < 2 ^ 8 by omega), h2]
  have e6 : ((ylshl x 8) ||| (yi2l b)).toInt = (((ylshl x 8) ||| (yi2l b)).toBitVec.toNat : Int) := BitVec.toInt_eq_toNat_of_lt (by rw [e5]; omega)
  rw [e6, e5]
  omega
theorem pow256 : ∀ {m : Nat}, m ≤ 6 → 1 ≤ (256 : Int) ^ m ∧ (256 : Int) ^ m ≤ 281474976710656
  | 0, _ => by decide
  | 1, _ => by decide
  | 2, _ => by decide
  | 3, _ => by decide
  | 4, _ => by decide
  | 5, _ => by decide
  | 6, _ => by decide
/-- a word of n bytes from i on -/
def ywd (b : Nat → Int) : Nat → Nat → Int64 → Int64
  | _, 0, w => w
  | i, n + 1, w => ywd b (i + 1) n ((ylshl w 8) ||| (yi2l (b i)))
abbrev yL (c : Int) : Prop := 97 ≤ c ∧ c ≤ 122
abbrev yLD (c : Int) : Prop := (97 ≤ c ∧ c ≤ 122) ∨ (48 ≤ c ∧ c ≤ 57)
theorem ywd_cg {f g : Nat → Int} : ∀ {n i : Nat} {w : Int64}, (∀ k, i ≤ k → k < i + n → f k = g k) → ywd f i n w = ywd g i n w
  | 0, i, w, _ => rfl
  | n + 1, i, w, h => by
    unfold ywd
    rw [h i (Nat.le_refl i) (by omega)]
    exact ywd_cg (n := n) (i := i + 1) fun k h1 h2 => h k (by omega) (by omega)
/-- its worth: below 128 * 256^(n-1), and its last byte -/
theorem ywd_rng {b : Nat → Int} : ∀ {n i m : Nat} {w : Int64}, m + n ≤ 8 → (∀ k, i ≤ k → k < i + n → 0 ≤ b k ∧ b k ≤ 127) → 0 ≤ w.toInt → w.toInt < 128 * 256 ^ (m - 1) → 0 < m → 0 ≤ (ywd b i n w).toInt ∧ (ywd b i n w).toInt < 128 * 256 ^ (m + n - 1)
  | 0, i, m, w, hm, hb, h0, h1, hm0 => ⟨h0, h1⟩
  | n + 1, i, m, w, hm, hb, h0, h1, hm0 => by
    have hbi := hb i (Nat.le_refl i) (by omega)
    have p1 := pow256 (m := m - 1) (by omega)
    have e := yw8 (x := w) (b := b i) h0 (by omega) (by omega)
    have p2 : (256 : Int) ^ (m + 1 - 1) = 256 ^ (m - 1) * 256 := by
      have : m + 1 - 1 = (m - 1) + 1 := by omega
      rw [this, Int.pow_succ]
    have := ywd_rng (b := b) (n := n) (i := i + 1) (m := m + 1) (w := (ylshl w 8) ||| (yi2l (b i))) (by omega) (fun k k1 k2 => hb k (by omega) (by omega)) (by omega) (by rw [e, p2]; omega) (by omega)
    have e3 : m + 1 + n - 1 = m + (n + 1) - 1 := by omega
    rw [e3] at this
    exact this
/-- a word's first byte, and on -/
theorem ywd_one {b : Nat → Int} {n i : Nat} (hn : n ≤ 7) (hb : ∀ k, i ≤ k → k < i + (n + 1) → 0 ≤ b k ∧ b k ≤ 127) : 0 ≤ (ywd b i (n + 1) 0).toInt ∧ (ywd b i (n + 1) 0).toInt < 128 * 256 ^ n := by
  have hbi := hb i (Nat.le_refl i) (by omega)
  have e := yw8 (x := 0) (b := b i) (by decide) (by decide) (by omega)
  have z : (0 : Int64).toInt = 0 := rfl
  have := ywd_rng (b := b) (n := n) (i := i + 1) (m := 1) (w := (ylshl 0 8) ||| (yi2l (b i))) (by omega) (fun k k1 k2 => hb k (by omega) (by omega)) (by omega) (by rw [e, z]; show _ < (128 : Int) * 256 ^ 0; omega) (by omega)
  have e3 : 1 + n - 1 = n := by omega
  rw [e3] at this
  exact this
theorem yfind_s (f : Nat → Int64) (w : Int64) (n i : Nat) : yfind f w (n + 1) i = if f i = w then (i : Int) else yfind f w n (i + 1) := rfl
/-- the constants of Kind: the first with a word -/
def yKf (w : Int64) : Nat := if yfind yKw w 67 0 = -1 then 62 else (yfind yKw w 67 0).toNat
theorem yfind_add {f : Nat → Int64} {w : Int64} : ∀ (a b i : Nat), yfind f w (a + b) i = if yfind f w a i = -1 then yfind f w b (i + a) else yfind f w a i
  | 0, b, i => by rw [Nat.zero_add]; rfl
  | a + 1, b, i => by
    have e : a + 1 + b = (a + b) + 1 := by omega
    rw [e]
    show (if f i = w then (i : Int) else yfind f w (a + b) (i + 1)) = if (if f i = w then (i : Int) else yfind f w a (i + 1)) = -1 then _ else (if f i = w then (i : Int) else yfind f w a (i + 1))
    by_cases h : f i = w
    · rw [if_pos h, if_pos h, if_neg (by omega)]
    · rw [if_neg h, if_neg h, yfind_add a b (i + 1)]
      have e2 : i + 1 + a = i + (a + 1) := by omega
      rw [e2]
theorem yfind_no {f : Nat → Int64} {w : Int64} : ∀ {n i : Nat}, (∀ k, i ≤ k → k < i + n → f k ≠ w) → yfind f w n i = -1
  | 0, i, _ => rfl
  | n + 1, i, h => by
    unfold yfind
    rw [if_neg (h i (Nat.le_refl i) (by omega))]
    exact yfind_no (n := n) (i := i + 1) fun k h1 h2 => h k (by omega) (by omega)
section YCOL
variable {q : yQ} {d : Nat} {js : List xO} {S : yS}
theorem c315a {w : Int64} : ∀ (n i : Nat) (x : yV), i + n = 67 → Y q d 315 10 [vj w, vu, vr 67, vi 67, vi i, x] [] S js = yret q (vr (if yfind yKw w n i = -1 then 62 else (yfind yKw w n i).toNat)) S js
  | 0, i, x, h => by
    rw [w315_10, if_neg (by rw [yr_eq, yr_eq] <;> omega)]
    rfl
  | n + 1, i, x, h => by
    have e : yr (i : Int) = i := yr_eq (by omega) (by omega)
    have e1 : (i : Int) + 1 = ((i + 1 : Nat) : Int) := by omega
    rw [w315_10, if_pos (by rw [yr_eq, yr_eq] <;> omega), e, Int.toNat_natCast, if_pos (by omega), if_pos (by omega), yr_lcmp, e1, c315a n (i + 1) _ (by omega)]
    rw [yfind_s]
    by_cases z : yKw i = w
    · rw [if_pos ((ylcmp_eq _ _).mpr z), if_pos z, if_neg (by omega)]
      rfl
    · rw [if_neg (fun y => z ((ylcmp_eq _ _).mp y)), if_neg z]
theorem c315 {w : Int64} : Y q d 315 0 [vj w, vu, vu, vu, vu, vu] [] S js = yret q (vr (yKf w)) S js := by
  rw [w315_0]
  exact c315a 67 0 vu (by omega)
end YCOL
end YCO
