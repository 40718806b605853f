/-! RUN: rows in their order -/
section YTA
abbrev ynv (x : Int64) : Nat := x.toBitVec.toNat
theorem ynv_shl {x : Int64} (h : ynv x < 72057594037927936) : ynv (ylshl x 8) = ynv x * 256 := by
  have e1 : (ylshl x 8).toBitVec = x.toBitVec <<< 8 := rfl
  show (ylshl x 8).toBitVec.toNat = _
  rw [e1, BitVec.toNat_shiftLeft, Nat.shiftLeft_eq]
  exact Nat.mod_eq_of_lt (by show x.toBitVec.toNat * 2 ^ 8 < 2 ^ 64; have h : x.toBitVec.toNat < 72057594037927936 := h; omega)
theorem ynv_shr {x : Int64} : ylushr x 56 = 0 ↔ ynv x < 72057594037927936 := by
  have e1 : (ylushr x 56).toBitVec = x.toBitVec >>> 56 := rfl
  have e2 : (ylushr x 56).toBitVec.toNat = x.toBitVec.toNat / 2 ^ 56 := by rw [e1, BitVec.toNat_ushiftRight, Nat.shiftRight_eq_div_pow]
  have e3 : (2 : Nat) ^ 56 = 72057594037927936 := by decide
  rw [e3] at e2
  constructor
  · intro h
    rw [h] at e2
    have e2 : 0 = x.toBitVec.toNat / 72057594037927936 := e2
    show x.toBitVec.toNat < _
    omega
  · intro h
    have h : x.toBitVec.toNat < 72057594037927936 := h
    have : (ylushr x 56).toBitVec.toNat = 0 := by rw [e2]; omega
    exact Int64.toBitVec_inj.mp (BitVec.eq_of_toNat_eq this)
theorem ynv_0 {x : Int64} : x = 0 ↔ ynv x = 0 := by
  constructor
  · intro h
    rw [h]
    rfl
  · intro h
    exact Int64.toBitVec_inj.mp (BitVec.eq_of_toNat_eq h)
theorem ynv_int {x : Int64} (h : ynv x < 9223372036854775808) : x.toInt = ynv x := by
  have e : x.toInt = if 2 * x.toBitVec.toNat < 2 ^ 64 then (x.toBitVec.toNat : Int) else (x.toBitVec.toNat : Int) - ((2 ^ 64 : Nat) : Int) := BitVec.toInt_eq_toNat_cond _
  have h : x.toBitVec.toNat < 9223372036854775808 := h
  rw [if_pos (by omega)] at e
  exact e
/-- the first byte highest -/
def ylef : Nat → Int64 → Int64
  | 0, a => a
  | n + 1, a => if ylushr a 56 = 0 then ylef n (ylshl a 8) else a
def yhig : Nat → Int64 → Int64
  | 0, a => a
  | n + 1, a => if a = 0 then a else if ylushr a 56 = 0 then yhig n (ylshl a 8) else a
theorem yOkN_sh {W : Nat} (h : yOkN W) : yOkN (W * 256) := by
  intro j
  match j with
  | 0 =>
    rw [Nat.pow_zero, Nat.div_one]
    omega
  | j + 1 =>
    have e : (W * 256) / 256 ^ (j + 1) = W / 256 ^ j := by
      rw [Nat.pow_succ, Nat.mul_comm (256 ^ j) 256, ← Nat.div_div_eq_div_mul]
      congr 1
      omega
    rw [e]
    exact h j
theorem ylef_ok : ∀ (n : Nat) (a : Int64), yOkN (ynv a) → yOkN (ynv (ylef n a))
  | 0, a, h => h
  | n + 1, a, h => by
    unfold ylef
    split
    · rename_i z
      refine ylef_ok n _ ?_
      rw [ynv_shl (ynv_shr.mp z)]
      exact yOkN_sh h
    · exact h
theorem yOkN_63 {x : Int64} (h : yOkN (ynv x)) : ynv x < 9223372036854775808 := by
  have h7 := h 7
  have e : (256 : Nat) ^ 7 = 72057594037927936 := by decide
  rw [e] at h7
  have := x.toBitVec.isLt
  show x.toBitVec.toNat < _
  have h7 : x.toBitVec.toNat / 72057594037927936 % 256 = 0 ∨ (32 ≤ x.toBitVec.toNat / 72057594037927936 % 256 ∧ x.toBitVec.toNat / 72057594037927936 % 256 ≤ 126) := h7
  omega
theorem ylef_0 : ∀ n, ylef n 0 = 0
  | 0 => rfl
  | n + 1 => by
    unfold ylef
    have e : ylshl 0 8 = 0 := by decide
    rw [if_pos (by decide), e]
    exact ylef_0 n
theorem yhig_s : ∀ (n : Nat) (a : Int64), 1 ≤ ynv a → 72057594037927936 ≤ ynv a * 256 ^ n → yhig (n + 1) a = ylef n a
  | 0, a, h, h2 => by
    rw [Nat.pow_zero, Nat.mul_one] at h2
    unfold yhig ylef
    rw [if_neg (fun e => by have := ynv_0.mp e; omega), if_neg (fun e => by have := ynv_shr.mp e; omega)]
  | n + 1, a, h, h2 => by
    show (if a = 0 then a else if ylushr a 56 = 0 then yhig (n + 1) (ylshl a 8) else a) = ylef (n + 1) a
    have e : ylef (n + 1) a = if ylushr a 56 = 0 then ylef n (ylshl a 8) else a := rfl
    rw [if_neg (fun e => by have := ynv_0.mp e; omega), e]
    split
    · rename_i z
      have z := ynv_shr.mp z
      have e8 := ynv_shl z
      refine yhig_s n _ (by rw [e8]; omega) ?_
      rw [e8, Nat.mul_assoc, ← Nat.pow_succ']
      exact h2
    · rfl
theorem yhig_l (a : Int64) : yhig 8 a = ylef 7 a := by
  by_cases z : a = 0
  · rw [z, ylef_0]
    rfl
  · have h : 1 ≤ ynv a := by
      have : ynv a ≠ 0 := fun e => z (ynv_0.mpr e)
      omega
    refine yhig_s 7 a h ?_
    have e : (256 : Nat) ^ 7 = 72057594037927936 := by decide
    rw [e]
    omega
theorem ycmp_cg {a b a' b' : Int64} (h1 : a < b ↔ a' < b') (h2 : a = b ↔ a' = b') : ycmp a b = ycmp a' b' := by
  unfold ycmp
  by_cases z1 : a < b
  · rw [if_pos z1, if_pos (h1.mp z1)]
  · rw [if_neg z1, if_neg (fun y => z1 (h1.mpr y))]
    by_cases z2 : a = b
    · rw [if_pos z2, if_pos (h2.mp z2)]
    · rw [if_neg z2, if_neg (fun y => z2 (h2.mpr y))]
theorem ycmp_u {a b : Int64} (ha : ynv a < 9223372036854775808) (hb : ynv b < 9223372036854775808) : ycmp (a + (-9223372036854775808)) (b + (-9223372036854775808)) = ycmp a b := by
  have key : ∀ x : Int64, ynv x < 9223372036854775808 → (x + (-9223372036854775808)).toInt = x.toInt - 9223372036854775808 := fun x hx => by
    have e := ynv_int hx
    have em : (-9223372036854775808 : Int64).toInt = -9223372036854775808 := by decide
    rw [Int64.toInt_add, em]
    have : (x.toInt + -9223372036854775808).bmod (2 ^ 64) = x.toInt + -9223372036854775808 := Int.bmod_eq_of_le (by omega) (by omega)
    rw [this]
    omega
  have ka := key a ha
  have kb := key b hb
  refine ycmp_cg ?_ ?_
  · rw [Int64.lt_iff_toInt_lt, Int64.lt_iff_toInt_lt, ka, kb]
    omega
  · rw [← Int64.toInt_inj, ← Int64.toInt_inj, ka, kb]
    omega
/-- rows compared by a column -/
def ycel (S : yS) (x k : Nat) : Int64 := gB S 7 ((x : Int) * gI S 10 + k).toNat
def ycc (S : yS) (x y k : Nat) : Int := if yr (gA S 20 k) = 0 then ycmp (ycel S x k) (ycel S y k) else ycmp (ylef 7 (ycel S x k)) (ylef 7 (ycel S y k))
def ycro (f : Nat → Int) : List (Nat × Nat) → Int
  | [] => 0
  | x :: l => if f x.1 = 0 then ycro f l else if x.2 = 0 then f x.1 else - f x.1
section YTAL
variable {q : yQ} {d : Nat} {js : List xO} {S : yS}
theorem ycmp_r (a b : Int64) : -1 ≤ ycmp a b ∧ ycmp a b ≤ 1 := by
  unfold ycmp
  split
  · omega
  · split <;> omega
theorem ycc_r (x y k : Nat) : -1 ≤ ycc S x y k ∧ ycc S x y k ≤ 1 := by
  unfold ycc
  split <;> exact ycmp_r _ _
theorem c140 : ∀ (n : Nat) (a : Int64) (i : Nat), i + n = 7 → Y q d 140 2 [vj a, vu, vi i] [] S js = yret q (vj (ylef n a)) S js
  | 0, a, i, h => by
    rw [w140_2, if_neg (by rw [yr_eq, yr_eq] <;> omega)]
    rfl
  | n + 1, a, i, h => by
    have e1 : (i : Int) + 1 = ((i + 1 : Nat) : Int) := by omega
    rw [w140_2, if_pos (by rw [yr_eq, yr_eq] <;> omega)]
    unfold ylef
    by_cases z : ylushr a 56 = 0
    · rw [if_pos (by rw [yr_lcmp]; exact (ylcmp_eq _ _).mpr z), if_pos z, e1]
      exact c140 n _ (i + 1) (by omega)
    · rw [if_neg (fun y => z ((ylcmp_eq _ _).mp (by rw [← yr_lcmp]; exact y))), if_neg z]
theorem c140' (a : Int64) : Y q d 140 0 [vj a, vu, vu] [] S js = yret q (vj (ylef 7 a)) S js := by
  rw [w140_0]
  exact c140 7 a 0 (by omega)
theorem c139 {x y k : Nat} (hx : x < 40) (hy : y < 40) (hk : (k : Int) < gI S 10) (h1 : gI S 10 ≤ 8) : Y q (d + 1) 139 0 [vr 76, vi x, vi y, vi k, vu, vu, vu, vu] [] S js = yret q (vi (ycc S x y k)) S js := by
  have e1 := c134 (q := q) (d := d) (js := js) (S := S) (x := x) (y := k) (by omega) (by omega) h1
  have e2 := c134 (q := q) (d := d) (js := js) (S := S) (x := y) (y := k) (by omega) (by omega) h1
  rw [w139_0, e1, YB_ret, w139_6, e2, YB_ret, w139_14, c133 hk (by omega), YB_ret, w139_21]
  unfold ycc ycel
  by_cases z : yr (gA S 20 k) = 0
  · rw [if_pos z, if_pos z, if_pos (by decide), r319, YB_ret, w139_47]
  · rw [if_neg z, if_neg z, if_neg (by decide), c140', YB_ret, w139_29, c140', YB_ret, w139_34, r319, YB_ret, w139_37]
theorem c116 {O : List (Nat × Nat)} (hO : vO S O) (h4 : O.length ≤ 4) (hc : ∀ x, x ∈ O → (x.1 : Int) < gI S 10) (hd : ∀ x, x ∈ O → x.2 ≤ 1) (h1 : gI S 10 ≤ 8) {x y : Nat} (hx : x < 40) (hy : y < 40) : ∀ (l : List (Nat × Nat)) (i : Nat) (z : yV), O.drop i = l → i ≤ O.length → Y q (d + 2) 116 2 [vr 125, vi x, vi y, vi i, z] [] S js = yret q (vi (yb (ycro (ycc S x y) l < 0))) S js
  | [], i, z, hl, hi => by
    have hn : i = O.length := by
      have := congrArg List.length hl
      rw [List.length_drop] at this
      have this : O.length - i = 0 := this
      omega
    have e23 := hO.1
    rw [w116_2, if_neg (by rw [yr_eq, yr_eq] <;> omega), if_pos (Or.inl yr_0)]
    rfl
  | w :: l, i, z, hl, hi => by
    have e23 := hO.1
    have hlt : i < O.length := by
      have := congrArg List.length hl
      rw [List.length_drop, List.length_cons] at this
      omega
    have hw : O[i]? = some w := by
      have : (O.drop i)[0]? = some w := by rw [hl]; rfl
      rw [List.getElem?_drop, Nat.add_zero] at this
      exact this
    have hmem := List.mem_of_getElem? hw
    obtain ⟨g1, g2⟩ := hO.2 i w hw
    have g1 : gA S 23 i = (w.1 : Int) := g1
    have g2 : gA S 24 i = (w.2 : Int) := g2
    have ei : yr (i : Int) = i := yr_eq (by omega) (by omega)
    have e1 : (i : Int) + 1 = ((i + 1 : Nat) : Int) := by omega
    have r := ycc_r (S := S) x y w.1
    have er : yr (ycc S x y w.1) = ycc S x y w.1 := yr_eq (by omega) (by omega)
    have hw2 := hd w hmem
    have ew2 : yr (w.2 : Int) = w.2 := yr_eq (by omega) (by omega)
    have dl : O.drop (i + 1) = l := by
      have := congrArg List.tail hl
      rw [List.tail_drop] at this
      exact this
    have o1 : yr 1 = 0 ∨ yr 1 = 1 := Or.inr rfl
    have o0 : yr 0 = 0 ∨ yr 0 = 1 := Or.inl rfl
    have ih := fun z => c116 hO h4 hc hd h1 hx hy l (i + 1) z dl (by omega)
    have h139 := c139 (q := q) (d := d) (js := js) (S := S) hx hy (hc w hmem) h1
    rw [w116_2, ei, if_pos (by rw [yr_eq] <;> omega), if_pos (by omega), Int.toNat_natCast, g1, h139, YB_ret, w116_31, er, e1, ei, Int.toNat_natCast, g2, ew2]
    show _ = yret q (vi (yb ((if ycc S x y w.1 = 0 then ycro (ycc S x y) l else if w.2 = 0 then ycc S x y w.1 else - ycc S x y w.1) < 0))) S js
    by_cases z0 : ycc S x y w.1 = 0
    · rw [if_pos z0, if_pos z0]
      exact ih _
    · rw [if_neg z0, if_neg z0, if_pos (by omega)]
      by_cases z2 : w.2 = 0
      · rw [if_pos z2, if_pos (by omega)]
        by_cases z3 : ycc S x y w.1 < 0
        · rw [if_pos z3, if_pos o1, yb, if_pos z3]
        · rw [if_neg z3, if_pos o0, yb, if_neg z3]
      · rw [if_neg z2, if_neg (by omega)]
        by_cases z3 : 0 < ycc S x y w.1
        · rw [if_pos z3, if_pos o1, yb, if_pos (by omega)]
        · rw [if_neg z3, if_pos o0, yb, if_neg (by omega)]
end YTAL
end YTA
