/-! taken from whole by wip/p27/slice2.py: 46.tool.lean.txt -/
section YT
theorem yi2l_toInt (x : Int) : (yi2l x).toInt = yr x := Int32.toInt_toInt64 _
theorem yand_255 (x : Int) : 0 ≤ yand x 255 ∧ yand x 255 ≤ 255 := by
  unfold yand
  have h : (Int32.ofInt x &&& Int32.ofInt 255).toUInt32 ≤ 255 := by
    show (Int32.ofInt x).toUInt32 &&& (Int32.ofInt 255).toUInt32 ≤ 255
    have e : (Int32.ofInt 255).toUInt32 = 255 := by decide
    rw [e]
    rw [UInt32.le_iff_toNat_le, UInt32.toNat_and]
    exact Nat.and_le_right
  have h2 : (Int32.ofInt x &&& Int32.ofInt 255).toUInt32.toNat ≤ 255 := UInt32.le_iff_toNat_le.mp h
  generalize Int32.ofInt x &&& Int32.ofInt 255 = z at *
  have h4 : z.toBitVec.toNat ≤ 255 := h2
  have h3 : z.toInt = (z.toBitVec.toNat : Int) := BitVec.toInt_eq_toNat_of_lt (by omega)
  rw [h3]
  omega
/-- bytes of the tape -/
def tb (S : yS) (i : Nat) : Int := yand (gA S 21 i) 255
def tbl (S : yS) (x : Int) : Int := if 0 ≤ x ∧ x < gI S 12 then tb S x.toNat else 0
section YTL
variable {q : yQ} {d : Nat} {js : List xO} {S : yS}
theorem c143 {x : Int} (h1 : -2147483648 ≤ x) (h2 : x < 2147483648) (h3 : 0 ≤ gI S 12 ∧ gI S 12 ≤ 2000) : Y q d 143 0 [vr 86, vi x] [] S js = yret q (vi (tbl S x)) S js := by
  rw [w143_0]
  simp (disch := omega) only [yr_eq]
  unfold tbl tb
  repeat' split
  all_goals first | rfl | (exfalso; omega)
theorem c145 {x : Int} (h1 : -2147483648 ≤ x) (h2 : x < 2147483648) : Y q d 145 0 [vi x] [] S js = yret q (vi (yb (97 ≤ x ∧ x ≤ 122))) S js := by
  rw [w145_0]
  simp only [yz0, yz1, if_true]
  simp (disch := omega) only [yr_eq]
  unfold yb
  repeat' split
  all_goals first | rfl | (exfalso; omega)
theorem c147 {x : Int} (h1 : -2147483648 ≤ x) (h2 : x < 2147483648) : Y q d 147 0 [vi x] [] S js = yret q (vi (yb (48 ≤ x ∧ x ≤ 57))) S js := by
  rw [w147_0]
  simp only [yz0, yz1, if_true]
  simp (disch := omega) only [yr_eq]
  unfold yb
  repeat' split
  all_goals first | rfl | (exfalso; omega)
/-- appending to the tape -/
def pb (S : yS) (b : Int) : yS := sI (sA S 21 (gI S 12).toNat b) 12 (gI S 12 + 1)
def yby (x n : Int) : Int := yi2b (yi2b (yushr x n))
theorem c156a {x n : Int} (hn : -8 ≤ n ∧ n ≤ 24) (h3 : 0 ≤ gI S 12 ∧ gI S 12 < 2000) : Y q d 156 3 [vr 86, vi x, vi n] [] S js = if n < 0 then yretv q S js else Y q d 156 3 [vr 86, vi x, vi (n + -8)] [] (pb S (yby x n)) js := by
  rw [w156_3]
  simp (disch := omega) only [yr_eq]
  repeat' split
  all_goals first | rfl | (exfalso; omega)
theorem pb_12 (S : yS) (b : Int) : gI (pb S b) 12 = gI S 12 + 1 := gI_self _ _ _
theorem c156 {x : Int} (h3 : 0 ≤ gI S 12 ∧ gI S 12 + 4 ≤ 2000) : Y q d 156 0 [vr 86, vi x, vu] [] S js = yretv q (pb (pb (pb (pb S (yby x 24)) (yby x 16)) (yby x 8)) (yby x 0)) js := by
  rw [w156_0]
  rw [c156a (by omega) (by omega), if_neg (by omega)]
  rw [c156a (by omega) (by simp only [pb_12]; omega), if_neg (by omega)]
  rw [c156a (by omega) (by simp only [pb_12]; omega), if_neg (by omega)]
  rw [c156a (by omega) (by simp only [pb_12]; omega), if_neg (by omega)]
  rw [w156_3, if_pos (by rw [yr_eq] <;> omega)]
  rfl
/-- the first of n places with a worth, or -1 -/
def yfind (f : Nat → Int64) (w : Int64) : Nat → Nat → Int
  | 0, _ => -1
  | n + 1, i => if f i = w then (i : Int) else yfind f w n (i + 1)
theorem yfind_none {f : Nat → Int64} {w : Int64} : ∀ {n i : Nat}, yfind f w n i = -1 ∨ ∃ k, i ≤ k ∧ k < i + n ∧ yfind f w n i = k ∧ f k = w
  | 0, i => Or.inl rfl
  | n + 1, i => by
    unfold yfind
    split
    · rename_i h
      exact Or.inr ⟨i, Nat.le_refl i, by omega, rfl, h⟩
    · rcases yfind_none (f := f) (w := w) (n := n) (i := i + 1) with h | ⟨k, h1, h2, h3, h4⟩
      · exact Or.inl h
      · exact Or.inr ⟨k, by omega, by omega, h3, h4⟩
theorem yfind_cg {f g : Nat → Int64} {w : Int64} : ∀ {n i : Nat}, (∀ k, i ≤ k → k < i + n → f k = g k) → yfind f w n i = yfind g w n i
  | 0, i, _ => rfl
  | n + 1, i, h => by
    unfold yfind
    rw [h i (Nat.le_refl i) (by omega), yfind_cg (n := n) (i := i + 1) (fun k h1 h2 => h k (by omega) (by omega))]
theorem c132a {w : Int64} (h1 : 0 ≤ gI S 10 ∧ gI S 10 ≤ 8) : ∀ (n i : Nat), gI S 10 = i + n → Y q d 132 2 [vr 82, vj w, vu, vi i] [] S js = yret q (vi (yfind (gB S 6) w n i)) S js
  | 0, i, h => by
    rw [w132_2]
    simp (disch := omega) only [yr_eq]
    rw [if_neg (by omega)]
    rfl
  | n + 1, i, h => by
    rw [w132_2]
    have ih := c132a (w := w) h1 n (i + 1) (by omega)
    simp (disch := omega) only [yr_eq, yr_lcmp, ylcmp_eq, Int.toNat_natCast]
    rw [if_pos (by omega), if_pos (by omega)]
    unfold yfind
    split
    · rfl
    · rw [← ih]
      rfl
theorem c132 {w : Int64} (h1 : 0 ≤ gI S 10 ∧ gI S 10 ≤ 8) : Y q d 132 0 [vr 82, vj w, vu, vu] [] S js = yret q (vi (yfind (gB S 6) w (gI S 10).toNat 0)) S js := by
  rw [w132_0]
  exact c132a h1 (gI S 10).toNat 0 (by omega)
end YTL
end YT
