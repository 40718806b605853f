/-! CONTRACTS: tools, and the leaves of the class and of the reference -/
section YT
theorem YB_ite (q : yQ) (c : Prop) [Decidable c] (a b : Option xRes) (d k pc : Nat) (L st : List yV) : YB q (if c then a else b) d k pc L st = if c then YB q a d k pc L st else YB q b d k pc L st := by split <;> rfl
theorem yP_lt {a b : Int} (h : a < b) : (a < b) = True := eq_true h
theorem yN_lt {a b : Int} (h : ¬ a < b) : (a < b) = False := eq_false h
theorem yP_le {a b : Int} (h : a ≤ b) : (a ≤ b) = True := eq_true h
theorem yN_le {a b : Int} (h : ¬ a ≤ b) : (a ≤ b) = False := eq_false h
theorem yP_eq {a b : Int} (h : a = b) : (a = b) = True := eq_true h
theorem yN_eq {a b : Int} (h : ¬ a = b) : (a = b) = False := eq_false h
theorem yi2l_toInt (x : Int) : (yi2l x).toInt = yr x := Int32.toInt_toInt64 _
theorem Y_up {q : yQ} {d d1 k pc : Nat} {L st : List yV} {S : yS} {js : List xO} {z : xRes} (h : Y q d k pc L st S js = some z) (hd : d ≤ d1) : Y q d1 k pc L st S js = some z := yD_up h hd
/-- 1 or 0 -/
def yb (c : Prop) [Decidable c] : Int := if c then 1 else 0
theorem yb_t {c : Prop} [Decidable c] (h : c) : yb c = 1 := if_pos h
theorem yb_f {c : Prop} [Decidable c] (h : ¬ c) : yb c = 0 := if_neg h
theorem yb_01 (c : Prop) [Decidable c] : yb c = 0 ∨ yb c = 1 := by
  unfold yb
  split
  · exact Or.inr rfl
  · exact Or.inl rfl
theorem yr_yb (c : Prop) [Decidable c] : yr (yb c) = yb c := by rcases yb_01 c with h | h <;> rw [h] <;> rfl
theorem yb_eq0 (c : Prop) [Decidable c] : (yb c = 0) = ¬ c := by
  unfold yb
  split
  · rename_i h
    exact propext ⟨fun z => absurd z (by decide), fun z => (z h).elim⟩
  · rename_i h
    exact propext ⟨fun _ => h, fun _ => rfl⟩
theorem yb_or (c : Prop) [Decidable c] : (yb c = 0 ∨ yb c = 1) = True := eq_true (yb_01 c)
theorem yand_255 (x : Int) : 0 ≤ yand x 255 ∧ yand x 255 ≤ 255 := by
  unfold yand
  have h : (Int32.ofInt x &&& Int32.ofInt 255).toUInt32 ≤ 255 := by
    show (Int32.ofInt x).toUInt32 &&& (Int32.ofInt 255).toUInt32 ≤ 255
    have e : (Int32.ofInt 255).toUInt32 = 255 := by decide
    rw [e]
    rw [UInt32.le_iff_toNat_le, UInt32.toNat_and]
    exact Nat.and_le_right
  have h2 : (Int32.ofInt x &&& Int32.ofInt 255).toUInt32.toNat ≤ 255 := UInt32.le_iff_toNat_le.mp h
  generalize Int32.ofInt x &&& Int32.ofInt 255 = z at *
  have h4 : z.toBitVec.toNat ≤ 255 := h2
  have h3 : z.toInt = (z.toBitVec.toNat : Int) := BitVec.toInt_eq_toNat_of_lt (by omega)
  rw [h3]
  omega
theorem yz0 : (yr 0 = 0 ∨ yr 0 = 1) = True := eq_true (Or.inl rfl)
theorem yz1 : (yr 1 = 0 ∨ yr 1 = 1) = True := eq_true (Or.inr rfl)
/-- bytes of the tape -/
def tb (S : yS) (i : Nat) : Int := yand (gA S 21 i) 255
def tbl (S : yS) (x : Int) : Int := if 0 ≤ x ∧ x < gI S 12 then tb S x.toNat else 0
section YTL
variable {q : yQ} {d : Nat} {js : List xO} {S : yS}
theorem c143 {x : Int} (h1 : -2147483648 ≤ x) (h2 : x < 2147483648) (h3 : 0 ≤ gI S 12 ∧ gI S 12 ≤ 2000) : Y q d 143 0 [vr 80, vi x] [] S js = yret q (vi (tbl S x)) S js := by
  rw [w143_0]
  simp (disch := omega) only [yr_eq]
  unfold tbl tb
  repeat' split
  all_goals first | rfl | (exfalso; omega)
theorem c145 {x : Int} (h1 : -2147483648 ≤ x) (h2 : x < 2147483648) : Y q d 145 0 [vi x] [] S js = yret q (vi (yb (97 ≤ x ∧ x ≤ 122))) S js := by
  rw [w145_0]
  simp only [yz0, yz1, if_true]
  simp (disch := omega) only [yr_eq]
  unfold yb
  repeat' split
  all_goals first | rfl | (exfalso; omega)
theorem c147 {x : Int} (h1 : -2147483648 ≤ x) (h2 : x < 2147483648) : Y q d 147 0 [vi x] [] S js = yret q (vi (yb (48 ≤ x ∧ x ≤ 57))) S js := by
  rw [w147_0]
  simp only [yz0, yz1, if_true]
  simp (disch := omega) only [yr_eq]
  unfold yb
  repeat' split
  all_goals first | rfl | (exfalso; omega)
/-- appending to the tape -/
def pb (S : yS) (b : Int) : yS := sI (sA S 21 (gI S 12).toNat b) 12 (gI S 12 + 1)
def pr (S : yS) (b : Int) : yS := sI (sA S 37 (gI S 40).toNat b) 40 (gI S 40 + 1)
def yby (x n : Int) : Int := yi2b (yi2b (yushr x n))
def yrb (x n : Int) : Int := yand (yshr x n) 255
theorem c156a {x n : Int} (hn : -8 ≤ n ∧ n ≤ 24) (h3 : 0 ≤ gI S 12 ∧ gI S 12 < 2000) : Y q d 156 3 [vr 80, vi x, vi n] [] S js = if n < 0 then yretv q S js else Y q d 156 3 [vr 80, vi x, vi (n + -8)] [] (pb S (yby x n)) js := by
  rw [w156_3]
  simp (disch := omega) only [yr_eq]
  repeat' split
  all_goals first | rfl | (exfalso; omega)
theorem r189a {x n : Int} (hn : -8 ≤ n ∧ n ≤ 24) (h3 : 0 ≤ gI S 40 ∧ gI S 40 < 2000) : Y q d 189 3 [vr 129, vi x, vi n] [] S js = if n < 0 then yretv q S js else Y q d 189 3 [vr 129, vi x, vi (n + -8)] [] (pr S (yrb x n)) js := by
  rw [w189_3]
  simp (disch := omega) only [yr_eq]
  repeat' split
  all_goals first | rfl | (exfalso; omega)
theorem pb_12 (S : yS) (b : Int) : gI (pb S b) 12 = gI S 12 + 1 := gI_self _ _ _
theorem pr_40 (S : yS) (b : Int) : gI (pr S b) 40 = gI S 40 + 1 := gI_self _ _ _
theorem c156 {x : Int} (h3 : 0 ≤ gI S 12 ∧ gI S 12 + 4 ≤ 2000) : Y q d 156 0 [vr 80, vi x, vu] [] S js = yretv q (pb (pb (pb (pb S (yby x 24)) (yby x 16)) (yby x 8)) (yby x 0)) js := by
  rw [w156_0]
  rw [c156a (by omega) (by omega), if_neg (by omega)]
  rw [c156a (by omega) (by simp only [pb_12]; omega), if_neg (by omega)]
  rw [c156a (by omega) (by simp only [pb_12]; omega), if_neg (by omega)]
  rw [c156a (by omega) (by simp only [pb_12]; omega), if_neg (by omega)]
  rw [w156_3, if_pos (by rw [yr_eq] <;> omega)]
  rfl
theorem r189 {x : Int} (h3 : 0 ≤ gI S 40 ∧ gI S 40 + 4 ≤ 2000) : Y q d 189 0 [vr 129, vi x, vu] [] S js = yretv q (pr (pr (pr (pr S (yrb x 24)) (yrb x 16)) (yrb x 8)) (yrb x 0)) js := by
  rw [w189_0]
  rw [r189a (by omega) (by omega), if_neg (by omega)]
  rw [r189a (by omega) (by simp only [pr_40]; omega), if_neg (by omega)]
  rw [r189a (by omega) (by simp only [pr_40]; omega), if_neg (by omega)]
  rw [r189a (by omega) (by simp only [pr_40]; omega), if_neg (by omega)]
  rw [w189_3, if_pos (by rw [yr_eq] <;> omega)]
  rfl
/-- the table -/
theorem yidiv_eq {x y : Int} (h1 : 0 ≤ x ∧ x < 2147483648) (h2 : 0 < y ∧ y < 2147483648) : yidiv x y = x / y := by
  unfold yidiv
  rw [Int32.toInt_div, Int32.toInt_ofInt_of_le (by omega) (by omega), Int32.toInt_ofInt_of_le (by omega) (by omega)]
  rw [Int.tdiv_eq_ediv_of_nonneg h1.1]
  have h3 : 0 ≤ x / y := Int.ediv_nonneg h1.1 (by omega)
  have h4 : x / y ≤ x := Int.ediv_le_self y h1.1
  rw [Int.bmod_eq_of_le (by omega) (by omega)]
theorem yirem_eq {x y : Int} (h1 : 0 ≤ x ∧ x < 2147483648) (h2 : 0 < y ∧ y < 2147483648) : yirem x y = x % y := by
  have e : yirem x y = yr (x - yidiv x y * y) := by
    unfold yirem yr
    rw [y_sub, y_mul]
    have : Int32.ofInt (yidiv x y) = Int32.ofInt x / Int32.ofInt y := yofI _
    rw [this]
  rw [e, yidiv_eq h1 h2]
  have h3 : x - x / y * y = x % y := by rw [Int.emod_def, Int.mul_comm]
  have h4 := Int.emod_nonneg x (show y ≠ 0 by omega)
  have h5 := Int.emod_lt_of_pos x h2.1
  rw [h3, yr_eq (by omega) (by omega)]
/-- rows that are there -/
def nrow (c n : Int) : Int := if c = 0 then 0 else n / c
theorem c131 (h1 : 0 ≤ gI S 10 ∧ gI S 10 ≤ 8) (h2 : 0 ≤ gI S 11 ∧ gI S 11 ≤ 320) : Y q d 131 0 [vr 76] [] S js = yret q (vi (nrow (gI S 10) (gI S 11))) S js := by
  rw [w131_0]
  simp (disch := omega) only [yr_eq]
  unfold nrow
  split
  · rfl
  · rw [yidiv_eq (by omega) (by omega)]
theorem r199 (h1 : 0 ≤ gI S 41 ∧ gI S 41 ≤ 8) (h2 : 0 ≤ gI S 42 ∧ gI S 42 ≤ 320) : Y q d 199 0 [vr 129] [] S js = yret q (vi (nrow (gI S 41) (gI S 42))) S js := by
  rw [w199_0]
  simp (disch := omega) only [yr_eq]
  unfold nrow
  split
  · rfl
  · rw [yidiv_eq (by omega) (by omega)]
/-- is it in? -/
theorem r191 (x l u : Int64) : Y q d 191 0 [vj x, vu, vj l, vu, vj u, vu] [] S js = yret q (vi (yb (l ≤ x ∧ x ≤ u))) S js := by
  rw [w191_0]
  simp only [yz0, yz1, if_true, yr_lcmp, ylcmp_lt, ylcmp_gt]
  unfold yb
  have e1 := @Int64.not_le x u
  have e2 := @Int64.not_le l x
  by_cases a : x < l
  · rw [if_pos a, if_neg (fun z => e2.mpr a z.1)]
  · by_cases b : u < x
    · rw [if_neg a, if_pos b, if_neg (fun z => e1.mpr b z.2)]
    · rw [if_neg a, if_neg b, if_pos ⟨Classical.byContradiction fun z => a (e2.mp z), Classical.byContradiction fun z => b (e1.mp z)⟩]
theorem yi2l_le (x y : Int) : (yi2l x ≤ yi2l y) = (yr x ≤ yr y) := by rw [Int64.le_iff_toInt_le, yi2l_toInt, yi2l_toInt]
theorem r193 {x : Int} (h1 : -2147483648 ≤ x) (h2 : x < 2147483648) : Y q (d + 1) 193 0 [vi x] [] S js = yret q (vi (yb (97 ≤ x ∧ x ≤ 122))) S js := by
  rw [w193_0, r191, YB_ret, w193_11]
  have e : (97 ≤ yi2l x ∧ yi2l x ≤ 122) = (97 ≤ x ∧ x ≤ 122) := by
    have a : (97 : Int64) = yi2l 97 := by decide
    have b : (122 : Int64) = yi2l 122 := by decide
    rw [a, b, yi2l_le, yi2l_le, yr_eq (x := x) h1 h2]
    rfl
  simp only [e, yr_yb, yb_or, if_true]
theorem r194 {x : Int} (h1 : -2147483648 ≤ x) (h2 : x < 2147483648) : Y q (d + 1) 194 0 [vi x] [] S js = yret q (vi (yb (48 ≤ x ∧ x ≤ 57))) S js := by
  rw [w194_0, r191, YB_ret, w194_11]
  have e : (48 ≤ yi2l x ∧ yi2l x ≤ 57) = (48 ≤ x ∧ x ≤ 57) := by
    have a : (48 : Int64) = yi2l 48 := by decide
    have b : (57 : Int64) = yi2l 57 := by decide
    rw [a, b, yi2l_le, yi2l_le, yr_eq (x := x) h1 h2]
    rfl
  simp only [e, yr_yb, yb_or, if_true]
/-- the first of n places with a worth, or -1 -/
def yfind (f : Nat → Int64) (w : Int64) : Nat → Nat → Int
  | 0, _ => -1
  | n + 1, i => if f i = w then (i : Int) else yfind f w n (i + 1)
theorem yfind_none {f : Nat → Int64} {w : Int64} : ∀ {n i : Nat}, yfind f w n i = -1 ∨ ∃ k, i ≤ k ∧ k < i + n ∧ yfind f w n i = k ∧ f k = w
  | 0, i => Or.inl rfl
  | n + 1, i => by
    unfold yfind
    split
    · rename_i h
      exact Or.inr ⟨i, Nat.le_refl i, by omega, rfl, h⟩
    · rcases yfind_none (f := f) (w := w) (n := n) (i := i + 1) with h | ⟨k, h1, h2, h3, h4⟩
      · exact Or.inl h
      · exact Or.inr ⟨k, by omega, by omega, h3, h4⟩
theorem yfind_cg {f g : Nat → Int64} {w : Int64} : ∀ {n i : Nat}, (∀ k, i ≤ k → k < i + n → f k = g k) → yfind f w n i = yfind g w n i
  | 0, i, _ => rfl
  | n + 1, i, h => by
    unfold yfind
    rw [h i (Nat.le_refl i) (by omega), yfind_cg (n := n) (i := i + 1) (fun k h1 h2 => h k (by omega) (by omega))]
theorem c132a {w : Int64} (h1 : 0 ≤ gI S 10 ∧ gI S 10 ≤ 8) : ∀ (n i : Nat), gI S 10 = i + n → Y q d 132 2 [vr 76, vj w, vu, vi i] [] S js = yret q (vi (yfind (gB S 6) w n i)) S js
  | 0, i, h => by
    rw [w132_2]
    simp (disch := omega) only [yr_eq]
    rw [if_neg (by omega)]
    rfl
  | n + 1, i, h => by
    rw [w132_2]
    have ih := c132a (w := w) h1 n (i + 1) (by omega)
    simp (disch := omega) only [yr_eq, yr_lcmp, ylcmp_eq, Int.toNat_natCast]
    rw [if_pos (by omega), if_pos (by omega)]
    unfold yfind
    split
    · rfl
    · rw [← ih]
      rfl
theorem c132 {w : Int64} (h1 : 0 ≤ gI S 10 ∧ gI S 10 ≤ 8) : Y q d 132 0 [vr 76, vj w, vu, vu] [] S js = yret q (vi (yfind (gB S 6) w (gI S 10).toNat 0)) S js := by
  rw [w132_0]
  exact c132a h1 (gI S 10).toNat 0 (by omega)
end YTL
end YT
