/-! taken from whole by wip/p27/slice.py: 46.tool.lean.txt -/
section YT
theorem YB_ite (q : yQ) (c : Prop) [Decidable c] (a b : Option xRes) (d k pc : Nat) (L st : List yV) : YB q (if c then a else b) d k pc L st = if c then YB q a d k pc L st else YB q b d k pc L st := by split <;> rfl
/-- 1 or 0 -/
def yb (c : Prop) [Decidable c] : Int := if c then 1 else 0
theorem yb_t {c : Prop} [Decidable c] (h : c) : yb c = 1 := if_pos h
theorem yb_f {c : Prop} [Decidable c] (h : ¬ c) : yb c = 0 := if_neg h
theorem yb_01 (c : Prop) [Decidable c] : yb c = 0 ∨ yb c = 1 := by
  unfold yb
  split
  · exact Or.inr rfl
  · exact Or.inl rfl
theorem yr_yb (c : Prop) [Decidable c] : yr (yb c) = yb c := by rcases yb_01 c with h | h <;> rw [h] <;> rfl
theorem yb_eq0 (c : Prop) [Decidable c] : (yb c = 0) = ¬ c := by
  unfold yb
  split
  · rename_i h
    exact propext ⟨fun z => absurd z (by decide), fun z => (z h).elim⟩
  · rename_i h
    exact propext ⟨fun _ => h, fun _ => rfl⟩
theorem yz0 : (yr 0 = 0 ∨ yr 0 = 1) = True := eq_true (Or.inl rfl)
theorem yz1 : (yr 1 = 0 ∨ yr 1 = 1) = True := eq_true (Or.inr rfl)
section YTL
variable {q : yQ} {d : Nat} {js : List xO} {S : yS}
/-- the table -/
theorem yidiv_eq {x y : Int} (h1 : 0 ≤ x ∧ x < 2147483648) (h2 : 0 < y ∧ y < 2147483648) : yidiv x y = x / y := by
  unfold yidiv
  rw [Int32.toInt_div, Int32.toInt_ofInt_of_le (by omega) (by omega), Int32.toInt_ofInt_of_le (by omega) (by omega)]
  rw [Int.tdiv_eq_ediv_of_nonneg h1.1]
  have h3 : 0 ≤ x / y := Int.ediv_nonneg h1.1 (by omega)
  have h4 : x / y ≤ x := Int.ediv_le_self y h1.1
  rw [Int.bmod_eq_of_le (by omega) (by omega)]
theorem yirem_eq {x y : Int} (h1 : 0 ≤ x ∧ x < 2147483648) (h2 : 0 < y ∧ y < 2147483648) : yirem x y = x % y := by
  have e : yirem x y = yr (x - yidiv x y * y) := by
    unfold yirem yr
    rw [y_sub, y_mul]
    have : Int32.ofInt (yidiv x y) = Int32.ofInt x / Int32.ofInt y := yofI _
    rw [this]
  rw [e, yidiv_eq h1 h2]
  have h3 : x - x / y * y = x % y := by rw [Int.emod_def, Int.mul_comm]
  have h4 := Int.emod_nonneg x (show y ≠ 0 by omega)
  have h5 := Int.emod_lt_of_pos x h2.1
  rw [h3, yr_eq (by omega) (by omega)]
/-- rows that are there -/
def nrow (c n : Int) : Int := if c = 0 then 0 else n / c
theorem c131 (h1 : 0 ≤ gI S 10 ∧ gI S 10 ≤ 8) (h2 : 0 ≤ gI S 11 ∧ gI S 11 ≤ 320) : Y q d 131 0 [vr 82] [] S js = yret q (vi (nrow (gI S 10) (gI S 11))) S js := by
  rw [w131_0]
  simp (disch := omega) only [yr_eq]
  unfold nrow
  split
  · rfl
  · rw [yidiv_eq (by omega) (by omega)]
end YTL
end YT
