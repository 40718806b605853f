/-! taken from whole by wip/p27/slice.py: 49.inv.lean.txt -/
section YIN
/-- a text in a cell: its bytes, no 0 between them -/
def wz (c : Int64) : Int64 → Nat → Int64
  | a, 0 => a
  | a, n + 1 => wz c (if (ylushr c (8 * n)) &&& 255 = 0 then a else (ylshl a 8) ||| ((ylushr c (8 * n)) &&& 255)) n
def okb (c : Int64) : Nat → Bool
  | 0 => true
  | n + 1 => (decide ((ylushr c (8 * n)) &&& 255 = 0) || (decide (32 ≤ (ylushr c (8 * n)) &&& 255) && decide ((ylushr c (8 * n)) &&& 255 ≤ 126))) && okb c n
theorem nrow_le {c n : Int} (h1 : 0 ≤ c ∧ c ≤ 8) (h2 : 0 ≤ n ∧ n ≤ 40 * c) : 0 ≤ nrow c n ∧ nrow c n ≤ 40 := by
  unfold nrow
  split
  · omega
  · have h := Int.ediv_nonneg h2.1 h1.1
    have : n / c < 41 := Int.ediv_lt_of_lt_mul (by omega) (by omega)
    omega
theorem cell_rng {x y c : Int} (hx : 0 ≤ x ∧ x < 40) (hy : 0 ≤ y ∧ y < c) (hc : c ≤ 8) : 0 ≤ x * c ∧ 0 ≤ x * c + y ∧ x * c + y < 40 * c ∧ x * c + y < 320 := by
  have h1 : 0 ≤ x * c := Int.mul_nonneg hx.1 (by omega)
  have h2 : x * c ≤ 39 * c := Int.mul_le_mul_of_nonneg_right (by omega) (by omega)
  omega
section YINL
variable {q : yQ} {d : Nat} {js : List xO} {S : yS}
theorem c70 {n : Nat} (hn : n < 92) : Y q d 70 0 [vr 124, vi n] [] S js = if yr (gA S 30 n) = 0 then yret q (vj (gB S 9 n)) S js else yret q (vj (yi2l (gA S 31 n))) S js := by
  rw [w70_0]
  have e : yr (n : Int) = n := yr_eq (by omega) (by omega)
  have h : 0 ≤ (n : Int) ∧ (n : Int) < 92 := by omega
  simp only [e, h, and_self, if_true, Int.toNat_natCast]
theorem c176 {x : Int} (hx : -2147483648 ≤ x ∧ x < 2147483648) : Y q d 176 0 [vr 81, vi x] [] S js = if 0 ≤ x ∧ x ≤ 4 then yret q (vi (if x = 0 then gI S 31 else if x = 1 then gI S 29 else if x = 2 then gI S 32 else if x = 3 then gI S 33 else gI S 34)) S js else ythr q (yexc 16) S js := by
  rw [w176_0]
  simp (disch := omega) only [yr_eq]
  repeat' split
  all_goals first | rfl | (exfalso; omega)
theorem c171 {x y : Int} (hx : -2147483648 ≤ x ∧ x < 2147483648) (hy : -2147483648 ≤ y ∧ y < 2147483648) (h1 : 0 ≤ gI S 10 ∧ gI S 10 ≤ 8) (h2 : 0 ≤ gI S 11 ∧ gI S 11 ≤ 40 * gI S 10) : Y q (d + 1) 171 0 [vr 81, vi x, vi y] [] S js = if 0 ≤ x ∧ x < nrow (gI S 10) (gI S 11) ∧ 0 ≤ y ∧ y < gI S 10 then yret q (vj (gB S 7 (x * gI S 10 + y).toNat)) S js else ythr q (yexc 16) S js := by
  have hn := nrow_le (c := gI S 10) (n := gI S 11) h1 h2
  rw [w171_0, c131 h1 ⟨by omega, by omega⟩, YB_ret, w171_12]
  simp (disch := omega) only [yr_eq]
  by_cases a : x < 0
  · rw [if_pos a, if_neg (by omega)]
  · rw [if_neg a]
    by_cases b : x < nrow (gI S 10) (gI S 11)
    · rw [if_pos b]
      by_cases c : y < 0
      · rw [if_pos c, if_neg (by omega)]
      · rw [if_neg c]
        by_cases e : y < gI S 10
        · rw [if_pos e, if_pos ⟨by omega, b, by omega, e⟩]
          have h9 := cell_rng (x := x) (y := y) (c := gI S 10) (by omega) (by omega) (by omega)
          rw [w134_0]
          simp (disch := omega) only [yr_eq]
          rw [if_neg (by omega), if_pos (by omega), if_neg (by omega), if_pos (by omega), if_pos (by omega), YB_ret, w171_47]
        · rw [if_neg e, if_neg (by omega)]
    · rw [if_neg b, if_neg (by omega)]
end YINL
end YIN
