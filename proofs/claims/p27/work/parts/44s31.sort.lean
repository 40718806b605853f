/-! taken from whole by wip/p27/slice.py: 9zzz.sort.lean.txt -/
section YTA
/-- the first byte highest -/
def ylef : Nat → Int64 → Int64
  | 0, a => a
  | n + 1, a => if ylushr a 56 = 0 then ylef n (ylshl a 8) else a
/-- rows compared by a column -/
def ycel (S : yS) (x k : Nat) : Int64 := gB S 7 ((x : Int) * gI S 10 + k).toNat
def ycc (S : yS) (x y k : Nat) : Int := if yr (gA S 20 k) = 0 then ycmp (ycel S x k) (ycel S y k) else ycmp (ylef 7 (ycel S x k)) (ylef 7 (ycel S y k))
def ycro (f : Nat → Int) : List (Nat × Nat) → Int
  | [] => 0
  | x :: l => if f x.1 = 0 then ycro f l else if x.2 = 0 then f x.1 else - f x.1
section YTAL
variable {q : yQ} {d : Nat} {js : List xO} {S : yS}
theorem ycmp_r (a b : Int64) : -1 ≤ ycmp a b ∧ ycmp a b ≤ 1 := by
  unfold ycmp
  split
  · omega
  · split <;> omega
theorem ycc_r (x y k : Nat) : -1 ≤ ycc S x y k ∧ ycc S x y k ≤ 1 := by
  unfold ycc
  split <;> exact ycmp_r _ _
theorem c140 : ∀ (n : Nat) (a : Int64) (i : Nat), i + n = 7 → Y q d 140 2 [vj a, vu, vi i] [] S js = yret q (vj (ylef n a)) S js
  | 0, a, i, h => by
    rw [w140_2, if_neg (by rw [yr_eq, yr_eq] <;> omega)]
    rfl
  | n + 1, a, i, h => by
    have e1 : (i : Int) + 1 = ((i + 1 : Nat) : Int) := by omega
    rw [w140_2, if_pos (by rw [yr_eq, yr_eq] <;> omega)]
    unfold ylef
    by_cases z : ylushr a 56 = 0
    · rw [if_pos (by rw [yr_lcmp]; exact (ylcmp_eq _ _).mpr z), if_pos z, e1]
      exact c140 n _ (i + 1) (by omega)
    · rw [if_neg (fun y => z ((ylcmp_eq _ _).mp (by rw [← yr_lcmp]; exact y))), if_neg z]
theorem c140' (a : Int64) : Y q d 140 0 [vj a, vu, vu] [] S js = yret q (vj (ylef 7 a)) S js := by
  rw [w140_0]
  exact c140 7 a 0 (by omega)
theorem c139 {x y k : Nat} (hx : x < 40) (hy : y < 40) (hk : (k : Int) < gI S 10) (h1 : gI S 10 ≤ 8) : Y q (d + 1) 139 0 [vr 82, vi x, vi y, vi k, vu, vu, vu, vu] [] S js = yret q (vi (ycc S x y k)) S js := by
  have e1 := c134 (q := q) (d := d) (js := js) (S := S) (x := x) (y := k) (by omega) (by omega) h1
  have e2 := c134 (q := q) (d := d) (js := js) (S := S) (x := y) (y := k) (by omega) (by omega) h1
  rw [w139_0, e1, YB_ret, w139_6, e2, YB_ret, w139_14, c133 hk (by omega), YB_ret, w139_21]
  unfold ycc ycel
  by_cases z : yr (gA S 20 k) = 0
  · rw [if_pos z, if_pos z, if_pos (by decide), r319, YB_ret, w139_47]
  · rw [if_neg z, if_neg z, if_neg (by decide), c140', YB_ret, w139_29, c140', YB_ret, w139_34, r319, YB_ret, w139_37]
theorem c116 {O : List (Nat × Nat)} (hO : vO S O) (h4 : O.length ≤ 4) (hc : ∀ x, x ∈ O → (x.1 : Int) < gI S 10) (hd : ∀ x, x ∈ O → x.2 ≤ 1) (h1 : gI S 10 ≤ 8) {x y : Nat} (hx : x < 40) (hy : y < 40) : ∀ (l : List (Nat × Nat)) (i : Nat) (z : yV), O.drop i = l → i ≤ O.length → Y q (d + 2) 116 2 [vr 131, vi x, vi y, vi i, z] [] S js = yret q (vi (yb (ycro (ycc S x y) l < 0))) S js
  | [], i, z, hl, hi => by
    have hn : i = O.length := by
      have := congrArg List.length hl
      rw [List.length_drop] at this
      have this : O.length - i = 0 := this
      omega
    have e23 := hO.1
    rw [w116_2, if_neg (by rw [yr_eq, yr_eq] <;> omega), if_pos (Or.inl yr_0)]
    rfl
  | w :: l, i, z, hl, hi => by
    have e23 := hO.1
    have hlt : i < O.length := by
      have := congrArg List.length hl
      rw [List.length_drop, List.length_cons] at this
      omega
    have hw : O[i]? = some w := by
      have : (O.drop i)[0]? = some w := by rw [hl]; rfl
      rw [List.getElem?_drop, Nat.add_zero] at this
      exact this
    have hmem := List.mem_of_getElem? hw
    obtain ⟨g1, g2⟩ := hO.2 i w hw
    have g1 : gA S 23 i = (w.1 : Int) := g1
    have g2 : gA S 24 i = (w.2 : Int) := g2
    have ei : yr (i : Int) = i := yr_eq (by omega) (by omega)
    have e1 : (i : Int) + 1 = ((i + 1 : Nat) : Int) := by omega
    have r := ycc_r (S := S) x y w.1
    have er : yr (ycc S x y w.1) = ycc S x y w.1 := yr_eq (by omega) (by omega)
    have hw2 := hd w hmem
    have ew2 : yr (w.2 : Int) = w.2 := yr_eq (by omega) (by omega)
    have dl : O.drop (i + 1) = l := by
      have := congrArg List.tail hl
      rw [List.tail_drop] at this
      exact this
    have o1 : yr 1 = 0 ∨ yr 1 = 1 := Or.inr rfl
    have o0 : yr 0 = 0 ∨ yr 0 = 1 := Or.inl rfl
    have ih := fun z => c116 hO h4 hc hd h1 hx hy l (i + 1) z dl (by omega)
    have h139 := c139 (q := q) (d := d) (js := js) (S := S) hx hy (hc w hmem) h1
    rw [w116_2, ei, if_pos (by rw [yr_eq] <;> omega), if_pos (by omega), Int.toNat_natCast, g1, h139, YB_ret, w116_31, er, e1, ei, Int.toNat_natCast, g2, ew2]
    show _ = yret q (vi (yb ((if ycc S x y w.1 = 0 then ycro (ycc S x y) l else if w.2 = 0 then ycc S x y w.1 else - ycc S x y w.1) < 0))) S js
    by_cases z0 : ycc S x y w.1 = 0
    · rw [if_pos z0, if_pos z0]
      exact ih _
    · rw [if_neg z0, if_neg z0, if_pos (by omega)]
      by_cases z2 : w.2 = 0
      · rw [if_pos z2, if_pos (by omega)]
        by_cases z3 : ycc S x y w.1 < 0
        · rw [if_pos z3, if_pos o1, yb, if_pos z3]
        · rw [if_neg z3, if_pos o0, yb, if_neg z3]
      · rw [if_neg z2, if_neg (by omega)]
        by_cases z3 : 0 < ycc S x y w.1
        · rw [if_pos z3, if_pos o1, yb, if_pos (by omega)]
        · rw [if_neg z3, if_pos o0, yb, if_neg (by omega)]
end YTAL
end YTA
