/-! WHAT HOLDS BETWEEN CALLS -/
section YIN
/-- the tape -/
def iTp (S : yS) : Prop := gI S 40 = gI S 12 ∧ 0 ≤ gI S 12 ∧ gI S 12 ≤ 2000 ∧ ∀ i : Nat, (i : Int) < gI S 12 → gA S 37 i = tb S i
/-- a text in a cell: its bytes, no 0 between them -/
def wz (c : Int64) : Int64 → Nat → Int64
  | a, 0 => a
  | a, n + 1 => wz c (if (ylushr c (8 * n)) &&& 255 = 0 then a else (ylshl a 8) ||| ((ylushr c (8 * n)) &&& 255)) n
def okb (c : Int64) : Nat → Bool
  | 0 => true
  | n + 1 => (decide ((ylushr c (8 * n)) &&& 255 = 0) || (decide (32 ≤ (ylushr c (8 * n)) &&& 255) && decide ((ylushr c (8 * n)) &&& 255 ≤ 126))) && okb c n
/-- the table -/
def iTb (S : yS) : Prop := gI S 41 = gI S 10 ∧ 0 ≤ gI S 10 ∧ gI S 10 ≤ 8 ∧ gI S 42 = gI S 11 ∧ 0 ≤ gI S 11 ∧ gI S 11 ≤ 40 * gI S 10 ∧ (∀ i : Nat, (i : Int) < gI S 10 → gB S 11 i = gB S 6 i ∧ gA S 38 i = gA S 20 i ∧ (gA S 20 i = 0 ∨ gA S 20 i = 1)) ∧ (∀ i : Nat, (i : Int) < gI S 11 → gB S 12 i = gB S 7 i) ∧ (∀ i : Nat, (i : Int) < gI S 11 → gA S 20 ((i : Int) % gI S 10).toNat = 1 → ∃ c, okb c 8 = true ∧ gB S 7 i = wz c 0 8)
/-- the code -/
def iCd (S : yS) : Prop := gI S 4 = gI S 0 ∧ 0 ≤ gI S 0 ∧ gI S 0 ≤ 4000 ∧ ∀ i : Nat, (i : Int) < gI S 0 → gA S 6 i = gA S 0 i ∧ gB S 2 i = gB S 0 i
/-- where the error is; whether a program is there -/
def iPg (S : yS) : Prop := yr (gI S 59) = yr (gI S 18) ∧ gI S 48 = gI S 19 ∧ (gI S 19 = 0 ∨ gI S 19 = 1) ∧ (gI S 19 = 1 → gI S 54 = gI S 21 ∧ gI S 55 = gI S 22 ∧ 10 ≤ gI S 21 ∧ gI S 21 ≤ 60 ∧ 4 ≤ gI S 22 ∧ gI S 22 ≤ 40)
/-- what evaluate reckoned last -/
def iRs (S : yS) : Prop := (gA S 30 27 = 0 ∧ gI S 62 = -1 ∧ gJ S 2 = gB S 9 27 ∧ gA S 31 27 = 0) ∨ (gA S 30 27 = 1 ∧ gI S 62 = gA S 31 27 ∧ 0 ≤ gA S 31 27 ∧ gA S 31 27 ≤ 60 ∧ gJ S 2 = yi2l (gA S 31 27) ∧ ∀ i : Nat, (i : Int) < gA S 31 27 → gA S 56 i = gA S 32 (1620 + i) ∧ 0 ≤ gA S 32 (1620 + i) ∧ gA S 32 (1620 + i) ≤ 127)
/-- the latest run -/
def iRn (S : yS) : Prop := gI S 66 = gI S 30 ∧ 0 ≤ gI S 30 ∧ gI S 30 ≤ 4 ∧ (gI S 30 = 0 → gI S 31 = 0 ∧ gI S 29 = 0 ∧ gI S 32 = 0 ∧ gI S 33 = 0 ∧ gI S 34 = 0) ∧ (0 < gI S 30 → gI S 19 = 1 ∧ gI S 67 = gI S 31 ∧ gI S 68 = gI S 29 ∧ gI S 69 = gI S 32 ∧ gI S 70 = gI S 33 ∧ gI S 71 = gI S 34 ∧ gI S 27 = gI S 21 ∧ gI S 28 = gI S 22 ∧ 0 ≤ gI S 29 ∧ gI S 29 ≤ 30 ∧ 0 ≤ gI S 32 ∧ gI S 32 ≤ 40 ∧ gI S 52 = gI S 9 ∧ 0 ≤ gI S 9 ∧ gI S 9 ≤ 8 ∧ gI S 57 = gI S 24 ∧ 0 ≤ gI S 24 ∧ gI S 24 ≤ 3 ∧ (∀ i : Nat, (i : Int) < gI S 29 * gI S 28 * gI S 27 → gA S 64 i = gA S 33 i) ∧ (∀ i : Nat, (i : Int) < gI S 32 → gA S 61 i = gA S 34 i) ∧ (∀ i : Nat, (i : Int) < gI S 24 → gA S 62 i = gA S 35 i) ∧ (∀ i : Nat, (i : Int) < gI S 9 → (gA S 30 (16 + i) = 0 ∧ gA S 59 (8 + i) = -1 ∧ gB S 17 (8 + i) = gB S 9 (16 + i)) ∨ (gA S 30 (16 + i) = 1 ∧ gA S 59 (8 + i) = gA S 31 (16 + i) ∧ 0 ≤ gA S 31 (16 + i) ∧ gA S 31 (16 + i) ≤ 60)))
/-- names' tables in their ranges; the first text of a unit begins at 0 -/
def iZ (S : yS) : Prop := (0 ≤ gI S 8 ∧ gI S 8 ≤ 8) ∧ (0 ≤ gI S 9 ∧ gI S 9 ≤ 8) ∧ (0 ≤ gI S 51 ∧ gI S 51 ≤ 8) ∧ (0 ≤ gI S 52 ∧ gI S 52 ≤ 8) ∧ (∀ i : Nat, (i : Int) < gI S 51 → gA S 42 i = 0 ∨ gA S 42 i = 1) ∧ (∀ i : Nat, (i : Int) < gI S 52 → gA S 44 i = 0 ∨ gA S 44 i = 1) ∧ gA S 4 0 = 0 ∧ gA S 5 0 = 0
/-- the latest run, the keywords -/
def iRx (S : yS) : Prop := iRn S ∧ (∀ j : Nat, j < 46 → gB S 10 j = yKw j) ∧ iZ S
def yI (S : yS) : Prop := iTp S ∧ iTb S ∧ iCd S ∧ iPg S ∧ iRs S ∧ iRx S
theorem yI_out {S : yS} {j : Nat} {x : Int64} (h : yI S) : yI (sB S 18 j x) := h
theorem yI_thr {S : yS} {x : Int} (h : yI S) : yI (sI S 39 x) := h
theorem xa_rng (q : yQ) (i : Int) : -2147483648 ≤ xa q i ∧ xa q i < 2147483648 := ⟨Int32.le_toInt _, Int32.toInt_lt _⟩
theorem xsum_1 (js : List xO) (c : Nat) : xsum (js ++ [yexc c]) ≤ xsum js + 120 := by
  rw [xsum_app]
  have : xsum [yexc c] = 6 := by simp [xsum, xsz, yexc]
  omega
theorem len_1 (js : List xO) (c : Nat) : (js ++ [yexc c]).length ≤ js.length + 12 := by rw [List.length_append, List.length_singleton]; omega
theorem nrow_le {c n : Int} (h1 : 0 ≤ c ∧ c ≤ 8) (h2 : 0 ≤ n ∧ n ≤ 40 * c) : 0 ≤ nrow c n ∧ nrow c n ≤ 40 := by
  unfold nrow
  split
  · omega
  · have h := Int.ediv_nonneg h2.1 h1.1
    have : n / c < 41 := Int.ediv_lt_of_lt_mul (by omega) (by omega)
    omega
theorem cell_rng {x y c : Int} (hx : 0 ≤ x ∧ x < 40) (hy : 0 ≤ y ∧ y < c) (hc : c ≤ 8) : 0 ≤ x * c ∧ 0 ≤ x * c + y ∧ x * c + y < 40 * c ∧ x * c + y < 320 := by
  have h1 : 0 ≤ x * c := Int.mul_nonneg hx.1 (by omega)
  have h2 : x * c ≤ 39 * c := Int.mul_le_mul_of_nonneg_right (by omega) (by omega)
  omega
section YINL
variable {q : yQ} {d : Nat} {js : List xO} {S : yS}
theorem r191i {x l u : Int} {l' u' : Int64} (el : l' = yi2l l) (eu : u' = yi2l u) (hx : -2147483648 ≤ x ∧ x < 2147483648) (hl : -2147483648 ≤ l ∧ l < 2147483648) (hu : -2147483648 ≤ u ∧ u < 2147483648) : Y q d 191 0 [vj (yi2l x), vu, vj l', vu, vj u', vu] [] S js = yret q (vi (yb (l ≤ x ∧ x ≤ u))) S js := by
  rw [r191]
  have e : (l' ≤ yi2l x ∧ yi2l x ≤ u') = (l ≤ x ∧ x ≤ u) := by rw [el, eu, yi2l_le, yi2l_le, yr_eq hx.1 hx.2, yr_eq hl.1 hl.2, yr_eq hu.1 hu.2]
  simp only [e]
theorem e0 : (0 : Int64) = yi2l 0 := by decide
theorem e1 : (1 : Int64) = yi2l 1 := by decide
theorem e2 : (2 : Int64) = yi2l 2 := by decide
theorem e4 : (4 : Int64) = yi2l 4 := by decide
theorem e8 : (8 : Int64) = yi2l 8 := by decide
/-! count -/
theorem c170 {x : Int} (hx : -2147483648 ≤ x ∧ x < 2147483648) (h1 : 0 ≤ gI S 10 ∧ gI S 10 ≤ 8) (h2 : 0 ≤ gI S 11 ∧ gI S 11 ≤ 320) : Y q (d + 1) 170 0 [vr 75, vi x] [] S js = if x = 0 then yret q (vi (gI S 10)) S js else if x = 1 then yret q (vi (nrow (gI S 10) (gI S 11))) S js else if x = 2 then yret q (vi (gI S 12)) S js else ythr q (yexc 16) S js := by
  rw [w170_0, yr_eq hx.1 hx.2, c131 h1 h2, YB_ret, w170_43]
theorem r202 {x : Int} (hx : -2147483648 ≤ x ∧ x < 2147483648) (h1 : 0 ≤ gI S 41 ∧ gI S 41 ≤ 8) (h2 : 0 ≤ gI S 42 ∧ gI S 42 ≤ 320) : Y q (d + 1) 202 0 [vr 129, vi x] [] S js = if x = 0 then yret q (vi (gI S 41)) S js else if x = 1 then yret q (vi (nrow (gI S 41) (gI S 42))) S js else yret q (vi (gI S 40)) S js := by
  rw [w202_0, yr_eq hx.1 hx.2, r199 h1 h2, YB_ret, w202_20, yr_eq (x := 1) (by omega) (by omega)]
theorem r201 {x : Int} (hx : -2147483648 ≤ x ∧ x < 2147483648) (h1 : 0 ≤ gI S 41 ∧ gI S 41 ≤ 8) (h2 : 0 ≤ gI S 42 ∧ gI S 42 ≤ 320) : Y q (d + 2) 201 0 [vr 129, vi x] [] S js = if 0 ≤ x ∧ x ≤ 2 then (if x = 0 then yret q (vi (gI S 41)) (sI S 39 0) js else if x = 1 then yret q (vi (nrow (gI S 41) (gI S 42))) (sI S 39 0) js else yret q (vi (gI S 40)) (sI S 39 0) js) else yret q (vi 0) (sI (sI S 39 0) 39 1) js := by
  rw [w201_0, r191i (l := 0) (u := 2) e0 e2 hx (by omega) (by omega), YB_ret, w201_14]
  simp only [yr_yb, yb_eq0, w188_0, YB_ret]
  rw [r202 (S := sI S 39 0) hx h1 h2]
  by_cases h : 0 ≤ x ∧ x ≤ 2
  · rw [if_neg (fun z => z h), if_pos h]
    repeat' split
    all_goals rw [YB_ret, w201_22]
    all_goals rfl
  · rw [if_pos h, if_neg h, w201_30]
/-! trim, the program's size, results -/
theorem c167 {x : Int} (hx : -2147483648 ≤ x ∧ x < 2147483648) (h1 : 0 ≤ gI S 12 ∧ gI S 12 ≤ 2000) : Y q d 167 0 [vr 75, vi x] [] S js = if 0 ≤ x ∧ x ≤ gI S 12 then yret q (vi x) (sI S 12 x) js else ythr q (yexc 15) S js := by
  rw [w167_0]
  simp (disch := omega) only [yr_eq]
  repeat' split
  all_goals first | rfl | (exfalso; omega)
theorem r190 {x : Int} (hx : -2147483648 ≤ x ∧ x < 2147483648) (h1 : 0 ≤ gI S 40 ∧ gI S 40 ≤ 2000) : Y q (d + 1) 190 0 [vr 129, vi x] [] S js = if 0 ≤ x ∧ x ≤ gI S 40 then yret q (vi x) (sI (sI S 39 0) 40 x) js else yret q (vi 0) (sI (sI S 39 0) 39 1) js := by
  rw [w190_0, r191i (l := 0) (u := gI S 40) e0 rfl hx (by omega) (by omega), YB_ret, w190_16]
  simp only [yr_yb, yb_eq0, w188_0, YB_ret]
  by_cases h : 0 ≤ x ∧ x ≤ gI S 40
  · rw [if_neg (fun z => z h), if_pos h]
  · rw [if_pos h, if_neg h, w190_24]
theorem c70 {n : Nat} (hn : n < 92) : Y q d 70 0 [vr 118, vi n] [] S js = if yr (gA S 30 n) = 0 then yret q (vj (gB S 9 n)) S js else yret q (vj (yi2l (gA S 31 n))) S js := by
  rw [w70_0]
  have e : yr (n : Int) = n := yr_eq (by omega) (by omega)
  have h : 0 ≤ (n : Int) ∧ (n : Int) < 92 := by omega
  simp only [e, h, and_self, if_true, Int.toNat_natCast]
theorem c163 : Y q (d + 1) 163 0 [vr 75] [] S js = if yr (gA S 30 27) = 0 then yret q (vj (gB S 9 27)) S js else yret q (vj (yi2l (gA S 31 27))) S js := by
  rw [w163_0, show (27 : Int) = ((27 : Nat) : Int) from rfl, c70 (n := 27) (by omega), YB_ite, YB_ret, YB_ret, w163_9, w163_9]
theorem c174 {x : Int} (hx : -2147483648 ≤ x ∧ x < 2147483648) (h1 : 0 ≤ gA S 31 27 ∧ gA S 31 27 ≤ 60) : Y q (d + 1) 174 0 [vr 75, vi x] [] S js = if 0 ≤ x ∧ x < gA S 31 27 then yret q (vi (gA S 32 (1620 + x.toNat))) S js else ythr q (yexc 16) S js := by
  rw [w174_0]
  have e27 : (yr 27).toNat = 27 := rfl
  have f27 : yr 27 = 27 := rfl
  rw [e27, f27, yr_eq hx.1 hx.2, yr_eq (x := gA S 31 27) (by omega) (by omega)]
  split
  · rw [if_neg (by omega)]
  · rw [if_pos (by omega)]
    split
    · rw [w86_0, if_pos (by rw [yr_eq] <;> omega), YB_ret, w174_36, if_pos (by omega), yr_eq (by omega) (by omega)]
      rw [show (27 * 60 + x).toNat = 1620 + x.toNat by omega]
    · rw [if_neg (by omega)]
theorem r275 {x : Int} (hx : -2147483648 ≤ x ∧ x < 2147483648) (h1 : -1 ≤ gI S 62 ∧ gI S 62 ≤ 60) : Y q (d + 1) 275 0 [vr 129, vi x] [] S js = if 0 ≤ x ∧ x < gI S 62 then yret q (vi (gA S 56 x.toNat)) (sI S 39 0) js else yret q (vi 0) (sI (sI S 39 0) 39 1) js := by
  rw [w275_0, r191i (l := 0) (u := gI S 62 - 1) e0 rfl hx (by omega) (by omega), YB_ret, w275_18]
  simp only [yr_yb, yb_eq0, w188_0, YB_ret]
  by_cases h : 0 ≤ x ∧ x < gI S 62
  · rw [if_neg (by omega), if_pos h, yr_eq hx.1 hx.2, if_pos (by omega)]
    rfl
  · rw [if_pos (by omega), if_neg h, w275_35]
theorem r303 {x : Int} (hx : -2147483648 ≤ x ∧ x < 2147483648) (h1 : 0 ≤ gI S 66 ∧ gI S 66 ≤ 4) : Y q d 303 0 [vr 129, vi x] [] S js = yret q (vi (if gI S 66 = 0 then 0 else if x = 0 then gI S 67 else if x = 1 then gI S 68 else if x = 2 then gI S 69 else if x = 3 then gI S 70 else gI S 71)) S js := by
  rw [w303_0]
  simp (disch := omega) only [yr_eq]
  repeat' split
  all_goals rfl
theorem r302 {x : Int} (hx : -2147483648 ≤ x ∧ x < 2147483648) (h1 : 0 ≤ gI S 66 ∧ gI S 66 ≤ 4) : Y q (d + 1) 302 0 [vr 129, vi x] [] S js = if 0 ≤ x ∧ x ≤ 4 then yret q (vi (if gI S 66 = 0 then 0 else if x = 0 then gI S 67 else if x = 1 then gI S 68 else if x = 2 then gI S 69 else if x = 3 then gI S 70 else gI S 71)) (sI S 39 0) js else yret q (vi 0) (sI (sI S 39 0) 39 1) js := by
  rw [w302_0, r191i (l := 0) (u := 4) e0 e4 hx (by omega) (by omega), YB_ret, w302_14]
  simp only [yr_yb, yb_eq0, w188_0, YB_ret]
  rw [r303 (S := sI S 39 0) hx h1, YB_ret, w302_22]
  by_cases h : 0 ≤ x ∧ x ≤ 4
  · rw [if_neg (fun z => z h), if_pos h]
    rfl
  · rw [if_pos h, if_neg h, w302_30]
theorem c176 {x : Int} (hx : -2147483648 ≤ x ∧ x < 2147483648) : Y q d 176 0 [vr 75, vi x] [] S js = if 0 ≤ x ∧ x ≤ 4 then yret q (vi (if x = 0 then gI S 31 else if x = 1 then gI S 29 else if x = 2 then gI S 32 else if x = 3 then gI S 33 else gI S 34)) S js else ythr q (yexc 16) S js := by
  rw [w176_0]
  simp (disch := omega) only [yr_eq]
  repeat' split
  all_goals first | rfl | (exfalso; omega)
theorem c177 {b : Int} (hb : b = 0 ∨ b = 1) (h1 : gI S 19 = 0 ∨ gI S 19 = 1) : Y q d 177 0 [vr 75, vi b] [] S js = if gI S 19 = 1 then yret q (vi (if b = 0 then gI S 21 else gI S 22)) S js else ythr q (yexc 14) S js := by
  rw [w177_0]
  simp (disch := omega) only [yr_eq]
  repeat' split
  all_goals first | rfl | (exfalso; omega)
theorem r304 {b : Int} (hb : b = 0 ∨ b = 1) (h1 : gI S 48 = 0 ∨ gI S 48 = 1) : Y q (d + 1) 304 0 [vr 129, vi b] [] S js = if gI S 48 = 1 then yret q (vi (if b = 0 then gI S 54 else gI S 55)) (sI S 39 0) js else yret q (vi 0) (sI (sI S 39 0) 39 1) js := by
  rw [w304_0, w188_0, YB_ret, w304_17]
  simp (disch := omega) only [yr_eq]
  repeat' split
  all_goals first | rfl | (exfalso; omega)
theorem c172 {x b : Int} (hx : -2147483648 ≤ x ∧ x < 2147483648) (hb : b = 0 ∨ b = 1) (h1 : 0 ≤ gI S 0 ∧ gI S 0 ≤ 4000) : Y q d 172 0 [vr 75, vi x, vi b] [] S js = if 0 ≤ x ∧ x < gI S 0 then yret q (vj (if b = 0 then yi2l (gA S 0 x.toNat) else gB S 0 x.toNat)) S js else ythr q (yexc 16) S js := by
  rw [w172_0]
  simp (disch := omega) only [yr_eq]
  repeat' split
  all_goals first | rfl | (exfalso; omega)
theorem r256 {x b : Int} (hx : -2147483648 ≤ x ∧ x < 2147483648) (hb : b = 0 ∨ b = 1) (h1 : 0 ≤ gI S 4 ∧ gI S 4 ≤ 4000) : Y q (d + 1) 256 0 [vr 129, vi x, vi b] [] S js = if 0 ≤ x ∧ x < gI S 4 then yret q (vj (if b = 0 then yi2l (gA S 6 x.toNat) else gB S 2 x.toNat)) (sI S 39 0) js else yret q (vj 0) (sI S 39 1) js := by
  rw [w256_0, r191i (l := 0) (u := gI S 4 - 1) e0 rfl hx (by omega) (by omega), YB_ret, w256_17]
  simp only [yr_yb, yb_eq0]
  simp (disch := omega) only [yr_eq, ↓reduceIte, Int.reduceEq]
  by_cases h : 0 ≤ x ∧ x < gI S 4
  · have h9 : 0 ≤ x ∧ x < 8000 := by omega
    rw [if_neg (by omega), if_pos h]
    simp only [h9, and_self, if_true]
    split <;> rfl
  · rw [if_pos (by omega), if_neg h]
theorem c171 {x y : Int} (hx : -2147483648 ≤ x ∧ x < 2147483648) (hy : -2147483648 ≤ y ∧ y < 2147483648) (h1 : 0 ≤ gI S 10 ∧ gI S 10 ≤ 8) (h2 : 0 ≤ gI S 11 ∧ gI S 11 ≤ 40 * gI S 10) : Y q (d + 1) 171 0 [vr 75, vi x, vi y] [] S js = if 0 ≤ x ∧ x < nrow (gI S 10) (gI S 11) ∧ 0 ≤ y ∧ y < gI S 10 then yret q (vj (gB S 7 (x * gI S 10 + y).toNat)) S js else ythr q (yexc 16) S js := by
  have hn := nrow_le (c := gI S 10) (n := gI S 11) h1 h2
  rw [w171_0, c131 h1 ⟨by omega, by omega⟩, YB_ret, w171_12]
  simp (disch := omega) only [yr_eq]
  by_cases a : x < 0
  · rw [if_pos a, if_neg (by omega)]
  · rw [if_neg a]
    by_cases b : x < nrow (gI S 10) (gI S 11)
    · rw [if_pos b]
      by_cases c : y < 0
      · rw [if_pos c, if_neg (by omega)]
      · rw [if_neg c]
        by_cases e : y < gI S 10
        · rw [if_pos e, if_pos ⟨by omega, b, by omega, e⟩]
          have h9 := cell_rng (x := x) (y := y) (c := gI S 10) (by omega) (by omega) (by omega)
          rw [w134_0]
          simp (disch := omega) only [yr_eq]
          rw [if_neg (by omega), if_pos (by omega), if_neg (by omega), if_pos (by omega), if_pos (by omega), YB_ret, w171_47]
        · rw [if_neg e, if_neg (by omega)]
    · rw [if_neg b, if_neg (by omega)]
theorem r203 {x y : Int} (hx : -2147483648 ≤ x ∧ x < 2147483648) (hy : -2147483648 ≤ y ∧ y < 2147483648) (h1 : 0 ≤ gI S 41 ∧ gI S 41 ≤ 8) (h2 : 0 ≤ gI S 42 ∧ gI S 42 ≤ 40 * gI S 41) : Y q (d + 1) 203 0 [vr 129, vi x, vi y] [] S js = if 0 ≤ x ∧ x < nrow (gI S 41) (gI S 42) ∧ 0 ≤ y ∧ y < gI S 41 then yret q (vj (gB S 12 (x * gI S 41 + y).toNat)) (sI S 39 0) js else yret q (vj 0) (sI S 39 1) js := by
  have hn := nrow_le (c := gI S 41) (n := gI S 42) h1 h2
  rw [w203_0, r199 h1 ⟨by omega, by omega⟩, YB_ret, w203_8, r191i (l := 0) (u := nrow (gI S 41) (gI S 42) - 1) e0 rfl hx (by omega) (by omega), YB_ret, w203_14, r191i (x := y) (l := 0) (u := gI S 41 - 1) e0 rfl hy (by omega) (by omega), YB_ret, w203_30]
  simp only [yr_yb, yb_eq0]
  simp (disch := omega) only [yr_eq, ↓reduceIte, Int.reduceEq]
  by_cases a : 0 ≤ x ∧ x ≤ nrow (gI S 41) (gI S 42) - 1
  · rw [if_neg (by omega)]
    by_cases b : 0 ≤ y ∧ y ≤ gI S 41 - 1
    · rw [if_neg (by omega), if_pos ⟨by omega, by omega, by omega, by omega⟩, w204_0]
      have h9 := cell_rng (x := x) (y := y) (c := gI S 41) (by omega) (by omega) (by omega)
      have e9 : gI (sI S 39 0) 41 = gI S 41 := rfl
      rw [e9, Int.mul_comm, if_pos (by rw [yr_eq] <;> omega), yr_eq (by omega) (by omega), YB_ret, w203_54]
      rfl
    · rw [if_pos (by omega), if_neg (by omega)]
  · rw [if_pos (by omega), if_neg (by omega)]
end YINL
end YIN
