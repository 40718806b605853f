/-! taken from whole by wip/p27/slice.py: 49g.put.lean.txt -/
section YPU
/-- a byte of a long -/
def ybt (c : Int64) (n : Nat) : Int64 := (ylushr c (8 * n)) &&& 255
theorem e255L : (255 : Int64).toBitVec = 255#64 := by decide
theorem and255_nat (x : Int64) : (x &&& 255).toInt = ((x.toBitVec.toNat % 256 : Nat) : Int) := by
  have h : (x &&& 255).toBitVec.toNat = x.toBitVec.toNat % 256 := by
    rw [Int64.toBitVec_and, e255L, BitVec.toNat_and]
    exact Nat.and_two_pow_sub_one_eq_mod x.toBitVec.toNat 8
  have h2 : (x &&& 255).toInt = ((x &&& 255).toBitVec.toNat : Int) := BitVec.toInt_eq_toNat_of_lt (by rw [h]; omega)
  rw [h2, h]
theorem yand_l2i (x : Int64) : yand (yl2i x) 255 = (x &&& 255).toInt := by
  unfold yand yl2i
  rw [yofI, and255_nat]
  have h : (x.toInt32 &&& Int32.ofInt 255).toBitVec.toNat = x.toBitVec.toNat % 256 := by
    rw [Int32.toBitVec_and, e255, BitVec.toNat_and]
    have e : x.toInt32.toBitVec = x.toBitVec.signExtend 32 := rfl
    have e8 : x.toBitVec.signExtend 32 = x.toBitVec.setWidth 32 := BitVec.signExtend_eq_setWidth_of_le _ (by omega)
    rw [e, e8, BitVec.toNat_setWidth]
    have := Nat.and_two_pow_sub_one_eq_mod (x.toBitVec.toNat % 2 ^ 32) 8
    have e2 : (255#32).toNat = 2 ^ 8 - 1 := rfl
    rw [e2, this]
    omega
  have h2 : (x.toInt32 &&& Int32.ofInt 255).toInt = ((x.toInt32 &&& Int32.ofInt 255).toBitVec.toNat : Int) := BitVec.toInt_eq_toNat_of_lt (by rw [h]; omega)
  rw [h2, h]
theorem ybt_rng (c : Int64) (n : Nat) : 0 ≤ (ybt c n).toInt ∧ (ybt c n).toInt ≤ 255 := by
  unfold ybt
  rw [and255_nat]
  omega
theorem ybt_0 (c : Int64) (n : Nat) : (ybt c n).toInt = 0 ↔ ybt c n = 0 := ⟨fun h => Int64.toInt_inj.mp (by rw [h]; rfl), fun h => by rw [h]; rfl⟩
theorem i64_32 : (32 : Int64).toInt = 32 := by decide
theorem i64_126 : (126 : Int64).toInt = 126 := by decide
theorem okb_1 (c : Int64) (n : Nat) : okb c (n + 1) = true ↔ (ybt c n = 0 ∨ (32 ≤ (ybt c n).toInt ∧ (ybt c n).toInt ≤ 126)) ∧ okb c n = true := by
  show ((decide (ybt c n = 0) || (decide (32 ≤ ybt c n) && decide (ybt c n ≤ 126))) && okb c n) = true ↔ _
  rw [Bool.and_eq_true, Bool.or_eq_true, Bool.and_eq_true, decide_eq_true_eq, decide_eq_true_eq, decide_eq_true_eq, Int64.le_iff_toInt_le, Int64.le_iff_toInt_le, i64_32, i64_126]
theorem wz_1 (c a : Int64) (n : Nat) : wz c a (n + 1) = wz c (if ybt c n = 0 then a else (ylshl a 8) ||| ybt c n) n := rfl
section YPUL
variable {q : yQ} {d : Nat} {js : List xO} {S : yS}
theorem c138a (c : Int64) : ∀ (n : Nat) (a : Int64) (x : yV), n ≤ 8 → Y q d 138 6 [vj c, vu, vj a, vu, vi (8 * n - 8), x, vu] [] S js = yret q (vj (wz c a n)) S js
  | 0, a, x, _ => by
    rw [w138_6, if_pos (by decide)]
    rfl
  | n + 1, a, x, h => by
    have e : (8 * ((n + 1 : Nat) : Int) - 8) = 8 * n := by omega
    have e2 : (8 * (n : Int) + -8) = 8 * n - 8 := by omega
    have ih := fun a x => c138a c n a x (by omega)
    rw [e, w138_6, if_neg (by rw [yr_eq] <;> omega), e2, yr_lcmp]
    have e3 : (ylcmp ((ylushr c (8 * n)) &&& 255) 0 = 0) = (ybt c n = 0) := propext (ylcmp_eq _ _)
    rw [wz_1]
    by_cases z : ybt c n = 0
    · rw [if_pos (by rw [e3]; exact z), if_pos z]
      exact ih _ _
    · rw [if_neg (by rw [e3]; exact z), if_neg z]
      exact ih _ _
theorem c138 (c : Int64) : Y q d 138 0 [vj c, vu, vu, vu, vu, vu, vu] [] S js = yret q (vj (wz c 0 8)) S js := by
  rw [w138_0]
  exact c138a c 8 0 vu (by omega)
theorem c136a (c : Int64) : ∀ (n : Nat) (x : yV), n ≤ 8 → Y q d 136 29 [vr 82, vj c, vu, vi (8 * n - 8), x] [] S js = yret q (vi (yb (okb c n = true))) S js
  | 0, x, _ => by
    rw [w136_29, if_pos (by decide)]
    simp only [yz1, if_true]
    rfl
  | n + 1, x, h => by
    have e : (8 * ((n + 1 : Nat) : Int) - 8) = 8 * n := by omega
    have e2 : (8 * (n : Int) + -8) = 8 * n - 8 := by omega
    have ih := fun x => c136a c n x (by omega)
    have hr := ybt_rng c n
    have e3 : yr (yand (yl2i (ylushr c (8 * n))) 255) = (ybt c n).toInt := by rw [yr_and, yand_l2i]; rfl
    rw [e, w136_29, if_neg (by rw [yr_eq] <;> omega), e2, e3]
    simp only [yz0, if_true]
    have e4 : yr 32 = 32 := rfl
    have e5 : yr 126 = 126 := rfl
    rw [e4, e5]
    have hk := okb_1 c n
    have h0 := ybt_0 c n
    by_cases z : (ybt c n).toInt = 0
    · have z2 : (okb c (n + 1) = true) = (okb c n = true) := propext (hk.trans ⟨fun w => w.2, fun w => ⟨Or.inl (h0.mp z), w⟩⟩)
      rw [if_pos z, ih]
      simp only [z2]
    · rw [if_neg z]
      have z' : ¬ ybt c n = 0 := fun w => z (h0.mpr w)
      by_cases z3 : (ybt c n).toInt < 32
      · rw [if_pos z3, yb_f (fun w => by rcases (hk.mp w).1 with w | w; exact z' w; omega)]
      · rw [if_neg z3]
        by_cases z4 : 126 < (ybt c n).toInt
        · rw [if_pos z4, yb_f (fun w => by rcases (hk.mp w).1 with w | w; exact z' w; omega)]
        · have z2 : (okb c (n + 1) = true) = (okb c n = true) := propext (hk.trans ⟨fun w => w.2, fun w => ⟨Or.inr (by omega), w⟩⟩)
          rw [if_neg z4, ih]
          simp only [z2]
theorem emod_rng {n c : Int} (h : 0 < c) : 0 ≤ n % c ∧ n % c < c := ⟨Int.emod_nonneg n (by omega), Int.emod_lt_of_pos n h⟩
theorem c136 {c : Int64} (h1 : 0 < gI S 10 ∧ gI S 10 ≤ 8) (h2 : 0 ≤ gI S 11 ∧ gI S 11 ≤ 320) (ht : gA S 20 (gI S 11 % gI S 10).toNat = 0 ∨ gA S 20 (gI S 11 % gI S 10).toNat = 1) : Y q d 136 0 [vr 82, vj c, vu, vu, vu] [] S js = yret q (vi (yb (gA S 20 (gI S 11 % gI S 10).toNat = 1 → okb c 8 = true))) S js := by
  have hr := emod_rng (n := gI S 11) h1.1
  have e : yr (yirem (gI S 11) (gI S 10)) = gI S 11 % gI S 10 := by rw [yr_irem, yirem_eq (by omega) (by omega)]
  rw [w136_0, yr_eq (x := gI S 10) (by omega) (by omega), if_neg (by omega), if_neg (by omega), e, if_pos (by omega)]
  simp only [yz1, if_true]
  rcases ht with ht | ht
  · rw [if_pos (by rw [ht]; rfl), yb_t (fun w => by omega)]
  · rw [if_neg (by rw [ht]; decide)]
    have := c136a (q := q) (d := d) (S := S) (js := js) c 8 vu (by omega)
    have z : (gA S 20 (gI S 11 % gI S 10).toNat = 1 → okb c 8 = true) = (okb c 8 = true) := propext ⟨fun w => w ht, fun w _ => w⟩
    simp only [z]
    exact this
theorem c137 {c : Int64} (h1 : 0 < gI S 10 ∧ gI S 10 ≤ 8) (h2 : 0 ≤ gI S 11 ∧ gI S 11 < 320) (ht : gA S 20 (gI S 11 % gI S 10).toNat = 0 ∨ gA S 20 (gI S 11 % gI S 10).toNat = 1) : Y q (d + 1) 137 0 [vr 82, vj c, vu] [] S js = yretv q (sI (sB S 7 (gI S 11).toNat (if gA S 20 (gI S 11 % gI S 10).toNat = 1 then wz c 0 8 else c)) 11 (gI S 11 + 1)) js := by
  have hr := emod_rng (n := gI S 11) h1.1
  have e : yr (yirem (gI S 11) (gI S 10)) = gI S 11 % gI S 10 := by rw [yr_irem, yirem_eq (by omega) (by omega)]
  have e3 : yr 320 = 320 := rfl
  rw [w137_0, yr_eq (x := gI S 10) (by omega) (by omega), yr_eq (x := gI S 11) (by omega) (by omega), e, e3, if_pos (by omega), if_pos (by omega), if_neg (by omega), if_pos (by omega)]
  rcases ht with ht | ht
  · rw [if_pos (by rw [ht]; rfl), if_pos (by omega), if_neg (by omega)]
  · rw [if_neg (by rw [ht]; decide), c138, YB_ret, w137_48, yr_eq (x := gI S 11) (by omega) (by omega), if_pos (by omega), if_pos ht]
theorem c169 {c : Int64} (h1 : 0 ≤ gI S 10 ∧ gI S 10 ≤ 8) (h2 : 0 ≤ gI S 11 ∧ gI S 11 ≤ 40 * gI S 10) (ht : 0 < gI S 10 → gA S 20 (gI S 11 % gI S 10).toNat = 0 ∨ gA S 20 (gI S 11 % gI S 10).toNat = 1) : Y q (d + 2) 169 0 [vr 81, vj c, vu] [] S js = if gI S 10 = 0 ∨ gI S 11 = 40 * gI S 10 then ythr q (yexc 14) S js else if gA S 20 (gI S 11 % gI S 10).toNat = 1 → okb c 8 = true then yret q (vi (nrow (gI S 10) (gI S 11 + 1))) (sI (sB S 7 (gI S 11).toNat (if gA S 20 (gI S 11 % gI S 10).toNat = 1 then wz c 0 8 else c)) 11 (gI S 11 + 1)) js else ythr q (yexc 15) S js := by
  have hn := nrow_le (c := gI S 10) (n := gI S 11) h1 h2
  rw [w169_0, yr_eq (x := gI S 10) (by omega) (by omega), c131 h1 (by omega), YB_ret, w169_17]
  have e4 : yr 40 = 40 := rfl
  rw [e4, yr_eq (x := nrow (gI S 10) (gI S 11)) (by omega) (by omega)]
  by_cases z : gI S 10 = 0
  · rw [if_pos z, if_pos (Or.inl z)]
  · rw [if_neg z]
    have ht := ht (by omega)
    have e5 : nrow (gI S 10) (gI S 11) = gI S 11 / gI S 10 := if_neg z
    have e6 : nrow (gI S 10) (gI S 11) < 40 ↔ gI S 11 < 40 * gI S 10 := by rw [e5]; exact Int.ediv_lt_iff_lt_mul (by omega)
    by_cases y : gI S 11 = 40 * gI S 10
    · rw [if_neg (by rw [e6]; omega), if_pos (Or.inr y)]
    · rw [if_pos (by rw [e6]; omega), if_neg (by omega), c136 (by omega) (by omega) ht, YB_ret, w169_38]
      simp only [yr_yb, yb_eq0]
      by_cases k : gA S 20 (gI S 11 % gI S 10).toNat = 1 → okb c 8 = true
      · rw [if_neg (fun w => w k), if_pos k, c137 (by omega) (by omega) ht, YB_retv, w169_57, c131 (S := sI (sB S 7 _ _) 11 _) h1 (show 0 ≤ gI S 11 + 1 ∧ gI S 11 + 1 ≤ 320 by omega), YB_ret, w169_64]
        rfl
      · rw [if_pos k, if_neg k]
end YPUL
end YPU
