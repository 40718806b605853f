/-! PUT -/
section YPU
theorem b255L (v : BitVec 64) {n : Nat} (hn : n ≤ 56) : v.sshiftRight n &&& 255#64 = v >>> n &&& 255#64 := by
  apply BitVec.eq_of_getLsbD_eq
  intro i hi
  rw [BitVec.getLsbD_and, BitVec.getLsbD_and]
  by_cases h : i < 8
  · rw [BitVec.getLsbD_sshiftRight, BitVec.getLsbD_ushiftRight]
    have h1 : n + i < 64 := by omega
    have h2 : ¬ 64 ≤ i := by omega
    simp [h1, hi, h2]
  · have : (255#64).getLsbD i = false := by
      rw [BitVec.getLsbD_ofNat]
      have e : (255 : Nat) = 2 ^ 8 - 1 := rfl
      rw [e, Nat.testBit_two_pow_sub_one]
      simp [h]
    rw [this, Bool.and_false, Bool.and_false]
/-- a byte of a long -/
def ybt (c : Int64) (n : Nat) : Int64 := (ylushr c (8 * n)) &&& 255
theorem e255L : (255 : Int64).toBitVec = 255#64 := by decide
theorem ybt_s (c : Int64) {n : Nat} (hn : n ≤ 7) : (ylshr c (8 * n)) &&& 255 = ybt c n := by
  unfold ybt ylshr ylushr
  apply Int64.toBitVec_inj.mp
  rw [Int64.toBitVec_and, Int64.toBitVec_and, e255L]
  match n, hn with
  | 0, _ => exact b255L c.toBitVec (n := 0) (by omega)
  | 1, _ => exact b255L c.toBitVec (n := 8) (by omega)
  | 2, _ => exact b255L c.toBitVec (n := 16) (by omega)
  | 3, _ => exact b255L c.toBitVec (n := 24) (by omega)
  | 4, _ => exact b255L c.toBitVec (n := 32) (by omega)
  | 5, _ => exact b255L c.toBitVec (n := 40) (by omega)
  | 6, _ => exact b255L c.toBitVec (n := 48) (by omega)
  | 7, _ => exact b255L c.toBitVec (n := 56) (by omega)
theorem and255_nat (x : Int64) : (x &&& 255).toInt = ((x.toBitVec.toNat % 256 : Nat) : Int) := by
  have h : (x &&& 255).toBitVec.toNat = x.toBitVec.toNat % 256 := by
    rw [Int64.toBitVec_and, e255L, BitVec.toNat_and]
    exact Nat.and_two_pow_sub_one_eq_mod x.toBitVec.toNat 8
  have h2 : (x &&& 255).toInt = ((x &&& 255).toBitVec.toNat : Int) := BitVec.toInt_eq_toNat_of_lt (by rw [h]; omega)
  rw [h2, h]
theorem yand_l2i (x : Int64) : yand (yl2i x) 255 = (x &&& 255).toInt := by
  unfold yand yl2i
  rw [yofI, and255_nat]
  have h : (x.toInt32 &&& Int32.ofInt 255).toBitVec.toNat = x.toBitVec.toNat % 256 := by
    rw [Int32.toBitVec_and, e255, BitVec.toNat_and]
    have e : x.toInt32.toBitVec = x.toBitVec.signExtend 32 := rfl
    have e8 : x.toBitVec.signExtend 32 = x.toBitVec.setWidth 32 := BitVec.signExtend_eq_setWidth_of_le _ (by omega)
    rw [e, e8, BitVec.toNat_setWidth]
    have := Nat.and_two_pow_sub_one_eq_mod (x.toBitVec.toNat % 2 ^ 32) 8
    have e2 : (255#32).toNat = 2 ^ 8 - 1 := rfl
    rw [e2, this]
    omega
  have h2 : (x.toInt32 &&& Int32.ofInt 255).toInt = ((x.toInt32 &&& Int32.ofInt 255).toBitVec.toNat : Int) := BitVec.toInt_eq_toNat_of_lt (by rw [h]; omega)
  rw [h2, h]
theorem ybt_rng (c : Int64) (n : Nat) : 0 ≤ (ybt c n).toInt ∧ (ybt c n).toInt ≤ 255 := by
  unfold ybt
  rw [and255_nat]
  omega
theorem ybt_0 (c : Int64) (n : Nat) : (ybt c n).toInt = 0 ↔ ybt c n = 0 := ⟨fun h => Int64.toInt_inj.mp (by rw [h]; rfl), fun h => by rw [h]; rfl⟩
theorem i64_32 : (32 : Int64).toInt = 32 := by decide
theorem i64_126 : (126 : Int64).toInt = 126 := by decide
theorem okb_1 (c : Int64) (n : Nat) : okb c (n + 1) = true ↔ (ybt c n = 0 ∨ (32 ≤ (ybt c n).toInt ∧ (ybt c n).toInt ≤ 126)) ∧ okb c n = true := by
  show ((decide (ybt c n = 0) || (decide (32 ≤ ybt c n) && decide (ybt c n ≤ 126))) && okb c n) = true ↔ _
  rw [Bool.and_eq_true, Bool.or_eq_true, Bool.and_eq_true, decide_eq_true_eq, decide_eq_true_eq, decide_eq_true_eq, Int64.le_iff_toInt_le, Int64.le_iff_toInt_le, i64_32, i64_126]
theorem wz_1 (c a : Int64) (n : Nat) : wz c a (n + 1) = wz c (if ybt c n = 0 then a else (ylshl a 8) ||| ybt c n) n := rfl
section YPUL
variable {q : yQ} {d : Nat} {js : List xO} {S : yS}
theorem c138a (c : Int64) : ∀ (n : Nat) (a : Int64) (x : yV), n ≤ 8 → Y q d 138 6 [vj c, vu, vj a, vu, vi (8 * n - 8), x, vu] [] S js = yret q (vj (wz c a n)) S js
  | 0, a, x, _ => by
    rw [w138_6, if_pos (by decide)]
    rfl
  | n + 1, a, x, h => by
    have e : (8 * ((n + 1 : Nat) : Int) - 8) = 8 * n := by omega
    have e2 : (8 * (n : Int) + -8) = 8 * n - 8 := by omega
    have ih := fun a x => c138a c n a x (by omega)
    rw [e, w138_6, if_neg (by rw [yr_eq] <;> omega), e2, yr_lcmp]
    have e3 : (ylcmp ((ylushr c (8 * n)) &&& 255) 0 = 0) = (ybt c n = 0) := propext (ylcmp_eq _ _)
    rw [wz_1]
    by_cases z : ybt c n = 0
    · rw [if_pos (by rw [e3]; exact z), if_pos z]
      exact ih _ _
    · rw [if_neg (by rw [e3]; exact z), if_neg z]
      exact ih _ _
theorem c138 (c : Int64) : Y q d 138 0 [vj c, vu, vu, vu, vu, vu, vu] [] S js = yret q (vj (wz c 0 8)) S js := by
  rw [w138_0]
  exact c138a c 8 0 vu (by omega)
theorem c136a (c : Int64) : ∀ (n : Nat) (x : yV), n ≤ 8 → Y q d 136 29 [vr 76, vj c, vu, vi (8 * n - 8), x] [] S js = yret q (vi (yb (okb c n = true))) S js
  | 0, x, _ => by
    rw [w136_29, if_pos (by decide)]
    simp only [yz1, if_true]
    rfl
  | n + 1, x, h => by
    have e : (8 * ((n + 1 : Nat) : Int) - 8) = 8 * n := by omega
    have e2 : (8 * (n : Int) + -8) = 8 * n - 8 := by omega
    have ih := fun x => c136a c n x (by omega)
    have hr := ybt_rng c n
    have e3 : yr (yand (yl2i (ylushr c (8 * n))) 255) = (ybt c n).toInt := by rw [yr_and, yand_l2i]; rfl
    rw [e, w136_29, if_neg (by rw [yr_eq] <;> omega), e2, e3]
    simp only [yz0, if_true]
    have e4 : yr 32 = 32 := rfl
    have e5 : yr 126 = 126 := rfl
    rw [e4, e5]
    have hk := okb_1 c n
    have h0 := ybt_0 c n
    by_cases z : (ybt c n).toInt = 0
    · have z2 : (okb c (n + 1) = true) = (okb c n = true) := propext (hk.trans ⟨fun w => w.2, fun w => ⟨Or.inl (h0.mp z), w⟩⟩)
      rw [if_pos z, ih]
      simp only [z2]
    · rw [if_neg z]
      have z' : ¬ ybt c n = 0 := fun w => z (h0.mpr w)
      by_cases z3 : (ybt c n).toInt < 32
      · rw [if_pos z3, yb_f (fun w => by rcases (hk.mp w).1 with w | w; exact z' w; omega)]
      · rw [if_neg z3]
        by_cases z4 : 126 < (ybt c n).toInt
        · rw [if_pos z4, yb_f (fun w => by rcases (hk.mp w).1 with w | w; exact z' w; omega)]
        · have z2 : (okb c (n + 1) = true) = (okb c n = true) := propext (hk.trans ⟨fun w => w.2, fun w => ⟨Or.inr (by omega), w⟩⟩)
          rw [if_neg z4, ih]
          simp only [z2]
/-- is the next cell's column one of texts? -/
def ntx (S : yS) : Prop := gA S 20 (gI S 11 % gI S 10).toNat = 1
theorem emod_rng {n c : Int} (h : 0 < c) : 0 ≤ n % c ∧ n % c < c := ⟨Int.emod_nonneg n (by omega), Int.emod_lt_of_pos n h⟩
theorem c136 {c : Int64} (h1 : 0 < gI S 10 ∧ gI S 10 ≤ 8) (h2 : 0 ≤ gI S 11 ∧ gI S 11 ≤ 320) (ht : gA S 20 (gI S 11 % gI S 10).toNat = 0 ∨ gA S 20 (gI S 11 % gI S 10).toNat = 1) : Y q d 136 0 [vr 76, vj c, vu, vu, vu] [] S js = yret q (vi (yb (gA S 20 (gI S 11 % gI S 10).toNat = 1 → okb c 8 = true))) S js := by
  have hr := emod_rng (n := gI S 11) h1.1
  have e : yr (yirem (gI S 11) (gI S 10)) = gI S 11 % gI S 10 := by rw [yr_irem, yirem_eq (by omega) (by omega)]
  rw [w136_0, yr_eq (x := gI S 10) (by omega) (by omega), if_neg (by omega), if_neg (by omega), e, if_pos (by omega)]
  simp only [yz1, if_true]
  rcases ht with ht | ht
  · rw [if_pos (by rw [ht]; rfl), yb_t (fun w => by omega)]
  · rw [if_neg (by rw [ht]; decide)]
    have := c136a (q := q) (d := d) (S := S) (js := js) c 8 vu (by omega)
    have z : (gA S 20 (gI S 11 % gI S 10).toNat = 1 → okb c 8 = true) = (okb c 8 = true) := propext ⟨fun w => w ht, fun w _ => w⟩
    simp only [z]
    exact this
theorem c137 {c : Int64} (h1 : 0 < gI S 10 ∧ gI S 10 ≤ 8) (h2 : 0 ≤ gI S 11 ∧ gI S 11 < 320) (ht : gA S 20 (gI S 11 % gI S 10).toNat = 0 ∨ gA S 20 (gI S 11 % gI S 10).toNat = 1) : Y q (d + 1) 137 0 [vr 76, vj c, vu] [] S js = yretv q (sI (sB S 7 (gI S 11).toNat (if gA S 20 (gI S 11 % gI S 10).toNat = 1 then wz c 0 8 else c)) 11 (gI S 11 + 1)) js := by
  have hr := emod_rng (n := gI S 11) h1.1
  have e : yr (yirem (gI S 11) (gI S 10)) = gI S 11 % gI S 10 := by rw [yr_irem, yirem_eq (by omega) (by omega)]
  have e3 : yr 320 = 320 := rfl
  rw [w137_0, yr_eq (x := gI S 10) (by omega) (by omega), yr_eq (x := gI S 11) (by omega) (by omega), e, e3, if_pos (by omega), if_pos (by omega), if_neg (by omega), if_pos (by omega)]
  rcases ht with ht | ht
  · rw [if_pos (by rw [ht]; rfl), if_pos (by omega), if_neg (by omega)]
  · rw [if_neg (by rw [ht]; decide), c138, YB_ret, w137_48, yr_eq (x := gI S 11) (by omega) (by omega), if_pos (by omega), if_pos ht]
theorem c169 {c : Int64} (h1 : 0 ≤ gI S 10 ∧ gI S 10 ≤ 8) (h2 : 0 ≤ gI S 11 ∧ gI S 11 ≤ 40 * gI S 10) (ht : 0 < gI S 10 → gA S 20 (gI S 11 % gI S 10).toNat = 0 ∨ gA S 20 (gI S 11 % gI S 10).toNat = 1) : Y q (d + 2) 169 0 [vr 75, vj c, vu] [] S js = if gI S 10 = 0 ∨ gI S 11 = 40 * gI S 10 then ythr q (yexc 14) S js else if gA S 20 (gI S 11 % gI S 10).toNat = 1 → okb c 8 = true then yret q (vi (nrow (gI S 10) (gI S 11 + 1))) (sI (sB S 7 (gI S 11).toNat (if gA S 20 (gI S 11 % gI S 10).toNat = 1 then wz c 0 8 else c)) 11 (gI S 11 + 1)) js else ythr q (yexc 15) S js := by
  have hn := nrow_le (c := gI S 10) (n := gI S 11) h1 h2
  rw [w169_0, yr_eq (x := gI S 10) (by omega) (by omega), c131 h1 (by omega), YB_ret, w169_17]
  have e4 : yr 40 = 40 := rfl
  rw [e4, yr_eq (x := nrow (gI S 10) (gI S 11)) (by omega) (by omega)]
  by_cases z : gI S 10 = 0
  · rw [if_pos z, if_pos (Or.inl z)]
  · rw [if_neg z]
    have ht := ht (by omega)
    have e5 : nrow (gI S 10) (gI S 11) = gI S 11 / gI S 10 := if_neg z
    have e6 : nrow (gI S 10) (gI S 11) < 40 ↔ gI S 11 < 40 * gI S 10 := by rw [e5]; exact Int.ediv_lt_iff_lt_mul (by omega)
    by_cases y : gI S 11 = 40 * gI S 10
    · rw [if_neg (by rw [e6]; omega), if_pos (Or.inr y)]
    · rw [if_pos (by rw [e6]; omega), if_neg (by omega), c136 (by omega) (by omega) ht, YB_ret, w169_38]
      simp only [yr_yb, yb_eq0]
      by_cases k : gA S 20 (gI S 11 % gI S 10).toNat = 1 → okb c 8 = true
      · rw [if_neg (fun w => w k), if_pos k, c137 (by omega) (by omega) ht, YB_retv, w169_57, c131 (S := sI (sB S 7 _ _) 11 _) h1 (show 0 ≤ gI S 11 + 1 ∧ gI S 11 + 1 ≤ 320 by omega), YB_ret, w169_64]
        rfl
      · rw [if_pos k, if_neg k]
theorem r198a {c : Int64} (h1 : 0 ≤ gI S 41 ∧ gI S 41 ≤ 8) (h2 : 0 ≤ gI S 42 ∧ gI S 42 < 320) : ∀ (n : Nat) (a : Int64) (x : yV), n ≤ 8 → Y q (d + 1) 198 53 [vr 129, vj c, vu, vj a, vu, vi (8 * n - 8), x, vu] [] S js = if okb c n = true then yret q (vi (nrow (gI S 41) (gI S 42 + 1))) (sI (sB S 12 (gI S 42).toNat (wz c a n)) 42 (gI S 42 + 1)) js else yret q (vi 0) (sI S 39 2) js
  | 0, a, x, _ => by
    rw [w198_53, if_pos (by decide), if_pos (by rw [yr_eq] <;> omega), yr_eq (x := gI S 42) (by omega) (by omega), r199 (S := sI (sB S 12 _ _) 42 _) h1 (show 0 ≤ gI S 42 + 1 ∧ gI S 42 + 1 ≤ 320 by omega), YB_ret, w198_136]
    rfl
  | n + 1, a, x, h => by
    have e : (8 * ((n + 1 : Nat) : Int) - 8) = 8 * n := by omega
    have e2 : (8 * (n : Int) + -8) = 8 * n - 8 := by omega
    have ih := fun a x => r198a (c := c) h1 h2 n a x (by omega)
    rw [e, w198_53, if_neg (by rw [yr_eq] <;> omega), e2, ybt_s c (by omega), yr_lcmp, r191, YB_ret, w198_89, w188_0, YB_ret, w198_97, e2]
    simp only [yr_yb, yb_eq0, ylcmp_eq]
    have hk := okb_1 c n
    rw [wz_1]
    by_cases z : ybt c n = 0
    · have z2 : (okb c (n + 1) = true) = (okb c n = true) := propext (hk.trans ⟨fun w => w.2, fun w => ⟨Or.inl z, w⟩⟩)
      rw [if_pos z, ih, if_pos z]
      simp only [z2]
    · rw [if_neg z, if_neg z, ih]
      have e3 : (32 ≤ ybt c n ∧ ybt c n ≤ 126) = (32 ≤ (ybt c n).toInt ∧ (ybt c n).toInt ≤ 126) := by rw [Int64.le_iff_toInt_le, Int64.le_iff_toInt_le, i64_32, i64_126]
      simp only [e3]
      by_cases y : 32 ≤ (ybt c n).toInt ∧ (ybt c n).toInt ≤ 126
      · have z2 : (okb c (n + 1) = true) = (okb c n = true) := propext (hk.trans ⟨fun w => w.2, fun w => ⟨Or.inr y, w⟩⟩)
        rw [if_neg (fun w => w y)]
        simp only [z2]
      · rw [if_pos y, if_neg (fun w => by rcases (hk.mp w).1 with w | w; exact z w; exact y w)]
theorem r198 {c : Int64} (h1 : 0 ≤ gI S 41 ∧ gI S 41 ≤ 8) (h2 : 0 ≤ gI S 42 ∧ gI S 42 ≤ 40 * gI S 41) (ht : 0 < gI S 41 → gA S 38 (gI S 42 % gI S 41).toNat = 0 ∨ gA S 38 (gI S 42 % gI S 41).toNat = 1) : Y q (d + 1) 198 0 [vr 129, vj c, vu, vu, vu, vu, vu, vu] [] S js = if gI S 41 = 0 ∨ gI S 42 = 40 * gI S 41 then yret q (vi 0) (sI (sI S 39 0) 39 1) js else if gA S 38 (gI S 42 % gI S 41).toNat = 1 → okb c 8 = true then yret q (vi (nrow (gI S 41) (gI S 42 + 1))) (sI (sB (sI S 39 0) 12 (gI S 42).toNat (if gA S 38 (gI S 42 % gI S 41).toNat = 1 then wz c 0 8 else c)) 42 (gI S 42 + 1)) js else yret q (vi 0) (sI (sI S 39 0) 39 2) js := by
  have hn := nrow_le (c := gI S 41) (n := gI S 42) h1 h2
  rw [w198_0, yr_eq (x := gI S 41) (by omega) (by omega), w188_0, YB_ret, w198_26]
  by_cases z : gI S 41 = 0
  · rw [if_pos z, if_pos (Or.inl z)]
  · have ht := ht (by omega)
    have hr := emod_rng (n := gI S 42) (c := gI S 41) (by omega)
    have e : yr (yirem (gI S 42) (gI S 41)) = gI S 42 % gI S 41 := by rw [yr_irem, yirem_eq (by omega) (by omega)]
    have e4 : yr 40 = 40 := rfl
    have e7 : yr 1 = 1 := rfl
    have e5 : nrow (gI S 41) (gI S 42) = gI S 42 / gI S 41 := if_neg z
    have e6 : nrow (gI S 41) (gI S 42) < 40 ↔ gI S 42 < 40 * gI S 41 := by rw [e5]; exact Int.ediv_lt_iff_lt_mul (by omega)
    rw [if_neg z, r199 (S := sI S 39 0) h1 (show 0 ≤ gI S 42 ∧ gI S 42 ≤ 320 by omega), YB_ret, w198_16, w188_0, YB_ret, w198_26]
    have f1 : gI (sI S 39 0) 41 = gI S 41 := rfl
    have f2 : gI (sI S 39 0) 42 = gI S 42 := rfl
    have f3 : gA (sI S 39 0) = gA S := rfl
    rw [f1, f2, f3, e4, e7, e, yr_eq (x := nrow (gI S 41) (gI S 42)) (by omega) (by omega), yr_eq (x := gI S 41) (by omega) (by omega), yr_eq (x := gI S 42) (by omega) (by omega)]
    by_cases y : gI S 42 = 40 * gI S 41
    · rw [if_pos (by have := e6; omega), if_pos (Or.inr y)]
    · rw [if_neg (by have := e6; omega), if_neg z, if_pos (by omega), if_neg (show ¬ (gI S 41 = 0 ∨ gI S 42 = 40 * gI S 41) by omega)]
      rcases ht with ht | ht
      · rw [if_neg (by rw [ht]; decide), if_pos (by omega), if_pos (show gA S 38 (gI S 42 % gI S 41).toNat = 1 → okb c 8 = true from fun w => by omega), if_neg (show ¬ gA S 38 (gI S 42 % gI S 41).toNat = 1 by omega), r199 (S := sI (sB (sI S 39 0) 12 _ _) 42 _) h1 (show 0 ≤ gI S 42 + 1 ∧ gI S 42 + 1 ≤ 320 by omega), YB_ret, w198_136]
        rfl
      · have z9 := r198a (q := q) (d := d) (S := sI S 39 0) (js := js) (c := c) h1 (show 0 ≤ gI S 42 ∧ gI S 42 < 320 by omega) 8 0 vu (by omega)
        have z : (gA S 38 (gI S 42 % gI S 41).toNat = 1 → okb c 8 = true) = (okb c 8 = true) := propext ⟨fun w => w ht, fun w _ => w⟩
        rw [if_pos (by rw [ht]; rfl), if_pos ht]
        simp only [z]
        exact z9
end YPUL
theorem op3 : yCall yI 3 := by
  intro q S js x0 d y1 y2 y3 y4 hL h0 h6 hop hI
  obtain ⟨hTp, hTb, hCd, hPg, hRs, hRn⟩ := id hI
  obtain ⟨t1, t2, t3, t4, t5, t6, t7, t8, t9⟩ := id hTb
  show yEnd yI q S js x0 d y1 y2 y3 y4
  have hr : 0 < gI S 10 → 0 ≤ gI S 11 % gI S 10 ∧ gI S 11 % gI S 10 < gI S 10 := emod_rng
  have ht : 0 < gI S 10 → gA S 20 (gI S 11 % gI S 10).toNat = 0 ∨ gA S 20 (gI S 11 % gI S 10).toNat = 1 := fun z => (t7 _ (by have := hr z; omega)).2.2
  have h38 : 0 < gI S 10 → gA S 38 (gI S 11 % gI S 10).toNat = gA S 20 (gI S 11 % gI S 10).toNat := fun z => (t7 _ (by have := hr z; omega)).2.1
  have hc := c169 (q := q) (d := d + 396) (js := js) (S := S) (c := xl q (x0 + 1) (x0 + 2)) ⟨t2, t3⟩ ⟨t5, t6⟩ ht
  have hm : ∀ (S' : yS) (js : List xO), gI S' 41 = gI S 41 → gI S' 42 = gI S 42 → gA S' 38 = gA S 38 → Y q (d + 399) 198 0 [vr 129, vj (xl q (x0 + 1) (x0 + 2)), vu, vu, vu, vu, vu, vu] [] S' js = if gI S 10 = 0 ∨ gI S 11 = 40 * gI S 10 then yret q (vi 0) (sI (sI S' 39 0) 39 1) js else if gA S 20 (gI S 11 % gI S 10).toNat = 1 → okb (xl q (x0 + 1) (x0 + 2)) 8 = true then yret q (vi (nrow (gI S 10) (gI S 11 + 1))) (sI (sB (sI S' 39 0) 12 (gI S 11).toNat (if gA S 20 (gI S 11 % gI S 10).toNat = 1 then wz (xl q (x0 + 1) (x0 + 2)) 0 8 else xl q (x0 + 1) (x0 + 2))) 42 (gI S 11 + 1)) js else yret q (vi 0) (sI (sI S' 39 0) 39 2) js := by
    intro S' js f1 f2 f3
    have := r198 (q := q) (d := d + 398) (js := js) (S := S') (c := xl q (x0 + 1) (x0 + 2)) (by omega) (by omega) (by rw [f1, f2, f3, t1, t4]; intro z; rw [h38 z]; exact ht z)
    rw [f1, f2, f3, t1, t4] at this
    by_cases z : gI S 10 = 0
    · rw [if_pos (Or.inl z)] at this
      rw [if_pos (Or.inl z)]
      exact this
    · rw [h38 (by omega)] at this
      exact this
  by_cases a : gI S 10 = 0 ∨ gI S 11 = 40 * gI S 10
  · rw [if_pos a] at hc
    exact k3_14 hL h0 h6 hop hc ((hm S _ rfl rfl rfl).trans (if_pos a)) rfl (yI_thr (yI_thr hI)) (len_1 _ _) (xsum_1 _ _)
  · rw [if_neg a] at hc
    by_cases b : gA S 20 (gI S 11 % gI S 10).toNat = 1 → okb (xl q (x0 + 1) (x0 + 2)) 8 = true
    · rw [if_pos b] at hc
      generalize hk : (if gA S 20 (gI S 11 % gI S 10).toNat = 1 then wz (xl q (x0 + 1) (x0 + 2)) 0 8 else xl q (x0 + 1) (x0 + 2)) = k at hc hm
      have hm2 := (hm (sB (sI (sB S 7 (gI S 11).toNat k) 11 (gI S 11 + 1)) 18 0 (yi2l (nrow (gI S 10) (gI S 11 + 1)))) js rfl rfl rfl).trans ((if_neg a).trans (if_pos b))
      refine k3_ok hL h0 h6 hop hc hm2 rfl rfl ⟨hTp, ⟨t1, t2, t3, rfl, ?_, ?_, t7, ?_, ?_⟩, hCd, hPg, hRs, hRn⟩ (by omega) (by omega)
      · show 0 ≤ gI S 11 + 1
        omega
      · show gI S 11 + 1 ≤ 40 * gI S 10
        omega
      · intro i hi
        have hi : (i : Int) < gI S 11 + 1 := hi
        show yup (gB S 12) (gI S 11).toNat k i = yup (gB S 7) (gI S 11).toNat k i
        rw [yup_eq, yup_eq]
        split
        · rfl
        · exact t8 i (by omega)
      · intro i hi hx
        have hi : (i : Int) < gI S 11 + 1 := hi
        have hx : gA S 20 ((i : Int) % gI S 10).toNat = 1 := hx
        show ∃ c, okb c 8 = true ∧ yup (gB S 7) (gI S 11).toNat k i = wz c 0 8
        rw [yup_eq]
        split
        · rename_i e
          have e2 : (i : Int) = gI S 11 := by omega
          rw [e2] at hx
          rw [if_pos hx] at hk
          exact ⟨_, b hx, hk.symm⟩
        · exact t9 i (by omega) hx
    · rw [if_neg b] at hc
      exact k3_15 hL h0 h6 hop hc ((hm S _ rfl rfl rfl).trans ((if_neg a).trans (if_neg b))) rfl (yI_thr (yI_thr hI)) (len_1 _ _) (xsum_1 _ _)
end YPU
