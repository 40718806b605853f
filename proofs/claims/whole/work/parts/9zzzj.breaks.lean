/-! RUN: groups break -/
section YTK
theorem ywz2 {c : Int64} : ∀ (n : Nat) (a : Int64) (A : Nat), n ≤ 8 → okb c n = true → a.toInt = A → 256 * A < 127 * 256 ^ (8 - n) → yOkN A → (A = 0 ∨ ¬ A % 256 = 0) → ∃ W : Nat, (wz c a n).toInt = W ∧ (W = 0 ∨ ¬ W % 256 = 0)
  | 0, a, A, _, _, h, hA, ho, hz => ⟨A, h, hz⟩
  | n + 1, a, A, hn, hk, h, hA, ho, hz => by
    obtain ⟨k1, k2⟩ := (okb_1 c n).mp hk
    have ep : 256 ^ (8 - n) = 256 * 256 ^ (8 - (n + 1)) := by
      rw [show 8 - n = (8 - (n + 1)) + 1 by omega, Nat.pow_succ, Nat.mul_comm]
    have p1 : 1 ≤ 256 ^ (8 - (n + 1)) := Nat.one_le_pow _ _ (by omega)
    rw [wz_1]
    by_cases z : ybt c n = 0
    · rw [if_pos z]
      exact ywz2 n a A (by omega) k2 h (by omega) ho hz
    · rw [if_neg z]
      have hb : 32 ≤ (ybt c n).toInt ∧ (ybt c n).toInt ≤ 126 := by
        rcases k1 with e | e
        · exact absurd e z
        · exact e
      obtain ⟨b, hb2⟩ : ∃ b : Nat, (ybt c n).toInt = b := ⟨(ybt c n).toInt.toNat, by omega⟩
      have eb : ybt c n = yi2l (b : Int) := Int64.toInt_inj.mp (by rw [yi2l_toInt, yr_eq (by omega) (by omega), hb2])
      have hA2 : 256 * A < 127 * 256 ^ 7 := by
        have : 256 ^ (8 - (n + 1)) ≤ 256 ^ 7 := Nat.pow_le_pow_right (by omega) (by omega)
        omega
      have e7 : (256 : Nat) ^ 7 = 72057594037927936 := by decide
      have h8 := yw8 (x := a) (b := (b : Int)) (by omega) (by omega) (by omega)
      rw [eb]
      refine ywz2 n _ (A * 256 + b) (by omega) k2 (by rw [h8, h]; omega) ?_ (yOkN_s ho (by omega)) (Or.inr (by omega))
      rw [ep]
      by_cases y : 8 - (n + 1) = 0
      · rw [y] at hA ⊢
        rw [Nat.pow_zero] at hA ⊢
        omega
      · have e2 : 256 ^ (8 - (n + 1)) = 256 * 256 ^ (8 - (n + 1) - 1) := by
          rw [show 8 - (n + 1) = (8 - (n + 1) - 1) + 1 by omega, Nat.pow_succ, Nat.mul_comm]
          congr 2
        rw [e2] at hA ⊢
        omega
theorem ylef_mul : ∀ (n : Nat) (a : Int64), ∃ i, ynv (ylef n a) = ynv a * 256 ^ i
  | 0, a => ⟨0, by rw [Nat.pow_zero, Nat.mul_one]; rfl⟩
  | n + 1, a => by
    unfold ylef
    split
    · rename_i z
      obtain ⟨i, h⟩ := ylef_mul n (ylshl a 8)
      refine ⟨i + 1, ?_⟩
      rw [h, ynv_shl (ynv_shr.mp z), Nat.pow_succ', Nat.mul_assoc]
    · exact ⟨0, by rw [Nat.pow_zero, Nat.mul_one]⟩
theorem ysh_inj {A B i j : Nat} (hA : A = 0 ∨ ¬ A % 256 = 0) (hB : B = 0 ∨ ¬ B % 256 = 0) (h : A * 256 ^ i = B * 256 ^ j) : A = B := by
  have pos : ∀ k : Nat, 0 < 256 ^ k := fun k => Nat.pow_pos (by omega)
  have half : ∀ (A B i j : Nat), i ≤ j → (A = 0 ∨ ¬ A % 256 = 0) → A * 256 ^ i = B * 256 ^ j → A = B := by
    intro A B i j hij hA h
    obtain ⟨k, rfl⟩ : ∃ k, j = k + i := ⟨j - i, by omega⟩
    rw [Nat.pow_add, ← Nat.mul_assoc] at h
    have h1 : A = B * 256 ^ k := Nat.eq_of_mul_eq_mul_right (pos i) h
    match k with
    | 0 => rw [h1, Nat.pow_zero, Nat.mul_one]
    | k + 1 =>
      have h2 : A = 256 * (B * 256 ^ k) := by rw [h1, Nat.pow_succ', ← Nat.mul_assoc, ← Nat.mul_assoc, Nat.mul_comm B 256]
      have h3 : A % 256 = 0 := by rw [h2, Nat.mul_mod_right]
      have h4 : A = 0 := hA.resolve_right (fun y => y h3)
      have h5 : B * 256 ^ k = 0 := by omega
      have h6 : B = 0 := by
        rcases Nat.mul_eq_zero.mp h5 with y | y
        · exact y
        · have := pos k
          omega
      omega
  by_cases z : i ≤ j
  · exact half A B i j z hA h
  · exact (half B A j i (by omega) hB h.symm).symm
theorem ycmp_0 {a b : Int64} : ycmp a b = 0 ↔ a = b := by
  unfold ycmp
  by_cases z : a < b
  · rw [if_pos z]
    refine ⟨fun h => absurd h (by decide), fun h => ?_⟩
    rw [h] at z
    have := Int64.lt_iff_toInt_lt.mp z
    omega
  · rw [if_neg z]
    by_cases y : a = b
    · rw [if_pos y]
      exact ⟨fun _ => y, fun _ => rfl⟩
    · rw [if_neg y]
      exact ⟨fun h => absurd h (by decide), fun h => absurd h y⟩
section YTKL
variable {q : yQ} {d : Nat} {js : List xO} {S : yS}
theorem ycel_lo {x k : Nat} (h : iTb S) (hx : (x : Int) < nrow (gI S 10) (gI S 11)) (hk : (k : Int) < gI S 10) (h1 : gA S 20 k = 1) : ynv (ycel S x k) = 0 ∨ ¬ ynv (ycel S x k) % 256 = 0 := by
  obtain ⟨t1, t2, t3, t4, t5, t6, t7, t8, t9⟩ := h
  obtain ⟨c, hc⟩ : ∃ c : Nat, gI S 10 = c := ⟨(gI S 10).toNat, by omega⟩
  obtain ⟨i1, i2⟩ := iTb_in (k := k) hc t5 (by omega) (by omega) hx
  have ei : ((((x : Int) * (c : Int) + k).toNat : Nat) : Int) = x * c + k := by omega
  obtain ⟨y, x1, x2⟩ := t9 ((x : Int) * c + k).toNat (by omega) (by
    rw [ei, hc, Int.add_comm, Int.add_mul_emod_self_right, Int.emod_eq_of_lt (by omega) (by omega), Int.toNat_natCast]
    exact h1)
  obtain ⟨W, w1, w2⟩ := ywz2 8 0 0 (Nat.le_refl 8) x1 rfl (by decide) yOkN_0 (Or.inl rfl)
  unfold ycel
  rw [hc, x2]
  show (wz y 0 8).toBitVec.toNat = 0 ∨ ¬ (wz y 0 8).toBitVec.toNat % 256 = 0
  rw [yi64_nat w1]
  exact w2
theorem ycc_0 {x y k : Nat} (h : iTb S) (hx : (x : Int) < nrow (gI S 10) (gI S 11)) (hy : (y : Int) < nrow (gI S 10) (gI S 11)) (hk : (k : Int) < gI S 10) : ycc S x y k = 0 ↔ ycel S x k = ycel S y k := by
  have s3 := (h.2.2.2.2.2.2.1 k hk).2.2
  unfold ycc
  by_cases z : gA S 20 k = 0
  · rw [if_pos (by rw [z]; rfl)]
    exact ycmp_0
  · have z1 : gA S 20 k = 1 := s3.resolve_left z
    rw [if_neg (by rw [z1]; decide), ycmp_0]
    refine ⟨fun e => ?_, fun e => by rw [e]⟩
    obtain ⟨i, hi⟩ := ylef_mul 7 (ycel S x k)
    obtain ⟨j, hj⟩ := ylef_mul 7 (ycel S y k)
    have hh : ynv (ycel S x k) * 256 ^ i = ynv (ycel S y k) * 256 ^ j := by rw [← hi, ← hj, e]
    have := ysh_inj (ycel_lo h hx hk z1) (ycel_lo h hy hk z1) hh
    exact Int64.toBitVec_inj.mp (BitVec.eq_of_toNat_eq this)
/-- the outermost group that breaks -/
def ybr (f : Nat → Int) (l : Nat → Nat) : Nat → Nat → Option Nat
  | 0, _ => none
  | n + 1, i => if f (l i) = 0 then ybr f l n (i + 1) else some i
def yinc (a b : Nat) (f : Nat → Int) : Nat → Int := fun j => if a ≤ j ∧ j < b then f j + 1 else f j
theorem yinc_0 {a : Nat} {f : Nat → Int} : yinc a a f = f := by
  funext j
  unfold yinc
  rw [if_neg (by omega)]
theorem yinc_s {i e : Nat} {f : Nat → Int} (h : i < e) : yinc (i + 1) e (yup f i (f i + 1)) = yinc i e f := by
  funext j
  unfold yinc
  rw [yup_eq]
  by_cases z : j = i
  · rw [if_neg (by omega), if_pos z, if_pos (by omega), z]
  · rw [if_neg z]
    by_cases y : i + 1 ≤ j ∧ j < e
    · rw [if_pos y, if_pos (by omega)]
    · rw [if_neg y, if_neg (by omega)]
theorem c125l {n : Nat} {x0 x1 : Int} (hn : n ≤ 3) : ∀ (m i : Nat) (S : yS), i + m = n → gI S 24 = n → Y q d 125 58 [vr 125, vi x0, vi x1, vi i] [] S js = yret q (vi x1) (sAr S 35 (yinc i n (gA S 35))) js
  | 0, i, S, h, g24 => by
    have hi : i = n := by omega
    rw [w125_58, g24, if_neg (by rw [yr_eq, yr_eq] <;> omega), hi, yinc_0, sAr_sf]
  | m + 1, i, S, h, g24 => by
    have ei : yr (i : Int) = i := yr_eq (by omega) (by omega)
    have en : yr (n : Int) = n := yr_eq (by omega) (by omega)
    have e1 : (i : Int) + 1 = ((i + 1 : Nat) : Int) := by omega
    have ih := c125l hn (x0 := x0) (x1 := x1) m (i + 1) (sA S 35 i (gA S 35 i + 1)) (by omega) g24
    rw [w125_58, g24, ei, en, if_pos (by omega), if_pos (by omega), if_pos (by omega), Int.toNat_natCast, e1, ih, sAr_sA, gA_yup, yinc_s (by omega)]
theorem c125 {Gs : List Nat} {p : Nat} {o : Nat → Nat} (hG : vG S Gs) (h3 : Gs.length ≤ 3) (hc : ∀ x, x ∈ Gs → (x : Int) < gI S 10) (h1 : gI S 10 ≤ 8) (hp : p < 40) (ho : ∀ i, i ≤ p → gA S 34 i = (o i : Nat) ∧ o i < 40) : Y q (d + 2) 125 0 [vr 125, vi p, vu, vu] [] S js = yret q (vi ((if p = 0 then 0 else (ybr (ycc S (o (p - 1)) (o p)) (fun g => Gs.getD g 0) Gs.length 0).getD Gs.length : Nat) : Int)) (sAr S 35 (yinc (if p = 0 then 0 else (ybr (ycc S (o (p - 1)) (o p)) (fun g => Gs.getD g 0) Gs.length 0).getD Gs.length) Gs.length (gA S 35))) js := by
  have g24 : gI S 24 = Gs.length := hG.1
  have ep : yr (p : Int) = p := yr_eq (by omega) (by omega)
  rw [w125_0]
  by_cases z : p = 0
  · have lp := c125l (q := q) (d := d + 2) (js := js) (x0 := (p : Int)) (x1 := 0) h3 Gs.length 0 S (Nat.zero_add _) g24
    rw [if_pos z, w125_2, ep, if_neg (by omega)]
    exact lp
  · rw [if_neg z]
    have loop : ∀ (m i : Nat), i + m = Gs.length → Y q (d + 2) 125 2 [vr 125, vi p, vi i, vu] [] S js = yret q (vi (((ybr (ycc S (o (p - 1)) (o p)) (fun g => Gs.getD g 0) m i).getD Gs.length : Nat) : Int)) (sAr S 35 (yinc ((ybr (ycc S (o (p - 1)) (o p)) (fun g => Gs.getD g 0) m i).getD Gs.length) Gs.length (gA S 35))) js := by
      intro m
      induction m with
      | zero =>
        intro i hi
        have lp := c125l (q := q) (d := d + 2) (js := js) (x0 := (p : Int)) (x1 := (i : Int)) h3 0 i S hi g24
        have hi : i = Gs.length := by omega
        rw [w125_2, ep, if_pos (by omega), g24, if_neg (by rw [yr_eq, yr_eq] <;> omega), lp, hi]
        rfl
      | succ m ih =>
        intro i hi
        have ei : yr (i : Int) = i := yr_eq (by omega) (by omega)
        have en : yr (Gs.length : Int) = Gs.length := yr_eq (by omega) (by omega)
        have e1 : (i : Int) + 1 = ((i + 1 : Nat) : Int) := by omega
        have em : (p : Int) - 1 = ((p - 1 : Nat) : Int) := by omega
        have emy : yr ((p - 1 : Nat) : Int) = ((p - 1 : Nat) : Int) := yr_eq (by omega) (by omega)
        have gg := yLs_D hG 0 (j := i) (by omega)
        have gg : gA S 25 i = ((Gs.getD i 0 : Nat) : Int) := gg
        have hmem : Gs.getD i 0 ∈ Gs := by
          rw [List.getD_eq_getElem?_getD, List.getElem?_eq_getElem (by omega)]
          exact List.getElem_mem (by omega)
        obtain ⟨o1, o2⟩ := ho (p - 1) (by omega)
        obtain ⟨o3, o4⟩ := ho p (Nat.le_refl _)
        have r := ycc_r (S := S) (o (p - 1)) (o p) (Gs.getD i 0)
        have h139 := c139 (q := q) (d := d) (js := js) (S := S) o2 o4 (hc _ hmem) h1
        rw [w125_2, ep, if_pos (by omega), g24, ei, en, if_pos (by omega), em, emy, if_pos (by omega), if_pos (by omega), if_pos (by omega), Int.toNat_natCast, Int.toNat_natCast, Int.toNat_natCast, o1, o3, gg, h139, YB_ret, w125_47, yr_eq (by omega) (by omega)]
        unfold ybr
        by_cases y : ycc S (o (p - 1)) (o p) (Gs.getD i 0) = 0
        · rw [if_pos y, if_pos y, e1]
          exact ih (i + 1) (by omega)
        · have lp := c125l (q := q) (d := d + 2) (js := js) (x0 := (p : Int)) (x1 := (i : Int)) h3 (m + 1) i S hi g24
          rw [if_neg y, if_neg y]
          exact lp
    exact loop Gs.length 0 (Nat.zero_add _)
end YTKL
end YTK
