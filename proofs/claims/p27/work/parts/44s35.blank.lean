/-! taken from whole by wip/p27/slice.py: 9zzzh.blank.lean.txt -/
section YTI
def yblk (a b : Nat) (f : Nat → Int) : Nat → Int := fun j => if a ≤ j ∧ j < b then 32 else f j
theorem yblk_0 {a : Nat} {f : Nat → Int} : yblk a a f = f := by
  funext j
  unfold yblk
  rw [if_neg (by omega)]
theorem yblk_s {i e : Nat} {f : Nat → Int} (h : i < e) : yblk (i + 1) e (yup f i 32) = yblk i e f := by
  funext j
  unfold yblk
  rw [yup_eq]
  by_cases z : j = i
  · rw [if_neg (by omega), if_pos z, if_pos (by omega)]
  · by_cases y : i + 1 ≤ j ∧ j < e
    · rw [if_pos y, if_pos (by omega)]
    · rw [if_neg y, if_neg z, if_neg (by omega)]
theorem yphw {P h w : Nat} : ((((P : Int) + 1 - 1) * (h : Int) + 1 - 1) * (w : Int) + 1 - 1) = ((P * h * w : Nat) : Int) := by
  have e1 : (P : Int) + 1 - 1 = P := by omega
  have e2 : (P : Int) * h + 1 - 1 = (P : Int) * h := by omega
  rw [e1, e2, Int.natCast_mul, Int.natCast_mul]
  omega
theorem yphw_le {P h w : Nat} (hP : P ≤ 30) (hh : h ≤ 40) (hw : w ≤ 60) : P * h * w ≤ 72000 := by
  have h1 : P * h ≤ 30 * 40 := Nat.mul_le_mul hP hh
  exact Nat.mul_le_mul h1 hw
theorem gA_yup (S : yS) (k i : Nat) (x : Int) : gA (sA S k i x) k = yup (gA S k) i x := by
  show yup S.2.2.2.1 k (yup (S.2.2.2.1 k) i x) k = _
  exact yup_self _ _ _
section YTIL
variable {q : yQ} {d : Nat} {js : List xO}
theorem c96l {a e : Nat} (he : e ≤ 72000) : ∀ (m i : Nat) (S : yS), i + m = e → Y q d 96 46 [vr 129, vi a, vi e, vi i] [] S js = yretv q (sAr S 33 (yblk i e (gA S 33))) js
  | 0, i, S, h => by
    have hi : i = e := by omega
    rw [w96_46, if_neg (by rw [yr_eq, yr_eq] <;> omega), hi, yblk_0, sAr_sf]
  | m + 1, i, S, h => by
    have ei : yr (i : Int) = i := yr_eq (by omega) (by omega)
    have ee : yr (e : Int) = e := yr_eq (by omega) (by omega)
    have e7 : yr 72000 = 72000 := rfl
    have e1 : (i : Int) + 1 = ((i + 1 : Nat) : Int) := by omega
    have b : yi2b 32 = 32 := by decide
    rw [w96_46, ei, ee, e7, if_pos (by omega), if_pos (by omega), if_pos (by omega), Int.toNat_natCast, b, e1, c96l he m (i + 1) _ (by omega), sAr_sA]
    have e2 : gA (sA S 33 i 32) 33 = yup (gA S 33) i 32 := gA_yup _ _ _ _
    rw [e2, yblk_s (by omega)]
theorem c96 {P h w : Nat} {S : yS} (g29 : gI S 29 = P) (g28 : gI S 28 = h) (g27 : gI S 27 = w) (hP : P < 30) (hh : h ≤ 40) (hw : w ≤ 60) : Y q (d + 1) 96 0 [vr 129, vu, vu, vu] [] S js = yretv q (sAr (sI S 29 ((P + 1 : Nat) : Int)) 33 (yblk (P * h * w) ((P + 1) * h * w) (gA S 33))) js := by
  have b1 := yphw_le (P := P) (h := h) (w := w) (by omega) hh hw
  have b2 := yphw_le (P := P + 1) (h := h) (w := w) (by omega) hh hw
  have b3 : P * h * w ≤ (P + 1) * h * w := Nat.mul_le_mul_right _ (Nat.mul_le_mul_right _ (by omega))
  have eP : (P : Int) + 1 = ((P + 1 : Nat) : Int) := by omega
  have e30 : yr 30 = 30 := rfl
  have k28 : gI (sI S 29 ((P + 1 : Nat) : Int)) 28 = h := g28
  have k27 : gI (sI S 29 ((P + 1 : Nat) : Int)) 27 = w := g27
  have k29 : gI (sI S 29 ((P + 1 : Nat) : Int)) 29 = ((P + 1 : Nat) : Int) := gI_self _ _ _
  have p1 := yphw (P := P) (h := h) (w := w)
  have p2 := yphw (P := P + 1) (h := h) (w := w)
  rw [eP] at p1
  have lp := c96l (q := q) (d := d + 1) (js := js) (a := P * h * w) (e := (P + 1) * h * w) b2 ((P + 1) * h * w - P * h * w) (P * h * w) (sI S 29 ((P + 1 : Nat) : Int)) (by omega)
  rw [w96_0, g29, e30, yr_eq (x := (P : Int)) (by omega) (by omega), if_pos (by omega), eP, w92_0, k28, k27, p1, YB_ret, w96_30, k29, w92_0, k28, k27, p2, YB_ret, w96_43, lp]
  rfl
end YTIL
end YTI
