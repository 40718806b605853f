/-! taken from whole by wip/p27/slice2.py: 49c.feed.lean.txt -/
section YFD
/-- a row with bytes behind its n first ones -/
def yrb0 (f : Nat → Int) (n : Nat) (l : List Int) (j : Nat) : Int := if j < n then f j else (l[j - n]?).getD (f j)
theorem yrb0_nil (f : Nat → Int) (n : Nat) : yrb0 f n [] = f := by
  funext j
  unfold yrb0
  split <;> rfl
theorem yrb0_cons (f : Nat → Int) (n : Nat) (b : Int) (l : List Int) : yrb0 (yup f n b) (n + 1) l = yrb0 f n (b :: l) := by
  funext j
  unfold yrb0
  rw [yup_eq]
  by_cases h1 : j = n
  · subst h1
    rw [if_pos (Nat.lt_succ_self j), if_pos rfl, if_neg (Nat.lt_irrefl j), Nat.sub_self]
    rfl
  · rw [if_neg h1]
    by_cases h2 : j < n
    · rw [if_pos h2, if_pos (by omega)]
    · rw [if_neg h2, if_neg (by omega)]
      have : j - n = (j - (n + 1)) + 1 := by omega
      rw [this, List.getElem?_cons_succ]
def pbs (S : yS) (l : List Int) : yS := l.foldl pb S
theorem pbs_eq : ∀ (l : List Int) (S : yS), 0 ≤ gI S 12 → pbs S l = sI (sAr S 21 (yrb0 (gA S 21) (gI S 12).toNat l)) 12 (gI S 12 + l.length)
  | [], S, h => by
    show S = _
    have e : gI S 12 + (([] : List Int).length : Int) = S.1 12 := by show gI S 12 + 0 = gI S 12; omega
    rw [yrb0_nil, e]
    show S = (yup S.1 12 (S.1 12), S.2.1, S.2.2.1, yup S.2.2.2.1 21 (S.2.2.2.1 21), S.2.2.2.2)
    rw [yup_sf, yup_sf]
  | b :: l, S, h => by
    have ih := pbs_eq l (pb S b) (by rw [pb_12]; omega)
    show pbs (pb S b) l = _
    rw [ih, pb_12]
    have e1 : gA (pb S b) 21 = yup (gA S 21) (gI S 12).toNat b := yup_self S.2.2.2.1 21 (yup (S.2.2.2.1 21) (gI S 12).toNat b)
    have e2 : (gI S 12 + 1).toNat = (gI S 12).toNat + 1 := by omega
    rw [e1, e2, yrb0_cons, List.length_cons]
    have e3 : gI S 12 + 1 + (l.length : Int) = gI S 12 + ((l.length + 1 : Nat) : Int) := by omega
    rw [e3]
    show (yup (yup S.1 12 _) 12 _, S.2.1, S.2.2.1, yup (yup S.2.2.2.1 21 _) 21 _, S.2.2.2.2) = (yup S.1 12 _, S.2.1, S.2.2.1, yup S.2.2.2.1 21 _, S.2.2.2.2)
    rw [yup_up, yup_up]
def yfour (x : Int) : List Int := [yby x 24, yby x 16, yby x 8, yby x 0]
theorem pbs_app (S : yS) (a b : List Int) : pbs (pbs S a) b = pbs S (a ++ b) := (List.foldl_append ..).symm
theorem pbs_12 (S : yS) (l : List Int) (h : 0 ≤ gI S 12) : gI (pbs S l) 12 = gI S 12 + l.length := by rw [pbs_eq l S h]; exact gI_self _ _ _
section YFDL
variable {q : yQ} {d : Nat} {js : List xO} {S : yS}
theorem c156' {x : Int} (h3 : 0 ≤ gI S 12 ∧ gI S 12 + 4 ≤ 2000) : Y q d 156 0 [vr 86, vi x, vu] [] S js = yretv q (pbs S (yfour x)) js := c156 h3
theorem c166 {a b c e f : Int} (h1 : 0 ≤ gI S 12 ∧ gI S 12 ≤ 2000) : Y q (d + 1) 166 0 [vr 81, vi a, vi b, vi c, vi e, vi f] [] S js = if gI S 12 + 20 ≤ 2000 then yret q (vi (gI S 12 + 20)) (pbs S (yfour a ++ yfour b ++ yfour c ++ yfour e ++ yfour f)) js else ythr q (yexc 14) S js := by
  rw [w166_0]
  have e9 : yr (gI S 12 + 20) = gI S 12 + 20 := yr_eq (by omega) (by omega)
  have e8 : yr 2000 = 2000 := rfl
  have l4 : ∀ x, (yfour x).length = 4 := fun _ => rfl
  rw [e9, e8]
  by_cases h : gI S 12 + 20 ≤ 2000
  · have h0 := h1.1
    have q1 : gI (pbs S (yfour a)) 12 = gI S 12 + 4 := pbs_12 _ _ h0
    have q2 : gI (pbs S (yfour a ++ yfour b)) 12 = gI S 12 + 8 := pbs_12 _ _ h0
    have q3 : gI (pbs S (yfour a ++ yfour b ++ yfour c)) 12 = gI S 12 + 12 := pbs_12 _ _ h0
    have q4 : gI (pbs S (yfour a ++ yfour b ++ yfour c ++ yfour e)) 12 = gI S 12 + 16 := pbs_12 _ _ h0
    have q5 : gI (pbs S (yfour a ++ yfour b ++ yfour c ++ yfour e ++ yfour f)) 12 = gI S 12 + 20 := pbs_12 _ _ h0
    rw [if_neg (by omega), if_pos h, c156' (by omega), YB_retv, w166_32, c156' (by omega), YB_retv, pbs_app, w166_40, c156' (by omega), YB_retv, pbs_app, w166_48, c156' (by omega), YB_retv, pbs_app, w166_57, c156' (by omega), YB_retv, pbs_app, w166_66, q5]
  · rw [if_pos (by omega), if_neg h]
end YFDL
end YFD
