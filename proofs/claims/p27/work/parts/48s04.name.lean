/-! taken from whole by wip/p27/slice2.py: 49i.name.lean.txt -/
section YNA
section YNAL
variable {q : yQ} {d : Nat} {js : List xO} {S : yS}
theorem tb_rng (S : yS) (i : Nat) : 0 ≤ tb S i ∧ tb S i ≤ 255 := yand_255 _
theorem tbl_in {i : Nat} (h : (i : Int) < gI S 12) : tbl S i = tb S i := by
  unfold tbl
  rw [if_pos (by omega), Int.toNat_natCast]
theorem c98a : ∀ (n i : Nat) (S : yS), i + n = 11 → Y q d 98 62 [vr 91, vi i] [] S js = yretv q (sAr S 26 (fun j => if i ≤ j ∧ j < 11 then -1 else gA S 26 j)) js
  | 0, i, S, h => by
    rw [w98_62, if_neg (by rw [yr_eq, yr_eq] <;> omega)]
    have e : (fun j => if i ≤ j ∧ j < 11 then (-1 : Int) else gA S 26 j) = gA S 26 := by
      funext j
      rw [if_neg (by omega)]
    rw [e, sAr_sf]
  | n + 1, i, S, h => by
    have ei : yr (i : Int) = i := yr_eq (by omega) (by omega)
    have e1 : (i : Int) + 1 = ((i + 1 : Nat) : Int) := by omega
    rw [w98_62, if_pos (by rw [yr_eq, yr_eq] <;> omega), ei, if_pos (by omega), Int.toNat_natCast, e1, c98a n (i + 1) _ (by omega), sAr_sA]
    congr 2
    funext j
    rw [gA_self]
    by_cases z : j = i
    · rw [if_neg (by omega), if_pos z, if_pos (by omega)]
    · rw [if_neg z]
      by_cases y : i ≤ j ∧ j < 11
      · rw [if_pos (by omega), if_pos y]
      · rw [if_neg (by omega), if_neg y]
/-- an empty program -/
def yemp (S : yS) : yS := sAr (sI (sI (sI (sI (sI (sI (sI (sI (sI (sI (sI S 19 0) 20 0) 21 40) 22 20) 23 0) 24 0) 8 0) 9 0) 0 0) 2 0) 25 0) 26 (fun j => if j < 11 then -1 else gA S 26 j)
theorem c98 : Y q (d + 1) 98 0 [vr 91, vu] [] S js = yretv q (yemp S) js := by
  rw [w98_0, w19b_0, YB_retv, w98_55, show (0 : Int) = ((0 : Nat) : Int) from rfl, c98a 11 0 _ (by omega)]
  unfold yemp
  congr 2
  funext j
  simp only [Nat.zero_le, true_and]
  rfl
def yforg (S : yS) : yS := sI (sI (sI (sI (sI (sI S 30 0) 31 0) 32 0) 33 0) 34 0) 29 0
end YNAL
end YNA
