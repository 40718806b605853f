/-! taken from whole by wip/p27/slice2.py: 9zi.items.lean.txt -/
section YIT
/-- what items change -/
def yWi (s k : Nat) : Bool := (s == 0 && k == 25) || (s == 3 && (k == 27 || k == 28 || k == 29)) || (s == 5 && k == 3)
section YITL
variable {q : yQ} {d : Nat} {js : List xO} {S : yS}
/-- one item more -/
theorem c100 {cnt kd : Nat} {a b : Int} (h : gI S 25 = cnt) (hc : cnt ≤ 2000) (hkd : kd < 67) : ∃ S' : yS, Y q d 100 0 [vr 91, vr kd, vi a, vi b, vu] [] S js = yret q (vi cnt) S' js ∧ yFr yWi S S' ∧ (cnt < 2000 → gI S' 25 = ((cnt + 1 : Nat) : Int) ∧ (∀ j, gC S' 3 j = if j = cnt then kd else gC S 3 j) ∧ (∀ j, gA S' 27 j = if j = cnt then a else gA S 27 j) ∧ (∀ j, gA S' 28 j = if j = cnt then b else gA S 28 j) ∧ ∀ j, gA S' 29 j = if j = cnt then ((cnt + 1 : Nat) : Int) else gA S 29 j) ∧ (¬ cnt < 2000 → S' = S) := by
  have ec : yr (cnt : Int) = cnt := yr_eq (by omega) (by omega)
  have e2 : yr 2000 = 2000 := rfl
  have ep : (cnt : Int) + 1 = ((cnt + 1 : Nat) : Int) := by omega
  rw [w100_0, h, ec, e2]
  by_cases y : cnt < 2000
  · have kc : 0 ≤ (cnt : Int) ∧ (cnt : Int) < 2000 := by omega
    rw [if_pos kc.2, if_pos ⟨kc, hkd⟩, if_pos kc, if_pos kc, if_pos kc, Int.toNat_natCast, ep]
    refine ⟨_, rfl, yFr_tr (yFr_C rfl) (yFr_tr (yFr_A rfl) (yFr_tr (yFr_A rfl) (yFr_tr (yFr_I rfl) (yFr_A rfl)))), fun _ => ⟨?_, fun j => gC_self S 3 _ _ j, fun j => gA_self (sC S 3 cnt kd) 27 _ _ j, fun j => gA_self (sA (sC S 3 cnt kd) 27 cnt a) 28 _ _ j, fun j => gA_self (sI (sA (sA (sC S 3 cnt kd) 27 cnt a) 28 cnt b) 25 ((cnt + 1 : Nat) : Int)) 29 _ _ j⟩, fun n => absurd y n⟩
    exact gI_self (sA (sA (sC S 3 cnt kd) 27 cnt a) 28 cnt b) 25 _
  · rw [if_neg (by omega)]
    exact ⟨S, rfl, yFr_rf _ _, fun n => absurd n y, fun _ => rfl⟩
theorem c103 {cnt it : Nat} {v : Int} (h : gI S 25 = cnt) (hc : cnt ≤ 2000) (hi : it ≤ 2000) : Y q d 103 0 [vr 91, vi it, vi v] [] S js = yretv q (if it < cnt then sA S 27 it v else S) js := by
  have ec : yr (cnt : Int) = cnt := yr_eq (by omega) (by omega)
  have ei : yr (it : Int) = it := yr_eq (by omega) (by omega)
  rw [w103_0, h, ec, ei, if_neg (by omega)]
  by_cases y : it < cnt
  · rw [if_pos (by omega), if_pos (by omega), if_pos y, Int.toNat_natCast]
  · rw [if_neg (by omega), if_neg y]
theorem c105 {cnt it : Nat} {v : Int} (h : gI S 25 = cnt) (hc : cnt ≤ 2000) (hi : it ≤ 2000) : Y q d 105 0 [vr 91, vi it, vi v] [] S js = yretv q (if it < cnt then sA S 28 it v else S) js := by
  have ec : yr (cnt : Int) = cnt := yr_eq (by omega) (by omega)
  have ei : yr (it : Int) = it := yr_eq (by omega) (by omega)
  rw [w105_0, h, ec, ei, if_neg (by omega)]
  by_cases y : it < cnt
  · rw [if_pos (by omega), if_pos (by omega), if_pos y, Int.toNat_natCast]
  · rw [if_neg (by omega), if_neg y]
theorem c106 {cnt it : Nat} (h : gI S 25 = cnt) (hc : cnt ≤ 2000) (hi : it ≤ 2000) : Y q d 106 0 [vr 91, vi it] [] S js = yretv q (if it < cnt then sA S 29 it cnt else S) js := by
  have ec : yr (cnt : Int) = cnt := yr_eq (by omega) (by omega)
  have ei : yr (it : Int) = it := yr_eq (by omega) (by omega)
  rw [w106_0, h, ec, ei, if_neg (by omega)]
  by_cases y : it < cnt
  · rw [if_pos (by omega), if_pos (by omega), if_pos y, Int.toNat_natCast]
  · rw [if_neg (by omega), if_neg y]
theorem c104 {cnt it kd : Nat} (h : gI S 25 = cnt) (hc : cnt ≤ 2000) (hi : it ≤ 2000) (hkd : kd < 67) : Y q d 104 0 [vr 91, vi it, vr kd] [] S js = yretv q (if it < cnt then sC S 3 it kd else S) js := by
  have ec : yr (cnt : Int) = cnt := yr_eq (by omega) (by omega)
  have ei : yr (it : Int) = it := yr_eq (by omega) (by omega)
  rw [w104_0, h, ec, ei, if_neg (by omega)]
  by_cases y : it < cnt
  · rw [if_pos (by omega), if_pos ⟨by omega, hkd⟩, if_pos y, Int.toNat_natCast]
  · rw [if_neg (by omega), if_neg y]
end YITL
end YIT
