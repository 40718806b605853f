/-! taken from whole by wip/p27/slice2.py: 9zh.defs.lean.txt -/
section YDF
def cdz (z : Nat) : Nat := match z with
  | 0 => 95
  | _ => 101
/-- what putting one down changes -/
def yWd (z s k : Nat) : Bool := (s == 0 && k == 8 + z) || (s == 4 && k == 4 + z) || (s == 3 && (k == 14 + z || k == 16 + z || k == 18 + z)) || (s == 5 && k == z)
/-- one more definition, where there is room -/
def cDf (z : Nat) (S S' : yS) (cnt : Nat) (name : Int64) (ty st : Int) (kd : Nat) (sc : Int) : Prop := (cnt < 8 → gI S' (8 + z) = ((cnt + 1 : Nat) : Int) ∧ (∀ j, gB S' (4 + z) j = if j = cnt then name else gB S (4 + z) j) ∧ (∀ j, gA S' (14 + z) j = if j = cnt then ty else gA S (14 + z) j) ∧ (∀ j, gA S' (16 + z) j = if j = cnt then st else gA S (16 + z) j) ∧ (∀ j, gC S' z j = if j = cnt then kd else gC S z j) ∧ ∀ j, gA S' (18 + z) j = if j = cnt then sc else gA S (18 + z) j) ∧ (¬ cnt < 8 → S' = S)
section YDFL
variable {q : yQ} {d : Nat} {js : List xO} {S : yS}
theorem c47 {z cnt : Nat} (hz : z = 0 ∨ z = 1) (h : gI S (8 + z) = cnt) (hc : cnt ≤ 8) : Y q d 47 0 [vr (cdz z)] [] S js = yret q (vi (if cnt < 8 then 0 else 1)) S js := by
  have ec : yr (cnt : Int) = cnt := yr_eq (by omega) (by omega)
  have e8 : yr 8 = 8 := rfl
  rcases hz with rfl | rfl
  · have h : gI S 8 = cnt := h
    show Y q d 47 0 [vr 95] [] S js = _
    rw [w47_0, h, ec, e8]
    simp only [yz0, yz1, if_true]
    by_cases y : cnt < 8
    · rw [if_pos (by omega), if_pos y]
    · rw [if_neg (by omega), if_neg y]
  · have h : gI S 9 = cnt := h
    show Y q d 47 0 [vr 101] [] S js = _
    rw [w47b_0, h, ec, e8]
    simp only [yz0, yz1, if_true]
    by_cases y : cnt < 8
    · rw [if_pos (by omega), if_pos y]
    · rw [if_neg (by omega), if_neg y]
theorem c49 {z cnt kd : Nat} {name : Int64} {ty st sc : Int} (hz : z = 0 ∨ z = 1) (h : gI S (8 + z) = cnt) (hc : cnt ≤ 8) (hkd : kd < 67) (hty : ty = 0 ∨ ty = 1) : ∃ S' : yS, Y q d 49 0 [vr (cdz z), vj name, vu, vi ty, vi st, vr kd, vi sc] [] S js = yretv q S' js ∧ yFr (yWd z) S S' ∧ cDf z S S' cnt name ty st kd sc := by
  have ec : yr (cnt : Int) = cnt := yr_eq (by omega) (by omega)
  have e8 : yr 8 = 8 := rfl
  have ez : yi2z ty = ty := by rcases hty with rfl | rfl <;> decide
  rcases hz with rfl | rfl
  · have h : gI S 8 = cnt := h
    show ∃ S' : yS, Y q d 49 0 [vr 95, vj name, vu, vi ty, vi st, vr kd, vi sc] [] S js = _ ∧ _ ∧ _
    rw [w49_0, h, ec, e8]
    by_cases y : cnt < 8
    · have kc : 0 ≤ (cnt : Int) ∧ (cnt : Int) < 8 := by omega
      rw [if_pos kc.2, if_pos kc, if_pos kc, if_pos kc, if_pos ⟨kc, hkd⟩, if_pos kc, Int.toNat_natCast, ez]
      refine ⟨_, rfl, yFr_tr (yFr_B rfl) (yFr_tr (yFr_A rfl) (yFr_tr (yFr_A rfl) (yFr_tr (yFr_C rfl) (yFr_tr (yFr_A rfl) (yFr_I rfl))))), fun _ => ⟨by rw [gI_self]; omega, fun j => gB_self S 4 _ _ j, fun j => gA_self (sB S 4 cnt name) 14 _ _ j, fun j => gA_self (sA (sB S 4 cnt name) 14 cnt ty) 16 _ _ j, fun j => gC_self (sA (sA (sB S 4 cnt name) 14 cnt ty) 16 cnt st) 0 _ _ j, fun j => gA_self (sC (sA (sA (sB S 4 cnt name) 14 cnt ty) 16 cnt st) 0 cnt kd) 18 _ _ j⟩, fun n => absurd y n⟩
    · rw [if_neg (by omega)]
      exact ⟨S, rfl, yFr_rf _ _, fun n => absurd n y, fun _ => rfl⟩
  · have h : gI S 9 = cnt := h
    show ∃ S' : yS, Y q d 49 0 [vr 101, vj name, vu, vi ty, vi st, vr kd, vi sc] [] S js = _ ∧ _ ∧ _
    rw [w49b_0, h, ec, e8]
    by_cases y : cnt < 8
    · have kc : 0 ≤ (cnt : Int) ∧ (cnt : Int) < 8 := by omega
      rw [if_pos kc.2, if_pos kc, if_pos kc, if_pos kc, if_pos ⟨kc, hkd⟩, if_pos kc, Int.toNat_natCast, ez]
      refine ⟨_, rfl, yFr_tr (yFr_B rfl) (yFr_tr (yFr_A rfl) (yFr_tr (yFr_A rfl) (yFr_tr (yFr_C rfl) (yFr_tr (yFr_A rfl) (yFr_I rfl))))), fun _ => ⟨by rw [gI_self]; omega, fun j => gB_self S 5 _ _ j, fun j => gA_self (sB S 5 cnt name) 15 _ _ j, fun j => gA_self (sA (sB S 5 cnt name) 15 cnt ty) 17 _ _ j, fun j => gC_self (sA (sA (sB S 5 cnt name) 15 cnt ty) 17 cnt st) 1 _ _ j, fun j => gA_self (sC (sA (sA (sB S 5 cnt name) 15 cnt ty) 17 cnt st) 1 cnt kd) 19 _ _ j⟩, fun n => absurd y n⟩
    · rw [if_neg (by omega)]
      exact ⟨S, rfl, yFr_rf _ _, fun n => absurd n y, fun _ => rfl⟩
end YDFL
end YDF
