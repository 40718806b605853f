/-! taken from whole by wip/p27/slice2.py: 9zb.num.lean.txt -/
section YNN
/-- the value and the place that stand there -/
def yvl (T : yTk) (S : yS) (m : yMo) : Int64 := match m with
  | .inl _ => gJ S 0
  | .inr (t, _, _) => (T t).2.2
def ypl (T : yTk) (m : yMo) : Nat := match m with
  | .inl p => p
  | .inr (t, _, _) => (T t).2.1
def ynbm (T : yTk) (lo hi : Int) (v : Int64) (m : yMo) : yMo := if lo ≤ v.toInt ∧ v.toInt ≤ hi then yxp T 63 m else ywr (yxp T 63 m) 6 (ypl T m)
section YNNL
variable {q : yQ} {d : Nat} {js : List xO} {S : yS} {T : yTk} {N u : Nat}
theorem cNd_v {m : yMo} (h : cNd T N u S m) : gJ S 0 = yvl T S m ∧ gI S 16 = ypl T m := by
  match m, h with
  | .inl p, h => exact ⟨rfl, h.2.2.2.1⟩
  | .inr (t, b, k), h =>
    obtain ⟨hA, hE⟩ := cNd_A h
    exact ⟨hA.2.2.2.2.2.2.2, hA.2.2.2.2.2.2.1⟩
theorem nnumber {m : yMo} {lo hi : Int} (hu : u = 0 ∨ u = 1) (hT : yTo T N) (h : cNd T N u S m) (hlo : 0 ≤ lo ∧ lo ≤ hi) (hhi : hi ≤ 2000) : ∃ (S' : yS) (r : Int), Y q (d + 2) 29 0 [vr 123, vi lo, vi hi, vu, vu, vu] [] S js = yret q (vi r) S' js ∧ yFr yWk S S' ∧ cNd T N u S' (ynbm T lo hi (yvl T S m) m) ∧ lo ≤ r ∧ r ≤ hi ∧ (lo ≤ (yvl T S m).toInt ∧ (yvl T S m).toInt ≤ hi → r = (yvl T S m).toInt) := by
  obtain ⟨v1, v2⟩ := cNd_v h
  obtain ⟨S1, e1, e2, e3⟩ := nexpect (q := q) (d := d) (js := js) (kd := 63) hu hT h (by omega)
  have elo : (yi2l lo).toInt = lo := by rw [yi2l_toInt, yr_eq (by omega) (by omega)]
  have ehi : (yi2l hi).toInt = hi := by rw [yi2l_toInt, yr_eq (by omega) (by omega)]
  obtain ⟨S2, f1, f2, f3⟩ := nwrong (q := q) (d := d + 1) (js := js) (n := 6) (p := ypl T m) hu e3 (by omega)
  have f1 : Y q (d + 1) 153 0 [vr 86, vi 6, vi (ypl T m)] [] S1 js = yretv q S2 js := f1
  rw [w29_0, e1, YB_retv, w29_24, v1, v2]
  simp only [yr_lcmp, ylcmp_lt, ylcmp_gt, Int64.lt_iff_toInt_lt, elo, ehi]
  unfold ynbm
  generalize yvl T S m = v
  by_cases z1 : v.toInt < lo
  · rw [if_pos z1, if_neg (fun z => by omega), f1, YB_retv, w29_49]
    exact ⟨S2, lo, rfl, yFr_tr e2 f2, f3, by omega, by omega, fun z => by omega⟩
  · rw [if_neg z1]
    by_cases z2 : hi < v.toInt
    · rw [if_pos z2, if_neg (fun z => by omega), f1, YB_retv, w29_49]
      exact ⟨S2, lo, rfl, yFr_tr e2 f2, f3, by omega, by omega, fun z => by omega⟩
    · have ev : yl2i v = v.toInt := by
        unfold yl2i
        rw [Int64.toInt_toInt32, Int.bmod_eq_of_le (by omega) (by omega)]
      rw [if_neg z2, if_pos ⟨by omega, by omega⟩, ev]
      exact ⟨S1, v.toInt, rfl, e2, e3, by omega, by omega, fun _ => rfl⟩
end YNNL
end YNN
