/-! taken from whole by wip/p27/slice2.py: 9zc.names.lean.txt -/
section YNM
section YNML
variable {q : yQ} {d : Nat} {js : List xO} {S : yS} {T : yTk} {N u : Nat}
theorem yfind_yr {f : Nat → Int64} {v : Int64} {n : Nat} (hn : n ≤ 8) : yr (yfind f v n 0) = yfind f v n 0 ∧ -1 ≤ yfind f v n 0 ∧ yfind f v n 0 < 8 := by
  rcases yfind_c (f := f) (v := v) hn with h | ⟨k, hk, h⟩
  · rw [h]
    exact ⟨rfl, by omega, by omega⟩
  · rw [h]
    exact ⟨yr_eq (by omega) (by omega), by omega, by omega⟩
/-- a column that is named -/
theorem c32 {m : yMo} (hu : u = 0 ∨ u = 1) (hT : yTo T N) (h : cNd T N u S m) (h10 : 0 ≤ gI S 10 ∧ gI S 10 ≤ 8) : ∃ S' : yS, Y q (d + 2) 32 0 [vr 123, vu, vu] [] S js = yret q (vi (yfind (gB S 6) (yvl T S m) (gI S 10).toNat 0)) S' js ∧ yFr yWk S S' ∧ cNd T N u S' (if yfind (gB S 6) (yvl T S m) (gI S 10).toNat 0 < 0 then ywr (yxp T 62 m) 2 (ypl T m) else yxp T 62 m) := by
  obtain ⟨v1, v2⟩ := cNd_v h
  obtain ⟨S1, e1, e2, e3⟩ := nexpect (q := q) (d := d) (js := js) (kd := 62) hu hT h (by omega)
  obtain ⟨S2, f1, f2, f3⟩ := nwrong (q := q) (d := d + 1) (js := js) (n := 2) (p := ypl T m) hu e3 (by omega)
  have f1 : Y q (d + 1) 153 0 [vr 86, vi 2, vi (ypl T m)] [] S1 js = yretv q S2 js := f1
  have hr := (yfind_yr (f := gB S 6) (v := yvl T S m) (n := (gI S 10).toNat) (by omega)).1
  rw [w32_0, c132 h10, YB_ret, w32_14, v1, v2, e1, YB_retv, w32_30, hr]
  by_cases z : yfind (gB S 6) (yvl T S m) (gI S 10).toNat 0 < 0
  · rw [if_pos z, if_pos z, f1, YB_retv, w32_43]
    exact ⟨S2, rfl, yFr_tr e2 f2, f3⟩
  · rw [if_neg z, if_neg z]
    exact ⟨S1, rfl, e2, e3⟩
/-- a name is taken -/
def ytkn (S : yS) (v : Int64) : Prop := 0 ≤ yfind (gB S 6) v (gI S 10).toNat 0 ∨ 0 ≤ yfind (gB S 4) v (gI S 8).toNat 0 ∨ 0 ≤ yfind (gB S 5) v (gI S 9).toNat 0
/-- a new name -/
theorem c35 {m : yMo} (hu : u = 0 ∨ u = 1) (hT : yTo T N) (h : cNd T N u S m) (h10 : 0 ≤ gI S 10 ∧ gI S 10 ≤ 8) (h8 : 0 ≤ gI S 8 ∧ gI S 8 ≤ 8) (h9 : 0 ≤ gI S 9 ∧ gI S 9 ≤ 8) : ∃ S' : yS, Y q (d + 2) 35 0 [vr 123, vu, vu, vu] [] S js = yret q (vj (yvl T S m)) S' js ∧ yFr yWk S S' ∧ (ytkn S (yvl T S m) → cNd T N u S' (ywr (yxp T 62 m) 5 (ypl T m))) ∧ (¬ ytkn S (yvl T S m) → cNd T N u S' (yxp T 62 m)) := by
  obtain ⟨v1, v2⟩ := cNd_v h
  obtain ⟨S1, e1, e2, e3⟩ := nexpect (q := q) (d := d) (js := js) (kd := 62) hu hT h (by omega)
  obtain ⟨S2, f1, f2, f3⟩ := nwrong (q := q) (d := d + 1) (js := js) (n := 5) (p := ypl T m) hu e3 (by omega)
  have f1 : Y q (d + 1) 153 0 [vr 86, vi 5, vi (ypl T m)] [] S1 js = yretv q S2 js := f1
  have s10 : gI S1 10 = gI S 10 := e2.1 10 rfl
  have s8 : gI S1 8 = gI S 8 := e2.1 8 rfl
  have s9 : gI S1 9 = gI S 9 := e2.1 9 rfl
  have s6 : gB S1 6 = gB S 6 := e2.2.2.2.2.1 6 rfl
  have s4 : gB S1 4 = gB S 4 := e2.2.2.2.2.1 4 rfl
  have s5 : gB S1 5 = gB S 5 := e2.2.2.2.2.1 5 rfl
  unfold ytkn
  generalize yvl T S m = v at v1 ⊢
  have r1 := (yfind_yr (f := gB S 6) (v := v) (n := (gI S 10).toNat) (by omega)).1
  have r2 := (yfind_yr (f := gB S 4) (v := v) (n := (gI S 8).toNat) (by omega)).1
  have r3 := (yfind_yr (f := gB S 5) (v := v) (n := (gI S 9).toNat) (by omega)).1
  rw [w35_0, v1, v2, e1, YB_retv, w35_23, c132 (by rw [s10]; exact h10), YB_ret, w35_31, s6, s10, r1]
  by_cases z1 : yfind (gB S 6) v (gI S 10).toNat 0 < 0
  · rw [if_pos z1, c48 (by rw [s8]; exact h8), YB_ret, w35_45, s4, s8, r2]
    by_cases z2 : yfind (gB S 4) v (gI S 8).toNat 0 < 0
    · rw [if_pos z2, c48x (by rw [s9]; exact h9), YB_ret, w35_59, s5, s9, r3]
      by_cases z3 : yfind (gB S 5) v (gI S 9).toNat 0 < 0
      · rw [if_pos z3]
        exact ⟨S1, rfl, e2, fun z => by omega, fun _ => e3⟩
      · rw [if_neg z3, f1, YB_retv, w35_71]
        exact ⟨S2, rfl, yFr_tr e2 f2, fun _ => f3, fun z => absurd (Or.inr (Or.inr (by omega))) z⟩
    · rw [if_neg z2, f1, YB_retv, w35_71]
      exact ⟨S2, rfl, yFr_tr e2 f2, fun _ => f3, fun z => absurd (Or.inr (Or.inl (by omega))) z⟩
  · rw [if_neg z1, f1, YB_retv, w35_71]
    exact ⟨S2, rfl, yFr_tr e2 f2, fun _ => f3, fun z => absurd (Or.inl (by omega)) z⟩
end YNML
end YNM
