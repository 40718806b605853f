/-! THE CLASS READS A PROGRAM: a let, up to its expression -/
section YLT
/-- a new name, and the sign behind it -/
def ynn (T : yTk) (tk : Bool) (m : yMo) : yMo := yxp T 50 (if tk = true then ywr (yxp T 62 m) 5 (ypl T m) else yxp T 62 m)
section YLTL
variable {q : yQ} {d : Nat} {js : List xO} {S : yS} {T : yTk} {N : Nat}
theorem c34a {m : yMo} {cnt kd : Nat} (hT : yTo T N) (h : cNd T N 0 S m) (hkd : kd ≤ 64) (h1 : ykm2 T m = kd) (h10 : 0 ≤ gI S 10 ∧ gI S 10 ≤ 8) (h8 : gI S 8 = cnt) (hc : cnt ≤ 8) (h9 : 0 ≤ gI S 9 ∧ gI S 9 ≤ 8) : ∃ (S' S2 : yS) (tk : Bool), (tk = true ↔ ytkn S (yvl T S2 (yhd T (decide (cnt < 8)) m))) ∧ Y q (d + 3) 34 0 [vr 117, vu, vu, vu, vu] [] S js = Y q (d + 3) 34 47 [vr 117, vj (yvl T S2 (yhd T (decide (cnt < 8)) m)), vu, vu, vu] [] S' js ∧ yFr yWk S S' ∧ cNd T N 0 S' (ynn T tk (yhd T (decide (cnt < 8)) m)) := by
  obtain ⟨v1, v2⟩ := cNd_v h
  have n1 : ¬ yr 1 = 0 := by decide
  have h47 : Y q (d + 2) 47 0 [vr 89] [] S js = yret q (vi (if cnt < 8 then 0 else 1)) S js := c47 (z := 0) (Or.inl rfl) h8 hc
  obtain ⟨Sa, a1, a2, a3⟩ : ∃ Sa : yS, Y q (d + 3) 34 0 [vr 117, vu, vu, vu, vu] [] S js = YB q (Y q (d + 2) 154 0 [vr 80] [] Sa js) (d + 3) 34 32 [vr 117, vu, vu, vu, vu] [] ∧ yFr yWk S Sa ∧ cNd T N 0 Sa (if decide (cnt < 8) = true then m else ywr m 4 (ypl T m)) := by
    rw [w34_0, h47, YB_ret, w34_10]
    by_cases z : cnt < 8
    · rw [if_pos z, if_pos yr_0, if_pos (decide_eq_true z)]
      exact ⟨S, rfl, yFr_rf _ _, h⟩
    · obtain ⟨S1, e1, e2, e3⟩ := nwrong (q := q) (d := d + 2) (js := js) (n := 4) (p := ypl T m) (Or.inl rfl) h (by omega)
      have e1 : Y q (d + 2) 153 0 [vr 80, vi 4, vi (ypl T m)] [] S js = yretv q S1 js := e1
      rw [if_neg z, if_neg n1, if_neg (fun y => z (of_decide_eq_true y)), v2, e1, YB_retv, w34_28]
      exact ⟨S1, rfl, e2, e3⟩
  have ka : ykm2 T (if decide (cnt < 8) = true then m else ywr m 4 (ypl T m)) = kd := by
    split
    · exact h1
    · rw [ywr_kind, h1]
  obtain ⟨Sb, b1, b2, b3⟩ := nnext (q := q) (d := d + 2) (js := js) (Or.inl rfl) hT a3 (ykm2_le hkd ka)
  have b3 : cNd T N 0 Sb (yhd T (decide (cnt < 8)) m) := b3
  have fS : yFr yWk S Sb := yFr_tr a2 b2
  have s10 : gI Sb 10 = gI S 10 := fS.1 10 rfl
  have s8 : gI Sb 8 = gI S 8 := fS.1 8 rfl
  have s9 : gI Sb 9 = gI S 9 := fS.1 9 rfl
  obtain ⟨Sc, c1, c2, c3, c4⟩ := c35 (q := q) (d := d) (js := js) (Or.inl rfl) hT b3 (by rw [s10]; exact h10) (by rw [s8]; omega) (by rw [s9]; exact h9)
  have et : ytkn Sb (yvl T Sb (yhd T (decide (cnt < 8)) m)) = ytkn S (yvl T Sb (yhd T (decide (cnt < 8)) m)) := by
    unfold ytkn
    rw [s10, s8, s9, fS.2.2.2.2.1 6 rfl, fS.2.2.2.2.1 4 rfl, fS.2.2.2.2.1 5 rfl]
  rw [et] at c3 c4
  obtain ⟨tk, htk, c5⟩ : ∃ tk : Bool, (tk = true ↔ ytkn S (yvl T Sb (yhd T (decide (cnt < 8)) m))) ∧ cNd T N 0 Sc (if tk = true then ywr (yxp T 62 (yhd T (decide (cnt < 8)) m)) 5 (ypl T (yhd T (decide (cnt < 8)) m)) else yxp T 62 (yhd T (decide (cnt < 8)) m)) := by
    by_cases z : ytkn S (yvl T Sb (yhd T (decide (cnt < 8)) m))
    · exact ⟨true, ⟨fun _ => z, fun _ => rfl⟩, c3 z⟩
    · exact ⟨false, ⟨fun y => absurd y (by decide), fun y => absurd y z⟩, c4 z⟩
  obtain ⟨Sd, d1, d2, d3⟩ := nexpect (q := q) (d := d + 1) (js := js) (kd := 50) (Or.inl rfl) hT c5 (by omega)
  refine ⟨Sd, Sb, tk, htk, ?_, yFr_tr fS (yFr_tr c2 d2), d3⟩
  rw [a1, b1, YB_retv, w34_35, c1, YB_ret, w34_39, d1, YB_retv]
end YLTL
end YLT
