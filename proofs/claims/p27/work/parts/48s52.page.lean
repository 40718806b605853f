/-! taken from whole by wip/p27/slice2.py: 9ze.page.lean.txt -/
section YPP
def yWg (s k : Nat) : Bool := yWk s k || (s == 0 && (k == 20 || k == 21 || k == 22))
theorem yWg_k {S S' : yS} (h : yFr yWk S S') : yFr yWg S S' := yFr_mo h fun s k e => by
  unfold yWg at e
  simp only [Bool.or_eq_false_iff] at e
  exact e.1
section YPPL
variable {q : yQ} {d : Nat} {js : List xO} {S : yS} {T : yTk} {N : Nat}
/-- a page's modes: twice declared or not; its width, its height -/
def ypg1 (T : yTk) (S : yS) (m : yMo) : yMo := ynx T (if gI S 20 = 0 then m else ywr m 4 (ypl T m))
theorem c28 {m : yMo} (hT : yTo T N) (h : cNd T N 0 S m) (h0 : ykm2 T m = 0) (h20 : gI S 20 = 0 ∨ gI S 20 = 1) : ∃ (S' S1 S2 : yS) (r1 r2 : Int), Y q (d + 3) 28 0 [vr 123] [] S js = yretv q S' js ∧ yFr yWg S S' ∧ gI S' 20 = 1 ∧ gI S' 21 = r1 ∧ gI S' 22 = r2 ∧ 10 ≤ r1 ∧ r1 ≤ 60 ∧ 4 ≤ r2 ∧ r2 ≤ 40 ∧ cNd T N 0 S' (ynbm T 4 40 (yvl T S2 (ynbm T 10 60 (yvl T S1 (ypg1 T S m)) (ypg1 T S m))) (ynbm T 10 60 (yvl T S1 (ypg1 T S m)) (ypg1 T S m))) ∧ (10 ≤ (yvl T S1 (ypg1 T S m)).toInt ∧ (yvl T S1 (ypg1 T S m)).toInt ≤ 60 → r1 = (yvl T S1 (ypg1 T S m)).toInt) ∧ (4 ≤ (yvl T S2 (ynbm T 10 60 (yvl T S1 (ypg1 T S m)) (ypg1 T S m))).toInt ∧ (yvl T S2 (ynbm T 10 60 (yvl T S1 (ypg1 T S m)) (ypg1 T S m))).toInt ≤ 40 → r2 = (yvl T S2 (ynbm T 10 60 (yvl T S1 (ypg1 T S m)) (ypg1 T S m))).toInt) := by
  obtain ⟨v1, v2⟩ := cNd_v h
  have n1 : ¬ yr 1 = 0 := by decide
  -- twice?
  obtain ⟨Sa, a1, a2, a3⟩ : ∃ Sa : yS, Y q (d + 3) 28 0 [vr 123] [] S js = YB q (Y q (d + 2) 154 0 [vr 86] [] Sa js) (d + 3) 28 29 [vr 123] [] ∧ yFr yWk S Sa ∧ cNd T N 0 Sa (if gI S 20 = 0 then m else ywr m 4 (ypl T m)) := by
    rw [w28_0]
    rcases h20 with z | z
    · rw [z, if_pos yr_0, if_pos rfl]
      exact ⟨S, rfl, yFr_rf _ _, h⟩
    · obtain ⟨S1, e1, e2, e3⟩ := nwrong (q := q) (d := d + 2) (js := js) (n := 4) (p := ypl T m) (Or.inl rfl) h (by omega)
      have e1 : Y q (d + 2) 153 0 [vr 86, vi 4, vi (ypl T m)] [] S js = yretv q S1 js := e1
      rw [z, if_neg n1, if_neg (by decide), v2, e1, YB_retv, w28_25]
      exact ⟨S1, rfl, e2, e3⟩
  obtain ⟨Sb, b1, b2, b3⟩ := nnext (q := q) (d := d + 2) (js := js) (Or.inl rfl) hT a3 (fun t b k hm => by
    have : (T t).1 = 0 := by
      rcases m with p | ⟨t', b', k'⟩
      · split at hm <;> nomatch hm
      · have h0 : (T t').1 = 0 := h0
        split at hm
        · injection hm with hm
          injection hm with e1 _
          rw [← e1]
          exact h0
        · have hm : (Sum.inr (t', b', ykw k' 4 (ypl T (.inr (t', b', k')))) : yMo) = .inr (t, b, k) := hm
          injection hm with hm
          injection hm with e1 _
          rw [← e1]
          exact h0
    omega)
  have b3 : cNd T N 0 Sb (ypg1 T S m) := b3
  have c3 : cNd T N 0 (sI Sb 20 1) (ypg1 T S m) := b3
  obtain ⟨Sc, r1, d1, d2, d3, d4, d5, d6⟩ := nnumber (q := q) (d := d) (js := js) (lo := 10) (hi := 60) (Or.inl rfl) hT c3 (by omega) (by omega)
  have e3 : cNd T N 0 (sI Sc 21 r1) (ynbm T 10 60 (yvl T (sI Sb 20 1) (ypg1 T S m)) (ypg1 T S m)) := d3
  obtain ⟨Sd, r2, f1, f2, f3, f4, f5, f6⟩ := nnumber (q := q) (d := d) (js := js) (lo := 4) (hi := 40) (Or.inl rfl) hT e3 (by omega) (by omega)
  refine ⟨sI Sd 22 r2, sI Sb 20 1, sI Sc 21 r1, r1, r2, ?_, ?_, ?_, ?_, gI_self _ _ _, d4, d5, f4, f5, f3, d6, f6⟩
  · rw [a1, b1, YB_retv, w28_32, d1, YB_ret, w28_52, f1, YB_ret, w28_66]
  · exact yFr_tr (yWg_k a2) (yFr_tr (yWg_k b2) (yFr_tr (yFr_I rfl) (yFr_tr (yWg_k d2) (yFr_tr (yFr_I rfl) (yFr_tr (yWg_k f2) (yFr_I rfl))))))
  · show gI Sd 20 = 1
    rw [f2.1 20 rfl]
    show gI Sc 20 = 1
    rw [d2.1 20 rfl]
    rfl
  · show gI Sd 21 = r1
    rw [f2.1 21 rfl]
    rfl
end YPPL
end YPP
