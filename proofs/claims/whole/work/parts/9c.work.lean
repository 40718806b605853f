/-! THE CLASS's MACHINE: one instruction's work -/
section YCK
theorem ycal_un {op : Nat} {a b : Int64} (h : op = 18 ∨ op = 19 ∨ op = 25) : ycal op a b = ycal op a a := by
  have hc : (op : Int) = 18 ∨ (op : Int) = 19 ∨ (op : Int) = 25 := by omega
  unfold ycal
  generalize (op : Int) = o at hc ⊢
  rcases hc with rfl | rfl | rfl
  all_goals simp only [Int.reduceEq, if_true, if_false]
section YCKL
variable {q : yQ} {d : Nat} {js : List xO} {S : yS} {n : Nat}
theorem c69c {op : Nat} {a b : Int64} (h : (6 ≤ op ∧ op ≤ 10) ∨ (12 ≤ op ∧ op ≤ 19) ∨ (25 ≤ op ∧ op ≤ 27)) : Y q d 69 0 [vi op, vj a, vu, vj b, vu] [] S js = yret q (vj (ycal op a b)) S js := by
  by_cases z : 25 ≤ op
  · exact c69b (by omega)
  · exact c69 (by omega)
/-- numbers -/
theorem c80n {op : Nat} {a b : Int64} (h : (6 ≤ op ∧ op ≤ 10) ∨ (12 ≤ op ∧ op ≤ 19) ∨ (25 ≤ op ∧ op ≤ 27)) (hn : n + 1 < 92) (ht : gA S 30 n = 0) (ha : gB S 9 n = a) (hb : gB S 9 (n + 1) = b) : ∃ S' : yS, Y q (d + 1) 80 0 [vr 118, vi op, vi n] [] S js = yretv q S' js ∧ yFs n S S' ∧ cV S' n (.inl (ycal op a b)) := by
  have e : yr (op : Int) = op := yr_eq (by omega) (by omega)
  have en : yr (n : Int) = n := yr_eq (by omega) (by omega)
  have ep : (n : Int) + 1 = ((n + 1 : Nat) : Int) := by omega
  have en1 : yr ((n + 1 : Nat) : Int) = ((n + 1 : Nat) : Int) := yr_eq (by omega) (by omega)
  have k1 : 0 ≤ (n : Int) ∧ (n : Int) < 92 := by omega
  have k2 : 0 ≤ ((n + 1 : Nat) : Int) ∧ ((n + 1 : Nat) : Int) < 92 := by omega
  have h11 : ¬ (op : Int) = 11 := by omega
  have h20 : ¬ (op : Int) = 20 := by omega
  have h21 : ¬ (op : Int) = 21 := by omega
  have h22 : ¬ (op : Int) = 22 := by omega
  have h23 : ¬ (op : Int) = 23 := by omega
  have h24 : ¬ (op : Int) = 24 := by omega
  obtain ⟨S', a1, a2, a3⟩ := c71 (q := q) (d := d) (js := js) (S := S) (n := n) (x := ycal op a b) (by omega)
  refine ⟨S', ?_, a2, a3⟩
  rw [w80_0, e]
  simp only [h11, h20, h21, h22, h23, h24, if_false, ite_self]
  rw [en, if_pos k1, Int.toNat_natCast, ht, if_pos yr_0, if_pos k1, ep, en1, if_pos k2, Int.toNat_natCast, ha, hb, c69c h, YB_ret, w80_194, a1, YB_retv, w80_197]
/-- texts compared -/
theorem c80t {op : Nat} {l r : List Int} (h : 12 ≤ op ∧ op ≤ 17) (hn : n + 1 < 92) (h1 : cV S n (.inr l)) (h2 : cV S (n + 1) (.inr r)) : ∃ S' : yS, Y q (d + 1) 80 0 [vr 118, vi op, vi n] [] S js = yretv q S' js ∧ yFs n S S' ∧ cV S' n (.inl (ycal op (yi2l (ycmT l r)) 0)) := by
  have e : yr (op : Int) = op := yr_eq (by omega) (by omega)
  have en : yr (n : Int) = n := yr_eq (by omega) (by omega)
  have ep : (n : Int) + 1 = ((n + 1 : Nat) : Int) := by omega
  have k1 : 0 ≤ (n : Int) ∧ (n : Int) < 92 := by omega
  have n1 : ¬ yr 1 = 0 := by decide
  have h11 : ¬ (op : Int) = 11 := by omega
  have h20 : ¬ (op : Int) = 20 := by omega
  have h21 : ¬ (op : Int) = 21 := by omega
  have h22 : ¬ (op : Int) = 22 := by omega
  have h23 : ¬ (op : Int) = 23 := by omega
  have h24 : ¬ (op : Int) = 24 := by omega
  obtain ⟨S', a1, a2, a3⟩ := c71 (q := q) (d := d) (js := js) (S := S) (n := n) (x := ycal op (yi2l (ycmT l r)) 0) (by omega)
  refine ⟨S', ?_, a2, a3⟩
  rw [w80_0, e]
  simp only [h11, h20, h21, h22, h23, h24, if_false, ite_self]
  rw [en, if_pos k1, Int.toNat_natCast, h1.1, if_neg n1, ep, c85 hn h1 h2, YB_ret, w80_168, c69 (by omega), YB_ret, w80_173, a1, YB_retv, w80_197]
theorem c80_1 {op : Nat} {v : yVal} (h : yft1 op v) (hn : n + 1 < 92) (hv : cV S n v) : ∃ S' : yS, Y q (d + 1) 80 0 [vr 118, vi op, vi n] [] S js = yretv q S' js ∧ yFs n S S' ∧ cV S' n (yO1 op v) := by
  have en : yr (n : Int) = n := yr_eq (by omega) (by omega)
  have k1 : 0 ≤ (n : Int) ∧ (n : Int) < 92 := by omega
  have e20 : yr 20 = 20 := rfl
  have e21 : yr 21 = 21 := rfl
  have e23 : yr 23 = 23 := rfl
  have e24 : yr 24 = 24 := rfl
  match v, h, hv with
  | .inl x, h, hv =>
    have h : op = 18 ∨ op = 19 ∨ op = 23 ∨ op = 24 ∨ op = 25 := h
    by_cases z : op = 23 ∨ op = 24
    · rcases z with rfl | rfl
      · obtain ⟨S', a1, a2, a3⟩ := c84 (q := q) (d := d) (js := js) (S := S) (n := n) (mo := 0) (x := x) (by omega) (by omega) hv
        refine ⟨S', ?_, a2, a3⟩
        show Y q (d + 1) 80 0 [vr 118, vi 23, vi n] [] S js = _
        rw [w80_0, e23]
        simp only [Int.reduceEq, if_true, if_false]
        have a1 : Y q d 84 0 [vr 118, vi n, vi 0, vu, vu, vu, vu, vu, vu, vu, vu, vu] [] S js = yretv q S' js := a1
        rw [a1, YB_retv, w80_136]
      · obtain ⟨S', a1, a2, a3⟩ := c84 (q := q) (d := d) (js := js) (S := S) (n := n) (mo := 1) (x := x) (by omega) (by omega) hv
        refine ⟨S', ?_, a2, a3⟩
        show Y q (d + 1) 80 0 [vr 118, vi 24, vi n] [] S js = _
        rw [w80_0, e24]
        simp only [Int.reduceEq, if_true, if_false]
        have a1 : Y q d 84 0 [vr 118, vi n, vi 1, vu, vu, vu, vu, vu, vu, vu, vu, vu] [] S js = yretv q S' js := a1
        rw [a1, YB_retv, w80_145]
    · obtain ⟨S', a1, a2, a3⟩ := c80n (q := q) (d := d) (js := js) (op := op) (by omega) hn hv.1 hv.2.1 rfl
      refine ⟨S', a1, a2, ?_⟩
      have e : yO1 op (.inl x) = .inl (ycal op x x) := by
        show (if op = 23 then _ else if op = 24 then _ else _) = _
        rw [if_neg (by omega), if_neg (by omega)]
      rw [e, ← ycal_un (b := gB S 9 (n + 1)) (by omega)]
      exact a3
  | .inr l, h, hv =>
    have h : (op = 20 ∨ op = 21) ∧ l.length ≤ 60 := h
    rcases h.1 with rfl | rfl
    · obtain ⟨S', a1, a2, a3⟩ := c71 (q := q) (d := d) (js := js) (S := S) (n := n) (x := yi2l l.length) (by omega)
      refine ⟨S', ?_, a2, a3⟩
      show Y q (d + 1) 80 0 [vr 118, vi 20, vi n] [] S js = _
      rw [w80_0, e20]
      simp only [Int.reduceEq, if_true, if_false]
      rw [en, if_pos k1, Int.toNat_natCast, hv.2.1, a1, YB_retv, w80_84]
    · obtain ⟨S', a1, a2, a3⟩ := c81 (q := q) (d := d) (js := js) (S := S) (n := n) (l := l) (by omega) hv
      refine ⟨S', ?_, a2, a3⟩
      show Y q (d + 1) 80 0 [vr 118, vi 21, vi n] [] S js = _
      rw [w80_0, e21]
      simp only [Int.reduceEq, if_true, if_false]
      rw [a1, YB_retv, w80_92]
theorem c80_2 {op : Nat} {v w r : yVal} (h : yft2 op v w) (hr : yO2 op v w = some r) (hn : n + 1 < 92) (hv : cV S n v) (hw : cV S (n + 1) w) : ∃ S' : yS, Y q (d + 1) 80 0 [vr 118, vi op, vi n] [] S js = yretv q S' js ∧ yFs n S S' ∧ cV S' n r := by
  match v, w, h, hv, hw, hr with
  | .inl x, .inl y, h, hv, hw, hr =>
    have h : (6 ≤ op ∧ op ≤ 10) ∨ (12 ≤ op ∧ op ≤ 17) ∨ op = 26 ∨ op = 27 := h
    obtain ⟨S', a1, a2, a3⟩ := c80n (q := q) (d := d) (js := js) (op := op) (by omega) hn hv.1 hv.2.1 hw.2.1
    refine ⟨S', a1, a2, ?_⟩
    have hr : (if (op = 9 ∨ op = 10) ∧ y = 0 then none else some (Sum.inl (ycal op x y))) = some r := hr
    split at hr
    · nomatch hr
    · injection hr with hr
      rw [← hr]
      exact a3
  | .inr l, .inr m, h, hv, hw, hr =>
    have h : 11 ≤ op ∧ op ≤ 17 ∧ l.length ≤ 60 ∧ m.length ≤ 60 := h
    have hr : (if op = 11 then some (Sum.inr ((l ++ m).take 60)) else some (Sum.inl (ycal op (yi2l (ycmT l m)) 0))) = some r := hr
    by_cases z : op = 11
    · rw [if_pos z] at hr
      have hq : Sum.inr ((l ++ m).take 60) = r := Option.some.inj hr
      subst z
      obtain ⟨S', a1, a2, a3⟩ := c83 (q := q) (d := d) (js := js) hn hv hw
      refine ⟨S', ?_, a2, by rw [← hq]; exact a3⟩
      have e11 : yr 11 = 11 := rfl
      have ep : (n : Int) + 1 = ((n + 1 : Nat) : Int) := by omega
      show Y q (d + 1) 80 0 [vr 118, vi 11, vi n] [] S js = _
      rw [w80_0, e11, if_pos rfl, ep, a1, YB_retv, w80_127]
    · rw [if_neg z] at hr
      injection hr with hr
      rw [← hr]
      exact c80t ⟨by omega, h.2.1⟩ hn hv hw
theorem c80_3 {l : List Int} {x y : Int64} (hn : n + 2 < 92) (h1 : cV S n (.inr l)) (h2 : cV S (n + 1) (.inl x)) (h3 : cV S (n + 2) (.inl y)) : ∃ S' : yS, Y q (d + 1) 80 0 [vr 118, vi 22, vi n] [] S js = yretv q S' js ∧ yFs n S S' ∧ cV S' n (.inr (yprt l x y)) := by
  have e22 : yr 22 = 22 := rfl
  have e1 : yr ((n : Int) + 1) = ((n + 1 : Nat) : Int) := by rw [yr_eq] <;> omega
  have e2 : yr ((n : Int) + 2) = ((n + 2 : Nat) : Int) := by rw [yr_eq] <;> omega
  obtain ⟨S', a1, a2, a3⟩ := c82 (q := q) (d := d) (js := js) (S := S) (n := n) (fj := x) (mj := y) (by omega) h1
  refine ⟨S', ?_, a2, a3⟩
  rw [w80_0, e22]
  simp only [Int.reduceEq, if_true, if_false]
  rw [e1, e2, if_pos (by omega), if_pos (by omega), Int.toNat_natCast, Int.toNat_natCast, h2.2.1, h3.2.1, a1, YB_retv, w80_116]
end YCKL
end YCK
