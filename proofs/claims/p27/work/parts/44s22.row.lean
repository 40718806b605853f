/-! taken from whole by wip/p27/slice.py: 9r.row.lean.txt -/
section YRW
/-- a cell's value: its column's sort, its word -/
def yvc (t : Int) (w : Int64) : yVal := if t = 0 then .inl w else .inr (ycl w.toBitVec.toNat 8)
/-- slots below have changed -/
def yFl (c : Nat) (S S' : yS) : Prop := yFr yWm S S' ∧ (∀ m, c ≤ m → gA S' 30 m = gA S 30 m ∧ gB S' 9 m = gB S 9 m ∧ gA S' 31 m = gA S 31 m) ∧ ∀ j, 60 * c ≤ j → gA S' 32 j = gA S 32 j
theorem yFl_rf (c : Nat) (S : yS) : yFl c S S := ⟨yFr_rf _ _, fun _ _ => ⟨rfl, rfl, rfl⟩, fun _ _ => rfl⟩
theorem yFl_s {c n : Nat} {A B C : yS} (h1 : yFl c A B) (h2 : yFs n B C) (hn : n < c) : yFl c A C := ⟨yFr_tr h1.1 h2.1, fun m hm => ⟨(h2.2.1 m (by omega)).1.trans (h1.2.1 m hm).1, (h2.2.1 m (by omega)).2.1.trans (h1.2.1 m hm).2.1, (h2.2.1 m (by omega)).2.2.trans (h1.2.1 m hm).2.2⟩, fun j hj => (h2.2.2 j (by omega)).trans (h1.2.2 j hj)⟩
section YRWL
variable {q : yQ} {d : Nat} {js : List xO} {S S0 : yS}
theorem c134w {row : Int} {c k : Nat} (hc : c ≤ 8) (hk : k < c) (hrow : -1 ≤ row ∧ row < 40) (h10 : gI S 10 = c) : Y q d 134 0 [vr 82, vi row, vi k] [] S js = yret q (vj (if row < 0 then 0 else gB S 7 (row * c + k).toNat)) S js := by
  by_cases z : row < 0
  · rw [w134_0, if_pos (by rw [yr_eq] <;> omega), if_pos z]
  · rw [c134 (by omega) (by omega) (by omega), h10, if_neg z]
theorem c72l {row : Int} {c : Nat} {t : Nat → Int} {w : Nat → Int64} (hc : c ≤ 8) (hrow : -1 ≤ row ∧ row < 40) (h10 : gI S0 10 = c) (hT : ∀ k, k < c → gA S0 20 k = t k ∧ (t k = 0 ∨ (t k = 1 ∧ yOkN (w k).toBitVec.toNat)) ∧ w k = if row < 0 then 0 else gB S0 7 (row * c + k).toNat) : ∀ (m i : Nat) (S : yS) (x2 : yV), i + m = c → yFl c S0 S → (∀ j, j < i → cV S j (yvc (t j) (w j))) → ∃ S' : yS, Y q (d + 2) 72 2 [vr 124, vi row, vi i, x2, vu] [] S js = yretv q S' js ∧ yFl c S0 S' ∧ ∀ j, j < c → cV S' j (yvc (t j) (w j))
  | 0, i, S, x2, hi, hf, hv => by
    have ei : yr (i : Int) = i := yr_eq (by omega) (by omega)
    have ec : yr (c : Int) = c := yr_eq (by omega) (by omega)
    have s10 : gI S 10 = c := (hf.1.1 _ rfl).trans h10
    rw [w72_2, ei, s10, ec, if_neg (by omega)]
    exact ⟨S, rfl, hf, fun j hj => hv j (by omega)⟩
  | m + 1, i, S, x2, hi, hf, hv => by
    have ei : yr (i : Int) = i := yr_eq (by omega) (by omega)
    have ec : yr (c : Int) = c := yr_eq (by omega) (by omega)
    have e8 : yr 8 = 8 := rfl
    have s10 : gI S 10 = c := (hf.1.1 _ rfl).trans h10
    have s7 : gB S 7 = gB S0 7 := hf.1.2.2.2.2.1 _ rfl
    have s20 : gA S 20 = gA S0 20 := hf.1.2.2.2.1 _ rfl
    obtain ⟨t1, t2, t3⟩ := hT i (by omega)
    have hw : (if row < 0 then 0 else gB S 7 (row * c + i).toNat) = w i := by rw [s7]; exact t3.symm
    have ep : (i : Int) + 1 = ((i + 1 : Nat) : Int) := by omega
    have e0i : 0 + (i : Int) = i := by omega
    have n1 : ¬ yr 1 = 0 := by decide
    have st : Y q (d + 2) 72 2 [vr 124, vi row, vi i, x2, vu] [] S js = Y q (d + 2) 72 37 [vr 124, vi row, vi i, vj (w i), vu] [vi (if t i = 0 then 0 else 1)] S js := by
      have et : (if yr (gA S 20 i) = 0 then (0 : Int) else 1) = if t i = 0 then 0 else 1 := by
        rw [s20, t1]
        rcases t2 with h | h
        · rw [h, if_pos yr_0, if_pos rfl]
        · rw [h.1, if_neg n1, if_neg (by decide)]
      rw [w72_2, ei, s10, ec, if_pos (by omega), e8, if_pos (by omega), c134w hc (by omega) hrow s10, YB_ret, hw, w72_28, c133 (by omega) (by omega), YB_ret, et]
    rw [st, w72_37, e0i]
    by_cases z : t i = 0
    · obtain ⟨S1, a1, a2, a3⟩ := c71 (q := q) (d := d + 1) (js := js) (S := S) (n := i) (x := w i) (by omega)
      have ev : yvc (t i) (w i) = .inl (w i) := if_pos z
      obtain ⟨S', b1, b2, b3⟩ := c72l hc hrow h10 hT m (i + 1) S1 (vj (w i)) (by omega) (yFl_s hf a2 (by omega)) (fun j hj => by
        by_cases y : j = i
        · subst y
          rw [ev]
          exact a3
        · exact cV_fs a2 y (hv j (by omega)))
      refine ⟨S', ?_, b2, b3⟩
      rw [if_pos z, if_pos yr_0, a1, YB_retv, w72_59, ep, b1]
    · have hok : yOkN (w i).toBitVec.toNat := by
        rcases t2 with h | h
        · exact absurd h z
        · exact h.2
      obtain ⟨S1, a1, a2, a3⟩ := c73 (q := q) (d := d) (js := js) (S := S) (n := i) (by omega) hok
      have ev : yvc (t i) (w i) = .inr (ycl (w i).toBitVec.toNat 8) := if_neg z
      obtain ⟨S', b1, b2, b3⟩ := c72l hc hrow h10 hT m (i + 1) S1 (vj (w i)) (by omega) (yFl_s hf a2 (by omega)) (fun j hj => by
        by_cases y : j = i
        · subst y
          rw [ev]
          exact a3
        · exact cV_fs a2 y (hv j (by omega)))
      refine ⟨S', ?_, b2, b3⟩
      rw [if_neg z, if_neg n1, a1, YB_retv, w72_48, ep, b1]
theorem c72 {row : Int} {c : Nat} {t : Nat → Int} {w : Nat → Int64} (hc : c ≤ 8) (hrow : -1 ≤ row ∧ row < 40) (h10 : gI S0 10 = c) (hT : ∀ k, k < c → gA S0 20 k = t k ∧ (t k = 0 ∨ (t k = 1 ∧ yOkN (w k).toBitVec.toNat)) ∧ w k = if row < 0 then 0 else gB S0 7 (row * c + k).toNat) : ∃ S' : yS, Y q (d + 2) 72 0 [vr 124, vi row, vu, vu, vu] [] S0 js = yretv q S' js ∧ yFl c S0 S' ∧ ∀ j, j < c → cV S' j (yvc (t j) (w j)) := by
  rw [w72_0]
  exact c72l hc hrow h10 hT c 0 S0 vu (Nat.zero_add _) (yFl_rf _ _) (fun j hj => by omega)
end YRWL
end YRW
