/-! A ROW of the table on the machines -/
section YRW
/-- a cell's value: its column's sort, its word -/
def yvc (t : Int) (w : Int64) : yVal := if t = 0 then .inl w else .inr (ycl w.toBitVec.toNat 8)
theorem yvc_t {t : Int} {w : Int64} : yvt (yvc t w) (decide (¬ t = 0)) := by
  unfold yvc
  by_cases z : t = 0
  · rw [if_pos z, decide_eq_false (fun h => h z)]
    rfl
  · rw [if_neg z, decide_eq_true z]
    have := ycl_len w.toBitVec.toNat 8
    exact ⟨rfl, by omega⟩
/-- slots below have changed -/
def yFl (c : Nat) (S S' : yS) : Prop := yFr yWm S S' ∧ (∀ m, c ≤ m → gA S' 30 m = gA S 30 m ∧ gB S' 9 m = gB S 9 m ∧ gA S' 31 m = gA S 31 m) ∧ ∀ j, 60 * c ≤ j → gA S' 32 j = gA S 32 j
theorem yFl_rf (c : Nat) (S : yS) : yFl c S S := ⟨yFr_rf _ _, fun _ _ => ⟨rfl, rfl, rfl⟩, fun _ _ => rfl⟩
theorem yFl_s {c n : Nat} {A B C : yS} (h1 : yFl c A B) (h2 : yFs n B C) (hn : n < c) : yFl c A C := ⟨yFr_tr h1.1 h2.1, fun m hm => ⟨(h2.2.1 m (by omega)).1.trans (h1.2.1 m hm).1, (h2.2.1 m (by omega)).2.1.trans (h1.2.1 m hm).2.1, (h2.2.1 m (by omega)).2.2.trans (h1.2.1 m hm).2.2⟩, fun j hj => (h2.2.2 j (by omega)).trans (h1.2.2 j hj)⟩
section YRWL
variable {q : yQ} {d : Nat} {js : List xO} {S S0 : yS}
theorem c134w {row : Int} {c k : Nat} (hc : c ≤ 8) (hk : k < c) (hrow : -1 ≤ row ∧ row < 40) (h10 : gI S 10 = c) : Y q d 134 0 [vr 76, vi row, vi k] [] S js = yret q (vj (if row < 0 then 0 else gB S 7 (row * c + k).toNat)) S js := by
  by_cases z : row < 0
  · rw [w134_0, if_pos (by rw [yr_eq] <;> omega), if_pos z]
  · rw [c134 (by omega) (by omega) (by omega), h10, if_neg z]
theorem c72l {row : Int} {c : Nat} {t : Nat → Int} {w : Nat → Int64} (hc : c ≤ 8) (hrow : -1 ≤ row ∧ row < 40) (h10 : gI S0 10 = c) (hT : ∀ k, k < c → gA S0 20 k = t k ∧ (t k = 0 ∨ (t k = 1 ∧ yOkN (w k).toBitVec.toNat)) ∧ w k = if row < 0 then 0 else gB S0 7 (row * c + k).toNat) : ∀ (m i : Nat) (S : yS) (x2 : yV), i + m = c → yFl c S0 S → (∀ j, j < i → cV S j (yvc (t j) (w j))) → ∃ S' : yS, Y q (d + 2) 72 2 [vr 118, vi row, vi i, x2, vu] [] S js = yretv q S' js ∧ yFl c S0 S' ∧ ∀ j, j < c → cV S' j (yvc (t j) (w j))
  | 0, i, S, x2, hi, hf, hv => by
    have ei : yr (i : Int) = i := yr_eq (by omega) (by omega)
    have ec : yr (c : Int) = c := yr_eq (by omega) (by omega)
    have s10 : gI S 10 = c := (hf.1.1 _ rfl).trans h10
    rw [w72_2, ei, s10, ec, if_neg (by omega)]
    exact ⟨S, rfl, hf, fun j hj => hv j (by omega)⟩
  | m + 1, i, S, x2, hi, hf, hv => by
    have ei : yr (i : Int) = i := yr_eq (by omega) (by omega)
    have ec : yr (c : Int) = c := yr_eq (by omega) (by omega)
    have e8 : yr 8 = 8 := rfl
    have s10 : gI S 10 = c := (hf.1.1 _ rfl).trans h10
    have s7 : gB S 7 = gB S0 7 := hf.1.2.2.2.2.1 _ rfl
    have s20 : gA S 20 = gA S0 20 := hf.1.2.2.2.1 _ rfl
    obtain ⟨t1, t2, t3⟩ := hT i (by omega)
    have hw : (if row < 0 then 0 else gB S 7 (row * c + i).toNat) = w i := by rw [s7]; exact t3.symm
    have ep : (i : Int) + 1 = ((i + 1 : Nat) : Int) := by omega
    have e0i : 0 + (i : Int) = i := by omega
    have n1 : ¬ yr 1 = 0 := by decide
    have st : Y q (d + 2) 72 2 [vr 118, vi row, vi i, x2, vu] [] S js = Y q (d + 2) 72 37 [vr 118, vi row, vi i, vj (w i), vu] [vi (if t i = 0 then 0 else 1)] S js := by
      have et : (if yr (gA S 20 i) = 0 then (0 : Int) else 1) = if t i = 0 then 0 else 1 := by
        rw [s20, t1]
        rcases t2 with h | h
        · rw [h, if_pos yr_0, if_pos rfl]
        · rw [h.1, if_neg n1, if_neg (by decide)]
      rw [w72_2, ei, s10, ec, if_pos (by omega), e8, if_pos (by omega), c134w hc (by omega) hrow s10, YB_ret, hw, w72_28, c133 (by omega) (by omega), YB_ret, et]
    rw [st, w72_37, e0i]
    by_cases z : t i = 0
    · obtain ⟨S1, a1, a2, a3⟩ := c71 (q := q) (d := d + 1) (js := js) (S := S) (n := i) (x := w i) (by omega)
      have ev : yvc (t i) (w i) = .inl (w i) := if_pos z
      obtain ⟨S', b1, b2, b3⟩ := c72l hc hrow h10 hT m (i + 1) S1 (vj (w i)) (by omega) (yFl_s hf a2 (by omega)) (fun j hj => by
        by_cases y : j = i
        · subst y
          rw [ev]
          exact a3
        · exact cV_fs a2 y (hv j (by omega)))
      refine ⟨S', ?_, b2, b3⟩
      rw [if_pos z, if_pos yr_0, a1, YB_retv, w72_59, ep, b1]
    · have hok : yOkN (w i).toBitVec.toNat := by
        rcases t2 with h | h
        · exact absurd h z
        · exact h.2
      obtain ⟨S1, a1, a2, a3⟩ := c73 (q := q) (d := d) (js := js) (S := S) (n := i) (by omega) hok
      have ev : yvc (t i) (w i) = .inr (ycl (w i).toBitVec.toNat 8) := if_neg z
      obtain ⟨S', b1, b2, b3⟩ := c72l hc hrow h10 hT m (i + 1) S1 (vj (w i)) (by omega) (yFl_s hf a2 (by omega)) (fun j hj => by
        by_cases y : j = i
        · subst y
          rw [ev]
          exact a3
        · exact cV_fs a2 y (hv j (by omega)))
      refine ⟨S', ?_, b2, b3⟩
      rw [if_neg z, if_neg n1, a1, YB_retv, w72_48, ep, b1]
theorem c72 {row : Int} {c : Nat} {t : Nat → Int} {w : Nat → Int64} (hc : c ≤ 8) (hrow : -1 ≤ row ∧ row < 40) (h10 : gI S0 10 = c) (hT : ∀ k, k < c → gA S0 20 k = t k ∧ (t k = 0 ∨ (t k = 1 ∧ yOkN (w k).toBitVec.toNat)) ∧ w k = if row < 0 then 0 else gB S0 7 (row * c + k).toNat) : ∃ S' : yS, Y q (d + 2) 72 0 [vr 118, vi row, vu, vu, vu] [] S0 js = yretv q S' js ∧ yFl c S0 S' ∧ ∀ j, j < c → cV S' j (yvc (t j) (w j)) := by
  rw [w72_0]
  exact c72l hc hrow h10 hT c 0 S0 vu (Nat.zero_add _) (yFl_rf _ _) (fun j hj => by omega)
/-- the reference's cell -/
theorem r264 {row : Int} {c : Nat} {t : Nat → Int} {w : Nat → Int64} {e : yEnv} {A : Nat → Nat → Prop} (hc : c ≤ 8) (hrow : -1 ≤ row ∧ row < 40) (h41 : gI S0 41 = c) (h64 : gI S0 64 = row) (hA : ∀ k, A 2 k → k < c) (he : ∀ k, k < c → e 2 k = yvc (t k) (w k)) (hT : ∀ k, k < c → gA S0 38 k = t k ∧ (t k = 0 ∨ (t k = 1 ∧ yOkN (w k).toBitVec.toNat)) ∧ w k = if row < 0 then 0 else gB S0 12 (row * c + k).toNat) : rCl q d js S0 A e := by
  intro k hk8 hAk S n hf hp hn
  have hkc := hA k hAk
  obtain ⟨t1, t2, t3⟩ := hT k hkc
  have s41 : gI S 41 = c := (hf.1 _ rfl).trans h41
  have s64 : gI S 64 = row := (hf.1 _ rfl).trans h64
  have s38 : gA S 38 k = t k := by rw [hf.2.2.2.1 _ rfl]; exact t1
  have s12 : gB S 12 = gB S0 12 := hf.2.2.2.2.1 _ rfl
  have er : yr row = row := yr_eq (by omega) (by omega)
  have em : yr (-1) = -1 := rfl
  have ek : yr (k : Int) = k := yr_eq (by omega) (by omega)
  have k1 : 0 ≤ (k : Int) ∧ (k : Int) < 8 := by omega
  have n1 : ¬ yr 1 = 0 := by decide
  rw [he k hkc]
  -- with its word
  have fin : ∃ S' : yS, (if yr (t k) = 0 then YB q (Y q d 260 0 [vr 129, vj (w k), vu] [] S js) (d + 1) 264 33 [vr 129, vi k, vj (w k), vu, vu] [] else YB q (Y q d 262 0 [vr 129, vi (n : Int)] [] S js) (d + 1) 264 42 [vr 129, vi k, vj (w k), vu, vu] []) = yretv q S' js ∧ rPs n S S' (yvc (t k) (w k)) := by
    rcases t2 with z | ⟨z, hok⟩
    · have ev : yvc (t k) (w k) = .inl (w k) := if_pos z
      obtain ⟨S', a1, a2⟩ := r260 (q := q) (d := d) (js := js) (x := w k) (show n < 128 by omega) hp
      rw [z, if_pos yr_0, a1, YB_retv, w264_36]
      rw [z] at ev
      rw [ev]
      exact ⟨S', rfl, a2⟩
    · have ev : yvc (t k) (w k) = .inr (ycl (w k).toBitVec.toNat 8) := if_neg (by omega)
      obtain ⟨S1, a1, a2, a3, a4, a5⟩ := r262 (q := q) (d := d) (js := js) (S := S) (n := n) (by omega)
      obtain ⟨S', b1, b2, b3, b4⟩ := r264l (q := q) (d := d) (js := js) (n := n) (by omega) (x0 := (k : Int)) hok 8 [] S1 (by omega) (a3.trans hp) a5 (by show 0 + 8 ≤ 60; omega)
      rw [z, if_neg n1, a1, YB_retv, w264_45]
      rw [z] at ev
      rw [ev]
      exact ⟨S', b1, rFs_tr a2 b2, b3, b4⟩
  by_cases z : row < 0
  · have hw : w k = 0 := by rw [t3, if_pos z]
    rw [w264_0, s64, er, em, if_pos (by omega), ek, if_pos k1, Int.toNat_natCast, s38, hp, ← hw]
    exact fin
  · rw [if_neg z] at t3
    have rng := cell_rng (x := row) (y := (k : Int)) (c := (c : Int)) (by omega) (by omega) (by omega)
    have ex : yr (((c : Int) * row) + k) = row * c + k := by rw [Int.mul_comm, yr_eq] <;> omega
    rw [w264_0, s64, er, em, if_neg (by omega), w204_0, s41, ex, if_pos (by omega), YB_ret, s12, ← t3, w264_21, ek, if_pos k1, Int.toNat_natCast, s38, hp]
    exact fin
end YRWL
end YRW
