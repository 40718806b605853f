/-! taken from whole by wip/p27/slice2.py: 69.text.lean.txt -/
section YTX
section YTXL
variable {q : yQ} {d : Nat} {js : List xO}
theorem l21 {p n : Nat} {x1 : Int64} (hp : p ≤ 10000) (hx : 0 ≤ x1.toInt ∧ x1.toInt ≤ 2000) (hn : n < 1000) (f : Nat) : ∀ (pos i : Nat) (S : yS), (i : Int) + f = x1.toInt → pos ≤ 2000 → gI S 2 = n → 0 ≤ gI S 12 ∧ gI S 12 ≤ 2000 → ∃ S' : yS, Y q (d + 1) 21 29 [vr 107, vr 86, vi p, vj x1, vu, vi n, vi pos, vi i] [] S js = yret q (vi n) S' js ∧ (∀ k, k ≠ 2 → gI S' k = gI S k) ∧ gI S' 2 = n + 1 ∧ (∀ k, k ≠ 2 → k ≠ 4 → gA S' k = gA S k) ∧ gB S' = gB S ∧ gC S' = gC S ∧ gK S' = gK S ∧ gJ S' = gJ S ∧ (∀ j, gA S' 4 j = if j = n + 1 then ((min 2000 (pos + f) : Nat) : Int) else gA S 4 j) ∧ ∀ j, gA S' 2 j = if pos ≤ j ∧ j < min 2000 (pos + f) then yi2b (yi2b (tbl S ((p + (i + (j - pos)) : Nat) : Int))) else gA S 2 j := by
  have e2 : yr 2000 = 2000 := rfl
  have fin : ∀ (pos i : Nat) (S : yS), pos ≤ 2000 → gI S 2 = n → ∀ f, min 2000 (pos + f) = pos → (if 0 ≤ yr ((gI S 2) + 1) ∧ yr ((gI S 2) + 1) < 1001 then yret q (vi n) (sA (sI S 2 ((gI S 2) + 1)) 4 ((yr ((gI S 2) + 1)).toNat) pos) js else Y q (d + 1) 21 92 [vr 107, vr 86, vi p, vj x1, vu, vi n, vi pos, vi i] [vi pos, vi ((gI S 2) + 1), vr 109] (sI S 2 ((gI S 2) + 1)) js) = yret q (vi n) (sA (sI S 2 (n + 1)) 4 (n + 1) pos) js ∧ ∀ j, gA (sA (sI S 2 (n + 1)) 4 (n + 1) pos) 2 j = if pos ≤ j ∧ j < min 2000 (pos + f) then yi2b (yi2b (tbl S ((p + (i + (j - pos)) : Nat) : Int))) else gA S 2 j := by
    intro pos i S hpos hg f hf
    have e : yr (gI S 2 + 1) = ((n + 1 : Nat) : Int) := by rw [hg, yr_eq] <;> omega
    rw [e, if_pos (by omega), Int.toNat_natCast, hg]
    refine ⟨rfl, fun j => ?_⟩
    rw [if_neg (by omega)]
    rfl
  have fin2 : ∀ (pos : Nat) (S : yS) (j : Nat), gA (sA (sI S 2 ((n : Int) + 1)) 4 (n + 1) pos) 4 j = if j = n + 1 then (pos : Int) else gA S 4 j := fun pos S j => gA_self (sI S 2 ((n : Int) + 1)) 4 (n + 1) pos j
  induction f with
  | zero =>
    intro pos i S hi hpos hg h12
    have ei : yr (i : Int) = i := yr_eq (by omega) (by omega)
    have hlt : ¬ (yi2l (i : Int) < x1) := by
      rw [Int64.lt_iff_toInt_lt, yi2l_toInt, ei]
      omega
    obtain ⟨g1, g2⟩ := fin pos i S hpos hg 0 (by omega)
    refine ⟨sA (sI S 2 ((n : Int) + 1)) 4 (n + 1) pos, ?_, fun k hk => gI_ne S 2 _ hk, gI_self S 2 _, fun k h1 h2 => gA_ne (sI S 2 ((n : Int) + 1)) 4 _ _ h2, rfl, rfl, rfl, rfl, fun j => ?_, g2⟩
    · rw [w21_29, yr_lcmp, if_neg (fun v => hlt ((ylcmp_lt _ _).mp v))]
      exact g1
    · rw [fin2, show min 2000 (pos + 0) = pos by omega]
  | succ f ih =>
    intro pos i S hi hpos hg h12
    have ei : yr (i : Int) = i := yr_eq (by omega) (by omega)
    have eP : yr (pos : Int) = pos := yr_eq (by omega) (by omega)
    have hlt : yi2l (i : Int) < x1 := by
      rw [Int64.lt_iff_toInt_lt, yi2l_toInt, ei]
      omega
    by_cases z : pos < 2000
    · have hc := c143 (q := q) (d := d) (js := js) (S := S) (x := (p : Int) + i) (by omega) (by omega) h12
      obtain ⟨S', a1, a2, a3, a4, a5, a6, a7, a8, a9, a10⟩ := ih (pos + 1) (i + 1) (sA S 2 pos (yi2b (yi2b (tbl S ((p : Int) + i))))) (by omega) (by omega) hg h12
      refine ⟨S', ?_, fun k hk => a2 k hk, a3, fun k h1 h2 => (a4 k h1 h2).trans (gA_ne S 2 _ _ h1), a5, a6, a7, a8, fun j => ?_, fun j => ?_⟩
      · rw [w21_29, yr_lcmp, if_pos ((ylcmp_lt _ _).mpr hlt), eP, e2, if_pos (by omega), hc, YB_ret, w21_61, eP, if_pos (by omega), Int.toNat_natCast]
        exact a1
      · rw [a9, show pos + 1 + f = pos + (f + 1) by omega]
        rfl
      · rw [a10, show pos + 1 + f = pos + (f + 1) by omega]
        have hs : gA (sA S 2 pos (yi2b (yi2b (tbl S ((p : Int) + i))))) 2 j = if j = pos then yi2b (yi2b (tbl S ((p : Int) + i))) else gA S 2 j := gA_self S 2 pos _ j
        have ht : ∀ y, tbl (sA S 2 pos (yi2b (yi2b (tbl S ((p : Int) + i))))) y = tbl S y := fun y => rfl
        rw [hs, ht]
        by_cases c : j = pos
        · subst c
          rw [if_neg (by omega), if_pos rfl, if_pos (by omega), Nat.sub_self]
          rfl
        · by_cases c2 : pos + 1 ≤ j ∧ j < min 2000 (pos + (f + 1))
          · rw [if_pos c2, if_pos (by omega), show i + 1 + (j - (pos + 1)) = i + (j - pos) by omega]
          · rw [if_neg c2, if_neg c, if_neg (by omega)]
    · obtain ⟨g1, g2⟩ := fin pos i S hpos hg (f + 1) (by omega)
      refine ⟨sA (sI S 2 ((n : Int) + 1)) 4 (n + 1) pos, ?_, fun k hk => gI_ne S 2 _ hk, gI_self S 2 _, fun k h1 h2 => gA_ne (sI S 2 ((n : Int) + 1)) 4 _ _ h2, rfl, rfl, rfl, rfl, fun j => ?_, g2⟩
      · rw [w21_29, yr_lcmp, if_pos ((ylcmp_lt _ _).mpr hlt), eP, e2, if_neg (by omega)]
        exact g1
      · rw [fin2, show min 2000 (pos + (f + 1)) = pos by omega]
theorem l21x {p n : Nat} {x1 : Int64} (hp : p ≤ 10000) (hx : 0 ≤ x1.toInt ∧ x1.toInt ≤ 2000) (hn : n < 1000) (f : Nat) : ∀ (pos i : Nat) (S : yS), (i : Int) + f = x1.toInt → pos ≤ 2000 → gI S 3 = n → 0 ≤ gI S 12 ∧ gI S 12 ≤ 2000 → ∃ S' : yS, Y q (d + 1) 21 29 [vr 117, vr 86, vi p, vj x1, vu, vi n, vi pos, vi i] [] S js = yret q (vi n) S' js ∧ (∀ k, k ≠ 3 → gI S' k = gI S k) ∧ gI S' 3 = n + 1 ∧ (∀ k, k ≠ 3 → k ≠ 5 → gA S' k = gA S k) ∧ gB S' = gB S ∧ gC S' = gC S ∧ gK S' = gK S ∧ gJ S' = gJ S ∧ (∀ j, gA S' 5 j = if j = n + 1 then ((min 2000 (pos + f) : Nat) : Int) else gA S 5 j) ∧ ∀ j, gA S' 3 j = if pos ≤ j ∧ j < min 2000 (pos + f) then yi2b (yi2b (tbl S ((p + (i + (j - pos)) : Nat) : Int))) else gA S 3 j := by
  have e2 : yr 2000 = 2000 := rfl
  have fin : ∀ (pos i : Nat) (S : yS), pos ≤ 2000 → gI S 3 = n → ∀ f, min 2000 (pos + f) = pos → (if 0 ≤ yr ((gI S 3) + 1) ∧ yr ((gI S 3) + 1) < 1001 then yret q (vi n) (sA (sI S 3 ((gI S 3) + 1)) 5 ((yr ((gI S 3) + 1)).toNat) pos) js else Y q (d + 1) 21 92 [vr 117, vr 86, vi p, vj x1, vu, vi n, vi pos, vi i] [vi pos, vi ((gI S 3) + 1), vr 119] (sI S 3 ((gI S 3) + 1)) js) = yret q (vi n) (sA (sI S 3 (n + 1)) 5 (n + 1) pos) js ∧ ∀ j, gA (sA (sI S 3 (n + 1)) 5 (n + 1) pos) 3 j = if pos ≤ j ∧ j < min 2000 (pos + f) then yi2b (yi2b (tbl S ((p + (i + (j - pos)) : Nat) : Int))) else gA S 3 j := by
    intro pos i S hpos hg f hf
    have e : yr (gI S 3 + 1) = ((n + 1 : Nat) : Int) := by rw [hg, yr_eq] <;> omega
    rw [e, if_pos (by omega), Int.toNat_natCast, hg]
    refine ⟨rfl, fun j => ?_⟩
    rw [if_neg (by omega)]
    rfl
  have fin2 : ∀ (pos : Nat) (S : yS) (j : Nat), gA (sA (sI S 3 ((n : Int) + 1)) 5 (n + 1) pos) 5 j = if j = n + 1 then (pos : Int) else gA S 5 j := fun pos S j => gA_self (sI S 3 ((n : Int) + 1)) 5 (n + 1) pos j
  induction f with
  | zero =>
    intro pos i S hi hpos hg h12
    have ei : yr (i : Int) = i := yr_eq (by omega) (by omega)
    have hlt : ¬ (yi2l (i : Int) < x1) := by
      rw [Int64.lt_iff_toInt_lt, yi2l_toInt, ei]
      omega
    obtain ⟨g1, g2⟩ := fin pos i S hpos hg 0 (by omega)
    refine ⟨sA (sI S 3 ((n : Int) + 1)) 5 (n + 1) pos, ?_, fun k hk => gI_ne S 3 _ hk, gI_self S 3 _, fun k h1 h2 => gA_ne (sI S 3 ((n : Int) + 1)) 5 _ _ h2, rfl, rfl, rfl, rfl, fun j => ?_, g2⟩
    · rw [w21b_29, yr_lcmp, if_neg (fun v => hlt ((ylcmp_lt _ _).mp v))]
      exact g1
    · rw [fin2, show min 2000 (pos + 0) = pos by omega]
  | succ f ih =>
    intro pos i S hi hpos hg h12
    have ei : yr (i : Int) = i := yr_eq (by omega) (by omega)
    have eP : yr (pos : Int) = pos := yr_eq (by omega) (by omega)
    have hlt : yi2l (i : Int) < x1 := by
      rw [Int64.lt_iff_toInt_lt, yi2l_toInt, ei]
      omega
    by_cases z : pos < 2000
    · have hc := c143 (q := q) (d := d) (js := js) (S := S) (x := (p : Int) + i) (by omega) (by omega) h12
      obtain ⟨S', a1, a2, a3, a4, a5, a6, a7, a8, a9, a10⟩ := ih (pos + 1) (i + 1) (sA S 3 pos (yi2b (yi2b (tbl S ((p : Int) + i))))) (by omega) (by omega) hg h12
      refine ⟨S', ?_, fun k hk => a2 k hk, a3, fun k h1 h2 => (a4 k h1 h2).trans (gA_ne S 3 _ _ h1), a5, a6, a7, a8, fun j => ?_, fun j => ?_⟩
      · rw [w21b_29, yr_lcmp, if_pos ((ylcmp_lt _ _).mpr hlt), eP, e2, if_pos (by omega), hc, YB_ret, w21b_61, eP, if_pos (by omega), Int.toNat_natCast]
        exact a1
      · rw [a9, show pos + 1 + f = pos + (f + 1) by omega]
        rfl
      · rw [a10, show pos + 1 + f = pos + (f + 1) by omega]
        have hs : gA (sA S 3 pos (yi2b (yi2b (tbl S ((p : Int) + i))))) 3 j = if j = pos then yi2b (yi2b (tbl S ((p : Int) + i))) else gA S 3 j := gA_self S 3 pos _ j
        have ht : ∀ y, tbl (sA S 3 pos (yi2b (yi2b (tbl S ((p : Int) + i))))) y = tbl S y := fun y => rfl
        rw [hs, ht]
        by_cases c : j = pos
        · subst c
          rw [if_neg (by omega), if_pos rfl, if_pos (by omega), Nat.sub_self]
          rfl
        · by_cases c2 : pos + 1 ≤ j ∧ j < min 2000 (pos + (f + 1))
          · rw [if_pos c2, if_pos (by omega), show i + 1 + (j - (pos + 1)) = i + (j - pos) by omega]
          · rw [if_neg c2, if_neg c, if_neg (by omega)]
    · obtain ⟨g1, g2⟩ := fin pos i S hpos hg (f + 1) (by omega)
      refine ⟨sA (sI S 3 ((n : Int) + 1)) 5 (n + 1) pos, ?_, fun k hk => gI_ne S 3 _ hk, gI_self S 3 _, fun k h1 h2 => gA_ne (sI S 3 ((n : Int) + 1)) 5 _ _ h2, rfl, rfl, rfl, rfl, fun j => ?_, g2⟩
      · rw [w21b_29, yr_lcmp, if_pos ((ylcmp_lt _ _).mpr hlt), eP, e2, if_neg (by omega)]
        exact g1
      · rw [fin2, show min 2000 (pos + (f + 1)) = pos by omega]
end YTXL
end YTX
