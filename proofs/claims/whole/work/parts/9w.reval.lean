/-! THE REFERENCE EVALUATES: its pieces -/
section YRV
def yWu (s k : Nat) : Bool := yWq 1 s k || yWv 1 s k || yWp s k || (s == 0 && (k == 39 || k == 40 || k == 44 || k == 45 || k == 46 || k == 47 || k == 50 || k == 59 || k == 62 || k == 64 || k == 65)) || (s == 1 && k == 2) || (s == 3 && k == 56)
theorem yWu_q {S S' : yS} (h : yFr (yWq 1) S S') : yFr yWu S S' := yFr_mo h fun s k e => by
  unfold yWu at e
  simp only [Bool.or_eq_false_iff] at e
  exact e.1.1.1.1.1
theorem yWu_v {S S' : yS} (h : yFr (yWv 1) S S') : yFr yWu S S' := yFr_mo h fun s k e => by
  unfold yWu at e
  simp only [Bool.or_eq_false_iff] at e
  exact e.1.1.1.1.2
theorem yWu_p {S S' : yS} (h : yFr yWp S S') : yFr yWu S S' := yFr_mo h fun s k e => by
  unfold yWu at e
  simp only [Bool.or_eq_false_iff] at e
  exact e.1.1.1.2
theorem xsum_s (js : List xO) (a b : Int32) : xsum (js ++ [ystp a b]) ≤ xsum js + 120 ∧ (js ++ [ystp a b]).length ≤ js.length + 12 := by
  refine ⟨?_, by rw [List.length_append, List.length_singleton]; omega⟩
  rw [xsum_app]
  have : xsum [ystp a b] ≤ 120 := by simp [xsum, xsz, ystp]
  omega
section YRVL
variable {q : yQ} {d : Nat} {js : List xO} {S : yS} {T : yTk} {N t : Nat}
theorem r225n (hT : rT S T N) (ht : t < N) (hN : N ≤ 2001) (h44 : gI S 44 = t) (hk : (T t).1 < 67) (h65 : (T t).1 ≠ 65) : Y q (d + 2) 225 0 [vr 129, vi 203] [] S js = ythr q (ystp 1 (Int32.ofInt ((T t).2.1 : Nat))) S js := by
  obtain ⟨h1, h2, _⟩ := hT t ht
  have hr := ykR_rng hk
  have e44 : yr (t : Int) = t := yr_eq (by omega) (by omega)
  have hne : ¬ gA S 39 (gI S 44).toNat = 203 := by
    rw [h44, Int.toNat_natCast, h1]
    intro h
    exact h65 ((ykR_inj _ hk 65 (by omega)).mp h)
  have e : yb (gA S 39 (gI S 44).toNat = 203) = 0 := if_neg hne
  rw [w225_0, r221 (by omega) (by omega) (by rw [h44, Int.toNat_natCast, h1]; omega), YB_ret, w225_5, e, if_pos yr_0, c218 q d js S (by rw [h44, e44]; omega), YB_ret, a225_12, h44, e44, Int.toNat_natCast, h2]
theorem r225y (hT : rT S T N) (ht : t < N) (hN : N ≤ 2001) (h44 : gI S 44 = t) (h47 : gI S 47 = -1) (h65 : (T t).1 = 65) : Y q (d + 2) 225 0 [vr 129, vi 203] [] S js = yretv q (sI S 44 ((t : Int) + 1)) js := by
  obtain ⟨h1, h2, _⟩ := hT t ht
  have hr := ykR_rng (a := 65) (by omega)
  have he : gA S 39 (gI S 44).toNat = 203 := by
    rw [h44, Int.toNat_natCast, h1, h65]
    rfl
  have e : yb (gA S 39 (gI S 44).toNat = 203) = 1 := if_pos he
  have n1 : ¬ yr 1 = 0 := by decide
  rw [w225_0, r221 (by omega) (by omega) (by rw [he]; omega), YB_ret, w225_5, e, if_neg n1, r217 (Or.inl h47) (by omega), h47, if_neg (by omega), h44, YB_retv, w225_17]
/-- what was thrown is told -/
theorem r257c {row : Int} {a b : Int32} : Y q d 257 184 [vr 129, vi row, vi 0, vu] [vr (179 + js.length)] S (js ++ [ystp a b]) = yret q (vi a.toInt) (sI (sI S 59 b.toInt) 40 0) (js ++ [ystp a b]) := by
  have n8 : ¬ yr 0 = yr 8 := by decide
  rw [w257_184, if_neg n8, j257_192, w257_195, j257_198, w257_201]
theorem r257d {row : Int} {a b : Int32} : Y q d 257 184 [vr 129, vi row, vi 8, vu] [vr (179 + js.length)] S (js ++ [ystp a b]) = yret q (vi 8) (sI S 40 0) (js ++ [ystp a b]) := by
  rw [w257_184, if_pos rfl]
/-- a text that was reckoned is kept -/
theorem r257l {row x1 : Int} : ∀ (m i : Nat) (S : yS), gI S 62 = ((i + m : Nat) : Int) → i + m ≤ 60 → ∃ S' : yS, Y q d 257 155 [vr 129, vi row, vi x1, vi i] [] S js = yret q (vi x1) S' js ∧ yFr yWu S S' ∧ gI S' 40 = 0 ∧ gI S' 59 = gI S 59 ∧ gI S' 39 = gI S 39 ∧ gI S' 62 = gI S 62 ∧ gJ S' 2 = gJ S 2 ∧ (∀ j, j < i → gA S' 56 j = gA S 56 j) ∧ ∀ j, i ≤ j → j < i + m → gA S' 56 j = gA S 58 j
  | 0, i, S, h, hi => by
    have ei : yr (i : Int) = i := yr_eq (by omega) (by omega)
    have ez : yr ((i + 0 : Nat) : Int) = i := yr_eq (by omega) (by omega)
    rw [w257_155, h, ei, ez, if_neg (by omega)]
    exact ⟨_, rfl, yFr_I rfl, gI_self _ _ _, rfl, rfl, h, rfl, fun _ _ => rfl, fun j a b => by omega⟩
  | m + 1, i, S, h, hi => by
    have ei : yr (i : Int) = i := yr_eq (by omega) (by omega)
    have ez : yr ((i + (m + 1) : Nat) : Int) = ((i + (m + 1) : Nat) : Int) := yr_eq (by omega) (by omega)
    have ep : (i : Int) + 1 = ((i + 1 : Nat) : Int) := by omega
    have k1 : 0 ≤ (i : Int) ∧ (i : Int) < 7680 := by omega
    have k2 : 0 ≤ (i : Int) ∧ (i : Int) < 60 := by omega
    obtain ⟨S', a1, a2, a3, a4, a5, a6, a7, a8, a9⟩ := r257l m (i + 1) (sA S 56 i (gA S 58 i)) (by show gI S 62 = _; rw [h]; omega) (by omega)
    refine ⟨S', ?_, yFr_tr (yFr_A rfl) a2, a3, a4, a5, a6, a7, fun j hj => ?_, fun j h1 h2 => ?_⟩
    · rw [w257_155, h, ei, ez, if_pos (by omega), if_pos k1, if_pos k2, Int.toNat_natCast, ep, a1]
    · rw [a8 j (by omega), gA_self, if_neg (by omega)]
    · by_cases z : j = i
      · rw [a8 j (by omega), gA_self, if_pos z, z]
      · exact a9 j (by omega) (by omega)
end YRVL
end YRV
