/-! THE REFERENCE's MACHINE: capital letters, a part of a text -/
section YRS
section YRSL
variable {q : yQ} {d : Nat} {js : List xO} {S : yS} {n : Nat}
theorem r271u (hn : n < 128) {x0 : Int} {x2 : Int64} : ∀ (m i : Nat) (S : yS), gA S 57 n = ((i + m : Nat) : Int) → i + m ≤ 60 → (∀ k, k < i + m → 0 ≤ gA S 58 (60 * n + k) ∧ gA S 58 (60 * n + k) ≤ 127) → ∃ S' : yS, Y q (d + 2) 271 116 [vr 129, vi x0, vi n, vj x2, vu, vi ((60 * n + i : Nat) : Int)] [] S js = yretv q S' js ∧ rFs n S S' ∧ gI S' 63 = gI S 63 ∧ gA S' 57 = gA S 57 ∧ ∀ j, gA S' 58 j = if 60 * n + i ≤ j ∧ j < 60 * n + i + m then (if 97 ≤ gA S 58 j ∧ gA S 58 j ≤ 122 then gA S 58 j - 32 else gA S 58 j) else gA S 58 j
  | 0, i, S, h, hi, hb => by
    have en : yr (n : Int) = n := yr_eq (by omega) (by omega)
    have ei : yr ((60 * n + i : Nat) : Int) = ((60 * n + i : Nat) : Int) := yr_eq (by omega) (by omega)
    have es : yr (60 * (n : Int) + ((i + 0 : Nat) : Int)) = ((60 * n + i : Nat) : Int) := by rw [yr_eq] <;> omega
    rw [w271_116, en, if_pos (by omega), Int.toNat_natCast, h, ei, es, if_neg (by omega)]
    exact ⟨S, rfl, rFs_rf _ _, rfl, rfl, fun j => by rw [if_neg (by omega)]⟩
  | m + 1, i, S, h, hi, hb => by
    have en : yr (n : Int) = n := yr_eq (by omega) (by omega)
    have ei : yr ((60 * n + i : Nat) : Int) = ((60 * n + i : Nat) : Int) := yr_eq (by omega) (by omega)
    have es : yr (60 * (n : Int) + ((i + (m + 1) : Nat) : Int)) = ((60 * n + i + (m + 1) : Nat) : Int) := by rw [yr_eq] <;> omega
    have ok : 0 ≤ ((60 * n + i : Nat) : Int) ∧ ((60 * n + i : Nat) : Int) < 7680 := by omega
    obtain ⟨b1, b2⟩ := hb i (by omega)
    have ep : ((60 * n + i : Nat) : Int) + 1 = ((60 * n + (i + 1) : Nat) : Int) := by omega
    obtain ⟨y, hy⟩ : ∃ y, y = if 97 ≤ gA S 58 (60 * n + i) ∧ gA S 58 (60 * n + i) ≤ 122 then gA S 58 (60 * n + i) - 32 else gA S 58 (60 * n + i) := ⟨_, rfl⟩
    have st : Y q (d + 2) 271 116 [vr 129, vi x0, vi n, vj x2, vu, vi ((60 * n + i : Nat) : Int)] [] S js = Y q (d + 2) 271 116 [vr 129, vi x0, vi n, vj x2, vu, vi ((60 * n + (i + 1) : Nat) : Int)] [] (sA S 58 (60 * n + i) y) js := by
      have n1 : ¬ yr 1 = 0 := by decide
      rw [w271_116, en, if_pos (by omega), Int.toNat_natCast, h, ei, es, if_pos (by omega), if_pos ok, if_pos ok, Int.toNat_natCast, r193 (by omega) (by omega), YB_ret, w271_150, ei, if_pos ok, ep]
      by_cases z : 97 ≤ gA S 58 (60 * n + i) ∧ gA S 58 (60 * n + i) ≤ 122
      · have eb : yb (97 ≤ gA S 58 (60 * n + i) ∧ gA S 58 (60 * n + i) ≤ 122) = 1 := if_pos z
        rw [eb, if_neg n1, if_pos ok, Int.toNat_natCast, hy, if_pos z]
      · have eb : yb (97 ≤ gA S 58 (60 * n + i) ∧ gA S 58 (60 * n + i) ≤ 122) = 0 := if_neg z
        rw [eb, if_pos yr_0, Int.toNat_natCast, Int.sub_zero, hy, if_neg z]
    rw [st]
    have g58 : ∀ j, gA (sA S 58 (60 * n + i) y) 58 j = if j = 60 * n + i then y else gA S 58 j := fun j => gA_self S 58 _ _ j
    obtain ⟨S', a1, a2, a3, a4, a5⟩ := r271u hn (x0 := x0) (x2 := x2) m (i + 1) (sA S 58 (60 * n + i) y) (by show gA S 57 n = _; rw [h]; omega) (by omega) (fun k hk => by
      rw [g58]
      split
      · rw [hy]
        split <;> omega
      · exact hb k (by omega))
    refine ⟨S', a1, rFs_tr (rFs_58 (by omega)) a2, a3, a4, fun j => ?_⟩
    rw [a5 j, g58]
    by_cases z1 : 60 * n + (i + 1) ≤ j ∧ j < 60 * n + (i + 1) + m
    · rw [if_pos z1, if_neg (show ¬ j = 60 * n + i by omega), if_pos (show 60 * n + i ≤ j ∧ j < 60 * n + i + (m + 1) by omega)]
    · rw [if_neg z1]
      by_cases z2 : j = 60 * n + i
      · rw [if_pos z2, if_pos (by omega), hy, z2]
      · rw [if_neg z2, if_neg (by omega)]
theorem rV_upp {l : List Int} {S' : yS} (hv : rV S n (.inr l)) (h1 : gA S' 57 = gA S 57) (h2 : ∀ j, gA S' 58 j = if 60 * n + 0 ≤ j ∧ j < 60 * n + 0 + l.length then (if 97 ≤ gA S 58 j ∧ gA S 58 j ≤ 122 then gA S 58 j - 32 else gA S 58 j) else gA S 58 j) : rV S' n (.inr (yupp l)) := by
  obtain ⟨v1, v2, v3⟩ := hv
  refine ⟨?_, by unfold yupp; rw [List.length_map]; exact v2, fun i y hi => ?_⟩
  · rw [h1, v1]
    unfold yupp
    rw [List.length_map]
  · unfold yupp at hi
    rw [List.getElem?_map] at hi
    match hl : l[i]? with
    | none => rw [hl] at hi; nomatch hi
    | some c =>
      rw [hl] at hi
      have hi : some (if 97 ≤ c ∧ c ≤ 122 then c - 32 else c) = some y := hi
      have hi := Option.some.inj hi
      have hlen := (List.getElem?_eq_some_iff.mp hl).1
      obtain ⟨w1, w2, w3⟩ := v3 i c hl
      rw [h2, if_pos (by omega), w1, hi]
      refine ⟨rfl, ?_⟩
      rw [← hi]
      split <;> omega
/-- a part of a text -/
theorem r272l (hn : n < 128) {L : List Int} {f cnt : Nat} {x1 x2 x5 : Int64} {x3 : Int} (hL : L.length ≤ 60) (hb : ∀ y ∈ L, 0 ≤ y ∧ y ≤ 127) (hf : f + cnt ≤ L.length) (h5 : x5.toInt = cnt) : ∀ (k i : Nat) (S : yS), i + k = cnt → gI S 63 = ((n + 1 : Nat) : Int) → rV S n (.inr ((L.drop f).take i)) → (∀ (j : Nat) (y : Int), i ≤ j → L[j]? = some y → gA S 58 (60 * n + j) = y) → ∃ S' : yS, Y q (d + 1) 272 99 [vr 129, vi n, vj x1, vu, vj x2, vu, vi x3, vi ((60 * n + f : Nat) : Int), vj x5, vu, vi i] [] S js = yretv q S' js ∧ rPs n S S' (.inr ((L.drop f).take cnt))
  | 0, i, S, hi, hp, hv, hs => by
    have ei : (yi2l (i : Int)).toInt = i := by rw [yi2l_toInt, yr_eq (by omega) (by omega)]
    rw [w272_99]
    simp only [yr_lcmp, ylcmp_lt, Int64.lt_iff_toInt_lt, ei, h5]
    rw [if_neg (by omega)]
    have e : i = cnt := by omega
    subst e
    exact ⟨S, rfl, rFs_rf _ _, hp, hv⟩
  | k + 1, i, S, hi, hp, hv, hs => by
    have ei : (yi2l (i : Int)).toInt = i := by rw [yi2l_toInt, yr_eq (by omega) (by omega)]
    have hlt : f + i < L.length := by omega
    have ex : yr (((60 * n + f : Nat) : Int) + i) = ((60 * n + (f + i) : Nat) : Int) := by rw [yr_eq] <;> omega
    have src := hs (f + i) L[f + i] (by omega) (List.getElem?_eq_getElem hlt)
    have ll : ((L.drop f).take i).length = i := by rw [List.length_take, List.length_drop]; omega
    obtain ⟨S1, a1, a2, a3, a4, a5⟩ := r263 (q := q) (d := d) (js := js) hn hv (hb L[f + i] (List.getElem_mem hlt))
    have et : ((L.drop f).take i ++ [L[f + i]]).take 60 = (L.drop f).take (i + 1) := by
      rw [List.take_of_length_le (by rw [List.length_append, ll]; show i + 1 ≤ 60; omega), List.take_add_one, List.getElem?_drop, List.getElem?_eq_getElem hlt]
      rfl
    rw [et] at a4
    have ep : (i : Int) + 1 = ((i + 1 : Nat) : Int) := by omega
    obtain ⟨S', c1, c2, c3, c4⟩ := r272l hn hL hb hf h5 (x1 := x1) (x2 := x2) (x3 := x3) k (i + 1) S1 (by omega) (a3.trans hp) a4 (fun j y hj hy => by
      rw [a5 _ (by rw [ll]; omega)]
      exact hs j y (by omega) hy)
    refine ⟨S', ?_, rFs_tr a2 c2, c3, c4⟩
    rw [w272_99]
    simp only [yr_lcmp, ylcmp_lt, Int64.lt_iff_toInt_lt, ei, h5]
    rw [if_pos (by omega), ex, if_pos (by omega), Int.toNat_natCast, src, a1, YB_retv, w272_123, ep, c1]
theorem r272 (hn : n + 3 < 128) {L : List Int} {fj mj : Int64} (hp : gI S 63 = ((n + 3 : Nat) : Int)) (h1 : rV S n (.inr L)) (h2 : rV S (n + 1) (.inl fj)) (h3 : rV S (n + 2) (.inl mj)) : ∃ S' : yS, Y q (d + 1) 272 0 [vr 129, vu, vu, vu, vu, vu, vu, vu, vu, vu, vu] [] S js = yretv q S' js ∧ rPs n S S' (.inr (yprt L fj mj)) := by
  obtain ⟨v1, v2, v3⟩ := h1
  have e2 : ((n + 3 : Nat) : Int) - 2 = ((n + 1 : Nat) : Int) := by omega
  have e3 : ((n + 1 : Nat) : Int) + 1 = ((n + 2 : Nat) : Int) := by omega
  have e1 : ((n + 1 : Nat) : Int) - 1 = (n : Int) := by omega
  have en : yr (n : Int) = n := yr_eq (by omega) (by omega)
  have en1 : yr ((n + 1 : Nat) : Int) = ((n + 1 : Nat) : Int) := yr_eq (by omega) (by omega)
  have en2 : yr ((n + 2 : Nat) : Int) = ((n + 2 : Nat) : Int) := yr_eq (by omega) (by omega)
  have k0 : 0 ≤ (n : Int) ∧ (n : Int) < 128 := by omega
  have k1 : 0 ≤ ((n + 1 : Nat) : Int) ∧ ((n + 1 : Nat) : Int) < 128 := by omega
  have k2 : 0 ≤ ((n + 2 : Nat) : Int) ∧ ((n + 2 : Nat) : Int) < 128 := by omega
  have z0 : (0 : Int64).toInt = 0 := by decide
  have eL : (yi2l (L.length : Int)).toInt = L.length := by rw [yi2l_toInt, yr_eq (by omega) (by omega)]
  obtain ⟨S1, a1, a2, a3, a4, a5⟩ := r262 (q := q) (d := d) (js := js) (S := sI S 63 ((n + 1 : Nat) : Int)) (n := n) (by omega)
  have a3 : gI S1 63 = ((n + 1 : Nat) : Int) := a3.trans (gI_self _ _ _)
  have a4 : gA S1 58 = gA S 58 := a4
  have fr : rFs n S S1 := rFs_tr rFs_63 a2
  have none_ : fj.toInt < 0 ∨ (L.length : Int) < fj.toInt ∨ mj.toInt < 0 → rPs n S S1 (.inr (yprt L fj mj)) := by
    intro z
    have e : yprt L fj mj = [] := by
      unfold yprt
      by_cases z2 : fj.toInt < 0 ∨ mj.toInt < 0
      · rw [if_pos z2]
      · rw [if_neg z2, List.drop_eq_nil_of_le (by omega), List.take_nil]
    rw [e]
    exact ⟨fr, a3, a5⟩
  rw [w272_0, hp, e2, e3, e1, en, en1, en2, if_pos k1, if_pos k2, if_pos k0, Int.toNat_natCast, Int.toNat_natCast, Int.toNat_natCast, h2.2, h3.2, v1, a1, YB_retv, w272_53]
  simp only [yr_lcmp, ylcmp_lt, ylcmp_gt, Int64.lt_iff_toInt_lt, z0, eL]
  by_cases z1 : fj.toInt < 0
  · rw [if_pos z1]
    exact ⟨S1, rfl, none_ (Or.inl z1)⟩
  · rw [if_neg z1]
    by_cases z2 : (L.length : Int) < fj.toInt
    · rw [if_pos z2]
      exact ⟨S1, rfl, none_ (Or.inr (Or.inl z2))⟩
    · rw [if_neg z2]
      by_cases z3 : mj.toInt < 0
      · rw [if_pos z3]
        exact ⟨S1, rfl, none_ (Or.inr (Or.inr z3))⟩
      · rw [if_neg z3]
        have ef : yl2i fj = ((fj.toInt.toNat : Nat) : Int) := by
          unfold yl2i
          rw [Int64.toInt_toInt32, Int.bmod_eq_of_le (by omega) (by omega)]
          omega
        have ex : 60 * (n : Int) + ((fj.toInt.toNat : Nat) : Int) = ((60 * n + fj.toInt.toNat : Nat) : Int) := by omega
        have hs : (yi2l (L.length : Int) - fj).toInt = (L.length : Int) - fj.toInt := by
          rw [Int64.toInt_sub, eL, Int.bmod_eq_of_le (by omega) (by omega)]
        have h5 : (yminl mj (yi2l (L.length : Int) - fj)).toInt = ((min mj.toInt.toNat (L.length - fj.toInt.toNat) : Nat) : Int) := by
          unfold yminl
          by_cases z4 : yi2l (L.length : Int) - fj < mj
          · rw [if_pos z4, hs]
            have := Int64.lt_iff_toInt_lt.mp z4
            rw [hs] at this
            omega
          · rw [if_neg z4]
            have : ¬ (yi2l (L.length : Int) - fj).toInt < mj.toInt := fun h => z4 (Int64.lt_iff_toInt_lt.mpr h)
            rw [hs] at this
            omega
        obtain ⟨S', c1, c2, c3, c4⟩ := r272l (q := q) (d := d) (js := js) (n := n) (by omega) (L := L) (f := fj.toInt.toNat) (cnt := min mj.toInt.toNat (L.length - fj.toInt.toNat)) (x1 := fj) (x2 := mj) (x3 := (L.length : Int)) v2 (fun y hy => by
          obtain ⟨i, hi, he⟩ := List.getElem_of_mem hy
          exact (v3 i y (by rw [List.getElem?_eq_getElem hi, he])).2) (by omega) h5 _ 0 S1 (Nat.zero_add _) a3 (by rw [List.take_zero]; exact a5) (fun j y _ hj => by rw [a4]; exact (v3 j y hj).1)
        rw [ef, ex]
        refine ⟨S', c1, rFs_tr fr c2, c3, ?_⟩
        have e : yprt L fj mj = (L.drop fj.toInt.toNat).take (min mj.toInt.toNat (L.length - fj.toInt.toNat)) := by
          unfold yprt
          rw [if_neg (by omega)]
          by_cases z5 : mj.toInt.toNat ≤ L.length - fj.toInt.toNat
          · rw [Nat.min_eq_left z5]
          · rw [Nat.min_eq_right (by omega), List.take_of_length_le (by rw [List.length_drop]; omega), List.take_of_length_le (by rw [List.length_drop]; omega)]
        rw [e]
        exact c4
end YRSL
end YRS
