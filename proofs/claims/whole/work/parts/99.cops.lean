/-! THE CLASS's MACHINE: texts -/
section YCO
section YCOL
variable {q : yQ} {d : Nat} {js : List xO} {S : yS} {n : Nat}
theorem c69b {op : Nat} {a b : Int64} (h : op = 25 ∨ op = 26 ∨ op = 27) : Y q d 69 0 [vi op, vj a, vu, vj b, vu] [] S js = yret q (vj (ycal op a b)) S js := by
  have e : yr (op : Int) = op := yr_eq (by omega) (by omega)
  rw [w69_0, e]
  simp only [yr_lcmp, ylcmp_eq, ylcmp_lt, ylcmp_gt]
  unfold ycal
  have hc : (op : Int) = 25 ∨ (op : Int) = 26 ∨ (op : Int) = 27 := by omega
  generalize (op : Int) = o at hc e ⊢
  rcases hc with rfl | rfl | rfl
  all_goals simp only [Int.reduceEq, if_true, if_false]
  all_goals repeat' split
  all_goals first | rfl | contradiction
/-- two texts are compared -/
theorem c85l (hn : n + 1 < 92) {L R : List Int} (h1 : cV S n (.inr L)) (h2 : cV S (n + 1) (.inr R)) : ∀ (l r : List Int) (i : Nat) (x3 : yV), (∀ j, l[j]? = L[i + j]?) → (∀ j, r[j]? = R[i + j]?) → i + l.length = L.length → i + r.length = R.length → Y q d 85 2 [vr 118, vi n, vi ((n + 1 : Nat) : Int), vi i, x3] [] S js = yret q (vi (ycmT l r)) S js := by
  obtain ⟨v1, v2, v3, v4⟩ := h1
  obtain ⟨u1, u2, u3, u4⟩ := h2
  have en : yr (n : Int) = n := yr_eq (by omega) (by omega)
  have en1 : yr ((n + 1 : Nat) : Int) = ((n + 1 : Nat) : Int) := yr_eq (by omega) (by omega)
  have eL : yr (L.length : Int) = L.length := yr_eq (by omega) (by omega)
  have eR : yr (R.length : Int) = R.length := yr_eq (by omega) (by omega)
  have k1 : 0 ≤ (n : Int) ∧ (n : Int) < 92 := by omega
  have k2 : 0 ≤ ((n + 1 : Nat) : Int) ∧ ((n + 1 : Nat) : Int) < 92 := by omega
  intro l
  induction l with
  | nil =>
    intro r i x3 hl hr hl2 hr2
    have hl2 : i + 0 = L.length := hl2
    have ei : yr (i : Int) = i := yr_eq (by omega) (by omega)
    rw [w85_2, en, en1, if_pos k1, Int.toNat_natCast, v2, eL, ei, if_neg (by omega), if_pos k1, if_pos k2, Int.toNat_natCast, u2]
    show yret q (vi ((L.length : Int) - R.length)) S js = yret q (vi (((0 : Nat) : Int) - r.length)) S js
    rw [show (L.length : Int) - R.length = ((0 : Nat) : Int) - r.length by omega]
  | cons a l ih =>
    intro r i x3 hl hr hl2 hr2
    have hl2 : i + (l.length + 1) = L.length := hl2
    have ei : yr (i : Int) = i := yr_eq (by omega) (by omega)
    match r, hr, hr2 with
    | [], hr, hr2 =>
      have hr2 : i + 0 = R.length := hr2
      rw [w85_2, en, en1, if_pos k1, Int.toNat_natCast, v2, eL, ei, if_pos (by omega), if_pos k2, Int.toNat_natCast, u2, eR, if_neg (by omega), if_pos k1, if_pos k2]
      show yret q (vi ((L.length : Int) - R.length)) S js = yret q (vi (((l.length + 1 : Nat) : Int) - ((0 : Nat) : Int))) S js
      rw [show (L.length : Int) - R.length = ((l.length + 1 : Nat) : Int) - ((0 : Nat) : Int) by omega]
    | b :: r, hr, hr2 =>
      have hr2 : i + (r.length + 1) = R.length := hr2
      have ex : yr ((n : Int) * 60 + i) = ((60 * n + i : Nat) : Int) := by rw [yr_eq] <;> omega
      have ey : yr (((n + 1 : Nat) : Int) * 60 + i) = ((60 * (n + 1) + i : Nat) : Int) := by rw [yr_eq] <;> omega
      obtain ⟨a1, a2, a3⟩ := v4 i a (by have := hl 0; rw [Nat.add_zero] at this; rw [← this]; rfl)
      obtain ⟨b1, b2, b3⟩ := u4 i b (by have := hr 0; rw [Nat.add_zero] at this; rw [← this]; rfl)
      have eab : yr (a - b) = a - b := yr_eq (by omega) (by omega)
      rw [w85_2, en, en1, if_pos k1, Int.toNat_natCast, v2, eL, ei, if_pos (by omega), if_pos k2, Int.toNat_natCast, u2, eR, if_pos (by omega), ex, ey, if_pos (by omega), if_pos (by omega), Int.toNat_natCast, Int.toNat_natCast, a1, b1, eab]
      show _ = yret q (vi (if a = b then ycmT l r else a - b)) S js
      by_cases z : a = b
      · rw [if_pos (by omega), if_pos z]
        have ep : (i : Int) + 1 = ((i + 1 : Nat) : Int) := by omega
        rw [ep]
        exact ih r (i + 1) _ (fun j => by have := hl (j + 1); rw [show i + 1 + j = i + (j + 1) by omega, ← this]; rfl) (fun j => by have := hr (j + 1); rw [show i + 1 + j = i + (j + 1) by omega, ← this]; rfl) (by omega) (by omega)
      · rw [if_neg (by omega), if_neg z]
theorem c85 (hn : n + 1 < 92) {L R : List Int} (h1 : cV S n (.inr L)) (h2 : cV S (n + 1) (.inr R)) : Y q d 85 0 [vr 118, vi n, vi ((n + 1 : Nat) : Int), vu, vu] [] S js = yret q (vi (ycmT L R)) S js := by
  rw [w85_0]
  exact c85l hn h1 h2 L R 0 vu (fun j => by rw [Nat.zero_add]) (fun j => by rw [Nat.zero_add]) (Nat.zero_add _) (Nat.zero_add _)
/-- capital letters -/
theorem c81l (hn : n < 92) : ∀ (m i : Nat) (S : yS), gA S 31 n = ((i + m : Nat) : Int) → i + m ≤ 60 → (∀ k, k < i + m → 0 ≤ gA S 32 (60 * n + k) ∧ gA S 32 (60 * n + k) ≤ 127) → ∃ S' : yS, Y q d 81 7 [vr 118, vi n, vi ((60 * n : Nat) : Int), vi ((60 * n + i : Nat) : Int)] [] S js = yretv q S' js ∧ yFs n S S' ∧ gA S' 30 = gA S 30 ∧ gA S' 31 = gA S 31 ∧ ∀ j, gA S' 32 j = if 60 * n + i ≤ j ∧ j < 60 * n + i + m then (if 97 ≤ gA S 32 j ∧ gA S 32 j ≤ 122 then gA S 32 j - 32 else gA S 32 j) else gA S 32 j
  | 0, i, S, h, hi, hb => by
    have en : yr (n : Int) = n := yr_eq (by omega) (by omega)
    have ei : yr ((60 * n + i : Nat) : Int) = ((60 * n + i : Nat) : Int) := yr_eq (by omega) (by omega)
    have es : yr (((60 * n : Nat) : Int) + ((i + 0 : Nat) : Int)) = ((60 * n + i : Nat) : Int) := by rw [yr_eq] <;> omega
    rw [w81_7, en, if_pos (by omega), Int.toNat_natCast, h, ei, es, if_neg (by omega)]
    exact ⟨S, rfl, yFs_rf _ _, rfl, rfl, fun j => by rw [if_neg (by omega)]⟩
  | m + 1, i, S, h, hi, hb => by
    have en : yr (n : Int) = n := yr_eq (by omega) (by omega)
    have ei : yr ((60 * n + i : Nat) : Int) = ((60 * n + i : Nat) : Int) := yr_eq (by omega) (by omega)
    have es : yr (((60 * n : Nat) : Int) + ((i + (m + 1) : Nat) : Int)) = ((60 * n + i + (m + 1) : Nat) : Int) := by rw [yr_eq] <;> omega
    have e97 : yr 97 = 97 := rfl
    have e122 : yr 122 = 122 := rfl
    obtain ⟨b1, b2⟩ := hb i (by omega)
    have eb : yr (gA S 32 (60 * n + i)) = gA S 32 (60 * n + i) := yr_eq (by omega) (by omega)
    have ok : 0 ≤ ((60 * n + i : Nat) : Int) ∧ ((60 * n + i : Nat) : Int) < 5520 := by omega
    have ep : ((60 * n + i : Nat) : Int) + 1 = ((60 * n + (i + 1) : Nat) : Int) := by omega
    rw [w81_7, en, if_pos (by omega), Int.toNat_natCast, h, ei, es, if_pos (by omega), if_pos ok, Int.toNat_natCast, eb, e97, ep]
    -- nothing to do
    have same : ¬ (97 ≤ gA S 32 (60 * n + i) ∧ gA S 32 (60 * n + i) ≤ 122) → ∃ S' : yS, Y q d 81 7 [vr 118, vi n, vi ((60 * n : Nat) : Int), vi ((60 * n + (i + 1) : Nat) : Int)] [] S js = yretv q S' js ∧ yFs n S S' ∧ gA S' 30 = gA S 30 ∧ gA S' 31 = gA S 31 ∧ ∀ j, gA S' 32 j = if 60 * n + i ≤ j ∧ j < 60 * n + i + (m + 1) then (if 97 ≤ gA S 32 j ∧ gA S 32 j ≤ 122 then gA S 32 j - 32 else gA S 32 j) else gA S 32 j := by
      intro z
      obtain ⟨S', a1, a2, a3, a4, a5⟩ := c81l hn m (i + 1) S (by rw [h]; omega) (by omega) (fun k hk => hb k (by omega))
      refine ⟨S', a1, a2, a3, a4, fun j => ?_⟩
      rw [a5 j]
      by_cases z1 : 60 * n + (i + 1) ≤ j ∧ j < 60 * n + (i + 1) + m
      · rw [if_pos z1, if_pos (show 60 * n + i ≤ j ∧ j < 60 * n + i + (m + 1) by omega)]
      · rw [if_neg z1]
        by_cases z2 : j = 60 * n + i
        · subst z2
          rw [if_pos (show 60 * n + i ≤ 60 * n + i ∧ 60 * n + i < 60 * n + i + (m + 1) by omega), if_neg z]
        · rw [if_neg (by omega)]
    by_cases z : gA S 32 (60 * n + i) < 97
    · rw [if_pos z]
      exact same (by omega)
    · rw [if_neg z, if_pos ok, e122]
      by_cases z2 : 122 < gA S 32 (60 * n + i)
      · rw [if_pos z2]
        exact same (by omega)
      · have ev : gA S 32 (60 * n + i) - 97 + 65 = gA S 32 (60 * n + i) - 32 := by omega
        have rng : -128 ≤ gA S 32 (60 * n + i) - 32 ∧ gA S 32 (60 * n + i) - 32 ≤ 127 := by omega
        rw [if_neg z2, if_pos ok, if_pos ok, ev, yi2b_eq rng, yi2b_eq rng]
        have g32 : ∀ j, gA (sA S 32 (60 * n + i) (gA S 32 (60 * n + i) - 32)) 32 j = if j = 60 * n + i then gA S 32 (60 * n + i) - 32 else gA S 32 j := fun j => gA_self S 32 _ _ j
        obtain ⟨S', a1, a2, a3, a4, a5⟩ := c81l hn m (i + 1) (sA S 32 (60 * n + i) (gA S 32 (60 * n + i) - 32)) (by show gA S 31 n = _; rw [h]; omega) (by omega) (fun k hk => by
          rw [g32]
          split
          · omega
          · exact hb k (by omega))
        refine ⟨S', a1, yFs_tr (yFs_32 (by omega)) a2, a3, a4, fun j => ?_⟩
        rw [a5 j, g32]
        by_cases z1 : 60 * n + (i + 1) ≤ j ∧ j < 60 * n + (i + 1) + m
        · rw [if_pos z1, if_neg (show ¬ j = 60 * n + i by omega), if_pos (show 60 * n + i ≤ j ∧ j < 60 * n + i + (m + 1) by omega)]
        · rw [if_neg z1]
          by_cases z3 : j = 60 * n + i
          · subst z3
            rw [if_pos rfl, if_pos (show 60 * n + i ≤ 60 * n + i ∧ 60 * n + i < 60 * n + i + (m + 1) by omega), if_pos (by omega)]
          · rw [if_neg z3, if_neg (by omega)]
theorem c81 {l : List Int} (hn : n < 92) (hv : cV S n (.inr l)) : ∃ S' : yS, Y q d 81 0 [vr 118, vi n, vu, vu] [] S js = yretv q S' js ∧ yFs n S S' ∧ cV S' n (.inr (yupp l)) := by
  obtain ⟨v1, v2, v3, v4⟩ := hv
  have e60 : (n : Int) * 60 = ((60 * n : Nat) : Int) := by omega
  obtain ⟨S', a1, a2, a3, a4, a5⟩ := c81l (q := q) (d := d) (js := js) hn l.length 0 S (by rw [v2, Nat.zero_add]) (by omega) (fun k hk => by
    obtain ⟨w1, w2, w3⟩ := v4 k _ (List.getElem?_eq_getElem (by omega))
    rw [w1]
    exact ⟨w2, w3⟩)
  refine ⟨S', by rw [w81_0, e60]; exact a1, a2, by rw [a3, v1], ?_, by unfold yupp; rw [List.length_map]; exact v3, fun i y hi => ?_⟩
  · rw [a4, v2]
    unfold yupp
    rw [List.length_map]
  · unfold yupp at hi
    rw [List.getElem?_map] at hi
    match hl : l[i]? with
    | none => rw [hl] at hi; nomatch hi
    | some c =>
      rw [hl] at hi
      have hi : some (if 97 ≤ c ∧ c ≤ 122 then c - 32 else c) = some y := hi
      injection hi with hi
      have hlen := (List.getElem?_eq_some_iff.mp hl).1
      obtain ⟨w1, w2, w3⟩ := v4 i c hl
      rw [a5, if_pos (by omega), w1, hi]
      refine ⟨rfl, ?_⟩
      rw [← hi]
      split <;> omega
/-- a part of a text -/
theorem c82l {f : Nat} {fj mj lf : Int64} {len : Nat} (hn : n < 92) (hlen : len ≤ 60) (hfj : fj.toInt = f) (hlf : lf.toInt = (len : Int) - f) (hm : 0 ≤ mj.toInt) : ∀ (m i : Nat) (S : yS), gA S 31 n = i → i ≤ 60 → m = min (len - f) mj.toInt.toNat - i → i ≤ min (len - f) mj.toInt.toNat → (∀ k, i ≤ k → f + k < len → 0 ≤ gA S 32 (60 * n + f + k) ∧ gA S 32 (60 * n + f + k) ≤ 127) → ∃ S' : yS, Y q d 82 41 [vr 118, vi n, vj fj, vu, vj mj, vu, vi ((60 * n : Nat) : Int), vj lf, vu, vi i] [] S js = yretv q S' js ∧ yFs n S S' ∧ gA S' 30 = gA S 30 ∧ gA S' 31 n = ((i + m : Nat) : Int) ∧ ∀ j, gA S' 32 j = if 60 * n + i ≤ j ∧ j < 60 * n + i + m then gA S 32 (f + j) else gA S 32 j
  | 0, i, S, h, hi, hmm, him, hb => by
    have ei : (yi2l (i : Int)).toInt = i := by rw [yi2l_toInt, yr_eq (by omega) (by omega)]
    have r1 := Int64.le_toInt mj
    rw [w82_41]
    simp only [yr_lcmp, ylcmp_lt, Int64.lt_iff_toInt_lt, ei, hlf]
    by_cases z1 : (i : Int) < (len : Int) - f
    · rw [if_pos z1, if_neg (by omega)]
      exact ⟨S, rfl, yFs_rf _ _, rfl, by rw [h]; rfl, fun j => by rw [if_neg (by omega)]⟩
    · rw [if_neg z1]
      exact ⟨S, rfl, yFs_rf _ _, rfl, by rw [h]; rfl, fun j => by rw [if_neg (by omega)]⟩
  | m + 1, i, S, h, hi, hmm, him, hb => by
    have ei : (yi2l (i : Int)).toInt = i := by rw [yi2l_toInt, yr_eq (by omega) (by omega)]
    have en : yr (n : Int) = n := yr_eq (by omega) (by omega)
    have ef : yl2i fj = f := by
      unfold yl2i
      rw [Int64.toInt_toInt32, hfj, Int.bmod_eq_of_le (by omega) (by omega)]
    have ex : yr (((60 * n : Nat) : Int) + (f : Int) + i) = ((60 * n + f + i : Nat) : Int) := by rw [yr_eq] <;> omega
    have ey : yr (((60 * n : Nat) : Int) + (i : Int)) = ((60 * n + i : Nat) : Int) := by rw [yr_eq] <;> omega
    have h92 : 0 ≤ (n : Int) ∧ (n : Int) < 92 := by omega
    obtain ⟨b1, b2⟩ := hb i (Nat.le_refl _) (by omega)
    have rng : -128 ≤ gA S 32 (60 * n + f + i) ∧ gA S 32 (60 * n + f + i) ≤ 127 := by omega
    have ep : (i : Int) + 1 = ((i + 1 : Nat) : Int) := by omega
    rw [w82_41]
    simp only [yr_lcmp, ylcmp_lt, Int64.lt_iff_toInt_lt, ei, hlf]
    rw [if_pos (by omega), if_pos (by omega), ef, ex, ey, if_pos (by omega), if_pos (by omega), en, if_pos h92, if_pos h92, Int.toNat_natCast, Int.toNat_natCast, Int.toNat_natCast, yi2b_eq rng, h, ep]
    obtain ⟨S1, hS1⟩ : ∃ S1, S1 = sA (sA S 32 (60 * n + i) (gA S 32 (60 * n + f + i))) 31 n ((i + 1 : Nat) : Int) := ⟨_, rfl⟩
    have g32 : ∀ j, gA S1 32 j = if j = 60 * n + i then gA S 32 (60 * n + f + i) else gA S 32 j := fun j => by
      rw [hS1]
      exact gA_self S 32 _ _ j
    have g31 : gA S1 31 n = ((i + 1 : Nat) : Int) := by rw [hS1, gA_self, if_pos rfl]
    have g30 : gA S1 30 = gA S 30 := by rw [hS1]; rfl
    have fr : yFs n S S1 := by
      rw [hS1]
      exact yFs_tr (yFs_32 (by omega)) yFs_31
    obtain ⟨S', a1, a2, a3, a4, a5⟩ := c82l hn hlen hfj hlf hm m (i + 1) S1 g31 (by omega) (by omega) (by omega) (fun k hk hk2 => by rw [g32, if_neg (by omega)]; exact hb k (by omega) hk2)
    rw [← hS1]
    refine ⟨S', a1, yFs_tr fr a2, a3.trans g30, by rw [a4]; congr 1; omega, fun j => ?_⟩
    rw [a5 j, g32, g32]
    by_cases z1 : 60 * n + (i + 1) ≤ j ∧ j < 60 * n + (i + 1) + m
    · rw [if_pos z1, if_neg (show ¬ f + j = 60 * n + i by omega), if_pos (show 60 * n + i ≤ j ∧ j < 60 * n + i + (m + 1) by omega)]
    · rw [if_neg z1]
      by_cases z2 : j = 60 * n + i
      · rw [if_pos z2, if_pos (show 60 * n + i ≤ j ∧ j < 60 * n + i + (m + 1) by omega), z2, show f + (60 * n + i) = 60 * n + f + i by omega]
      · rw [if_neg z2, if_neg (by omega)]
theorem c82 {l : List Int} {fj mj : Int64} (hn : n < 92) (hv : cV S n (.inr l)) : ∃ S' : yS, Y q d 82 0 [vr 118, vi n, vj fj, vu, vj mj, vu, vu, vu, vu, vu] [] S js = yretv q S' js ∧ yFs n S S' ∧ cV S' n (.inr (yprt l fj mj)) := by
  obtain ⟨v1, v2, v3, v4⟩ := hv
  have en : yr (n : Int) = n := yr_eq (by omega) (by omega)
  have h92 : 0 ≤ (n : Int) ∧ (n : Int) < 92 := by omega
  have e60 : (n : Int) * 60 = ((60 * n : Nat) : Int) := by omega
  have z0 : (0 : Int64).toInt = 0 := by decide
  obtain ⟨S1, hS1⟩ : ∃ S1, S1 = sA S 31 n 0 := ⟨_, rfl⟩
  have fr : yFs n S S1 := by
    rw [hS1]
    exact yFs_31
  have g31 : gA S1 31 n = ((0 : Nat) : Int) := by
    rw [hS1, gA_self, if_pos rfl]
    rfl
  have g30 : gA S1 30 = gA S 30 := by rw [hS1]; rfl
  have g32 : gA S1 32 = gA S 32 := by rw [hS1]; rfl
  have none_ : fj.toInt < 0 ∨ mj.toInt < 0 → cV S1 n (.inr (yprt l fj mj)) := by
    intro z
    have e : yprt l fj mj = [] := if_pos z
    rw [e]
    exact ⟨by rw [g30, v1], g31, by show 0 ≤ 60; omega, fun i y hi => nomatch hi⟩
  rw [w82_0, en, if_pos h92, if_pos h92, Int.toNat_natCast, e60, ← hS1]
  simp only [yr_lcmp, ylcmp_lt, Int64.lt_iff_toInt_lt, z0]
  by_cases z1 : fj.toInt < 0
  · rw [if_pos z1]
    exact ⟨S1, rfl, fr, none_ (Or.inl z1)⟩
  · rw [if_neg z1]
    by_cases z2 : mj.toInt < 0
    · rw [if_pos z2]
      exact ⟨S1, rfl, fr, none_ (Or.inr z2)⟩
    · rw [if_neg z2]
      have r1 := Int64.toInt_lt fj
      have hlf : (yi2l (gA S 31 n) - fj).toInt = (l.length : Int) - (fj.toInt.toNat : Int) := by
        rw [Int64.toInt_sub, v2, yi2l_toInt, yr_eq (by omega) (by omega), Int.bmod_eq_of_le (by omega) (by omega)]
        omega
      obtain ⟨S', a1, a2, a3, a4, a5⟩ := c82l (q := q) (d := d) (js := js) (n := n) (f := fj.toInt.toNat) (fj := fj) (mj := mj) (lf := yi2l (gA S 31 n) - fj) (len := l.length) hn v3 (by omega) hlf (by omega) (min (l.length - fj.toInt.toNat) mj.toInt.toNat) 0 S1 g31 (by omega) (by omega) (by omega) (fun k _ hk => by
        rw [g32]
        obtain ⟨w1, w2, w3⟩ := v4 (fj.toInt.toNat + k) _ (List.getElem?_eq_getElem hk)
        rw [show 60 * n + fj.toInt.toNat + k = 60 * n + (fj.toInt.toNat + k) by omega, w1]
        exact ⟨w2, w3⟩)
      have e : yprt l fj mj = (l.drop fj.toInt.toNat).take mj.toInt.toNat := if_neg (by omega)
      rw [e]
      refine ⟨S', a1, yFs_tr fr a2, by rw [a3, g30, v1], ?_, by rw [List.length_take, List.length_drop]; omega, fun i y hi => ?_⟩
      · rw [a4, List.length_take, List.length_drop]
        omega
      · have hl := (List.getElem?_eq_some_iff.mp hi).1
        rw [List.length_take, List.length_drop] at hl
        rw [List.getElem?_take_of_lt (by omega), List.getElem?_drop] at hi
        rw [a5, if_pos (by omega), g32, show fj.toInt.toNat + (60 * n + i) = 60 * n + (fj.toInt.toNat + i) by omega]
        exact v4 _ y hi
end YCOL
end YCO
