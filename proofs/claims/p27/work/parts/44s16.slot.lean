/-! taken from whole by wip/p27/slice.py: 97.slot.lean.txt -/
section YSL
/-- a slot holds a value -/
def cV (S : yS) (n : Nat) (v : yVal) : Prop := match v with
  | .inl x => gA S 30 n = 0 ∧ gB S 9 n = x ∧ gA S 31 n = 0
  | .inr l => gA S 30 n = 1 ∧ gA S 31 n = l.length ∧ l.length ≤ 60 ∧ ∀ (i : Nat) (y : Int), l[i]? = some y → gA S 32 (60 * n + i) = y ∧ 0 ≤ y ∧ y ≤ 127
def yWm (s k : Nat) : Bool := (s == 3 && (k == 30 || k == 31 || k == 32)) || (s == 4 && k == 9)
/-- only one slot has changed -/
def yFs (n : Nat) (S S' : yS) : Prop := yFr yWm S S' ∧ (∀ m, m ≠ n → gA S' 30 m = gA S 30 m ∧ gB S' 9 m = gB S 9 m ∧ gA S' 31 m = gA S 31 m) ∧ ∀ j, ¬ (60 * n ≤ j ∧ j < 60 * n + 60) → gA S' 32 j = gA S 32 j
theorem yFs_rf (n : Nat) (S : yS) : yFs n S S := ⟨yFr_rf _ _, fun _ _ => ⟨rfl, rfl, rfl⟩, fun _ _ => rfl⟩
theorem yFs_tr {n : Nat} {A B C : yS} (h1 : yFs n A B) (h2 : yFs n B C) : yFs n A C := ⟨yFr_tr h1.1 h2.1, fun m hm => ⟨(h2.2.1 m hm).1.trans (h1.2.1 m hm).1, (h2.2.1 m hm).2.1.trans (h1.2.1 m hm).2.1, (h2.2.1 m hm).2.2.trans (h1.2.1 m hm).2.2⟩, fun j hj => (h2.2.2 j hj).trans (h1.2.2 j hj)⟩
theorem cV_fs {n m : Nat} {S S' : yS} {v : yVal} (h : yFs n S S') (hm : m ≠ n) (hv : cV S m v) : cV S' m v := by
  obtain ⟨h1, h2, h3⟩ := h
  obtain ⟨a, b, c⟩ := h2 m hm
  match v, hv with
  | .inl x, hv => exact ⟨a.trans hv.1, b.trans hv.2.1, c.trans hv.2.2⟩
  | .inr l, hv =>
    refine ⟨a.trans hv.1, c.trans hv.2.1, hv.2.2.1, fun i y hi => ?_⟩
    have hl := (List.getElem?_eq_some_iff.mp hi).1
    have := hv.2.2.1
    rw [h3 _ (by omega)]
    exact hv.2.2.2 i y hi
theorem yFs_30 {n : Nat} {S : yS} {x : Int} : yFs n S (sA S 30 n x) := ⟨yFr_A rfl, fun m hm => ⟨by rw [gA_self, if_neg hm], rfl, rfl⟩, fun _ _ => rfl⟩
theorem yFs_31 {n : Nat} {S : yS} {x : Int} : yFs n S (sA S 31 n x) := ⟨yFr_A rfl, fun m hm => ⟨rfl, rfl, by rw [gA_self, if_neg hm]⟩, fun _ _ => rfl⟩
theorem yFs_9 {n : Nat} {S : yS} {x : Int64} : yFs n S (sB S 9 n x) := ⟨yFr_B rfl, fun m hm => ⟨rfl, by rw [gB_self, if_neg hm], rfl⟩, fun _ _ => rfl⟩
theorem yFs_32 {n j : Nat} {S : yS} {x : Int} (h : 60 * n ≤ j ∧ j < 60 * n + 60) : yFs n S (sA S 32 j x) := ⟨yFr_A rfl, fun _ _ => ⟨rfl, rfl, rfl⟩, fun i hi => by rw [gA_self, if_neg (fun e => hi (by omega))]⟩
theorem yi2b_eq {y : Int} (h : -128 ≤ y ∧ y ≤ 127) : yi2b y = y := by
  unfold yi2b
  rw [Int8.toInt_toInt32, Int32.toInt8_ofInt, Int8.toInt_ofInt_of_le (by omega) (by omega)]
theorem yi2z_0 : yi2z 0 = 0 := by decide
theorem yi2z_1 : yi2z 1 = 1 := by decide
section YSLL
variable {q : yQ} {d : Nat} {js : List xO} {S : yS} {n : Nat}
/-- a number is written -/
theorem c71 {x : Int64} (hn : n < 92) : ∃ S' : yS, Y q d 71 0 [vr 124, vi n, vj x, vu] [] S js = yretv q S' js ∧ yFs n S S' ∧ cV S' n (.inl x) := by
  have e : yr (n : Int) = n := yr_eq (by omega) (by omega)
  have h : 0 ≤ (n : Int) ∧ (n : Int) < 92 := by omega
  rw [w71_0, e, if_pos h, if_pos h, if_pos h, Int.toNat_natCast, yi2z_0]
  refine ⟨_, rfl, yFs_tr yFs_30 (yFs_tr yFs_9 yFs_31), ?_, ?_, ?_⟩
  · show gA (sA S 30 n 0) 30 n = 0
    rw [gA_self, if_pos rfl]
  · show gB (sB (sA S 30 n 0) 9 n x) 9 n = x
    rw [gB_self, if_pos rfl]
  · rw [gA_self, if_pos rfl]
/-- nothing is written -/
theorem c74 {x : Int} (hx : x = 0 ∨ x = 1) (hn : n < 92) : ∃ S' : yS, Y q d 74 0 [vr 124, vi n, vi x] [] S js = yretv q S' js ∧ yFs n S S' ∧ cV S' n (if x = 0 then .inl 0 else .inr []) := by
  have e : yr (n : Int) = n := yr_eq (by omega) (by omega)
  have h : 0 ≤ (n : Int) ∧ (n : Int) < 92 := by omega
  rw [w74_0, e, if_pos h, if_pos h, if_pos h, Int.toNat_natCast]
  have ez : yi2z x = x := by rcases hx with rfl | rfl <;> decide
  rw [ez]
  have a1 : gA (sA (sB (sA S 30 n x) 9 n 0) 31 n 0) 30 n = x := by
    show gA (sA S 30 n x) 30 n = x
    rw [gA_self, if_pos rfl]
  have a2 : gB (sA (sB (sA S 30 n x) 9 n 0) 31 n 0) 9 n = 0 := by
    show gB (sB (sA S 30 n x) 9 n 0) 9 n = 0
    rw [gB_self, if_pos rfl]
  have a3 : gA (sA (sB (sA S 30 n x) 9 n 0) 31 n 0) 31 n = 0 := by rw [gA_self, if_pos rfl]
  refine ⟨_, rfl, yFs_tr yFs_30 (yFs_tr yFs_9 yFs_31), ?_⟩
  rcases hx with rfl | rfl
  · exact ⟨a1, a2, a3⟩
  · rw [if_neg (by decide)]
    exact ⟨a1, a3, by show 0 ≤ 60; omega, fun i y hi => nomatch hi⟩
/-- a value is copied -/
theorem c78l {f t : Nat} (hf : f < 92) (ht : t < 92) (hne : f ≠ t) : ∀ (m i : Nat) (S : yS), gA S 31 f = ((i + m : Nat) : Int) → i + m ≤ 60 → (∀ k, k < i + m → 0 ≤ gA S 32 (60 * f + k) ∧ gA S 32 (60 * f + k) ≤ 127) → ∃ S' : yS, Y q d 78 59 [vr 124, vi f, vi t, vi i] [] S js = yretv q S' js ∧ yFs t S S' ∧ gA S' 30 = gA S 30 ∧ gA S' 31 = gA S 31 ∧ gB S' 9 = gB S 9 ∧ ∀ j, gA S' 32 j = if 60 * t + i ≤ j ∧ j < 60 * t + i + m then gA S 32 (60 * f + (j - 60 * t)) else gA S 32 j
  | 0, i, S, h, hi, hb => by
    have ef : yr (f : Int) = f := yr_eq (by omega) (by omega)
    have ei : yr (i : Int) = i := yr_eq (by omega) (by omega)
    rw [w78_59, ef, if_pos (by omega), Int.toNat_natCast, h, ei, yr_eq (x := ((i + 0 : Nat) : Int)) (by omega) (by omega), if_neg (by omega)]
    exact ⟨S, rfl, yFs_rf _ _, rfl, rfl, rfl, fun j => by rw [if_neg (by omega)]⟩
  | m + 1, i, S, h, hi, hb => by
    have ef : yr (f : Int) = f := yr_eq (by omega) (by omega)
    have ei : yr (i : Int) = i := yr_eq (by omega) (by omega)
    have e1 : yr ((f : Int) * 60 + i) = ((60 * f + i : Nat) : Int) := by rw [yr_eq] <;> omega
    have e2 : yr ((t : Int) * 60 + i) = ((60 * t + i : Nat) : Int) := by rw [yr_eq] <;> omega
    have ep : (i : Int) + 1 = ((i + 1 : Nat) : Int) := by omega
    obtain ⟨b1, b2⟩ := hb i (by omega)
    rw [w78_59, ef, if_pos (by omega), Int.toNat_natCast, h, ei, yr_eq (x := ((i + (m + 1) : Nat) : Int)) (by omega) (by omega), if_pos (by omega), e1, e2, if_pos (by omega), if_pos (by omega), Int.toNat_natCast, Int.toNat_natCast, yi2b_eq ⟨by omega, b2⟩, ep]
    have g32 : ∀ j, gA (sA S 32 (60 * t + i) (gA S 32 (60 * f + i))) 32 j = if j = 60 * t + i then gA S 32 (60 * f + i) else gA S 32 j := fun j => gA_self S 32 _ _ j
    obtain ⟨S', a1, a2, a3, a4, a5, a6⟩ := c78l hf ht hne m (i + 1) (sA S 32 (60 * t + i) (gA S 32 (60 * f + i))) (by show gA S 31 f = _; rw [h]; omega) (by omega) (fun k hk => by rw [g32, if_neg (by omega)]; exact hb k (by omega))
    refine ⟨S', a1, yFs_tr (yFs_32 (by omega)) a2, a3, a4, a5, fun j => ?_⟩
    rw [a6 j, g32, g32]
    by_cases z1 : 60 * t + (i + 1) ≤ j ∧ j < 60 * t + (i + 1) + m
    · rw [if_pos z1, if_neg (show ¬ 60 * f + (j - 60 * t) = 60 * t + i by omega), if_pos (by omega)]
    · rw [if_neg z1]
      by_cases z2 : j = 60 * t + i
      · rw [if_pos z2, if_pos (by omega)]
        subst z2
        rw [show 60 * t + i - 60 * t = i by omega]
      · rw [if_neg z2, if_neg (by omega)]
theorem c78 {f t : Nat} {v : yVal} (hf : f < 92) (ht : t < 92) (hne : f ≠ t) (hv : cV S f v) : ∃ S' : yS, Y q d 78 0 [vr 124, vi f, vi t, vu] [] S js = yretv q S' js ∧ yFs t S S' ∧ cV S' t v := by
  have ef : yr (f : Int) = f := yr_eq (by omega) (by omega)
  have et : yr (t : Int) = t := yr_eq (by omega) (by omega)
  have e92 : yr 92 = 92 := rfl
  have h1 : 0 ≤ (f : Int) ∧ (f : Int) < 92 := by omega
  have h2 : 0 ≤ (t : Int) ∧ (t : Int) < 92 := by omega
  have n1 : ¬ (f : Int) < 0 := by omega
  have n2 : ¬ (t : Int) < 0 := by omega
  obtain ⟨S1, hS1⟩ : ∃ S1, S1 = sA (sB (sA S 30 t (yi2z (gA S 30 f))) 9 t (gB S 9 f)) 31 t (gA S 31 f) := ⟨_, rfl⟩
  have fr : yFs t S S1 := by
    rw [hS1]
    exact yFs_tr yFs_30 (yFs_tr yFs_9 yFs_31)
  have a30 : gA S1 30 t = yi2z (gA S 30 f) := by
    rw [hS1]
    show gA (sA S 30 t (yi2z (gA S 30 f))) 30 t = _
    rw [gA_self, if_pos rfl]
  have a9 : gB S1 9 t = gB S 9 f := by
    rw [hS1]
    show gB (sB (sA S 30 t (yi2z (gA S 30 f))) 9 t (gB S 9 f)) 9 t = _
    rw [gB_self, if_pos rfl]
  have a31 : gA S1 31 t = gA S 31 f := by rw [hS1, gA_self, if_pos rfl]
  have b31 : gA S1 31 f = gA S 31 f := by
    rw [hS1, gA_self, if_neg hne]
    rfl
  have a32 : gA S1 32 = gA S 32 := by rw [hS1]; rfl
  have st : Y q d 78 0 [vr 124, vi f, vi t, vu] [] S js = Y q d 78 59 [vr 124, vi f, vi t, vi ((0 : Nat) : Int)] [] S1 js := by
    rw [w78_0, ef, et, e92, if_neg n1, if_pos h1.2, if_neg n2, if_pos h2.2, if_pos h1, if_pos h2, if_pos h1, if_pos h2, if_pos h1, if_pos h2, Int.toNat_natCast, Int.toNat_natCast, ← hS1]
    rfl
  rw [st]
  match v, hv with
  | .inl x, hv =>
    obtain ⟨v1, v2, v3⟩ := hv
    obtain ⟨S', c1, c2, c3, c4, c5, c6⟩ := c78l (q := q) (d := d) (js := js) hf ht hne 0 0 S1 (by rw [b31, v3]; rfl) (by omega) (fun k hk => by omega)
    exact ⟨S', c1, yFs_tr fr c2, by rw [c3, a30, v1, yi2z_0], by rw [c5, a9, v2], by rw [c4, a31, v3]⟩
  | .inr l, hv =>
    obtain ⟨v1, v2, v3, v4⟩ := hv
    have bytes : ∀ k, k < l.length → 0 ≤ gA S 32 (60 * f + k) ∧ gA S 32 (60 * f + k) ≤ 127 := fun k hk => by
      obtain ⟨w1, w2, w3⟩ := v4 k _ (List.getElem?_eq_getElem hk)
      rw [w1]
      exact ⟨w2, w3⟩
    obtain ⟨S', c1, c2, c3, c4, c5, c6⟩ := c78l (q := q) (d := d) (js := js) hf ht hne l.length 0 S1 (by rw [b31, v2, Nat.zero_add]) (by omega) (fun k hk => by rw [a32]; exact bytes k (by omega))
    refine ⟨S', c1, yFs_tr fr c2, by rw [c3, a30, v1, yi2z_1], by rw [c4, a31, v2], v3, fun i y hi => ?_⟩
    have hl := (List.getElem?_eq_some_iff.mp hi).1
    obtain ⟨w1, w2, w3⟩ := v4 i y hi
    rw [c6, if_pos (by omega), a32, show 60 * f + (60 * t + i - 60 * t) = 60 * f + i by omega]
    exact ⟨w1, w2, w3⟩
/-- bytes are put behind a text: what joins and writes texts -/
theorem c83l (hn : n + 1 < 92) : ∀ (m i a : Nat) (S : yS), gA S 31 (n + 1) = ((i + m : Nat) : Int) → i + m ≤ 60 → gA S 31 n = a → a ≤ 60 → (∀ k, k < i + m → 0 ≤ gA S 32 (60 * (n + 1) + k) ∧ gA S 32 (60 * (n + 1) + k) ≤ 127) → ∃ S' : yS, Y q d 83 2 [vr 124, vi n, vi ((n + 1 : Nat) : Int), vi i] [] S js = yretv q S' js ∧ yFs n S S' ∧ gA S' 30 = gA S 30 ∧ gA S' 31 n = min 60 (a + m) ∧ ∀ j, gA S' 32 j = if 60 * n + a ≤ j ∧ j < 60 * n + min 60 (a + m) then gA S 32 (60 * (n + 1) + i + (j - (60 * n + a))) else gA S 32 j
  | 0, i, a, S, h, hi, ha, ha2, hb => by
    have en : yr (((n + 1 : Nat) : Int)) = ((n + 1 : Nat) : Int) := yr_eq (by omega) (by omega)
    have ei : yr (i : Int) = i := yr_eq (by omega) (by omega)
    rw [w83_2, en, if_pos (by omega), Int.toNat_natCast, h, ei, yr_eq (x := ((i + 0 : Nat) : Int)) (by omega) (by omega), if_neg (by omega)]
    exact ⟨S, rfl, yFs_rf _ _, rfl, by rw [ha]; omega, fun j => by rw [if_neg (by omega)]⟩
  | m + 1, i, a, S, h, hi, ha, ha2, hb => by
    have en : yr (((n + 1 : Nat) : Int)) = ((n + 1 : Nat) : Int) := yr_eq (by omega) (by omega)
    have en0 : yr (n : Int) = n := yr_eq (by omega) (by omega)
    have ei : yr (i : Int) = i := yr_eq (by omega) (by omega)
    have e60 : yr 60 = 60 := rfl
    have ea : yr (a : Int) = a := yr_eq (by omega) (by omega)
    have h92 : 0 ≤ (n : Int) ∧ (n : Int) < 92 := by omega
    rw [w83_2, en, if_pos (by omega), Int.toNat_natCast, h, ei, yr_eq (x := ((i + (m + 1) : Nat) : Int)) (by omega) (by omega), if_pos (by omega), en0, if_pos h92, Int.toNat_natCast, ha, ea, e60]
    by_cases z : a < 60
    · have e1 : yr (((n + 1 : Nat) : Int) * 60 + i) = ((60 * (n + 1) + i : Nat) : Int) := by rw [yr_eq] <;> omega
      have e2 : yr ((n : Int) * 60 + a) = ((60 * n + a : Nat) : Int) := by rw [yr_eq] <;> omega
      have ep : (i : Int) + 1 = ((i + 1 : Nat) : Int) := by omega
      obtain ⟨b1, b2⟩ := hb i (by omega)
      rw [if_pos (by omega), if_pos h92, e1, e2, if_pos (by omega), if_pos (by omega), if_pos h92, if_pos h92, Int.toNat_natCast, Int.toNat_natCast, yi2b_eq ⟨by omega, b2⟩, ep]
      obtain ⟨S1, hS1⟩ : ∃ S1, S1 = sA (sA S 32 (60 * n + a) (gA S 32 (60 * (n + 1) + i))) 31 n ((a : Int) + 1) := ⟨_, rfl⟩
      have g32 : ∀ j, gA S1 32 j = if j = 60 * n + a then gA S 32 (60 * (n + 1) + i) else gA S 32 j := fun j => by
        rw [hS1]
        exact gA_self S 32 _ _ j
      have g31 : ∀ j, gA S1 31 j = if j = n then (a : Int) + 1 else gA S 31 j := fun j => by
        rw [hS1, gA_self]
        rfl
      have g30 : gA S1 30 = gA S 30 := by rw [hS1]; rfl
      have fr : yFs n S S1 := by
        rw [hS1]
        exact yFs_tr (yFs_32 (by omega)) yFs_31
      obtain ⟨S', a1, a2, a3, a4, a5⟩ := c83l hn m (i + 1) (a + 1) S1 (by rw [g31, if_neg (by omega), h]; omega) (by omega) (by rw [g31, if_pos rfl]; omega) (by omega) (fun k hk => by rw [g32, if_neg (by omega)]; exact hb k (by omega))
      rw [← hS1]
      refine ⟨S', a1, yFs_tr fr a2, a3.trans g30, by rw [a4]; congr 1; omega, fun j => ?_⟩
      rw [a5 j, g32, g32]
      have em : min 60 (a + 1 + m) = min 60 (a + (m + 1)) := by congr 1; omega
      rw [em]
      by_cases z1 : 60 * n + (a + 1) ≤ j ∧ j < 60 * n + min 60 (a + (m + 1))
      · rw [if_pos z1, if_neg (show ¬ 60 * (n + 1) + (i + 1) + (j - (60 * n + (a + 1))) = 60 * n + a by omega), if_pos (by omega), show 60 * (n + 1) + (i + 1) + (j - (60 * n + (a + 1))) = 60 * (n + 1) + i + (j - (60 * n + a)) by omega]
      · rw [if_neg z1]
        by_cases z2 : j = 60 * n + a
        · rw [if_pos z2, if_pos (by omega), show 60 * (n + 1) + i + (j - (60 * n + a)) = 60 * (n + 1) + i by omega]
        · rw [if_neg z2, if_neg (by omega)]
    · rw [if_neg (by omega)]
      exact ⟨S, rfl, yFs_rf _ _, rfl, by rw [ha]; omega, fun j => by rw [if_neg (by omega)]⟩
theorem c83 {l r : List Int} (hn : n + 1 < 92) (h1 : cV S n (.inr l)) (h2 : cV S (n + 1) (.inr r)) : ∃ S' : yS, Y q d 83 0 [vr 124, vi n, vi ((n + 1 : Nat) : Int), vu] [] S js = yretv q S' js ∧ yFs n S S' ∧ cV S' n (.inr ((l ++ r).take 60)) := by
  obtain ⟨v1, v2, v3, v4⟩ := h1
  obtain ⟨u1, u2, u3, u4⟩ := h2
  obtain ⟨S', a1, a2, a3, a4, a5⟩ := c83l (q := q) (d := d) (js := js) hn r.length 0 l.length S (by rw [u2, Nat.zero_add]) (by omega) v2 v3 (fun k hk => by
    obtain ⟨w1, w2, w3⟩ := u4 k _ (List.getElem?_eq_getElem (by omega))
    rw [w1]
    exact ⟨w2, w3⟩)
  refine ⟨S', by rw [w83_0]; exact a1, a2, by rw [a3, v1], ?_, by rw [List.length_take]; omega, fun i y hi => ?_⟩
  · rw [a4, List.length_take, List.length_append]
  · have hl := (List.getElem?_eq_some_iff.mp hi).1
    rw [List.length_take, List.length_append] at hl
    rw [List.getElem?_take_of_lt (by omega)] at hi
    rw [a5]
    by_cases z : i < l.length
    · rw [List.getElem?_append_left z] at hi
      rw [if_neg (by omega)]
      exact v4 i y hi
    · rw [List.getElem?_append_right (by omega)] at hi
      rw [if_pos (by omega), show 60 * (n + 1) + 0 + (60 * n + i - (60 * n + l.length)) = 60 * (n + 1) + (i - l.length) by omega]
      exact u4 _ y hi
end YSLL
end YSL
