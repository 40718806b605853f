/-! THE REFERENCE's MACHINE: places of the pile -/
section YRP
def rV (S : yS) (n : Nat) (v : yVal) : Prop := match v with
  | .inl x => gA S 57 n = -1 ∧ gB S 16 n = x
  | .inr l => gA S 57 n = l.length ∧ l.length ≤ 60 ∧ ∀ (i : Nat) (y : Int), l[i]? = some y → gA S 58 (60 * n + i) = y ∧ 0 ≤ y ∧ y ≤ 127
def yWp (s k : Nat) : Bool := (s == 3 && (k == 57 || k == 58)) || (s == 4 && k == 16) || (s == 0 && k == 63)
/-- only one place has changed -/
def rFs (n : Nat) (S S' : yS) : Prop := yFr yWp S S' ∧ (∀ m, m ≠ n → gA S' 57 m = gA S 57 m ∧ gB S' 16 m = gB S 16 m) ∧ ∀ j, ¬ (60 * n ≤ j ∧ j < 60 * n + 60) → gA S' 58 j = gA S 58 j
theorem rFs_rf (n : Nat) (S : yS) : rFs n S S := ⟨yFr_rf _ _, fun _ _ => ⟨rfl, rfl⟩, fun _ _ => rfl⟩
theorem rFs_tr {n : Nat} {A B C : yS} (h1 : rFs n A B) (h2 : rFs n B C) : rFs n A C := ⟨yFr_tr h1.1 h2.1, fun m hm => ⟨(h2.2.1 m hm).1.trans (h1.2.1 m hm).1, (h2.2.1 m hm).2.trans (h1.2.1 m hm).2⟩, fun j hj => (h2.2.2 j hj).trans (h1.2.2 j hj)⟩
theorem rV_fs {n m : Nat} {S S' : yS} {v : yVal} (h : rFs n S S') (hm : m ≠ n) (hv : rV S m v) : rV S' m v := by
  obtain ⟨h1, h2, h3⟩ := h
  obtain ⟨a, b⟩ := h2 m hm
  match v, hv with
  | .inl x, hv => exact ⟨a.trans hv.1, b.trans hv.2⟩
  | .inr l, hv =>
    refine ⟨a.trans hv.1, hv.2.1, fun i y hi => ?_⟩
    have hl := (List.getElem?_eq_some_iff.mp hi).1
    have := hv.2.1
    rw [h3 _ (by omega)]
    exact hv.2.2 i y hi
theorem rFs_57 {n : Nat} {S : yS} {x : Int} : rFs n S (sA S 57 n x) := ⟨yFr_A rfl, fun m hm => ⟨by rw [gA_self, if_neg hm], rfl⟩, fun _ _ => rfl⟩
theorem rFs_16 {n : Nat} {S : yS} {x : Int64} : rFs n S (sB S 16 n x) := ⟨yFr_B rfl, fun m hm => ⟨rfl, by rw [gB_self, if_neg hm]⟩, fun _ _ => rfl⟩
theorem rFs_58 {n j : Nat} {S : yS} {x : Int} (h : 60 * n ≤ j ∧ j < 60 * n + 60) : rFs n S (sA S 58 j x) := ⟨yFr_A rfl, fun _ _ => ⟨rfl, rfl⟩, fun i hi => by rw [gA_self, if_neg (fun e => hi (by omega))]⟩
theorem rFs_63 {n : Nat} {S : yS} {x : Int} : rFs n S (sI S 63 x) := ⟨yFr_I rfl, fun _ _ => ⟨rfl, rfl⟩, fun _ _ => rfl⟩
theorem rV_63 {m : Nat} {S : yS} {x : Int} {v : yVal} (hv : rV S m v) : rV (sI S 63 x) m v := by
  match v, hv with
  | .inl x, hv => exact hv
  | .inr l, hv => exact hv
theorem ytake_app (l a b : List Int) : (((l ++ a).take 60) ++ b).take 60 = (l ++ a ++ b).take 60 := by
  by_cases z : (l ++ a).length ≤ 60
  · rw [List.take_of_length_le z]
  · have h : 60 ≤ (l ++ a).length := by omega
    rw [List.take_append_of_le_length (by rw [List.length_take]; omega), List.take_take, Nat.min_self, List.take_append_of_le_length h]
section YRPL
variable {q : yQ} {d : Nat} {js : List xO} {S : yS} {n : Nat}
/-- an empty text -/
theorem r262 (hn : n < 128) : ∃ S' : yS, Y q d 262 0 [vr 129, vi n] [] S js = yretv q S' js ∧ rFs n S S' ∧ gI S' 63 = gI S 63 ∧ gA S' 58 = gA S 58 ∧ rV S' n (.inr []) := by
  have e : yr (n : Int) = n := yr_eq (by omega) (by omega)
  rw [w262_0, e, if_pos (by omega), Int.toNat_natCast]
  exact ⟨_, rfl, rFs_57, rfl, rfl, by rw [gA_self, if_pos rfl]; rfl, by show 0 ≤ 60; omega, fun i y h => nomatch h⟩
/-- a byte more, where there is room -/
theorem r263 {l : List Int} {y : Int} (hn : n < 128) (hv : rV S n (.inr l)) (hy : 0 ≤ y ∧ y ≤ 127) : ∃ S' : yS, Y q d 263 0 [vr 129, vi n, vi y] [] S js = yretv q S' js ∧ rFs n S S' ∧ gI S' 63 = gI S 63 ∧ rV S' n (.inr ((l ++ [y]).take 60)) ∧ (∀ j, ¬ j = 60 * n + l.length → gA S' 58 j = gA S 58 j) := by
  obtain ⟨v1, v2, v3⟩ := hv
  have e : yr (n : Int) = n := yr_eq (by omega) (by omega)
  have k1 : 0 ≤ (n : Int) ∧ (n : Int) < 128 := by omega
  have el : yr (l.length : Int) = l.length := yr_eq (by omega) (by omega)
  have e60 : yr 60 = 60 := rfl
  rw [w263_0, e, if_pos k1, Int.toNat_natCast, v1, el, e60]
  by_cases z : l.length = 60
  · rw [if_pos (by omega)]
    refine ⟨S, rfl, rFs_rf _ _, rfl, ?_, fun _ _ => rfl⟩
    rw [← z, List.take_left]
    exact ⟨v1, v2, v3⟩
  · have ex : yr ((60 * (n : Int)) + l.length) = ((60 * n + l.length : Nat) : Int) := by rw [yr_eq] <;> omega
    have k2 : 0 ≤ ((60 * n + l.length : Nat) : Int) ∧ ((60 * n + l.length : Nat) : Int) < 7680 := by omega
    rw [if_neg (by omega), if_pos k1, ex, if_pos k2, if_pos k1, if_pos k1, Int.toNat_natCast]
    refine ⟨_, rfl, rFs_tr (rFs_58 (by omega)) rFs_57, rfl, ?_, fun j hj => ?_⟩
    · have et : (l ++ [y]).take 60 = l ++ [y] := List.take_of_length_le (by rw [List.length_append]; show l.length + 1 ≤ 60; omega)
      rw [et]
      refine ⟨?_, by rw [List.length_append]; show l.length + 1 ≤ 60; omega, fun i w hi => ?_⟩
      · rw [gA_self, if_pos rfl, List.length_append]
        show (l.length : Int) + 1 = ((l.length + 1 : Nat) : Int)
        omega
      · show gA (sA S 58 (60 * n + l.length) y) 58 (60 * n + i) = w ∧ 0 ≤ w ∧ w ≤ 127
        rw [gA_self]
        have hi2 := (List.getElem?_eq_some_iff.mp hi).1
        rw [List.length_append] at hi2
        have hi2 : i < l.length + 1 := hi2
        by_cases z2 : i < l.length
        · rw [List.getElem?_append_left z2] at hi
          rw [if_neg (by omega)]
          exact v3 i w hi
        · have ei : i = l.length := by omega
          subst ei
          rw [List.getElem?_append_right (Nat.le_refl _), Nat.sub_self] at hi
          have ew : y = w := Option.some.inj hi
          rw [if_pos rfl, ← ew]
          exact ⟨rfl, hy⟩
    · show gA (sA S 58 (60 * n + l.length) y) 58 j = _
      rw [gA_self, if_neg hj]
/-- what a push leaves -/
def rPs (n : Nat) (S S' : yS) (v : yVal) : Prop := rFs n S S' ∧ gI S' 63 = ((n + 1 : Nat) : Int) ∧ rV S' n v
theorem r260 {x : Int64} (hn : n < 128) (hp : gI S 63 = n) : ∃ S' : yS, Y q d 260 0 [vr 129, vj x, vu] [] S js = yretv q S' js ∧ rPs n S S' (.inl x) := by
  have e : yr (n : Int) = n := yr_eq (by omega) (by omega)
  have k1 : 0 ≤ (n : Int) ∧ (n : Int) < 128 := by omega
  rw [w260_0, hp, e, if_pos k1, if_pos k1, Int.toNat_natCast]
  refine ⟨_, rfl, rFs_tr rFs_16 (rFs_tr rFs_57 rFs_63), by rw [gI_self]; omega, ?_, ?_⟩
  · show gA (sA (sB S 16 n x) 57 n (-1)) 57 n = -1
    rw [gA_self, if_pos rfl]
  · show gB (sB S 16 n x) 16 n = x
    rw [gB_self, if_pos rfl]
end YRPL
end YRP
