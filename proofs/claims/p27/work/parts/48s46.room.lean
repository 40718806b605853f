/-! taken from whole by wip/p27/slice2.py: 9p.room.lean.txt -/
section YTR
abbrev yTl : Type := List (Nat × Nat × Int64)
def yTf (l : yTl) : yTk := fun j => l[j]?.getD (66, 0, 0)
theorem yTf_at {l : yTl} {j : Nat} {x : Nat × Nat × Int64} (h : l[j]? = some x) : yTf l j = x := by
  unfold yTf
  rw [h]
  rfl
theorem yTf_some {l : yTl} {j : Nat} (h : j < l.length) : l[j]? = some (yTf l j) := by
  unfold yTf
  rw [List.getElem?_eq_getElem h]
  rfl
def ytq (b : Nat → Int) (n : Nat) : yTl := ytoks b n (n + 2) 0
theorem ytq_to {b : Nat → Int} {n : Nat} (hn : n ≤ 2000) (hl : (ytq b n).length ≤ 2001) : yTo (yTf (ytq b n)) (ytq b n).length ∧ ∀ j, j < (ytq b n).length → (yTf (ytq b n) j).2.1 ≤ n := by
  obtain ⟨T, t, e, h1, h2, h3⟩ := ytoks_ne (b := b) (n := n) (n + 2) 0 (by omega) (by omega)
  have e : ytq b n = T ++ [t] := e
  have len : (ytq b n).length = T.length + 1 := by rw [e, List.length_append]; rfl
  have all : ∀ j, j < (ytq b n).length → (yTf (ytq b n) j).2.1 ≤ n ∧ (yTf (ytq b n) j).1 < 67 := fun j hj => by
    refine h3 _ ?_
    rw [← e]
    exact List.mem_of_getElem? (yTf_some hj)
  refine ⟨⟨by omega, hl, ?_, fun j hj => ?_, fun j hj => ⟨by have := (all j hj).1; omega, (all j hj).2⟩⟩, fun j hj => (all j hj).1⟩
  · rw [yTf_at (x := t) (by rw [e, List.length_append, List.getElem?_append_right (by show T.length ≤ T.length + 1 - 1; omega)]; show [t][T.length + 1 - 1 - T.length]? = some t; rw [show T.length + 1 - 1 - T.length = 0 by omega]; rfl)]
    exact h1
  · have hjT : j < T.length := by omega
    have hx : (ytq b n)[j]? = some T[j] := by rw [e, List.getElem?_append_left hjT, List.getElem?_eq_getElem hjT]
    rw [yTf_at hx]
    exact h2 _ (List.getElem_mem hjT)
theorem ytq_far {b : Nat → Int} {n : Nat} (hb : ∀ i, i < n → 0 ≤ b i ∧ b i ≤ 255) {j : Nat} (hj : j + 1 < (ytq b n).length) (hk : (yTf (ytq b n) j).1 ≤ 64) : yFar b (yTf (ytq b n) j) (yTf (ytq b n) (j + 1)).2.1 :=
  ytoks_far hb (n + 2) 0 j _ _ (yTf_some (l := ytq b n) (by omega)) (yTf_some (l := ytq b n) hj) hk
def yRx (b : Nat → Int) (n : Nat) (t : Nat) : Nat := (yTf (ytq b n) t).2.1
def yRm0 (b : Nat → Int) (n : Nat) (t _ : Nat) : Nat := 2 * (n - (yTf (ytq b n) t).2.1)
def yRm1 (_ b : Nat) : Nat := 3 * b
theorem ytq_64 {m : Nat} (h : m ≤ 20) : (yi2l (m : Int)).toInt.toNat = m ∧ (yi2l (m : Int)).toInt = m := by
  rw [yi2l_toInt, yr_eq (by omega) (by omega)]
  omega
theorem ytq_room {b : Nat → Int} {n : Nat} (hn : n ≤ 2000) (hl : (ytq b n).length ≤ 2001) (hb : ∀ i, i < n → 0 ≤ b i ∧ b i ≤ 255) : yRoom (yTf (ytq b n)) (ytq b n).length (yRm0 b n) (yRx b n) 1 ∧ yRoom (yTf (ytq b n)) (ytq b n).length yRm1 (yRx b n) 2 := by
  have hp := (ytq_to hn hl).2
  have txt : ∀ t, t + 1 < (ytq b n).length → (yTf (ytq b n) t).1 ≤ 64 → yRx b n t + 1 ≤ yRx b n (t + 1) ∧ ((yTf (ytq b n) t).1 = 64 → yRx b n t + 2 + (yTf (ytq b n) t).2.2.toInt.toNat ≤ yRx b n (t + 1)) := by
    intro t ht hk
    obtain ⟨f1, f2, f3⟩ := ytq_far hb ht hk
    refine ⟨f1, fun h => ?_⟩
    obtain ⟨m, m1, m2, m3, m4⟩ := f3 h
    rw [m1, (ytq_64 m2).1]
    exact m3
  refine ⟨⟨by omega, by omega, fun t b' ht hk => ⟨(txt t ht hk).1, (txt t ht hk).2, fun hb' => ?_⟩⟩, ⟨by omega, by omega, fun t b' ht hk => ⟨(txt t ht hk).1, (txt t ht hk).2, fun hb' => ?_⟩⟩⟩
  · obtain ⟨f1, f2, f3⟩ := ytq_far hb ht hk
    have h1 := hp (t + 1) ht
    unfold yRm0
    refine ⟨by omega, fun h => ?_⟩
    have := f2 h
    omega
  · unfold yRm1
    exact ⟨by omega, fun h => by omega⟩
theorem ytq_txt {b : Nat → Int} {n : Nat} (hn : n ≤ 2000) (hl : (ytq b n).length ≤ 2001) (hb : ∀ i, i < n → 0 ≤ b i ∧ b i ≤ 255) {t : Nat} (ht : t < (ytq b n).length) (hk : (yTf (ytq b n) t).1 = 64) : ∃ m : Nat, (yTf (ytq b n) t).2.2 = yi2l (m : Int) ∧ m ≤ 20 ∧ (yTf (ytq b n) t).2.1 + 2 + m ≤ n ∧ ∀ i, i < m → 32 ≤ b ((yTf (ytq b n) t).2.1 + 1 + i) ∧ b ((yTf (ytq b n) t).2.1 + 1 + i) ≤ 126 := by
  obtain ⟨⟨o1, o2, o3, o4, o5⟩, hp⟩ := ytq_to hn hl
  have ht1 : t + 1 < (ytq b n).length := by
    by_cases z : t + 1 = (ytq b n).length
    · rw [show (ytq b n).length - 1 = t by omega, hk] at o3
      omega
    · omega
  obtain ⟨f1, f2, f3⟩ := ytq_far hb ht1 (by omega)
  obtain ⟨m, m1, m2, m3, m4⟩ := f3 hk
  have := hp (t + 1) ht1
  exact ⟨m, m1, m2, by omega, m4⟩
end YTR
