/-! taken from whole by wip/p27/slice2.py: 55.code.lean.txt -/
section YCU
def capu (u : Nat) : Int := match u with
  | 0 => 4000
  | _ => 400
def yad (S : yS) (u : Nat) (op : Int) (a : Int64) : yS := if gI S u < capu u then sI (sB (sA S u (gI S u).toNat op) u (gI S u).toNat a) u (gI S u + 1) else S
def yaim (S : yS) (u : Nat) (i : Int) : yS := if 0 ≤ i ∧ i < gI S u then sB S u i.toNat (yi2l (gI S u)) else S
def yrep (S : yS) (u : Nat) (m : Int) (v : Int64) : yS := if 0 < m ∧ m ≤ gI S u then sI (sB (sA (sI S u (gI S u - m)) u (gI S u - m).toNat 0) u (gI S u - m).toNat v) u (gI S u - m + 1) else S
section YCUL
variable {q : yQ} {d : Nat} {js : List xO} {S : yS} {u : Nat}
theorem c20 {op : Int} {a : Int64} (hu : u = 0 ∨ u = 1) (h : 0 ≤ gI S u ∧ gI S u ≤ capu u) : Y q d 20 0 [vr (cu u), vi op, vj a, vu, vu] [] S js = yret q (vi (gI S u)) (yad S u op a) js := by
  rcases hu with rfl | rfl
  · have h : 0 ≤ gI S 0 ∧ gI S 0 ≤ 4000 := h
    have e : yr (gI S 0) = gI S 0 := yr_eq (by omega) (by omega)
    have e4 : yr 4000 = 4000 := rfl
    show Y q d 20 0 [vr 107, vi op, vj a, vu, vu] [] S js = _
    rw [w20_0, e, e4, if_neg (by omega)]
    unfold yad
    show _ = yret q (vi (gI S 0)) (if gI S 0 < 4000 then _ else S) js
    by_cases z : gI S 0 < 4000
    · have h2 : 0 ≤ gI S 0 ∧ gI S 0 < 4000 := ⟨h.1, z⟩
      simp only [z, h2, and_self, if_true]
    · rw [if_neg z, if_neg z]
  · have h : 0 ≤ gI S 1 ∧ gI S 1 ≤ 400 := h
    have e : yr (gI S 1) = gI S 1 := yr_eq (by omega) (by omega)
    have e4 : yr 400 = 400 := rfl
    show Y q d 20 0 [vr 117, vi op, vj a, vu, vu] [] S js = _
    rw [w20b_0, e, e4, if_neg (by omega)]
    unfold yad
    show _ = yret q (vi (gI S 1)) (if gI S 1 < 400 then _ else S) js
    by_cases z : gI S 1 < 400
    · have h2 : 0 ≤ gI S 1 ∧ gI S 1 < 400 := ⟨h.1, z⟩
      simp only [z, h2, and_self, if_true]
    · rw [if_neg z, if_neg z]
theorem c24 {i : Int} (hu : u = 0 ∨ u = 1) (h : 0 ≤ gI S u ∧ gI S u ≤ capu u) (hi : -2147483648 ≤ i ∧ i < 2147483648) : Y q d 24 0 [vr (cu u), vi i] [] S js = yretv q (yaim S u i) js := by
  rcases hu with rfl | rfl
  · have h : 0 ≤ gI S 0 ∧ gI S 0 ≤ 4000 := h
    show Y q d 24 0 [vr 107, vi i] [] S js = _
    rw [w24_0, yr_eq (x := gI S 0) (by omega) (by omega), yr_eq hi.1 hi.2]
    unfold yaim
    repeat' split
    all_goals first | rfl | (exfalso; omega)
  · have h : 0 ≤ gI S 1 ∧ gI S 1 ≤ 400 := h
    show Y q d 24 0 [vr 117, vi i] [] S js = _
    rw [w24b_0, yr_eq (x := gI S 1) (by omega) (by omega), yr_eq hi.1 hi.2]
    unfold yaim
    repeat' split
    all_goals first | rfl | (exfalso; omega)
theorem c22 {k : Int} (hu : u = 0 ∨ u = 1) (h : 0 ≤ gI S u ∧ gI S u ≤ capu u) (hk : 1 ≤ k ∧ k ≤ 4) : Y q d 22 0 [vr (cu u), vi k] [] S js = yret q (vj (if k ≤ gI S u then gB S u (gI S u - k).toNat else 0)) S js := by
  rcases hu with rfl | rfl
  · have h : 0 ≤ gI S 0 ∧ gI S 0 ≤ 4000 := h
    show Y q d 22 0 [vr 107, vi k] [] S js = _
    rw [w22_0, yr_eq (x := gI S 0) (by omega) (by omega), yr_eq (x := k) (by omega) (by omega), yr_eq (x := gI S 0 - k) (by omega) (by omega)]
    repeat' split
    all_goals first | rfl | (exfalso; omega)
  · have h : 0 ≤ gI S 1 ∧ gI S 1 ≤ 400 := h
    show Y q d 22 0 [vr 117, vi k] [] S js = _
    rw [w22b_0, yr_eq (x := gI S 1) (by omega) (by omega), yr_eq (x := k) (by omega) (by omega), yr_eq (x := gI S 1 - k) (by omega) (by omega)]
    repeat' split
    all_goals first | rfl | (exfalso; omega)
theorem c23 {k : Int} {v : Int64} (hu : u = 0 ∨ u = 1) (h : 0 ≤ gI S u ∧ gI S u ≤ capu u) (hk : 1 ≤ k ∧ k ≤ 4) : Y q d 23 0 [vr (cu u), vi k, vj v, vu] [] S js = yretv q (yrep S u k v) js := by
  rcases hu with rfl | rfl
  · have h : 0 ≤ gI S 0 ∧ gI S 0 ≤ 4000 := h
    show Y q d 23 0 [vr 107, vi k, vj v, vu] [] S js = _
    rw [w23_0, yr_eq (x := gI S 0) (by omega) (by omega), yr_eq (x := k) (by omega) (by omega), yr_eq (x := gI S 0 - k) (by omega) (by omega)]
    unfold yrep
    repeat' split
    all_goals first | rfl | (exfalso; omega)
  · have h : 0 ≤ gI S 1 ∧ gI S 1 ≤ 400 := h
    show Y q d 23 0 [vr 117, vi k, vj v, vu] [] S js = _
    rw [w23b_0, yr_eq (x := gI S 1) (by omega) (by omega), yr_eq (x := k) (by omega) (by omega), yr_eq (x := gI S 1 - k) (by omega) (by omega)]
    unfold yrep
    repeat' split
    all_goals first | rfl | (exfalso; omega)
/-- what operators make of numbers -/
def ycal (op : Int) (a b : Int64) : Int64 := if op = 6 then a + b else if op = 7 then a - b else if op = 8 then a * b else if op = 9 then (if b = 0 then 0 else a / b) else if op = 10 then (if b = 0 then 0 else ylrem a b) else if op = 12 then (if a = b then 1 else 0) else if op = 13 then (if a = b then 0 else 1) else if op = 14 then (if a < b then 1 else 0) else if op = 15 then (if b < a then 1 else 0) else if op = 16 then (if b < a then 0 else 1) else if op = 17 then (if a < b then 0 else 1) else if op = 18 then (if a = 0 then 1 else 0) else if op = 19 then -a else if op = 25 then (if a < 0 then -a else a) else if op = 26 then (if a < b then a else b) else (if b < a then a else b)
end YCUL
end YCU
