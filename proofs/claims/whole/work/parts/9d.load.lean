/-! THE CLASS's MACHINE: loads; a step of the loop -/
section YCR
theorem yl2i_a64 {k : Nat} (h : k < 2147483648) : yl2i (ya64 k) = k := by
  unfold yl2i ya64
  rw [Int64.toInt_toInt32, yi2l_toInt, yr_eq (by omega) (by omega), Int.bmod_eq_of_le (by omega) (by omega)]
section YCRL
variable {q : yQ} {d : Nat} {js : List xO} {S : yS} {u n : Nat}
theorem c76_0 {z : Int64} (hu : u = 0 ∨ u = 1) (hn : n < 92) : ∃ S' : yS, Y q (d + 1) 76 0 [vr 118, vr (cu u), vi ((0 : Nat) : Int), vj z, vu, vi n, vu] [] S js = yretv q S' js ∧ yFs n S S' ∧ cV S' n (.inl z) := by
  obtain ⟨S', a1, a2, a3⟩ := c71 (q := q) (d := d) (js := js) (S := S) (n := n) (x := z) hn
  refine ⟨S', ?_, a2, a3⟩
  show Y q (d + 1) 76 0 [vr 118, vr (cu u), vi 0, vj z, vu, vi n, vu] [] S js = _
  rw [u76_0 hu, if_pos yr_0, a1, YB_retv, u76_47 hu]
theorem c76_1 {X : List (List Int)} {k : Nat} {l : List Int} (hu : u = 0 ∨ u = 1) (hn : n < 92) (hX : cX S u X) (hT : yTx X) (hl : X[k]? = some l) (hq : yT60 l) : ∃ S' : yS, Y q (d + 1) 76 0 [vr 118, vr (cu u), vi ((1 : Nat) : Int), vj (ya64 k), vu, vi n, vu] [] S js = yretv q S' js ∧ yFs n S S' ∧ cV S' n (.inr l) := by
  have hk := (List.getElem?_eq_some_iff.mp hl).1
  obtain ⟨S', a1, a2, a3⟩ := c77 (q := q) (d := d) (js := js) (S := S) (n := n) hu hn hX hT hl hq
  refine ⟨S', ?_, a2, a3⟩
  have e1 : yr 1 = 1 := rfl
  show Y q (d + 1) 76 0 [vr 118, vr (cu u), vi 1, vj (ya64 k), vu, vi n, vu] [] S js = _
  rw [u76_0 hu, e1]
  simp only [Int.reduceEq, if_true, if_false]
  have := hT.1
  rw [yl2i_a64 (by omega), a1, YB_retv, u76_59 hu]
theorem c76_v {op k : Nat} {v : yVal} (hu : u = 0 ∨ u = 1) (hn : n < 92) (h28 : 28 ≤ n) (h1 : 2 ≤ op) (h2 : op ≤ 5) (hk : k < 8) (hk2 : 8 * op + k < 43) (hv : cV S (8 * (op - 2) + k) v) : ∃ S' : yS, Y q (d + 1) 76 0 [vr 118, vr (cu u), vi op, vj (ya64 k), vu, vi n, vu] [] S js = yretv q S' js ∧ yFs n S S' ∧ cV S' n v := by
  obtain ⟨S', a1, a2, a3⟩ := c78 (q := q) (d := d) (js := js) (S := S) (f := 8 * (op - 2) + k) (t := n) (v := v) (by omega) hn (by omega) hv
  refine ⟨S', ?_, a2, a3⟩
  have e2 : yr 2 = 2 := rfl
  have e3 : yr 3 = 3 := rfl
  have e4 : yr 4 = 4 := rfl
  have e5 : yr 5 = 5 := rfl
  have ho : op = 2 ∨ op = 3 ∨ op = 4 ∨ op = 5 := by omega
  have ek := yl2i_a64 (k := k) (by omega)
  rcases ho with rfl | rfl | rfl | rfl
  · show Y q (d + 1) 76 0 [vr 118, vr (cu u), vi 2, vj (ya64 k), vu, vi n, vu] [] S js = _
    rw [u76_0 hu, e2]
    simp only [Int.reduceEq, if_true, if_false]
    rw [ek, show (0 : Int) + (k : Int) = ((8 * (2 - 2) + k : Nat) : Int) by omega, a1, YB_retv, u76_72 hu]
  · show Y q (d + 1) 76 0 [vr 118, vr (cu u), vi 3, vj (ya64 k), vu, vi n, vu] [] S js = _
    rw [u76_0 hu, e3]
    simp only [Int.reduceEq, if_true, if_false]
    rw [ek, show (8 : Int) + (k : Int) = ((8 * (3 - 2) + k : Nat) : Int) by omega, a1, YB_retv, u76_86 hu]
  · show Y q (d + 1) 76 0 [vr 118, vr (cu u), vi 4, vj (ya64 k), vu, vi n, vu] [] S js = _
    rw [u76_0 hu, e4]
    simp only [Int.reduceEq, if_true, if_false]
    rw [ek, show (16 : Int) + (k : Int) = ((8 * (4 - 2) + k : Nat) : Int) by omega, a1, YB_retv, u76_100 hu]
  · show Y q (d + 1) 76 0 [vr 118, vr (cu u), vi 5, vj (ya64 k), vu, vi n, vu] [] S js = _
    rw [u76_0 hu, e5]
    simp only [Int.reduceEq, if_true, if_false]
    rw [ek, show (24 : Int) + (k : Int) = ((8 * (5 - 2) + k : Nat) : Int) by omega, a1, YB_retv, u76_114 hu]
/-- how many operands -/
def yopn (op : Nat) : Nat := if op = 22 then 3 else if op = 18 ∨ op = 19 ∨ op = 20 ∨ op = 21 ∨ op = 23 ∨ op = 24 ∨ op = 25 then 1 else 2
theorem c79 {op : Nat} (h : op < 100) : Y q d 79 0 [vi op] [] S js = yret q (vi (yopn op)) S js := by
  have e : yr (op : Int) = op := yr_eq (by omega) (by omega)
  rw [w79_0, e]
  unfold yopn
  by_cases z : 18 ≤ op ∧ op ≤ 25
  · have hc : op = 18 ∨ op = 19 ∨ op = 20 ∨ op = 21 ∨ op = 22 ∨ op = 23 ∨ op = 24 ∨ op = 25 := by omega
    rcases hc with rfl | rfl | rfl | rfl | rfl | rfl | rfl | rfl <;> rfl
  · rw [if_neg (by omega), if_neg (by omega), if_neg (by omega), if_neg (by omega), if_neg (by omega), if_neg (by omega), if_neg (by omega), if_neg (by omega), if_neg (by omega), if_neg (by omega)]
    rfl
/-- what stands at the loop's head -/
theorem h75 {C : yCo} {pc i op : Nat} {z : Int64} {x0 : Int} {x4 x5 : yV} (hu : u = 0 ∨ u = 1) (hK : cK S u C) (hC : (C.length : Int) ≤ capu u) (hc : C[pc]? = some (op, z)) (ho : op < 30) (hn : n ≤ 63) (hi : i ≤ pc) : Y q (d + 1) 75 9 [vr 118, vr (cu u), vi x0, vi pc, vi ((27 + n : Nat) : Int), vi i, x4, x5, vu] [] S js = if (op : Int) = 28 then Y q (d + 1) 75 9 [vr 118, vr (cu u), vi x0, vi (yl2i z), vi ((27 + n : Nat) : Int), vi ((i + 1 : Nat) : Int), vi op, vj z, vu] [] S js else if (op : Int) = 29 then (if gB S 9 (27 + n) = 0 then Y q (d + 1) 75 9 [vr 118, vr (cu u), vi x0, vi (yl2i z), vi (((27 + n : Nat) : Int) + (-1)), vi ((i + 1 : Nat) : Int), vi op, vj z, vu] [] S js else Y q (d + 1) 75 9 [vr 118, vr (cu u), vi x0, vi ((pc + 1 : Nat) : Int), vi (((27 + n : Nat) : Int) + (-1)), vi ((i + 1 : Nat) : Int), vi op, vj z, vu] [] S js) else if 5 < (op : Int) then YB q (Y q d 79 0 [vi op] [] S js) (d + 1) 75 145 [vr 118, vr (cu u), vi x0, vi ((pc + 1 : Nat) : Int), vi ((27 + n : Nat) : Int), vi i, vi op, vj z, vu] [vi ((27 + n : Nat) : Int)] else YB q (Y q d 76 0 [vr 118, vr (cu u), vi op, vj z, vu, vi ((28 + n : Nat) : Int), vu] [] S js) (d + 1) 75 135 [vr 118, vr (cu u), vi x0, vi ((pc + 1 : Nat) : Int), vi ((28 + n : Nat) : Int), vi i, vi op, vj z, vu] [] := by
  have hpc := (List.getElem?_eq_some_iff.mp hc).1
  obtain ⟨k1, k2⟩ := hK
  obtain ⟨k3, k4⟩ := k2 pc _ hc
  have hcap : capu u ≤ 4000 := by rcases hu with rfl | rfl <;> decide
  have ei : yr (i : Int) = i := yr_eq (by omega) (by omega)
  have epc : yr (pc : Int) = pc := yr_eq (by omega) (by omega)
  have eC : yr (C.length : Int) = C.length := yr_eq (by omega) (by omega)
  have eo : yr (op : Int) = op := yr_eq (by omega) (by omega)
  have et : yr ((27 + n : Nat) : Int) = ((27 + n : Nat) : Int) := yr_eq (by omega) (by omega)
  have e4 : yr 4000 = 4000 := rfl
  have e30 : yr 30 = 30 := rfl
  have e27 : yr 27 = 27 := rfl
  have e91 : yr 91 = 91 := rfl
  have e28 : yr 28 = 28 := rfl
  have e29 : yr 29 = 29 := rfl
  have e5 : yr 5 = 5 := rfl
  have p1 : (i : Int) < 4000 := by omega
  have p2 : ¬ (pc : Int) < 0 := by omega
  have p3 : (pc : Int) < C.length := by omega
  have p4 : 0 ≤ (pc : Int) ∧ (pc : Int) < capu u := by omega
  have p5 : ¬ (op : Int) = 30 := by omega
  have p6 : ¬ ((27 + n : Nat) : Int) < 27 := by omega
  have p7 : ((27 + n : Nat) : Int) < 91 := by omega
  have p8 : 0 ≤ ((27 + n : Nat) : Int) ∧ ((27 + n : Nat) : Int) < 92 := by omega
  have q1 : (i : Int) + 1 = ((i + 1 : Nat) : Int) := by omega
  have q2 : (pc : Int) + 1 = ((pc + 1 : Nat) : Int) := by omega
  have q3 : ((27 + n : Nat) : Int) + 1 = ((28 + n : Nat) : Int) := by omega
  rw [u75_9 hu, ei, e4, if_pos p1, epc, if_neg p2, k1, eC, if_pos p3, if_pos p4, if_pos p4, Int.toNat_natCast, k3, k4, eo, e30, if_neg p5, et, e27, if_neg p6, e91, if_pos p7, e28, e29, e5, if_pos p8, Int.toNat_natCast, q1, q2, q3]
  simp only [yr_lcmp, ylcmp_eq]
/-- the code is at its end -/
theorem h75e {C : yCo} {pc i : Nat} {x0 : Int} {x4 x5 : yV} (hu : u = 0 ∨ u = 1) (hK : cK S u C) (hC : (C.length : Int) ≤ capu u) (hc : pc = C.length ∨ ∃ z, C[pc]? = some (30, z)) (hn : n ≤ 63) (hi : i ≤ pc) : Y q (d + 1) 75 9 [vr 118, vr (cu u), vi x0, vi pc, vi ((27 + n : Nat) : Int), vi i, x4, x5, vu] [] S js = yret q (vi 1) S js := by
  obtain ⟨k1, k2⟩ := hK
  have hcap : capu u ≤ 4000 := by rcases hu with rfl | rfl <;> decide
  have hle : pc ≤ C.length := by
    rcases hc with h | ⟨z, h⟩
    · omega
    · have := (List.getElem?_eq_some_iff.mp h).1
      omega
  have ei : yr (i : Int) = i := yr_eq (by omega) (by omega)
  have epc : yr (pc : Int) = pc := yr_eq (by omega) (by omega)
  have eC : yr (C.length : Int) = C.length := yr_eq (by omega) (by omega)
  have e4 : yr 4000 = 4000 := rfl
  have p2 : ¬ (pc : Int) < 0 := by omega
  have o1 : yr 1 = 0 ∨ yr 1 = 1 := Or.inr rfl
  rw [u75_9 hu, ei, e4]
  by_cases p1 : (i : Int) < 4000
  · rw [if_pos p1, epc, if_neg p2, k1, eC]
    rcases hc with h | ⟨z, h⟩
    · rw [if_neg (show ¬ (pc : Int) < C.length by omega), if_pos o1]
    · have hpc := (List.getElem?_eq_some_iff.mp h).1
      obtain ⟨k3, k4⟩ := k2 pc _ h
      have p4 : 0 ≤ (pc : Int) ∧ (pc : Int) < capu u := by omega
      rw [if_pos (show (pc : Int) < C.length by omega), if_pos p4, if_pos p4, Int.toNat_natCast, k3, if_pos (show yr ((30 : Nat) : Int) = yr 30 from rfl), if_pos o1]
  · rw [if_neg p1, if_pos o1]
end YCRL
end YCR
