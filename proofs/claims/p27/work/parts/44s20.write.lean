/-! taken from whole by wip/p27/slice.py: 9b.write.lean.txt -/
section YCW
theorem ysl_succ {X : List (List Int)} {k : Nat} {l : List Int} (h : X[k]? = some l) : ysl X (k + 1) = ysl X k + l.length := by
  unfold ysl
  rw [List.take_add_one, h, List.map_append, List.sum_append]
  rfl
/-- a text that is written down in a unit -/
def yTx (X : List (List Int)) : Prop := X.length ≤ 1000 ∧ ysl X X.length ≤ 2000
def yT60 (l : List Int) : Prop := l.length ≤ 60 ∧ ∀ y ∈ l, 0 ≤ y ∧ y ≤ 127
section YCWL
variable {q : yQ} {d : Nat} {js : List xO} {S : yS} {u n : Nat}
theorem c77l (hu : u = 0) {k a len : Nat} (hn : n < 92) (hl : len ≤ 60) (ha : a + len ≤ 2000) : ∀ (m i : Nat) (S : yS), gA S 31 n = i → i + m = len → (∀ j, j < len → 0 ≤ gA S (2 + u) (a + j) ∧ gA S (2 + u) (a + j) ≤ 127) → ∃ S' : yS, Y q d 77 49 [vr 124, vi n, vr (cu u), vi k, vi a, vi ((a + len : Nat) : Int), vi ((a + i : Nat) : Int)] [] S js = yretv q S' js ∧ yFs n S S' ∧ gA S' 30 = gA S 30 ∧ gA S' 31 n = len ∧ ∀ j, gA S' 32 j = if 60 * n + i ≤ j ∧ j < 60 * n + len then gA S (2 + u) (a + (j - 60 * n)) else gA S 32 j
  | 0, i, S, h, hi, hb => by
    have e1 : yr ((a + len : Nat) : Int) = ((a + len : Nat) : Int) := yr_eq (by omega) (by omega)
    have e2 : yr ((a + i : Nat) : Int) = ((a + i : Nat) : Int) := yr_eq (by omega) (by omega)
    rw [u77_49 hu, e1, e2, if_neg (by omega)]
    exact ⟨S, rfl, yFs_rf _ _, rfl, by rw [h]; omega, fun j => by rw [if_neg (by omega)]⟩
  | m + 1, i, S, h, hi, hb => by
    have e1 : yr ((a + len : Nat) : Int) = ((a + len : Nat) : Int) := yr_eq (by omega) (by omega)
    have e2 : yr ((a + i : Nat) : Int) = ((a + i : Nat) : Int) := yr_eq (by omega) (by omega)
    have en : yr (n : Int) = n := yr_eq (by omega) (by omega)
    have h92 : 0 ≤ (n : Int) ∧ (n : Int) < 92 := by omega
    have ei : yr (i : Int) = i := yr_eq (by omega) (by omega)
    have e60 : yr 60 = 60 := rfl
    have ex : yr ((n : Int) * 60 + i) = ((60 * n + i : Nat) : Int) := by rw [yr_eq] <;> omega
    have k1 : ((a + i : Nat) : Int) < ((a + len : Nat) : Int) := by omega
    have k2 : (i : Int) < 60 := by omega
    have k3 : 0 ≤ ((a + i : Nat) : Int) ∧ ((a + i : Nat) : Int) < 2000 := by omega
    have k4 : 0 ≤ ((60 * n + i : Nat) : Int) ∧ ((60 * n + i : Nat) : Int) < 5520 := by omega
    obtain ⟨b1, b2⟩ := hb i (by omega)
    have ep : ((a + i : Nat) : Int) + 1 = ((a + (i + 1) : Nat) : Int) := by omega
    have ep2 : (i : Int) + 1 = ((i + 1 : Nat) : Int) := by omega
    have ne : 2 + u ≠ 31 := by omega
    have ne2 : 2 + u ≠ 32 := by omega
    rw [u77_49 hu, e1, e2, if_pos k1, en, if_pos h92, Int.toNat_natCast, h, ei, e60, if_pos k2, if_pos h92, if_pos k3, ex, if_pos k4, if_pos h92, if_pos h92, Int.toNat_natCast, Int.toNat_natCast, yi2b_eq ⟨by omega, b2⟩, ep, ep2]
    obtain ⟨S1, hS1⟩ : ∃ S1, S1 = sA (sA S 32 (60 * n + i) (gA S (2 + u) (a + i))) 31 n ((i + 1 : Nat) : Int) := ⟨_, rfl⟩
    have g32 : ∀ j, gA S1 32 j = if j = 60 * n + i then gA S (2 + u) (a + i) else gA S 32 j := fun j => by
      rw [hS1]
      exact gA_self S 32 _ _ j
    have g31 : gA S1 31 n = ((i + 1 : Nat) : Int) := by rw [hS1, gA_self, if_pos rfl]
    have g30 : gA S1 30 = gA S 30 := by rw [hS1]; rfl
    have gB : gA S1 (2 + u) = gA S (2 + u) := by rw [hS1, gA_ne _ _ _ _ ne, gA_ne _ _ _ _ ne2]
    have fr : yFs n S S1 := by
      rw [hS1]
      exact yFs_tr (yFs_32 (by omega)) yFs_31
    obtain ⟨S', a1, a2, a3, a4, a5⟩ := c77l hu (k := k) hn hl ha m (i + 1) S1 g31 (by omega) (fun j hj => by rw [gB]; exact hb j hj)
    rw [← hS1]
    refine ⟨S', a1, yFs_tr fr a2, a3.trans g30, a4, fun j => ?_⟩
    rw [a5 j, g32, gB]
    by_cases z1 : 60 * n + (i + 1) ≤ j ∧ j < 60 * n + len
    · rw [if_pos z1, if_pos (show 60 * n + i ≤ j ∧ j < 60 * n + len by omega)]
    · rw [if_neg z1]
      by_cases z2 : j = 60 * n + i
      · rw [if_pos z2, if_pos (by omega), z2, show a + (60 * n + i - 60 * n) = a + i by omega]
      · rw [if_neg z2, if_neg (by omega)]
theorem c77 (hu : u = 0) {X : List (List Int)} {k : Nat} {l : List Int} (hn : n < 92) (hX : cX S u X) (hT : yTx X) (hl : X[k]? = some l) (hq : yT60 l) : ∃ S' : yS, Y q d 77 0 [vr 124, vi n, vr (cu u), vi k, vu, vu, vu] [] S js = yretv q S' js ∧ yFs n S S' ∧ cV S' n (.inr l) := by
  obtain ⟨x1, x2, x3⟩ := hX
  obtain ⟨t1, t2⟩ := hT
  obtain ⟨t4, t5⟩ := hq
  have hk := (List.getElem?_eq_some_iff.mp hl).1
  have en : yr (n : Int) = n := yr_eq (by omega) (by omega)
  have h92 : 0 ≤ (n : Int) ∧ (n : Int) < 92 := by omega
  have ek : yr (k : Int) = k := yr_eq (by omega) (by omega)
  have ek1 : yr ((k : Int) + 1) = ((k + 1 : Nat) : Int) := by rw [yr_eq] <;> omega
  have eX : yr (X.length : Int) = X.length := yr_eq (by omega) (by omega)
  have k0 : ¬ (k : Int) < 0 := by omega
  have k1 : (k : Int) < X.length := by omega
  have k2 : 0 ≤ (k : Int) ∧ (k : Int) < 1001 := by omega
  have k3 : 0 ≤ ((k + 1 : Nat) : Int) ∧ ((k + 1 : Nat) : Int) < 1001 := by omega
  have cap : ysl X k + l.length ≤ 2000 := by
    match hz : l.length with
    | 0 =>
      have e := ysl_succ hl
      rw [hz] at e
      by_cases z : k + 1 = X.length
      · rw [z] at e
        omega
      · have h2 : k + 1 < X.length := by omega
        have := x2 (k + 1) (by omega)
        have mo : ∀ (m : Nat), ysl X (X.length - m) ≤ ysl X X.length := by
          intro m
          unfold ysl
          rw [List.take_of_length_le (Nat.le_refl X.length)]
          have := List.take_append_drop (X.length - m) X
          have e2 : (X.map List.length).sum = ((X.take (X.length - m)).map List.length).sum + ((X.drop (X.length - m)).map List.length).sum := by
            rw [← List.sum_append, ← List.map_append, this]
          omega
        have := mo (X.length - k)
        rw [show X.length - (X.length - k) = k by omega] at this
        omega
    | p + 1 =>
      have := ysl_mono X k l p hl (by omega)
      omega
  have ne31 : 2 + u ≠ 31 := by omega
  have ne30 : 2 + u ≠ 30 := by omega
  rw [u77_0 hu, en, if_pos h92, if_pos h92, ek, if_neg k0, x1, eX, if_pos k1, if_pos k2, ek1, if_pos k3, Int.toNat_natCast, Int.toNat_natCast, Int.toNat_natCast, x2 k (by omega), x2 (k + 1) (by omega), ysl_succ hl, yi2z_1]
  obtain ⟨S1, hS1⟩ : ∃ S1, S1 = sA (sA S 30 n 1) 31 n 0 := ⟨_, rfl⟩
  have fr : yFs n S S1 := by
    rw [hS1]
    exact yFs_tr yFs_30 yFs_31
  have g31 : gA S1 31 n = ((0 : Nat) : Int) := by
    rw [hS1, gA_self, if_pos rfl]
    rfl
  have g30 : gA S1 30 n = 1 := by
    rw [hS1]
    show gA (sA S 30 n 1) 30 n = 1
    rw [gA_self, if_pos rfl]
  have gB : gA S1 (2 + u) = gA S (2 + u) := by rw [hS1, gA_ne _ _ _ _ ne31, gA_ne _ _ _ _ ne30]
  obtain ⟨S', a1, a2, a3, a4, a5⟩ := c77l (q := q) (d := d) (js := js) hu (k := k) (a := ysl X k) (len := l.length) hn t4 cap l.length 0 S1 g31 (by omega) (fun j hj => by
    have := x3 k l j l[j] hl (List.getElem?_eq_getElem hj)
    rw [gB, this]
    exact t5 _ (List.getElem_mem hj))
  rw [← hS1]
  refine ⟨S', a1, yFs_tr fr a2, by rw [a3, g30], a4, t4, fun i y hi => ?_⟩
  have hli := (List.getElem?_eq_some_iff.mp hi).1
  rw [a5, if_pos (by omega), gB, show ysl X k + (60 * n + i - 60 * n) = ysl X k + i by omega, x3 k l i y hl hi]
  exact ⟨rfl, t5 y (List.mem_of_getElem? hi)⟩
end YCWL
end YCW
