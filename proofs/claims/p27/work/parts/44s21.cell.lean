/-! taken from whole by wip/p27/slice.py: 9q.cell.lean.txt -/
section YCE
theorem ybt_n (w : Int64) {j : Nat} (hj : j ≤ 7) : (ybt w j).toInt = ((w.toBitVec.toNat / 256 ^ j % 256 : Nat) : Int) := by
  unfold ybt
  rw [and255_nat]
  have k : ∀ s : Nat, (w.toBitVec >>> s).toNat = w.toBitVec.toNat / 2 ^ s := fun s => by rw [BitVec.toNat_ushiftRight, Nat.shiftRight_eq_div_pow]
  match j, hj with
  | 0, _ => exact congrArg (fun z : Nat => ((z % 256 : Nat) : Int)) (k 0)
  | 1, _ => exact congrArg (fun z : Nat => ((z % 256 : Nat) : Int)) (k 8)
  | 2, _ => exact congrArg (fun z : Nat => ((z % 256 : Nat) : Int)) (k 16)
  | 3, _ => exact congrArg (fun z : Nat => ((z % 256 : Nat) : Int)) (k 24)
  | 4, _ => exact congrArg (fun z : Nat => ((z % 256 : Nat) : Int)) (k 32)
  | 5, _ => exact congrArg (fun z : Nat => ((z % 256 : Nat) : Int)) (k 40)
  | 6, _ => exact congrArg (fun z : Nat => ((z % 256 : Nat) : Int)) (k 48)
  | 7, _ => exact congrArg (fun z : Nat => ((z % 256 : Nat) : Int)) (k 56)
def yOkN (W : Nat) : Prop := ∀ j, W / 256 ^ j % 256 = 0 ∨ (32 ≤ W / 256 ^ j % 256 ∧ W / 256 ^ j % 256 ≤ 126)
/-- a cell's text -/
def ycl (W : Nat) : Nat → List Int
  | 0 => []
  | n + 1 => if W / 256 ^ n % 256 = 0 then ycl W n else ((W / 256 ^ n % 256 : Nat) : Int) :: ycl W n
section YCEL
variable {q : yQ} {d : Nat} {js : List xO} {S : yS} {n : Nat}
theorem cV_add {l : List Int} {y : Int} (hv : cV S n (.inr l)) (hl : l.length < 60) (hy : 0 ≤ y ∧ y ≤ 127) : yFs n S (sA (sA S 32 (60 * n + l.length) y) 31 n ((l.length + 1 : Nat) : Int)) ∧ cV (sA (sA S 32 (60 * n + l.length) y) 31 n ((l.length + 1 : Nat) : Int)) n (.inr (l ++ [y])) := by
  obtain ⟨v1, v2, v3, v4⟩ := hv
  refine ⟨yFs_tr (yFs_32 (by omega)) yFs_31, v1, ?_, by rw [List.length_append]; show l.length + 1 ≤ 60; omega, fun i w hi => ?_⟩
  · rw [gA_self, if_pos rfl, List.length_append]
    rfl
  · show gA (sA S 32 (60 * n + l.length) y) 32 (60 * n + i) = w ∧ 0 ≤ w ∧ w ≤ 127
    rw [gA_self]
    have hi2 := (List.getElem?_eq_some_iff.mp hi).1
    rw [List.length_append] at hi2
    have hi2 : i < l.length + 1 := hi2
    by_cases z2 : i < l.length
    · rw [List.getElem?_append_left z2] at hi
      rw [if_neg (by omega)]
      exact v4 i w hi
    · have ei : i = l.length := by omega
      subst ei
      rw [List.getElem?_append_right (Nat.le_refl _), Nat.sub_self] at hi
      have ew : y = w := Option.some.inj hi
      rw [if_pos rfl, ← ew]
      exact ⟨rfl, hy⟩
theorem c73l (hn : n < 92) {w : Int64} (ho : yOkN w.toBitVec.toNat) : ∀ (m : Nat) (l : List Int) (S : yS) (x3 : yV), m ≤ 8 → cV S n (.inr l) → l.length + m ≤ 60 → ∃ S' : yS, Y q d 73 10 [vr 124, vi n, vj w, vu, vi (8 * (m : Int) - 8), x3] [] S js = yretv q S' js ∧ yFs n S S' ∧ cV S' n (.inr (l ++ ycl w.toBitVec.toNat m))
  | 0, l, S, x3, _, hv, _ => by
    rw [w73_10, if_pos (by decide)]
    exact ⟨S, rfl, yFs_rf _ _, by rw [show ycl w.toBitVec.toNat 0 = [] from rfl, List.append_nil]; exact hv⟩
  | m + 1, l, S, x3, hm, hv, hl => by
    have e : (8 * ((m + 1 : Nat) : Int) - 8) = 8 * m := by omega
    have e2 : (8 * (m : Int) + -8) = 8 * m - 8 := by omega
    have en : yr (n : Int) = n := yr_eq (by omega) (by omega)
    have h92 : 0 ≤ (n : Int) ∧ (n : Int) < 92 := by omega
    have hb : yand (yl2i (ylushr w (8 * (m : Int)))) 255 = ((w.toBitVec.toNat / 256 ^ m % 256 : Nat) : Int) := by
      rw [yand_l2i]
      exact ybt_n w (by omega)
    have hok := ho m
    generalize hB : w.toBitVec.toNat / 256 ^ m % 256 = B at hb hok
    have eB : yr (B : Int) = B := yr_eq (by omega) (by omega)
    have es : ycl w.toBitVec.toNat (m + 1) = if B = 0 then ycl w.toBitVec.toNat m else (B : Int) :: ycl w.toBitVec.toNat m := by
      rw [← hB]
      rfl
    rw [e, w73_10, if_neg (by rw [yr_eq] <;> omega), e2, hb, eB, es]
    by_cases z : B = 0
    · rw [if_pos (by omega), if_pos z]
      exact c73l hn ho m l S _ (by omega) hv (by omega)
    · have el : gA S 31 n = l.length := hv.2.1
      have ex : yr ((n : Int) * 60 + l.length) = ((60 * n + l.length : Nat) : Int) := by rw [yr_eq] <;> omega
      have eb1 : yi2b (B : Int) = B := yi2b_eq (by omega)
      have eb : yi2b (yi2b (B : Int)) = B := by rw [eb1, eb1]
      have ep : (l.length : Int) + 1 = ((l.length + 1 : Nat) : Int) := by omega
      rw [if_neg (by omega), if_neg z, en, if_pos h92, Int.toNat_natCast, el, ex, if_pos (by omega), if_pos h92, if_pos h92, Int.toNat_natCast, eb, ep]
      obtain ⟨f1, f2⟩ := cV_add (y := (B : Int)) hv (by omega) (by omega)
      obtain ⟨S', a1, a2, a3⟩ := c73l hn ho m (l ++ [(B : Int)]) _ (vi (B : Int)) (by omega) f2 (by rw [List.length_append]; show l.length + 1 + m ≤ 60; omega)
      rw [List.append_assoc] at a3
      exact ⟨S', a1, yFs_tr f1 a2, a3⟩
theorem c73 (hn : n < 92) {w : Int64} (ho : yOkN w.toBitVec.toNat) : ∃ S' : yS, Y q (d + 1) 73 0 [vr 124, vi n, vj w, vu, vu, vu] [] S js = yretv q S' js ∧ yFs n S S' ∧ cV S' n (.inr (ycl w.toBitVec.toNat 8)) := by
  obtain ⟨S1, a1, a2, a3⟩ := c74 (q := q) (d := d) (js := js) (S := S) (n := n) (x := 1) (Or.inr rfl) hn
  obtain ⟨S', b1, b2, b3⟩ := c73l (q := q) (d := d + 1) (js := js) hn ho 8 [] S1 vu (by omega) a3 (by show 0 + 8 ≤ 60; omega)
  refine ⟨S', ?_, yFs_tr a2 b2, b3⟩
  rw [w73_0, a1, YB_retv, w73_6]
  exact b1
end YCEL
end YCE
