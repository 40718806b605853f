/-! taken from whole by wip/p27/slice2.py: 53.rtok.lean.txt -/
section YRT
theorem yre_all {p : Int → Bool} {b : Nat → Int} : ∀ {m k : Nat} (i : Nat), k ≤ i → i < yre p b m k → p (b i) = true
  | 0, k, i, h1, h2 => by
    have : yre p b 0 k = k := rfl
    omega
  | m + 1, k, i, h1, h2 => by
    unfold yre at h2
    split at h2
    · rename_i hp
      by_cases e : i = k
      · rw [e]; exact hp
      · exact yre_all i (by omega) h2
    · omega
theorem yKf_le (w : Int64) : yKf w ≤ 62 := by
  have h0 : ∀ k, k < 4 → yKw (63 + k) = yKw 62 := by decide +kernel
  unfold yKf
  have e : yfind yKw w 67 0 = if yfind yKw w 63 0 = -1 then yfind yKw w 4 (0 + 63) else yfind yKw w 63 0 := yfind_add 63 4 0
  rw [e]
  rcases yfind_none (f := yKw) (w := w) (n := 63) (i := 0) with z | ⟨k, k1, k2, k3, k4⟩
  · rw [if_pos z]
    have : yfind yKw w 4 (0 + 63) = -1 := yfind_no fun k k1 k2 e => by
      have h1 := h0 (k - 63) (by omega)
      have e2 : 63 + (k - 63) = k := by omega
      rw [e2, e] at h1
      rcases yfind_none (f := yKw) (w := w) (n := 63) (i := 0) with y | ⟨j, j1, j2, j3, j4⟩
      · have e3 : yfind yKw w 63 0 = if yfind yKw w 62 0 = -1 then yfind yKw w 1 (0 + 62) else yfind yKw w 62 0 := yfind_add 62 1 0
        have e4 : yfind yKw w 1 (0 + 62) = 62 := by
          rw [yfind_s, if_pos h1.symm]
          rfl
        rw [e4] at e3
        by_cases u : yfind yKw w 62 0 = -1
        · rw [if_pos u] at e3; omega
        · rw [if_neg u] at e3; omega
      · omega
    rw [this, if_pos rfl]
    omega
  · rw [k3, if_neg (by omega), if_neg (by omega)]
    omega
theorem ySp : ∀ x : Nat, x < 256 → yKf ((ylshl (yi2l 60) 8) ||| yi2l x) = (if x = 61 then 59 else if x = 62 then 61 else 62) ∧ yKf ((ylshl (yi2l 62) 8) ||| yi2l x) = (if x = 61 then 60 else 62) := by decide +kernel
section YRTL
variable {q : yQ} {d : Nat} {js : List xO} {S : yS}
end YRTL
end YRT
