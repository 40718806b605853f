/-! taken from whole by wip/p27/slice2.py: 54b.rall.lean.txt -/
section YRV
theorem ytk1_kind {b : Nat → Int} {n k : Nat} : (ytk1 b n k).1 ≤ 64 ∨ (ytk1 b n k).1 = 66 := by
  unfold ytk1
  by_cases z1 : yL (b k)
  · rw [if_pos z1]
    split
    · exact Or.inr rfl
    · exact Or.inl (by have := yKf_le (ywd b k (yre pLD b (n - k) k - k) 0); show yKf _ ≤ 64; omega)
  · rw [if_neg z1]
    by_cases z2 : 48 ≤ b k ∧ b k ≤ 57
    · rw [if_pos z2]
      split
      · exact Or.inr rfl
      · exact Or.inl (by show 63 ≤ 64; omega)
    · rw [if_neg z2]
      by_cases z3 : b k = 34
      · rw [if_pos z3]
        split
        · exact Or.inl (by show 64 ≤ 64; omega)
        · exact Or.inr rfl
      · rw [if_neg z3]
        generalize (if k + 1 < n then b (k + 1) else 0) = nx
        split
        · exact Or.inl (by have := yKf_le ((ylshl (yi2l (b k)) 8) ||| yi2l nx); show yKf _ ≤ 64; omega)
        · split
          · exact Or.inr rfl
          · exact Or.inl (by have := yKf_le (yi2l (b k)); show yKf _ ≤ 64; omega)
section YRVL
variable {q : yQ} {d : Nat} {js : List xO}
end YRVL
end YRV
