/-! taken from whole by wip/p27/slice2.py: 54c.rloop.lean.txt -/
section YRW
section YRWL
variable {q : yQ} {d : Nat} {js : List xO}
end YRWL
/-- there is a token, the last is the end or none -/
theorem ytoks_ne {b : Nat → Int} {n : Nat} : ∀ (f k : Nat), n + 1 < k + f → k ≤ n + 1 → ∃ (T : List (Nat × Nat × Int64)) (t : Nat × Nat × Int64), ytoks b n f k = T ++ [t] ∧ (t.1 = 65 ∨ t.1 = 66) ∧ (∀ u, u ∈ T → u.1 ≤ 64) ∧ (∀ u, u ∈ T ++ [t] → u.2.1 ≤ n ∧ u.1 < 67)
  | 0, k, h, hk => by omega
  | f + 1, k, h, hk => by
    unfold ytoks
    by_cases z : n ≤ k
    · rw [if_pos z]
      refine ⟨[], (65, n, 0), rfl, Or.inl rfl, fun u hu => (by cases hu), fun u hu => ?_⟩
      rcases List.mem_singleton.mp hu with rfl
      exact ⟨Nat.le_refl n, by show 65 < 67; omega⟩
    · rw [if_neg z]
      by_cases y : b k = 32 ∨ b k = 10
      · rw [if_pos y]
        exact ytoks_ne f (k + 1) (by omega) (by omega)
      · have hx := ytk1_next (b := b) (n := n) (k := k) (by omega)
        have hkd := ytk1_kind (b := b) (n := n) (k := k)
        rw [if_neg y]
        by_cases u : (ytk1 b n k).1 = 66
        · rw [if_pos u]
          refine ⟨[], _, rfl, Or.inr u, fun u hu => (by cases hu), fun w hw => ?_⟩
          rcases List.mem_singleton.mp hw with rfl
          exact ⟨by show k ≤ n; omega, hx.2.1⟩
        · rw [if_neg u]
          obtain ⟨T, t, e, h1, h2, h3⟩ := ytoks_ne (b := b) (n := n) f (ytk1 b n k).2.2 (by omega) (by omega)
          refine ⟨((ytk1 b n k).1, k, (ytk1 b n k).2.1) :: T, t, by rw [e]; rfl, h1, fun w hw => ?_, fun w hw => ?_⟩
          · rcases List.mem_cons.mp hw with rfl | hw
            · show (ytk1 b n k).1 ≤ 64
              omega
            · exact h2 w hw
          · rcases List.mem_cons.mp hw with rfl | hw
            · exact ⟨by show k ≤ n; omega, hx.2.1⟩
            · exact h3 w hw
end YRW
