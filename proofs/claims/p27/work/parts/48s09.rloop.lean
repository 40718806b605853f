/-! taken from whole by wip/p27/slice2.py: 54c.rloop.lean.txt -/
section YRW
section YRWL
variable {q : yQ} {d : Nat} {js : List xO}
end YRWL
/-- there is a token, the last is the end or none -/
theorem ytoks_ne {b : Nat → Int} {n : Nat} : ∀ (f k : Nat), n + 1 < k + f → k ≤ n + 1 → ∃ (T : List (Nat × Nat × Int64)) (t : Nat × Nat × Int64), ytoks b n f k = T ++ [t] ∧ (t.1 = 65 ∨ t.1 = 66) ∧ (∀ u, u ∈ T → u.1 ≤ 64) ∧ (∀ u, u ∈ T ++ [t] → u.2.1 ≤ n ∧ u.1 < 67)
  | 0, k, h, hk => by omega
  | f + 1, k, h, hk => by
    unfold ytoks
    by_cases z : n ≤ k
    · rw [if_pos z]
      refine ⟨[], (65, n, 0), rfl, Or.inl rfl, fun u hu => (by cases hu), fun u hu => ?_⟩
      rcases List.mem_singleton.mp hu with rfl
      exact ⟨Nat.le_refl n, by show 65 < 67; omega⟩
    · rw [if_neg z]
      by_cases y : b k = 32 ∨ b k = 10
      · rw [if_pos y]
        exact ytoks_ne f (k + 1) (by omega) (by omega)
      · have hx := ytk1_next (b := b) (n := n) (k := k) (by omega)
        have hkd := ytk1_kind (b := b) (n := n) (k := k)
        rw [if_neg y]
        by_cases u : (ytk1 b n k).1 = 66
        · rw [if_pos u]
          refine ⟨[], _, rfl, Or.inr u, fun u hu => (by cases hu), fun w hw => ?_⟩
          rcases List.mem_singleton.mp hw with rfl
          exact ⟨by show k ≤ n; omega, hx.2.1⟩
        · rw [if_neg u]
          obtain ⟨T, t, e, h1, h2, h3⟩ := ytoks_ne (b := b) (n := n) f (ytk1 b n k).2.2 (by omega) (by omega)
          refine ⟨((ytk1 b n k).1, k, (ytk1 b n k).2.1) :: T, t, by rw [e]; rfl, h1, fun w hw => ?_, fun w hw => ?_⟩
          · rcases List.mem_cons.mp hw with rfl | hw
            · show (ytk1 b n k).1 ≤ 64
              omega
            · exact h2 w hw
          · rcases List.mem_cons.mp hw with rfl | hw
            · exact ⟨by show k ≤ n; omega, hx.2.1⟩
            · exact h3 w hw
theorem ytoks_cg {f g : Nat → Int} {n : Nat} (h : ∀ i, i < n → f i = g i) : ∀ (m k : Nat), ytoks f n m k = ytoks g n m k
  | 0, k => rfl
  | m + 1, k => by
    have ere : ∀ (p : Int → Bool) (j i : Nat), i + j = n → yre p f j i = yre p g j i := by
      intro p j
      induction j with
      | zero => intro i hi; rfl
      | succ j ih =>
        intro i hi
        unfold yre
        rw [h i (by omega), ih (i + 1) (by omega)]
    have et : k < n → ytk1 f n k = ytk1 g n k := by
      intro hk
      have e1 := ere pLD (n - k) k (by omega)
      have e2 := ere pD (n - k) k (by omega)
      have e3 := ere pQ (n - (k + 1)) (k + 1) (by omega)
      have r1 := yre_rng (p := pLD) (b := g) (m := n - k) (k := k)
      have r2 := yre_rng (p := pD) (b := g) (m := n - k) (k := k)
      have enu : ∀ (j i : Nat) (w : Int64), i + j ≤ n → ynu f i j w = ynu g i j w := by
        intro j
        induction j with
        | zero => intro i w hi; rfl
        | succ j ih =>
          intro i w hi
          unfold ynu
          rw [h i (by omega), ih (i + 1) _ (by omega)]
      have e4 : ywd f k (yre pLD g (n - k) k - k) 0 = ywd g k (yre pLD g (n - k) k - k) 0 := ywd_cg fun i i1 i2 => h i (by omega)
      have e5 : ynu f k (yre pD g (n - k) k - k) 0 = ynu g k (yre pD g (n - k) k - k) 0 := enu _ _ _ (by omega)
      have e6 : (if k + 1 < n then f (k + 1) else 0) = if k + 1 < n then g (k + 1) else 0 := by
        by_cases z : k + 1 < n
        · rw [if_pos z, if_pos z, h _ z]
        · rw [if_neg z, if_neg z]
      have e7 : (yre pQ g (n - (k + 1)) (k + 1) < n ∧ f (yre pQ g (n - (k + 1)) (k + 1)) = 34) = (yre pQ g (n - (k + 1)) (k + 1) < n ∧ g (yre pQ g (n - (k + 1)) (k + 1)) = 34) := by
        by_cases z : yre pQ g (n - (k + 1)) (k + 1) < n
        · rw [h _ z]
        · exact propext ⟨fun w => (z w.1).elim, fun w => (z w.1).elim⟩
      unfold ytk1
      simp only [e1, e2, e3, e4, e5, e6, e7, h k hk]
    unfold ytoks
    by_cases z : n ≤ k
    · rw [if_pos z, if_pos z]
    · rw [if_neg z, if_neg z, et (by omega), h k (by omega), ytoks_cg h m, ytoks_cg h m]
end YRW
