/-! ALL TOKENS: the reference's loop -/
section YRW
section YRWL
variable {q : yQ} {d : Nat} {js : List xO}
theorem r207a {b : Nat → Int} {n : Nat} (hn2 : n ≤ 2000) : ∀ (f k c : Nat) (S : yS) (x : yV), (∀ i, i < n → gA S 37 i = b i ∧ 0 ≤ b i ∧ b i ≤ 255) → (∀ j : Nat, j < 46 → gB S 10 j = yKw j) → gI S 40 = n → gI S 43 = c → n + 1 < k + f → k ≤ n + 1 → c ≤ k → c ≤ n → ∃ S', Y q (d + 6) 207 31 [vr 129, vi k, x] [] S js = yretv q S' js ∧ yFr yWr S S' ∧ ySameR c S S' ∧ yHoldR S' c (ytoks b n f k) ∧ gI S' 43 = (c : Int) + (ytoks b n f k).length ∧ gI S' 43 ≤ 2001
  | 0, k, c, S, x, hb, hk, hn, hc, hf, hkn, hck, hcn => by omega
  | f + 1, k, c, S, x, hb, hk, hn, hc, hf, hkn, hck, hcn => by
    have hx := r208 (q := q) (d := d + 5) (js := js) hn hn2 (fun i hi => (hb i hi).1) (k := k) (by omega)
    have e32 : yr 32 = 32 := rfl
    have e10 : yr 10 = 10 := rfl
    have em : yr (-1) = -1 := rfl
    unfold ytoks
    by_cases z : n ≤ k
    · rw [if_neg (by omega)] at hx
      have hat := yatR_at (S := S) (kd := 203) (st := (n : Int)) (v := 0) (z := 0) hc
      refine ⟨yatR S 203 n 0 0, ?_, yatR_fr _ _ _ _ _, yatR_same hc, ?_, ?_, ?_⟩
      · rw [w207_31, hx, YB_ret, w207_36, em, e32, if_neg (by omega), hx, YB_ret, w207_46, em, e10, if_neg (by omega), hx, YB_ret, w207_62, em, if_pos rfl, r209 (by omega), YB_retv, w207_81, hn, r207h (c := c) k _ (by rw [yatR_43]; omega) (by omega) (by rw [hat.1]; omega), hat.1, if_neg (by omega)]
      · rw [if_pos z]
        intro j t ht
        match j with
        | 0 =>
          cases ht
          refine ⟨hat.1, hat.2.1, fun u => ?_, fun u => ?_⟩
          · rcases u with u | u <;> cases u
          · cases u
        | j + 1 => simp at ht
      · rw [if_pos z, yatR_43, hc]
        rfl
      · rw [yatR_43]
        omega
    · obtain ⟨hb0, hb1, hb2⟩ := hb k (by omega)
      rw [if_pos (by omega)] at hx
      have eb : yr (b k) = b k := yr_eq (by omega) (by omega)
      have ek1 : (k : Int) + 1 = ((k + 1 : Nat) : Int) := by omega
      rw [if_neg z, w207_31, hx, YB_ret, w207_36, eb, e32, hx, YB_ret, w207_46, eb, e10, hx, YB_ret, ek1]
      by_cases y : b k = 32 ∨ b k = 10
      · have ih := r207a (b := b) hn2 f (k + 1) c S x hb hk hn hc (by omega) (by omega) (by omega) hcn
        rw [if_pos y]
        rcases y with y | y
        · rw [if_pos y]; exact ih
        · rw [if_neg (by omega), if_pos y]; exact ih
      · obtain ⟨nx, v, w, e, g1, g2, g3⟩ := r207t (q := q) (d := d) (js := js) x hn hn2 (by omega) hb hk (a := k) (by omega)
        have hat := yatR_at (S := S) (kd := ykR (ytk1 b n k).1) (st := (k : Int)) (v := v) (z := w) hc
        have hkd := ykR_lt (ytk1_kind (b := b) (n := n) (k := k))
        have hnx := ytk1_next (b := b) (n := n) (k := k) (by omega)
        rw [if_neg y, if_neg (fun w => y (Or.inl w)), if_neg (fun w => y (Or.inr w)), e, r207h (c := c) nx _ (by rw [yatR_43]; omega) (by omega) (by rw [hat.1]; omega), hat.1]
        by_cases u : (ytk1 b n k).1 = 66
        · rw [if_neg (fun t => hkd.2.2.mp t u), if_pos u]
          refine ⟨_, rfl, yatR_fr _ _ _ _ _, yatR_same hc, ?_, ?_, by rw [yatR_43]; omega⟩
          · intro j t ht
            match j with
            | 0 =>
              cases ht
              rw [Nat.add_zero]
              exact ⟨hat.1, hat.2.1, fun t => hat.2.2.1.trans (g2 t), fun t => ⟨hat.2.2.1.trans (g3 t).1, by rw [hat.2.2.2]; exact (g3 t).2.1, by rw [hat.2.2.2]; exact (g3 t).2.2.1, by rw [hat.2.2.2]; exact (g3 t).2.2.2⟩⟩
            | j + 1 => simp at ht
          · rw [yatR_43, hc]
            rfl
        · rw [if_pos (hkd.2.2.mpr u), if_neg u, g1 u]
          obtain ⟨S', e2, r1, r2, r3, r4, r5⟩ := r207a (b := b) hn2 f (ytk1 b n k).2.2 (c + 1) (yatR S (ykR (ytk1 b n k).1) k v w) (vi (b k)) hb hk hn (by rw [yatR_43]; omega) (by omega) (by omega) (by omega) (by omega)
          have hs := r2 c (by omega)
          refine ⟨S', e2, yFr_tr (yatR_fr _ _ _ _ _) r1, ySameR_tr (yatR_same hc) (ySameR_mo r2 (by omega)), ?_, ?_, r5⟩
          · intro j t ht
            match j with
            | 0 =>
              cases ht
              rw [Nat.add_zero]
              exact ⟨hs.1.trans hat.1, hs.2.1.trans hat.2.1, fun t => hs.2.2.1.trans (hat.2.2.1.trans (g2 t)), fun t => ⟨hs.2.2.1.trans (hat.2.2.1.trans (g3 t).1), by rw [hs.2.2.2, hat.2.2.2]; exact (g3 t).2.1, by rw [hs.2.2.2, hat.2.2.2]; exact (g3 t).2.2.1, by rw [hs.2.2.2, hat.2.2.2]; exact (g3 t).2.2.2⟩⟩
            | j + 1 =>
              rw [List.getElem?_cons_succ] at ht
              have ej : c + (j + 1) = c + 1 + j := by omega
              rw [ej]
              exact r3 j t ht
          · rw [r4, List.length_cons]
            omega
/-- all tokens -/
theorem r207 {S : yS} {n : Nat} {b : Nat → Int} (hn : gI S 40 = n) (hn2 : n ≤ 2000) (hb : ∀ i, i < n → gA S 37 i = b i ∧ 0 ≤ b i ∧ b i ≤ 255) (hk : ∀ j : Nat, j < 46 → gB S 10 j = yKw j) : ∃ S', Y q (d + 6) 207 0 [vr 129, vu, vu] [] S js = yretv q S' js ∧ yFr yWr S S' ∧ yHoldR S' 0 (ytoks b n (n + 2) 0) ∧ gI S' 43 = (ytoks b n (n + 2) 0).length ∧ gI S' 43 ≤ 2001 := by
  obtain ⟨S', e, r1, r2, r3, r4, r5⟩ := r207a (q := q) (d := d) (js := js) (b := b) hn2 (n + 2) 0 0 (sI S 43 0) vu hb hk hn rfl (by omega) (by omega) (by omega) (by omega)
  refine ⟨S', ?_, yFr_tr (yFr_I rfl) r1, r3, by omega, r5⟩
  have e0 : yr (gI (sI S 43 0) 43) = 0 := rfl
  rw [w207_0, w207_7, if_pos e0]
  exact e
end YRWL
/-- there is a token, the last is the end or none -/
theorem ytoks_ne {b : Nat → Int} {n : Nat} : ∀ (f k : Nat), n + 1 < k + f → k ≤ n + 1 → ∃ (T : List (Nat × Nat × Int64)) (t : Nat × Nat × Int64), ytoks b n f k = T ++ [t] ∧ (t.1 = 65 ∨ t.1 = 66) ∧ (∀ u, u ∈ T → u.1 ≤ 64) ∧ (∀ u, u ∈ T ++ [t] → u.2.1 ≤ n ∧ u.1 < 67)
  | 0, k, h, hk => by omega
  | f + 1, k, h, hk => by
    unfold ytoks
    by_cases z : n ≤ k
    · rw [if_pos z]
      refine ⟨[], (65, n, 0), rfl, Or.inl rfl, fun u hu => (by cases hu), fun u hu => ?_⟩
      rcases List.mem_singleton.mp hu with rfl
      exact ⟨Nat.le_refl n, by show 65 < 67; omega⟩
    · rw [if_neg z]
      by_cases y : b k = 32 ∨ b k = 10
      · rw [if_pos y]
        exact ytoks_ne f (k + 1) (by omega) (by omega)
      · have hx := ytk1_next (b := b) (n := n) (k := k) (by omega)
        have hkd := ytk1_kind (b := b) (n := n) (k := k)
        rw [if_neg y]
        by_cases u : (ytk1 b n k).1 = 66
        · rw [if_pos u]
          refine ⟨[], _, rfl, Or.inr u, fun u hu => (by cases hu), fun w hw => ?_⟩
          rcases List.mem_singleton.mp hw with rfl
          exact ⟨by show k ≤ n; omega, hx.2.1⟩
        · rw [if_neg u]
          obtain ⟨T, t, e, h1, h2, h3⟩ := ytoks_ne (b := b) (n := n) f (ytk1 b n k).2.2 (by omega) (by omega)
          refine ⟨((ytk1 b n k).1, k, (ytk1 b n k).2.1) :: T, t, by rw [e]; rfl, h1, fun w hw => ?_, fun w hw => ?_⟩
          · rcases List.mem_cons.mp hw with rfl | hw
            · show (ytk1 b n k).1 ≤ 64
              omega
            · exact h2 w hw
          · rcases List.mem_cons.mp hw with rfl | hw
            · exact ⟨by show k ≤ n; omega, hx.2.1⟩
            · exact h3 w hw
theorem ytoks_cg {f g : Nat → Int} {n : Nat} (h : ∀ i, i < n → f i = g i) : ∀ (m k : Nat), ytoks f n m k = ytoks g n m k
  | 0, k => rfl
  | m + 1, k => by
    have ere : ∀ (p : Int → Bool) (j i : Nat), i + j = n → yre p f j i = yre p g j i := by
      intro p j
      induction j with
      | zero => intro i hi; rfl
      | succ j ih =>
        intro i hi
        unfold yre
        rw [h i (by omega), ih (i + 1) (by omega)]
    have et : k < n → ytk1 f n k = ytk1 g n k := by
      intro hk
      have e1 := ere pLD (n - k) k (by omega)
      have e2 := ere pD (n - k) k (by omega)
      have e3 := ere pQ (n - (k + 1)) (k + 1) (by omega)
      have r1 := yre_rng (p := pLD) (b := g) (m := n - k) (k := k)
      have r2 := yre_rng (p := pD) (b := g) (m := n - k) (k := k)
      have enu : ∀ (j i : Nat) (w : Int64), i + j ≤ n → ynu f i j w = ynu g i j w := by
        intro j
        induction j with
        | zero => intro i w hi; rfl
        | succ j ih =>
          intro i w hi
          unfold ynu
          rw [h i (by omega), ih (i + 1) _ (by omega)]
      have e4 : ywd f k (yre pLD g (n - k) k - k) 0 = ywd g k (yre pLD g (n - k) k - k) 0 := ywd_cg fun i i1 i2 => h i (by omega)
      have e5 : ynu f k (yre pD g (n - k) k - k) 0 = ynu g k (yre pD g (n - k) k - k) 0 := enu _ _ _ (by omega)
      have e6 : (if k + 1 < n then f (k + 1) else 0) = if k + 1 < n then g (k + 1) else 0 := by
        by_cases z : k + 1 < n
        · rw [if_pos z, if_pos z, h _ z]
        · rw [if_neg z, if_neg z]
      have e7 : (yre pQ g (n - (k + 1)) (k + 1) < n ∧ f (yre pQ g (n - (k + 1)) (k + 1)) = 34) = (yre pQ g (n - (k + 1)) (k + 1) < n ∧ g (yre pQ g (n - (k + 1)) (k + 1)) = 34) := by
        by_cases z : yre pQ g (n - (k + 1)) (k + 1) < n
        · rw [h _ z]
        · exact propext ⟨fun w => (z w.1).elim, fun w => (z w.1).elim⟩
      unfold ytk1
      simp only [e1, e2, e3, e4, e5, e6, e7, h k hk]
    unfold ytoks
    by_cases z : n ≤ k
    · rw [if_pos z, if_pos z]
    · rw [if_neg z, if_neg z, et (by omega), h k (by omega), ytoks_cg h m, ytoks_cg h m]
end YRW
