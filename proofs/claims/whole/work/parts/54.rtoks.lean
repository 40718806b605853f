/-! ALL TOKENS: the reference, the rest -/
section YRU
theorem e32 : (32 : Int64) = yi2l 32 := by decide
theorem e126 : (126 : Int64) = yi2l 126 := by decide
section YRUL
variable {q : yQ} {d : Nat} {js : List xO} {S : yS}
/-- a text -/
theorem r212a {n a : Nat} {b : Nat → Int} (hn : gI S 40 = n) (hn2 : n ≤ 2000) (h43 : 0 ≤ gI S 43 ∧ gI S 43 ≤ 2000) (hb : ∀ i, i < n → gA S 37 i = b i ∧ 0 ≤ b i ∧ b i ≤ 255) (ha : a < n) : ∀ (m k : Nat), k + m = n → a + 1 ≤ k → Y q (d + 2) 212 4 [vr 129, vi a, vi k, vu] [] S js = yret q (vi (yre pQ b m k + 1 : Nat)) (yatR S (if (yre pQ b m k < n ∧ b (yre pQ b m k) = 34) ∧ yre pQ b m k - a - 1 ≤ 20 then 202 else 204) a (yi2l ((a : Int) + 1)) ((yre pQ b m k : Nat) - a - 1)) js := by
  have stop : ∀ k : Nat, a + 1 ≤ k → k ≤ n → YB q (Y q (d + 1) 208 0 [vr 129, vi k] [] S js) (d + 2) 212 40 [vr 129, vi a, vi k, vu] [] = yret q (vi (k + 1 : Nat)) (yatR S (if (k < n ∧ b k = 34) ∧ k - a - 1 ≤ 20 then 202 else 204) a (yi2l ((a : Int) + 1)) ((k : Nat) - a - 1)) js := by
    intro k h2 h3
    have e34 : yr 34 = 34 := rfl
    have e20 : yr 20 = 20 := rfl
    have z1 : ¬ yr 1 = 0 := by decide
    have z0 : yr 0 = 0 := rfl
    have ek : yr ((k : Int) - a - 1) = (k : Int) - a - 1 := yr_eq (by omega) (by omega)
    have e1 : (k : Int) + 1 = ((k + 1 : Nat) : Int) := by omega
    rw [r208 hn hn2 (fun i hi => (hb i hi).1) (by omega), YB_ret, w212_43, e34, e20, ek, if_neg z1, if_pos z0]
    simp only [r209 h43, YB_retv, Nat.reduceAdd, w212_91, e1]
    by_cases z : k < n
    · obtain ⟨hk, hk1, hk2⟩ := hb k z
      rw [if_pos z, yr_eq (x := b k) (by omega) (by omega)]
      by_cases z2 : b k = 34
      · rw [if_pos z2]
        by_cases z3 : k - a - 1 ≤ 20
        · rw [if_neg (by omega), if_pos ⟨⟨z, z2⟩, z3⟩]
        · have zz : ¬ ((k < n ∧ b k = 34) ∧ k - a - 1 ≤ 20) := fun y => z3 y.2
          rw [if_pos (by omega), if_neg zz]
      · have zz : ¬ ((k < n ∧ b k = 34) ∧ k - a - 1 ≤ 20) := fun y => z2 y.1.2
        rw [if_neg z2, if_neg zz]
    · have zz : ¬ ((k < n ∧ b k = 34) ∧ k - a - 1 ≤ 20) := fun y => z y.1.1
      rw [if_neg z, if_neg zz, if_neg (by decide)]
  intro m
  induction m with
  | zero =>
    intro k h hk
    have hx := r208 (q := q) (d := d + 1) (js := js) hn hn2 (fun i hi => (hb i hi).1) (k := k) (by omega)
    rw [if_neg (by omega)] at hx
    rw [w212_4, hx, YB_ret, w212_9, r191i (l := 32) (u := 126) e32 e126 (by omega) (by omega) (by omega), YB_ret, w212_19, stop k hk (by omega)]
    simp only [yr_yb, yb_eq0]
    rw [if_pos (by omega)]
    rfl
  | succ m ih =>
    intro k h hk
    obtain ⟨hk0, hk1, hk2⟩ := hb k (by omega)
    have hx := r208 (q := q) (d := d + 1) (js := js) hn hn2 (fun i hi => (hb i hi).1) (k := k) (by omega)
    rw [if_pos (by omega)] at hx
    have e1 : (k : Int) + 1 = ((k + 1 : Nat) : Int) := by omega
    have e34 : yr 34 = 34 := rfl
    have hs := stop k hk (by omega)
    rw [w212_4, hx, YB_ret, w212_9, r191i (l := 32) (u := 126) e32 e126 (by omega) (by omega) (by omega), YB_ret, w212_19, hs, hx, YB_ret, w212_27, hs, e34, yr_eq (x := b k) (by omega) (by omega), e1, ih (k + 1) (by omega) (by omega)]
    simp only [yr_yb, yb_eq0]
    have zz : pQ (b k) = true ↔ 32 ≤ b k ∧ b k ≤ 126 ∧ b k ≠ 34 := by unfold pQ; rw [decide_eq_true_eq]
    cases z : pQ (b k) with
    | true =>
      have ey : yre pQ b (m + 1) k = yre pQ b m (k + 1) := by
        conv => lhs; unfold yre
        rw [z]
      have z' := zz.mp z
      rw [ey, if_neg (by omega), if_neg z'.2.2]
    | false =>
      have ey : yre pQ b (m + 1) k = k := by
        conv => lhs; unfold yre
        rw [z]
      have z' : ¬ (32 ≤ b k ∧ b k ≤ 126 ∧ b k ≠ 34) := fun y => by rw [zz.mpr y] at z; cases z
      rw [ey]
      by_cases z1 : 32 ≤ b k ∧ b k ≤ 126
      · rw [if_neg (fun y => y z1), if_pos (by omega)]
      · rw [if_pos z1]
/-- a symbol -/
theorem r213 {n a : Nat} {b : Nat → Int} (hn : gI S 40 = n) (hn2 : n ≤ 2000) (h43 : 0 ≤ gI S 43 ∧ gI S 43 ≤ 2000) (hb : ∀ i, i < n → gA S 37 i = b i ∧ 0 ≤ b i ∧ b i ≤ 255) (ha : a < n) : Y q (d + 5) 213 0 [vr 129, vi a, vu, vu, vu] [] S js = if (b a = 60 ∨ b a = 62) ∧ yKf ((ylshl (yi2l (b a)) 8) ||| yi2l (if a + 1 < n then b (a + 1) else 0)) ≠ 62 then yret q (vi (a + 2 : Nat)) (yatR S (ykR (yKf ((ylshl (yi2l (b a)) 8) ||| yi2l (if a + 1 < n then b (a + 1) else 0)))) a 0 0) js else yret q (vi (a + 1 : Nat)) (yatR S (ykR (if yKf (yi2l (b a)) = 62 then 66 else yKf (yi2l (b a)))) a 0 0) js := by
  obtain ⟨ha0, ha1, ha2⟩ := hb a ha
  have hx := r208 (q := q) (d := d + 4) (js := js) hn hn2 (fun i hi => (hb i hi).1) (k := a) (by omega)
  have hx2 := r208 (q := q) (d := d + 4) (js := js) hn hn2 (fun i hi => (hb i hi).1) (k := a + 1) (by omega)
  have e1 : (a : Int) + 1 = ((a + 1 : Nat) : Int) := by omega
  rw [if_pos ha] at hx
  have hnx : ∃ x : Nat, x < 256 ∧ (if a + 1 < n then b (a + 1) else 0) = (x : Int) ∧ ((if a + 1 < n then b (a + 1) else -1) = 61 ↔ x = 61) ∧ ((if a + 1 < n then b (a + 1) else -1) = 62 ↔ x = 62) ∧ -1 ≤ (if a + 1 < n then b (a + 1) else -1) ∧ (if a + 1 < n then b (a + 1) else -1) ≤ 255 := by
    by_cases z : a + 1 < n
    · obtain ⟨h0, h1, h2⟩ := hb (a + 1) z
      rw [if_pos z, if_pos z]
      exact ⟨(b (a + 1)).toNat, by omega, by omega, by omega, by omega, by omega, by omega⟩
    · rw [if_neg z, if_neg z]
      exact ⟨0, by omega, rfl, by omega, by omega, by omega, by omega⟩
  obtain ⟨x, x1, x2, x3, x4, x5, x6⟩ := hnx
  have sp := ySp x x1
  obtain ⟨c, hc⟩ : ∃ c : Nat, b a = (c : Int) := ⟨(b a).toNat, by omega⟩
  have sg := ySg c (by omega)
  have single : ∀ z w : yV, w = w → z = z → YB q (Y q (d + 4) 328 0 [vr 71, vi (b a)] [] S js) (d + 5) 213 88 [vr 129, vi a, vi (b a), vi (if a + 1 < n then b (a + 1) else -1), vu] [] = yret q (vi (a + 1 : Nat)) (yatR S (ykR (if yKf (yi2l (b a)) = 62 then 66 else yKf (yi2l (b a)))) a 0 0) js := by
    intro _ _ _ _
    rw [r328 ⟨ha1, ha2⟩, YB_ret, w213_91, r209 h43, YB_retv, w213_116, r209 h43, YB_retv, w213_116, e1]
    rw [hc]
    rcases sg with ⟨g1, g2⟩ | ⟨g1, g2, g3⟩
    · rw [g1, g2, if_pos (by decide), if_pos rfl]
      rfl
    · have g4 : ¬ yKf (yi2l (c : Int)) = 62 := by omega
      rw [if_neg (by rw [yr_eq] <;> omega), if_neg g4]
      have g5 : ykR (yKf (yi2l (c : Int))) = 100 + yfi ySyl (yi2b (c : Int)) 13 0 := by
        unfold ykR
        rw [if_neg (by omega), if_pos (by omega)]
        omega
      rw [g5]
  have sng := single vu vu rfl rfl
  rw [w213_0, hx, YB_ret, w213_5, e1, hx2, YB_ret, w213_13, sng]
  simp only [r209 h43, YB_retv, Nat.reduceAdd, w213_81]
  have f60 : yr 60 = 60 := rfl
  have f61 : yr 61 = 61 := rfl
  have f62 : yr 62 = 62 := rfl
  have fa : yr (b a) = b a := yr_eq (by omega) (by omega)
  have fx : yr (if a + 1 < n then b (a + 1) else -1) = if a + 1 < n then b (a + 1) else -1 := yr_eq (by omega) (by omega)
  have e2 : (a : Int) + 2 = ((a + 2 : Nat) : Int) := by omega
  rw [f60, f61, f62, fa, fx, x2, e2]
  generalize (if a + 1 < n then b (a + 1) else -1) = y at x3 x4 ⊢
  by_cases h60 : b a = 60
  · have h62 : ¬ b a = 62 := by omega
    rw [h60] at sng ⊢
    by_cases y61 : y = 61
    · have hk : yKf ((ylshl (yi2l 60) 8) ||| yi2l (x : Int)) = 59 := by rw [sp.1, if_pos (x3.mp y61)]
      have hP : ((60 : Int) = 60 ∨ (60 : Int) = 62) ∧ (59 : Nat) ≠ 62 := ⟨Or.inl rfl, by decide⟩
      rw [hk, if_pos hP]
      simp only [y61, if_true, Int.reduceEq, if_false]
      rfl
    · by_cases y62 : y = 62
      · have hk : yKf ((ylshl (yi2l 60) 8) ||| yi2l (x : Int)) = 61 := by rw [sp.1, if_neg (fun w => y61 (x3.mpr w)), if_pos (x4.mp y62)]
        have hP : ((60 : Int) = 60 ∨ (60 : Int) = 62) ∧ (61 : Nat) ≠ 62 := ⟨Or.inl rfl, by decide⟩
        rw [hk, if_pos hP]
        simp only [y62, if_true, Int.reduceEq, if_false]
        rfl
      · have hk : yKf ((ylshl (yi2l 60) 8) ||| yi2l (x : Int)) = 62 := by rw [sp.1, if_neg (fun w => y61 (x3.mpr w)), if_neg (fun w => y62 (x4.mpr w))]
        have hP : ¬ (((60 : Int) = 60 ∨ (60 : Int) = 62) ∧ (62 : Nat) ≠ 62) := fun w => w.2 rfl
        rw [hk, if_neg hP]
        simp only [y61, y62, if_true, Int.reduceEq, if_false]
  · by_cases h62 : b a = 62
    · rw [h62] at sng ⊢
      by_cases y61 : y = 61
      · have hk : yKf ((ylshl (yi2l 62) 8) ||| yi2l (x : Int)) = 60 := by rw [sp.2, if_pos (x3.mp y61)]
        have hP : ((62 : Int) = 60 ∨ (62 : Int) = 62) ∧ (60 : Nat) ≠ 62 := ⟨Or.inr rfl, by decide⟩
        rw [hk, if_pos hP]
        simp only [y61, if_true, Int.reduceEq, if_false]
        rfl
      · have hk : yKf ((ylshl (yi2l 62) 8) ||| yi2l (x : Int)) = 62 := by rw [sp.2, if_neg (fun w => y61 (x3.mpr w))]
        have hP : ¬ (((62 : Int) = 60 ∨ (62 : Int) = 62) ∧ (62 : Nat) ≠ 62) := fun w => w.2 rfl
        rw [hk, if_neg hP]
        simp only [y61, if_true, Int.reduceEq, if_false]
    · have hP : ¬ ((b a = 60 ∨ b a = 62) ∧ yKf ((ylshl (yi2l (b a)) 8) ||| yi2l (x : Int)) ≠ 62) := fun w => w.1.elim h60 h62
      rw [if_neg hP]
      simp only [h60, h62, if_false]
end YRUL
end YRU
