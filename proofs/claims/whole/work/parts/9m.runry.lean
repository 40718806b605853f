/-! THE REFERENCE's MACHINE: one operand -/
section YRU
section YRUL
variable {q : yQ} {d : Nat} {js : List xO} {S : yS} {n : Nat}
theorem yabs_e (x : Int64) : yabs x x.toInt.natAbs := by
  unfold yabs
  omega
theorem yabs_le (x : Int64) : x.toInt.natAbs ≤ 9223372036854775808 := by
  have r1 := Int64.le_toInt x
  have r2 := Int64.toInt_lt x
  omega
theorem r271_1 {op : Nat} {v : yVal} (hf : yft1 op v) (hn : n + 1 < 128) (hp : gI S 63 = ((n + 1 : Nat) : Int)) (hv : rV S n v) : ∃ S' : yS, Y q (d + 2) 271 0 [vr 129, vi op, vu, vu, vu, vu] [] S js = yretv q S' js ∧ rPs n S S' (yO1 op v) := by
  have e1 : ((n + 1 : Nat) : Int) - 1 = (n : Int) := by omega
  have en : yr (n : Int) = n := yr_eq (by omega) (by omega)
  have k1 : 0 ≤ (n : Int) ∧ (n : Int) < 128 := by omega
  have fin : ∀ r : Int64, gA S 57 n = -1 → rPs n S (sB S 16 n r) (.inl r) := fun r h => ⟨rFs_16, hp, h, by rw [gB_self, if_pos rfl]⟩
  match v, hf, hv with
  | .inl x, hf, hv =>
    have hf : op = 18 ∨ op = 19 ∨ op = 23 ∨ op = 24 ∨ op = 25 := hf
    rcases hf with rfl | rfl | rfl | rfl | rfl
    · show ∃ S' : yS, Y q (d + 2) 271 0 [vr 129, vi 18, vu, vu, vu, vu] [] S js = yretv q S' js ∧ rPs n S S' (.inl (if x = 0 then 1 else 0))
      have eo : yr 18 = 18 := rfl
      rw [w271_0, hp, e1, en, if_pos k1, Int.toNat_natCast, eo, if_pos rfl, hv.2]
      simp only [yr_lcmp, ylcmp_eq]
      by_cases z : x = 0
      · rw [if_pos z, if_pos z, if_pos k1]
        exact ⟨_, rfl, fin 1 hv.1⟩
      · rw [if_neg z, if_neg z, if_pos k1]
        exact ⟨_, rfl, fin 0 hv.1⟩
    · show ∃ S' : yS, Y q (d + 2) 271 0 [vr 129, vi 19, vu, vu, vu, vu] [] S js = yretv q S' js ∧ rPs n S S' (.inl (-x))
      have eo : yr 19 = 19 := rfl
      rw [w271_0, hp, e1, en, if_pos k1, Int.toNat_natCast, eo]
      simp only [Int.reduceEq, if_true, if_false]
      rw [if_pos k1, hv.2]
      exact ⟨_, rfl, fin _ hv.1⟩
    · show ∃ S' : yS, Y q (d + 2) 271 0 [vr 129, vi 23, vu, vu, vu, vu] [] S js = yretv q S' js ∧ rPs n S S' (.inr (ydgt x))
      have eo : yr 23 = 23 := rfl
      obtain ⟨S1, a1, a2, a3, a4, a5⟩ := r262 (q := q) (d := d + 1) (js := js) (S := S) (n := n) (by omega)
      obtain ⟨S', c1, c2, c3, c4⟩ := r273 (q := q) (d := d) (js := js) (n := n) (by omega) (lea := 1) (yabs_e x) (yabs_le x) (Or.inl rfl) a5
      have hl := ydgt_le x
      refine ⟨S', ?_, rFs_tr a2 c2, (c3.trans a3).trans hp, ?_⟩
      · rw [w271_0, hp, e1, en, if_pos k1, Int.toNat_natCast, eo]
        simp only [Int.reduceEq, if_true, if_false]
        have c1 : Y q (d + 1) 273 0 [vr 129, vi n, vj x, vu, vi 1, vu, vu, vu] [] S1 js = yretv q S' js := c1
        rw [hv.2, a1, YB_retv, w271_182, c1, YB_retv, w271_189]
      · have c4 : rV S' n (.inr ((ydgt x).take 60)) := c4
        rw [List.take_of_length_le hl] at c4
        exact c4
    · show ∃ S' : yS, Y q (d + 2) 271 0 [vr 129, vi 24, vu, vu, vu, vu] [] S js = yretv q S' js ∧ rPs n S S' (.inr (ymny x))
      have eo : yr 24 = 24 := rfl
      have z0 : (0 : Int64).toInt = 0 := by decide
      have z100 : (100 : Int64).toInt = ((100 : Nat) : Int) := by decide
      have n100 : ¬ (100 : Int64) = 0 := by decide
      have hM := yabs_le x
      obtain ⟨M, hMd⟩ : ∃ M, M = x.toInt.natAbs := ⟨_, rfl⟩
      have hx : yabs x M := by rw [hMd]; exact yabs_e x
      rw [← hMd] at hM
      have ha1 : (yabsl (x / 100)).toInt = ((M / 100 : Nat) : Int) := by
        refine yabsl_e ?_ (by omega)
        rcases hx with h | h
        · exact Or.inl ((ydivp z100 (by omega)).1 h)
        · exact Or.inr ((ydivp z100 (by omega)).2 h)
      have ha2 : (yabsl (ylrem x 100)).toInt = ((M % 100 : Nat) : Int) := by
        refine yabsl_e ?_ (by omega)
        rcases hx with h | h
        · exact Or.inl ((yremp z100 (by omega)).1 h)
        · exact Or.inr ((yremp z100 (by omega)).2 h)
      obtain ⟨S1, a1, a2, a3, a4, a5⟩ := r262 (q := q) (d := d + 1) (js := js) (S := S) (n := n) (by omega)
      -- the sign
      obtain ⟨S2, b1, b2, b3, b4⟩ : ∃ S2 : yS, Y q (d + 2) 271 197 [vr 129, vi 24, vi n, vj x, vu, vu] [] S1 js = YB q (Y q (d + 1) 273 0 [vr 129, vi n, vj (yabsl (x / 100)), vu, vi 1, vu, vu, vu] [] S2 js) (d + 2) 271 221 [vr 129, vi 24, vi n, vj x, vu, vu] [] ∧ rFs n S1 S2 ∧ gI S2 63 = gI S1 63 ∧ rV S2 n (.inr (if x.toInt < 0 then [45] else [])) := by
        rw [w271_197]
        simp only [yr_lcmp, ylcmp_lt, Int64.lt_iff_toInt_lt, z0]
        by_cases z : x.toInt < 0
        · obtain ⟨S2, b1, b2, b3, b4, _⟩ := r263 (q := q) (d := d + 1) (js := js) (n := n) (by omega) a5 (y := 45) (by omega)
          rw [if_pos z, if_pos z, b1, YB_retv, w271_210, if_neg n100]
          exact ⟨S2, rfl, b2, b3, b4⟩
        · rw [if_neg z, if_neg z, if_neg n100]
          exact ⟨S1, rfl, rFs_rf _ _, rfl, a5⟩
      obtain ⟨S3, c1, c2, c3, c4⟩ := r273 (q := q) (d := d) (js := js) (n := n) (by omega) (lea := 1) (Or.inl ha1) (by omega) (Or.inl rfl) b4
      obtain ⟨S4, d1, d2, d3, d4, _⟩ := r263 (q := q) (d := d + 1) (js := js) (n := n) (by omega) c4 (y := 46) (by omega)
      obtain ⟨S5, f1, f2, f3, f4⟩ := r273 (q := q) (d := d) (js := js) (n := n) (by omega) (lea := 2) (Or.inl ha2) (by omega) (Or.inr ⟨rfl, by omega⟩) d4
      refine ⟨S5, ?_, rFs_tr a2 (rFs_tr b2 (rFs_tr c2 (rFs_tr d2 f2))), (f3.trans (d3.trans (c3.trans (b3.trans a3)))).trans hp, ?_⟩
      · have c1 : Y q (d + 1) 273 0 [vr 129, vi n, vj (yabsl (x / 100)), vu, vi 1, vu, vu, vu] [] S2 js = yretv q S3 js := c1
        have f1 : Y q (d + 1) 273 0 [vr 129, vi n, vj (yabsl (ylrem x 100)), vu, vi 2, vu, vu, vu] [] S4 js = yretv q S5 js := f1
        rw [w271_0, hp, e1, en, if_pos k1, Int.toNat_natCast, eo]
        simp only [Int.reduceEq, if_true, if_false]
        rw [hv.2, a1, YB_retv, b1, c1, YB_retv, w271_224, d1, YB_retv, w271_231, if_neg n100, f1, YB_retv, w271_245]
      · have hl := ymny_le x
        have s1 : (if (yabsl (x / 100)).toInt < 0 then [45] else []) = ([] : List Int) := if_neg (by rw [ha1]; omega)
        have s2 : (if (yabsl (ylrem x 100)).toInt < 0 then [45] else []) = ([] : List Int) := if_neg (by rw [ha2]; omega)
        rw [s1, s2, if_pos rfl, if_neg (show ¬ 2 = 1 by decide), List.nil_append, List.nil_append, ytake_app, List.append_assoc (List.take 60 _), ytake_app, ← List.append_assoc] at f4
        have et : (if x.toInt < 0 then [45] else []) ++ ydgs 30 (M / 100) [] ++ [46] ++ ydl (M % 100) 2 = ymny x := by
          unfold ymny
          rw [← hMd, List.append_assoc _ [46]]
          have e : ydl (M % 100) 2 = [48 + ((M % 100 / 10 : Nat) : Int), 48 + ((M % 10 : Nat) : Int)] := by
            show [48 + ((M % 100 / 10 ^ 1 % 10 : Nat) : Int), 48 + ((M % 100 / 10 ^ 0 % 10 : Nat) : Int)] = _
            have q1 : M % 100 / 10 ^ 1 % 10 = M % 100 / 10 := by omega
            have q2 : M % 100 / 10 ^ 0 % 10 = M % 10 := by omega
            rw [q1, q2]
          rw [e]
          rfl
        rw [et, List.take_of_length_le hl] at f4
        exact f4
    · show ∃ S' : yS, Y q (d + 2) 271 0 [vr 129, vi 25, vu, vu, vu, vu] [] S js = yretv q S' js ∧ rPs n S S' (.inl (if x < 0 then -x else x))
      have eo : yr 25 = 25 := rfl
      rw [w271_0, hp, e1, en, if_pos k1, Int.toNat_natCast, eo]
      simp only [Int.reduceEq, if_true, if_false, yr_lcmp, ylcmp_lt]
      rw [if_pos k1, hv.2]
      by_cases z : x < 0
      · rw [if_pos z, if_pos z]
        exact ⟨_, rfl, fin _ hv.1⟩
      · rw [if_neg z, if_neg z, if_pos k1]
        exact ⟨_, rfl, fin _ hv.1⟩
  | .inr l, hf, hv =>
    have hf : (op = 20 ∨ op = 21) ∧ l.length ≤ 60 := hf
    rcases hf.1 with rfl | rfl
    · show ∃ S' : yS, Y q (d + 2) 271 0 [vr 129, vi 20, vu, vu, vu, vu] [] S js = yretv q S' js ∧ rPs n S S' (.inl (yi2l l.length))
      have eo : yr 20 = 20 := rfl
      rw [w271_0, hp, e1, en, if_pos k1, Int.toNat_natCast, eo]
      simp only [Int.reduceEq, if_true, if_false]
      rw [if_pos k1, if_pos k1, if_pos k1, hv.1]
      refine ⟨_, rfl, rFs_tr rFs_16 rFs_57, hp, ?_, ?_⟩
      · rw [gA_self, if_pos rfl]
      · show gB (sB S 16 n (yi2l l.length)) 16 n = _
        rw [gB_self, if_pos rfl]
    · show ∃ S' : yS, Y q (d + 2) 271 0 [vr 129, vi 21, vu, vu, vu, vu] [] S js = yretv q S' js ∧ rPs n S S' (.inr (yupp l))
      have eo : yr 21 = 21 := rfl
      have e60 : 60 * (n : Int) = ((60 * n + 0 : Nat) : Int) := by omega
      rw [w271_0, hp, e1, en, if_pos k1, Int.toNat_natCast, eo]
      simp only [Int.reduceEq, if_true, if_false]
      obtain ⟨S', a1, a2, a3, a4, a5⟩ := r271u (q := q) (d := d) (js := js) (n := n) (by omega) (x0 := 21) (x2 := gB S 16 n) l.length 0 S (by rw [hv.1, Nat.zero_add]) (by omega) (fun k hk => by
        obtain ⟨w1, w2⟩ := hv.2.2 k _ (List.getElem?_eq_getElem (by omega))
        rw [w1]
        exact w2)
      rw [e60]
      exact ⟨S', a1, a2, a3.trans hp, rV_upp hv a4 a5⟩
theorem r271_3 {L : List Int} {fj mj : Int64} (hn : n + 3 < 128) (hp : gI S 63 = ((n + 3 : Nat) : Int)) (h1 : rV S n (.inr L)) (h2 : rV S (n + 1) (.inl fj)) (h3 : rV S (n + 2) (.inl mj)) : ∃ S' : yS, Y q (d + 2) 271 0 [vr 129, vi 22, vu, vu, vu, vu] [] S js = yretv q S' js ∧ rPs n S S' (.inr (yprt L fj mj)) := by
  have e1 : ((n + 3 : Nat) : Int) - 1 = ((n + 2 : Nat) : Int) := by omega
  have en : yr ((n + 2 : Nat) : Int) = ((n + 2 : Nat) : Int) := yr_eq (by omega) (by omega)
  have k1 : 0 ≤ ((n + 2 : Nat) : Int) ∧ ((n + 2 : Nat) : Int) < 128 := by omega
  have eo : yr 22 = 22 := rfl
  obtain ⟨S', a1, a2⟩ := r272 (q := q) (d := d) (js := js) hn hp h1 h2 h3
  refine ⟨S', ?_, a2⟩
  rw [w271_0, hp, e1, en, if_pos k1, eo]
  simp only [Int.reduceEq, if_true, if_false]
  rw [a1, YB_retv, w271_174]
end YRUL
end YRU
