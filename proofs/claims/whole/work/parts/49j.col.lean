/-! COLUMN, the call -/
section YCC
section YCCL
variable {q : yQ} {d : Nat} {js : List xO} {S : yS}
theorem r192n {c : Int} (h1 : 0 ≤ gI S 40 ∧ gI S 40 ≤ 2000) {w : Int64} : Y q (d + 2) 192 43 [vr 129, vi c, vi 0, vj w, vu, vi 0] [] S js = yret q (vi 0) (sI S 39 1) js := by
  have z0 : yr 0 = 0 := rfl
  rw [w192_43]
  simp only [z0, if_true]
  rw [ite_self, w188_0, YB_ret, w192_126]
theorem r192 {c : Int} {b : Nat → Int} (hc : c = 0 ∨ c = 1) (h1 : 0 ≤ gI S 40 ∧ gI S 40 ≤ 2000) (hb : ∀ i : Nat, (i : Int) < gI S 40 → gA S 37 i = b i ∧ 0 ≤ b i ∧ b i ≤ 255) (hk : ∀ j : Nat, j < 46 → gB S 10 j = yKw j) (h2 : 0 ≤ gI S 41 ∧ gI S 41 ≤ 8) (h3 : 0 ≤ gI S 42 ∧ gI S 42 ≤ 320) : (¬ yname b (gI S 40) → Y q (d + 2) 192 0 [vr 129, vi c, vu, vu, vu, vu] [] S js = yret q (vi 0) (sI (sI S 39 0) 39 1) js) ∧ (yname b (gI S 40) → Y q (d + 2) 192 0 [vr 129, vi c, vu, vu, vu, vu] [] S js = if gI S 41 = 8 ∨ ¬ yfind (gB S 11) (ywd b 0 (gI S 40).toNat 0) (gI S 41).toNat 0 = -1 ∨ 0 < gI S 42 then yret q (vi 0) (sI (sI S 39 0) 39 2) js else yret q (vi (gI S 41)) (ycolM (sI S 39 0) (ywd b 0 (gI S 40).toNat 0) c) js) := by
  have a1 := r192a (q := q) (d := d) (js := js) (S := sI S 39 0) (c := c) (b := b) h1 hb (gI S 40).toNat 0 0 (by show ((0 : Nat) : Int) + ((gI S 40).toNat : Int) = gI S 40; omega)
  have f1 : gI (sI S 39 0) 40 = gI S 40 := rfl
  have f2 : gA (sI S 39 0) = gA S := rfl
  have f3 : gB (sI S 39 0) = gB S := rfl
  rw [f1, f3] at a1
  have hf : yfind (gB S 10) (ywd b 0 (gI S 40).toNat 0) 46 0 = yfind yKw (ywd b 0 (gI S 40).toNat 0) 46 0 := yfind_cg fun k k1 k2 => hk k (by omega)
  rw [hf] at a1
  have z0 : yr 0 = 0 := rfl
  have st : Y q (d + 2) 192 0 [vr 129, vi c, vu, vu, vu, vu] [] S js = if (1 ≤ gI S 40 ∧ gI S 40 ≤ 8) ∧ yL (b 0) then Y q (d + 2) 192 43 [vr 129, vi c, vi 1, vj 0, vu, vi 0] [] (sI S 39 0) js else yret q (vi 0) (sI (sI S 39 0) 39 1) js := by
    rw [w192_0, r191i (l := 1) (u := 8) e1 e8 (by omega) (by omega) (by omega), YB_ret, w192_17, r192n (S := sI S 39 0) h1, f2, z0]
    simp only [yr_yb, yb_eq0]
    by_cases a : 1 ≤ gI S 40 ∧ gI S 40 ≤ 8
    · obtain ⟨hi, hr1, hr2⟩ := hb 0 (by omega)
      have z0n : (0 : Int).toNat = 0 := rfl
      rw [if_neg (fun y => y a), if_pos (by omega), z0n, hi, r193 (by omega) (by omega), YB_ret, w192_29, r192n (S := sI S 39 0) h1]
      simp only [yr_yb, yb_eq0]
      by_cases e : 97 ≤ b 0 ∧ b 0 ≤ 122
      · rw [if_neg (fun y => y e), if_pos ⟨a, e⟩]
      · rw [if_pos e, if_neg (fun y => e y.2)]
    · rw [if_pos a, if_neg (fun y => a y.1)]
  have zm : yr (-1) = -1 := rfl
  rw [st]
  by_cases a : (1 ≤ gI S 40 ∧ gI S 40 ≤ 8) ∧ yL (b 0)
  · rw [if_pos a]
    have a1 := a1
    rw [show ((0 : Nat) : Int) = 0 from rfl] at a1
    rw [a1]
    by_cases e : yald b 0 (gI S 40).toNat = true
    · rw [if_pos e, YB_ret, w192_117]
      simp only [w188_0, YB_ret, Nat.reduceAdd, w192_126, w192_164]
      rw [zm]
      rcases yfind_none (f := yKw) (w := ywd b 0 (gI S 40).toNat 0) (n := 46) (i := 0) with y | ⟨k, k1, k2, k3, k4⟩
      · rw [y, if_pos zm]
        constructor
        · intro hn
          exact (hn ⟨a.1, a.2, e, y⟩).elim
        · intro _
          have g1 : gI (sI S 39 0) 41 = gI S 41 := rfl
          have g2 : gI (sI S 39 0) 42 = gI S 42 := rfl
          have e8' : yr 8 = 8 := rfl
          rw [g1, e8', yr_eq (x := gI S 41) (by omega) (by omega)]
          by_cases a8 : gI S 41 = 8
          · rw [if_pos a8, if_pos (Or.inl a8)]
          · rw [if_neg a8, r196 (S := sI S 39 0) h2, YB_ret, w192_148, g1, g2, zm, w188_0, YB_ret, w192_164, yr_eq (x := gI S 41) (by omega) (by omega), yr_eq (x := gI S 42) (by omega) (by omega), f3]
            rcases yfind_none (f := gB S 11) (w := ywd b 0 (gI S 40).toNat 0) (n := (gI S 41).toNat) (i := 0) with u | ⟨k, k1, k2, k3, k4⟩
            · rw [u, if_pos zm]
              by_cases v : 0 < gI S 42
              · rw [if_pos v, if_pos (Or.inr (Or.inr v))]
              · have hin : 0 ≤ gI S 41 ∧ gI S 41 < 8 := by omega
                rw [if_neg v, if_neg (show ¬ (gI S 41 = 8 ∨ ¬ (-1 : Int) = -1 ∨ 0 < gI S 42) by omega), if_pos hin]
                simp only [w197_0, YB_retv, w192_212, hin, and_self, if_true]
                have e9 : (gI S 41 + 1) - 1 = gI S 41 := by omega
                rcases hc with rfl | rfl
                · rw [if_pos z0, w192_212]
                  show yret q (vi ((gI S 41 + 1) - 1)) _ js = _
                  rw [e9]
                  rfl
                · rw [if_neg (by decide), w192_212]
                  show yret q (vi ((gI S 41 + 1) - 1)) _ js = _
                  rw [e9]
                  rfl
            · rw [k3, if_neg (by rw [yr_eq] <;> omega), if_pos (Or.inr (Or.inl (by omega)))]
      · rw [k3, if_neg (by rw [yr_eq] <;> omega)]
        constructor
        · intro _
          rfl
        · intro hn
          have := hn.2.2.2
          omega
    · rw [if_neg e]
      exact ⟨fun _ => rfl, fun hn => (e hn.2.2.1).elim⟩
  · rw [if_neg a]
    exact ⟨fun _ => rfl, fun hn => (a ⟨hn.1, hn.2.1⟩).elim⟩
end YCCL
theorem op2 : yCall yI 2 := by
  intro q S js x0 d y1 y2 y3 y4 hL h0 h6 hop hI
  obtain ⟨hTp, hTb, hCd, hPg, hRs, hRn⟩ := id hI
  obtain ⟨p1, p2, p3, p4⟩ := id hTp
  obtain ⟨t1, t2, t3, t4, t5, t6, t7, t8, t9⟩ := id hTb
  show yEnd yI q S js x0 d y1 y2 y3 y4
  have hb := yb_01 (¬ xa q (x0 + 1) = 0)
  have hcc := c168 (q := q) (d := d + 396) (js := js) (S := S) hb ⟨p2, p3⟩ ⟨t2, t3⟩ ⟨t5, by omega⟩
  have hbt : ∀ i : Nat, (i : Int) < gI S 40 → gA S 37 i = tb S i ∧ 0 ≤ tb S i ∧ tb S i ≤ 255 := fun i hi => ⟨p4 i (by omega), tb_rng S i⟩
  by_cases a : yname (tb S) (gI S 12)
  · have hc := hcc.2 a
    have hn2 : yfind (gB S 11) (ywd (tb S) 0 (gI S 12).toNat 0) (gI S 10).toNat 0 = yfind (gB S 6) (ywd (tb S) 0 (gI S 12).toNat 0) (gI S 10).toNat 0 := yfind_cg fun k k1 k2 => (t7 k (by omega)).1
    by_cases b : gI S 10 = 8 ∨ ¬ yfind (gB S 6) (ywd (tb S) 0 (gI S 12).toNat 0) (gI S 10).toNat 0 = -1 ∨ 0 < gI S 11
    · rw [if_pos b] at hc
      have hm := (r192 (q := q) (d := d + 397) (js := js ++ [yexc 14]) (S := S) (b := tb S) hb (by omega) hbt hRn.2.1 (by omega) (by omega)).2 (by rw [p1]; exact a)
      rw [t1, t4, p1, hn2, if_pos b] at hm
      exact k2_14 hL h0 h6 hop hc hm rfl (yI_thr (yI_thr hI)) (len_1 _ _) (xsum_1 _ _)
    · rw [if_neg b] at hc
      have hm := (r192 (q := q) (d := d + 397) (js := js) (S := sB (ycolC S (ywd (tb S) 0 (gI S 12).toNat 0) (yb (¬ xa q (x0 + 1) = 0))) 18 0 (yi2l (gI S 10))) (b := tb S) hb (show 0 ≤ gI S 40 ∧ gI S 40 ≤ 2000 by omega) hbt hRn.2.1 (show 0 ≤ gI S 41 ∧ gI S 41 ≤ 8 by omega) (show 0 ≤ gI S 42 ∧ gI S 42 ≤ 320 by omega)).2 (show yname (tb S) (gI S 40) by rw [p1]; exact a)
      have hm := hm.trans (if_neg (show ¬ (gI S 41 = 8 ∨ ¬ yfind (gB S 11) (ywd (tb S) 0 (gI S 40).toNat 0) (gI S 41).toNat 0 = -1 ∨ 0 < gI S 42) by rw [t1, t4, p1, hn2]; exact b))
      have n8 : gI S 10 < 8 := by omega
      have n11 : gI S 11 = 0 := by omega
      refine k2_ok hL h0 h6 hop hc hm rfl (congrArg yi2l t1.symm) ⟨⟨rfl, Int.le_refl 0, show (0 : Int) ≤ 2000 by omega, fun i hi => absurd (show (i : Int) < 0 from hi) (by omega)⟩, ⟨?_, ?_, ?_, t4, t5, ?_, ?_, ?_, ?_⟩, ⟨rfl, Int.le_refl 0, show (0 : Int) ≤ 4000 by omega, fun i hi => absurd (show (i : Int) < 0 from hi) (by omega)⟩, ⟨hPg.1, rfl, Or.inl rfl, fun z => absurd (show (0 : Int) = 1 from z) (by omega)⟩, hRs, ⟨⟨rfl, Int.le_refl 0, show (0 : Int) ≤ 4 by omega, fun _ => ⟨rfl, rfl, rfl, rfl, rfl⟩, fun z => absurd (show (0 : Int) < 0 from z) (by omega)⟩, hRn.2.1, ⟨Int.le_refl 0, show (0 : Int) ≤ 8 by omega⟩, ⟨Int.le_refl 0, show (0 : Int) ≤ 8 by omega⟩, hRn.2.2.2.2⟩⟩ (by omega) (by omega)
      · show gI S 41 + 1 = gI S 10 + 1
        omega
      · show 0 ≤ gI S 10 + 1
        omega
      · show gI S 10 + 1 ≤ 8
        omega
      · show gI S 11 ≤ 40 * (gI S 10 + 1)
        omega
      · intro i hi
        have hi : (i : Int) < gI S 10 + 1 := hi
        show yup (gB S 11) (gI S 41).toNat (ywd (tb S) 0 (gI S 40).toNat 0) i = yup (gB S 6) (gI S 10).toNat (ywd (tb S) 0 (gI S 12).toNat 0) i ∧ yup (gA S 38) (gI S 41).toNat (yb (¬ xa q (x0 + 1) = 0)) i = yup (gA S 20) (gI S 10).toNat (yb (¬ xa q (x0 + 1) = 0)) i ∧ (yup (gA S 20) (gI S 10).toNat (yb (¬ xa q (x0 + 1) = 0)) i = 0 ∨ yup (gA S 20) (gI S 10).toNat (yb (¬ xa q (x0 + 1) = 0)) i = 1)
        rw [t1, p1, yup_eq, yup_eq, yup_eq, yup_eq]
        by_cases z : i = (gI S 10).toNat
        · rw [if_pos z, if_pos z, if_pos z, if_pos z]
          exact ⟨rfl, rfl, hb⟩
        · rw [if_neg z, if_neg z, if_neg z, if_neg z]
          exact t7 i (by omega)
      · intro i hi
        have hi : (i : Int) < gI S 11 := hi
        omega
      · intro i hi
        have hi : (i : Int) < gI S 11 := hi
        omega
  · have hc := hcc.1 a
    have hm := (r192 (q := q) (d := d + 397) (js := js ++ [yexc 15]) (S := S) (b := tb S) hb (by omega) hbt hRn.2.1 (by omega) (by omega)).1 (by rw [p1]; exact a)
    exact k2_15 hL h0 h6 hop hc hm rfl (yI_thr (yI_thr hI)) (len_1 _ _) (xsum_1 _ _)
end YCC
