/-! EVALUATE -/
section YOE
theorem yi2l_yr (x : Int) : yi2l (yr x) = yi2l x := by
  unfold yi2l yr
  rw [Int32.ofInt_toInt]
theorem ynm_SR {S : yS} (h : iTb S) : ynmR S 2 = ynmS S 0 := by
  obtain ⟨t1, t2, t3, t4, t5, t6, t7, t8, t9⟩ := h
  funext v
  unfold ynmR ynmS
  have e : yfind (gB S 11) v (gI S 10).toNat 0 = yfind (gB S 6) v (gI S 10).toNat 0 := yfind_cg fun k _ hk => (t7 k (by omega)).1
  rw [t1, e]
  have n2 : ¬ ((2 : Int) ≠ 2 ∧ 0 ≤ yfind (gB S 14) v (gI S 51).toNat 0) := fun z => z.1 rfl
  have n1 : ¬ ((2 : Int) = 1 ∧ 0 ≤ yfind (gB S 15) v (gI S 52).toNat 0) := fun z => absurd z.1 (by decide)
  have m2 : ¬ ((0 : Int) ≠ 0 ∧ 0 ≤ yfind (gB S 4) v (gI S 8).toNat 0) := fun z => z.1 rfl
  have m1 : ¬ ((0 : Int) = 2 ∧ 0 ≤ yfind (gB S 5) v (gI S 9).toNat 0) := fun z => absurd z.1 (by decide)
  rw [if_neg n2, if_neg n1, if_neg m2, if_neg m1]
  rcases yfind_c (f := gB S 6) (v := v) (n := (gI S 10).toNat) (by omega) with hf | ⟨k, hk, hf⟩
  · rw [hf, if_neg (by omega), if_neg (by omega)]
  · rw [hf, if_pos (by omega), if_pos (by omega), Int.toNat_natCast]
    obtain ⟨_, q2, q3⟩ := t7 k (by omega)
    have e3 : yr (gA S 20 k) = gA S 20 k := by rcases q3 with z | z <;> rw [z] <;> rfl
    rw [q2, e3]
theorem iTb_in {S : yS} {row : Int} {c k : Nat} (h10 : gI S 10 = c) (h11 : 0 ≤ gI S 11) (hk : k < c) (h0 : 0 ≤ row) (hrow : row < nrow (gI S 10) (gI S 11)) : 0 ≤ row * c ∧ row * c + k < gI S 11 := by
  have h1 := nrow_mul (c := gI S 10) (n := gI S 11) (by omega) h11
  have h2 : (row + 1) * (c : Int) ≤ nrow (gI S 10) (gI S 11) * (c : Int) := Int.mul_le_mul_of_nonneg_right (by omega) (by omega)
  have h3 : (row + 1) * (c : Int) = row * c + c := by rw [Int.add_mul, Int.one_mul]
  have h4 : 0 ≤ row * (c : Int) := Int.mul_nonneg h0 (by omega)
  rw [h10] at h1 h2
  rw [h10] at hrow
  omega
theorem iTb_ok {S : yS} {row : Int} {c k : Nat} (h : iTb S) (h10 : gI S 10 = c) (hk : k < c) (hrow : row < nrow (gI S 10) (gI S 11)) (h1 : gA S 20 k = 1) : yOkN (if row < 0 then (0 : Int64) else gB S 7 (row * c + k).toNat).toBitVec.toNat := by
  obtain ⟨t1, t2, t3, t4, t5, t6, t7, t8, t9⟩ := h
  by_cases z : row < 0
  · rw [if_pos z]
    exact yOkN_0
  · rw [if_neg z]
    obtain ⟨i1, i2⟩ := iTb_in h10 t5 hk (by omega) hrow
    have ei : (((row * (c : Int) + k).toNat : Nat) : Int) = row * c + k := by omega
    obtain ⟨x, x1, x2⟩ := t9 (row * c + k).toNat (by omega) (by
      rw [ei, h10, Int.add_comm, Int.add_mul_emod_self_right, Int.emod_eq_of_lt (by omega) (by omega), Int.toNat_natCast]
      exact h1)
    obtain ⟨W, w1, w2, _⟩ := ywz 8 0 0 (Nat.le_refl 8) x1 rfl (by decide) yOkN_0
    rw [x2, yi64_nat w1]
    exact w2
theorem op11 : yCall yI 11 := by
  intro q S js x0 d y1 y2 y3 y4 hL h0 h6 hop hI
  obtain ⟨hTp, hTb, hCd, hPg, hRs, hRn⟩ := id hI
  obtain ⟨p1, p2, p3, p4⟩ := id hTp
  obtain ⟨t1, t2, t3, t4, t5, t6, t7, t8, t9⟩ := id hTb
  obtain ⟨hn, hkw, z1, z2, z3, z4, z5, z6, z7, z8⟩ := id hRn
  have hx := xa_rng q (x0 + 1)
  have h40n := nrow_le (c := gI S 10) (n := gI S 11) ⟨t2, t3⟩ ⟨t5, t6⟩
  have enr : nrow (gI S 41) (gI S 42) = nrow (gI S 10) (gI S 11) := by rw [t1, t4]
  by_cases ok : -1 ≤ xa q (x0 + 1) ∧ xa q (x0 + 1) < nrow (gI S 10) (gI S 11)
  · obtain ⟨n, hn12⟩ : ∃ n : Nat, gI S 12 = n := ⟨(gI S 12).toNat, by omega⟩
    obtain ⟨c, hc10⟩ : ∃ c : Nat, gI S 10 = c := ⟨(gI S 10).toNat, by omega⟩
    have hcT : ∀ k, k < c → gA S 20 k = gA S 20 k ∧ (gA S 20 k = 0 ∨ (gA S 20 k = 1 ∧ yOkN (if xa q (x0 + 1) < 0 then (0 : Int64) else gB S 7 (xa q (x0 + 1) * c + k).toNat).toBitVec.toNat)) ∧ (if xa q (x0 + 1) < 0 then (0 : Int64) else gB S 7 (xa q (x0 + 1) * c + k).toNat) = if xa q (x0 + 1) < 0 then (0 : Int64) else gB S 7 (xa q (x0 + 1) * c + k).toNat := fun k hk => by
      refine ⟨rfl, ?_, rfl⟩
      rcases (t7 k (by omega)).2.2 with z | z
      · exact Or.inl z
      · exact Or.inr ⟨z, iTb_ok hTb hc10 hk ok.2 z⟩
    obtain ⟨S1, a, a1, a2, a3, a4, a5, a6, a7⟩ := c173 (q := q) (js := js) (S := S) (e := d + 226) (row := xa q (x0 + 1)) (n := n) (c := c) (t := gA S 20) (w := fun k => if xa q (x0 + 1) < 0 then (0 : Int64) else gB S 7 (xa q (x0 + 1) * c + k).toNat) hn12 (by omega) hc10 (by omega) (by omega) z1 z2 z8 (fun i _ => tb_rng S i) ok (by omega) hcT
    -- the reference
    obtain ⟨S0', hS0'⟩ : ∃ S0', S0' = sB S1 18 0 (yi2l a) := ⟨_, rfl⟩
    have gi0 : ∀ k, yWe 0 k = false → gI S0' k = gI S k := fun k hk => by rw [hS0']; exact a2.1 k hk
    have ga0 : ∀ k, yWe 3 k = false → gA S0' k = gA S k := fun k hk => by rw [hS0']; exact a2.2.2.2.1 k hk
    have gb0 : ∀ k, k ≠ 18 → yWe 4 k = false → gB S0' k = gB S k := fun k h18 hk => by
      rw [hS0', gB_ne _ _ _ _ h18]
      exact a2.2.2.2.2.1 k hk
    have no0 : rNo S0' := by
      unfold rNo
      rw [gi0 41 rfl, gi0 51 rfl, gi0 52 rfl, ga0 38 rfl, ga0 42 rfl, ga0 44 rfl, t1]
      exact ⟨⟨t2, t3⟩, z3, z4, fun i hi => by rw [(t7 i hi).2.1]; exact (t7 i hi).2.2, z5, z6⟩
    have nmE : ynmR S0' 2 = ynmS S 0 := by
      rw [← ynm_SR hTb]
      funext v
      unfold ynmR
      rw [gi0 41 rfl, gi0 51 rfl, gi0 52 rfl, ga0 38 rfl, ga0 42 rfl, ga0 44 rfl, gb0 11 (by decide) rfl, gb0 14 (by decide) rfl, gb0 15 (by decide) rfl]
    obtain ⟨S2, b, js2, b1, b2, b3, b4, b5, b6, b7⟩ := r257 (q := q) (js := js) (S := S0') (e := d + 277) (row := xa q (x0 + 1)) (n := n) (c := c) (b := tb S) (t := gA S 20) (w := fun k => if xa q (x0 + 1) < 0 then (0 : Int64) else gB S 7 (xa q (x0 + 1) * c + k).toNat) (tx := ytxb S) (nm := ynmS S 0) (by rw [gi0 40 rfl]; omega) (by omega) (fun j hj => by rw [ga0 37 rfl]; exact ⟨p4 j (by omega), tb_rng S j⟩) (fun j hj => by rw [gb0 10 (by decide) rfl]; exact hkw j hj) (by rw [gi0 41 rfl]; omega) (by omega) (by rw [gi0 42 rfl]; omega) no0 (by rw [gi0 41 rfl, gi0 42 rfl, enr]; exact ok) (by omega) (fun k hk => by
      rw [ga0 38 rfl, gb0 12 (by decide) rfl]
      refine ⟨(t7 k (by omega)).2.1, (hcT k hk).2.1, ?_⟩
      by_cases z : xa q (x0 + 1) < 0
      · rw [if_pos z, if_pos z]
      · rw [if_neg z, if_neg z]
        obtain ⟨i1, i2⟩ := iTb_in hc10 t5 hk (by omega) ok.2
        exact (t8 _ (by omega)).symm) (ytxb_len S) (fun p m hp i y hi => (ytxb_at hn12 hp hi).2) nmE (ynm_0 hc10 (by omega) (fun k hk => ⟨rfl, (t7 k (by omega)).2.2⟩))
    -- what both have left as it was
    have gi : ∀ k, yWe 0 k = false → yWu 0 k = false → gI S2 k = gI S k := fun k h1 h2 => (b2.1 k h2).trans (gi0 k h1)
    have ga : ∀ k, yWe 3 k = false → yWu 3 k = false → gA S2 k = gA S k := fun k h1 h2 => (b2.2.2.2.1 k h2).trans (ga0 k h1)
    have gb : ∀ k, k ≠ 18 → yWe 4 k = false → yWu 4 k = false → gB S2 k = gB S k := fun k h18 h1 h2 => (b2.2.2.2.2.1 k h2).trans (gb0 k h18 h1)
    have s18 : gI S2 18 = gI S1 18 := by rw [b2.1 18 rfl, hS0']; rfl
    have s30 : gA S2 30 = gA S1 30 := by rw [b2.2.2.2.1 30 rfl, hS0']; rfl
    have s31 : gA S2 31 = gA S1 31 := by rw [b2.2.2.2.1 31 rfl, hS0']; rfl
    have s32 : gA S2 32 = gA S1 32 := by rw [b2.2.2.2.1 32 rfl, hS0']; rfl
    have s9 : gB S2 9 = gB S1 9 := by
      rw [b2.2.2.2.2.1 9 rfl, hS0', gB_ne _ _ _ _ (by decide)]
    have s12 : gI S2 12 = 0 := by rw [b2.1 12 rfl, hS0']; exact a3
    have s5 : gA S2 5 0 = 0 := by rw [b2.2.2.2.1 5 rfl, hS0']; exact a4
    have sb : gB S2 18 0 = yi2l a := by
      rw [b2.2.2.2.2.1 18 rfl, hS0', gB_self, if_pos rfl]
    -- the answers
    have ans : yi2l a = yi2l b ∧ yr (gI S2 59) = yr (gI S2 18) ∧ iRs S2 := by
      unfold iRs
      rw [s18, s30, s31, s32, s9]
      revert a7 b7
      generalize yevo (yTf (ytq (tb S) n)) (yexp (yTf (ytq (tb S) n)) (ytxb S) (ynmS S 0) false yOO 12 0 0 0 100) (yen (gA S 20) (fun k => if xa q (x0 + 1) < 0 then (0 : Int64) else gB S 7 (xa q (x0 + 1) * c + k).toNat)) = o
      intro a7 b7
      match o, a7, b7 with
      | .inr (m, p), a7, b7 =>
        obtain ⟨u1, u2, u3⟩ := a7
        obtain ⟨v1, v2, v3, v4⟩ := b7
        rw [u1, v1, yi2l_yr, v2, u2, yr_yr]
        exact ⟨rfl, rfl, Or.inl ⟨u3.1, v3, by rw [v4, u3.2.1], u3.2.2⟩⟩
      | .inl none, a7, b7 =>
        obtain ⟨u1, u2, u3⟩ := a7
        obtain ⟨v1, v2, v3, v4⟩ := b7
        rw [u1, v1, v2, u2]
        exact ⟨rfl, rfl, Or.inl ⟨u3.1, v3, by rw [v4, u3.2.1], u3.2.2⟩⟩
      | .inl (some (.inl y)), a7, b7 =>
        obtain ⟨u1, u2, u3⟩ := a7
        obtain ⟨v1, v2, v3, v4⟩ := b7
        rw [u1, v1, v2, u2]
        exact ⟨rfl, rfl, Or.inl ⟨u3.1, v3, by rw [v4, u3.2.1], u3.2.2⟩⟩
      | .inl (some (.inr l)), a7, b7 =>
        obtain ⟨u1, u2, u3⟩ := a7
        obtain ⟨v1, v2, v3, v4, v5, v6⟩ := b7
        rw [u1, v1, v2, u2]
        refine ⟨rfl, rfl, Or.inr ⟨u3.1, by rw [v3, u3.2.1], by rw [u3.2.1]; omega, by rw [u3.2.1]; omega, by rw [v4, u3.2.1], fun i hi => ?_⟩⟩
        rw [u3.2.1] at hi
        have hil : i < l.length := by omega
        have w := u3.2.2.2 i _ (List.getElem?_eq_getElem hil)
        rw [v6 i _ (List.getElem?_eq_getElem hil), show 1620 + i = 60 * 27 + i by omega, w.1]
        exact ⟨rfl, w.2⟩
    obtain ⟨w1, w2, w3⟩ := ans
    have b1' : Y q (d + 399) 257 0 [vr 129, vi (xa q (x0 + 1)), vu, vu] [] (sB S1 18 0 (yi2l a)) js = yret q (vi b) S2 js2 := by rw [← hS0']; exact b1
    refine k11_ok hL h0 h6 hop a1 b1' b3 (by rw [sb]; exact w1) ⟨?_, ?_, ?_, ?_, w3, ?_, ?_, ?_⟩ b5 b6
    · unfold iTp
      rw [b4, s12]
      exact ⟨rfl, by omega, by omega, fun i hi => by omega⟩
    · unfold iTb
      rw [gi 41 rfl rfl, gi 10 rfl rfl, gi 42 rfl rfl, gi 11 rfl rfl, gb 11 (by decide) rfl rfl, gb 6 (by decide) rfl rfl, ga 38 rfl rfl, ga 20 rfl rfl, gb 12 (by decide) rfl rfl, gb 7 (by decide) rfl rfl]
      exact hTb
    · unfold iCd
      rw [gi 4 rfl rfl, gi 0 rfl rfl, ga 6 rfl rfl, ga 0 rfl rfl, gb 2 (by decide) rfl rfl, gb 0 (by decide) rfl rfl]
      exact hCd
    · unfold iPg
      rw [gi 48 rfl rfl, gi 19 rfl rfl, gi 54 rfl rfl, gi 21 rfl rfl, gi 55 rfl rfl, gi 22 rfl rfl]
      exact ⟨w2, hPg.2⟩
    · -- the latest run
      obtain ⟨m1, m2, m3, m4, m5⟩ := hn
      unfold iRn
      rw [gi 66 rfl rfl, gi 30 rfl rfl, gi 31 rfl rfl, gi 29 rfl rfl, gi 32 rfl rfl, gi 33 rfl rfl, gi 34 rfl rfl, gi 19 rfl rfl, gi 67 rfl rfl, gi 68 rfl rfl, gi 69 rfl rfl, gi 70 rfl rfl, gi 71 rfl rfl, gi 27 rfl rfl, gi 21 rfl rfl, gi 28 rfl rfl, gi 22 rfl rfl, gi 52 rfl rfl, gi 9 rfl rfl, gi 57 rfl rfl, gi 24 rfl rfl, ga 64 rfl rfl, ga 33 rfl rfl, ga 61 rfl rfl, ga 34 rfl rfl, ga 62 rfl rfl, ga 35 rfl rfl, ga 59 rfl rfl, gb 17 (by decide) rfl rfl]
      refine ⟨m1, m2, m3, m4, fun hr => ?_⟩
      obtain ⟨k1, k2, k3, k4, k5, k6, k7, k8, k9, k10, k11, k12, k13, k14, k15, k16, k17, k18, k19, k20, k21, k22⟩ := m5 hr
      refine ⟨k1, k2, k3, k4, k5, k6, k7, k8, k9, k10, k11, k12, k13, k14, k15, k16, k17, k18, k19, k20, k21, fun i hi => ?_⟩
      have hi8 : 16 + i < 24 := by have := z2.2; omega
      obtain ⟨r1, r2, r3⟩ := a5 (16 + i) (by omega) hi8
      rw [s30, s31, s9, r1, r2, r3]
      exact k22 i hi
    · rw [gb 10 (by decide) rfl rfl]
      exact hkw
    · unfold iZ
      rw [gi 8 rfl rfl, gi 9 rfl rfl, gi 51 rfl rfl, gi 52 rfl rfl, ga 42 rfl rfl, ga 44 rfl rfl, ga 4 rfl rfl]
      exact ⟨z1, z2, z3, z4, z5, z6, z7, s5⟩
  · have er := yr_eq hx.1 hx.2
    have em : yr (-1) = -1 := rfl
    have hnr : yr (nrow (gI S 10) (gI S 11)) = nrow (gI S 10) (gI S 11) := yr_eq (by omega) (by omega)
    have hc : Y q (d + 398) 173 0 [vr 75, vi (xa q (x0 + 1))] [] S js = ythr q (yexc 16) S js := by
      rw [w173_0, er, em]
      by_cases z : xa q (x0 + 1) < -1
      · rw [if_pos z]
      · rw [if_neg z, c131 ⟨t2, t3⟩ (by omega), YB_ret, w173_13, er, hnr, if_neg (by omega)]
    have hm := r257a (q := q) (js := js ++ [yexc 16]) (S := S) (e := d + 277) (row := xa q (x0 + 1)) (by omega) (by omega) hx
    rw [enr, if_neg ok] at hm
    exact k11_16 hL h0 h6 hop hc hm rfl (yI_thr (yI_thr hI)) (len_1 _ _) (xsum_1 _ _)
end YOE
