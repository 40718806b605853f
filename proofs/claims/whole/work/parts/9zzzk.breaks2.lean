/-! RUN: groups break, the reference -/
section YTL
section YTLL
variable {q : yQ} {d : Nat} {js : List xO} {S : yS}
theorem r298 {Gs : List Nat} {p : Nat} {o : Nat → Nat} (hG : rGs S Gs) (h : iTb S) (h3 : Gs.length ≤ 3) (hc : ∀ x, x ∈ Gs → (x : Int) < gI S 10) (hp : p < 40) (ho : ∀ i, i ≤ p → gA S 61 i = (o i : Nat) ∧ (o i : Int) < nrow (gI S 10) (gI S 11)) : Y q (d + 1) 298 0 [vr 129, vi p, vu] [] S js = yret q (vi ((if p = 0 then 0 else (ybr (ycc S (o (p - 1)) (o p)) (fun g => Gs.getD g 0) Gs.length 0).getD 3 : Nat) : Int)) S js := by
  have g57 : gI S 57 = Gs.length := hG.1
  have ep : yr (p : Int) = p := yr_eq (by omega) (by omega)
  rw [w298_0, ep]
  by_cases z : p = 0
  · rw [if_pos (by omega), if_pos z]
    rfl
  · rw [if_neg (by omega), if_neg z]
    have loop : ∀ (m i : Nat), i + m = Gs.length → Y q (d + 1) 298 8 [vr 129, vi p, vi i] [] S js = yret q (vi (((ybr (ycc S (o (p - 1)) (o p)) (fun g => Gs.getD g 0) m i).getD 3 : Nat) : Int)) S js := by
      intro m
      induction m with
      | zero =>
        intro i hi
        rw [w298_8, g57, if_neg (by rw [yr_eq, yr_eq] <;> omega)]
        rfl
      | succ m ih =>
        intro i hi
        have ei : yr (i : Int) = i := yr_eq (by omega) (by omega)
        have en : yr (Gs.length : Int) = Gs.length := yr_eq (by omega) (by omega)
        have e1 : (i : Int) + 1 = ((i + 1 : Nat) : Int) := by omega
        have em : (p : Int) - 1 = ((p - 1 : Nat) : Int) := by omega
        have emy : yr ((p - 1 : Nat) : Int) = ((p - 1 : Nat) : Int) := yr_eq (by omega) (by omega)
        have gg := yLs_D hG 0 (j := i) (by omega)
        have gg : gA S 50 i = ((Gs.getD i 0 : Nat) : Int) := gg
        have hmem : Gs.getD i 0 ∈ Gs := by
          rw [List.getD_eq_getElem?_getD, List.getElem?_eq_getElem (by omega)]
          exact List.getElem_mem (by omega)
        obtain ⟨o1, o2⟩ := ho (p - 1) (by omega)
        obtain ⟨o3, o4⟩ := ho p (Nat.le_refl _)
        have hk := hc _ hmem
        have kk : 0 ≤ (i : Int) ∧ (i : Int) < 3 := by omega
        have z0 := ycc_0 (x := o (p - 1)) (y := o p) h o2 o4 hk
        rw [w298_8, g57, ei, en, if_pos (by omega), ep, if_pos (by omega), if_pos kk, Int.toNat_natCast, Int.toNat_natCast, o3, gg, r204 h o4 hk, YB_ret, w298_32, em, emy, if_pos (by omega), ei, if_pos kk, Int.toNat_natCast, Int.toNat_natCast, o1, gg, r204 h o2 hk, YB_ret, w298_50, yr_lcmp]
        unfold ybr
        by_cases y : ycc S (o (p - 1)) (o p) (Gs.getD i 0) = 0
        · rw [if_pos ((ylcmp_eq _ _).mpr (z0.mp y).symm), if_pos y, e1]
          exact ih (i + 1) (by omega)
        · rw [if_neg (fun w => y (z0.mpr ((ylcmp_eq _ _).mp w).symm)), if_neg y]
          rfl
    exact loop Gs.length 0 (Nat.zero_add _)
/-- a total begins anew, the class -/
theorem c114 {k : Nat} {ty : Int} (hk : k < 8) (ht : gA S 15 k = ty) (h01 : ty = 0 ∨ ty = 1) : ∃ S' : yS, Y q (d + 1) 114 0 [vr 125, vi k] [] S js = yretv q S' js ∧ yFs (16 + k) (sA S 36 k 0) S' ∧ cV S' (16 + k) (if ty = 0 then .inl 0 else .inr []) := by
  have ek : yr (k : Int) = k := yr_eq (by omega) (by omega)
  have kk : 0 ≤ (k : Int) ∧ (k : Int) < 8 := by omega
  have b : yi2z 0 = 0 := by decide
  have e16 : (16 : Int) + k = ((16 + k : Nat) : Int) := by omega
  obtain ⟨S', a1, a2, a3⟩ := c74 (q := q) (d := d) (js := js) (S := sA S 36 k 0) (n := 16 + k) (x := ty) h01 (by omega)
  refine ⟨S', ?_, a2, a3⟩
  rw [w114_0, ek, if_pos kk, if_pos kk, Int.toNat_natCast, b, ht, e16, a1, YB_retv, w114_30]
end YTLL
end YTL
