/-! RUN: all totals at a run's beginning, the reference -/
section YTR2
def rTn (S : yS) (T : List yDf) (D : Nat → Prop) : Prop := ∀ k, k < T.length → D k → rVv S (8 + k) (ynw (T.getD k dDf)) ∧ gA S 63 k = 0
section YTR2L
variable {q : yQ} {d : Nat} {js : List xO}
theorem r279q {T : List yDf} {per : Int} {D : Nat → Prop} (h8 : T.length ≤ 8) (h01 : ∀ x, x ∈ T → x.2.1 ≤ 1) (hper : -1 ≤ per ∧ per ≤ 3) (hsc : ∀ x, x ∈ T → -2 ≤ x.2.2.2.2 ∧ x.2.2.2.2 ≤ 2) : ∀ (m i : Nat) (S : yS), i + m = T.length → rD2 S T → rTn S T (fun k => D k ∨ (k < i ∧ rsc (T.getD k dDf).2.2.2.2 = per)) → ∃ S' : yS, Y q (d + 1) 279 2 [vr 129, vi per, vi i] [] S js = yretv q S' js ∧ yFr yWan S S' ∧ rTn S' T (fun k => D k ∨ rsc (T.getD k dDf).2.2.2.2 = per) ∧ ∀ k v, k < 8 → rVv S k v → rVv S' k v
  | 0, i, S, h, hD, hR => by
    have g52 : gI S 52 = T.length := hD.1
    refine ⟨S, ?_, yFr_rf _ _, fun k hk hd => hR k hk ?_, fun k v _ hv => hv⟩
    · rw [w279_2, g52, if_neg (by rw [yr_eq, yr_eq] <;> omega)]
    · rcases hd with hd | hd
      · exact Or.inl hd
      · exact Or.inr ⟨by omega, hd⟩
  | m + 1, i, S, h, hD, hR => by
    have g52 : gI S 52 = T.length := hD.1
    have hi : i < T.length := by omega
    have ei : yr (i : Int) = i := yr_eq (by omega) (by omega)
    have en : yr (T.length : Int) = T.length := yr_eq (by omega) (by omega)
    have e1 : (i : Int) + 1 = ((i + 1 : Nat) : Int) := by omega
    have e8 : (8 : Int) + i = ((8 + i : Nat) : Int) := by omega
    have kk : 0 ≤ (i : Int) ∧ (i : Int) < 8 := by omega
    obtain ⟨_, d44, _, _, d47⟩ := yLs_D hD dDf hi
    have hmem : T.getD i dDf ∈ T := by
      rw [List.getD_eq_getElem?_getD, List.getElem?_eq_getElem hi]
      exact List.getElem_mem hi
    have hs := hsc _ hmem
    have ht := h01 _ hmem
    have rr : -1 ≤ rsc (T.getD i dDf).2.2.2.2 ∧ rsc (T.getD i dDf).2.2.2.2 ≤ 3 := by
      unfold rsc
      split
      · omega
      · split <;> omega
    have er : yr (rsc (T.getD i dDf).2.2.2.2) = rsc (T.getD i dDf).2.2.2.2 := yr_eq (by omega) (by omega)
    have ep : yr per = per := yr_eq (by omega) (by omega)
    have st : Y q (d + 1) 279 2 [vr 129, vi per, vi i] [] S js = if rsc (T.getD i dDf).2.2.2.2 = per then YB q (Y q d 278 0 [vr 129, vi ((8 + i : Nat) : Int), vi ((T.getD i dDf).2.1 : Int)] [] S js) (d + 1) 279 34 [vr 129, vi per, vi i] [] else Y q (d + 1) 279 2 [vr 129, vi per, vi ((i + 1 : Nat) : Int)] [] S js := by
      rw [w279_2, g52, ei, en, if_pos (by omega), if_pos kk, Int.toNat_natCast, d47, er, ep, if_pos kk, d44, e1, e8]
    rw [st]
    by_cases z : rsc (T.getD i dDf).2.2.2.2 = per
    · obtain ⟨S1, a1, a2, a3⟩ := r278 (q := q) (d := d) (js := js) (k := 8 + i) (t := ((T.getD i dDf).2.1 : Int)) (S := S) (by omega) (by omega)
      have b : yi2z 0 = 0 := by decide
      have f2 : yFr yWan S (sA S1 63 i 0) := yFr_tr (yWan_v a2.1) (yFr_A rfl)
      have hD2 : rD2 (sA S1 63 i 0) T := by
        unfold rD2 at hD ⊢
        rw [f2.1 52 rfl, f2.2.2.2.2.1 15 rfl, f2.2.2.2.1 44 rfl, f2.2.2.2.1 46 rfl, f2.2.2.2.1 45 rfl, f2.2.2.2.1 47 rfl]
        exact hD
      have ev : ynw (T.getD i dDf) = if ((T.getD i dDf).2.1 : Int) = 0 then .inl 0 else .inr [] := by
        unfold ynw
        by_cases w : (T.getD i dDf).2.1 = 0
        · rw [if_pos w, if_pos (by omega)]
        · rw [if_neg w, if_neg (by omega)]
      obtain ⟨S', c1, c2, c3, c4⟩ := r279q (D := D) h8 h01 hper hsc m (i + 1) (sA S1 63 i 0) (by omega) hD2 (fun k hk hd => by
        have e63 : gA (sA S1 63 i 0) 63 k = if k = i then 0 else gA S1 63 k := gA_self _ _ _ _ _
        rw [e63]
        by_cases y : k = i
        · rw [if_pos y, y, ev]
          exact ⟨a3, rfl⟩
        · rw [if_neg y, a2.1.2.2.2.1 63 rfl]
          have old := hR k hk (by
            rcases hd with hd | hd
            · exact Or.inl hd
            · exact Or.inr ⟨by omega, hd.2⟩)
          have q1 : rVv S1 (8 + k) (ynw (T.getD k dDf)) := rVv_fs (n := 8 + i) (m := 8 + k) a2 (by omega) old.1
          exact ⟨q1, old.2⟩)
      refine ⟨S', ?_, yFr_tr f2 c2, c3, fun k v hk hv => c4 k v hk (show rVv S1 k v from rVv_fs (n := 8 + i) (m := k) a2 (by omega) hv)⟩
      rw [if_pos z, a1, YB_retv, w279_37, ei, if_pos kk, Int.toNat_natCast, b, e1, c1]
    · obtain ⟨S', c1, c2, c3, c4⟩ := r279q (D := D) h8 h01 hper hsc m (i + 1) S (by omega) hD (fun k hk hd => hR k hk (by
        rcases hd with hd | hd
        · exact Or.inl hd
        · refine Or.inr ⟨?_, hd.2⟩
          have : k ≠ i := fun e => z (by rw [← e]; exact hd.2)
          omega))
      exact ⟨S', by rw [if_neg z, c1], c2, c3, c4⟩
end YTR2L
end YTR2
