/-! RUN: all totals at a run's beginning, the reference, for all they are per -/
section YTS
section YTSL
variable {q : yQ} {d : Nat} {js : List xO}
theorem r277p {T : List yDf} {x0 : Int64} (h8 : T.length ≤ 8) (h01 : ∀ x, x ∈ T → x.2.1 ≤ 1) (hsc : ∀ x, x ∈ T → -2 ≤ x.2.2.2.2 ∧ x.2.2.2.2 ≤ 2) : ∀ (n : Nat) (p : Int) (S : yS), p + n = 4 → -1 ≤ p → rD2 S T → rTn S T (fun k => rsc (T.getD k dDf).2.2.2.2 < p) → ∃ S' : yS, Y q (d + 2) 277 84 [vr 129, vj x0, vu, vi p] [] S js = YB q (Y q (d + 1) 280 0 [vr 129, vu, vu] [] S' js) (d + 2) 277 101 [vr 129, vj x0, vu, vi 4] [] ∧ yFr yWan S S' ∧ rTn S' T (fun _ => True) ∧ ∀ k v, k < 8 → rVv S k v → rVv S' k v
  | 0, p, S, hp, hp1, hD, hR => by
    have e : p = 4 := by omega
    subst e
    refine ⟨S, ?_, yFr_rf _ _, fun k hk _ => hR k hk ?_, fun k v _ hv => hv⟩
    · rw [w277_84, if_pos (by decide)]
    · have hmem : T.getD k dDf ∈ T := by
        rw [List.getD_eq_getElem?_getD, List.getElem?_eq_getElem hk]
        exact List.getElem_mem hk
      have hs := hsc _ hmem
      show rsc (T.getD k dDf).2.2.2.2 < 4
      unfold rsc
      split
      · omega
      · split <;> omega
  | n + 1, p, S, hp, hp1, hD, hR => by
    have y3 : yr 3 = 3 := rfl
    have ep : yr p = p := yr_eq (by omega) (by omega)
    obtain ⟨S1, a1, a2, a3, a4⟩ := r279q (q := q) (d := d) (js := js) (per := p) (D := fun k => rsc (T.getD k dDf).2.2.2.2 < p) h8 h01 ⟨hp1, by omega⟩ hsc T.length 0 S (Nat.zero_add _) hD (fun k hk hd => hR k hk (by
      rcases hd with hd | hd
      · exact hd
      · omega))
    have a1 : Y q (d + 1) 279 2 [vr 129, vi p, vi 0] [] S js = yretv q S1 js := a1
    have hD2 : rD2 S1 T := by
      unfold rD2 at hD ⊢
      rw [a2.1 52 rfl, a2.2.2.2.2.1 15 rfl, a2.2.2.2.1 44 rfl, a2.2.2.2.1 46 rfl, a2.2.2.2.1 45 rfl, a2.2.2.2.1 47 rfl]
      exact hD
    obtain ⟨S', c1, c2, c3, c4⟩ := r277p (x0 := x0) h8 h01 hsc n (p + 1) S1 (by omega) (by omega) hD2 (fun k hk hd => a3 k hk (by
      have hd : rsc (T.getD k dDf).2.2.2.2 < p + 1 := hd
      show rsc (T.getD k dDf).2.2.2.2 < p ∨ rsc (T.getD k dDf).2.2.2.2 = p
      omega))
    refine ⟨S', ?_, yFr_tr a2 c2, c3, fun k v hk hv => c4 k v hk (a4 k v hk hv)⟩
    rw [w277_84, y3, ep, if_neg (by omega), w279_0, a1, YB_retv, w277_94, c1]
end YTSL
end YTS
