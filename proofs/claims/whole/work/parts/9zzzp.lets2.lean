/-! RUN: values at a run's beginning, the reference -/
section YTQ
section YTQL
variable {q : yQ} {d : Nat} {js : List xO}
theorem r277l {L : List yDf} {x0 : Int64} (h8 : L.length ≤ 8) (h01 : ∀ x, x ∈ L → x.2.1 ≤ 1) : ∀ (m i : Nat) (S : yS), i + m = L.length → rD1 S L → (∀ k, k < i → rVv S k (ynw (L.getD k dDf))) → ∃ S' : yS, Y q (d + 1) 277 57 [vr 129, vj x0, vu, vi i] [] S js = Y q (d + 1) 277 84 [vr 129, vj x0, vu, vi (-1)] [] S' js ∧ yFr yWvv S S' ∧ ∀ k, k < L.length → rVv S' k (ynw (L.getD k dDf))
  | 0, i, S, h, hD, hR => by
    have g51 : gI S 51 = L.length := hD.1
    refine ⟨S, ?_, yFr_rf _ _, fun k hk => hR k (by omega)⟩
    rw [w277_57, g51, if_neg (by rw [yr_eq, yr_eq] <;> omega)]
  | m + 1, i, S, h, hD, hR => by
    have g51 : gI S 51 = L.length := hD.1
    have hi : i < L.length := by omega
    have ei : yr (i : Int) = i := yr_eq (by omega) (by omega)
    have en : yr (L.length : Int) = L.length := yr_eq (by omega) (by omega)
    have e1 : (i : Int) + 1 = ((i + 1 : Nat) : Int) := by omega
    have kk : 0 ≤ (i : Int) ∧ (i : Int) < 8 := by omega
    obtain ⟨_, d42, _⟩ := yLs_D hD dDf hi
    have hmem : L.getD i dDf ∈ L := by
      rw [List.getD_eq_getElem?_getD, List.getElem?_eq_getElem hi]
      exact List.getElem_mem hi
    have ht := h01 _ hmem
    obtain ⟨S1, a1, a2, a3⟩ := r278 (q := q) (d := d) (js := js) (k := i) (t := ((L.getD i dDf).2.1 : Int)) (S := S) (by omega) (by omega)
    have ev : ynw (L.getD i dDf) = if ((L.getD i dDf).2.1 : Int) = 0 then .inl 0 else .inr [] := by
      unfold ynw
      by_cases w : (L.getD i dDf).2.1 = 0
      · rw [if_pos w, if_pos (by omega)]
      · rw [if_neg w, if_neg (by omega)]
    have hD2 : rD1 S1 L := by
      have f := a2.1
      unfold rD1 at hD ⊢
      rw [f.1 51 rfl, f.2.2.2.2.1 14 rfl, f.2.2.2.1 42 rfl, f.2.2.2.1 43 rfl]
      exact hD
    obtain ⟨S', c1, c2, c3⟩ := r277l (x0 := x0) h8 h01 m (i + 1) S1 (by omega) hD2 (fun k hk => by
      by_cases y : k = i
      · rw [y, ev]
        exact a3
      · exact rVv_fs (n := i) a2 (by omega) (hR k (by omega)))
    refine ⟨S', ?_, yFr_tr a2.1 c2, c3⟩
    rw [w277_57, g51, ei, en, if_pos (by omega), if_pos kk, Int.toNat_natCast, d42, a1, YB_retv, w277_76, e1, c1]
end YTQL
end YTQ
