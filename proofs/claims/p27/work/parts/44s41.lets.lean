/-! taken from whole by wip/p27/slice.py: 9zzzo.lets.lean.txt -/
section YTP
section YTPL
variable {q : yQ} {d : Nat} {js : List xO}
theorem c113t {L : List yDf} {x0 : Int} (h8 : L.length ≤ 8) (h01 : ∀ x, x ∈ L → x.2.1 ≤ 1) : ∀ (m i : Nat) (S : yS), i + m = L.length → cDe S 0 L → (∀ k, k < i → cV S (8 + k) (ynw (L.getD k dDf))) → ∃ S' : yS, Y q (d + 1) 113 139 [vr 131, vi x0, vi i] [] S js = Y q (d + 1) 113 184 [vr 131, vi x0, vi 0] [] S' js ∧ yFr yWm S S' ∧ (∀ k, k < L.length → cV S' (8 + k) (ynw (L.getD k dDf))) ∧ ∀ m v, m < 8 ∨ 16 ≤ m → cV S m v → cV S' m v
  | 0, i, S, h, hD, hR => by
    have g8 : gI S 8 = L.length := hD.1
    have hi : i = L.length := by omega
    refine ⟨S, ?_, yFr_rf _ _, fun k hk => hR k (by omega), fun m v _ hv => hv⟩
    rw [w113_139, g8, if_neg (by rw [yr_eq, yr_eq] <;> omega)]
  | m + 1, i, S, h, hD, hR => by
    have g8 : gI S 8 = L.length := hD.1
    have hi : i < L.length := by omega
    have ei : yr (i : Int) = i := yr_eq (by omega) (by omega)
    have en : yr (L.length : Int) = L.length := yr_eq (by omega) (by omega)
    have e1 : (i : Int) + 1 = ((i + 1 : Nat) : Int) := by omega
    have e8 : (8 : Int) + i = ((8 + i : Nat) : Int) := by omega
    have kk : 0 ≤ (i : Int) ∧ (i : Int) < 8 := by omega
    have dd := yLs_D hD dDf hi
    obtain ⟨_, d14, _⟩ := dd
    have d14 : gA S 14 i = ((L.getD i dDf).2.1 : Int) := d14
    have hmem : L.getD i dDf ∈ L := by
      rw [List.getD_eq_getElem?_getD, List.getElem?_eq_getElem hi]
      exact List.getElem_mem hi
    have ht := h01 _ hmem
    obtain ⟨S1, a1, a2, a3⟩ := c74 (q := q) (d := d) (js := js) (S := S) (n := 8 + i) (x := ((L.getD i dDf).2.1 : Int)) (by omega) (by omega)
    have ev : ynw (L.getD i dDf) = if ((L.getD i dDf).2.1 : Int) = 0 then .inl 0 else .inr [] := by
      unfold ynw
      by_cases w : (L.getD i dDf).2.1 = 0
      · rw [if_pos w, if_pos (by omega)]
      · rw [if_neg w, if_neg (by omega)]
    obtain ⟨S', c1, c2, c3, c4⟩ := c113t (x0 := x0) h8 h01 m (i + 1) S1 (by omega) (cDe_fr hD a2.1 ⟨rfl, rfl, rfl, rfl, rfl, rfl⟩) (fun k hk => by
      by_cases y : k = i
      · rw [y, ev]
        exact a3
      · exact cV_fs (n := 8 + i) a2 (by omega) (hR k (by omega)))
    refine ⟨S', ?_, yFr_tr a2.1 c2, c3, fun m v hm hv => c4 m v hm (cV_fs (n := 8 + i) a2 (by omega) hv)⟩
    rw [w113_139, g8, ei, en, if_pos (by omega), if_pos kk, Int.toNat_natCast, d14, e8, a1, YB_retv, w113_176, e1, c1]
end YTPL
end YTP
