/-! taken from whole by wip/p27/slice.py: 9zzzn.anew3.lean.txt -/
section YTO
section YTOL
variable {q : yQ} {d : Nat} {js : List xO}
theorem c117l {T : List yDf} (h8 : T.length ≤ 8) (h01 : ∀ x, x ∈ T → x.2.1 ≤ 1) (hsc : ∀ x, x ∈ T → -2 ≤ x.2.2.2.2 ∧ x.2.2.2.2 ≤ 2) : ∀ (m i : Nat) (S : yS) (val : Nat → yVal) (has : Nat → Bool), i + m = T.length → cDe S 1 T → cTo S T val has → ∃ S' : yS, Y q (d + 2) 117 97 [vr 131, vi i] [] S js = YB q (Y q (d + 1) 108 0 [vr 91, vi 1] [] S' js) (d + 2) 117 144 [vr 131, vi T.length] [vr 131] ∧ yFr yWcn S S' ∧ cTo S' T (fun k => if i ≤ k ∧ (T.getD k dDf).2.2.2.2 = -1 then ynw (T.getD k dDf) else val k) (fun k => if i ≤ k ∧ (T.getD k dDf).2.2.2.2 = -1 then false else has k) ∧ ∀ m v, m < 16 ∨ 24 ≤ m → cV S m v → cV S' m v
  | 0, i, S, val, has, h, hD, hR => by
    have g9 : gI S 9 = T.length := hD.1
    have hi : i = T.length := by omega
    refine ⟨S, ?_, yFr_rf _ _, cTo_cg hR (fun k hk => by rw [if_neg (by omega)]) (fun k hk => by rw [if_neg (by omega)]), fun m v _ hv => hv⟩
    rw [w117_97, g9, if_neg (by rw [yr_eq, yr_eq] <;> omega), hi]
  | m + 1, i, S, val, has, h, hD, hR => by
    have g9 : gI S 9 = T.length := hD.1
    have hi : i < T.length := by omega
    have ei : yr (i : Int) = i := yr_eq (by omega) (by omega)
    have en : yr (T.length : Int) = T.length := yr_eq (by omega) (by omega)
    have em : yr (-1) = -1 := rfl
    have e1 : (i : Int) + 1 = ((i + 1 : Nat) : Int) := by omega
    have kk : 0 ≤ (i : Int) ∧ (i : Int) < 8 := by omega
    have dd := yLs_D hD dDf hi
    obtain ⟨_, _, _, _, d19⟩ := dd
    have d19 : gA S 19 i = (T.getD i dDf).2.2.2.2 := d19
    have hmem : T.getD i dDf ∈ T := by
      rw [List.getD_eq_getElem?_getD, List.getElem?_eq_getElem hi]
      exact List.getElem_mem hi
    have hs := hsc _ hmem
    have es : yr (T.getD i dDf).2.2.2.2 = (T.getD i dDf).2.2.2.2 := yr_eq (by omega) (by omega)
    have st : Y q (d + 2) 117 97 [vr 131, vi i] [] S js = if (T.getD i dDf).2.2.2.2 = -1 then YB q (Y q (d + 1) 114 0 [vr 131, vi i] [] S js) (d + 2) 117 129 [vr 131, vi i] [] else Y q (d + 2) 117 97 [vr 131, vi ((i + 1 : Nat) : Int)] [] S js := by
      rw [w117_97, g9, ei, en, if_pos (by omega), if_pos kk, Int.toNat_natCast, d19, es, em, e1]
    rw [st]
    by_cases z : (T.getD i dDf).2.2.2.2 = -1
    · obtain ⟨S1, a1, a2, a3, a4⟩ := c114t (q := q) (d := d) (js := js) h8 h01 hi hD hR
      obtain ⟨S', c1, c2, c3, c4⟩ := c117l h8 h01 hsc m (i + 1) S1 _ _ (by omega) (cDe_cn hD a2) a3
      refine ⟨S', ?_, yFr_tr a2 c2, cTo_cg c3 (fun k hk => ?_) (fun k hk => ?_), fun m v hm hv => c4 m v hm (a4 m v hm hv)⟩
      · rw [if_pos z, a1, YB_retv, w117_132, e1, c1]
      · show (if i ≤ k ∧ (T.getD k dDf).2.2.2.2 = -1 then ynw (T.getD k dDf) else val k) = if i + 1 ≤ k ∧ (T.getD k dDf).2.2.2.2 = -1 then ynw (T.getD k dDf) else if k = i then ynw (T.getD k dDf) else val k
        by_cases y : k = i
        · rw [if_neg (show ¬ (i + 1 ≤ k ∧ (T.getD k dDf).2.2.2.2 = -1) by omega), if_pos y, y, if_pos ⟨Nat.le_refl _, z⟩]
        · by_cases w : i + 1 ≤ k ∧ (T.getD k dDf).2.2.2.2 = -1
          · rw [if_pos w, if_pos ⟨by omega, w.2⟩]
          · rw [if_neg w, if_neg y, if_neg (fun v => w ⟨by omega, v.2⟩)]
      · show (if i ≤ k ∧ (T.getD k dDf).2.2.2.2 = -1 then false else has k) = if i + 1 ≤ k ∧ (T.getD k dDf).2.2.2.2 = -1 then false else if k = i then false else has k
        by_cases y : k = i
        · rw [if_neg (show ¬ (i + 1 ≤ k ∧ (T.getD k dDf).2.2.2.2 = -1) by omega), if_pos y, y, if_pos ⟨Nat.le_refl _, z⟩]
        · by_cases w : i + 1 ≤ k ∧ (T.getD k dDf).2.2.2.2 = -1
          · rw [if_pos w, if_pos ⟨by omega, w.2⟩]
          · rw [if_neg w, if_neg y, if_neg (fun v => w ⟨by omega, v.2⟩)]
    · obtain ⟨S', c1, c2, c3, c4⟩ := c117l h8 h01 hsc m (i + 1) S val has (by omega) hD hR
      refine ⟨S', by rw [if_neg z, c1], c2, cTo_cg c3 (fun k hk => ?_) (fun k hk => ?_), c4⟩
      · show (if i ≤ k ∧ (T.getD k dDf).2.2.2.2 = -1 then ynw (T.getD k dDf) else val k) = if i + 1 ≤ k ∧ (T.getD k dDf).2.2.2.2 = -1 then ynw (T.getD k dDf) else val k
        by_cases y : k = i
        · rw [y, if_neg (fun v => z v.2), if_neg (by omega)]
        · by_cases w : i + 1 ≤ k ∧ (T.getD k dDf).2.2.2.2 = -1
          · rw [if_pos w, if_pos ⟨by omega, w.2⟩]
          · rw [if_neg w, if_neg (fun v => w ⟨by omega, v.2⟩)]
      · show (if i ≤ k ∧ (T.getD k dDf).2.2.2.2 = -1 then false else has k) = if i + 1 ≤ k ∧ (T.getD k dDf).2.2.2.2 = -1 then false else has k
        by_cases y : k = i
        · rw [y, if_neg (fun v => z v.2), if_neg (by omega)]
        · by_cases w : i + 1 ≤ k ∧ (T.getD k dDf).2.2.2.2 = -1
          · rw [if_pos w, if_pos ⟨by omega, w.2⟩]
          · rw [if_neg w, if_neg (fun v => w ⟨by omega, v.2⟩)]
/-- all of them, whatever was there -/
theorem c113l {T : List yDf} {x0 : Int} (h8 : T.length ≤ 8) (h01 : ∀ x, x ∈ T → x.2.1 ≤ 1) : ∀ (m i : Nat) (S : yS), i + m = T.length → cDe S 1 T → (∀ k, k < i → cV S (16 + k) (ynw (T.getD k dDf)) ∧ gA S 36 k = 0) → ∃ S' : yS, Y q (d + 2) 113 184 [vr 131, vi x0, vi i] [] S js = YB q (Y q (d + 1) 115 0 [vr 131, vu, vu, vu] [] S' js) (d + 2) 113 210 [vr 131, vi x0, vi T.length] [] ∧ yFr yWcn S S' ∧ cTo S' T (fun k => ynw (T.getD k dDf)) (fun _ => false) ∧ ∀ m v, m < 16 ∨ 24 ≤ m → cV S m v → cV S' m v
  | 0, i, S, h, hD, hR => by
    have g9 : gI S 9 = T.length := hD.1
    have hi : i = T.length := by omega
    refine ⟨S, ?_, yFr_rf _ _, fun k hk => ⟨(hR k (by omega)).1, (hR k (by omega)).2⟩, fun m v _ hv => hv⟩
    rw [w113_184, g9, if_neg (by rw [yr_eq, yr_eq] <;> omega), hi]
  | m + 1, i, S, h, hD, hR => by
    have g9 : gI S 9 = T.length := hD.1
    have hi : i < T.length := by omega
    have ei : yr (i : Int) = i := yr_eq (by omega) (by omega)
    have en : yr (T.length : Int) = T.length := yr_eq (by omega) (by omega)
    have e1 : (i : Int) + 1 = ((i + 1 : Nat) : Int) := by omega
    have dd := yLs_D hD dDf hi
    obtain ⟨_, d15, _⟩ := dd
    have d15 : gA S 15 i = ((T.getD i dDf).2.1 : Int) := d15
    have hmem : T.getD i dDf ∈ T := by
      rw [List.getD_eq_getElem?_getD, List.getElem?_eq_getElem hi]
      exact List.getElem_mem hi
    have ht := h01 _ hmem
    obtain ⟨S1, a1, a2, a3⟩ := c114 (q := q) (d := d) (js := js) (S := S) (k := i) (by omega) d15 (by omega)
    have low : ∀ m v, m ≠ 16 + i → cV S m v → cV S1 m v := fun m v hm hv => cV_fs (n := 16 + i) a2 hm (show cV (sA S 36 i 0) m v from hv)
    have f1 : yFr yWcn S S1 := yFr_tr (yFr_A rfl) (yWcn_m a2.1)
    have e36 : ∀ k, gA S1 36 k = if k = i then 0 else gA S 36 k := fun k => by
      rw [a2.1.2.2.2.1 36 rfl]
      exact gA_self _ _ _ _ _
    have ev : ynw (T.getD i dDf) = if ((T.getD i dDf).2.1 : Int) = 0 then .inl 0 else .inr [] := by
      unfold ynw
      by_cases w : (T.getD i dDf).2.1 = 0
      · rw [if_pos w, if_pos (by omega)]
      · rw [if_neg w, if_neg (by omega)]
    obtain ⟨S', c1, c2, c3, c4⟩ := c113l (x0 := x0) h8 h01 m (i + 1) S1 (by omega) (cDe_cn hD f1) (fun k hk => by
      rw [e36]
      by_cases y : k = i
      · rw [if_pos y, y, ev]
        exact ⟨a3, rfl⟩
      · rw [if_neg y]
        exact ⟨low _ _ (by omega) (hR k (by omega)).1, (hR k (by omega)).2⟩)
    refine ⟨S', ?_, yFr_tr f1 c2, c3, fun m v hm hv => c4 m v hm (low m v (by omega) hv)⟩
    rw [w113_184, g9, ei, en, if_pos (by omega), a1, YB_retv, w113_203, e1, c1]
end YTOL
end YTO
