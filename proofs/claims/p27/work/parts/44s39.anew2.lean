/-! taken from whole by wip/p27/slice.py: 9zzzm.anew2.lean.txt -/
section YTN
def cTo (S : yS) (T : List yDf) (val : Nat → yVal) (has : Nat → Bool) : Prop := ∀ k, k < T.length → cV S (16 + k) (val k) ∧ gA S 36 k = if has k = true then 1 else 0
def yWcn (s k : Nat) : Bool := yWm s k || (s == 3 && k == 36)
theorem yWcn_m {S S' : yS} (h : yFr yWm S S') : yFr yWcn S S' := yFr_mo h fun s k e => by
  unfold yWcn at e
  simp only [Bool.or_eq_false_iff] at e
  exact e.1
theorem cTo_cg {S : yS} {T : List yDf} {val val' : Nat → yVal} {has has' : Nat → Bool} (h : cTo S T val has) (h1 : ∀ k, k < T.length → val' k = val k) (h2 : ∀ k, k < T.length → has' k = has k) : cTo S T val' has' := fun k hk => by
  rw [h1 k hk, h2 k hk]
  exact h k hk
section YTNL
variable {q : yQ} {d : Nat} {js : List xO}
/-- one total -/
theorem c114t {T : List yDf} {S : yS} {val : Nat → yVal} {has : Nat → Bool} {i : Nat} (h8 : T.length ≤ 8) (h01 : ∀ x, x ∈ T → x.2.1 ≤ 1) (hi : i < T.length) (hD : cDe S 1 T) (hR : cTo S T val has) : ∃ S' : yS, Y q (d + 1) 114 0 [vr 131, vi i] [] S js = yretv q S' js ∧ yFr yWcn S S' ∧ cTo S' T (fun k => if k = i then ynw (T.getD k dDf) else val k) (fun k => if k = i then false else has k) ∧ ∀ m v, m < 16 ∨ 24 ≤ m → cV S m v → cV S' m v := by
  have dd := yLs_D hD dDf hi
  obtain ⟨_, d15, _⟩ := dd
  have d15 : gA S 15 i = ((T.getD i dDf).2.1 : Int) := d15
  have hmem : T.getD i dDf ∈ T := by
    rw [List.getD_eq_getElem?_getD, List.getElem?_eq_getElem hi]
    exact List.getElem_mem hi
  have ht := h01 _ hmem
  obtain ⟨S1, a1, a2, a3⟩ := c114 (q := q) (d := d) (js := js) (S := S) (k := i) (by omega) d15 (by omega)
  have low : ∀ m v, m ≠ 16 + i → cV S m v → cV S1 m v := fun m v hm hv => cV_fs (n := 16 + i) a2 hm (show cV (sA S 36 i 0) m v from hv)
  refine ⟨S1, a1, yFr_tr (yFr_A rfl) (yWcn_m a2.1), fun k hk => ?_, fun m v hm hv => low m v (by omega) hv⟩
  have e36 : gA S1 36 k = if k = i then 0 else gA S 36 k := by
    rw [a2.1.2.2.2.1 36 rfl]
    exact gA_self _ _ _ _ _
  rw [e36]
  show cV S1 (16 + k) (if k = i then ynw (T.getD k dDf) else val k) ∧ (if k = i then (0 : Int) else gA S 36 k) = if (if k = i then false else has k) = true then 1 else 0
  by_cases y : k = i
  · rw [if_pos y, if_pos y, if_pos y]
    refine ⟨?_, rfl⟩
    have : ynw (T.getD k dDf) = if ((T.getD i dDf).2.1 : Int) = 0 then .inl 0 else .inr [] := by
      unfold ynw
      rw [y]
      by_cases w : (T.getD i dDf).2.1 = 0
      · rw [if_pos w, if_pos (by omega)]
      · rw [if_neg w, if_neg (by omega)]
    rw [this, y]
    exact a3
  · rw [if_neg y, if_neg y, if_neg y]
    exact ⟨low _ _ (by omega) (hR k hk).1, (hR k hk).2⟩
theorem cDe_cn {S S' : yS} {T : List yDf} (h : cDe S 1 T) (hf : yFr yWcn S S') : cDe S' 1 T := cDe_fr h hf ⟨rfl, rfl, rfl, rfl, rfl, rfl⟩
/-- those from a group on -/
theorem c127l {T : List yDf} {g : Nat} (h8 : T.length ≤ 8) (h01 : ∀ x, x ∈ T → x.2.1 ≤ 1) (hg : g ≤ 3) (hsc : ∀ x, x ∈ T → -2 ≤ x.2.2.2.2 ∧ x.2.2.2.2 ≤ 2) : ∀ (m i : Nat) (S : yS) (val : Nat → yVal) (has : Nat → Bool), i + m = T.length → gI S 34 = 0 → cDe S 1 T → cTo S T val has → ∃ S' : yS, Y q (d + 2) 127 2 [vr 131, vi g, vi i] [] S js = yretv q S' js ∧ yFr yWcn S S' ∧ cTo S' T (fun k => if i ≤ k ∧ (g : Int) ≤ (T.getD k dDf).2.2.2.2 then ynw (T.getD k dDf) else val k) (fun k => if i ≤ k ∧ (g : Int) ≤ (T.getD k dDf).2.2.2.2 then false else has k) ∧ ∀ m v, m < 16 ∨ 24 ≤ m → cV S m v → cV S' m v
  | 0, i, S, val, has, h, h34, hD, hR => by
    have g9 : gI S 9 = T.length := hD.1
    refine ⟨S, ?_, yFr_rf _ _, cTo_cg hR (fun k hk => by rw [if_neg (by omega)]) (fun k hk => by rw [if_neg (by omega)]), fun m v _ hv => hv⟩
    rw [w127_2, g9, if_neg (by rw [yr_eq, yr_eq] <;> omega)]
  | m + 1, i, S, val, has, h, h34, hD, hR => by
    have g9 : gI S 9 = T.length := hD.1
    have hi : i < T.length := by omega
    have ei : yr (i : Int) = i := yr_eq (by omega) (by omega)
    have en : yr (T.length : Int) = T.length := yr_eq (by omega) (by omega)
    have eg : yr (g : Int) = g := yr_eq (by omega) (by omega)
    have e1 : (i : Int) + 1 = ((i + 1 : Nat) : Int) := by omega
    have kk : 0 ≤ (i : Int) ∧ (i : Int) < 8 := by omega
    have dd := yLs_D hD dDf hi
    obtain ⟨_, _, _, _, d19⟩ := dd
    have d19 : gA S 19 i = (T.getD i dDf).2.2.2.2 := d19
    have hmem : T.getD i dDf ∈ T := by
      rw [List.getD_eq_getElem?_getD, List.getElem?_eq_getElem hi]
      exact List.getElem_mem hi
    have hs := hsc _ hmem
    have es : yr (T.getD i dDf).2.2.2.2 = (T.getD i dDf).2.2.2.2 := yr_eq (by omega) (by omega)
    have st : Y q (d + 2) 127 2 [vr 131, vi g, vi i] [] S js = if (T.getD i dDf).2.2.2.2 < g then Y q (d + 2) 127 2 [vr 131, vi g, vi ((i + 1 : Nat) : Int)] [] S js else YB q (Y q (d + 1) 114 0 [vr 131, vi i] [] S js) (d + 2) 127 41 [vr 131, vi g, vi i] [] := by
      rw [w127_2, g9, ei, en, if_pos (by omega), h34, if_pos yr_0, if_pos kk, Int.toNat_natCast, d19, es, eg, e1]
    rw [st]
    by_cases z : (T.getD i dDf).2.2.2.2 < g
    · obtain ⟨S', c1, c2, c3, c4⟩ := c127l h8 h01 hg hsc m (i + 1) S val has (by omega) h34 hD hR
      refine ⟨S', by rw [if_pos z, c1], c2, cTo_cg c3 (fun k hk => ?_) (fun k hk => ?_), c4⟩
      · show (if i ≤ k ∧ (g : Int) ≤ (T.getD k dDf).2.2.2.2 then ynw (T.getD k dDf) else val k) = if i + 1 ≤ k ∧ (g : Int) ≤ (T.getD k dDf).2.2.2.2 then ynw (T.getD k dDf) else val k
        by_cases y : k = i
        · rw [y, if_neg (by omega), if_neg (by omega)]
        · by_cases w : i + 1 ≤ k ∧ (g : Int) ≤ (T.getD k dDf).2.2.2.2
          · rw [if_pos w, if_pos ⟨by omega, w.2⟩]
          · rw [if_neg w, if_neg (fun v => w ⟨by omega, v.2⟩)]
      · show (if i ≤ k ∧ (g : Int) ≤ (T.getD k dDf).2.2.2.2 then false else has k) = if i + 1 ≤ k ∧ (g : Int) ≤ (T.getD k dDf).2.2.2.2 then false else has k
        by_cases y : k = i
        · rw [y, if_neg (by omega), if_neg (by omega)]
        · by_cases w : i + 1 ≤ k ∧ (g : Int) ≤ (T.getD k dDf).2.2.2.2
          · rw [if_pos w, if_pos ⟨by omega, w.2⟩]
          · rw [if_neg w, if_neg (fun v => w ⟨by omega, v.2⟩)]
    · obtain ⟨S1, a1, a2, a3, a4⟩ := c114t (q := q) (d := d) (js := js) h8 h01 hi hD hR
      obtain ⟨S', c1, c2, c3, c4⟩ := c127l h8 h01 hg hsc m (i + 1) S1 _ _ (by omega) ((a2.1 34 rfl).trans h34) (cDe_cn hD a2) a3
      refine ⟨S', ?_, yFr_tr a2 c2, cTo_cg c3 (fun k hk => ?_) (fun k hk => ?_), fun m v hm hv => c4 m v hm (a4 m v hm hv)⟩
      · rw [if_neg z, a1, YB_retv, w127_44, e1, c1]
      · show (if i ≤ k ∧ (g : Int) ≤ (T.getD k dDf).2.2.2.2 then ynw (T.getD k dDf) else val k) = if i + 1 ≤ k ∧ (g : Int) ≤ (T.getD k dDf).2.2.2.2 then ynw (T.getD k dDf) else if k = i then ynw (T.getD k dDf) else val k
        by_cases y : k = i
        · rw [if_neg (show ¬ (i + 1 ≤ k ∧ (g : Int) ≤ (T.getD k dDf).2.2.2.2) by omega), if_pos y, y, if_pos ⟨Nat.le_refl _, by omega⟩]
        · by_cases w : i + 1 ≤ k ∧ (g : Int) ≤ (T.getD k dDf).2.2.2.2
          · rw [if_pos w, if_pos ⟨by omega, w.2⟩]
          · rw [if_neg w, if_neg y, if_neg (fun v => w ⟨by omega, v.2⟩)]
      · show (if i ≤ k ∧ (g : Int) ≤ (T.getD k dDf).2.2.2.2 then false else has k) = if i + 1 ≤ k ∧ (g : Int) ≤ (T.getD k dDf).2.2.2.2 then false else if k = i then false else has k
        by_cases y : k = i
        · rw [if_neg (show ¬ (i + 1 ≤ k ∧ (g : Int) ≤ (T.getD k dDf).2.2.2.2) by omega), if_pos y, y, if_pos ⟨Nat.le_refl _, by omega⟩]
        · by_cases w : i + 1 ≤ k ∧ (g : Int) ≤ (T.getD k dDf).2.2.2.2
          · rw [if_pos w, if_pos ⟨by omega, w.2⟩]
          · rw [if_neg w, if_neg y, if_neg (fun v => w ⟨by omega, v.2⟩)]
end YTNL
end YTN
