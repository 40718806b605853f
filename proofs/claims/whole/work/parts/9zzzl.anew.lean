/-! RUN: totals begin anew, the reference -/
section YTM
def ynw (x : yDf) : yVal := if x.2.1 = 0 then .inl 0 else .inr []
/-- totals' values, and whether they have taken one in -/
def rTo (S : yS) (T : List yDf) (val : Nat → yVal) (has : Nat → Bool) : Prop := ∀ k, k < T.length → rVv S (8 + k) (val k) ∧ gA S 63 k = if has k = true then 1 else 0
def yWan (s k : Nat) : Bool := yWvv s k || (s == 3 && k == 63)
theorem yWan_v {S S' : yS} (h : yFr yWvv S S') : yFr yWan S S' := yFr_mo h fun s k e => by
  unfold yWan at e
  simp only [Bool.or_eq_false_iff] at e
  exact e.1
theorem rTo_cg {S : yS} {T : List yDf} {val val' : Nat → yVal} {has has' : Nat → Bool} (h : rTo S T val has) (h1 : ∀ k, k < T.length → val' k = val k) (h2 : ∀ k, k < T.length → has' k = has k) : rTo S T val' has' := fun k hk => by
  rw [h1 k hk, h2 k hk]
  exact h k hk
section YTML
variable {q : yQ} {d : Nat} {js : List xO}
theorem r279l {T : List yDf} {per : Int} (h8 : T.length ≤ 8) (h01 : ∀ x, x ∈ T → x.2.1 ≤ 1) (hper : -1 ≤ per ∧ per ≤ 3) (hsc : ∀ x, x ∈ T → -2 ≤ x.2.2.2.2 ∧ x.2.2.2.2 ≤ 2) : ∀ (m i : Nat) (S : yS) (val : Nat → yVal) (has : Nat → Bool), i + m = T.length → rD2 S T → rTo S T val has → ∃ S' : yS, Y q (d + 1) 279 2 [vr 129, vi per, vi i] [] S js = yretv q S' js ∧ yFr yWan S S' ∧ rTo S' T (fun k => if i ≤ k ∧ rsc (T.getD k dDf).2.2.2.2 = per then ynw (T.getD k dDf) else val k) (fun k => if i ≤ k ∧ rsc (T.getD k dDf).2.2.2.2 = per then false else has k) ∧ ∀ k v, k < 8 → rVv S k v → rVv S' k v
  | 0, i, S, val, has, h, hD, hR => by
    have g52 : gI S 52 = T.length := hD.1
    refine ⟨S, ?_, yFr_rf _ _, rTo_cg hR (fun k hk => by rw [if_neg (by omega)]) (fun k hk => by rw [if_neg (by omega)]), fun k v _ hv => hv⟩
    rw [w279_2, g52, if_neg (by rw [yr_eq, yr_eq] <;> omega)]
  | m + 1, i, S, val, has, h, hD, hR => by
    have g52 : gI S 52 = T.length := hD.1
    have hi : i < T.length := by omega
    have ei : yr (i : Int) = i := yr_eq (by omega) (by omega)
    have en : yr (T.length : Int) = T.length := yr_eq (by omega) (by omega)
    have e1 : (i : Int) + 1 = ((i + 1 : Nat) : Int) := by omega
    have kk : 0 ≤ (i : Int) ∧ (i : Int) < 8 := by omega
    have dd := yLs_D hD dDf hi
    obtain ⟨_, d44, _, _, d47⟩ := dd
    have hmem : T.getD i dDf ∈ T := by
      rw [List.getD_eq_getElem?_getD, List.getElem?_eq_getElem hi]
      exact List.getElem_mem hi
    have hs := hsc _ hmem
    have ht := h01 _ hmem
    have rr : -1 ≤ rsc (T.getD i dDf).2.2.2.2 ∧ rsc (T.getD i dDf).2.2.2.2 ≤ 3 := by
      unfold rsc
      split
      · omega
      · split <;> omega
    have er : yr (rsc (T.getD i dDf).2.2.2.2) = rsc (T.getD i dDf).2.2.2.2 := yr_eq (by omega) (by omega)
    have ep : yr per = per := yr_eq (by omega) (by omega)
    have st : Y q (d + 1) 279 2 [vr 129, vi per, vi i] [] S js = if rsc (T.getD i dDf).2.2.2.2 = per then YB q (Y q d 278 0 [vr 129, vi ((8 + i : Nat) : Int), vi ((T.getD i dDf).2.1 : Int)] [] S js) (d + 1) 279 34 [vr 129, vi per, vi i] [] else Y q (d + 1) 279 2 [vr 129, vi per, vi ((i + 1 : Nat) : Int)] [] S js := by
      have e8 : (8 : Int) + i = ((8 + i : Nat) : Int) := by omega
      rw [w279_2, g52, ei, en, if_pos (by omega), if_pos kk, Int.toNat_natCast, d47, er, ep, if_pos kk, d44, e1, e8]
    rw [st]
    by_cases z : rsc (T.getD i dDf).2.2.2.2 = per
    · obtain ⟨S1, a1, a2, a3⟩ := r278 (q := q) (d := d) (js := js) (k := 8 + i) (t := ((T.getD i dDf).2.1 : Int)) (S := S) (by omega) (by omega)
      have b : yi2z 0 = 0 := by decide
      have f2 : yFr yWan S (sA S1 63 i 0) := yFr_tr (yWan_v a2.1) (yFr_A rfl)
      have hD2 : rD2 (sA S1 63 i 0) T := by
        unfold rD2 at hD ⊢
        rw [f2.1 52 rfl, f2.2.2.2.2.1 15 rfl, f2.2.2.2.1 44 rfl, f2.2.2.2.1 46 rfl, f2.2.2.2.1 45 rfl, f2.2.2.2.1 47 rfl]
        exact hD
      have hR2 : rTo (sA S1 63 i 0) T (fun k => if k = i then ynw (T.getD k dDf) else val k) (fun k => if k = i then false else has k) := by
        intro k hk
        have e63 : gA (sA S1 63 i 0) 63 k = if k = i then 0 else gA S1 63 k := gA_self _ _ _ _ _
        have e63' : gA S1 63 = gA S 63 := a2.1.2.2.2.1 63 rfl
        rw [e63, e63']
        show rVv (sA S1 63 i 0) (8 + k) (if k = i then ynw (T.getD k dDf) else val k) ∧ (if k = i then (0 : Int) else gA S 63 k) = if (if k = i then false else has k) = true then 1 else 0
        by_cases y : k = i
        · rw [if_pos y, if_pos y, if_pos y]
          refine ⟨?_, rfl⟩
          have : ynw (T.getD k dDf) = if ((T.getD i dDf).2.1 : Int) = 0 then .inl 0 else .inr [] := by
            unfold ynw
            rw [y]
            by_cases w : (T.getD i dDf).2.1 = 0
            · rw [if_pos w, if_pos (by omega)]
            · rw [if_neg w, if_neg (by omega)]
          rw [this, y]
          exact a3
        · rw [if_neg y, if_neg y, if_neg y]
          have q1 : rVv S1 (8 + k) (val k) := rVv_fs (n := 8 + i) (m := 8 + k) a2 (by omega) (hR k hk).1
          exact ⟨q1, (hR k hk).2⟩
      obtain ⟨S', c1, c2, c3, c4⟩ := r279l h8 h01 hper hsc m (i + 1) (sA S1 63 i 0) _ _ (by omega) hD2 hR2
      refine ⟨S', ?_, yFr_tr f2 c2, rTo_cg c3 (fun k hk => ?_) (fun k hk => ?_), fun k v hk hv => c4 k v hk (show rVv S1 k v from rVv_fs (n := 8 + i) (m := k) a2 (by omega) hv)⟩
      · rw [if_pos z, a1, YB_retv, w279_37, ei, if_pos kk, Int.toNat_natCast, b, e1, c1]
      · show (if i ≤ k ∧ rsc (T.getD k dDf).2.2.2.2 = per then ynw (T.getD k dDf) else val k) = if i + 1 ≤ k ∧ rsc (T.getD k dDf).2.2.2.2 = per then ynw (T.getD k dDf) else if k = i then ynw (T.getD k dDf) else val k
        by_cases y : k = i
        · rw [if_neg (show ¬ (i + 1 ≤ k ∧ rsc (T.getD k dDf).2.2.2.2 = per) by omega), if_pos y, y, if_pos ⟨Nat.le_refl _, z⟩]
        · by_cases w : i + 1 ≤ k ∧ rsc (T.getD k dDf).2.2.2.2 = per
          · rw [if_pos w, if_pos ⟨by omega, w.2⟩]
          · rw [if_neg w, if_neg y, if_neg (fun v => w ⟨by omega, v.2⟩)]
      · show (if i ≤ k ∧ rsc (T.getD k dDf).2.2.2.2 = per then false else has k) = if i + 1 ≤ k ∧ rsc (T.getD k dDf).2.2.2.2 = per then false else if k = i then false else has k
        by_cases y : k = i
        · rw [if_neg (show ¬ (i + 1 ≤ k ∧ rsc (T.getD k dDf).2.2.2.2 = per) by omega), if_pos y, y, if_pos ⟨Nat.le_refl _, z⟩]
        · by_cases w : i + 1 ≤ k ∧ rsc (T.getD k dDf).2.2.2.2 = per
          · rw [if_pos w, if_pos ⟨by omega, w.2⟩]
          · rw [if_neg w, if_neg y, if_neg (fun v => w ⟨by omega, v.2⟩)]
    · obtain ⟨S', c1, c2, c3, c4⟩ := r279l h8 h01 hper hsc m (i + 1) S val has (by omega) hD hR
      refine ⟨S', by rw [if_neg z, c1], c2, rTo_cg c3 (fun k hk => ?_) (fun k hk => ?_), c4⟩
      · show (if i ≤ k ∧ rsc (T.getD k dDf).2.2.2.2 = per then ynw (T.getD k dDf) else val k) = if i + 1 ≤ k ∧ rsc (T.getD k dDf).2.2.2.2 = per then ynw (T.getD k dDf) else val k
        by_cases y : k = i
        · rw [y, if_neg (show ¬ (i ≤ i ∧ rsc (T.getD i dDf).2.2.2.2 = per) from fun v => z v.2), if_neg (by omega)]
        · by_cases w : i + 1 ≤ k ∧ rsc (T.getD k dDf).2.2.2.2 = per
          · rw [if_pos w, if_pos ⟨by omega, w.2⟩]
          · rw [if_neg w, if_neg (fun v => w ⟨by omega, v.2⟩)]
      · show (if i ≤ k ∧ rsc (T.getD k dDf).2.2.2.2 = per then false else has k) = if i + 1 ≤ k ∧ rsc (T.getD k dDf).2.2.2.2 = per then false else has k
        by_cases y : k = i
        · rw [y, if_neg (show ¬ (i ≤ i ∧ rsc (T.getD i dDf).2.2.2.2 = per) from fun v => z v.2), if_neg (by omega)]
        · by_cases w : i + 1 ≤ k ∧ rsc (T.getD k dDf).2.2.2.2 = per
          · rw [if_pos w, if_pos ⟨by omega, w.2⟩]
          · rw [if_neg w, if_neg (fun v => w ⟨by omega, v.2⟩)]
end YTML
end YTM
