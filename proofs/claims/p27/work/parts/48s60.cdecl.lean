/-! taken from whole by wip/p27/slice2.py: 9zo.cdecl.lean.txt -/
section YCQ
section YCQL
variable {q : yQ} {d : Nat} {js : List xO} {G : yGx} {σ σ' : yPS} {m : yMo} {S S' : yS} {a a' : Int}
theorem sRl_t {t : Nat} {κ : (Nat × Nat) ⊕ yPV} (h : sRl G σ m) (e : σ = .inr (t, κ)) : t < gN G := by
  subst e
  obtain ⟨b, _, h2, _⟩ := h
  exact h2
theorem cP_k (hG : gOk G) (h : cP G a S σ) (hf : yFr yWk S S') (hr : sRl G σ' m) (hn : cNd (gT G) (gN G) 0 S' m) (ha : ∀ t V, σ' = .inr (t, .inr V) → ∃ t0, σ = .inr (t0, .inr V) ∧ t0 ≤ t ∧ t0 + a ≤ t + a') : cP G a' S' σ' := by
  obtain ⟨h1, h2, h3, h4⟩ := h
  have fy : yFr (yWy 0) S S' := yFr_mo hf fun s k e => by
    unfold yWy at e
    simp only [Bool.or_eq_false_iff] at e
    exact yWx_k e.1.1
  refine ⟨⟨m, hr, hn⟩, cRg_fr h2 fy, cCx_fr h3 hf ⟨rfl, rfl, rfl, rfl, rfl⟩, fun t V e => ?_⟩
  obtain ⟨t0, e0, k1, k2⟩ := ha t V e
  obtain ⟨x1, x2⟩ := h4 t0 V e0
  exact ⟨cVl_fr x1 fy, sOk_le hG k1 (sRl_t hr e) k2 x2⟩
theorem cP_a (hG : gOk G) (h : cP G a S σ) (ha : a ≤ a') : cP G a' S σ := by
  obtain ⟨⟨m, h1, h2⟩, _⟩ := id h
  exact cP_k hG h (yFr_rf _ _) h1 h2 fun t V e => ⟨t, e, by omega, by omega⟩
theorem cP_kd (hG : gOk G) (h : cP G a S σ) : gK S 0 = skd G σ ∧ skd G σ < 67 ∧ gI S 16 = spl G σ := by
  obtain ⟨⟨m, h1, h2⟩, _⟩ := h
  have := cNd_kind hG.1 h2
  rw [sRl_kd h1] at this
  exact ⟨this.1, this.2, by rw [(cNd_v h2).2, sRl_pl h1]⟩
theorem k154 (hG : gOk G) (h : cP G a S σ) (hk : skd G σ ≤ 64) : ∃ S' : yS, Y q d 154 0 [vr 86] [] S js = yretv q S' js ∧ yFr yWk S S' ∧ cP G (a - 1) S' (snx σ) := by
  obtain ⟨⟨m, h1, h2⟩, _⟩ := id h
  obtain ⟨S', e1, e2, e3⟩ := nnext (q := q) (d := d) (js := js) (Or.inl rfl) hG.1 h2 (sRl_64 h1 hk)
  refine ⟨S', e1, e2, cP_k hG h e2 (sRl_nx hG.1 h1 hk) e3 fun t V e => ?_⟩
  obtain ⟨t0, f1, f2⟩ := snx_al e
  exact ⟨t0, f1, by omega, by omega⟩
theorem k155 (hG : gOk G) (h : cP G a S σ) : ∃ S' : yS, Y q d 155 0 [vr 86] [] S js = yretv q S' js ∧ yFr yWk S S' ∧ ∀ a', cP G a' S' (srf G σ) := by
  obtain ⟨⟨m, h1, h2⟩, _⟩ := id h
  obtain ⟨S', e1, e2, e3, _⟩ := nrefuse (q := q) (d := d) (js := js) (Or.inl rfl) h2
  exact ⟨S', e1, e2, fun a' => cP_k hG h e2 (sRl_rf h1) e3 fun t V e => (srf_al e).elim⟩
theorem k153 {n p : Nat} (hG : gOk G) (h : cP G a S σ) (hn : 2 ≤ n ∧ n ≤ 6) : ∃ S' : yS, Y q d 153 0 [vr 86, vi n, vi p] [] S js = yretv q S' js ∧ yFr yWk S S' ∧ ∀ a', cP G a' S' (swr σ n p) := by
  obtain ⟨⟨m, h1, h2⟩, _⟩ := id h
  obtain ⟨S', e1, e2, e3⟩ := nwrong (q := q) (d := d) (js := js) (n := n) (p := p) (Or.inl rfl) h2 hn
  exact ⟨S', e1, e2, fun a' => cP_k hG h e2 (sRl_wr h1) e3 fun t V e => (swr_al e).elim⟩
theorem k30 {kd : Nat} (hG : gOk G) (h : cP G a S σ) (hkd : kd ≤ 64) : ∃ S' : yS, Y q (d + 1) 30 0 [vr 123, vr kd] [] S js = yretv q S' js ∧ yFr yWk S S' ∧ cP G (a - 1) S' (sxp G kd σ) := by
  obtain ⟨⟨m, h1, h2⟩, _⟩ := id h
  obtain ⟨S', e1, e2, e3⟩ := nexpect (q := q) (d := d) (js := js) (kd := kd) (Or.inl rfl) hG.1 h2 hkd
  refine ⟨S', e1, e2, cP_k hG h e2 (sRl_xp hG.1 hkd h1) e3 fun t V e => ?_⟩
  obtain ⟨t0, f1, f2, _⟩ := sxp_al e
  exact ⟨t0, f1, by omega, by omega⟩
theorem k29 {lo hi : Nat} (hG : gOk G) (h : cP G a S σ) (hlo : lo ≤ hi) (hhi : hi ≤ 2000) : ∃ (S' : yS) (r : Int), Y q (d + 2) 29 0 [vr 123, vi lo, vi hi, vu, vu, vu] [] S js = yret q (vi r) S' js ∧ yFr yWk S S' ∧ cP G (a - 1) S' (snum G lo hi σ) ∧ lo ≤ r ∧ r ≤ hi ∧ ∀ t V, snum G lo hi σ = .inr (t, .inr V) → r = ((svl G σ).toInt.toNat : Nat) := by
  obtain ⟨⟨m, h1, h2⟩, _⟩ := id h
  obtain ⟨S', r, e1, e2, e3, e4, e5, e6⟩ := nnumber (q := q) (d := d) (js := js) (lo := lo) (hi := hi) (Or.inl rfl) hG.1 h2 (by omega) (by omega)
  refine ⟨S', r, e1, e2, cP_k hG h e2 (sRl_num hG.1 h1 (sRl_vl h1)) e3 fun t V e => ?_, e4, e5, fun t V e => ?_⟩
  · obtain ⟨t0, f1, f2, _⟩ := snum_al e
    exact ⟨t0, f1, by omega, by omega⟩
  · obtain ⟨t0, f1, f2, f3, f4, _⟩ := snum_al e
    rw [sRl_vl h1 _ _ f1] at e6
    rw [e6 ⟨f3, f4⟩]
    omega
/-- names -/
theorem sfc_S (h : cCx G S) (v : Int64) : yfind (gB S 6) v (gI S 10).toNat 0 = sfc G v := by
  unfold sfc
  have k := congrFun h.2.1 v
  rw [h.1, Int.toNat_natCast]
  exact k
theorem yfg_cg {g g' : Nat → Int} {c : Int} : ∀ (n i : Nat), (∀ k, i ≤ k → k < i + n → g k = g' k) → yfg g c n i = yfg g' c n i
  | 0, _, _ => rfl
  | n + 1, i, h => by
    unfold yfg
    rw [h i (by omega) (by omega), yfg_cg n (i + 1) (fun k h1 h2 => h k (by omega) (by omega))]
theorem sfg_S {V : yPV} (h : cVl S V) (c : Int) : yfg (gA S 25) c (gI S 24).toNat 0 = sfg V c := by
  have hg := h.2.2.1
  unfold sfg
  rw [hg.1, Int.toNat_natCast]
  exact yfg_cg _ _ fun k _ hk => yLs_D hg 0 (by omega)
theorem sfl_S {z : Nat} {l : List yDf} (h : cDe S z l) (v : Int64) : yfind (gB S (4 + z)) v (gI S (8 + z)).toNat 0 = sfl l v := by
  unfold sfl
  rw [h.1, Int.toNat_natCast]
  exact yfind_cg fun k _ hk => (yLs_D h dDf (by omega)).1
theorem sgr_S {V : yPV} (hC : cCx G S) (h : cVl S V) (v : Int64) : ygr S v = sgr G V v := by
  unfold ygr sgr
  rw [sfc_S hC, sfg_S h]
theorem stk_S {V : yPV} (hC : cCx G S) (h : cVl S V) (v : Int64) : stk G V v = true ↔ ytkn S v := by
  unfold stk ytkn
  rw [decide_eq_true_iff, sfc_S hC]
  have e1 : yfind (gB S 4) v (gI S 8).toNat 0 = sfl (qzL V) v := sfl_S h.2.2.2.1 v
  have e2 : yfind (gB S 5) v (gI S 9).toNat 0 = sfl (qzT V) v := sfl_S h.2.2.2.2.1 v
  rw [e1, e2]
theorem sfc_r (hG : gOk G) (v : Int64) : -1 ≤ sfc G v ∧ sfc G v < gCc G ∧ sfc G v < 8 := by
  have := hG.2.2.2.2.2.1
  have h2 := this.2 v
  unfold sfc
  omega
theorem sfl_r {l : List yDf} (h : l.length ≤ 8) (v : Int64) : -1 ≤ sfl l v ∧ sfl l v < l.length := by
  rcases yfind_c (f := snl l) (v := v) h with h | ⟨k, h1, h2⟩ <;> unfold sfl <;> omega
theorem snm_S {w : Int} {t : Nat} {V : yPV} (hG : gOk G) (hC : cCx G S) (h : cVl S V) (ho : sOk G a t V) : ynmS S w = snm G w V := by
  funext v
  obtain ⟨_, _, _, ⟨_, _, o1, o2⟩, _, _, o3, o4⟩ := ho
  have e1 : yfind (gB S 4) v (gI S 8).toNat 0 = sfl (qzL V) v := sfl_S h.2.2.2.1 v
  have e2 : yfind (gB S 5) v (gI S 9).toNat 0 = sfl (qzT V) v := sfl_S h.2.2.2.2.1 v
  have g14 : ∀ k, k < (qzL V).length → gA S 14 k = ((qzL V).getD k dDf).2.1 ∧ ((qzL V).getD k dDf).2.1 ≤ 1 := fun k hk => ⟨(yLs_D h.2.2.2.1 dDf hk).2.1, o3 _ (by rw [List.getD_eq_getElem?_getD, List.getElem?_eq_getElem hk]; exact List.getElem_mem hk)⟩
  have g15 : ∀ k, k < (qzT V).length → gA S 15 k = ((qzT V).getD k dDf).2.1 ∧ ((qzT V).getD k dDf).2.1 ≤ 1 := fun k hk => ⟨(yLs_D h.2.2.2.2.1 dDf hk).2.1, o4 _ (by rw [List.getD_eq_getElem?_getD, List.getElem?_eq_getElem hk]; exact List.getElem_mem hk)⟩
  unfold ynmS snm
  rw [sfc_S hC, e1, e2]
  have r1 := sfc_r hG v
  have r2 := sfl_r o1 v
  have r3 := sfl_r o2 v
  have y01 : ∀ x : Int, x = 0 ∨ x = 1 → yr x = x := fun x hx => by rcases hx with rfl | rfl <;> rfl
  by_cases z1 : 0 ≤ sfc G v
  · have k : (if (sfc G v).toNat < gCc G then gA S 20 (sfc G v).toNat else 0) = gCt G (sfc G v).toNat := congrFun hC.2.2.1 _
    rw [if_pos (by omega)] at k
    rw [if_pos z1, if_pos z1, k, y01 _ (hG.2.2.2.2.2.2 _ (by omega))]
  · rw [if_neg z1, if_neg z1]
    by_cases z2 : w ≠ 0 ∧ 0 ≤ sfl (qzL V) v
    · obtain ⟨k1, k2⟩ := g14 (sfl (qzL V) v).toNat (by omega)
      rw [if_pos z2, if_pos z2, k1, y01 _ (by omega)]
      simp only [Int.natCast_eq_zero]
    · rw [if_neg z2, if_neg z2]
      by_cases z3 : w = 2 ∧ 0 ≤ sfl (qzT V) v
      · obtain ⟨k1, k2⟩ := g15 (sfl (qzT V) v).toNat (by omega)
        rw [if_pos z3, if_pos z3, k1, y01 _ (by omega)]
        simp only [Int.natCast_eq_zero]
      · rw [if_neg z3, if_neg z3]
end YCQL
end YCQ
