/-! THE REFERENCE READS A PROGRAM: groups' names, expressions, steps of the plan -/
section YRT
def smk (f : yPV → yPV) (κ : yKp) : yKp := match κ with
  | .inl e => .inl e
  | .inr V => .inr (f V)
section YRTL
variable {q : yQ} {d : Nat} {js : List xO} {G : yGx} {σ σ1 : yPS} {S S1 S' : yS} {sc c c' w : Int} {dp dp' t : Nat} {b : Bool} {o : Option xRes} {B B1 B2 : yS → Option xRes → Prop} {κ κ1 : yKp}
theorem smp_k {f : yPV → yPV} : smp f (.inr (t, κ)) = .inr (t, smk f κ) := by
  rcases κ with e | V <;> rfl
theorem sbk_k {f : yPV → yPV} : sbk (smk f κ) = sbk κ := by
  rcases κ with e | V <;> rfl
theorem rN_Q {k : yRk} (h : rN (gT G) (gN G) 0 sc S t dp k) (hf : yFr yWQ S S') : rN (gT G) (gN G) 0 sc S' t dp k := by
  obtain ⟨h1, h2, h3, h4, h5, h6, h7, h8, h9⟩ := h
  refine ⟨?_, h2, (hf.1 44 rfl).trans h3, (hf.1 47 rfl).trans h4, (hf.1 46 rfl).trans h5, h6, (hf.2.2.1 2 rfl).trans h7, (hf.1 50 rfl).trans h8, ?_⟩
  · unfold rT at h1 ⊢
    rw [hf.2.2.2.1 39 rfl, hf.2.2.2.1 40 rfl, hf.2.2.2.1 41 rfl, hf.2.2.2.2.1 13 rfl]
    exact h1
  · match k, h9 with
    | none, h9 => exact ⟨(hf.1 45 rfl).trans h9.1, (hf.1 4 rfl).trans h9.2.1, (hf.1 6 rfl).trans h9.2.2⟩
    | some (L, X), h9 =>
      obtain ⟨a, k, x⟩ := h9
      refine ⟨(hf.1 45 rfl).trans a, ?_, ?_⟩
      · unfold rK at k ⊢
        rw [hf.1 (4 + 0) rfl, hf.2.2.2.1 (6 + 0) rfl, hf.2.2.2.2.1 (2 + 0) rfl]
        exact k
      · unfold rX at x ⊢
        rw [hf.1 (6 + 0) rfl, hf.2.2.2.1 (10 + 0) rfl, hf.2.2.2.1 (12 + 0) rfl]
        exact x
/-- its tables alone change -/
theorem rS_Q {f : yPV → yPV} (h : rS G sc c S t dp κ) (hf : yFr yWQ S S') (he : ∀ e, κ = .inl e → rEm S') (hV : ∀ V, κ = .inr V → rVl S V → rOk G c t V → (zC (f V) = zC V ∧ zX (f V) = zX V) ∧ rVl S' (f V) ∧ rOk G c' t (f V)) : rS G sc c' S' t dp (smk f κ) := by
  obtain ⟨h1, h2, h3⟩ := h
  have n := rN_Q h1 hf
  rcases κ with e | V
  · exact ⟨n, rCx_fr h2 hf ⟨rfl, rfl, rfl⟩, he e rfl⟩
  · obtain ⟨⟨z1, z2⟩, v, o⟩ := hV V rfl h3.1 h3.2
    refine ⟨?_, rCx_fr h2 hf ⟨rfl, rfl, rfl⟩, v, o⟩
    show rN (gT G) (gN G) 0 sc S' t dp (some (zC (f V), zX (f V)))
    rw [z1, z2]
    exact n
theorem rNo_S (hG : gOk G) (h : rS G sc c S t dp κ) : rNo S := by
  have hcc := hG.2.2.2.2.2.1
  have hct := hG.2.2.2.2.2.2
  obtain ⟨_, ⟨c1, c2⟩, h3⟩ := h
  have n : ∀ i : Nat, (i : Int) < gI S 41 → gA S 38 i = 0 ∨ gA S 38 i = 1 := fun i hi => by
    rw [(c2 i (by omega)).2]
    exact hct i (by omega)
  rcases κ with e | V
  · have h3 : rEm S := h3
    exact ⟨by omega, by have := h3.1; omega, by have := h3.2.1; omega, n, fun i hi => by have := h3.1; omega, fun i hi => by have := h3.2.1; omega⟩
  · obtain ⟨v, o⟩ := h3
    have d1 := v.2.2.2.1
    have d2 := v.2.2.2.2.1
    obtain ⟨_, _, ⟨_, _, l1, l2⟩, _, t1, t2, _⟩ := o
    have e1 := d1.1
    have e2 := d2.1
    refine ⟨by omega, by omega, by omega, n, fun i hi => ?_, fun i hi => ?_⟩
    · have hi : i < (zL V).length := by omega
      have := (yLs_D d1 dDf hi).2.1
      have := t1 _ (show (zL V).getD i dDf ∈ zL V by rw [List.getD_eq_getElem?_getD, List.getElem?_eq_getElem hi]; exact List.getElem_mem hi)
      omega
    · have hi : i < (zT V).length := by omega
      have := (yLs_D d2 dDf hi).2.1
      have := t2 _ (show (zT V).getD i dDf ∈ zT V by rw [List.getD_eq_getElem?_getD, List.getElem?_eq_getElem hi]; exact List.getElem_mem hi)
      omega
theorem snm_R {V : yPV} (hG : gOk G) (hsw : (sc = 0 ∧ w = 1) ∨ (sc = 1 ∧ w = 2)) (h : rS G sc c S t dp (.inr V)) : ynmR S sc = snm G w V := by
  funext v
  have hcc := hG.2.2.2.2.2.1
  obtain ⟨_, ⟨c1, c2⟩, vv, o⟩ := h
  have d1 := vv.2.2.2.1
  have d2 := vv.2.2.2.2.1
  obtain ⟨_, _, ⟨_, _, l1, l2⟩, _, t1, t2, _⟩ := o
  have e1 : yfind (gB S 11) v (gI S 41).toNat 0 = sfc G v := by
    unfold sfc
    rw [c1, Int.toNat_natCast]
    exact yfind_cg fun k _ hk => (c2 k (by omega)).1
  have e2 : yfind (gB S 14) v (gI S 51).toNat 0 = sfl (zL V) v := by
    unfold sfl
    rw [d1.1, Int.toNat_natCast]
    exact yfind_cg fun k _ hk => (yLs_D d1 dDf (by omega)).1
  have e3 : yfind (gB S 15) v (gI S 52).toNat 0 = sfl (zT V) v := by
    unfold sfl
    rw [d2.1, Int.toNat_natCast]
    exact yfind_cg fun k _ hk => (yLs_D d2 dDf (by omega)).1
  have r1 := sfc_r hG v
  have r2 := sfl_r l1 v
  have r3 := sfl_r l2 v
  have hs1 : sc ≠ 2 ↔ w ≠ 0 := by omega
  have hs2 : sc = 1 ↔ w = 2 := by omega
  unfold ynmR snm
  rw [e1, e2, e3]
  by_cases z1 : 0 ≤ sfc G v
  · rw [if_pos z1, if_pos z1, (c2 _ (by omega)).2]
  · rw [if_neg z1, if_neg z1]
    by_cases z2 : w ≠ 0 ∧ 0 ≤ sfl (zL V) v
    · rw [if_pos z2, if_pos ⟨hs1.mpr z2.1, z2.2⟩, (yLs_D d1 dDf (j := (sfl (zL V) v).toNat) (by omega)).2.1]
      simp only [Int.natCast_eq_zero]
    · rw [if_neg z2, if_neg (fun y => z2 ⟨hs1.mp y.1, y.2⟩)]
      by_cases z3 : w = 2 ∧ 0 ≤ sfl (zT V) v
      · rw [if_pos z3, if_pos ⟨hs2.mpr z3.1, z3.2⟩, (yLs_D d2 dDf (j := (sfl (zT V) v).toNat) (by omega)).2.1]
        simp only [Int.natCast_eq_zero]
      · rw [if_neg z3, if_neg (fun y => z3 ⟨hs2.mp y.1, y.2⟩)]
theorem ysh_inl {r : yPr} {p : Nat} (h : ysh r = .inl p) : r = .inl p := by
  rcases r with p' | ⟨t, b, m⟩
  · have h : (Sum.inl p' : Nat ⊕ (Nat × Nat)) = .inl p := h
    injection h with h
    rw [h]
  · nomatch h
theorem ysh_inr {r : yPr} {t b : Nat} (h : ysh r = .inr (t, b)) : ∃ m, r = .inr (t, b, m) := by
  rcases r with p' | ⟨t', b', m⟩
  · nomatch h
  · have h : (Sum.inr (t', b') : Nat ⊕ (Nat × Nat)) = .inr (t, b) := h
    injection h with h
    injection h with h1 h2
    rw [h1, h2]
    exact ⟨m, rfl⟩
theorem q226 (hG : gOk G) (h : rS G sc c S t dp κ) (hsw : (sc = 0 ∧ w = 1) ∨ (sc = 1 ∧ w = 2)) (hd : 100 ≤ d) : rO q js G sc (c - 2) S dp (sbk κ) (Y q (d + 1) 226 0 [vr 129, vu] [] S js) (sex G w dp (.inr (t, κ))) fun S' o => ∃ r : Nat, o = yret q (vi (r : Int)) S' js ∧ r ≤ 1 ∧ ∀ V, κ = .inr V → r = sty G w dp (.inr (t, κ)) := by
  have htx : ∀ t, t < gN G → (gT G t).1 = 64 → (gX G ((gT G t).2.1 + 1) (gT G t).2.2.toInt.toNat).length ≤ (gT G t).2.2.toInt.toNat := fun t ht h => (hG.2.2.2.1 t ht h).2.2
  have hdp := h.1.2.2.2.2.2.1
  have hN := h.1.2.1
  have hno := rNo_S hG h
  have hsc : sc = 0 ∨ sc = 1 ∨ sc = 2 := by omega
  have hdw : decide (sc = 0) = decide (w = 1) := by
    rcases hsw with ⟨rfl, rfl⟩ | ⟨rfl, rfl⟩ <;> rfl
  rcases κ with e | V
  · have r := r226 (q := q) (js := js) (O := yOO) (s := 1) (u := 0) (base := 0) (tb := 0) (tx := gX G) (Or.inl rfl) hG.1 hG.2.1 hG.2.2.1 hsc hno htx (yFr_rf _ S) h.1 (fun L X z => nomatch z) (fun L X z => nomatch z) hd
    have sh : ysh (yexp (gT G) (gX G) (ynmR S sc) (decide (sc = 0)) yOO (12 - dp) 0 0 t 100) = ysh (sxr G w dp (.inr (t, .inl e))) := yexp_sh (by omega) _ _ _ _ _ _
    show rO q js G sc (c - 2) S dp false _ (match sxr G w dp (.inr (t, .inl e)) with
      | .inl p => .inl p
      | .inr (t', _, m) => .inr (t', sxk (.inl e) m)) _
    cases hr : sxr G w dp (.inr (t, .inl e)) with
    | inl p =>
      rw [hr] at sh
      rw [ysh_inl sh] at r
      intro _
      obtain ⟨S', h1, h2⟩ := r rfl
      exact ⟨S', h1, yWR_v h2, rNz_v (rS_nz h) h2⟩
    | inr y =>
      obtain ⟨t', b', m⟩ := y
      rw [hr] at sh
      obtain ⟨m', hm⟩ := ysh_inr (t := t') (b := b') sh
      rw [hm] at r
      obtain ⟨S', n, h1, h2, h3, h4⟩ := r
      refine ⟨fun z => (nomatch z), fun _ => ⟨S', ⟨n, h1, h4, fun V z => (nomatch z)⟩, yWR_v h2, h3, rCx_fr h.2.1 h2 ⟨rfl, rfl, rfl⟩, rTb_fr (c := c) (κ := .inl e) h.2.2 h2⟩⟩
  · have ho := h.2.2.2
    have r := r226 (q := q) (js := js) (O := yOO) (s := 1) (u := 0) (base := (zC V).length) (tb := (zX V).length) (tx := gX G) (Or.inl rfl) hG.1 hG.2.1 hG.2.2.1 hsc hno htx (yFr_rf _ S) h.1 (fun L X z => by
      injection z with z
      injection z with z1 z2
      subst z1 z2
      refine ⟨ho.1.1, ?_⟩
      have := ho.1.2
      unfold ytl at this
      omega) (fun L X z => by
      injection z with z
      injection z with z1 z2
      subst z1 z2
      exact ⟨rfl, rfl⟩) hd
    rw [snm_R hG hsw h, hdw] at r
    have r : rWo q js (gT G) (gN G) 0 sc S dp (some (zC V, zX V)) (Y q (d + 1) 226 0 [vr 129, vu] [] S js) (sxr G w dp (.inr (t, .inr V))) := r
    show rO q js G sc (c - 2) S dp true _ (match sxr G w dp (.inr (t, .inr V)) with
      | .inl p => .inl p
      | .inr (t', _, m) => .inr (t', sxk (.inr V) m)) _
    cases hr : sxr G w dp (.inr (t, .inr V)) with
    | inl p =>
      intro z
      nomatch z
    | inr y =>
      obtain ⟨t', b', m⟩ := y
      rw [hr] at r
      obtain ⟨k1, k2, k3⟩ := sxr_in hG hN hr
      rcases m with ⟨n, p⟩ | x
      · obtain ⟨S', h1, h2⟩ := r
        exact ⟨fun _ => ⟨S', h1, yWR_v h2, rNz_v (rS_nz h) h2⟩, fun z => (nomatch z)⟩
      · obtain ⟨S', h1, h2, h3⟩ := r
        obtain ⟨x1, x2⟩ := k3 V x rfl rfl ho.1
        have hy : sty G w dp (.inr (t, .inr V)) = ytyn x := by
          show (match sxr G w dp (.inr (t, .inr V)) with
            | .inr (_, _, .inr x) => ytyn x
            | _ => 0) = _
          rw [hr]
        refine ⟨rfl, S', ⟨ytyn x, h1, ?_, fun V' z => hy.symm⟩, yWR_v h2, h3, rCx_fr h.2.1 h2 ⟨rfl, rfl, rfl⟩, (rTb_fr (c := c) (κ := .inr V) h.2.2 h2).1, x2, ?_, ho.2.2⟩
        · unfold ytyn
          split <;> omega
        · have := ho.2.1
          show ((zP V).length : Int) ≤ _
          omega
/-- a step of the plan -/
theorem q250 {k1 n1 n2 n3 : Nat} {a1 a2 a3 : Int} (h : rS G sc c S t dp κ) (hV : ∀ V, κ = .inr V → a1 = n1 ∧ a2 = n2 ∧ a3 = n3 ∧ (zP V).length < 4000) : ∃ (S' : yS) (r : Nat), Y q d 250 0 [vr 129, vi k1, vi a1, vi a2, vi a3] [] S js = yret q (vi (r : Int)) S' js ∧ yFr yWR S S' ∧ rS G sc (c + 1) S' t dp (smk (slyP (k1, n1, n2, n3)) κ) ∧ r ≤ 4000 ∧ ∀ V, κ = .inr V → r = (zP V).length := by
  have h45 := rS_45 h
  rcases κ with e | V
  · have h45 : gI S 45 = 0 := h45
    rw [w250_0, h45, if_pos yr_0]
    exact ⟨S, 0, rfl, yFr_rf _ _, h, by omega, fun V z => (nomatch z)⟩
  · have h45 : gI S 45 = 1 := h45
    obtain ⟨r1, r2, r3, r4⟩ := hV V rfl
    have pl := h.2.2.1.2.2.2.2.2.1
    have n0 : ¬ yr (gI S 45) = 0 := by rw [h45]; decide
    have e58 : yr (gI S 58) = (zP V).length := by rw [pl.1]; exact yr_eq (by omega) (by omega)
    have ok : 0 ≤ ((zP V).length : Int) ∧ ((zP V).length : Int) < 4000 := by omega
    have ep : gI S 58 + 1 - 1 = ((zP V).length : Int) := by rw [pl.1]; omega
    rw [w250_0, if_neg n0, e58, if_pos ok, if_pos ok, if_pos ok, if_pos ok, Int.toNat_natCast, ep]
    have fr : yFr yWQ S (sI (sA (sA (sA (sA S 52 (zP V).length k1) 53 (zP V).length a1) 54 (zP V).length a2) 55 (zP V).length a3) 58 (gI S 58 + 1)) := yFr_tr (yFr_A rfl) (yFr_tr (yFr_A rfl) (yFr_tr (yFr_A rfl) (yFr_tr (yFr_A rfl) (yFr_I rfl))))
    refine ⟨_, (zP V).length, rfl, yWR_q fr, rS_Q h fr (fun e z => nomatch z) fun V' z v o => ?_, by omega, fun V' z => by injection z with z; rw [z]⟩
    injection z with z
    subst z
    refine ⟨⟨rfl, rfl⟩, ⟨v.1, v.2.1, v.2.2.1, v.2.2.2.1, v.2.2.2.2.1, ?_, v.2.2.2.2.2.2⟩, o.1, ?_, o.2.2⟩
    · refine yLs_app v.2.2.2.2.2.1 (by rw [gI_self, pl.1]; rfl) ?_ fun j y hj hy => ?_
      · show gA (sA S 52 (zP V).length k1) 52 (zP V).length = (k1 : Int) ∧ gA (sA (sA S 52 (zP V).length k1) 53 (zP V).length a1) 53 (zP V).length = (n1 : Int) ∧ gA (sA (sA (sA S 52 (zP V).length k1) 53 (zP V).length a1) 54 (zP V).length a2) 54 (zP V).length = (n2 : Int) ∧ gA (sA (sA (sA (sA S 52 (zP V).length k1) 53 (zP V).length a1) 54 (zP V).length a2) 55 (zP V).length a3) 55 (zP V).length = (n3 : Int)
        rw [gA_self, gA_self, gA_self, gA_self, if_pos rfl, if_pos rfl, if_pos rfl, if_pos rfl]
        exact ⟨rfl, r1, r2, r3⟩
      · show gA (sA S 52 (zP V).length k1) 52 j = (y.1 : Int) ∧ gA (sA (sA S 52 (zP V).length k1) 53 (zP V).length a1) 53 j = (y.2.1 : Int) ∧ gA (sA (sA (sA S 52 (zP V).length k1) 53 (zP V).length a1) 54 (zP V).length a2) 54 j = (y.2.2.1 : Int) ∧ gA (sA (sA (sA (sA S 52 (zP V).length k1) 53 (zP V).length a1) 54 (zP V).length a2) 55 (zP V).length a3) 55 j = (y.2.2.2 : Int)
        rw [gA_self, gA_self, gA_self, gA_self, if_neg (by omega), if_neg (by omega), if_neg (by omega), if_neg (by omega)]
        exact hy
    · have := o.2.1
      show ((zP V ++ [_]).length : Int) ≤ _
      rw [List.length_append]
      show ((_ + 1 : Nat) : Int) ≤ _
      omega
end YRTL
end YRT
