/-! taken from whole by wip/p27/slice2.py: 9zq.decls.lean.txt -/
section YCD
def scm (G : yGx) (σ : yPS) : yPS := sgd (fun _ => decide (0 ≤ sfc G (svl G σ))) 2 (spl G σ) (sxp G 62 σ)
def shd (G : yGx) (c : yPV → Bool) (σ : yPS) : yPS := snx (sgd c 4 (spl G σ) σ)
def spag1 (G : yGx) (σ : yPS) : yPS := shd G (fun V => decide ((qzPg V).1 = 0)) σ
def spage (G : yGx) (σ : yPS) : yPS := smp (fun V => zsPg V (1, (svl G (spag1 G σ)).toInt.toNat, (svl G (snum G 10 60 (spag1 G σ))).toInt.toNat)) (snum G 4 40 (snum G 10 60 (spag1 G σ)))
def sord1 (G : yGx) (σ : yPS) : yPS := shd G (fun V => decide ((qzO V).length < 4)) σ
def sord2 (G : yGx) (σ : yPS) : yPS := if skd G (sord1 G σ) = 2 then snx (sord1 G σ) else sord1 G σ
def sord (G : yGx) (σ : yPS) : yPS := smp (fun V => zsO V (qzO V ++ [((sfc G (svl G (sord2 G σ))).toNat, if skd G (sord1 G σ) = 2 then 1 else 0)])) (scm G (sord2 G σ))
def sgro1 (G : yGx) (σ : yPS) : yPS := shd G (fun V => decide ((qzG V).length < 3)) σ
def sgro (G : yGx) (σ : yPS) : yPS := smp (fun V => zsG V (qzG V ++ [(sfc G (svl G (sgro1 G σ))).toNat])) (sgd (fun V => decide (sfg V (sfc G (svl G (sgro1 G σ))) < 0)) 5 (spl G (sgro1 G σ)) (scm G (sgro1 G σ)))
section YCDL
variable {q : yQ} {d : Nat} {js : List xO} {G : yGx} {σ σ' : yPS} {m : yMo} {S S' : yS} {a a' w : Int} {dp : Nat}
theorem skd_gd {c : yPV → Bool} {n p : Nat} : skd G (sgd c n p σ) = skd G σ := ssh_kd ssh_gd0
theorem sRl_hd {c : yPV → Bool} {C : Prop} [Decidable C] (hT : yTo (gT G) (gN G)) (h : sRl G σ m) (hk : skd G σ ≤ 64) (hc : ∀ t V, σ = .inr (t, .inr V) → (c V = true ↔ C)) : sRl G (shd G c σ) (ynx (gT G) (if C then m else ywr m 4 (ypl (gT G) m))) := by
  have e := sRl_gd (n := 4) (p := spl G σ) h hc
  rw [sRl_pl h]
  exact sRl_nx hT e (by rw [skd_gd]; exact hk)
theorem sRl_hb {c : yPV → Bool} {C : Prop} [Decidable C] (hT : yTo (gT G) (gN G)) (h : sRl G σ m) (hk : skd G σ ≤ 64) (hc : ∀ t V, σ = .inr (t, .inr V) → (c V = true ↔ C)) : sRl G (shd G c σ) (yhd (gT G) (decide C) m) := by
  have := sRl_hd hT h hk hc
  unfold yhd
  by_cases z : C
  · rw [if_pos (decide_eq_true z)]
    rw [if_pos z] at this
    exact this
  · rw [if_neg (fun y => z (of_decide_eq_true y))]
    rw [if_neg z] at this
    exact this
theorem shd_al {c : yPV → Bool} {t : Nat} {V : yPV} (h : shd G c σ = .inr (t, .inr V)) : ∃ t0, σ = .inr (t0, .inr V) ∧ t = t0 + 1 ∧ c V = true := by
  obtain ⟨t0, h1, h2⟩ := snx_al h
  obtain ⟨h3, h4⟩ := sgd_al h1
  exact ⟨t0, h3, h2, h4⟩
theorem scm_al {t : Nat} {V : yPV} (h : scm G σ = .inr (t, .inr V)) : ∃ t0, σ = .inr (t0, .inr V) ∧ t = t0 + 1 ∧ 0 ≤ sfc G (svl G σ) := by
  obtain ⟨h1, h2⟩ := sgd_al h
  obtain ⟨t0, h3, h4, _⟩ := sxp_al h1
  exact ⟨t0, h3, h4, of_decide_eq_true h2⟩
theorem sRl_cm {f : Int} (hT : yTo (gT G) (gN G)) (h : sRl G σ m) (hf : ∀ t κ, σ = .inr (t, κ) → f = sfc G (svl G σ)) : sRl G (scm G σ) (ycm (gT G) f m) := by
  unfold scm ycm
  rw [sRl_pl h]
  refine sRl_gn (sRl_xp hT (by omega) h) fun t V e => ?_
  rw [decide_eq_true_iff]
  obtain ⟨t0, e0, _⟩ := sxp_al e
  rw [hf _ _ e0]
  omega
theorem k28 (hG : gOk G) (h : cP G a S σ) (h0 : skd G σ = 0) : ∃ S' : yS, Y q (d + 3) 28 0 [vr 123] [] S js = yretv q S' js ∧ yFr yWD S S' ∧ cP G (a - 1) S' (spage G σ) := by
  obtain ⟨⟨m, h1, h2⟩, hR, hC, hV⟩ := h
  have m1 : sRl G (spag1 G σ) (ypg1 (gT G) S m) := sRl_hd hG.1 h1 (by omega) fun t V e => by
    rw [decide_eq_true_iff, (hV t V e).1.1.1]
    omega
  obtain ⟨S', S1, S2, r1, r2, e1, e2, e3, e4, e5, e6, e7, e8, e9, e10, e11, e12⟩ := c28 (q := q) (d := d) (js := js) hG.1 h2 (by rw [sRl_kd h1]; exact h0) hR.1
  have m2 : sRl G (snum G 10 60 (spag1 G σ)) (ynbm (gT G) 10 60 (yvl (gT G) S1 (ypg1 (gT G) S m)) (ypg1 (gT G) S m)) := sRl_num (lo := 10) (hi := 60) hG.1 m1 (sRl_vl (S := S1) m1)
  have m3 : sRl G (snum G 4 40 (snum G 10 60 (spag1 G σ))) (ynbm (gT G) 4 40 (yvl (gT G) S2 (ynbm (gT G) 10 60 (yvl (gT G) S1 (ypg1 (gT G) S m)) (ypg1 (gT G) S m))) (ynbm (gT G) 10 60 (yvl (gT G) S1 (ypg1 (gT G) S m)) (ypg1 (gT G) S m))) := sRl_num (lo := 4) (hi := 40) hG.1 m2 (sRl_vl (S := S2) m2)
  refine ⟨S', e1, yFr_mo e2 fun s k e => ?_, ⟨_, sRl_mp (fun _ _ _ => ⟨rfl, rfl⟩) m3, e10⟩, ?_, cCx_fr hC e2 ⟨rfl, rfl, rfl, rfl, rfl⟩, fun t V e => ?_⟩
  · unfold yWD yWT at e
    simp only [Bool.or_eq_false_iff] at e
    unfold yWg
    simp only [Bool.or_eq_false_iff]
    have e0 := e.1
    unfold yWy at e0
    simp only [Bool.or_eq_false_iff] at e0
    refine ⟨yWx_k e0.1.1, ?_⟩
    have e1 := e.2.1.1.1
    cases hs : (s == 0)
    · rfl
    · rw [hs] at e1
      simp only [Bool.true_and, Bool.or_eq_false_iff] at e1 ⊢
      exact e1.1.1.1.1.1
  · unfold cRg cGr at hR ⊢
    rw [e3, e4, e5, e2.1 23 rfl, e2.1 24 rfl, e2.1 8 rfl, e2.1 9 rfl, e2.1 25 rfl, e2.2.2.2.1 25 rfl, e2.2.2.2.1 26 rfl, e2.2.2.2.1 29 rfl, e2.2.2.2.2.2 3 rfl]
    exact ⟨Or.inr rfl, ⟨e6, e7⟩, ⟨e8, e9⟩, hR.2.2.2⟩
  · obtain ⟨V0, f1, f2⟩ := smp_al e
    obtain ⟨t2, f3, f4, f5, f6, _⟩ := snum_al f1
    obtain ⟨t1, f7, f8, f9, f10, _⟩ := snum_al f3
    obtain ⟨t0, f11, f12, _⟩ := shd_al f7
    obtain ⟨v, o⟩ := hV t0 V0 f11
    have x1 : r1 = ((svl G (spag1 G σ)).toInt.toNat : Nat) := by
      rw [sRl_vl m1 _ _ f7] at e11
      rw [e11 ⟨f9, f10⟩]
      omega
    have x2 : r2 = ((svl G (snum G 10 60 (spag1 G σ))).toInt.toNat : Nat) := by
      rw [sRl_vl m2 _ _ f3] at e12
      rw [e12 ⟨f5, f6⟩]
      omega
    subst f2
    refine ⟨⟨⟨e3, e4.trans x1, e5.trans x2⟩, vO_fr v.2.1 e2 ⟨rfl, rfl, rfl⟩, vG_fr v.2.2.1 e2 ⟨rfl, rfl⟩, cDe_fr v.2.2.2.1 e2 ⟨rfl, rfl, rfl, rfl, rfl, rfl⟩, cDe_fr v.2.2.2.2.1 e2 ⟨rfl, rfl, rfl, rfl, rfl, rfl⟩, vIt_fr v.2.2.2.2.2.1 e2 ⟨rfl, rfl, rfl, rfl, rfl⟩, cBn_fr v.2.2.2.2.2.2 e2 rfl⟩, ?_⟩
    have o' := sOk_le (a := a) (a' := a - 1) hG (t' := t) (by omega) (sRl_t m3 f1) (by omega) o
    refine ⟨o'.1, o'.2.1, ⟨?_, ?_, ?_⟩, o'.2.2.2⟩
    · show 1 ≤ 1
      omega
    · show 10 ≤ (svl G (spag1 G σ)).toInt.toNat
      omega
    · show (svl G (spag1 G σ)).toInt.toNat ≤ 60
      omega
/-- frames of orders and groups -/
theorem yWD_o {S S' : yS} (h : yFr yWo S S') : yFr yWD S S' := yFr_mo h fun s k e => by
  unfold yWD yWT at e
  simp only [Bool.or_eq_false_iff] at e
  unfold yWo
  simp only [Bool.or_eq_false_iff]
  have e0 := e.1
  unfold yWy at e0
  simp only [Bool.or_eq_false_iff] at e0
  refine ⟨⟨yWx_k e0.1.1, ?_⟩, ?_⟩
  · have e1 := e.2.1.1.1
    cases hs : (s == 0)
    · rfl
    · rw [hs] at e1
      simp only [Bool.true_and, Bool.or_eq_false_iff] at e1 ⊢
      exact ⟨e1.1.1.1.1.2, e1.1.1.1.2⟩
  · have e1 := e.2.1.1.2
    cases hs : (s == 3)
    · rfl
    · rw [hs] at e1
      simp only [Bool.true_and, Bool.or_eq_false_iff] at e1 ⊢
      exact ⟨⟨e1.1.1.1.1.1.1.1.1.1.1.1.1, e1.1.1.1.1.1.1.1.1.1.1.1.2⟩, e1.1.1.1.1.1.1.1.1.1.1.2⟩
theorem k31 (hG : gOk G) (h : cP G a S σ) (h0 : skd G σ = 1) : ∃ S' : yS, Y q (d + 3) 31 0 [vr 123, vu, vu] [] S js = yretv q S' js ∧ yFr yWD S S' ∧ cP G (a - 1) S' (sord G σ) := by
  obtain ⟨⟨m, h1, h2⟩, hR, hC, hV⟩ := h
  obtain ⟨cnt, hcnt⟩ : ∃ cnt : Nat, gI S 23 = cnt := ⟨(gI S 23).toNat, by have := hR.2.2.2.1; omega⟩
  have hc : cnt ≤ 4 := by have := hR.2.2.2.1; omega
  have m1 : sRl G (sord1 G σ) (yhd (gT G) (decide (cnt < 4)) m) := sRl_hb hG.1 h1 (by omega) fun t V e => by
    have := (hV t V e).1.2.1.1
    rw [decide_eq_true_iff]
    omega
  obtain ⟨S', S2, f, hf, e1, e2, e3, e4, e5, e6, e7⟩ := c31 (q := q) (d := d) (js := js) hG.1 h2 (by rw [sRl_kd h1]; exact h0) (by have := hC.1; have := hG.2.2.2.2.2.1; omega) hcnt hc
  have k2 := sRl_kd m1
  have m2 : sRl G (sord2 G σ) (ydw (gT G) (yhd (gT G) (decide (cnt < 4)) m)) := by
    unfold sord2 ydw
    rw [k2]
    split
    · exact sRl_nx hG.1 m1 (by omega)
    · exact m1
  have hff : ∀ t κ, sord2 G σ = .inr (t, κ) → f = sfc G (svl G (sord2 G σ)) := fun t κ e => by
    rw [hf, sRl_vl m2 _ _ e, sfc_S hC]
  have m3 := sRl_cm hG.1 m2 hff
  rw [k2] at e6
  refine ⟨S', e1, yWD_o e2, ⟨_, sRl_mp (fun _ _ _ => ⟨rfl, rfl⟩) m3, e3⟩, ?_, cCx_fr hC e2 ⟨rfl, rfl, rfl, rfl, rfl⟩, fun t V e => ?_⟩
  · unfold cRg cGr at hR ⊢
    rw [e2.1 20 rfl, e2.1 21 rfl, e2.1 22 rfl, e4, e5, e2.1 8 rfl, e2.1 9 rfl, e2.1 25 rfl, e2.2.2.2.1 26 rfl, e2.2.2.2.1 29 rfl, e2.2.2.2.2.2 3 rfl]
    refine ⟨hR.1, hR.2.1, hR.2.2.1, ?_, hR.2.2.2.2⟩
    by_cases z : cnt < 4
    · rw [(e6 z).1]
      omega
    · rw [(e7 z).1]
      omega
  · obtain ⟨V0, f1, f2⟩ := smp_al e
    obtain ⟨t2, f3, f4, f5⟩ := scm_al f1
    have f6 : ∃ t1, sord1 G σ = .inr (t1, .inr V0) ∧ t1 ≤ t2 := by
      unfold sord2 at f3
      split at f3
      · obtain ⟨t1, g1, g2⟩ := snx_al f3
        exact ⟨t1, g1, by omega⟩
      · exact ⟨t2, f3, Nat.le_refl _⟩
    obtain ⟨t1, f7, f8⟩ := f6
    obtain ⟨t0, f11, f12, f13⟩ := shd_al f7
    obtain ⟨v, o⟩ := hV t0 V0 f11
    have hl := v.2.1.1
    have z : cnt < 4 := by have := of_decide_eq_true f13; omega
    obtain ⟨x1, x2, x3⟩ := e6 z
    have hlc : (qzO V0).length = cnt := by omega
    subst f2
    refine ⟨⟨vPg_fr v.1 e2 ⟨rfl, rfl, rfl⟩, ?_, ?_, cDe_fr v.2.2.2.1 e2 ⟨rfl, rfl, rfl, rfl, rfl, rfl⟩, cDe_fr v.2.2.2.2.1 e2 ⟨rfl, rfl, rfl, rfl, rfl, rfl⟩, vIt_fr v.2.2.2.2.2.1 e2 ⟨rfl, rfl, rfl, rfl, rfl⟩, cBn_fr v.2.2.2.2.2.2 e2 rfl⟩, ?_⟩
    · refine yLs_app v.2.1 (by rw [x1, hlc]) ?_ fun j y hj hy => ?_
      · show gA S' 23 (qzO V0).length = ((sfc G (svl G (sord2 G σ))).toNat : Nat) ∧ gA S' 24 (qzO V0).length = ((if skd G (sord1 G σ) = 2 then 1 else 0 : Nat) : Int)
        rw [x2, x3, if_pos hlc, if_pos hlc, hff _ _ f3]
        refine ⟨by omega, ?_⟩
        split <;> rfl
      · show gA S' 23 j = y.1 ∧ gA S' 24 j = y.2
        rw [x2, x3, if_neg (by omega), if_neg (by omega)]
        exact hy
    · unfold vG
      rw [e4, e5]
      exact v.2.2.1
    · have o' := sOk_le (a := a) (a' := a - 1) hG (t' := t) (by omega) (sRl_t m3 f1) (by omega) o
      refine ⟨o'.1, o'.2.1, o'.2.2.1, ⟨?_, o'.2.2.2.1.2⟩, o'.2.2.2.2⟩
      show (qzO V0 ++ [_]).length ≤ 4
      rw [List.length_append]
      show _ + 1 ≤ 4
      omega
theorem k33 (hG : gOk G) (h : cP G a S σ) (h0 : skd G σ ≤ 64) : ∃ S' : yS, Y q (d + 3) 33 0 [vr 123, vu, vu] [] S js = yretv q S' js ∧ yFr yWD S S' ∧ cP G (a - 1) S' (sgro G σ) := by
  obtain ⟨⟨m, h1, h2⟩, hR, hC, hV⟩ := h
  obtain ⟨cnt, hcnt⟩ : ∃ cnt : Nat, gI S 24 = cnt := ⟨(gI S 24).toNat, by have := hR.2.2.2.2.1.1; omega⟩
  have m1 : sRl G (sgro1 G σ) (yhd (gT G) (decide (cnt < 3)) m) := sRl_hb hG.1 h1 (by omega) fun t V e => by
    have := (hV t V e).1.2.2.1.1
    rw [decide_eq_true_iff]
    omega
  obtain ⟨S', S2, f, g, hf, hg, e1, e2, e3, e4, e5, e6, e7, e8, e9⟩ := c33 (q := q) (d := d) (js := js) hG.1 h2 h0 (sRl_kd h1) (by have := hC.1; have := hG.2.2.2.2.2.1; omega) hcnt hR.2.2.2.2.1
  have hff : ∀ t κ, sgro1 G σ = .inr (t, κ) → f = sfc G (svl G (sgro1 G σ)) := fun t κ e => by
    rw [hf, sRl_vl m1 _ _ e, sfc_S hC]
  have m3 := sRl_cm hG.1 m1 hff
  have m4 : sRl G (sgd (fun V => decide (sfg V (sfc G (svl G (sgro1 G σ))) < 0)) 5 (spl G (sgro1 G σ)) (scm G (sgro1 G σ))) (ygm (gT G) f g (yhd (gT G) (decide (cnt < 3)) m)) := by
    unfold ygm
    rw [sRl_pl m1]
    refine sRl_gd m3 fun t V e => ?_
    obtain ⟨t2, f3, _⟩ := scm_al e
    obtain ⟨t0, f11, _⟩ := shd_al f3
    have k := sfg_S (hV t0 V f11).1 (sfc G (svl G (sgro1 G σ)))
    rw [hcnt, Int.toNat_natCast, ← hff _ _ f3, ← hg] at k
    rw [decide_eq_true_iff, ← hff _ _ f3, ← k]
  refine ⟨S', e1, yWD_o e2, ⟨_, sRl_mp (fun _ _ _ => ⟨rfl, rfl⟩) m4, e3⟩, ?_, cCx_fr hC e2 ⟨rfl, rfl, rfl, rfl, rfl⟩, fun t V e => ?_⟩
  · unfold cRg at hR ⊢
    rw [e2.1 20 rfl, e2.1 21 rfl, e2.1 22 rfl, e5, e2.1 8 rfl, e2.1 9 rfl, e2.1 25 rfl, e2.2.2.2.1 26 rfl, e2.2.2.2.1 29 rfl, e2.2.2.2.2.2 3 rfl]
    exact ⟨hR.1, hR.2.1, hR.2.2.1, hR.2.2.2.1, e4, hR.2.2.2.2.2⟩
  · obtain ⟨V0, f1, f2⟩ := smp_al e
    obtain ⟨f3, _⟩ := sgd_al f1
    obtain ⟨t2, f4, f5, f6⟩ := scm_al f3
    obtain ⟨t0, f11, f12, f13⟩ := shd_al f4
    obtain ⟨v, o⟩ := hV t0 V0 f11
    have hl := v.2.2.1.1
    have z : cnt < 3 := by have := of_decide_eq_true f13; omega
    obtain ⟨x1, x2⟩ := e8 z
    have hlc : (qzG V0).length = cnt := by omega
    subst f2
    refine ⟨⟨vPg_fr v.1 e2 ⟨rfl, rfl, rfl⟩, ?_, ?_, cDe_fr v.2.2.2.1 e2 ⟨rfl, rfl, rfl, rfl, rfl, rfl⟩, cDe_fr v.2.2.2.2.1 e2 ⟨rfl, rfl, rfl, rfl, rfl, rfl⟩, vIt_fr v.2.2.2.2.2.1 e2 ⟨rfl, rfl, rfl, rfl, rfl⟩, cBn_fr v.2.2.2.2.2.2 e2 rfl⟩, ?_⟩
    · unfold vO
      rw [e5, e6, e7]
      exact v.2.1
    · refine yLs_app v.2.2.1 (by rw [x1, hlc]) ?_ fun j y hj hy => ?_
      · show gA S' 25 (qzG V0).length = ((sfc G (svl G (sgro1 G σ))).toNat : Nat)
        rw [x2, if_pos hlc, hff _ _ f4]
        omega
      · show gA S' 25 j = y
        rw [x2, if_neg (by omega)]
        exact hy
    · have o' := sOk_le (a := a) (a' := a - 1) hG (t' := t) (by omega) (sRl_t m4 f1) (by omega) o
      refine ⟨o'.1, o'.2.1, o'.2.2.1, ⟨o'.2.2.2.1.1, ?_, o'.2.2.2.1.2.2⟩, o'.2.2.2.2.1, fun c hc => ?_, o'.2.2.2.2.2.2⟩
      · show (qzG V0 ++ [_]).length ≤ 3
        rw [List.length_append]
        show _ + 1 ≤ 3
        omega
      · have hc : c ∈ qzG V0 ++ [(sfc G (svl G (sgro1 G σ))).toNat] := hc
        rcases List.mem_append.mp hc with y | y
        · exact o'.2.2.2.2.2.1 c y
        · rw [List.mem_singleton.mp y]
          have := sfc_r hG (svl G (sgro1 G σ))
          omega
end YCDL
end YCD
