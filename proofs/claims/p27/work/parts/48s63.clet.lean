/-! taken from whole by wip/p27/slice2.py: 9zr.clet.lean.txt -/
section YCE
def snew (G : yGx) (σ : yPS) : yPS := sgd (fun V => !(stk G V (svl G σ))) 5 (spl G σ) (sxp G 62 σ)
def sgn (G : yGx) (σ : yPS) : yPS := sgd (fun V => decide (0 ≤ sgr G V (svl G σ))) 2 (spl G σ) (sxp G 62 σ)
def sscp (G : yGx) (σ : yPS) : yPS := if skd G σ = 0 then snx σ else sgn G σ
def slet1 (G : yGx) (σ : yPS) : yPS := shd G (fun V => decide ((qzL V).length < 8)) σ
def slet3 (G : yGx) (σ : yPS) : yPS := sxp G 50 (snew G (slet1 G σ))
def slet (G : yGx) (σ : yPS) : yPS := smp (fun V => zsL V (qzL V ++ [(svl G (slet1 G σ), sty G 1 0 (slet3 G σ), sln (fun V => (qzC V).length) (slet3 G σ), 4, -2)])) (sex G 1 0 (slet3 G σ))
section YCEL
variable {q : yQ} {d : Nat} {js : List xO} {G : yGx} {σ σ' : yPS} {m : yMo} {S S' : yS} {a a' w : Int} {dp : Nat}
theorem sgd_t {c : yPV → Bool} {n p : Nat} (h : ∀ t V, σ = .inr (t, .inr V) → c V = true) : sgd c n p σ = σ := by
  rcases σ with p' | ⟨t, e | V⟩
  · rfl
  · rfl
  · show (Sum.inr (t, if c V = true then _ else _) : yPS) = _
    rw [if_pos (h t V rfl)]
theorem sgd_f {c : yPV → Bool} {n p : Nat} (h : ∀ t V, σ = .inr (t, .inr V) → ¬ c V = true) : sgd c n p σ = swr σ n p := by
  rcases σ with p' | ⟨t, e | V⟩
  · rfl
  · rfl
  · show (Sum.inr (t, if c V = true then _ else _) : yPS) = _
    rw [if_neg (h t V rfl)]
    rfl
/-- an error or none -/
theorem kgd {c : yPV → Bool} {C : Prop} (hG : gOk G) (h : cP G a S σ) {n p : Nat} (hn : 2 ≤ n ∧ n ≤ 6) (hc : ∀ t V, σ = .inr (t, .inr V) → (c V = true ↔ C)) : (C ∧ cP G a S (sgd c n p σ)) ∨ (¬ C ∧ ∃ S' : yS, Y q d 153 0 [vr 86, vi n, vi p] [] S js = yretv q S' js ∧ yFr yWk S S' ∧ cP G a S' (sgd c n p σ)) := by
  by_cases z : C
  · rw [sgd_t (fun t V e => (hc t V e).mpr z)]
    exact Or.inl ⟨z, h⟩
  · rw [sgd_f (fun t V e y => z ((hc t V e).mp y))]
    obtain ⟨S', e1, e2, e3⟩ := k153 (q := q) (d := d) (js := js) (n := n) (p := p) hG h hn
    exact Or.inr ⟨z, S', e1, e2, e3 a⟩
theorem k35 (hG : gOk G) (h : cP G a S σ) : ∃ (S' : yS) (v : Int64), Y q (d + 2) 35 0 [vr 123, vu, vu, vu] [] S js = yret q (vj v) S' js ∧ yFr yWk S S' ∧ cP G (a - 1) S' (snew G σ) ∧ ∀ t κ, σ = .inr (t, κ) → v = svl G σ := by
  obtain ⟨⟨m, h1, h2⟩, hR, hC, hV⟩ := id h
  obtain ⟨S', e1, e2, e3, e4⟩ := c35 (q := q) (d := d) (js := js) (Or.inl rfl) hG.1 h2 (by have := hC.1; have := hG.2.2.2.2.2.1; omega) hR.2.2.2.2.2.1 hR.2.2.2.2.2.2.1
  refine ⟨S', yvl (gT G) S m, e1, e2, ?_, sRl_vl h1⟩
  have al : ∀ t V, snew G σ = .inr (t, .inr V) → ∃ t0, σ = .inr (t0, .inr V) ∧ t0 ≤ t ∧ t0 + a ≤ t + (a - 1) := fun t V e => by
    obtain ⟨f1, _⟩ := sgd_al e
    obtain ⟨t0, f2, f3, _⟩ := sxp_al f1
    exact ⟨t0, f2, by omega, by omega⟩
  have hc : ∀ t V, sxp G 62 σ = .inr (t, .inr V) → ((!(stk G V (svl G σ))) = true ↔ ¬ ytkn S (yvl (gT G) S m)) := fun t V e => by
    obtain ⟨t0, f2, _⟩ := sxp_al e
    rw [← sRl_vl (S := S) h1 _ _ f2, Bool.not_eq_true', ← Bool.not_eq_true, stk_S hC (hV t0 V f2).1]
  have hr := sRl_xp (kd := 62) hG.1 (by omega) h1
  by_cases z : ytkn S (yvl (gT G) S m)
  · refine cP_k hG h e2 (m := ywr (yxp (gT G) 62 m) 5 (ypl (gT G) m)) ?_ (e3 z) al
    unfold snew
    rw [sgd_f (fun t V e y => (hc t V e).mp y z), sRl_pl h1]
    exact sRl_wr hr
  · refine cP_k hG h e2 (m := yxp (gT G) 62 m) ?_ (e4 z) al
    unfold snew
    rw [sgd_t (fun t V e => (hc t V e).mpr z)]
    exact hr
theorem k38 (hG : gOk G) (h : cP G a S σ) : ∃ (S' : yS) (g : Int), Y q (d + 2) 38 0 [vr 123, vu, vu, vu] [] S js = yret q (vi g) S' js ∧ yFr yWk S S' ∧ cP G (a - 1) S' (sgn G σ) ∧ (-1 ≤ g ∧ g < 4) ∧ ∀ t V, sgn G σ = .inr (t, .inr V) → g = sgr G V (svl G σ) ∧ 0 ≤ g := by
  obtain ⟨⟨m, h1, h2⟩, hR, hC, hV⟩ := id h
  obtain ⟨S', e1, e2, e3⟩ := c38 (q := q) (d := d) (js := js) (Or.inl rfl) hG.1 h2 (by have := hC.1; have := hG.2.2.2.2.2.1; omega) hR.2.2.2.2.1
  have hc : ∀ t V, sxp G 62 σ = .inr (t, .inr V) → (decide (0 ≤ sgr G V (svl G σ)) = true ↔ ¬ ygr S (yvl (gT G) S m) < 0) := fun t V e => by
    obtain ⟨t0, f2, _⟩ := sxp_al e
    rw [← sRl_vl (S := S) h1 _ _ f2, decide_eq_true_iff, sgr_S hC (hV t0 V f2).1]
    omega
  have hr := sRl_xp (kd := 62) hG.1 (by omega) h1
  have hr2 : sRl G (sgn G σ) (if ygr S (yvl (gT G) S m) < 0 then ywr (yxp (gT G) 62 m) 2 (ypl (gT G) m) else yxp (gT G) 62 m) := by
    unfold sgn
    rw [sRl_pl h1]
    exact sRl_gn hr hc
  refine ⟨S', ygr S (yvl (gT G) S m), e1, e2, cP_k hG h e2 hr2 e3 fun t V e => ?_, ?_, fun t V e => ?_⟩
  · obtain ⟨f1, _⟩ := sgd_al e
    obtain ⟨t0, f2, f3, _⟩ := sxp_al f1
    exact ⟨t0, f2, by omega, by omega⟩
  · have g3 := hR.2.2.2.2.1
    unfold ygr
    split
    · omega
    · have := yfg_rng (g := gA S 25) (c := yfind (gB S 6) (yvl (gT G) S m) (gI S 10).toNat 0) (gI S 24).toNat 0
      have g31 := g3.1
      have g32 := g3.2.1
      omega
  · obtain ⟨f1, f4⟩ := sgd_al e
    obtain ⟨t0, f2, f3, _⟩ := sxp_al f1
    have f4 := of_decide_eq_true f4
    rw [← sRl_vl (S := S) h1 _ _ f2, ← sgr_S hC (hV t0 V f2).1] at f4 ⊢
    exact ⟨rfl, f4⟩
theorem k37 (hG : gOk G) (h : cP G a S σ) : ∃ (S' : yS) (g : Int), Y q (d + 3) 37 0 [vr 123] [] S js = yret q (vi g) S' js ∧ yFr yWk S S' ∧ cP G (a - 1) S' (sscp G σ) ∧ ∀ t V, sscp G σ = .inr (t, .inr V) → g = if skd G σ = 0 then -1 else sgr G V (svl G σ) := by
  obtain ⟨⟨m, h1, h2⟩, hR, hC, hV⟩ := id h
  obtain ⟨S', e1, e2, e3⟩ := c37 (q := q) (d := d) (js := js) (Or.inl rfl) hG.1 h2 (by have := hC.1; have := hG.2.2.2.2.2.1; omega) hR.2.2.2.2.1
  have ek := sRl_kd h1
  rw [ek] at e1 e3
  unfold sscp
  by_cases z : skd G σ = 0
  · simp only [z, if_true] at e1 e3 ⊢
    refine ⟨S', -1, e1, e2, cP_k hG h e2 (sRl_nx hG.1 h1 (by omega)) e3 fun t V e => ?_, fun t V _ => rfl⟩
    obtain ⟨t0, f1, f2⟩ := snx_al e
    exact ⟨t0, f1, by omega, by omega⟩
  · simp only [z, if_false] at e1 e3 ⊢
    have hc : ∀ t V, sxp G 62 σ = .inr (t, .inr V) → (decide (0 ≤ sgr G V (svl G σ)) = true ↔ ¬ ygr S (yvl (gT G) S m) < 0) := fun t V e => by
      obtain ⟨t0, f2, _⟩ := sxp_al e
      rw [← sRl_vl (S := S) h1 _ _ f2, decide_eq_true_iff, sgr_S hC (hV t0 V f2).1]
      omega
    have hr := sRl_xp (kd := 62) hG.1 (by omega) h1
    have hr2 : sRl G (sgn G σ) (if ygr S (yvl (gT G) S m) < 0 then ywr (yxp (gT G) 62 m) 2 (ypl (gT G) m) else yxp (gT G) 62 m) := by
      unfold sgn
      rw [sRl_pl h1]
      exact sRl_gn hr hc
    refine ⟨S', _, e1, e2, cP_k hG h e2 hr2 e3 fun t V e => ?_, fun t V e => ?_⟩
    · obtain ⟨f1, _⟩ := sgd_al e
      obtain ⟨t0, f2, f3, _⟩ := sxp_al f1
      exact ⟨t0, f2, by omega, by omega⟩
    · obtain ⟨f1, f4⟩ := sgd_al e
      obtain ⟨t0, f2, f3, _⟩ := sxp_al f1
      rw [← sRl_vl (S := S) h1 _ _ f2, ← sgr_S hC (hV t0 V f2).1]
/-- one definition more -/
theorem cDe_app {z : Nat} {l : List yDf} {name : Int64} {ty st kd : Nat} {sc : Int} (h : cDe S z l) (hl : l.length < 8) (hd : cDf z S S' l.length name ty st kd sc) : cDe S' z (l ++ [(name, ty, st, kd, sc)]) := by
  obtain ⟨d1, d2, d3, d4, d5, d6⟩ := hd.1 hl
  refine yLs_app h d1 ?_ fun j y hj hy => ?_
  · show gB S' (4 + z) l.length = name ∧ gA S' (14 + z) l.length = ty ∧ gA S' (16 + z) l.length = st ∧ gC S' z l.length = kd ∧ gA S' (18 + z) l.length = sc
    rw [d2, d3, d4, d5, d6, if_pos rfl, if_pos rfl, if_pos rfl, if_pos rfl, if_pos rfl]
    exact ⟨rfl, rfl, rfl, rfl, rfl⟩
  · show gB S' (4 + z) j = y.1 ∧ gA S' (14 + z) j = y.2.1 ∧ gA S' (16 + z) j = y.2.2.1 ∧ gC S' z j = y.2.2.2.1 ∧ gA S' (18 + z) j = y.2.2.2.2
    rw [d2, d3, d4, d5, d6, if_neg (by omega), if_neg (by omega), if_neg (by omega), if_neg (by omega), if_neg (by omega)]
    exact hy
/-- where the code stands -/
theorem cP_c {t : Nat} {V : yPV} (h : cP G a S σ) (e : σ = .inr (t, .inr V)) : gI S 0 = (qzC V).length := by
  obtain ⟨⟨m, h1, h2⟩, _⟩ := h
  subst e
  obtain ⟨b, _, _, e⟩ := h1
  rw [e] at h2
  exact h2.2.2.2.2.1.1
theorem slet3_al {t : Nat} {V : yPV} (h : slet3 G σ = .inr (t, .inr V)) : ∃ t0 t1, σ = .inr (t0, .inr V) ∧ slet1 G σ = .inr (t1, .inr V) ∧ t0 < t ∧ (qzL V).length < 8 ∧ stk G V (svl G (slet1 G σ)) = false := by
  obtain ⟨t3, f1, f2, _⟩ := sxp_al h
  obtain ⟨f3, f4⟩ := sgd_al f1
  obtain ⟨t1, f5, f6, _⟩ := sxp_al f3
  obtain ⟨t0, f7, f8, f9⟩ := shd_al f5
  exact ⟨t0, t1, f7, f5, by omega, of_decide_eq_true f9, by rw [Bool.not_eq_true'] at f4; exact f4⟩
theorem k34 (hG : gOk G) (h : cP G a S σ) (h0 : skd G σ ≤ 64) (hd : 170 ≤ d) : ∃ S' : yS, Y q (d + 3) 34 0 [vr 123, vu, vu, vu, vu] [] S js = yretv q S' js ∧ yFr yWD S S' ∧ cP G (a - 1) S' (slet G σ) := by
  have n1 : ¬ yr 1 = 0 := by decide
  obtain ⟨cnt, hcnt⟩ : ∃ cnt : Nat, gI S 8 = cnt := ⟨(gI S 8).toNat, by have := h.2.1.2.2.2.2.2.1; omega⟩
  have hc : cnt ≤ 8 := by have := h.2.1.2.2.2.2.2.1; omega
  have h47 : Y q (d + 2) 47 0 [vr 95] [] S js = yret q (vi (if cnt < 8 then 0 else 1)) S js := c47 (z := 0) (Or.inl rfl) hcnt hc
  obtain ⟨k0, k1, k2⟩ := cP_kd hG h
  obtain ⟨Sa, a1, a2, a3⟩ : ∃ Sa : yS, Y q (d + 3) 34 0 [vr 123, vu, vu, vu, vu] [] S js = YB q (Y q (d + 2) 154 0 [vr 86] [] Sa js) (d + 3) 34 32 [vr 123, vu, vu, vu, vu] [] ∧ yFr yWk S Sa ∧ cP G a Sa (sgd (fun V => decide ((qzL V).length < 8)) 4 (spl G σ) σ) := by
    rw [w34_0, h47, YB_ret, w34_10, k2]
    rcases kgd (q := q) (d := d + 2) (js := js) (c := fun V => decide ((qzL V).length < 8)) (C := cnt < 8) (n := 4) (p := spl G σ) hG h (by omega) (fun t V e => by
      have := (h.2.2.2 t V e).1.2.2.2.1.1
      have this : gI S 8 = _ := this
      rw [decide_eq_true_iff]
      omega) with ⟨z, c⟩ | ⟨z, S1, e1, e2, e3⟩
    · rw [if_pos z, if_pos yr_0]
      exact ⟨S, rfl, yFr_rf _ _, c⟩
    · have e1 : Y q (d + 2) 153 0 [vr 86, vi 4, vi (spl G σ)] [] S js = yretv q S1 js := e1
      rw [if_neg z, if_neg n1, e1, YB_retv, w34_28]
      exact ⟨S1, rfl, e2, e3⟩
  obtain ⟨Sb, b1, b2, b3⟩ := k154 (q := q) (d := d + 2) (js := js) hG a3 (by rw [skd_gd]; exact h0)
  have b3 : cP G (a - 1) Sb (slet1 G σ) := b3
  obtain ⟨Sc, v, c1, c2, c3, c4⟩ := k35 (q := q) (d := d) (js := js) hG b3
  obtain ⟨Sd, d1, d2, d3⟩ := k30 (q := q) (d := d + 1) (js := js) (kd := 50) hG c3 (by omega)
  have d3 : cP G (a - 1 - 1 - 1) Sd (slet3 G σ) := d3
  have fD : yFr yWk S Sd := yFr_tr a2 (yFr_tr b2 (yFr_tr c2 d2))
  obtain ⟨Se, r, e1, e2, e3, e4, e5⟩ := k51 (q := q) (js := js) (w := 1) (dp := 0) (d := d + 1) hG d3 (Or.inl rfl) (by omega) (by omega)
  have e1 : Y q (d + 2) 51 0 [vr 122, vr 107, vi 1, vi 0, vu] [] Sd js = yret q (vi (r : Int)) Se js := e1
  have s8 : gI Se (8 + 0) = cnt := (e2.1 8 rfl).trans ((fD.1 8 rfl).trans hcnt)
  obtain ⟨st, hst⟩ : ∃ st, st = gI Sd 0 := ⟨_, rfl⟩
  obtain ⟨Sf, f1, f2, f3⟩ := c49 (q := q) (d := d + 2) (js := js) (S := Se) (z := 0) (cnt := cnt) (kd := 4) (name := v) (ty := r) (st := st) (sc := -2) (Or.inl rfl) s8 hc (by omega) (by omega)
  have f1 : Y q (d + 2) 49 0 [vr 95, vj v, vu, vi (r : Int), vi st, vr 4, vi (-2)] [] Se js = yretv q Sf js := f1
  have fT : yFr yWT Se Sf := yFr_mo f2 fun s k e => by
    unfold yWT at e
    unfold yWd
    simp only [Bool.or_eq_false_iff] at e ⊢
    obtain ⟨⟨⟨e1, e2⟩, e3⟩, e4⟩ := e
    refine ⟨⟨⟨?_, ?_⟩, ?_⟩, ?_⟩
    · cases hs : (s == 0)
      · rfl
      · rw [hs] at e1
        simp only [Bool.true_and, Bool.or_eq_false_iff] at e1 ⊢
        exact e1.1.2
    · cases hs : (s == 4)
      · rfl
      · rw [hs] at e3
        simp only [Bool.true_and, Bool.or_eq_false_iff] at e3 ⊢
        exact e3.1
    · cases hs : (s == 3)
      · rfl
      · rw [hs] at e2
        simp only [Bool.true_and, Bool.or_eq_false_iff] at e2 ⊢
        exact ⟨⟨e2.1.1.1.1.1.2, e2.1.1.1.2⟩, e2.1.2⟩
    · cases hs : (s == 5)
      · rfl
      · rw [hs] at e4
        simp only [Bool.true_and, Bool.or_eq_false_iff] at e4 ⊢
        exact e4.1.1
  refine ⟨Sf, ?_, yFr_tr (yWD_k fD) (yFr_tr (yWD_y e2) (yWD_t fT)), cP_a hG (cP_T (a' := a - 1 - 1 - 1 - 1) e3 fT ?_ (fun _ _ _ => ⟨rfl, rfl⟩) fun t V e v' o' => ?_) (by omega)⟩
  · rw [a1, b1, YB_retv, w34_35, c1, YB_ret, w34_39, d1, YB_retv, w34_47, e1, YB_ret, w34_74, ← hst, f1, YB_retv, w34_95]
  · have hR := e3.2.1
    unfold cRg cGr at hR ⊢
    rw [f2.1 20 rfl, f2.1 21 rfl, f2.1 22 rfl, f2.1 23 rfl, f2.1 24 rfl, f2.1 9 rfl, f2.1 25 rfl, f2.2.2.2.1 25 rfl, f2.2.2.2.1 26 rfl, f2.2.2.2.1 29 rfl, f2.2.2.2.2.2 3 rfl]
    refine ⟨hR.1, hR.2.1, hR.2.2.1, hR.2.2.2.1, hR.2.2.2.2.1, ?_, hR.2.2.2.2.2.2⟩
    by_cases z : cnt < 8
    · have := (f3.1 z).1
      have this : gI Sf 8 = _ := this
      omega
    · rw [f3.2 z]
      have s8 : gI Se 8 = cnt := s8
      omega
  · obtain ⟨t0, b', V0, x, z1, z2, z3, z4⟩ := sex_al e
    obtain ⟨tt, t1, y1, y2, y3, y4, y5⟩ := slet3_al z1
    have er := e5 t V e
    have es := cP_c d3 z1
    have ev := c4 _ _ y2
    have hlV : (qzL V).length = cnt := by
      have := v'.2.2.2.1.1
      rw [s8] at this
      omega
    have hz : (qzL V).length < 8 := by rw [z3]; exact y4
    have app : cDe Sf 0 (qzL V ++ [(v, r, (qzC V0).length, 4, -2)]) := cDe_app v'.2.2.2.1 hz (by rw [hlV, ← es, ← hst]; exact f3)
    have e6 : sln (fun V => (qzC V).length) (slet3 G σ) = (qzC V0).length := by rw [z1]; rfl
    rw [ev, er, ← e6] at app
    refine ⟨⟨vPg_fr v'.1 f2 ⟨rfl, rfl, rfl⟩, vO_fr v'.2.1 f2 ⟨rfl, rfl, rfl⟩, vG_fr v'.2.2.1 f2 ⟨rfl, rfl⟩, app, cDe_fr v'.2.2.2.2.1 f2 ⟨rfl, rfl, rfl, rfl, rfl, rfl⟩, vIt_fr v'.2.2.2.2.2.1 f2 ⟨rfl, rfl, rfl, rfl, rfl⟩, cBn_fr v'.2.2.2.2.2.2 f2 rfl⟩, ?_⟩
    refine ⟨o'.1, o'.2.1, o'.2.2.1, ⟨o'.2.2.2.1.1, o'.2.2.2.1.2.1, ?_, o'.2.2.2.1.2.2.2⟩, o'.2.2.2.2.1, o'.2.2.2.2.2.1, fun y hy => ?_, o'.2.2.2.2.2.2.2⟩
    · show (qzL V ++ [_]).length ≤ 8
      rw [List.length_append]
      show _ + 1 ≤ 8
      omega
    · have hy : y ∈ qzL V ++ [(svl G (slet1 G σ), sty G 1 0 (slet3 G σ), sln (fun V => (qzC V).length) (slet3 G σ), 4, -2)] := hy
      rcases List.mem_append.mp hy with y1 | y1
      · exact o'.2.2.2.2.2.2.1 y y1
      · rw [List.mem_singleton.mp y1]
        show sty G 1 0 (slet3 G σ) ≤ 1
        omega
end YCEL
end YCE
