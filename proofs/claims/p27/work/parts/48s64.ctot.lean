/-! taken from whole by wip/p27/slice2.py: 9zs.ctot.lean.txt -/
section YCG
def stot1 (G : yGx) (σ : yPS) : yPS := shd G (fun V => decide ((qzT V).length < 8)) σ
def stot3 (G : yGx) (σ : yPS) : yPS := sxp G 50 (snew G (stot1 G σ))
def sisT (kd : Nat) : Bool := decide (6 ≤ kd ∧ kd ≤ 11)
def stot4 (G : yGx) (σ : yPS) : yPS := if sisT (skd G (stot3 G σ)) = true then snx (stot3 G σ) else srf G (stot3 G σ)
def stot6 (G : yGx) (σ : yPS) : yPS := sgd (fun _ => decide (¬ (skd G (stot3 G σ) = 6 ∧ sty G 1 0 (stot4 G σ) = 1))) 3 (spl G (stot3 G σ)) (sex G 1 0 (stot4 G σ))
/-- behind the expression: how long it goes on -/
def stot7 (G : yGx) (σ : yPS) : yPS := if skd G (stot6 G σ) = 12 then sscp G (snx (stot6 G σ)) else stot6 G σ
def stots (G : yGx) (σ : yPS) (V : yPV) : Int := if skd G (stot6 G σ) = 12 then (if skd G (snx (stot6 G σ)) = 0 then -1 else sgr G V (svl G (snx (stot6 G σ)))) else -2
def stot (G : yGx) (σ : yPS) : yPS := smp (fun V => zsT V (qzT V ++ [(svl G (stot1 G σ), if skd G (stot3 G σ) = 7 then 0 else sty G 1 0 (stot4 G σ), sln (fun V => (qzC V).length) (stot4 G σ), skd G (stot3 G σ), stots G σ V)])) (stot7 G σ)
section YCGL
variable {q : yQ} {d : Nat} {js : List xO} {G : yGx} {σ σ' : yPS} {m : yMo} {S S' : yS} {a a' w : Int} {dp : Nat}
theorem yKr_t : ∀ kd : Nat, kd < 67 → (yr (yKr kd) = yr 10 ∨ kd = 8 ∨ kd = 9 ↔ 6 ≤ kd ∧ kd ≤ 11) := by decide
theorem c316 {kd : Nat} (h : kd < 67) : Y q d 316 0 [vr kd] [] S js = yret q (vi (yb (sisT kd = true))) S js := by
  have k := yKr_t kd h
  have y1 : yr 1 = 0 ∨ yr 1 = 1 := by decide
  have y0 : yr 0 = 0 ∨ yr 0 = 1 := by decide
  have kk : sisT kd = true ↔ 6 ≤ kd ∧ kd ≤ 11 := by
    unfold sisT
    exact decide_eq_true_iff
  rw [w316_0, if_pos h]
  unfold yb
  by_cases z1 : yr (yKr kd) = yr 10
  · rw [if_pos z1, if_pos y1, if_pos (kk.mpr (k.mp (Or.inl z1)))]
  · rw [if_neg z1, if_pos ⟨h, by omega⟩]
    by_cases z2 : kd = 8
    · rw [if_pos z2, if_pos y1, if_pos (kk.mpr (k.mp (Or.inr (Or.inl z2))))]
    · rw [if_neg z2, if_pos ⟨h, by omega⟩]
      by_cases z3 : kd = 9
      · rw [if_pos z3, if_pos y1, if_pos (kk.mpr (k.mp (Or.inr (Or.inr z3))))]
      · rw [if_neg z3, if_pos y0, if_neg]
        intro y
        rcases k.mpr (kk.mp y) with y | y | y
        · exact z1 y
        · exact z2 y
        · exact z3 y
theorem stot3_al {t : Nat} {V : yPV} (h : stot3 G σ = .inr (t, .inr V)) : ∃ t0 t1, σ = .inr (t0, .inr V) ∧ stot1 G σ = .inr (t1, .inr V) ∧ t0 < t ∧ (qzT V).length < 8 ∧ stk G V (svl G (stot1 G σ)) = false := by
  obtain ⟨t3, f1, f2, _⟩ := sxp_al h
  obtain ⟨f3, f4⟩ := sgd_al f1
  obtain ⟨t1, f5, f6, _⟩ := sxp_al f3
  obtain ⟨t0, f7, f8, f9⟩ := shd_al f5
  exact ⟨t0, t1, f7, f5, by omega, of_decide_eq_true f9, by rw [Bool.not_eq_true'] at f4; exact f4⟩
theorem stot4_al {t : Nat} {V : yPV} (h : stot4 G σ = .inr (t, .inr V)) : ∃ t0, stot3 G σ = .inr (t0, .inr V) ∧ t = t0 + 1 ∧ sisT (skd G (stot3 G σ)) = true := by
  unfold stot4 at h
  split at h
  · rename_i z
    obtain ⟨t0, h1, h2⟩ := snx_al h
    exact ⟨t0, h1, h2, z⟩
  · exact (srf_al h).elim
theorem sscp_al {t : Nat} {V : yPV} (h : sscp G σ = .inr (t, .inr V)) : ∃ t0, σ = .inr (t0, .inr V) ∧ t = t0 + 1 ∧ (skd G σ ≠ 0 → 0 ≤ sgr G V (svl G σ)) := by
  unfold sscp at h
  split at h
  · rename_i z
    obtain ⟨t0, h1, h2⟩ := snx_al h
    exact ⟨t0, h1, h2, fun y => absurd z y⟩
  · obtain ⟨h1, h2⟩ := sgd_al h
    obtain ⟨t0, h3, h4, _⟩ := sxp_al h1
    exact ⟨t0, h3, h4, fun _ => of_decide_eq_true h2⟩
theorem stot7_al {t : Nat} {V : yPV} (h : stot7 G σ = .inr (t, .inr V)) : ∃ t0, stot6 G σ = .inr (t0, .inr V) ∧ t0 ≤ t := by
  unfold stot7 at h
  split at h
  · obtain ⟨t1, h1, h2, _⟩ := sscp_al h
    obtain ⟨t0, h3, h4⟩ := snx_al h1
    exact ⟨t0, h3, by omega⟩
  · exact ⟨t, h, Nat.le_refl _⟩
/-- the end of it: how long it goes on is known -/
theorem e36 {v : Int64} {kd r : Nat} {at' st sc x5 : Int} (hk : kd < 67) (hr : r ≤ 1) : ∃ x4 : Int, (if yr (r : Int) = 0 then YB q (Y q d 49 0 [vr 101, vj v, vu, vi 0, vi st, vr kd, vi sc] [] S js) (d + 1) 36 200 [vr 123, vj v, vu, vr kd, vi at', vi st, vi r, vi sc] [] else if kd < 67 ∧ 7 < 67 then (if kd = 7 then YB q (Y q d 49 0 [vr 101, vj v, vu, vi 0, vi st, vr kd, vi sc] [] S js) (d + 1) 36 200 [vr 123, vj v, vu, vr kd, vi at', vi st, vi r, vi sc] [] else YB q (Y q d 49 0 [vr 101, vj v, vu, vi 1, vi st, vr kd, vi sc] [] S js) (d + 1) 36 200 [vr 123, vj v, vu, vr kd, vi at', vi st, vi r, vi sc] []) else Y q (d + 1) 36 187 [vr 123, vj v, vu, vr kd, vi at', vi st, vi r, vi sc] [vr 7, vr kd, vj v, vr 101] S js) = YB q (Y q d 49 0 [vr 101, vj v, vu, vi ((if kd = 7 then 0 else r : Nat) : Int), vi st, vr kd, vi sc] [] S js) (d + 1) 36 200 [vr 123, vj v, vu, vr kd, vi at', vi st, vi r, vi sc] [] := by
  have n1 : ¬ yr ((1 : Nat) : Int) = 0 := by decide
  have y0 : yr ((0 : Nat) : Int) = 0 := by decide
  refine ⟨0, ?_⟩
  rcases (by omega : r = 0 ∨ r = 1) with rfl | rfl
  · rw [if_pos y0]
    split <;> rfl
  · rw [if_neg n1, if_pos ⟨hk, by omega⟩]
    split <;> rfl
theorem k36 (hG : gOk G) (h : cP G a S σ) (h0 : skd G σ ≤ 64) (hd : 170 ≤ d) : ∃ S' : yS, Y q (d + 4) 36 0 [vr 123, vu, vu, vu, vu, vu, vu, vu] [] S js = yretv q S' js ∧ yFr yWD S S' ∧ cP G (a - 1) S' (stot G σ) := by
  have n1 : ¬ yr 1 = 0 := by decide
  obtain ⟨cnt, hcnt⟩ : ∃ cnt : Nat, gI S 9 = cnt := ⟨(gI S 9).toNat, by have := h.2.1.2.2.2.2.2.2.1; omega⟩
  have hc : cnt ≤ 8 := by have := h.2.1.2.2.2.2.2.2.1; omega
  have h47 : Y q (d + 3) 47 0 [vr 101] [] S js = yret q (vi (if cnt < 8 then 0 else 1)) S js := c47 (z := 1) (Or.inr rfl) hcnt hc
  obtain ⟨k0, k1, k2⟩ := cP_kd hG h
  obtain ⟨Sa, a1, a2, a3⟩ : ∃ Sa : yS, Y q (d + 4) 36 0 [vr 123, vu, vu, vu, vu, vu, vu, vu] [] S js = YB q (Y q (d + 3) 154 0 [vr 86] [] Sa js) (d + 4) 36 32 [vr 123, vu, vu, vu, vu, vu, vu, vu] [] ∧ yFr yWk S Sa ∧ cP G a Sa (sgd (fun V => decide ((qzT V).length < 8)) 4 (spl G σ) σ) := by
    rw [w36_0, h47, YB_ret, w36_10, k2]
    rcases kgd (q := q) (d := d + 3) (js := js) (c := fun V => decide ((qzT V).length < 8)) (C := cnt < 8) (n := 4) (p := spl G σ) hG h (by omega) (fun t V e => by
      have := (h.2.2.2 t V e).1.2.2.2.2.1.1
      have this : gI S 9 = _ := this
      rw [decide_eq_true_iff]
      omega) with ⟨z, c⟩ | ⟨z, S1, e1, e2, e3⟩
    · rw [if_pos z, if_pos yr_0]
      exact ⟨S, rfl, yFr_rf _ _, c⟩
    · have e1 : Y q (d + 3) 153 0 [vr 86, vi 4, vi (spl G σ)] [] S js = yretv q S1 js := e1
      rw [if_neg z, if_neg n1, e1, YB_retv, w36_28]
      exact ⟨S1, rfl, e2, e3⟩
  obtain ⟨Sb, b1, b2, b3⟩ := k154 (q := q) (d := d + 3) (js := js) hG a3 (by rw [skd_gd]; exact h0)
  have b3 : cP G (a - 1) Sb (stot1 G σ) := b3
  obtain ⟨Sc, v, c1, c2, c3, c4⟩ := k35 (q := q) (d := d + 1) (js := js) hG b3
  obtain ⟨Sd, d1, d2, d3⟩ := k30 (q := q) (d := d + 2) (js := js) (kd := 50) hG c3 (by omega)
  have d3 : cP G (a - 1 - 1 - 1) Sd (stot3 G σ) := d3
  have fD : yFr yWk S Sd := yFr_tr a2 (yFr_tr b2 (yFr_tr c2 d2))
  obtain ⟨l0, l1, l2⟩ := cP_kd hG d3
  obtain ⟨kd, hkd⟩ : ∃ kd, kd = skd G (stot3 G σ) := ⟨_, rfl⟩
  obtain ⟨pl, hpl⟩ : ∃ pl, pl = spl G (stot3 G σ) := ⟨_, rfl⟩
  rw [← hkd] at l0 l1
  rw [← hpl] at l2
  -- the kind
  obtain ⟨Se, e1, e2, e3⟩ : ∃ Se : yS, Y q (d + 4) 36 47 [vr 123, vj v, vu, vu, vu, vu, vu, vu] [] Sd js = YB q (Y q (d + 3) 51 0 [vr 122, vr 107, vi 1, vi 0, vu] [] Se js) (d + 4) 36 113 [vr 123, vj v, vu, vr kd, vi pl, vi (gI Se 0), vu, vu] [] ∧ yFr yWk Sd Se ∧ cP G (a - 1 - 1 - 1) Se (stot4 G σ) := by
    rw [w36_47, l0, if_pos l1, c316 l1, YB_ret, w36_68, l2]
    unfold stot4
    rw [← hkd]
    by_cases z : sisT kd = true
    · obtain ⟨S1, f1, f2, f3⟩ := k154 (q := q) (d := d + 3) (js := js) hG d3 (by
        rw [← hkd]
        unfold sisT at z
        have := of_decide_eq_true z
        omega)
      rw [yb, if_pos z, if_neg n1, if_pos z, f1, YB_retv, w36_78]
      exact ⟨S1, rfl, f2, cP_a hG f3 (by omega)⟩
    · obtain ⟨S1, f1, f2, f3⟩ := k155 (q := q) (d := d + 3) (js := js) hG d3
      rw [yb, if_neg z, if_pos yr_0, if_neg z, f1, YB_retv, w36_88]
      exact ⟨S1, rfl, f2, f3 _⟩
  obtain ⟨Sf, r, f1, f2, f3, f4, f5⟩ := k51 (q := q) (js := js) (w := 1) (dp := 0) (d := d + 2) hG e3 (Or.inl rfl) (by omega) (by omega)
  have f1 : Y q (d + 3) 51 0 [vr 122, vr 107, vi 1, vi 0, vu] [] Se js = yret q (vi (r : Int)) Sf js := f1
  obtain ⟨st, hst⟩ : ∃ st, st = gI Se 0 := ⟨_, rfl⟩
  rw [← hst] at e1
  -- a sum of texts
  obtain ⟨Sg, g1, g2, g3⟩ : ∃ Sg : yS, Y q (d + 4) 36 116 [vr 123, vj v, vu, vr kd, vi pl, vi st, vu, vu] [vi (r : Int)] Sf js = Y q (d + 4) 36 140 [vr 123, vj v, vu, vr kd, vi pl, vi st, vi r, vu] [] Sg js ∧ yFr yWk Sf Sg ∧ cP G (a - 1 - 1 - 1 - 1) Sg (stot6 G σ) := by
    unfold stot6
    rw [← hkd, ← hpl]
    have n1' : ¬ yr ((1 : Nat) : Int) = 0 := by decide
    have y0' : yr ((0 : Nat) : Int) = 0 := by decide
    rcases kgd (q := q) (d := d + 3) (js := js) (c := fun _ => decide (¬ (kd = 6 ∧ sty G 1 0 (stot4 G σ) = 1))) (C := ¬ (kd = 6 ∧ r = 1)) (n := 3) (p := pl) hG f3 (by omega) (fun t V e => by
      have := f5 t V e
      rw [decide_eq_true_iff, this]) with ⟨z, c⟩ | ⟨z, S1, x1, x2, x3⟩
    · refine ⟨Sf, ?_, yFr_rf _ _, c⟩
      rw [w36_116, if_pos ⟨l1, by omega⟩]
      by_cases z6 : kd = 6
      · have r0 : r = 0 := by omega
        subst r0
        rw [if_pos z6, if_pos y0', w36_140]
      · rw [if_neg z6, w36_140]
    · have x1 : Y q (d + 3) 153 0 [vr 86, vi 3, vi pl] [] Sf js = yretv q S1 js := x1
      have z : kd = 6 ∧ r = 1 := by
        by_cases y : kd = 6 ∧ r = 1
        · exact y
        · exact absurd y z
      obtain ⟨z6, r1⟩ := z
      refine ⟨S1, ?_, x2, x3⟩
      rw [w36_116, if_pos ⟨l1, by omega⟩, if_pos z6, r1, if_neg n1', x1, YB_retv]
  obtain ⟨m0, m1, m2⟩ := cP_kd hG g3
  -- how long it goes on
  obtain ⟨Sh, sc, i1, i2, i3, i4⟩ : ∃ (Sh : yS) (sc : Int), Y q (d + 4) 36 140 [vr 123, vj v, vu, vr kd, vi pl, vi st, vi r, vu] [] Sg js = YB q (Y q (d + 3) 49 0 [vr 101, vj v, vu, vi ((if kd = 7 then 0 else r : Nat) : Int), vi st, vr kd, vi sc] [] Sh js) (d + 4) 36 200 [vr 123, vj v, vu, vr kd, vi pl, vi st, vi r, vi sc] [] ∧ yFr yWk Sg Sh ∧ cP G (a - 1 - 1 - 1 - 1) Sh (stot7 G σ) ∧ ∀ t V, stot7 G σ = .inr (t, .inr V) → sc = stots G σ V := by
    rw [w36_140, m0, if_pos ⟨m1, by omega⟩]
    unfold stot7 stots
    by_cases z : skd G (stot6 G σ) = 12
    · obtain ⟨S1, x1, x2, x3⟩ := k154 (q := q) (d := d + 3) (js := js) hG g3 (by omega)
      obtain ⟨S2, sc, y1, y2, y3, y4⟩ := k37 (q := q) (d := d) (js := js) hG x3
      obtain ⟨_, e⟩ := e36 (q := q) (d := d + 3) (js := js) (S := S2) (v := v) (kd := kd) (r := r) (at' := pl) (st := st) (sc := sc) (x5 := 0) l1 f4
      simp only [z, if_true]
      rw [x1, YB_retv, w36_164, y1, YB_ret, w36_168, e]
      exact ⟨S2, sc, rfl, yFr_tr x2 y2, cP_a hG y3 (by omega), fun t V q => y4 t V q⟩
    · obtain ⟨_, e⟩ := e36 (q := q) (d := d + 3) (js := js) (S := Sg) (v := v) (kd := kd) (r := r) (at' := pl) (st := st) (sc := -2) (x5 := 0) l1 f4
      simp only [z, if_false]
      rw [e]
      exact ⟨Sg, -2, rfl, yFr_rf _ _, g3, fun _ _ _ => rfl⟩
  have fH : yFr (yWy 0) Sd Sh := yFr_tr (yFr_tr (yFr_mo e2 fun s k e => by
    unfold yWy at e
    simp only [Bool.or_eq_false_iff] at e
    exact yWx_k e.1.1) f2) (yFr_mo (yFr_tr g2 i2) fun s k e => by
    unfold yWy at e
    simp only [Bool.or_eq_false_iff] at e
    exact yWx_k e.1.1)
  have s9 : gI Sh (8 + 1) = cnt := (fH.1 9 rfl).trans ((fD.1 9 rfl).trans hcnt)
  have hty : (((if kd = 7 then 0 else r : Nat) : Int) = 0 ∨ ((if kd = 7 then 0 else r : Nat) : Int) = 1) := by
    split <;> omega
  obtain ⟨Sk, j1, j2, j3⟩ := c49 (q := q) (d := d + 3) (js := js) (S := Sh) (z := 1) (cnt := cnt) (kd := kd) (name := v) (ty := ((if kd = 7 then 0 else r : Nat) : Int)) (st := st) (sc := sc) (Or.inr rfl) s9 hc l1 hty
  have j1 : Y q (d + 3) 49 0 [vr 101, vj v, vu, vi ((if kd = 7 then 0 else r : Nat) : Int), vi st, vr kd, vi sc] [] Sh js = yretv q Sk js := j1
  have fT : yFr yWT Sh Sk := yFr_mo j2 fun s k e => by
    unfold yWT at e
    unfold yWd
    simp only [Bool.or_eq_false_iff] at e ⊢
    obtain ⟨⟨⟨e1, e2⟩, e3⟩, e4⟩ := e
    refine ⟨⟨⟨?_, ?_⟩, ?_⟩, ?_⟩
    · cases hs : (s == 0)
      · rfl
      · rw [hs] at e1
        simp only [Bool.true_and, Bool.or_eq_false_iff] at e1 ⊢
        exact e1.2
    · cases hs : (s == 4)
      · rfl
      · rw [hs] at e3
        simp only [Bool.true_and, Bool.or_eq_false_iff] at e3 ⊢
        exact e3.2
    · cases hs : (s == 3)
      · rfl
      · rw [hs] at e2
        simp only [Bool.true_and, Bool.or_eq_false_iff] at e2 ⊢
        exact ⟨⟨e2.1.1.1.1.2, e2.1.1.2⟩, e2.2⟩
    · cases hs : (s == 5)
      · rfl
      · rw [hs] at e4
        simp only [Bool.true_and, Bool.or_eq_false_iff] at e4 ⊢
        exact e4.1.2
  refine ⟨Sk, ?_, yFr_tr (yWD_k fD) (yFr_tr (yWD_y fH) (yWD_t fT)), cP_a hG (cP_T (a' := a - 1 - 1 - 1 - 1) i3 fT ?_ (fun _ _ _ => ⟨rfl, rfl⟩) fun t V e v' o' => ?_) (by omega)⟩
  · rw [a1, b1, YB_retv, w36_35, c1, YB_ret, w36_39, d1, YB_retv, e1, f1, YB_ret, g1, i1, j1, YB_retv, w36_203]
  · have hR := i3.2.1
    unfold cRg cGr at hR ⊢
    rw [j2.1 20 rfl, j2.1 21 rfl, j2.1 22 rfl, j2.1 23 rfl, j2.1 24 rfl, j2.1 8 rfl, j2.1 25 rfl, j2.2.2.2.1 25 rfl, j2.2.2.2.1 26 rfl, j2.2.2.2.1 29 rfl, j2.2.2.2.2.2 3 rfl]
    refine ⟨hR.1, hR.2.1, hR.2.2.1, hR.2.2.2.1, hR.2.2.2.2.1, hR.2.2.2.2.2.1, ?_, hR.2.2.2.2.2.2.2⟩
    by_cases z : cnt < 8
    · have := (j3.1 z).1
      have this : gI Sk 9 = _ := this
      omega
    · rw [j3.2 z]
      have s9 : gI Sh 9 = cnt := s9
      omega
  · obtain ⟨t6, z5, _⟩ := stot7_al e
    obtain ⟨z6, _⟩ := sgd_al z5
    obtain ⟨t0, b', V0, x, z1, z2, z3, z4⟩ := sex_al z6
    obtain ⟨t3, z7, z8, z9⟩ := stot4_al z1
    obtain ⟨tt, t1, y1, y2, y3, y4, y5⟩ := stot3_al z7
    have er := f5 _ _ z6
    have es := cP_c e3 z1
    have ev := c4 _ _ y2
    have esc := i4 t V e
    have hlV : (qzT V).length = cnt := by
      have := v'.2.2.2.2.1.1
      rw [s9] at this
      omega
    have hz : (qzT V).length < 8 := by rw [z3]; exact y4
    have app : cDe Sk 1 (qzT V ++ [(v, (if kd = 7 then 0 else r), (qzC V0).length, kd, sc)]) := cDe_app v'.2.2.2.2.1 hz (by rw [hlV, ← es, ← hst]; exact j3)
    have e6 : sln (fun V => (qzC V).length) (stot4 G σ) = (qzC V0).length := by rw [z1]; rfl
    rw [ev, er, ← e6, esc, hkd] at app
    refine ⟨⟨vPg_fr v'.1 j2 ⟨rfl, rfl, rfl⟩, vO_fr v'.2.1 j2 ⟨rfl, rfl, rfl⟩, vG_fr v'.2.2.1 j2 ⟨rfl, rfl⟩, cDe_fr v'.2.2.2.1 j2 ⟨rfl, rfl, rfl, rfl, rfl, rfl⟩, app, vIt_fr v'.2.2.2.2.2.1 j2 ⟨rfl, rfl, rfl, rfl, rfl⟩, cBn_fr v'.2.2.2.2.2.2 j2 rfl⟩, ?_⟩
    refine ⟨o'.1, o'.2.1, o'.2.2.1, ⟨o'.2.2.2.1.1, o'.2.2.2.1.2.1, o'.2.2.2.1.2.2.1, ?_⟩, o'.2.2.2.2.1, o'.2.2.2.2.2.1, o'.2.2.2.2.2.2.1, fun y hy => ?_⟩
    · show (qzT V ++ [_]).length ≤ 8
      rw [List.length_append]
      show _ + 1 ≤ 8
      omega
    · have hy : y ∈ qzT V ++ [(svl G (stot1 G σ), if skd G (stot3 G σ) = 7 then 0 else sty G 1 0 (stot4 G σ), sln (fun V => (qzC V).length) (stot4 G σ), skd G (stot3 G σ), stots G σ V)] := hy
      rcases List.mem_append.mp hy with y1 | y1
      · exact o'.2.2.2.2.2.2.2 y y1
      · rw [List.mem_singleton.mp y1]
        show (if skd G (stot3 G σ) = 7 then 0 else sty G 1 0 (stot4 G σ)) ≤ 1
        split <;> omega
end YCGL
end YCG
