/-! taken from whole by wip/p27/slice2.py: 9zw.citems.lean.txt -/
section YCK
def sisI (kd : Nat) : Bool := decide (kd = 22 ∨ kd = 24 ∨ kd = 25 ∨ kd = 26 ∨ kd = 27 ∨ kd = 28)
def ssk (G : yGx) (i kd : Nat) (σ : yPS) : yPS := smp (fun V => slyP (kd - 20, sfv G (snx σ), 0, 0) (snI i (sfv G (snx σ)) V)) (snum G 1 40 (snx σ))
def skp (G : yGx) (a : Nat) (g : yPS → yPS) (σ : yPS) : yPS := sxp G 21 (smp (fun V => saP a (qzP V).length (slyP (8, 0, 0, 0) V)) (g (smp (slyP (7, 0, 0, 0)) (snx σ))))
def sch1 (i : Nat) (σ : yPS) : yPS := smp (fun V => scI i (qzC V).length V) (snx σ)
def sch2 (G : yGx) (dp i pl : Nat) (σ : yPS) : yPS := sgd (fun _ => decide (¬ sty G 2 (dp + 1) (sch1 i σ) = 1)) 3 pl (sex G 2 (dp + 1) (sch1 i σ))
def sch3 (G : yGx) (dp i pl : Nat) (g : yPS → yPS) (σ : yPS) : yPS := g (sxp G 29 (smp (slyP (9, sln (fun V => (qzC V).length) (sch1 i σ), 0, 0)) (sch2 G dp i pl σ)))
def sch4 (G : yGx) (dp i a pl : Nat) (g : yPS → yPS) (σ : yPS) : yPS := smp (fun V => sbP a ((qzP V).length + 1) (slyP (10, 0, 0, 0) (snI i (qzI V).length V))) (sch3 G dp i pl g σ)
def sch5 (G : yGx) (dp i a pl : Nat) (g : yPS → yPS) (σ : yPS) : yPS := if skd G (sch4 G dp i a pl g σ) = 30 then g (snx (sch4 G dp i a pl g σ)) else sch4 G dp i a pl g σ
def sch (G : yGx) (dp i a pl : Nat) (g : yPS → yPS) (σ : yPS) : yPS := sxp G 21 (smp (fun V => saP (sln (fun V => (qzP V).length) (sch3 G dp i pl g σ)) (qzP V).length V) (sch5 G dp i a pl g σ))
def sitm0 (G : yGx) (body : Bool) (σ : yPS) : yPS := sgd (fun _ => decide (body = true ∨ skd G σ = 22 ∨ skd G σ = 24)) 6 (spl G σ) σ
/-- one item at some depth; sub: items one deeper -/
def sitm (G : yGx) (body : Bool) (dp : Nat) (sub : Option (yPS → yPS)) (σ : yPS) : yPS :=
  let σ0 := sitm0 G body σ
  let i := sln (fun V => (qzI V).length) σ0
  let a := sln (fun V => (qzP V).length) σ0
  let σ1 := smp (sadI (skd G σ) 0 0) σ0
  smp (seI i) (if skd G σ = 22 then slin G dp σ1 else if skd G σ = 24 ∨ skd G σ = 25 then ssk G i (skd G σ) σ1 else if skd G σ = 27 then (match sub with
    | none => srf G σ1
    | some g => skp G a g σ1) else if skd G σ = 28 then (match sub with
    | none => srf G σ1
    | some g => sch G dp i a (spl G σ) g σ1) else smp (slyP (6, 0, 0, 0)) (snx σ1))
def sits (G : yGx) (body : Bool) : Nat → yPS → yPS
  | 0 => slp G sisI (sitm G body 12 none) 2000
  | rd + 1 => slp G sisI (sitm G body (11 - rd) (some (sits G body rd))) 2000
section YCKL
variable {q : yQ} {d : Nat} {js : List xO} {G : yGx} {σ σ' : yPS} {m : yMo} {S S' : yS} {a a' w : Int} {dp : Nat}
theorem ssh_pl (h : ssh σ = ssh σ') : spl G σ = spl G σ' := by
  rcases σ with p | ⟨t, κ⟩ <;> rcases σ' with p' | ⟨t', κ'⟩ <;> simp only [ssh, Sum.inl.injEq, Sum.inr.injEq, reduceCtorEq] at h
  · rw [h]
  · rw [h]; rfl
/-- alive, without an error -/
def sAl (σ : yPS) : Prop := ∃ t V, σ = .inr (t, .inr V)
theorem sAl_mp {f : yPV → yPV} (h : sAl (smp f σ)) : sAl σ := by
  obtain ⟨t, V, e⟩ := h
  obtain ⟨V0, e1, _⟩ := smp_al e
  exact ⟨t, V0, e1⟩
theorem sAl_nx (h : sAl (snx σ)) : sAl σ := by
  obtain ⟨t, V, e⟩ := h
  obtain ⟨t0, e1, _⟩ := snx_al e
  exact ⟨t0, V, e1⟩
theorem sAl_gd {c : yPV → Bool} {n p : Nat} (h : sAl (sgd c n p σ)) : sAl σ := by
  obtain ⟨t, V, e⟩ := h
  exact ⟨t, V, (sgd_al e).1⟩
theorem sAl_xp {kd : Nat} (h : sAl (sxp G kd σ)) : sAl σ := by
  obtain ⟨t, V, e⟩ := h
  obtain ⟨t0, e1, _⟩ := sxp_al e
  exact ⟨t0, V, e1⟩
theorem sAl_num {lo hi : Nat} (h : sAl (snum G lo hi σ)) : sAl σ := by
  obtain ⟨t, V, e⟩ := h
  obtain ⟨t0, e1, _⟩ := snum_al e
  exact ⟨t0, V, e1⟩
theorem sAl_ex (h : sAl (sex G w dp σ)) : sAl σ := by
  obtain ⟨t, V, e⟩ := h
  obtain ⟨t0, _, V0, _, e1, _⟩ := sex_al e
  exact ⟨t0, V0, e1⟩
theorem sAl_rf (h : sAl (srf G σ)) : False := by
  obtain ⟨t, V, e⟩ := h
  exact srf_al e
theorem sAl_lp {c : Nat → Bool} {g : yPS → yPS} (hg : ∀ σ, sAl (g σ) → sAl σ) : ∀ (n : Nat) (σ : yPS), sAl (slp G c g n σ) → sAl σ
  | 0, _, h => h
  | n + 1, σ, h => by
    have h : sAl (if c (skd G σ) = true then slp G c g n (g σ) else σ) := h
    split at h
    · exact hg σ (sAl_lp hg n (g σ) h)
    · exact h
theorem sAl_fld {j st : Nat} (h : sAl (sfld G j st σ)) : sAl σ := by
  unfold sfld at h
  split at h
  · split at h
    · exact sAl_nx (sAl_num (sAl_mp (sAl_mp (sAl_nx (sAl_mp h)))))
    · exact sAl_nx (sAl_num (sAl_mp (sAl_mp h)))
  · exact sAl_mp h
theorem sAl_pc (h : sAl (spc G dp σ)) : sAl σ := by
  unfold spc at h
  split at h
  · exact sAl_nx (sAl_num (sAl_mp (sAl_mp h)))
  · exact sAl_ex (sAl_mp (sAl_fld h))
theorem sAl_lin (h : sAl (slin G dp σ)) : sAl σ := sAl_nx (sAl_mp (sAl_lp (fun _ => sAl_pc) _ _ (sAl_mp h)))
theorem sAl_sk {i kd : Nat} (h : sAl (ssk G i kd σ)) : sAl σ := sAl_nx (sAl_num (sAl_mp h))
theorem sAl_kp {i : Nat} {g : yPS → yPS} (hg : ∀ σ, sAl (g σ) → sAl σ) (h : sAl (skp G i g σ)) : sAl σ := sAl_nx (sAl_mp (hg _ (sAl_mp (sAl_xp h))))
theorem sAl_ch3 {i pl : Nat} {g : yPS → yPS} (hg : ∀ σ, sAl (g σ) → sAl σ) (h : sAl (sch3 G dp i pl g σ)) : sAl σ := sAl_nx (sAl_mp (sAl_ex (sAl_gd (sAl_mp (sAl_xp (hg _ h))))))
theorem sAl_ch {i ia pl : Nat} {g : yPS → yPS} (hg : ∀ σ, sAl (g σ) → sAl σ) (h : sAl (sch G dp i ia pl g σ)) : sAl σ := by
  have h := sAl_mp (sAl_xp h)
  unfold sch5 at h
  split at h
  · exact sAl_ch3 hg (sAl_mp (sAl_nx (hg _ h)))
  · exact sAl_ch3 hg (sAl_mp h)
/-- the item itself, before its end is put down -/
def sitw (G : yGx) (body : Bool) (dp : Nat) (sub : Option (yPS → yPS)) (kd i a pl : Nat) (σ1 : yPS) : yPS := if kd = 22 then slin G dp σ1 else if kd = 24 ∨ kd = 25 then ssk G i kd σ1 else if kd = 27 then (match sub with
    | none => srf G σ1
    | some g => skp G a g σ1) else if kd = 28 then (match sub with
    | none => srf G σ1
    | some g => sch G dp i a pl g σ1) else smp (slyP (6, 0, 0, 0)) (snx σ1)
theorem sAl_itw {body : Bool} {sub : Option (yPS → yPS)} {kd i ia pl : Nat} (hg : ∀ g σ, sub = some g → sAl (g σ) → sAl σ) (h : sAl (sitw G body dp sub kd i ia pl σ)) : sAl σ := by
  unfold sitw at h
  split at h
  · exact sAl_lin h
  split at h
  · exact sAl_sk h
  split at h
  · rcases sub with _ | g
    · exact (sAl_rf h).elim
    · exact sAl_kp (fun σ => hg g σ rfl) h
  split at h
  · rcases sub with _ | g
    · exact (sAl_rf h).elim
    · exact sAl_ch (fun σ => hg g σ rfl) h
  · exact sAl_nx (sAl_mp h)
theorem sAl_itm {body : Bool} {sub : Option (yPS → yPS)} (hg : ∀ g σ, sub = some g → sAl (g σ) → sAl σ) (h : sAl (sitm G body dp sub σ)) : sAl σ := sAl_gd (sAl_mp (sAl_itw (body := body) hg (sAl_mp h)))
theorem sAl_its {body : Bool} : ∀ (rd : Nat) (σ : yPS), sAl (sits G body rd σ) → sAl σ
  | 0, σ, h => sAl_lp (fun _ => sAl_itm (sub := none) (fun g _ e _ => by cases e)) _ σ h
  | rd + 1, σ, h => sAl_lp (fun _ => sAl_itm fun g σ e h => by
      injection e with e
      subst e
      exact sAl_its rd σ h) _ σ h
/-- what a call of items does -/
def kIt (q : yQ) (js : List xO) (G : yGx) (body : Bool) (dp d : Nat) (g : yPS → yPS) : Prop := ∀ (S : yS) (σ : yPS) (a : Int), a ≤ 0 → cP G a S σ → ∃ S' : yS, Y q d 41 0 [vr 123, vi dp, vi (yb1 body), vu, vu, vu] [] S js = yretv q S' js ∧ yFr yWD S S' ∧ cP G a S' (g σ)
theorem yKr_i : ∀ kd : Nat, kd < 67 → (yr (yKr kd) = yr 9 ↔ sisI kd = true) := by decide
theorem yswv_i : ∀ kd : Nat, kd < 67 → sisI kd = true → (yswv kd = 18 ↔ kd = 22) ∧ (yswv kd = 19 ↔ kd = 24) ∧ (yswv kd = 20 ↔ kd = 25) ∧ (yswv kd = 21 ↔ kd = 27) ∧ (yswv kd = 22 ↔ kd = 28) := by decide
theorem k44 {body : Bool} {ia : Nat} {sub : Option (yPS → yPS)} (hG : gOk G) (ha : a ≤ 0) (hdp : dp ≤ 12) (hn : dp = 12 → sub = none) (hs : dp < 12 → ∃ g, sub = some g ∧ kIt q js G body (dp + 1) (d + 1) g) (h : cP G (a + 1) S σ) (h0 : skd G σ = 27) : ∃ S' : yS, Y q (d + 2) 44 0 [vr 123, vi dp, vi (yb1 body)] [] S js = yretv q S' js ∧ yFr yWD S S' ∧ cP G a S' (match sub with
    | none => srf G σ
    | some g => skp G ia g σ) := by
  have ed : yr (dp : Int) = dp := yr_eq (by omega) (by omega)
  have e12 : yr 12 = 12 := rfl
  rw [w44_0, ed, e12]
  by_cases z : dp < 12
  · obtain ⟨g, hg, hk⟩ := hs z
    subst hg
    obtain ⟨S1, e1, f1, g1⟩ := k154 (q := q) (d := d + 1) (js := js) hG h (by omega)
    obtain ⟨S2, e2, f2, g2⟩ := hk S1 (smp (slyP (7, 0, 0, 0)) (snx σ)) a ha (cP_P (cP_a hG g1 (by omega)) (slyP_P _))
    have e2 : Y q (d + 1) 41 0 [vr 123, vi ((dp : Int) + 1), vi (yb1 body), vu, vu, vu] [] S1 js = yretv q S2 js := e2
    obtain ⟨S3, e3, f3, g3⟩ := k30 (q := q) (d := d) (js := js) (kd := 21) hG (cP_P (f := fun V => saP ia (qzP V).length (slyP (8, 0, 0, 0) V)) g2 fun V => ⟨_, rfl⟩) (by omega)
    rw [if_pos (by omega), e1, YB_retv, w44_21, e2, YB_retv, w44_29, e3, YB_retv, w44_36]
    exact ⟨S3, rfl, yFr_tr (yWD_k f1) (yFr_tr f2 (yWD_k f3)), cP_a hG g3 (by omega)⟩
  · obtain ⟨S1, e1, f1, g1⟩ := k155 (q := q) (d := d + 1) (js := js) hG h
    have hsn := hn (by omega)
    subst hsn
    rw [if_neg (by omega), e1, YB_retv, w44_13]
    exact ⟨S1, rfl, yWD_k f1, g1 a⟩
theorem k45 {body : Bool} {i i0 ia pl : Nat} {sub : Option (yPS → yPS)} (hG : gOk G) (ha : a ≤ 0) (hdp : dp ≤ 12) (hd : 170 ≤ d) (hn : dp = 12 → sub = none) (hs : dp < 12 → ∃ g, sub = some g ∧ kIt q js G body (dp + 1) (d + 1) g) (hal : ∀ g σ, sub = some g → sAl (g σ) → sAl σ) (h : cP G (a + 1) S σ) (h0 : skd G σ = 28) (hi : i ≤ 2000) (hl : ∀ t V, σ = .inr (t, .inr V) → i = i0) (hpl : spl G σ = pl) : ∃ S' : yS, Y q (d + 2) 45 0 [vr 123, vi i, vi dp, vi (yb1 body), vu] [] S js = yretv q S' js ∧ yFr yWD S S' ∧ cP G a S' (match sub with
    | none => srf G σ
    | some g => sch G dp i0 ia pl g σ) := by
  have ed : yr (dp : Int) = dp := yr_eq (by omega) (by omega)
  have e12 : yr 12 = 12 := rfl
  rw [w45_0, ed, e12]
  by_cases z : dp < 12
  · obtain ⟨g, hg, hk⟩ := hs z
    have hal2 := fun σ => hal g σ hg
    subst hg
    obtain ⟨_, _, p2⟩ := cP_kd hG h
    rw [hpl] at p2
    obtain ⟨S1, e1, f1, g1⟩ := k154 (q := q) (d := d + 1) (js := js) hG h (by omega)
    have al1 : ∀ t V, snx σ = .inr (t, .inr V) → i = i0 := fun t V e => by
      obtain ⟨t0, y, _⟩ := snx_al e
      exact hl _ _ y
    -- where its code begins
    obtain ⟨S2, e2, f2, g2⟩ : ∃ S2 : yS, Y q (d + 1) 105 0 [vr 91, vi i, vi (gI S1 0)] [] S1 js = yretv q S2 js ∧ yFr yWi S1 S2 ∧ cP G a S2 (sch1 i0 σ) := by
      obtain ⟨S2, e2, f2, g2⟩ := k105 (q := q) (d := d + 1) (js := js) (i := i) (i0 := i0) (n := sln (fun V => (qzC V).length) (snx σ)) (v := gI S1 0) g1 hi (fun t V e => ⟨al1 t V e, by
        rw [cP_c g1 e, e]
        rfl⟩)
      refine ⟨S2, e2, f2, ?_⟩
      have g2 := cP_a (a' := a) hG g2 (by omega)
      unfold sch1
      rcases hx : snx σ with p | ⟨t, e | V⟩
      · rw [hx] at g2; exact g2
      · rw [hx] at g2; exact g2
      · rw [hx] at g2; exact g2
    obtain ⟨S3, r, e3, f3, g3, h4, h5⟩ := k51 (q := q) (js := js) (w := 2) (dp := dp + 1) (d := d) hG g2 (Or.inr rfl) (by omega) hd
    have e3 : Y q (d + 1) 51 0 [vr 122, vr 107, vi 2, vi ((dp : Int) + 1), vu] [] S2 js = yret q (vi (r : Int)) S3 js := e3
    -- a text is no condition
    obtain ⟨S4, e4, f4, g4⟩ : ∃ S4 : yS, Y q (d + 2) 45 66 [vr 123, vi i, vi dp, vi (yb1 body), vi pl] [vi (r : Int)] S3 js = YB q (Y q (d + 1) 30 0 [vr 123, vr 29] [] S4 js) (d + 2) 45 83 [vr 123, vi i, vi dp, vi (yb1 body), vi pl] [] ∧ yFr yWk S3 S4 ∧ cP G a S4 (sch2 G dp i0 pl σ) := by
      unfold sch2
      rcases kgd (q := q) (d := d + 1) (js := js) (c := fun _ => decide (¬ sty G 2 (dp + 1) (sch1 i0 σ) = 1)) (C := ¬ r = 1) (n := 3) (p := pl) hG (cP_a (a' := a) hG g3 (by omega)) (by omega) (fun t V e => by
        rw [decide_eq_true_iff, h5 t V e]) with ⟨y, c⟩ | ⟨y, S4, x1, x2, x3⟩
      · have r0 : r = 0 := by omega
        subst r0
        have y0 : yr ((0 : Nat) : Int) = 0 := by decide
        exact ⟨S3, by rw [w45_66, if_pos y0], yFr_rf _ _, c⟩
      · have r1 : r = 1 := by omega
        subst r1
        have y1 : ¬ yr ((1 : Nat) : Int) = 0 := by decide
        have x1 : Y q (d + 1) 153 0 [vr 86, vi 3, vi pl] [] S3 js = yretv q S4 js := x1
        exact ⟨S4, by rw [w45_66, if_neg y1, x1, YB_retv, w45_79], x2, x3⟩
    obtain ⟨S5, e5, f5, g5⟩ := k30 (q := q) (d := d) (js := js) (kd := 29) hG (cP_P (f := slyP (9, sln (fun V => (qzC V).length) (sch1 i0 σ), 0, 0)) g4 (slyP_P _)) (by omega)
    obtain ⟨S6, e6, f6, g6⟩ := hk S5 _ a ha (cP_a hG g5 (by omega))
    have e6 : Y q (d + 1) 41 0 [vr 123, vi ((dp : Int) + 1), vi (yb1 body), vu, vu, vu] [] S5 js = yretv q S6 js := e6
    have g6 : cP G a S6 (sch3 G dp i0 pl g σ) := g6
    have al3 : ∀ t V, sch3 G dp i0 pl g σ = .inr (t, .inr V) → i = i0 := fun t V e => by
      obtain ⟨t1, V1, y1⟩ := hal2 _ ⟨t, V, e⟩
      obtain ⟨t2, y2, _⟩ := sxp_al y1
      obtain ⟨V3, y3, _⟩ := smp_al y2
      obtain ⟨y4, _⟩ := sgd_al y3
      obtain ⟨t5, _, V5, _, y5, _⟩ := sex_al y4
      obtain ⟨V6, y6, _⟩ := smp_al y5
      exact al1 _ _ y6
    -- where the items chosen end
    obtain ⟨S7, e7, f7, g7⟩ : ∃ S7 : yS, Y q (d + 1) 103 0 [vr 91, vi i, vi (gI S6 25)] [] S6 js = yretv q S7 js ∧ yFr yWi S6 S7 ∧ cP G a S7 (sch4 G dp i0 ia pl g σ) := by
      obtain ⟨cnt, c1, c2, c3⟩ := cP_25 g6
      obtain ⟨S7, e7, f7, g7⟩ := k103 (q := q) (d := d + 1) (js := js) (i := i) (i0 := i0) (n := cnt) (v := gI S6 25) g6 hi (fun t V e => ⟨al3 t V e, c1⟩)
      refine ⟨S7, e7, f7, ?_⟩
      have g8 := cP_P (f := fun V => sbP ia ((qzP V).length + 1) (slyP (10, 0, 0, 0) V)) g7 fun V => ⟨_, rfl⟩
      rw [smp_mp] at g8
      unfold sch4
      rcases hx : sch3 G dp i0 pl g σ with p | ⟨t, e | V⟩
      · rw [hx] at g8; exact g8
      · rw [hx] at g8; exact g8
      · rw [hx] at g8
        have := c3 _ _ hx
        subst this
        exact g8
    obtain ⟨l0, l1, l2⟩ := cP_kd hG g7
    -- otherwise
    obtain ⟨S8, e8, f8, g8⟩ : ∃ S8 : yS, Y q (d + 2) 45 109 [vr 123, vi i, vi dp, vi (yb1 body), vi pl] [] S7 js = YB q (Y q (d + 1) 30 0 [vr 123, vr 21] [] S8 js) (d + 2) 45 141 [vr 123, vi i, vi dp, vi (yb1 body), vi pl] [] ∧ yFr yWD S7 S8 ∧ cP G a S8 (sch5 G dp i0 ia pl g σ) := by
      rw [w45_109, l0, if_pos ⟨l1, by omega⟩]
      unfold sch5
      by_cases y : skd G (sch4 G dp i0 ia pl g σ) = 30
      · obtain ⟨S9, a1, a2, a3⟩ := k154 (q := q) (d := d + 1) (js := js) hG g7 (by omega)
        obtain ⟨S10, b1, b2, b3⟩ := hk S9 _ a ha (cP_a hG a3 (by omega))
        have b1 : Y q (d + 1) 41 0 [vr 123, vi ((dp : Int) + 1), vi (yb1 body), vu, vu, vu] [] S9 js = yretv q S10 js := b1
        rw [if_pos y, if_pos y, a1, YB_retv, w45_129, b1, YB_retv, w45_137]
        exact ⟨S10, rfl, yFr_tr (yWD_k a2) b2, b3⟩
      · rw [if_neg y, if_neg y]
        exact ⟨S7, rfl, yFr_rf _ _, g7⟩
    obtain ⟨S9, e9, f9, g9⟩ := k30 (q := q) (d := d) (js := js) (kd := 21) hG (cP_P (f := fun V => saP (sln (fun V => (qzP V).length) (sch3 G dp i0 pl g σ)) (qzP V).length V) g8 fun V => ⟨_, rfl⟩) (by omega)
    rw [if_pos (by omega), e1, YB_retv, p2, w45_30, e2, YB_retv, w45_48, e3, YB_ret, e4, e5, YB_retv, w45_86, e6, YB_retv, w45_94, e7, YB_retv, e8, e9, YB_retv, w45_144]
    exact ⟨S9, rfl, yFr_tr (yWD_k f1) (yFr_tr (yWD_t (yWT_i f2)) (yFr_tr (yWD_y f3) (yFr_tr (yWD_k f4) (yFr_tr (yWD_k f5) (yFr_tr f6 (yFr_tr (yWD_t (yWT_i f7)) (yFr_tr f8 (yWD_k f9)))))))), cP_a hG g9 (by omega)⟩
  · obtain ⟨S1, e1, f1, g1⟩ := k155 (q := q) (d := d + 1) (js := js) hG h
    have hsn := hn (by omega)
    subst hsn
    rw [if_neg (by omega), e1, YB_retv, w45_13]
    exact ⟨S1, rfl, yWD_k f1, g1 a⟩
theorem k41i {body : Bool} {sub : Option (yPS → yPS)} {n : Nat} {x3 x4 : yV} (hG : gOk G) (hd : 170 ≤ d) (ha : a ≤ 0) (hdp : dp ≤ 12) (hn : dp = 12 → sub = none) (hs : dp < 12 → ∃ g, sub = some g ∧ kIt q js G body (dp + 1) (d + 3) g) (hal : ∀ g σ, sub = some g → sAl (g σ) → sAl σ) (h : cP G a S σ) (h0 : sisI (skd G σ) = true) (hi : n < 2000) : ∃ (S' : yS) (y3 y4 : yV), Y q (d + 5) 41 2 [vr 123, vi dp, vi (yb1 body), vi n, x3, x4] [] S js = Y q (d + 5) 41 2 [vr 123, vi dp, vi (yb1 body), vi ((n : Int) + 1), y3, y4] [] S' js ∧ yFr yWD S S' ∧ cP G a S' (sitm G body dp sub σ) := by
  have ei : yr (n : Int) = n := yr_eq (by omega) (by omega)
  have e2 : yr 2000 = 2000 := rfl
  obtain ⟨k0, k1, k2⟩ := cP_kd hG h
  obtain ⟨kd, hkd⟩ : ∃ kd, kd = skd G σ := ⟨_, rfl⟩
  obtain ⟨s22, s24, s25, s27, s28⟩ := yswv_i _ k1 h0
  have role := (yKr_i _ k1).mpr h0
  have hkk : kd = 22 ∨ kd = 24 ∨ kd = 25 ∨ kd = 26 ∨ kd = 27 ∨ kd = 28 := by
    rw [hkd]
    exact of_decide_eq_true h0
  rw [← hkd] at k0 k1 s22 s24 s25 s27 s28 role
  obtain ⟨pl, hpl⟩ : ∃ pl, pl = spl G σ := ⟨_, rfl⟩
  rw [← hpl] at k2
  -- what may not stand there
  obtain ⟨S1, e1, f1, g1⟩ : ∃ S1 : yS, Y q (d + 5) 41 2 [vr 123, vi dp, vi (yb1 body), vi n, x3, x4] [] S js = YB q (Y q (d + 4) 100 0 [vr 91, vr kd, vi 0, vi 0, vu] [] S1 js) (d + 5) 41 77 [vr 123, vi dp, vi (yb1 body), vi n, vr kd, x4] [] ∧ yFr yWk S S1 ∧ cP G a S1 (sitm0 G body σ) := by
    unfold sitm0
    rw [w41_2, ei, e2, if_pos (by omega), k0, if_pos k1, if_pos role, ← hkd, ← hpl, k2]
    rcases kgd (q := q) (d := d + 4) (js := js) (c := fun _ => decide (body = true ∨ kd = 22 ∨ kd = 24)) (C := body = true ∨ kd = 22 ∨ kd = 24) (n := 6) (p := pl) hG h (by omega) (fun t V e => by rw [decide_eq_true_iff]) with ⟨z, c⟩ | ⟨z, S1, x1, x2, x3'⟩
    · refine ⟨S, ?_, yFr_rf _ _, c⟩
      cases body with
      | true =>
        have y1 : ¬ yr (yb1 true) = 0 := by decide
        rw [if_neg y1]
      | false =>
        have y1 : yr (yb1 false) = 0 := by decide
        rw [if_pos y1, if_pos ⟨k1, by omega⟩]
        by_cases z2 : kd = 22
        · rw [if_pos z2]
        · rw [if_neg z2, if_pos ⟨k1, by omega⟩, if_pos (by
            rcases z with z | z | z
            · nomatch z
            · exact absurd z z2
            · exact z)]
    · have x1 : Y q (d + 4) 153 0 [vr 86, vi 6, vi pl] [] S js = yretv q S1 js := x1
      have hb : body = false := by
        cases body with
        | true => exact absurd (Or.inl rfl) z
        | false => rfl
      subst hb
      have y1 : yr (yb1 false) = 0 := by decide
      refine ⟨S1, ?_, x2, x3'⟩
      rw [if_pos y1, if_pos ⟨k1, by omega⟩, if_neg (fun y => z (Or.inr (Or.inl y))), if_pos ⟨k1, by omega⟩, if_neg (fun y => z (Or.inr (Or.inr y))), x1, YB_retv, w41_69]
  have ht : ∀ t V, sitm0 G body σ = .inr (t, .inr V) → t + 1 < gN G := fun t V e => by
    obtain ⟨e, _⟩ := sgd_al e
    obtain ⟨⟨m, m1, _⟩, _⟩ := h
    have hN := sRl_t m1 e
    refine yTo_t hG.1 hN ?_
    have : skd G σ = (gT G t).1 := by rw [e]; rfl
    omega
  obtain ⟨S2, it, e2', f2, g2, hit, hit2⟩ := k100 (q := q) (d := d + 4) (js := js) (kd := kd) (n := 0) (c := 0) (na := 0) (nb := 0) g1 k1 (fun t V e => by
    have o := (g1.2.2.2 t V e).2.2.1
    have := ht t V e
    have hN := hG.1.2.1
    exact ⟨by omega, rfl, rfl⟩)
  obtain ⟨σ1, hσ1⟩ : ∃ σ1, σ1 = smp (sadI kd 0 0) (sitm0 G body σ) := ⟨_, rfl⟩
  obtain ⟨i0, hi0⟩ : ∃ i0, i0 = sln (fun V => (qzI V).length) (sitm0 G body σ) := ⟨_, rfl⟩
  obtain ⟨ia, hia⟩ : ∃ ia, ia = sln (fun V => (qzP V).length) (sitm0 G body σ) := ⟨_, rfl⟩
  rw [← hσ1] at g2
  have sk1 : skd G σ1 = kd := by
    rw [hσ1, hkd]
    exact (ssh_kd ssh_mp0).trans skd_gd
  have sp1 : spl G σ1 = pl := by
    rw [hσ1, hpl]
    exact ssh_pl (ssh_mp0.trans ssh_gd0)
  have al1 : sAl σ1 → it = i0 := fun ⟨t, V, e⟩ => by
    rw [hσ1] at e
    obtain ⟨V0, y, _⟩ := smp_al e
    rw [hi0, hit2 _ _ y, y]
    rfl
  have alg : ∀ t V, σ1 = .inr (t, .inr V) → it = i0 := fun t V e => al1 ⟨t, V, e⟩
  have res : sitm G body dp sub σ = smp (seI i0) (sitw G body dp sub kd i0 ia pl σ1) := by
    unfold sitm sitw
    rw [hσ1, hi0, hia, hkd, hpl]
  rw [res]
  -- its end
  have fin : ∀ (S3 : yS) (pc : Nat), (∀ S, Y q (d + 5) 41 pc [vr 123, vi dp, vi (yb1 body), vi n, vr kd, vi it] [] S js = YB q (Y q (d + 4) 106 0 [vr 91, vi it] [] S js) (d + 5) 41 191 [vr 123, vi dp, vi (yb1 body), vi n, vr kd, vi it] []) → yFr yWD S2 S3 → cP G a S3 (sitw G body dp sub kd i0 ia pl σ1) → ∃ (S' : yS) (y3 y4 : yV), Y q (d + 5) 41 pc [vr 123, vi dp, vi (yb1 body), vi n, vr kd, vi it] [] S3 js = Y q (d + 5) 41 2 [vr 123, vi dp, vi (yb1 body), vi ((n : Int) + 1), y3, y4] [] S' js ∧ yFr yWD S S' ∧ cP G a S' (smp (seI i0) (sitw G body dp sub kd i0 ia pl σ1)) := by
    intro S3 pc hpc f3 g3
    obtain ⟨S4, e4, f4, g4⟩ := k106 (q := q) (d := d + 4) (js := js) (i := it) (i0 := i0) g3 hit (fun t V e => al1 (sAl_itw (body := body) hal ⟨t, V, e⟩))
    refine ⟨S4, vr kd, vi it, ?_, yFr_tr (yWD_k f1) (yFr_tr (yWD_t (yWT_i f2)) (yFr_tr f3 (yWD_t (yWT_i f4)))), g4⟩
    rw [hpc, e4, YB_retv, w41_194]
  have st : Y q (d + 5) 41 2 [vr 123, vi dp, vi (yb1 body), vi n, x3, x4] [] S js = if yswv kd = 18 then YB q (Y q (d + 4) 42 0 [vr 123, vi dp, vu, vu, vu, vu] [] S2 js) (d + 5) 41 126 [vr 123, vi dp, vi (yb1 body), vi n, vr kd, vi it] [] else if yswv kd = 19 then YB q (Y q (d + 4) 154 0 [vr 86] [] S2 js) (d + 5) 41 136 [vr 123, vi dp, vi (yb1 body), vi n, vr kd, vi it] [] else if yswv kd = 20 then YB q (Y q (d + 4) 154 0 [vr 86] [] S2 js) (d + 5) 41 136 [vr 123, vi dp, vi (yb1 body), vi n, vr kd, vi it] [] else if yswv kd = 21 then YB q (Y q (d + 4) 44 0 [vr 123, vi dp, vi (yb1 body)] [] S2 js) (d + 5) 41 161 [vr 123, vi dp, vi (yb1 body), vi n, vr kd, vi it] [] else if yswv kd = 22 then YB q (Y q (d + 4) 45 0 [vr 123, vi it, vi dp, vi (yb1 body), vu] [] S2 js) (d + 5) 41 172 [vr 123, vi dp, vi (yb1 body), vi n, vr kd, vi it] [] else YB q (Y q (d + 4) 154 0 [vr 86] [] S2 js) (d + 5) 41 182 [vr 123, vi dp, vi (yb1 body), vi n, vr kd, vi it] [] := by
    rw [e1, e2', YB_ret, w41_80, if_pos k1, w318_0, if_pos k1, YB_ret, w41_90, if_pos (yKo_rng _ k1)]
    rfl
  rw [st]
  by_cases z22 : kd = 22
  · obtain ⟨S3, e3, f3, g3⟩ := k42 (q := q) (d := d) (js := js) (dp := dp) hG hd hdp ha g2 (by rw [sk1]; exact z22)
    rw [if_pos (s22.mpr z22), e3, YB_retv]
    exact fin S3 129 (fun S => w41_129 ..) f3 (by unfold sitw; rw [if_pos z22]; exact g3)
  rw [if_neg (fun y => z22 (s22.mp y))]
  by_cases z24 : kd = 24 ∨ kd = 25
  · obtain ⟨S3, e3, f3, g3⟩ := k154 (q := q) (d := d + 4) (js := js) hG g2 (by omega)
    obtain ⟨S4, r, e4, f4, g4, h5, h6, h7⟩ := k29 (q := q) (d := d + 2) (js := js) (lo := 1) (hi := 40) hG g3 (by omega) (by omega)
    have e4 : Y q (d + 4) 29 0 [vr 123, vi 1, vi 40, vu, vu, vu] [] S3 js = yret q (vi r) S4 js := e4
    obtain ⟨S5, e5, f5, g5⟩ := k103 (q := q) (d := d + 4) (js := js) (i := it) (i0 := i0) (n := sfv G (snx σ1)) (v := r) g4 hit (fun t V e => ⟨al1 (sAl_nx (sAl_num ⟨t, V, e⟩)), h7 t V e⟩)
    have wk : cP G a S5 (sitw G body dp sub kd i0 ia pl σ1) := by
      unfold sitw
      rw [if_neg z22, if_pos z24]
      have := cP_P (f := slyP (kd - 20, sfv G (snx σ1), 0, 0)) (cP_a (a' := a) hG g5 (by omega)) (slyP_P _)
      rw [smp_mp] at this
      exact this
    have go : YB q (Y q (d + 4) 154 0 [vr 86] [] S2 js) (d + 5) 41 136 [vr 123, vi dp, vi (yb1 body), vi n, vr kd, vi it] [] = Y q (d + 5) 41 155 [vr 123, vi dp, vi (yb1 body), vi n, vr kd, vi it] [] S5 js := by
      rw [e3, YB_retv, w41_139, e4, YB_ret, w41_152, e5, YB_retv]
    have fr : yFr yWD S2 S5 := yFr_tr (yWD_k (yFr_tr f3 f4)) (yWD_t (yWT_i f5))
    rcases z24 with z | z
    · rw [if_pos (s24.mpr z), go]
      exact fin S5 155 (fun S => w41_155 ..) fr wk
    · rw [if_neg (fun y => by have := s24.mp y; omega), if_pos (s25.mpr z), go]
      exact fin S5 155 (fun S => w41_155 ..) fr wk
  rw [if_neg (fun y => z24 (Or.inl (s24.mp y))), if_neg (fun y => z24 (Or.inr (s25.mp y)))]
  by_cases z27 : kd = 27
  · obtain ⟨S3, e3, f3, g3⟩ := k44 (q := q) (d := d + 2) (js := js) (dp := dp) (body := body) (ia := ia) (sub := sub) hG ha hdp hn hs g2 (by rw [sk1]; exact z27)
    rw [if_pos (s27.mpr z27), e3, YB_retv]
    exact fin S3 164 (fun S => w41_164 ..) f3 (by unfold sitw; rw [if_neg z22, if_neg z24, if_pos z27]; exact g3)
  rw [if_neg (fun y => z27 (s27.mp y))]
  by_cases z28 : kd = 28
  · obtain ⟨S3, e3, f3, g3⟩ := k45 (q := q) (d := d + 2) (js := js) (dp := dp) (body := body) (i := it) (i0 := i0) (ia := ia) (pl := pl) (sub := sub) hG ha hdp (by omega) hn hs hal g2 (by rw [sk1]; exact z28) hit alg sp1
    rw [if_pos (s28.mpr z28), e3, YB_retv]
    exact fin S3 175 (fun S => w41_175 ..) f3 (by unfold sitw; rw [if_neg z22, if_neg z24, if_neg z27, if_pos z28]; exact g3)
  · obtain ⟨S3, e3, f3, g3⟩ := k154 (q := q) (d := d + 4) (js := js) hG g2 (by omega)
    rw [if_neg (fun y => z28 (s28.mp y)), e3, YB_retv]
    exact fin S3 185 (fun S => w41_185 ..) (yWD_k f3) (by unfold sitw; rw [if_neg z22, if_neg z24, if_neg z27, if_neg z28]; exact cP_P (cP_a hG g3 (by omega)) (slyP_P _))
theorem k41s {body : Bool} {sub : Option (yPS → yPS)} (hG : gOk G) (hd : 170 ≤ d) (hdp : dp ≤ 12) (hn : dp = 12 → sub = none) (hs : dp < 12 → ∃ g, sub = some g ∧ kIt q js G body (dp + 1) (d + 3) g) (hal : ∀ g σ, sub = some g → sAl (g σ) → sAl σ) : kIt q js G body dp (d + 5) (slp G sisI (sitm G body dp sub) 2000) := by
  have loop : ∀ (n i : Nat) (σ : yPS) (S : yS) (a : Int) (x3 x4 : yV), i + n = 2000 → a ≤ 0 → cP G a S σ → ∃ S' : yS, Y q (d + 5) 41 2 [vr 123, vi dp, vi (yb1 body), vi i, x3, x4] [] S js = yretv q S' js ∧ yFr yWD S S' ∧ cP G a S' (slp G sisI (sitm G body dp sub) n σ) := by
    intro n
    induction n with
    | zero =>
      intro i σ S a x3 x4 hi ha h
      have ei : yr (i : Int) = i := yr_eq (by omega) (by omega)
      have e2 : yr 2000 = 2000 := rfl
      rw [w41_2, ei, e2, if_neg (by omega)]
      exact ⟨S, rfl, yFr_rf _ _, h⟩
    | succ n ih =>
      intro i σ S a x3 x4 hi ha h
      have ei : yr (i : Int) = i := yr_eq (by omega) (by omega)
      have e2 : yr 2000 = 2000 := rfl
      obtain ⟨k0, k1, k2⟩ := cP_kd hG h
      show ∃ S' : yS, _ ∧ _ ∧ cP G a S' (if sisI (skd G σ) = true then slp G sisI (sitm G body dp sub) n (sitm G body dp sub σ) else σ)
      by_cases z : sisI (skd G σ) = true
      · obtain ⟨S1, y3, y4, e1, f1, g1⟩ := k41i (q := q) (js := js) (x3 := x3) (x4 := x4) (n := i) hG hd ha hdp hn hs hal h z (by omega)
        obtain ⟨S2, e2, f2, g2⟩ := ih (i + 1) _ S1 a y3 y4 (by omega) ha g1
        have e2 : Y q (d + 5) 41 2 [vr 123, vi dp, vi (yb1 body), vi ((i : Int) + 1), y3, y4] [] S1 js = yretv q S2 js := e2
        rw [if_pos z, e1, e2]
        exact ⟨S2, rfl, yFr_tr f1 f2, g2⟩
      · rw [if_neg z, w41_2, ei, e2, if_pos (by omega), k0, if_pos k1, if_neg (fun y => z ((yKr_i _ k1).mp y))]
        exact ⟨S, rfl, yFr_rf _ _, h⟩
  intro S σ a ha h
  rw [w41_0]
  exact loop 2000 0 σ S a vu vu (by omega) ha h
theorem k41 {body : Bool} (hG : gOk G) : ∀ (rd : Nat), rd ≤ 12 → ∀ d, 175 + 2 * rd ≤ d → kIt q js G body (12 - rd) d (sits G body rd)
  | 0, _, d, hd => by
    obtain ⟨d', rfl⟩ : ∃ d', d = d' + 5 := ⟨d - 5, by omega⟩
    exact k41s (dp := 12) hG (by omega) (by omega) (fun _ => rfl) (fun y => absurd y (by omega)) fun g σ e => nomatch e
  | rd + 1, hr, d, hd => by
    obtain ⟨d', rfl⟩ : ∃ d', d = d' + 5 := ⟨d - 5, by omega⟩
    have e : 12 - (rd + 1) = 11 - rd := by omega
    have e2 : 11 - rd + 1 = 12 - rd := by omega
    rw [e]
    exact k41s (dp := 11 - rd) hG (by omega) (by omega) (fun y => absurd y (by omega)) (fun _ => ⟨_, rfl, by rw [e2]; exact k41 hG rd (by omega) (d' + 3) (by omega)⟩) fun g σ e h => by
      injection e with e
      subst e
      exact sAl_its rd σ h
end YCKL
end YCK
