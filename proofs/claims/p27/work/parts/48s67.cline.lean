/-! taken from whole by wip/p27/slice2.py: 9zv.cline.lean.txt -/
section YCJ
def sbx (kd : Nat) : Bool := decide (yr (yKr kd) = yr 7 ∨ yr (yKr kd) = yr 5 ∨ yr (yKr kd) = yr 6 ∨ kd = 52)
def sisS (kd : Nat) : Bool := decide (kd = 31 ∨ kd = 32 ∨ kd = 33)
def sisP (kd : Nat) : Bool := decide (kd = 23) || sbx kd
def swd (σ : yPS) : Nat := sln (fun V => (qzPg V).2.1) σ
def sfv (G : yGx) (σ : yPS) : Nat := (svl G σ).toInt.toNat
/-- a piece's width and its side -/
def sfld1 (G : yGx) (j : Nat) (σ : yPS) : yPS := smp (snI j (sfv G (snx σ))) (snum G 1 60 (snx σ))
def sfld (G : yGx) (j st : Nat) (σ : yPS) : yPS := if skd G σ = 49 then (if sisS (skd G (sfld1 G j σ)) = true then smp (slyP (2, st, sfv G (snx σ), skd G (sfld1 G j σ) - 30)) (snx (smp (skI j (skd G (sfld1 G j σ))) (sfld1 G j σ))) else smp (slyP (2, st, sfv G (snx σ), 0)) (sfld1 G j σ)) else smp (slyP (2, st, 0, 0)) σ
def spcA (G : yGx) (σ : yPS) : yPS := smp (slyP (1, sfv G (snx σ), 0, 0)) (smp (sadI 23 (sfv G (snx σ)) 0) (snum G 1 (swd (snx σ)) (snx σ)))
def spcE (G : yGx) (dp : Nat) (σ : yPS) : yPS := sfld G (sln (fun V => (qzI V).length) (sex G 2 dp σ)) (sln (fun V => (qzC V).length) σ) (smp (sadI (if sty G 2 dp σ = 1 then 31 else 32) 0 (sln (fun V => (qzC V).length) σ)) (sex G 2 dp σ))
def spc (G : yGx) (dp : Nat) (σ : yPS) : yPS := if skd G σ = 23 then spcA G σ else spcE G dp σ
def slin (G : yGx) (dp : Nat) (σ : yPS) : yPS := smp (fun V => saP (sln (fun V => (qzP V).length) σ) ((qzP V).length + 1) (slyP (3, 0, 0, 0) V)) (slp G sisP (spc G dp) 2000 (smp (slyP (0, 0, 0, 0)) (snx σ)))
section YCJL
variable {q : yQ} {d : Nat} {js : List xO} {G : yGx} {σ σ' : yPS} {m : yMo} {S S' : yS} {a a' w : Int} {dp : Nat}
theorem slyP_P (e : yIe) (V : yPV) : ∃ l, slyP e V = zsP V l := ⟨_, rfl⟩
theorem c317 {kd : Nat} (h : kd < 67) : Y q d 317 0 [vr kd] [] S js = yret q (vi (yb (sbx kd = true))) S js := by
  have y1 : yr 1 = 0 ∨ yr 1 = 1 := by decide
  have y0 : yr 0 = 0 ∨ yr 0 = 1 := by decide
  have kk : sbx kd = true ↔ yr (yKr kd) = yr 7 ∨ yr (yKr kd) = yr 5 ∨ yr (yKr kd) = yr 6 ∨ kd = 52 := by
    unfold sbx
    exact decide_eq_true_iff
  rw [w317_0, if_pos h]
  unfold yb
  by_cases z1 : yr (yKr kd) = yr 7
  · rw [if_pos z1, if_pos y1, if_pos (kk.mpr (Or.inl z1))]
  · rw [if_neg z1, if_pos h]
    by_cases z2 : yr (yKr kd) = yr 5
    · rw [if_pos z2, if_pos y1, if_pos (kk.mpr (Or.inr (Or.inl z2)))]
    · rw [if_neg z2, if_pos h]
      by_cases z3 : yr (yKr kd) = yr 6
      · rw [if_pos z3, if_pos y1, if_pos (kk.mpr (Or.inr (Or.inr (Or.inl z3))))]
      · rw [if_neg z3, if_pos ⟨h, by omega⟩]
        by_cases z4 : kd = 52
        · rw [if_pos z4, if_pos y1, if_pos (kk.mpr (Or.inr (Or.inr (Or.inr z4))))]
        · rw [if_neg z4, if_pos y0, if_neg]
          intro y
          rcases kk.mp y with y | y | y | y
          · exact z1 y
          · exact z2 y
          · exact z3 y
          · exact z4 y
/-- a number up to the page's width -/
theorem k29w (hG : gOk G) (h : cP G a S σ) : ∃ (S' : yS) (r : Int), Y q (d + 2) 29 0 [vr 123, vi 1, vi (gI S 21), vu, vu, vu] [] S js = yret q (vi r) S' js ∧ yFr yWk S S' ∧ cP G (a - 1) S' (snum G 1 (swd σ) σ) ∧ ∀ t V, snum G 1 (swd σ) σ = .inr (t, .inr V) → r = (sfv G σ : Nat) := by
  obtain ⟨⟨m, h1, h2⟩, hR, hC, hV⟩ := id h
  obtain ⟨S', r, e1, e2, e3, e4, e5, e6⟩ := nnumber (q := q) (d := d) (js := js) (lo := 1) (hi := gI S 21) (Or.inl rfl) hG.1 h2 (by have := hR.2.1; omega) (by have := hR.2.1; omega)
  have hr : sRl G (snum G 1 (swd σ) σ) (ynbm (gT G) 1 (gI S 21) (yvl (gT G) S m) m) := by
    rcases σ with p | ⟨t, e | V⟩
    · have e : m = .inl p := h1
      rw [e]
      have k1 : ∀ hi v, ynbm (gT G) 1 hi v (.inl p) = .inl p := fun hi v => by
        unfold ynbm yxp
        split <;> split <;> rfl
      have k2 : ∀ hi, snum G 1 hi (.inl p) = .inl p := fun hi => by
        unfold snum sxp
        split <;> split <;> rfl
      rw [k1, k2]
      rfl
    · have k2 : snum G 1 (swd (.inr (t, .inl e))) (.inr (t, .inl e)) = sxp G 63 (.inr (t, .inl e)) := by
        unfold snum sxp
        split
        · rfl
        · split <;> rfl
      have k1 : ynbm (gT G) 1 (gI S 21) (yvl (gT G) S m) m = yxp (gT G) 63 m := by
        obtain ⟨b, _, _, e2⟩ := h1
        have e2 : m = .inr (t, b, .inl e) := e2
        have kx : ∀ n p, ywr (yxp (gT G) 63 m) n p = yxp (gT G) 63 m := by
          intro n p
          rw [e2]
          unfold yxp
          by_cases z : ykm2 (gT G) (.inr (t, b, .inl e)) = 63
          · rw [if_pos z]
            by_cases y : b = 0
            · have : ynx (gT G) (.inr (t, b, .inl e)) = .inl (gT G t).2.1 := if_pos y
              rw [this]
              rfl
            · have : ynx (gT G) (.inr (t, b, .inl e)) = .inr (t + 1, b - 1, .inl e) := if_neg y
              rw [this]
              rfl
          · rw [if_neg z]
            rfl
        unfold ynbm
        split
        · rfl
        · exact kx _ _
      rw [k1, k2]
      exact sRl_xp hG.1 (by omega) h1
    · have hw : gI S 21 = ((swd (.inr (t, .inr V)) : Nat) : Int) := (hV t V rfl).1.1.2.1
      rw [hw]
      exact sRl_num (lo := 1) hG.1 h1 (sRl_vl h1)
  refine ⟨S', r, e1, e2, cP_k hG h e2 hr e3 fun t V e => ?_, fun t V e => ?_⟩
  · obtain ⟨t0, f1, f2, _⟩ := snum_al e
    exact ⟨t0, f1, by omega, by omega⟩
  · obtain ⟨t0, f1, f2, f3, f4, _⟩ := snum_al e
    rw [sRl_vl h1 _ _ f1] at e6
    have hw : gI S 21 = ((swd σ : Nat) : Int) := by
      rw [f1]
      exact (hV t0 V f1).1.1.2.1
    rw [e6 ⟨f3, by rw [hw]; exact f4⟩]
    unfold sfv
    omega
theorem k43 {i j st : Nat} (hG : gOk G) (h : cP G a S σ) (hi : i ≤ 2000) (hl : ∀ t V, σ = .inr (t, .inr V) → i = j) : ∃ S' : yS, Y q (d + 3) 43 0 [vr 123, vi i] [] S js = yretv q S' js ∧ yFr yWD S S' ∧ cP G a S' (sfld G j st σ) := by
  obtain ⟨k0, k1, k2⟩ := cP_kd hG h
  rw [w43_0, k0, if_pos ⟨k1, by omega⟩]
  unfold sfld
  by_cases z : skd G σ = 49
  · obtain ⟨S1, e1, e2, e3⟩ := k154 (q := q) (d := d + 2) (js := js) hG h (by omega)
    obtain ⟨S2, r, f1, f2, f3, f4, f5, f6⟩ := k29 (q := q) (d := d) (js := js) (lo := 1) (hi := 60) hG e3 (by omega) (by omega)
    have f1 : Y q (d + 2) 29 0 [vr 123, vi 1, vi 60, vu, vu, vu] [] S1 js = yret q (vi r) S2 js := f1
    obtain ⟨S3, g1, g2, g3⟩ := k103 (q := q) (d := d + 2) (js := js) (i := i) (i0 := j) (n := sfv G (snx σ)) (v := r) f3 hi (fun t V e => by
      obtain ⟨t0, y1, _⟩ := snum_al e
      obtain ⟨t1, y2, _⟩ := snx_al y1
      exact ⟨hl _ _ y2, f6 t V e⟩)
    have g3 : cP G (a - 1 - 1) S3 (sfld1 G j σ) := g3
    obtain ⟨l0, l1, l2⟩ := cP_kd hG g3
    have fr3 : yFr yWD S S3 := yFr_tr (yWD_k (yFr_tr e2 f2)) (yWD_t (yWT_i g2))
    obtain ⟨kd, hkd⟩ : ∃ kd, kd = skd G (sfld1 G j σ) := ⟨_, rfl⟩
    rw [← hkd] at l0 l1
    rw [if_pos z, if_pos z, e1, YB_retv, w43_21, f1, YB_ret, w43_33, g1, YB_retv, w43_36, l0, if_pos (show kd < 67 ∧ 31 < 67 from ⟨l1, by omega⟩), if_pos (show kd < 67 ∧ 32 < 67 from ⟨l1, by omega⟩), if_pos (show kd < 67 ∧ 33 < 67 from ⟨l1, by omega⟩), ← hkd]
    by_cases y : sisS kd = true
    · obtain ⟨S4, i1, i2, i3⟩ := k104 (q := q) (d := d + 2) (js := js) (i := i) (i0 := j) (kd := kd) g3 hi l1 (fun t V e => by
        obtain ⟨V0, y0, _⟩ := smp_al e
        obtain ⟨t0, y1, _⟩ := snum_al y0
        obtain ⟨t1, y2, _⟩ := snx_al y1
        exact hl _ _ y2)
      obtain ⟨S5, j1, j2, j3⟩ := k154 (q := q) (d := d + 2) (js := js) hG i3 (by
        have e : skd G (smp (skI j kd) (sfld1 G j σ)) = skd G (sfld1 G j σ) := ssh_kd ssh_mp0
        rw [e, ← hkd]
        have := of_decide_eq_true y
        omega)
      have y' : kd = 31 ∨ kd = 32 ∨ kd = 33 := of_decide_eq_true y
      have st : ∀ A B : Option xRes, (if kd = 31 then A else if kd = 32 then A else if kd = 33 then A else B) = A := fun A B => by
        rcases y' with rfl | rfl | rfl
        · rw [if_pos rfl]
        · rw [if_neg (by omega), if_pos rfl]
        · rw [if_neg (by omega), if_neg (by omega), if_pos rfl]
      rw [st, if_pos y, i1, YB_retv, w43_90, j1, YB_retv, w43_97]
      exact ⟨S5, rfl, yFr_tr fr3 (yFr_tr (yWD_t (yWT_i i2)) (yWD_k j2)), cP_P (cP_a hG j3 (by omega)) (slyP_P _)⟩
    · have y' : ¬ (kd = 31 ∨ kd = 32 ∨ kd = 33) := fun q => y (decide_eq_true q)
      rw [if_neg (by omega), if_neg (by omega), if_neg (by omega), if_neg y]
      exact ⟨S3, rfl, fr3, cP_P (cP_a hG g3 (by omega)) (slyP_P _)⟩
  · rw [if_neg z, if_neg z]
    exact ⟨S, rfl, yFr_rf _ _, cP_P h (slyP_P _)⟩
/-- the pieces of a line -/
theorem k42l (hG : gOk G) (hd : 170 ≤ d) (hdp : dp ≤ 12) (ha : a ≤ 0) : ∀ (n i : Nat) (σ : yPS) (S : yS) (x2 x3 x4 : yV), i + n = 2000 → cP G a S σ → ∃ S' : yS, Y q (d + 4) 42 9 [vr 123, vi dp, vi i, x2, x3, x4] [] S js = yretv q S' js ∧ yFr yWD S S' ∧ cP G a S' (slp G sisP (spc G dp) n σ)
  | 0, i, σ, S, x2, x3, x4, hi, h => by
    have ei : yr (i : Int) = i := yr_eq (by omega) (by omega)
    have e2 : yr 2000 = 2000 := rfl
    rw [w42_9, ei, e2, if_neg (by omega)]
    exact ⟨S, rfl, yFr_rf _ _, h⟩
  | n + 1, i, σ, S, x2, x3, x4, hi, h => by
    have ei : yr (i : Int) = i := yr_eq (by omega) (by omega)
    have e2 : yr 2000 = 2000 := rfl
    have n1 : ¬ yr 1 = 0 := by decide
    obtain ⟨k0, k1, k2⟩ := cP_kd hG h
    have step : ∀ (S1 : yS) (y2 y3 y4 : yV), cP G a S1 (spc G dp σ) → yFr yWD S S1 → ∃ S' : yS, Y q (d + 4) 42 9 [vr 123, vi dp, vi ((i : Int) + 1), y2, y3, y4] [] S1 js = yretv q S' js ∧ yFr yWD S S' ∧ cP G a S' (slp G sisP (spc G dp) n (spc G dp σ)) := fun S1 y2 y3 y4 c f => by
      obtain ⟨S2, f1, f2, f3⟩ := k42l hG hd hdp ha n (i + 1) (spc G dp σ) S1 y2 y3 y4 (by omega) c
      exact ⟨S2, f1, yFr_tr f f2, f3⟩
    rw [w42_9, ei, e2, if_pos (by omega), k0, if_pos ⟨k1, by omega⟩]
    show ∃ S' : yS, _ ∧ _ ∧ cP G a S' (if sisP (skd G σ) = true then slp G sisP (spc G dp) n (spc G dp σ) else σ)
    by_cases z : skd G σ = 23
    · have zp : sisP (skd G σ) = true := by rw [z]; rfl
      obtain ⟨S1, e1, f1, g1⟩ := k154 (q := q) (d := d + 3) (js := js) hG h (by omega)
      obtain ⟨S2, r, e2, f2, g2, g3⟩ := k29w (q := q) (d := d + 1) (js := js) hG g1
      obtain ⟨S3, i3, e4, f4, g4, _, _⟩ := k100 (q := q) (d := d + 3) (js := js) (kd := 23) (n := sfv G (snx σ)) (c := 0) (na := r) (nb := 0) g2 (by omega) (fun t V e => by
        have o := (g2.2.2.2 t V e).2
        obtain ⟨⟨m, m1, _⟩, _⟩ := g2
        have := sRl_t m1 e
        have hN := hG.1.2.1
        have o2 := o.2.1
        exact ⟨by omega, g3 t V e, rfl⟩)
      have sp : spc G dp σ = smp (slyP (1, sfv G (snx σ), 0, 0)) (smp (sadI 23 (sfv G (snx σ)) 0) (snum G 1 (swd (snx σ)) (snx σ))) := if_pos z
      rw [if_pos z, if_pos zp, e1, YB_retv, w42_36, e2, YB_ret, w42_55, e4, YB_ret, w42_59]
      exact step S3 x2 x3 x4 (by rw [sp]; exact cP_P (cP_a hG g4 (by omega)) (slyP_P _)) (yFr_tr (yWD_k (yFr_tr f1 f2)) (yWD_t (yWT_i f4)))
    · rw [if_neg z, if_pos k1, c317 k1, YB_ret, w42_73]
      by_cases zb : sbx (skd G σ) = true
      · have zp : sisP (skd G σ) = true := by unfold sisP; rw [zb, Bool.or_true]
        obtain ⟨S1, r, e1, f1, g1, h4, h5⟩ := k51 (q := q) (js := js) (w := 2) (dp := dp) (d := d + 2) hG h (Or.inr rfl) hdp (by omega)
        have e1 : Y q (d + 3) 51 0 [vr 122, vr 107, vi 2, vi dp, vu] [] S js = yret q (vi (r : Int)) S1 js := e1
        obtain ⟨S2, j, e2, f2, g2, g3, g5⟩ : ∃ (S2 : yS) (j : Nat), Y q (d + 4) 42 103 [vr 123, vi dp, vi i, vi (gI S 0), x3, x4] [vi (r : Int)] S1 js = Y q (d + 4) 42 128 [vr 123, vi dp, vi i, vi (gI S 0), vi (r : Int), x4] [vi (j : Int)] S2 js ∧ yFr yWi S1 S2 ∧ cP G a S2 (smp (sadI (if sty G 2 dp σ = 1 then 31 else 32) 0 (sln (fun V => (qzC V).length) σ)) (sex G 2 dp σ)) ∧ j ≤ 2000 ∧ ∀ t V, sex G 2 dp σ = .inr (t, .inr V) → j = (qzI V).length := by
          have key : ∀ kd : Nat, kd < 67 → (∀ t V, sex G 2 dp σ = .inr (t, .inr V) → kd = if sty G 2 dp σ = 1 then 31 else 32) → ∃ (S2 : yS) (j : Nat), Y q (d + 3) 100 0 [vr 91, vr kd, vi 0, vi (gI S 0), vu] [] S1 js = yret q (vi (j : Int)) S2 js ∧ yFr yWi S1 S2 ∧ cP G a S2 (smp (sadI (if sty G 2 dp σ = 1 then 31 else 32) 0 (sln (fun V => (qzC V).length) σ)) (sex G 2 dp σ)) ∧ j ≤ 2000 ∧ ∀ t V, sex G 2 dp σ = .inr (t, .inr V) → j = (qzI V).length := by
            intro kd hk hs
            obtain ⟨S2, j, e2, f2, g2, g3, g4⟩ := k100 (q := q) (d := d + 3) (js := js) (kd := kd) (n := 0) (c := sln (fun V => (qzC V).length) σ) (na := 0) (nb := gI S 0) g1 hk (fun t V e => by
              have o := (g1.2.2.2 t V e).2
              obtain ⟨⟨m, m1, _⟩, _⟩ := g1
              have := sRl_t m1 e
              have hN := hG.1.2.1
              have o2 := o.2.1
              obtain ⟨t0, b', V0, x, q1, q2, q3, q4⟩ := sex_al e
              refine ⟨by omega, rfl, ?_⟩
              rw [cP_c h q1, q1]
              rfl)
            refine ⟨S2, j, e2, f2, ?_, g3, g4⟩
            have g2 := cP_a (a' := a) hG g2 (by omega)
            by_cases y : ∃ t V, sex G 2 dp σ = .inr (t, .inr V)
            · obtain ⟨t, V, y⟩ := y
              rw [← hs t V y]
              exact g2
            · have e : ∀ f g : yPV → yPV, smp f (sex G 2 dp σ) = smp g (sex G 2 dp σ) := fun f g => by
                rcases hx : sex G 2 dp σ with p | ⟨t, e | V⟩
                · rfl
                · rfl
                · exact absurd ⟨t, V, hx⟩ y
              rw [e _ (sadI kd 0 (sln (fun V => (qzC V).length) σ))]
              exact g2
          rcases (by omega : r = 0 ∨ r = 1) with rfl | rfl
          · obtain ⟨S2, j, e2, rest⟩ := key 32 (by omega) (fun t V e => by
              rw [← h5 t V e]
              rfl)
            have y0 : yr ((0 : Nat) : Int) = 0 := by decide
            exact ⟨S2, j, by rw [w42_103, if_pos y0, e2, YB_ret], rest⟩
          · obtain ⟨S2, j, e2, rest⟩ := key 31 (by omega) (fun t V e => by
              rw [← h5 t V e]
              rfl)
            have y0 : ¬ yr ((1 : Nat) : Int) = 0 := by decide
            exact ⟨S2, j, by rw [w42_103, if_neg y0, e2, YB_ret], rest⟩
        obtain ⟨S3, e3, f3, g6⟩ := k43 (q := q) (d := d) (js := js) (i := j) (j := sln (fun V => (qzI V).length) (sex G 2 dp σ)) (st := sln (fun V => (qzC V).length) σ) hG g2 g3 (fun t V e => by
          obtain ⟨V0, y1, _⟩ := smp_al e
          rw [g5 _ _ y1, y1]
          rfl)
        have sp : spc G dp σ = spcE G dp σ := if_neg z
        rw [yb, if_pos zb, if_neg n1, if_pos zp, e1, YB_ret, e2, w42_128, e3, YB_retv, w42_136]
        exact step S3 _ _ _ (by rw [sp]; exact g6) (yFr_tr (yWD_y f1) (yFr_tr (yWD_t (yWT_i f2)) f3))
      · have zp : ¬ sisP (skd G σ) = true := by
          unfold sisP
          rw [Bool.or_eq_true, decide_eq_true_iff]
          rintro (y | y)
          · exact z y
          · exact zb y
        rw [yb, if_neg zb, if_pos yr_0, if_neg zp]
        exact ⟨S, rfl, yFr_rf _ _, h⟩
theorem k42 (hG : gOk G) (hd : 170 ≤ d) (hdp : dp ≤ 12) (ha : a ≤ 0) (h : cP G (a + 1) S σ) (h0 : skd G σ = 22) : ∃ S' : yS, Y q (d + 4) 42 0 [vr 123, vi dp, vu, vu, vu, vu] [] S js = yretv q S' js ∧ yFr yWD S S' ∧ cP G a S' (slin G dp σ) := by
  obtain ⟨S1, e1, f1, g1⟩ := k154 (q := q) (d := d + 3) (js := js) hG h (by omega)
  obtain ⟨S2, e2, f2, g2⟩ := k42l (q := q) (js := js) (dp := dp) hG hd hdp ha 2000 0 (smp (slyP (0, 0, 0, 0)) (snx σ)) S1 vu vu vu (by omega) (cP_P (cP_a hG g1 (by omega)) (slyP_P _))
  have e2 : Y q (d + 4) 42 9 [vr 123, vi dp, vi 0, vu, vu, vu] [] S1 js = yretv q S2 js := e2
  rw [w42_0, e1, YB_retv, w42_7, e2]
  exact ⟨S2, rfl, yFr_tr (yWD_k f1) f2, cP_P g2 fun V => ⟨_, rfl⟩⟩
end YCJL
end YCJ
