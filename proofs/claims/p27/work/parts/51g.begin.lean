/-! A RUN'S BEGINNING; THE ORDER -/
section YBG
def wLt (f : Nat → Int64) (r s : Nat) : Bool := decide (ycro (fun _ => ycmp (f (2 * r)) (f (2 * s))) [(0, 0)] < 0)
/-- the order in which rows are taken -/
def wO (f : Nat → Int64) (n j : Nat) : Nat := (ysrf (wLt f) n 0 (fun _ => 0) j).toNat
theorem wO_rng {f : Nat → Int64} {n j : Nat} (hj : j < n) : ysrf (wLt f) n 0 (fun _ => 0) j = ((wO f n j : Nat) : Int) ∧ wO f n j < n := by
  have := ysrf_rng (lt := wLt f) n 0 (fun _ => 0) (fun i hi => absurd hi (Nat.not_lt_zero i)) j (by omega)
  unfold wO
  omega
/-! sums do not hang on the order -/
def sumI (F : Int → Int) (g : Nat → Int) : Nat → Int
  | 0 => 0
  | k + 1 => sumI F g k + F (g k)
theorem sumI_up (F : Int → Int) (f : Nat → Int) (p : Nat) (x : Int) : ∀ k, sumI F (yup f p x) k = sumI F f k + (if p < k then F x - F (f p) else 0)
  | 0 => by
    rw [if_neg (Nat.not_lt_zero p)]
    rfl
  | k + 1 => by
    show sumI F (yup f p x) k + F (yup f p x k) = sumI F f k + F (f k) + _
    rw [sumI_up F f p x k, yup_eq]
    by_cases z : k = p
    · subst z
      rw [if_neg (Nat.lt_irrefl k), if_pos rfl, if_pos (Nat.lt_succ_self k)]
      omega
    · rw [if_neg z]
      by_cases y : p < k
      · rw [if_pos y, if_pos (by omega)]
        omega
      · rw [if_neg y, if_neg (by omega)]
        omega
theorem yin_sum (F : Int → Int) (lt : Nat → Nat → Bool) (r : Nat) : ∀ (p : Nat) (f : Nat → Int), p ≤ r → sumI F (yin lt r p f) (r + 1) = sumI F f (r + 1) - F (f p) + F r
  | 0, f, _ => by
    show sumI F (yup f 0 r) (r + 1) = _
    rw [sumI_up, if_pos (Nat.succ_pos r)]
    omega
  | p + 1, f, hp => by
    unfold yin
    split
    · rw [yin_sum F lt r p _ (by omega), sumI_up, if_pos (by omega), yup_eq, if_neg (by omega)]
      omega
    · rw [sumI_up, if_pos (by omega)]
      omega
theorem ysrf_sum (F : Int → Int) (lt : Nat → Nat → Bool) : ∀ (m r : Nat) (f : Nat → Int), sumI F (ysrf lt m r f) (r + m) - sumI F (fun i => (i : Int)) (r + m) = sumI F f r - sumI F (fun i => (i : Int)) r
  | 0, r, f => rfl
  | m + 1, r, f => by
    have ih := ysrf_sum F lt m (r + 1) (yin lt r r f)
    rw [yin_sum F lt r r f (Nat.le_refl _)] at ih
    have e1 : sumI F f (r + 1) = sumI F f r + F (f r) := rfl
    have e2 : sumI F (fun i => (i : Int)) (r + 1) = sumI F (fun i => (i : Int)) r + F r := rfl
    have e3 : r + (m + 1) = r + 1 + m := by omega
    show sumI F (ysrf lt m (r + 1) (yin lt r r f)) (r + (m + 1)) - sumI F _ (r + (m + 1)) = _
    rw [e3, ih, e1, e2]
    omega
theorem zS_order (f : Nat → Int64) (V : Nat → Int) (n : Nat) : zS (fun j => V (wO f n j)) n = zS V n := by
  have e1 : ∀ k, k ≤ n → zS (fun j => V (wO f n j)) k = sumI (fun x => V x.toNat) (ysrf (wLt f) n 0 (fun _ => 0)) k := by
    intro k
    induction k with
    | zero => intro _; rfl
    | succ k ih =>
      intro hk
      show zS _ k + V (wO f n k) = sumI _ _ k + V (ysrf (wLt f) n 0 (fun _ => 0) k).toNat
      rw [ih (by omega)]
      rfl
  have e2 : ∀ k, zS V k = sumI (fun x => V x.toNat) (fun i => (i : Int)) k := by
    intro k
    induction k with
    | zero => rfl
    | succ k ih =>
      show zS V k + V k = sumI _ _ k + V ((k : Int)).toNat
      rw [ih, Int.toNat_natCast]
  have h := ysrf_sum (fun x => V x.toNat) (wLt f) n 0 (fun _ => 0)
  rw [Nat.zero_add] at h
  rw [e1 n (Nat.le_refl _), e2 n]
  have e3 : sumI (fun x => V x.toNat) (fun _ => (0 : Int)) 0 = 0 := rfl
  have e4 : sumI (fun x => V x.toNat) (fun i => (i : Int)) 0 = 0 := rfl
  omega
section YBGL
variable {q : yQ} {d : Nat} {js : List xO} {S : yS} {h n np : Nat} {f : Nat → Int64}
theorem pIn_O (p : pIn h n f S) : vO S [(0, 0)] := ⟨p.i23, fun j x hj => by
  match j, hj with
  | 0, hj => cases hj; exact ⟨p.a23 0 (by decide), p.a24 0 (by decide)⟩
  | j + 1, hj => cases hj⟩
theorem ylt_w (p : pIn h n f S) : ylt S [(0, 0)] = wLt f := by
  funext r s
  have g20 : gA S 20 0 = 0 := p.a20 0 (by decide)
  have cell : ∀ i : Nat, ycel S i 0 = f (2 * i) := fun i => by
    unfold ycel
    rw [p.i10, p.b7]
    congr 1
    omega
  have e : ycc S r s 0 = ycmp (f (2 * r)) (f (2 * s)) := by
    unfold ycc
    rw [g20, if_pos (by rfl), cell, cell]
  unfold ylt wLt ycro
  show decide ((if ycc S r s 0 = 0 then _ else _ : Int) < 0) = _
  rw [e]
  rfl
/-- heights of top and bottom -/
theorem k107t (p : pIn h n f S) : Y q (d + 2) 107 0 [vr 91, vi 1, vu, vu, vu, vu] [] S js = yret q (vi 1) S js := by
  have k8 := k108 (q := q) (d := d) (js := js) p (b := 1) (i := 0) (by decide) rfl (by decide)
  have k9 := k109 (q := q) (d := d) (js := js) p (b := 1) (i := 0) (e := 4) (by decide) rfl (by decide) rfl
  have k8 : Y q (d + 1) 108 0 [vr 91, vi 1] [] S js = yret q (vi 1) S js := k8
  have k9 : Y q (d + 1) 109 0 [vr 91, vi 1] [] S js = yret q (vi 4) S js := k9
  have gk : gC S 3 1 = 22 := p.c3 1 (by decide)
  have g29 : gA S 29 1 = 4 := p.a29 1 (by decide)
  have y1 : (yr 1).toNat = 1 := rfl
  rw [w107_0 (d := d + 1), k8, YB_ret, w107_7 (d := d + 1), k9, YB_ret, w107_13, w107_18, if_pos (by decide), if_pos (by decide), p.i25, if_pos (by decide), y1, gk, if_pos ⟨by decide, by decide⟩, if_pos (by decide), if_neg (by decide), if_pos (by decide), g29, w107_18, if_pos (by decide), if_neg (by decide)]
  rfl
theorem k107b (p : pIn h n f S) : Y q (d + 2) 107 0 [vr 91, vi 2, vu, vu, vu, vu] [] S js = yret q (vi 0) S js := by
  have k8 := k108n (q := q) (d := d) (js := js) p (b := 2) (by decide) rfl
  have k9 := k109n (q := q) (d := d) (js := js) p (b := 2) (by decide) rfl
  have k8 : Y q (d + 1) 108 0 [vr 91, vi 2] [] S js = yret q (vi 0) S js := k8
  have k9 : Y q (d + 1) 109 0 [vr 91, vi 2] [] S js = yret q (vi 0) S js := k9
  rw [w107_0 (d := d + 1), k8, YB_ret, w107_7 (d := d + 1), k9, YB_ret, w107_13, w107_18, if_pos (by decide), if_neg (by decide)]
/-- how a run begins -/
theorem cBegin (hh : 5 ≤ h ∧ h ≤ 10) (hn : n ≤ 23) (p : pIn h n f S) : ∃ S' : yS, Y q (d + 5) 113 0 [vr 131, vi np, vu] [] S js = yretv q S' js ∧ pIn h n f S' ∧ (gI S' 27 = 24 ∧ gI S' 28 = h ∧ gI S' 29 = 0 ∧ gI S' 34 = 0 ∧ gI S' 35 = 1 ∧ gI S' 36 = ((h - 1 : Nat) : Int) ∧ gI S' 32 = 0 ∧ gI S' 33 = 0) ∧ (cV S' 16 (wI 0) ∧ cV S' 17 (wI 0) ∧ cV S' 18 (wI 0) ∧ cV S' 25 (wI np)) ∧ (∀ j, j < n → gA S' 34 j = ((wO f n j : Nat) : Int)) ∧ gA S' 35 0 = 0 ∧ gI S' 30 = gI S 30 ∧ gI S' 31 = gI S 31 := by
  obtain ⟨S1, hS1⟩ : ∃ S1, S1 = sA (sA (sA (sI (sI (sI S 32 0) 33 0) 34 0) 35 0 0) 35 1 0) 35 2 0 := ⟨_, rfl⟩
  have f1 : yFr pW S S1 := by
    rw [hS1]
    exact yFr_tr (pW_I rfl) (yFr_tr (pW_I rfl) (yFr_tr (pW_I rfl) (yFr_tr (yFr_A rfl) (yFr_tr (yFr_A rfl) (yFr_A rfl)))))
  have p1 := p.fr f1
  have a1 : Y q (d + 5) 113 0 [vr 131, vi np, vu] [] S js = YB q (Y q (d + 4) 107 0 [vr 91, vi 1, vu, vu, vu, vu] [] S1 js) (d + 5) 113 41 [vr 131, vi np, vi 3] [vr 131] := by
    have y0 : (yr 0).toNat = 0 := rfl
    have y1 : (yr (0 + 1)).toNat = 1 := rfl
    have y2 : (yr (0 + 1 + 1)).toNat = 2 := rfl
    rw [w113_0, w113_17 (d := d + 4), if_pos (by decide), if_pos (by decide), y0, w113_17 (d := d + 4), if_pos (by decide), if_pos (by decide), y1, w113_17 (d := d + 4), if_pos (by decide), if_pos (by decide), y2, w113_17 (d := d + 4), if_neg (by decide), hS1]
    rfl
  obtain ⟨S2, hS2⟩ : ∃ S2, S2 = sI S1 35 1 := ⟨_, rfl⟩
  have f2 : yFr pW S S2 := by
    rw [hS2]
    exact yFr_tr f1 (pW_I rfl)
  have p2 := p.fr f2
  obtain ⟨S4, hS4⟩ : ∃ S4, S4 = sI (sI (sI (sI (sI S2 36 (gI S1 22 - 1 - 0)) 37 (gI S2 35 + (gI S1 22 - 1 - 0) + 1)) 27 (gI S2 21)) 28 (gI S2 22)) 29 0 := ⟨_, rfl⟩
  have f4 : yFr pW S S4 := by
    rw [hS4]
    exact yFr_tr f2 (yFr_tr (pW_I rfl) (yFr_tr (pW_I rfl) (yFr_tr (pW_I rfl) (yFr_tr (pW_I rfl) (pW_I rfl)))))
  have p4 := p.fr f4
  have a2 : Y q (d + 5) 113 0 [vr 131, vi np, vu] [] S js = Y q (d + 5) 113 108 [vr 131, vi np, vi 3] [] S4 js := by
    rw [a1, k107t p1, YB_ret, w113_44 (d := d + 4), ← hS2, k107b p2, YB_ret, w113_68 (d := d + 4), w93_0, YB_retv, hS4]
  have b20 : ∀ j, j < 2 → gA S4 20 j = 0 := fun j hj => by
    rw [p4.a20 j hj]
    match j, hj with
    | 0, _ => rfl
    | 1, _ => rfl
  obtain ⟨S5, a72, f5, -⟩ := c72 (q := q) (d := d + 2) (js := js) (S0 := S4) (row := -1) (c := 2) (t := fun _ => 0) (w := fun _ => 0) (by omega) (by omega) p4.i10 (fun j hj => ⟨b20 j hj, Or.inl rfl, by rw [if_pos (by omega)]⟩)
  have a72 : Y q (d + 4) 72 0 [vr 124, vi (-1), vu, vu, vu] [] S4 js = yretv q S5 js := a72
  obtain ⟨S6, a6, f6, c6⟩ := c71 (q := q) (d := d + 4) (js := js) (S := S5) (n := 25) (x := yi2l (np : Int)) (by omega)
  have a6 : Y q (d + 4) 71 0 [vr 124, vi 25, vj (yi2l (np : Int)), vu] [] S5 js = yretv q S6 js := a6
  obtain ⟨S7, a7, f7, -⟩ := c71 (q := q) (d := d + 4) (js := js) (S := S6) (n := 26) (x := 0) (by omega)
  have a7 : Y q (d + 4) 71 0 [vr 124, vi 26, vj 0, vu] [] S6 js = yretv q S7 js := a7
  have f07 : yFr pW S S7 := yFr_tr f4 (yFr_tr (yFr_mono pW_m f5.1) (yFr_tr (pW_s f6) (pW_s f7)))
  have p7 := p.fr f07
  obtain ⟨S8, a8, f8, c8⟩ := c114 (q := q) (d := d + 3) (js := js) (S := S7) (k := 0) (ty := 0) (by omega) (p7.a15 0 (by decide)) (Or.inl rfl)
  have f8 : yFs 16 (sA S7 36 0 0) S8 := f8
  have a8 : Y q (d + 4) 114 0 [vr 131, vi 0] [] S7 js = yretv q S8 js := a8
  have f08 : yFr pW S S8 := yFr_tr f07 (yFr_tr pW_36 (pW_s f8))
  have p8 := p.fr f08
  obtain ⟨S9, a9, f9, c9⟩ := c114 (q := q) (d := d + 3) (js := js) (S := S8) (k := 1) (ty := 0) (by omega) (p8.a15 1 (by decide)) (Or.inl rfl)
  have f9 : yFs 17 (sA S8 36 1 0) S9 := f9
  have a9 : Y q (d + 4) 114 0 [vr 131, vi 1] [] S8 js = yretv q S9 js := a9
  have f09 : yFr pW S S9 := yFr_tr f08 (yFr_tr pW_36 (pW_s f9))
  have p9 := p.fr f09
  obtain ⟨S10, a10, f10, c10⟩ := c114 (q := q) (d := d + 3) (js := js) (S := S9) (k := 2) (ty := 0) (by omega) (p9.a15 2 (by decide)) (Or.inl rfl)
  have f10 : yFs 18 (sA S9 36 2 0) S10 := f10
  have a10 : Y q (d + 4) 114 0 [vr 131, vi 2] [] S9 js = yretv q S10 js := a10
  have f010 : yFr pW S S10 := yFr_tr f09 (yFr_tr pW_36 (pW_s f10))
  have p10 := p.fr f010
  have i10 : ∀ i, gI S10 i = gI S4 i := fun i => by
    rw [f10.1.1 i (by simp [yWm])]
    show gI S9 i = _
    rw [f9.1.1 i (by simp [yWm])]
    show gI S8 i = _
    rw [f8.1.1 i (by simp [yWm])]
    show gI S7 i = _
    rw [f7.1.1 i (by simp [yWm]), f6.1.1 i (by simp [yWm]), f5.1.1 i (by simp [yWm])]
  have A10 : gA S10 35 = gA S1 35 := by
    rw [f10.1.2.2.2.1 35 rfl]
    show gA S9 35 = _
    rw [f9.1.2.2.2.1 35 rfl]
    show gA S8 35 = _
    rw [f8.1.2.2.2.1 35 rfl]
    show gA S7 35 = _
    rw [f7.1.2.2.2.1 35 rfl, f6.1.2.2.2.1 35 rfl, f5.1.2.2.2.1 35 rfl, hS4, hS2]
    rfl
  have c115' := c115 (q := q) (d := d + 1) (js := js) (O := [(0, 0)]) (n := n) (by decide) (fun x hx => by
    simp at hx
    rw [hx]
    decide) (by omega) n 0 S10 vu (by omega) (pIn_O p10) (fun x hx => by
    simp at hx
    rw [hx, p10.i10]
    decide) (by rw [p10.i10]; decide) (fun i hi => absurd hi (Nat.not_lt_zero i))
  rw [ylt_w p10] at c115'
  obtain ⟨S11, hS11⟩ : ∃ S11, S11 = sAr S10 34 (ysrf (wLt f) n 0 (gA S10 34)) := ⟨_, rfl⟩
  rw [← hS11] at c115'
  have i11 : ∀ i, gI S11 i = gI S4 i := fun i => by
    rw [hS11]
    exact i10 i
  have f011 : yFr pW S S11 := by
    rw [hS11]
    exact yFr_tr f010 ⟨fun _ _ => rfl, fun _ _ => rfl, fun _ _ => rfl, fun j hj => yup_ne _ _ (fun e => by rw [e] at hj; cases hj), fun _ _ => rfl, fun _ _ => rfl⟩
  have cA : ∀ (m : Nat) (v : yVal), cV S10 m v → cV S11 m v := fun m v hv => by
    rw [hS11]
    match v, hv with
    | .inl _, hv => exact hv
    | .inr _, hv => exact hv
  have h1 : gI S1 22 = (h : Int) := p1.i22
  refine ⟨S11, ?_, p.fr f011, ⟨?_, ?_, ?_, ?_, ?_, ?_, ?_, ?_⟩, ⟨cA _ _ (cV_fs f10 (by omega) (cV_36 (cV_fs f9 (by omega) (cV_36 c8)))), cA _ _ (cV_fs f10 (by omega) (cV_36 c9)), cA _ _ c10, cA _ _ (cV_fs f10 (by omega) (cV_36 (cV_fs f9 (by omega) (cV_36 (cV_fs f8 (by omega) (cV_36 (cV_fs f7 (by omega) c6)))))))⟩, fun j hj => ?_, ?_, ?_, ?_⟩
  · have z0 : yr 0 = 0 := rfl
    have r1 : (0 : Int) + 1 = 1 := rfl
    have r2 : (1 : Int) + 1 = 2 := rfl
    have z0' : ((0 : Nat) : Int) = 0 := rfl
    rw [z0'] at c115'
    have c115'' : Y q (d + 4) 115 10 [vr 131, vi n, vi 0, vu] [] S10 js = yretv q S11 js := c115'
    have e131 : Y q (d + 3) 131 0 [vr 82] [] S10 js = yret q (vi n) S10 js := by
      rw [c131 (by rw [p10.i10]; decide) (by rw [p10.i11]; omega)]
      unfold nrow
      rw [p10.i10, p10.i11, if_neg (by decide)]
      have : ((2 * n : Nat) : Int) / 2 = (n : Int) := by omega
      rw [this]
    rw [a2, w113_108 (d := d + 4), a72, YB_retv, w113_116 (d := d + 4), a6, YB_retv, w113_127 (d := d + 4), a7, YB_retv, w113_137, w113_139 (d := d + 4), p7.i8, if_neg (by decide), w113_184 (d := d + 4), p7.i9, if_pos (by decide), a8, YB_retv, w113_203, r1, w113_184 (d := d + 4), p8.i9, if_pos (by decide), a9, YB_retv, w113_203, r2, w113_184 (d := d + 4), p9.i9, if_pos (by decide), a10, YB_retv, w113_203, w113_184 (d := d + 4), p10.i9, if_neg (by decide), w115_0 (d := d + 3), e131, YB_ret, w115_7, c115'', YB_retv, w113_213]
  · rw [i11 27, hS4]
    exact p2.i21
  · rw [i11 28, hS4]
    exact p2.i22
  · rw [i11 29, hS4]
    rfl
  · rw [i11 34, hS4, hS2, hS1]
    rfl
  · rw [i11 35, hS4, hS2]
    rfl
  · rw [i11 36, hS4]
    show gI S1 22 - 1 - 0 = _
    rw [h1]
    omega
  · rw [i11 32, hS4, hS2, hS1]
    rfl
  · rw [i11 33, hS4, hS2, hS1]
    rfl
  · have e : gA S11 34 = ysrf (wLt f) n 0 (gA S10 34) := by
      rw [hS11]
      exact gAr_self _ _ _
    rw [e, ← (wO_rng hj).1]
    exact ysrf_cg n 0 _ _ (fun i hi => absurd hi (Nat.not_lt_zero i)) j (by omega)
  · have e : gA S11 35 = gA S1 35 := by
      rw [hS11]
      exact A10
    rw [e, hS1]
    rfl
  · rw [i11 30, hS4, hS2, hS1]
    rfl
  · rw [i11 31, hS4, hS2, hS1]
    rfl
end YBGL
end YBG
