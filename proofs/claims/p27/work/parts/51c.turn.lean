/-! THE RUN'S STATE; A PAGE IS TURNED -/
section YTU
/-- P pages, k rows taken, lines and totals M -/
def wR (h n np : Nat) (f : Nat → Int64) (o : Nat → Nat) (P k : Nat) (M : zSt) (S : yS) : Prop := wB h n P f S ∧ (gI S 35 = 1 ∧ gI S 36 = ((h - 1 : Nat) : Int) ∧ gI S 38 = ((M.1.length - (P - 1) * (h - 1) : Nat) : Int) ∧ gI S 32 = (k : Int) ∧ gI S 33 = ((P + M.1.length : Nat) : Int)) ∧ (cV S 16 (wI M.2.1) ∧ cV S 17 (wI M.2.2.1) ∧ cV S 18 (wI M.2.2.2) ∧ cV S 24 (wI P) ∧ cV S 25 (wI np)) ∧ (∀ j, j < n → gA S 34 j = ((o j : Nat) : Int)) ∧ wPap h np P M.1 (gA S 33) ∧ (P ≤ 30 ∧ (P - 1) * (h - 1) ≤ M.1.length ∧ M.1.length ≤ P * (h - 1))
/-- what stays -/
def wK (S S' : yS) : Prop := gI S' 30 = gI S 30 ∧ gI S' 31 = gI S 31 ∧ gA S' 35 = gA S 35 ∧ gA S' 34 = gA S 34 ∧ ∀ (m : Nat) (v : yVal), m < 16 → cV S m v → cV S' m v
theorem wK_rf (S : yS) : wK S S := ⟨rfl, rfl, rfl, rfl, fun _ _ _ h => h⟩
theorem wK_tr {A B C : yS} (h1 : wK A B) (h2 : wK B C) : wK A C := ⟨h2.1.trans h1.1, h2.2.1.trans h1.2.1, h2.2.2.1.trans h1.2.2.1, h2.2.2.2.1.trans h1.2.2.2.1, fun m v hm h => h2.2.2.2.2 m v hm (h1.2.2.2.2 m v hm h)⟩
theorem wK_fs {m : Nat} {S S' : yS} (hm : 16 ≤ m) (h : yFs m S S') : wK S S' := ⟨h.1.1 30 rfl, h.1.1 31 rfl, h.1.2.2.2.1 35 rfl, h.1.2.2.2.1 34 rfl, fun k v hk hv => cV_fs h (by omega) hv⟩
theorem wK_I {S : yS} {k : Nat} {x : Int} (h : k ≠ 30 ∧ k ≠ 31) : wK S (sI S k x) := ⟨gI_ne _ _ _ (Ne.symm h.1), gI_ne _ _ _ (Ne.symm h.2), rfl, rfl, fun _ _ _ hv => cV_I hv⟩
theorem wK_33 {S : yS} {F : Nat → Int} : wK S (sAr S 33 F) := ⟨rfl, rfl, rfl, rfl, fun _ _ _ hv => cV_33 hv⟩
theorem wK_36 {S : yS} {i : Nat} {x : Int} : wK S (sA S 36 i x) := ⟨rfl, rfl, rfl, rfl, fun m v _ hv => by
  match v, hv with
  | .inl _, hv => exact hv
  | .inr _, hv => exact hv⟩
theorem cV_36 {S : yS} {m i : Nat} {v : yVal} {x : Int} (h : cV S m v) : cV (sA S 36 i x) m v := by
  match v, h with
  | .inl _, h => exact h
  | .inr _, h => exact h
theorem pW_36 {S : yS} {i : Nat} {x : Int} : yFr pW S (sA S 36 i x) := yFr_A rfl
section YTUL
variable {q : yQ} {d : Nat} {js : List xO} {S : yS} {h n np : Nat} {f : Nat → Int64} {o : Nat → Nat} {P k : Nat}
theorem pIn_25 (p : pIn h n f S) : (0 ≤ gI S 25 ∧ gI S 25 ≤ 2000) ∧ ∀ j, j < 11 → -1 ≤ gA S 26 j ∧ gA S 26 j ≤ 2000 := by
  refine ⟨by rw [p.i25]; omega, fun j hj => ?_⟩
  rw [p.a26 j hj]
  have : ∀ j, j < 11 → -1 ≤ zA26.getD j 0 ∧ zA26.getD j 0 ≤ 2000 := by decide
  exact this j hj
/-- the beginning and the end of a band -/
theorem k108 (p : pIn h n f S) {b i : Nat} (hb : b < 11) (hz : zA26.getD b 0 = (i : Int)) (hi : i < 18) : Y q (d + 1) 108 0 [vr 91, vi b] [] S js = yret q (vi ((i + 1 : Nat) : Int)) S js := by
  obtain ⟨p1, p2⟩ := pIn_25 p
  have e : gA S 26 b = (i : Int) := (p.a26 b hb).trans hz
  have hy : yhb S (b : Int) := ⟨by omega, by omega, by rw [Int.toNat_natCast, e]; omega, by rw [Int.toNat_natCast, e, p.i25]; omega⟩
  rw [c108 (by omega) p1 p2, if_pos hy, Int.toNat_natCast, e]
  rfl
theorem k109 (p : pIn h n f S) {b i e : Nat} (hb : b < 11) (hz : zA26.getD b 0 = (i : Int)) (hi : i < 18) (he : zA29.getD i 0 = (e : Int)) : Y q (d + 1) 109 0 [vr 91, vi b] [] S js = yret q (vi (e : Int)) S js := by
  obtain ⟨p1, p2⟩ := pIn_25 p
  have e1 : gA S 26 b = (i : Int) := (p.a26 b hb).trans hz
  have hy : yhb S (b : Int) := ⟨by omega, by omega, by rw [Int.toNat_natCast, e1]; omega, by rw [Int.toNat_natCast, e1, p.i25]; omega⟩
  rw [c109 (by omega) p1 p2, if_pos hy, Int.toNat_natCast, e1, Int.toNat_natCast, p.a29 i hi, he]
theorem k108n (p : pIn h n f S) {b : Nat} (hb : b < 11) (hz : zA26.getD b 0 = -1) : Y q (d + 1) 108 0 [vr 91, vi b] [] S js = yret q (vi 0) S js := by
  obtain ⟨p1, p2⟩ := pIn_25 p
  have e : gA S 26 b = -1 := (p.a26 b hb).trans hz
  rw [c108 (by omega) p1 p2, if_neg (fun z => by
    have := z.2.2.1
    rw [Int.toNat_natCast, e] at this
    omega)]
theorem k109n (p : pIn h n f S) {b : Nat} (hb : b < 11) (hz : zA26.getD b 0 = -1) : Y q (d + 1) 109 0 [vr 91, vi b] [] S js = yret q (vi 0) S js := by
  obtain ⟨p1, p2⟩ := pIn_25 p
  have e : gA S 26 b = -1 := (p.a26 b hb).trans hz
  rw [c109 (by omega) p1 p2, if_neg (fun z => by
    have := z.2.2.1
    rw [Int.toNat_natCast, e] at this
    omega)]
/-- nothing is printed of a band that isn't there -/
theorem pl0 {x : Int} : Y q d 118 0 [vr 131, vi 0, vi 0, vi x, vu, vu, vu, vu, vu, vu] [] S js = yretv q S js := by
  have z0 : yr 0 = 0 := rfl
  have e2000 : yr 2000 = 2000 := rfl
  rw [w118_0, w118_9, z0, e2000, if_pos (by decide), if_neg (by decide)]
/-- a new page, from 34 on -/
theorem turn34 {M : zSt} (hh : 5 ≤ h ∧ h ≤ 10) (hp : pIn h n f S) (g34 : gI S 34 = 0) (g29 : gI S 29 = P) (g28 : gI S 28 = h) (g27 : gI S 27 = 24) (g35 : gI S 35 = 1) (g36 : gI S 36 = ((h - 1 : Nat) : Int)) (g32 : gI S 32 = (k : Int)) (g33 : gI S 33 = ((P + M.1.length : Nat) : Int)) (v16 : cV S 16 (wI M.2.1)) (v17 : cV S 17 (wI M.2.2.1)) (v25 : cV S 25 (wI np)) (ho : ∀ j, j < n → gA S 34 j = ((o j : Nat) : Int)) (hpap : wPap h np P M.1 (gA S 33)) (hP : P < 30) (hlen : M.1.length = P * (h - 1)) : ∃ S' : yS, Y q (d + 4) 117 34 [vr 131, vu] [] S js = yretv q S' js ∧ wR h n np f o (P + 1) k (M.1, M.2.1, M.2.2.1, 0) S' ∧ wK S S' := by
  have z0 : yr 0 = 0 := rfl
  have e30 : yr 30 = 30 := rfl
  obtain ⟨F1, hF1⟩ : ∃ F1, F1 = yblk (P * h * 24) ((P + 1) * h * 24) (gA S 33) := ⟨_, rfl⟩
  obtain ⟨S1, hS1⟩ : ∃ S1, S1 = sI (sAr (sI S 29 ((P + 1 : Nat) : Int)) 33 F1) 38 0 := ⟨_, rfl⟩
  have a96 : Y q (d + 3) 96 0 [vr 129, vu, vu, vu] [] S js = yretv q (sAr (sI S 29 ((P + 1 : Nat) : Int)) 33 F1) js := by
    rw [hF1]
    exact c96 (d := d + 2) g29 g28 g27 hP (by omega) (by omega)
  have f1 : yFr pW S S1 := by
    rw [hS1]
    exact yFr_tr (pW_I rfl) (yFr_tr pW_33 (pW_I rfl))
  have k1 : wK S S1 := by
    rw [hS1]
    exact wK_tr (wK_I (by decide)) (wK_tr wK_33 (wK_I (by decide)))
  have t1 : ∀ (m : Nat) (v : yVal), cV S m v → cV S1 m v := fun m v hv => by
    rw [hS1]
    exact cV_I (cV_33 (cV_I hv))
  have p29 : gI S1 29 = ((P + 1 : Nat) : Int) := by rw [hS1]; rfl
  have p38 : gI S1 38 = 0 := by rw [hS1]; rfl
  have pA : gA S1 33 = F1 := by rw [hS1]; rfl
  have e29 : gI (sAr (sI S 29 ((P + 1 : Nat) : Int)) 33 F1) 29 = ((P + 1 : Nat) : Int) := rfl
  obtain ⟨S2, a71, f2, v24⟩ := c71 (q := q) (d := d + 3) (js := js) (S := S1) (n := 24) (x := yi2l ((P + 1 : Nat) : Int)) (by omega)
  have a71 : Y q (d + 3) 71 0 [vr 124, vi 24, vj (yi2l ((P + 1 : Nat) : Int)), vu] [] S1 js = yretv q S2 js := a71
  have f02 : yFr pW S S2 := yFr_tr f1 (pW_s f2)
  have p2 := hp.fr f02
  obtain ⟨S3, a114, f3, v18⟩ := c114 (q := q) (d := d + 2) (js := js) (S := S2) (k := 2) (ty := 0) (by omega) (p2.a15 2 (by decide)) (Or.inl rfl)
  have a114 : Y q (d + 3) 114 0 [vr 131, vi 2] [] S2 js = yretv q S3 js := a114
  have f3 : yFs 18 (sA S2 36 2 0) S3 := f3
  have v18 : cV S3 18 (wI 0) := v18
  have f03 : yFr pW S S3 := yFr_tr f02 (yFr_tr pW_36 (pW_s f3))
  have p3 := hp.fr f03
  have i3 : ∀ k, k ≠ 29 → k ≠ 38 → gI S3 k = gI S k := fun k h1 h2 => by
    rw [f3.1.1 k (by simp [yWm])]
    show gI S2 k = _
    rw [f2.1.1 k (by simp [yWm]), hS1, gI_ne _ _ _ h2]
    show gI (sI S 29 ((P + 1 : Nat) : Int)) k = _
    rw [gI_ne _ _ _ h1]
  have q29 : gI S3 29 = ((P + 1 : Nat) : Int) := by
    rw [f3.1.1 29 rfl]
    show gI S2 29 = _
    rw [f2.1.1 29 rfl, p29]
  have q38 : gI S3 38 = 0 := by
    rw [f3.1.1 38 rfl]
    show gI S2 38 = _
    rw [f2.1.1 38 rfl, p38]
  have qA : gA S3 33 = F1 := by
    rw [f3.1.2.2.2.1 33 rfl]
    show gA S2 33 = _
    rw [f2.1.2.2.2.1 33 rfl, pA]
  have q34 : gA S3 34 = gA S 34 := by
    rw [f3.1.2.2.2.1 34 rfl]
    show gA S2 34 = _
    rw [f2.1.2.2.2.1 34 rfl, hS1]
    rfl
  have cv3 : ∀ (m : Nat) (v : yVal), m ≠ 18 → m ≠ 24 → cV S m v → cV S3 m v := fun m v h1 h2 hv => cV_fs f3 h1 (cV_36 (cV_fs f2 h2 (t1 m v hv)))
  have w24 : cV S3 24 (wI ((P + 1 : Nat) : Int)) := cV_fs f3 (by omega) (cV_36 v24)
  have w25 := cv3 25 _ (by omega) (by omega) v25
  have b3 : wB h n (P + 1) f S3 := ⟨p3, (i3 34 (by decide) (by decide)).trans g34, q29, (i3 28 (by decide) (by decide)).trans g28, (i3 27 (by decide) (by decide)).trans g27⟩
  obtain ⟨bl, pt⟩ := wPap_turn hh hpap hlen
  rw [← hF1] at bl pt
  obtain ⟨S4, a118, f4⟩ := plL (q := q) (d := d) (js := js) (P := P + 1) (line := 0) (i := 1) (e := 4) (l := [wI ((P + 1 : Nat) : Int), wI (np : Int)]) (by omega) (by omega) (by omega) (by omega) b3 rfl rfl rfl (show (2 : Nat) ≤ 9 by decide) (fun j v hj => by
    match j, hj with
    | 0, hj =>
      cases hj
      exact ⟨⟨by decide, by decide, Or.inl ⟨24, 5, by decide, Or.inr (Or.inr ⟨rfl, by decide⟩), by omega, w24⟩⟩, by show (4 : Nat) ≤ 10; omega⟩
    | 1, hj =>
      cases hj
      exact ⟨⟨by decide, by decide, Or.inl ⟨25, 5, by decide, Or.inr (Or.inr ⟨rfl, by decide⟩), by omega, w25⟩⟩, by show (4 : Nat) ≤ 10; omega⟩
    | j + 2, hj => simp at hj) (by decide)
  have eB : ((P + 1 - 1) * h + 0) * 24 = P * h * 24 := by rw [Nat.add_sub_cancel, Nat.add_zero]
  rw [eB, qA, wRn_H _ _ _ _ bl] at a118
  have a118 : Y q (d + 3) 118 0 [vr 131, vi 1, vi 4, vi 1, vu, vu, vu, vu, vu, vu] [] S3 js = yretv q (sI (sAr S4 33 (wPut (P * h * 24) (wHb (P + 1) np) F1)) 33 (gI S3 33 + 1)) js := a118
  obtain ⟨S5, hS5⟩ : ∃ S5, S5 = sI (sAr S4 33 (wPut (P * h * 24) (wHb (P + 1) np) F1)) 33 (gI S3 33 + 1) := ⟨_, rfl⟩
  have f05 : yFr pW S S5 := by
    rw [hS5]
    exact yFr_tr f03 (yFr_tr (pW_s f4) (yFr_tr pW_33 (pW_I rfl)))
  have i5 : ∀ k, k ≠ 33 → gI S5 k = gI S3 k := fun k h1 => by
    rw [hS5, gI_ne _ _ _ h1]
    exact f4.1.1 k (by simp [yWm])
  have c5 : ∀ (m : Nat) (v : yVal), m ≠ 28 → cV S3 m v → cV S5 m v := fun m v h1 hv => by
    rw [hS5]
    exact cV_I (cV_33 (cV_fs f4 h1 hv))
  refine ⟨S5, ?_, ⟨⟨hp.fr f05, (i5 34 (by decide)).trans b3.2.1, (i5 29 (by decide)).trans q29, (i5 28 (by decide)).trans b3.2.2.2.1, (i5 27 (by decide)).trans b3.2.2.2.2⟩, ⟨?_, ?_, ?_, ?_, ?_⟩, ⟨c5 _ _ (by omega) (cv3 _ _ (by omega) (by omega) v16), c5 _ _ (by omega) (cv3 _ _ (by omega) (by omega) v17), c5 _ _ (by omega) v18, c5 _ _ (by omega) w24, c5 _ _ (by omega) w25⟩, fun j hj => ?_, ?_, by omega, ?_, ?_⟩, ?_⟩
  · have s1 := p2.i9
    have n2 : ¬ yr (-2) = yr (-1) := by decide
    have n3 : ¬ yr 0 = yr (-1) := by decide
    have e19 : ∀ j, j < 3 → gA S2 19 j = zA19.getD j 0 := p2.a19
    have y0 : (yr 0).toNat = 0 := rfl
    have y1 : (yr (0 + 1)).toNat = 1 := rfl
    have y2 : (yr (0 + 1 + 1)).toNat = 2 := rfl
    have u0 : gA S2 19 0 = -2 := e19 0 (by decide)
    have u1 : gA S2 19 1 = 0 := e19 1 (by decide)
    have u2 : gA S2 19 2 = -1 := e19 2 (by decide)
    have r01 : (0 : Int) + 1 + 1 = 2 := rfl
    rw [w117_34 (d := d + 3), g34, if_pos z0, g29, yrn (n := P) (by omega), e30, if_pos (by omega), if_pos z0, a96, YB_retv, w117_73 (d := d + 3), e29, ← hS1, a71, YB_retv, w117_95, w117_97 (d := d + 3), s1, if_pos (by decide), if_pos (by decide), y0, u0, if_neg n2, w117_97 (d := d + 3), s1, if_pos (by decide), if_pos (by decide), y1, u1, if_neg n3, w117_97 (d := d + 3), s1, if_pos (by decide), if_pos (by decide), y2, u2, if_pos rfl, r01, a114, YB_retv, w117_132, w117_97 (d := d + 3), p3.i9, if_neg (by decide)]
    have k8 := k108 (q := q) (d := d + 2) (js := js) p3 (b := 1) (i := 0) (by decide) rfl (by decide)
    have k9 := k109 (q := q) (d := d + 2) (js := js) p3 (b := 1) (i := 0) (e := 4) (by decide) rfl (by decide) rfl
    have k8 : Y q (d + 3) 108 0 [vr 91, vi 1] [] S3 js = yret q (vi 1) S3 js := k8
    have k9 : Y q (d + 3) 109 0 [vr 91, vi 1] [] S3 js = yret q (vi 4) S3 js := k9
    rw [k8, YB_ret, w117_147 (d := d + 3), k9, YB_ret, w117_155 (d := d + 3), a118, YB_retv, w117_159, hS5]
  · rw [i5 35 (by decide), i3 35 (by decide) (by decide), g35]
  · rw [i5 36 (by decide), i3 36 (by decide) (by decide), g36]
  · rw [i5 38 (by decide), q38]
    show (0 : Int) = ((M.1.length - (P + 1 - 1) * (h - 1) : Nat) : Int)
    rw [Nat.add_sub_cancel, hlen]
    omega
  · rw [i5 32 (by decide), i3 32 (by decide) (by decide), g32]
  · rw [hS5, gI_self, i3 33 (by decide) (by decide), g33]
    show _ = ((P + 1 + M.1.length : Nat) : Int)
    omega
  · have : gA S5 34 = gA S 34 := by
      rw [hS5]
      show gA S4 34 = _
      rw [f4.1.2.2.2.1 34 rfl, q34]
    rw [this]
    exact ho j hj
  · have : gA S5 33 = wPut (P * h * 24) (wHb (P + 1) np) F1 := by
      rw [hS5]
      exact gAr_self _ _ _
    rw [this]
    exact pt
  · show (P + 1 - 1) * (h - 1) ≤ M.1.length
    rw [Nat.add_sub_cancel, hlen]
    exact Nat.le_refl _
  · show M.1.length ≤ (P + 1) * (h - 1)
    rw [hlen]
    exact Nat.mul_le_mul_right _ (Nat.le_succ P)
  · rw [hS5]
    exact wK_tr k1 (wK_tr (wK_fs (by omega) f2) (wK_tr wK_36 (wK_tr (wK_fs (by omega) f3) (wK_tr (wK_fs (by omega) f4) (wK_tr wK_33 (wK_I (by decide)))))))
end YTUL
end YTU
