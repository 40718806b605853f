/-! ROWS TAKEN, TOTALS, GROUPS -/
section YST
def wS (h n np : Nat) (f : Nat → Int64) (o : Nat → Nat) (k : Nat) (M : zSt) (S : yS) : Prop := ∃ P, 1 ≤ P ∧ (P = 1 ∨ (P - 1) * (h - 1) < M.1.length) ∧ wR h n np f o P k M S
def wJ (S S' : yS) : Prop := gI S' 30 = gI S 30 ∧ gI S' 31 = gI S 31 ∧ gA S' 35 = gA S 35 ∧ gA S' 34 = gA S 34
theorem wJ_tr {A B C : yS} (h1 : wJ A B) (h2 : wJ B C) : wJ A C := ⟨h2.1.trans h1.1, h2.2.1.trans h1.2.1, h2.2.2.1.trans h1.2.2.1, h2.2.2.2.trans h1.2.2.2⟩
theorem wK.j {S S' : yS} (h : wK S S') : wJ S S' := ⟨h.1, h.2.1, h.2.2.1, h.2.2.2.1⟩
theorem cV_fl {c m : Nat} {S S' : yS} {v : yVal} (h : yFl c S S') (hm : c ≤ m) (hv : cV S m v) : cV S' m v := by
  obtain ⟨h1, h2, h3⟩ := h
  obtain ⟨a, b, c'⟩ := h2 m hm
  match v, hv with
  | .inl x, hv => exact ⟨a.trans hv.1, b.trans hv.2.1, c'.trans hv.2.2⟩
  | .inr l, hv =>
    refine ⟨a.trans hv.1, c'.trans hv.2.1, hv.2.2.1, fun i y hi => ?_⟩
    rw [h3 _ (by omega)]
    exact hv.2.2.2 i y hi
theorem yi2l_add {x y : Int} (hx : -1000000 ≤ x ∧ x ≤ 1000000) (hy : -1000000 ≤ y ∧ y ≤ 1000000) : yi2l x + yi2l y = yi2l (x + y) := by
  apply Int64.toInt.inj
  rw [Int64.toInt_add, yi2l_toInt, yi2l_toInt, yi2l_toInt, yr_eq (x := x) (by omega) (by omega), yr_eq (x := y) (by omega) (by omega), yr_eq (x := x + y) (by omega) (by omega), Int.bmod_eq_of_le (by omega) (by omega)]
theorem yi2l_inj {x y : Int} (hx : -1000000 ≤ x ∧ x ≤ 1000000) (hy : -1000000 ≤ y ∧ y ≤ 1000000) (h : yi2l x = yi2l y) : x = y := by
  have := congrArg Int64.toInt h
  rw [yi2l_toInt, yi2l_toInt, yr_eq (x := x) (by omega) (by omega), yr_eq (x := y) (by omega) (by omega)] at this
  exact this
theorem yi2l_1 : (1 : Int64) = yi2l 1 := by decide
section YSTL
variable {q : yQ} {d : Nat} {js : List xO} {S : yS} {h n np : Nat} {f : Nat → Int64} {o : Nat → Nat} {P k : Nat} {M : zSt}
theorem wR_mk {S' : yS} {k' : Nat} {M' : zSt} (hr : wR h n np f o P k M S) (hf : yFr pW S S') (hI : ∀ i, i ≠ 32 → gI S' i = gI S i) (h32 : gI S' 32 = (k' : Int)) (hA : gA S' 33 = gA S 33) (hO : gA S' 34 = gA S 34) (hM : M'.1 = M.1) (v16 : cV S' 16 (wI M'.2.1)) (v17 : cV S' 17 (wI M'.2.2.1)) (v18 : cV S' 18 (wI M'.2.2.2)) (v24 : cV S' 24 (wI P)) (v25 : cV S' 25 (wI np)) : wR h n np f o P k' M' S' := by
  obtain ⟨hb, ⟨g35, g36, g38, g32, g33⟩, _, ho, hpap, hP30, hl1, hl2⟩ := hr
  refine ⟨⟨hb.1.fr hf, (hI 34 (by decide)).trans hb.2.1, (hI 29 (by decide)).trans hb.2.2.1, (hI 28 (by decide)).trans hb.2.2.2.1, (hI 27 (by decide)).trans hb.2.2.2.2⟩, ⟨(hI 35 (by decide)).trans g35, (hI 36 (by decide)).trans g36, ?_, h32, ?_⟩, ⟨v16, v17, v18, v24, v25⟩, fun j hj => by rw [hO]; exact ho j hj, by rw [hA, hM]; exact hpap, hP30, by rw [hM]; exact hl1, by rw [hM]; exact hl2⟩
  · rw [hI 38 (by decide), g38, hM]
  · rw [hI 33 (by decide), g33, hM]
theorem wS_bound (hs : wS h n np f o k M S) (hh : 5 ≤ h ∧ h ≤ 10) : gI S 34 = 0 ∧ pIn h n f S := by
  obtain ⟨P, _, _, hr⟩ := hs
  exact ⟨hr.1.2.1, hr.1.1⟩
/-- the three kinds of lines -/
theorem dRow (hh : 5 ≤ h ∧ h ≤ 10) (hs : wS h n np f o k M S) (h60 : M.1.length ≤ 60) {v g : Int} (c0 : cV S 0 (wI g)) (c1 : cV S 1 (wI v)) : ∃ S' : yS, Y q (d + 6) 121 0 [vr 131, vi 5, vi 9, vi 0, vu, vu, vu, vu, vu, vu, vu] [] S js = yretv q S' js ∧ wS h n np f o k (zRow (h - 1) v g M) S' ∧ wK S S' := by
  obtain ⟨P, hP, ht0, hr⟩ := hs
  obtain ⟨S', P', a1, a2, a3, a4, a5⟩ := dItem (q := q) (d := d) (js := js) hh hr hP ht0 h60 (L := (0, v, g, zP (h - 1) M)) (i := 5) (e := 9) rfl rfl (by decide) rfl rfl rfl (show (3 : Nat) ≤ 9 by decide) (fun P1 S1 r1 k1 j w hj => by
    match j, hj with
    | 0, hj =>
      cases hj
      exact ⟨⟨by decide, by decide, Or.inl ⟨1, 2, by decide, Or.inl ⟨rfl, by decide⟩, by omega, k1.2.2.2.2 1 _ (by omega) c1⟩⟩, show (5 : Nat) ≤ 10 by omega⟩
    | 1, hj =>
      cases hj
      exact ⟨⟨by decide, by decide, Or.inl ⟨0, 2, by decide, Or.inl ⟨rfl, by decide⟩, by omega, k1.2.2.2.2 0 _ (by omega) c0⟩⟩, show (3 : Nat) ≤ 10 by omega⟩
    | 2, hj =>
      cases hj
      exact ⟨⟨by decide, by decide, Or.inl ⟨18, 4, by decide, Or.inr (Or.inl ⟨rfl, by decide⟩), by omega, r1.2.2.1.2.2.1⟩⟩, show (4 : Nat) ≤ 10 by omega⟩
    | j + 3, hj => simp [wVs] at hj) (by decide)
  refine ⟨S', a1, ⟨P', a4, ?_, a2⟩, a3⟩
  rcases a5 with a5 | a5
  · exact Or.inl a5
  · refine Or.inr ?_
    show _ < (M.1 ++ [(0, v, g, zP (h - 1) M)]).length
    rw [List.length_append]
    exact a5
theorem dEq (hh : 5 ≤ h ∧ h ≤ 10) (hs : wS h n np f o k M S) (h60 : M.1.length ≤ 60) : ∃ S' : yS, Y q (d + 6) 121 0 [vr 131, vi 10, vi 14, vi 0, vu, vu, vu, vu, vu, vu, vu] [] S js = yretv q S' js ∧ wS h n np f o k (zEq (h - 1) M) S' ∧ wK S S' := by
  obtain ⟨P, hP, ht0, hr⟩ := hs
  obtain ⟨S', P', a1, a2, a3, a4, a5⟩ := dItem (q := q) (d := d) (js := js) hh hr hP ht0 h60 (L := (1, M.2.2.1, 0, 0)) (i := 10) (e := 14) rfl rfl (by decide) rfl rfl rfl (show (3 : Nat) ≤ 9 by decide) (fun P1 S1 r1 k1 j w hj => by
    match j, hj with
    | 0, hj =>
      cases hj
      exact ⟨⟨by decide, by decide, Or.inr ⟨0, by omega, by decide, by decide, rfl⟩⟩, show (1 : Nat) ≤ 10 by omega⟩
    | 1, hj =>
      cases hj
      exact ⟨⟨by decide, by decide, Or.inl ⟨17, 4, by decide, Or.inr (Or.inl ⟨rfl, by decide⟩), by omega, r1.2.2.1.2.1⟩⟩, show (7 : Nat) ≤ 10 by omega⟩
    | 2, hj =>
      cases hj
      exact ⟨⟨by decide, by decide, Or.inl ⟨17, 4, by decide, Or.inr (Or.inl ⟨rfl, by decide⟩), by omega, r1.2.2.1.2.1⟩⟩, show (8 : Nat) ≤ 10 by omega⟩
    | j + 3, hj => simp [wVs] at hj) (by decide)
  refine ⟨S', a1, ⟨P', a4, ?_, a2⟩, a3⟩
  rcases a5 with a5 | a5
  · exact Or.inl a5
  · refine Or.inr ?_
    show _ < (M.1 ++ [(1, M.2.2.1, 0, 0)]).length
    rw [List.length_append]
    exact a5
theorem dPl (hh : 5 ≤ h ∧ h ≤ 10) (hs : wS h n np f o k M S) (h60 : M.1.length ≤ 60) : ∃ S' : yS, Y q (d + 6) 121 0 [vr 131, vi 15, vi 18, vi 0, vu, vu, vu, vu, vu, vu, vu] [] S js = yretv q S' js ∧ wS h n np f o k (zPl (h - 1) M) S' ∧ wK S S' := by
  obtain ⟨P, hP, ht0, hr⟩ := hs
  obtain ⟨S', P', a1, a2, a3, a4, a5⟩ := dItem (q := q) (d := d) (js := js) hh hr hP ht0 h60 (L := (2, M.2.1, 0, 0)) (i := 15) (e := 18) rfl rfl (by decide) rfl rfl rfl (show (2 : Nat) ≤ 9 by decide) (fun P1 S1 r1 k1 j w hj => by
    match j, hj with
    | 0, hj =>
      cases hj
      exact ⟨⟨by decide, by decide, Or.inr ⟨1, by omega, by decide, by decide, rfl⟩⟩, show (1 : Nat) ≤ 10 by omega⟩
    | 1, hj =>
      cases hj
      exact ⟨⟨by decide, by decide, Or.inl ⟨16, 4, by decide, Or.inr (Or.inl ⟨rfl, by decide⟩), by omega, r1.2.2.1.1⟩⟩, show (7 : Nat) ≤ 10 by omega⟩
    | j + 2, hj => simp [wVs] at hj) (by decide)
  refine ⟨S', a1, ⟨P', a4, ?_, a2⟩, a3⟩
  rcases a5 with a5 | a5
  · exact Or.inl a5
  · refine Or.inr ?_
    show _ < (M.1 ++ [(2, M.2.1, 0, 0)]).length
    rw [List.length_append]
    exact a5
/-- a row is taken -/
theorem cTake (hs : wS h n np f o k M S) (hk : k < 1000) {p : Nat} (hp : p < n) (hn : n ≤ 23) (hop : o p < n) : ∃ S' : yS, Y q (d + 3) 126 0 [vr 131, vi p, vu] [] S js = yretv q S' js ∧ wS h n np f o (k + 1) M S' ∧ wJ S S' ∧ cV S' 0 (.inl (f (2 * o p))) ∧ cV S' 1 (.inl (f (2 * o p + 1))) := by
  obtain ⟨P, hP, ht0, hr⟩ := hs
  obtain ⟨hb, ⟨g35, g36, g38, g32, g33⟩, ⟨v16, v17, v18, v24, v25⟩, ho, hpap, hP30, hl1, hl2⟩ := id hr
  have z0 : yr 0 = 0 := rfl
  have ep := yrn (n := p) (by omega)
  obtain ⟨S0, hS0⟩ : ∃ S0, S0 = sI S 32 (gI S 32 + 1) := ⟨_, rfl⟩
  have b20 : ∀ j, j < 2 → gA S 20 j = 0 := fun j hj => by
    rw [hb.1.a20 j hj]
    match j, hj with
    | 0, _ => rfl
    | 1, _ => rfl
  obtain ⟨S1, a72, f1, c1⟩ := c72 (q := q) (d := d) (js := js) (S0 := S0) (row := (o p : Int)) (c := 2) (t := fun _ => 0) (w := fun j => f (2 * o p + j)) (by omega) (by omega) (by rw [hS0]; exact hb.1.i10) (fun j hj => by
    refine ⟨by rw [hS0]; exact b20 j hj, Or.inl rfl, ?_⟩
    rw [if_neg (by omega), hS0]
    show f (2 * o p + j) = gB S 7 _
    rw [hb.1.b7]
    congr 1
    omega)
  have a72 : Y q (d + 2) 72 0 [vr 124, vi ((o p : Nat) : Int), vu, vu, vu] [] S0 js = yretv q S1 js := a72
  have d0 : cV S1 0 (.inl (f (2 * o p))) := c1 0 (by omega)
  have d1 : cV S1 1 (.inl (f (2 * o p + 1))) := c1 1 (by omega)
  obtain ⟨S2, a71, f2, v26⟩ := c71 (q := q) (d := d + 2) (js := js) (S := S1) (n := 26) (x := yi2l (gI S1 32)) (by omega)
  have a71 : Y q (d + 2) 71 0 [vr 124, vi 26, vj (yi2l (gI S1 32)), vu] [] S1 js = yretv q S2 js := a71
  have i2 : ∀ i, gI S2 i = gI S0 i := fun i => (f2.1.1 i (by simp [yWm])).trans (f1.1.1 i (by simp [yWm]))
  have A2 : ∀ i, yWm 3 i = false → gA S2 i = gA S i := fun i hi => by
    rw [f2.1.2.2.2.1 i hi, f1.1.2.2.2.1 i hi, hS0]
    rfl
  have f02 : yFr pW S S2 := by
    refine yFr_tr (B := S0) ?_ (yFr_tr (B := S1) (yFr_mono pW_m f1.1) (pW_s f2))
    rw [hS0]
    exact pW_I rfl
  have cv : ∀ (m : Nat) (v : yVal), 2 ≤ m → m ≠ 26 → cV S m v → cV S2 m v := fun m v h1 h2 hv => cV_fs f2 h2 (cV_fl f1 h1 (by rw [hS0]; exact cV_I hv))
  refine ⟨S2, ?_, ⟨P, hP, ht0, wR_mk hr f02 (fun i hi => ?_) ?_ (A2 33 rfl) (A2 34 rfl) rfl (cv _ _ (by omega) (by omega) v16) (cv _ _ (by omega) (by omega) v17) (cv _ _ (by omega) (by omega) v18) (cv _ _ (by omega) (by omega) v24) (cv _ _ (by omega) (by omega) v25)⟩, ⟨?_, ?_, A2 35 rfl, A2 34 rfl⟩, cV_fs f2 (by omega) d0, cV_fs f2 (by omega) d1⟩
  · rw [w126_0 (d := d + 2), hb.2.1, if_pos z0, ep, if_pos (by omega), Int.toNat_natCast, ho p hp, ← hS0, a72, YB_retv, w126_31 (d := d + 2), a71, YB_retv, w126_45, w126_47 (d := d + 2), (hb.1.fr f02).i8, if_neg (by decide)]
  · rw [i2 i, hS0, gI_ne _ _ _ hi]
  · rw [i2 32, hS0, gI_self, g32]
    omega
  · rw [i2 30, hS0]
    rfl
  · rw [i2 31, hS0]
    rfl
/-- totals per groups begin anew -/
theorem cAnew (hs : wS h n np f o k M S) {g : Nat} (hg : g ≤ 1) : ∃ S' : yS, Y q (d + 2) 127 0 [vr 131, vi g, vu] [] S js = yretv q S' js ∧ wS h n np f o k (M.1, M.2.1, (if g = 0 then 0 else M.2.2.1), M.2.2.2) S' ∧ wK S S' := by
  obtain ⟨P, hP, ht0, hr⟩ := hs
  obtain ⟨hb, ⟨g35, g36, g38, g32, g33⟩, ⟨v16, v17, v18, v24, v25⟩, ho, hpap, hP30, hl1, hl2⟩ := id hr
  have z0 : yr 0 = 0 := rfl
  have u0 : gA S 19 0 = -2 := hb.1.a19 0 (by decide)
  have u1 : gA S 19 1 = 0 := hb.1.a19 1 (by decide)
  have u2 : gA S 19 2 = -1 := hb.1.a19 2 (by decide)
  have y0 : (yr 0).toNat = 0 := rfl
  have y1 : (yr (0 + 1)).toNat = 1 := rfl
  have y2 : (yr (0 + 1 + 1)).toNat = 2 := rfl
  have i9 := hb.1.i9
  have hgc : g = 0 ∨ g = 1 := by omega
  rcases hgc with rfl | rfl
  · obtain ⟨S1, a114, f1, c1⟩ := c114 (q := q) (d := d) (js := js) (S := S) (k := 1) (ty := 0) (by omega) (hb.1.a15 1 (by decide)) (Or.inl rfl)
    have a114 : Y q (d + 1) 114 0 [vr 131, vi 1] [] S js = yretv q S1 js := a114
    have f1 : yFs 17 (sA S 36 1 0) S1 := f1
    have c1 : cV S1 17 (wI 0) := c1
    have f01 : yFr pW S S1 := yFr_tr pW_36 (pW_s f1)
    have i1 : ∀ i, gI S1 i = gI S i := fun i => f1.1.1 i (by simp [yWm])
    have A1 : ∀ i, yWm 3 i = false → i ≠ 36 → gA S1 i = gA S i := fun i hi h6 => by
      rw [f1.1.2.2.2.1 i hi]
      show yup S.2.2.2.1 36 _ i = _
      exact yup_ne _ _ h6
    have cv : ∀ (m : Nat) (v : yVal), m ≠ 17 → cV S m v → cV S1 m v := fun m v h1 hv => cV_fs f1 h1 (cV_36 hv)
    refine ⟨S1, ?_, ⟨P, hP, ht0, wR_mk hr f01 (fun i _ => i1 i) (by rw [i1, g32]) (A1 33 rfl (by decide)) (A1 34 rfl (by decide)) rfl (cv _ _ (by omega) v16) c1 (cv _ _ (by omega) v18) (cv _ _ (by omega) v24) (cv _ _ (by omega) v25)⟩, wK_tr wK_36 (wK_fs (by omega) f1)⟩
    have g0 : yr ((0 : Nat) : Int) = 0 := rfl
    have n1 : yr (-2) < 0 := by decide
    have n2 : yr (-1) < 0 := by decide
    have r01 : (0 : Int) + 1 = 1 := rfl
    rw [w127_0, w127_2 (d := d + 1), i9, if_pos (by decide), hb.2.1, if_pos z0, if_pos (by decide), y0, u0, g0, if_pos n1, w127_2 (d := d + 1), i9, if_pos (by decide), hb.2.1, if_pos z0, if_pos (by decide), y1, u1, g0, z0, if_neg (by decide), r01, a114, YB_retv, w127_44, w127_2 (d := d + 1), i1, i9, if_pos (by decide), i1, hb.2.1, if_pos z0, if_pos (by decide)]
    have y2' : (yr (1 + 1)).toNat = 2 := rfl
    rw [y2', A1 19 rfl (by decide), u2, g0, if_pos n2, w127_2 (d := d + 1), i1, i9, if_neg (by decide)]
  · refine ⟨S, ?_, ⟨P, hP, ht0, ?_⟩, wK_rf S⟩
    · have g1 : yr ((1 : Nat) : Int) = 1 := rfl
      have n1 : yr (-2) < 1 := by decide
      have n2 : yr (-1) < 1 := by decide
      have n3 : yr 0 < 1 := by decide
      rw [w127_0, w127_2 (d := d + 1), i9, if_pos (by decide), hb.2.1, if_pos z0, if_pos (by decide), y0, u0, g1, if_pos n1, w127_2 (d := d + 1), i9, if_pos (by decide), hb.2.1, if_pos z0, if_pos (by decide), y1, u1, g1, if_pos n3, w127_2 (d := d + 1), i9, if_pos (by decide), hb.2.1, if_pos z0, if_pos (by decide), y2, u2, g1, if_pos n2, w127_2 (d := d + 1), i9, if_neg (by decide)]
    · exact hr
end YSTL
end YST
