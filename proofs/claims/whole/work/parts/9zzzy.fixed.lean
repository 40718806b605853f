/-! RUN: bands of a page's top and bottom, on both sides -/
section YTZ
theorem shtl_ge {I : List yIe} : ∀ (f i en : Nat) (x : Int), x ≤ shtl I f i en x
  | 0, _, _, x => Int.le_refl x
  | f + 1, i, en, x => by
    unfold shtl
    split
    · refine Int.le_trans ?_ (shtl_ge f _ en _)
      split <;> omega
    · exact Int.le_refl x
theorem shtl_lin {I : List yIe} : ∀ (f i en : Nat) (x : Int), shtl I f i en x = x + shtl I f i en 0
  | 0, _, _, x => (Int.add_zero x).symm
  | f + 1, i, en, x => by
    unfold shtl
    by_cases z : i < en ∧ i < I.length
    · rw [if_pos z, if_pos z, shtl_lin f _ _ (x + _), shtl_lin f _ _ (0 + _)]
      omega
    · rw [if_neg z, if_neg z, Int.add_zero]
def cFb (V : yPV) (j : Nat) : Nat := match zB V j with
  | none => 0
  | some (i, _) => i + 1
def cEb (V : yPV) (j : Nat) : Nat := match zB V j with
  | none => 0
  | some (i, _) => ((zI V).getD i dIe).2.2.2
section YTZL
variable {q : yQ} {d d' : Nat} {js ks : List xO} {S0 : yS} {t : Nat} {V : yPV} {a : Int} {n : Nat} {B C S T : yS} {e : yEnv}
theorem yRl_p0 (h : yRl V n B C e S T) : yRl V n B C e (sI S 33 (gI S 33 + 0)) T := by
  obtain ⟨⟨o1, o2⟩, o3, o4, o5, o6, o7, o8⟩ := id h.1.1
  refine yRl_w h ⟨⟨yFr_tr o1 (yFr_I rfl), o2⟩, o3, o4, ?_, o6, o7, fun v hv => cV_e (o8 v hv) rfl rfl rfl rfl⟩ h.2.1 rfl rfl rfl rfl rfl rfl rfl rfl rfl rfl rfl rfl rfl
  rw [gI_self, o5, Int.add_zero]
theorem kband (h : iPq S0 t V a S) (hg : vGd (sG0 S0) V) {j : Nat} (hj : j < 11) : Y q (d + 1) 108 0 [vr 85, vi j] [] S js = yret q (vi (cFb V j : Nat)) S js ∧ Y q (d + 1) 109 0 [vr 85, vi j] [] S js = yret q (vi (cEb V j : Nat)) S js := by
  obtain ⟨_, _, ⟨hR, hV, _⟩, _⟩ := h
  have h25 := hR.2.2.2.2.2.2.2.1
  have hr := hR.2.2.2.2.2.2.2.2.1
  have hb := hV.2.2.2.2.2.2 j hj
  have hI := hV.2.2.2.2.2.1
  rw [c108 (by omega) h25 hr, c109 (by omega) h25 hr]
  simp only [Int.toNat_natCast]
  unfold cFb cEb
  cases hz : zB V j with
  | none =>
    rw [hz] at hb
    have hb : gA S 26 j = -1 := hb
    have nz : ¬ yhb S j := fun z => by
      have := z.2.2.1
      rw [Int.toNat_natCast, hb] at this
      omega
    rw [if_neg nz, if_neg nz]
    exact ⟨rfl, rfl⟩
  | some y =>
    obtain ⟨i, b⟩ := y
    rw [hz] at hb
    have hb : gA S 26 j = (i : Int) := hb
    obtain ⟨x, z, b', k1, _⟩ := hg.2.2.2.2.2 j i b hz
    have hl := (List.getElem?_eq_some_iff.mp k1).1
    have e25 := hI.1
    have yz : yhb S j := ⟨by omega, by omega, by rw [Int.toNat_natCast, hb]; omega, by rw [Int.toNat_natCast, hb]; omega⟩
    have e29 := (hI.2 i x k1).2.2.2
    rw [if_pos yz, if_pos yz, hb, Int.toNat_natCast, e29]
    refine ⟨rfl, ?_⟩
    show _ = yret q (vi (((zI V).getD i dIe).2.2.2 : Nat)) S js
    rw [getD_of k1]
/-- lines and empty lines, one below the other -/
theorem yfix (hx : yCx S0 t V a n B C) {j b : Nat} {sub : Nat → Nat → Nat → Nat → Prop} (hs : ∀ i j a b, sub i j a b → i ≤ j ∧ a ≤ b) (hj : j ≤ 2000) (hz : ∃ z : yIe, (zP V)[b]? = some z ∧ z.1 = 11) {x0 x2 y0 y1 : Int} : ∀ (f i at0 m line : Nat) (e : yEnv) (S T : yS) (x6 x7 x8 : yV), yIl (yIw (zI V) (zP V) (sGd (sG0 S0) V) false sub) f i j at0 b → m + f = 2000 → shtl (zI V) f i j (line : Int) ≤ (zPg V).2.2 → yRl V n B C e S T → yGo q ks V n B C (fun S' => gI S' 29 = gI S 29 ∧ gI S' 38 = gI S 38) (Y q (d + 3) 118 9 [vr 125, vi x0, vi j, vi x2, vi ((line : Int) + 1), vi i, vi m, x6, x7, x8] [] S js) (Y q (d' + 6) 286 11 [vr 129, vi y0, vi y1, vi line, vi at0] [] T ks) (fun S' c => c = yretv q S' js) (fun T' r => r = yretv q T' ks) (fun S' c => c = yretv q S' js) := by
  have fin : ∀ (line m : Nat) (e : yEnv) (S T : yS) (x6 x7 x8 : yV), yRl V n B C e S T → yGo q ks V n B C (fun S' => gI S' 29 = gI S 29 ∧ gI S' 38 = gI S 38) (Y q (d + 3) 118 9 [vr 125, vi x0, vi j, vi x2, vi ((line : Int) + 1), vi j, vi m, x6, x7, x8] [] S js) (Y q (d' + 6) 286 11 [vr 129, vi y0, vi y1, vi line, vi b] [] T ks) (fun S' c => c = yretv q S' js) (fun T' r => r = yretv q T' ks) (fun S' c => c = yretv q S' js) := by
    intro line m e S T x6 x7 x8 h
    obtain ⟨z, z1, z2⟩ := hz
    obtain ⟨u1, u2, _⟩ := rit (iPq_rw hx.1.2.2 h.1.1.1.2) hx.1.1 z1
    refine Or.inl ⟨e, S, T, h, ⟨rfl, rfl⟩, k118_to, ?_⟩
    show _ = _
    have ep : yr (b : Int) = b := yr_eq (by omega) (by omega)
    have kk : 0 ≤ (b : Int) ∧ (b : Int) < 4000 := by omega
    rw [w286_11, ep, if_pos kk, Int.toNat_natCast, u2, z2, if_pos (show yr ((11 : Nat) : Int) = yr 11 from rfl)]
  intro f
  induction f with
  | zero =>
    intro i at0 m line e S T x6 x7 x8 hl _ _ h
    obtain ⟨rfl, rfl⟩ := hl
    exact fin line m e S T x6 x7 x8 h
  | succ f ih =>
    intro i at0 m line e S T x6 x7 x8 hl hm hh h
    rcases hl with ⟨rfl, rfl⟩ | ⟨en, at1, l1, l2, l3⟩
    · exact fin line m e S T x6 x7 x8 h
    · have h34 : gI S 34 = 0 := h.1.2.1
      have le1 := yIl_le (fun i e a a' h => (yIw_le hs i e a a' h).2) f en j at1 b l3
      obtain ⟨u, v, u1, u2, u3, u4, u5⟩ := l2
      obtain ⟨⟨i1, i2, i3⟩, j1, j2, j3, j4⟩ := cit (iPq_cw hx.1.2.1 h.1.1.1.1) u1
      obtain ⟨v1, v2, v3, _⟩ := rit (iPq_rw hx.1.2.2 h.1.1.1.2) hx.1.1 u2
      have gu : (zI V).getD i dIe = u := getD_of u1
      have hk : u.1 = 22 ∨ u.1 = 24 := by
        rcases u4 with u4 | u4 | u4
        · cases u4
        · exact Or.inl u4
        · exact Or.inr u4
      unfold shtl at hh
      rw [if_pos ⟨show i < j by omega, i1⟩, gu, u3] at hh
      have c9 := k118_9 (q := q) (d := d + 2) (js := js) (x0 := x0) (x2 := x2) (x3 := (line : Int) + 1) (m := m) (x6 := x6) (x7 := x7) (x8 := x8) (to := j) h34 (by omega) (show i < j by omega) hj
      rw [j4, u3] at c9
      have ea : yr (at0 : Int) = at0 := yr_eq (by omega) (by omega)
      have kk : 0 ≤ (at0 : Int) ∧ (at0 : Int) < 4000 := by omega
      rcases u5 with ⟨k1, k2, k3, k4, k5, k6, k7⟩ | ⟨k1, k2, k3, k4, k5, k6, k7⟩ | ⟨k1, _⟩ | ⟨k1, _⟩ | ⟨k1, _⟩ | ⟨k1, _⟩
      · rw [if_neg (by omega)] at hh
        have hge := shtl_ge (I := zI V) f en j ((line : Int) + 1)
        obtain ⟨zz, kz1, kz2⟩ := k4
        have pcs := ypcs (q := q) (d := d) (d' := d') (js := js) (ks := ks) (x0 := x0) (x1 := (j : Int)) (x2 := x2) (y0 := (at0 : Int)) (x5 := m) (it := i) (en := en) (at0 := at0) (line := line) (N := en - (i + 1)) hx (by omega) (fun S' hf => by rw [(cit (iPq_cw hx.1.2.1 hf) u1).2.1, k1]) (by omega) (by omega) (by omega) k7 ⟨zz, by rw [show at0 + 1 + (en - (i + 1)) = at1 - 1 by omega]; exact kz1, kz2⟩ (en - (i + 1)) 0 0 e S T (by omega) (by omega) h
        have r0 : Y q (d' + 6) 286 11 [vr 129, vi y0, vi y1, vi line, vi at0] [] T ks = YB q (Y q (d' + 5) 287 7 [vr 129, vi at0, vi line, vi 0, vi ((at0 + 1 : Nat) : Int)] [] T ks) (d' + 6) 286 37 [vr 129, vi y0, vi y1, vi line, vi at0] [] := by
          have e1 : (at0 : Int) + 1 = ((at0 + 1 : Nat) : Int) := by omega
          rw [w286_11, ea, if_pos kk, Int.toNat_natCast, v2, k2, if_neg (show ¬ yr ((0 : Nat) : Int) = yr 11 by decide), if_pos kk, if_pos (show yr ((0 : Nat) : Int) = 0 from rfl), w287_0, e1]
        have c0 : Y q (d + 3) 118 9 [vr 125, vi x0, vi j, vi x2, vi ((line : Int) + 1), vi i, vi m, x6, x7, x8] [] S js = Y q (d + 3) 118 51 [vr 125, vi x0, vi j, vi x2, vi ((line : Int) + 1), vi i, vi m, vi en, vi (((0 : Nat) : Int) + 1), vi ((i + 1 + 0 : Nat) : Int)] [] S js := c9
        rw [c0, r0]
        rcases pcs with ⟨e1, S1, T1, r1, ⟨q1, q2⟩, ⟨z7, c1⟩, f1⟩ | ⟨x, o, S1, T1, hxo, r1, c1, f1⟩
        · have f1 : Y q (d' + 5) 287 7 [vr 129, vi at0, vi line, vi 0, vi ((at0 + 1 : Nat) : Int)] [] T ks = yretv q T1 ks := f1
          have m1 : (m : Int) + 1 = ((m + 1 : Nat) : Int) := by omega
          have m2 : (line : Int) + 1 = ((line + 1 : Nat) : Int) := by omega
          have ih' := ih en at1 (m + 1) (line + 1) e1 S1 T1 (vi en) z7 (vi 1) l3 (by omega) (by rw [← m2]; exact hh) r1
          rw [q1, q2] at ih'
          rw [c1, f1, YB_retv, w286_40, ea, if_pos kk, Int.toNat_natCast, m1, m2]
          obtain ⟨_, _, g53, _⟩ := rit (iPq_rw hx.1.2.2 r1.1.1.1.2) hx.1.1 u2
          rw [g53, k3]
          exact ih'
        · have f1 : Y q (d' + 5) 287 7 [vr 129, vi at0, vi line, vi 0, vi ((at0 + 1 : Nat) : Int)] [] T ks = ythr q o T1 ks := f1
          refine Or.inr ⟨x, o, S1, T1, hxo, r1, c1, ?_⟩
          rw [f1]
          exact yEo_t hxo (fun a b => t286 q a b T1 ks _ _ _ _)
      · subst k6 k7
        rw [if_pos k1] at hh
        have cs := k118_skip (q := q) (d := d + 2) (js := js) (S := S) (x0 := x0) (x1 := (j : Int)) (x2 := x2) (x3 := (line : Int) + 1) (x5 := (m : Int)) (x7 := 1) (it := i) (en := i + 1) (by omega) (by omega) (by rw [j1, k1])
        have m1 : (m : Int) + 1 = ((m + 1 : Nat) : Int) := by omega
        have m2 : (line : Int) + 1 + (u.2.1 : Int) = ((line + u.2.1 : Nat) : Int) + 1 := by omega
        have m3 : (line : Int) + (u.2.1 : Int) = ((line + u.2.1 : Nat) : Int) := by omega
        have m4 : (at0 : Int) + 1 = ((at0 + 1 : Nat) : Int) := by omega
        rw [m3] at hh
        have ih' := ih (i + 1) (at0 + 1) (m + 1) (line + u.2.1) e _ T (vi ((i + 1 : Nat) : Int)) (vi 1) (vi 0) l3 (by omega) hh (yRl_p0 h)
        rw [c9, cs, j2, m1, m2, w286_11, ea, if_pos kk, Int.toNat_natCast, v2, k2, if_neg (show ¬ yr ((4 : Nat) : Int) = yr 11 by decide), if_pos kk, if_neg (show ¬ yr ((4 : Nat) : Int) = 0 by decide), if_pos kk, v3, k3, m3, m4]
        exact ih'
      · omega
      · omega
      · omega
      · omega
/-- a whole band of these, from a line of the page on -/
theorem yband (hx : yCx S0 t V a n B C) (h : yRl V n B C e S T) {j line : Nat} (hj : j = 1 ∨ j = 2) (hl : (line : Int) + sht V j ≤ (zPg V).2.2) : yGo q ks V n B C (fun S' => gI S' 29 = gI S 29 ∧ gI S' 38 = gI S 38) (Y q (d + 3) 118 0 [vr 125, vi (cFb V j : Nat), vi (cEb V j : Nat), vi ((line : Int) + 1), vu, vu, vu, vu, vu, vu] [] S js) (Y q (d' + 6) 286 0 [vr 129, vi (gA T 51 j), vi line, vu, vu] [] T ks) (fun S' c => c = yretv q S' js) (fun T' r => r = yretv q T' ks) (fun S' c => c = yretv q S' js) := by
  have hP := iPq_rw hx.1.2.2 h.1.1.1.2
  have hb := hP.2.2.2.1.1.2.2.2.2.2.2 j (by omega)
  have er : rbn j = j := by rcases hj with rfl | rfl <;> rfl
  rw [er] at hb
  have em : yr (-1) = -1 := rfl
  have hg := yCx_g hx
  unfold sht at hl
  unfold cFb cEb
  cases hz : zB V j with
  | none =>
    rw [hz] at hb
    have hb : gA T 51 j = -1 := hb
    refine Or.inl ⟨e, S, T, h, ⟨rfl, rfl⟩, ?_, ?_⟩
    · show Y q (d + 3) 118 0 [vr 125, vi ((0 : Nat) : Int), vi ((0 : Nat) : Int), vi ((line : Int) + 1), vu, vu, vu, vu, vu, vu] [] S js = yretv q S js
      rw [w118_0, k118_to]
    · show _ = _
      rw [hb, w286_0, if_pos rfl]
  | some y =>
    obtain ⟨i, b0⟩ := y
    rw [hz] at hb hl
    have hb : gA T 51 j = (b0 : Int) := hb
    obtain ⟨x, z, b, k1, k2, k3, k4, k5, k6⟩ := hg.2.2.2.2.2 j i b0 hz
    have l2 := iPq_P hP hx.1.1
    have bl := (List.getElem?_eq_some_iff.mp k5).1
    have il := (cit (iPq_cw hx.1.2.1 h.1.1.1.1) k1).1.2.1
    have al := (yIts_le 12 _ _ _ _ k4).2
    have ea : yr (b0 : Int) = b0 := yr_eq (by omega) (by omega)
    have bd : decide (j ≠ 1 ∧ j ≠ 2) = false := decide_eq_false (by omega)
    rw [bd] at k4
    have k4 : yIl (yIw (zI V) (zP V) (sGd (sG0 S0) V) false (yIts (zI V) (zP V) (sGd (sG0 S0) V) false 11)) 2000 (i + 1) x.2.2.2 b0 b := k4
    have ge : (zI V).getD i dIe = x := getD_of k1
    have hl : (line : Int) + shtl (zI V) 2000 (i + 1) ((zI V).getD i dIe).2.2.2 0 ≤ (zPg V).2.2 := hl
    show yGo q ks V n B C _ (Y q (d + 3) 118 0 [vr 125, vi ((i + 1 : Nat) : Int), vi (((zI V).getD i dIe).2.2.2 : Nat), vi ((line : Int) + 1), vu, vu, vu, vu, vu, vu] [] S js) _ _ _ _
    rw [ge] at hl ⊢
    rw [w118_0, hb, w286_0, ea, em, if_neg (by omega)]
    refine yfix hx (yIts_le 11) (by omega) ⟨z, k5, k6⟩ 2000 (i + 1) b0 0 line e S T vu vu vu k4 (by omega) ?_ h
    rw [shtl_lin]
    exact hl
end YTZL
end YTZ
