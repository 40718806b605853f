/-! BOTH RUNS -/
section YRU
/-- pages of so many lines -/
def wPn (hb : Nat) (Ls : List zLn) : Nat := (Ls.length - 1) / hb + 1
theorem wPn_eq {h P : Nat} {Ls : List zLn} (hh : 5 ≤ h ∧ h ≤ 10) (hP : 1 ≤ P) (ht : P = 1 ∨ (P - 1) * (h - 1) < Ls.length) (h2 : Ls.length ≤ P * (h - 1)) : P = wPn (h - 1) Ls := by
  unfold wPn
  obtain ⟨p, rfl⟩ : ∃ p, P = p + 1 := ⟨P - 1, by omega⟩
  rw [Nat.add_sub_cancel] at ht
  have hc : h = 5 ∨ h = 6 ∨ h = 7 ∨ h = 8 ∨ h = 9 ∨ h = 10 := by omega
  rcases hc with rfl | rfl | rfl | rfl | rfl | rfl <;> omega
section YRUL
variable {q : yQ} {d : Nat} {js : List xO} {S : yS} {h n np : Nat} {f : Nat → Int64} {V G : Nat → Int}
theorem zF_len (hb : Nat) (V G : Nat → Int) (hV : ∀ i, -99 ≤ V i ∧ V i ≤ 99) (n : Nat) : (zF hb V G n).1.length ≤ 2 * n + 2 := by
  obtain ⟨b1, -⟩ := zM_bd hb V G hV n
  unfold zF
  split
  · show ((zEq hb (zM hb V G n)).1 ++ _).length ≤ _
    rw [List.length_append]
    show ((zM hb V G n).1 ++ [_]).length + 1 ≤ _
    rw [List.length_append]
    show (zM hb V G n).1.length + 1 + 1 ≤ _
    omega
  · show ((zM hb V G n).1 ++ _).length ≤ _
    rw [List.length_append]
    show (zM hb V G n).1.length + 1 ≤ _
    omega
theorem pEnd (hh : 5 ≤ h ∧ h ≤ 10) (hn : n ≤ 23) (hV : ∀ i, -99 ≤ V i ∧ V i ≤ 99) {o : Nat → Nat} (hs : wS h n np f o n (zM (h - 1) V G n) S) {x0 : Int} (hx : x0 = 0 ∨ x0 = 1) (x5 x6 x7 : yV) : ∃ S' : yS, Y q (d + 7) 112 71 [vr 131, vi x0, vi n, vi 1, vi 10, vi n, x5, x6, x7] [] S js = yretv q (if x0 = 0 then S' else sI S' 31 (gI S' 29)) js ∧ wS h n np f o n (zF (h - 1) V G n) S' ∧ wJ S S' := by
  have z0 : yr 0 = 0 := rfl
  have en := yrn (n := n) (by omega)
  obtain ⟨b1, b2, b3, b4⟩ := zM_bd (h - 1) V G hV n
  -- the summary
  have tail : ∀ (M : zSt) (T : yS), wS h n np f o n M T → M.1.length ≤ 60 → ∀ (x4 : Int) (x5 x6 x7 : yV), ∃ S' : yS, YB q (Y q (d + 6) 108 0 [vr 91, vi 4] [] T js) (d + 7) 112 278 [vr 131, vi x0, vi n, vi 1, vi 10, vi x4, x5, x6, x7] [vr 131] = yretv q (if x0 = 0 then S' else sI S' 31 (gI S' 29)) js ∧ wS h n np f o n (zPl (h - 1) M) S' ∧ wJ T S' := by
    intro M T hT h60 x4 x5 x6 x7
    have pT := (wS_bound hT hh).2
    have k8 := k108 (q := q) (d := d + 5) (js := js) pT (b := 4) (i := 14) (by decide) rfl (by decide)
    have k9 := k109 (q := q) (d := d + 5) (js := js) pT (b := 4) (i := 14) (e := 18) (by decide) rfl (by decide) rfl
    have k8 : Y q (d + 6) 108 0 [vr 91, vi 4] [] T js = yret q (vi 15) T js := k8
    have k9 : Y q (d + 6) 109 0 [vr 91, vi 4] [] T js = yret q (vi 18) T js := k9
    obtain ⟨S', a1, a2, a3⟩ := dPl (q := q) (d := d) (js := js) hh hT h60
    have pS := (wS_bound a2 hh).2
    have j8 := k108n (q := q) (d := d + 5) (js := js) pS (b := 2) (by decide) rfl
    have j9 := k109n (q := q) (d := d + 5) (js := js) pS (b := 2) (by decide) rfl
    have j8 : Y q (d + 6) 108 0 [vr 91, vi 2] [] S' js = yret q (vi 0) S' js := j8
    have j9 : Y q (d + 6) 109 0 [vr 91, vi 2] [] S' js = yret q (vi 0) S' js := j9
    refine ⟨S', ?_, a2, a3.j⟩
    rw [k8, YB_ret, w112_281 (d := d + 6), k9, YB_ret, w112_289 (d := d + 6), a1, YB_retv, w112_293 (d := d + 6), j8, YB_ret, w112_302 (d := d + 6), j9, YB_ret, w112_310 (d := d + 6), pl0, YB_retv, w112_317]
    rcases hx with rfl | rfl
    · rw [if_pos z0, if_pos rfl]
    · rw [if_neg (by decide), if_neg (by decide)]
  have start : Y q (d + 7) 112 71 [vr 131, vi x0, vi n, vi 1, vi 10, vi n, x5, x6, x7] [] S js = Y q (d + 7) 112 232 [vr 131, vi x0, vi n, vi 1, vi 10, vi 10, x5, x6, x7] [] S js := by
    rw [w112_71 (d := d + 6), if_neg (by omega)]
  rw [start]
  by_cases zn : 0 < n
  · obtain ⟨S2, e1, e8, e9, s2, k2⟩ := dEqB (q := q) (d := d) (js := js) hh hs (by omega)
    obtain ⟨S', a1, a2, a3⟩ := tail _ S2 s2 (by
      show ((zM (h - 1) V G n).1 ++ [_]).length ≤ 60
      rw [List.length_append]
      show (zM (h - 1) V G n).1.length + 1 ≤ 60
      omega) (10 + 1) x5 x6 x7
    have hF : zF (h - 1) V G n = zPl (h - 1) (zEq (h - 1) (zM (h - 1) V G n)) := by
      unfold zF
      rw [if_pos zn]
    refine ⟨S', ?_, by rw [hF]; exact a2, wJ_tr k2.j a3⟩
    rw [w112_232 (d := d + 6), en, if_pos (by omega), if_neg (by decide), e8, YB_ret, w112_253 (d := d + 6), e9, YB_ret, w112_262 (d := d + 6), e1, YB_retv, w112_266, w112_232 (d := d + 6), en, if_pos (by omega), if_pos (by decide), a1]
  · obtain ⟨S', a1, a2, a3⟩ := tail _ S hs (by omega) 10 x5 x6 x7
    have hF : zF (h - 1) V G n = zPl (h - 1) (zM (h - 1) V G n) := by
      unfold zF
      rw [if_neg zn]
    refine ⟨S', ?_, by rw [hF]; exact a2, a3⟩
    rw [w112_232 (d := d + 6), en, if_neg (by omega), a1]
/-- one of the two runs -/
theorem cPass (hh : 5 ≤ h ∧ h ≤ 10) (hn : n ≤ 23) (hw : wRw n f (wO f n) V G) (p : pIn h n f S) {x0 : Int} (hx : (x0 = 0 ∧ gI S 29 = (np : Int)) ∨ (x0 = 1 ∧ np = 0)) : ∃ S' : yS, Y q (d + 7) 112 0 [vr 131, vi x0, vu, vu, vu, vu, vu, vu, vu] [] S js = yretv q (if x0 = 0 then S' else sI S' 31 (gI S' 29)) js ∧ wS h n np f (wO f n) n (zF (h - 1) V G n) S' ∧ gA S' 35 0 = ((zC G n : Nat) : Int) ∧ gI S' 30 = gI S 30 ∧ gI S' 31 = gI S 31 := by
  have z0 : yr 0 = 0 := rfl
  obtain ⟨S1, a1, p1, ⟨g27, g28, g29, g34, g35, g36, g32, g33⟩, ⟨v16, v17, v18, v25⟩, ho, hC, i30, i31⟩ := cBegin (q := q) (d := d + 1) (js := js) (np := np) hh hn p
  have a1 : Y q (d + 6) 113 0 [vr 131, vi np, vu] [] S js = yretv q S1 js := a1
  obtain ⟨S2, a2, r2, k2⟩ := turn34 (q := q) (d := d + 2) (js := js) (P := 0) (k := 0) (M := ([], 0, 0, 0)) (np := np) (o := wO f n) hh p1 g34 g29 g28 g27 g35 g36 g32 g33 v16 v17 v25 ho ⟨fun p hp => absurd hp (Nat.not_lt_zero p), fun p l hp => absurd hp (Nat.not_lt_zero p)⟩ (by omega) (by rw [Nat.zero_mul]; rfl)
  have s2 : wS h n np f (wO f n) 0 (zM (h - 1) V G 0) S2 := ⟨1, Nat.le_refl 1, Or.inl rfl, r2⟩
  obtain ⟨S3, x5, x6, x7, a3, s3, c3, i3, j3⟩ := pRows (q := q) (d := d) (js := js) hh hn hw s2 (by rw [k2.2.2.1]; exact hC) x0 n (Nat.le_refl n)
  obtain ⟨S4, a4, s4, j4⟩ := pEnd (q := q) (d := d) (js := js) hh hn hw.2.2.2 s3 (x0 := x0) (by omega) x5 x6 x7
  have p2 := (wS_bound s2 hh).2
  have g2 := (wS_bound s2 hh).1
  refine ⟨S4, ?_, s4, by rw [j4.2.2.1, c3], by rw [j4.1, i3, k2.1, i30], by rw [j4.2.1, j3, k2.2.1, i31]⟩
  have st : Y q (d + 7) 112 0 [vr 131, vi x0, vu, vu, vu, vu, vu, vu, vu] [] S js = YB q (Y q (d + 6) 113 0 [vr 131, vi np, vu] [] S js) (d + 7) 112 16 [vr 131, vi x0, vu, vu, vu, vu, vu, vu, vu] [] := by
    rcases hx with ⟨hx, h29⟩ | ⟨hx, hnp⟩
    · rw [w112_0 (d := d + 6), hx, if_pos z0, h29]
    · rw [w112_0 (d := d + 6), hx, if_neg (by decide), hnp]
      rfl
  have e131 : Y q (d + 6) 131 0 [vr 82] [] S1 js = yret q (vi n) S1 js := by
    rw [c131 (by rw [p1.i10]; decide) (by rw [p1.i11]; omega)]
    unfold nrow
    rw [p1.i10, p1.i11, if_neg (by decide)]
    have : ((2 * n : Nat) : Int) / 2 = (n : Int) := by omega
    rw [this]
  have t117 : Y q (d + 6) 117 0 [vr 131, vu] [] S1 js = yretv q S2 js := by
    rw [← a2, w117_0 (d := d + 5), g29, z0, if_neg (by decide)]
    rw [w117_34 (d := d + 5), g29, z0]
  have e10 : (10 : Int) - 1 + 1 = 10 := rfl
  have b8 := k108n (q := q) (d := d + 5) (js := js) p2 (b := 0) (by decide) rfl
  have b9 := k109n (q := q) (d := d + 5) (js := js) p2 (b := 0) (by decide) rfl
  have b8 : Y q (d + 6) 108 0 [vr 91, vi 0] [] S2 js = yret q (vi 0) S2 js := b8
  have b9 : Y q (d + 6) 109 0 [vr 91, vi 0] [] S2 js = yret q (vi 0) S2 js := b9
  have z0' : ((0 : Nat) : Int) = 0 := rfl
  rw [z0'] at a3
  rw [st, a1, YB_retv, w112_19 (d := d + 6), e131, YB_ret, w112_26 (d := d + 6), t117, YB_retv, p1.i24, e10, w112_47 (d := d + 6), b8, YB_ret, w112_56 (d := d + 6), b9, YB_ret, w112_64 (d := d + 6), d0 g2, YB_retv, w112_68, a3, a4]
/-- run -/
theorem cRun (hh : 5 ≤ h ∧ h ≤ 10) (hn : n ≤ 23) (hw : wRw n f (wO f n) V G) (p : pIn h n f S) {r : Nat} (hr : r < 4) (g30 : gI S 30 = (r : Int)) : ∃ S' : yS, Y q (d + 8) 175 0 [vr 81] [] S js = yret q (vi 0) S' js ∧ wR h n (wPn (h - 1) (zF (h - 1) V G n).1) f (wO f n) (wPn (h - 1) (zF (h - 1) V G n).1) n (zF (h - 1) V G n) S' ∧ gA S' 35 0 = ((zC G n : Nat) : Int) ∧ gI S' 30 = ((r + 1 : Nat) : Int) ∧ gI S' 31 = ((wPn (h - 1) (zF (h - 1) V G n).1 : Nat) : Int) := by
  have z0 : yr 0 = 0 := rfl
  have n1 : ¬ (1 : Int) = 0 := by decide
  obtain ⟨S0, hS0⟩ : ∃ S0, S0 = sI S 30 (gI S 30 + 1) := ⟨_, rfl⟩
  have p0 : pIn h n f S0 := by
    rw [hS0]
    exact p.fr (pW_I rfl)
  obtain ⟨S1, a1, ⟨P, hP, ht, r1⟩, c1, i1, j1⟩ := cPass (q := q) (d := d) (js := js) (np := 0) (x0 := 1) hh hn hw p0 (Or.inr ⟨rfl, rfl⟩)
  rw [if_neg n1] at a1
  have eP : P = wPn (h - 1) (zF (h - 1) V G n).1 := wPn_eq hh hP ht r1.2.2.2.2.2.2.2
  obtain ⟨S2, hS2⟩ : ∃ S2, S2 = sI S1 31 (gI S1 29) := ⟨_, rfl⟩
  rw [← hS2] at a1
  have p2 : pIn h n f S2 := by
    rw [hS2]
    exact r1.1.1.fr (pW_I rfl)
  have h29 : gI S1 29 = (P : Int) := r1.1.2.2.1
  obtain ⟨S3, a3, ⟨P', hP', ht', r3⟩, c3, i3, j3⟩ := cPass (q := q) (d := d) (js := js) (np := P) (x0 := 0) hh hn hw p2 (Or.inl ⟨rfl, by rw [hS2]; exact h29⟩)
  rw [if_pos rfl] at a3
  have eP' : P' = wPn (h - 1) (zF (h - 1) V G n).1 := wPn_eq hh hP' ht' r3.2.2.2.2.2.2.2
  refine ⟨S3, ?_, by rw [← eP'] at eP ⊢; rw [eP] at r3; exact r3, c3, ?_, ?_⟩
  · have g34 : gI S2 34 = 0 := by
      rw [hS2]
      exact r1.1.2.1
    rw [w175_0 (d := d + 7), p.i19, if_neg (by decide), g30, yrn (n := r) (by omega), if_pos (by show (r : Int) < 4; omega), ← g30, ← hS0, a1, YB_retv, w175_50 (d := d + 7), g34, if_pos z0, a3, YB_retv, w175_68, r3.1.2.1]
  · rw [i3, hS2]
    show gI S1 30 = _
    rw [i1, hS0, gI_self, g30]
    omega
  · rw [j3, hS2, gI_self, h29, eP]
end YRUL
end YRU
