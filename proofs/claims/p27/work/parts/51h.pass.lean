/-! ONE RUN OVER THE ROWS -/
section YPA
theorem zM_bd (hb : Nat) (V G : Nat → Int) (hV : ∀ i, -99 ≤ V i ∧ V i ≤ 99) : ∀ i, (zM hb V G i).1.length ≤ 2 * i ∧ (-(99 * (i : Int)) ≤ (zM hb V G i).2.1 ∧ (zM hb V G i).2.1 ≤ 99 * (i : Int)) ∧ (-(99 * (i : Int)) ≤ (zM hb V G i).2.2.1 ∧ (zM hb V G i).2.2.1 ≤ 99 * (i : Int)) ∧ (0 ≤ (zM hb V G i).2.2.2 ∧ (zM hb V G i).2.2.2 ≤ i)
  | 0 => by
    show (0 : Nat) ≤ 0 ∧ (-(99 * ((0 : Nat) : Int)) ≤ 0 ∧ (0 : Int) ≤ 99 * ((0 : Nat) : Int)) ∧ (-(99 * ((0 : Nat) : Int)) ≤ 0 ∧ (0 : Int) ≤ 99 * ((0 : Nat) : Int)) ∧ ((0 : Int) ≤ 0 ∧ (0 : Int) ≤ ((0 : Nat) : Int))
    omega
  | i + 1 => by
    obtain ⟨h1, h2, h3, h4⟩ := zM_bd hb V G hV i
    obtain ⟨E, hE⟩ : ∃ E, E = zEnd hb G i (zM hb V G i) := ⟨_, rfl⟩
    have hzP : ∀ M : zSt, 0 ≤ M.2.2.2 → 0 ≤ zP hb M ∧ zP hb M ≤ M.2.2.2 := fun M hM => by
      unfold zP
      split <;> omega
    have e1 : E.1.length ≤ 2 * i + 1 ∧ E.2.1 = (zM hb V G i).2.1 ∧ E.2.2.1 = (zM hb V G i).2.2.1 ∧ 0 ≤ E.2.2.2 ∧ E.2.2.2 ≤ (zM hb V G i).2.2.2 := by
      unfold zEnd at hE
      split at hE
      · rw [hE]
        have := hzP (zM hb V G i) h4.1
        refine ⟨?_, rfl, rfl, this.1, this.2⟩
        show ((zM hb V G i).1 ++ [(1, (zM hb V G i).2.2.1, 0, 0)]).length ≤ 2 * i + 1
        rw [List.length_append]
        show (zM hb V G i).1.length + 1 ≤ 2 * i + 1
        omega
      · rw [hE]
        exact ⟨by omega, rfl, rfl, h4.1, Int.le_refl _⟩
    obtain ⟨e1, e2, e3, e4, e5⟩ := e1
    have hM : zM hb V G (i + 1) = zRow hb (V i) (G i) (zIn (zNew G i) (V i) E) := by rw [hE]; rfl
    have hv := hV i
    have hp := hzP (zIn (zNew G i) (V i) E) (by show 0 ≤ E.2.2.2 + 1; omega)
    have hp2 : (zIn (zNew G i) (V i) E).2.2.2 = E.2.2.2 + 1 := rfl
    rw [hM]
    refine ⟨?_, ?_, ?_, ?_⟩
    · show (E.1 ++ [(0, V i, G i, zP hb (zIn (zNew G i) (V i) E))]).length ≤ 2 * (i + 1)
      rw [List.length_append]
      show E.1.length + 1 ≤ 2 * (i + 1)
      omega
    · show -(99 * ((i + 1 : Nat) : Int)) ≤ E.2.1 + V i ∧ E.2.1 + V i ≤ 99 * ((i + 1 : Nat) : Int)
      omega
    · show -(99 * ((i + 1 : Nat) : Int)) ≤ (if zNew G i = true then 0 else E.2.2.1) + V i ∧ (if zNew G i = true then 0 else E.2.2.1) + V i ≤ 99 * ((i + 1 : Nat) : Int)
      split <;> omega
    · show 0 ≤ zP hb (zIn (zNew G i) (V i) E) ∧ zP hb (zIn (zNew G i) (V i) E) ≤ ((i + 1 : Nat) : Int)
      omega
/-- the rows as they are taken -/
def wRw (n : Nat) (f : Nat → Int64) (o : Nat → Nat) (V G : Nat → Int) : Prop := (∀ i, i < n → o i < n) ∧ (∀ i, i < n → f (2 * o i) = yi2l (G i) ∧ 0 ≤ G i ∧ G i ≤ 3) ∧ (∀ i, i < n → f (2 * o i + 1) = yi2l (V i)) ∧ ∀ i, -99 ≤ V i ∧ V i ≤ 99
section YPAL
variable {q : yQ} {d : Nat} {js : List xO} {S : yS} {h n np : Nat} {f : Nat → Int64} {o : Nat → Nat} {V G : Nat → Int} {M : zSt}
theorem pTail (hh : 5 ≤ h ∧ h ≤ 10) (hn : n ≤ 23) (hw : wRw n f o V G) {p g : Nat} (hp : p < n) (hg : g ≤ 1) (hs : wS h n np f o p M S) (hM : (-10000 ≤ M.2.1 ∧ M.2.1 ≤ 10000) ∧ (-10000 ≤ M.2.2.1 ∧ M.2.2.1 ≤ 10000) ∧ (-10000 ≤ M.2.2.2 ∧ M.2.2.2 ≤ 10000)) (h60 : M.1.length ≤ 60) (x0 x6 : Int) (x7 : yV) : ∃ (S' : yS) (x6' : Int) (x7' : yV), YB q (Y q (d + 6) 126 0 [vr 131, vi p, vu] [] S js) (d + 7) 112 143 [vr 131, vi x0, vi n, vi 1, vi 10, vi p, vi g, vi x6, x7] [] = Y q (d + 7) 112 71 [vr 131, vi x0, vi n, vi 1, vi 10, vi ((p + 1 : Nat) : Int), vi g, vi x6', x7'] [] S' js ∧ wS h n np f o (p + 1) (zRow (h - 1) (V p) (G p) (zIn (decide (g = 0)) (V p) M)) S' ∧ wJ S S' := by
  obtain ⟨ho, hG, hV, hVb⟩ := hw
  have vb := hVb p
  obtain ⟨S1, a1, s1, j1, c0, c1⟩ := cTake (q := q) (d := d + 3) (js := js) hs (by omega) hp hn (ho p hp)
  rw [(hG p hp).1] at c0
  rw [hV p hp] at c1
  obtain ⟨S2, a2, s2, k2⟩ := cAnew (q := q) (d := d + 4) (js := js) s1 hg
  have d0' := k2.2.2.2.2 0 _ (by omega) c0
  have d1' := k2.2.2.2.2 1 _ (by omega) c1
  obtain ⟨S3, a3, s3, k3⟩ := cIn (q := q) (d := d + 3) (js := js) s2 (v := V p) (by omega) (by
    show (-100000 ≤ M.2.1 ∧ M.2.1 ≤ 100000) ∧ (-100000 ≤ (if g = 0 then 0 else M.2.2.1) ∧ (if g = 0 then 0 else M.2.2.1) ≤ 100000) ∧ (-100000 ≤ M.2.2.2 ∧ M.2.2.2 ≤ 100000)
    split <;> omega) d1'
  have ez : (M.1, M.2.1 + V p, (if g = 0 then 0 else M.2.2.1) + V p, M.2.2.2 + 1) = zIn (decide (g = 0)) (V p) M := by
    unfold zIn
    by_cases z : g = 0
    · rw [if_pos z, decide_eq_true z, if_pos rfl]
    · rw [if_neg z, decide_eq_false z, if_neg (by decide)]
  have s3 : wS h n np f o (p + 1) (M.1, M.2.1 + V p, (if g = 0 then 0 else M.2.2.1) + V p, M.2.2.2 + 1) S3 := s3
  rw [ez] at s3
  obtain ⟨S4, a4, s4, k4⟩ := dRow (q := q) (d := d) (js := js) hh s3 h60 (v := V p) (g := G p) (k3.2.2.2.2 0 _ (by omega) d0') (k3.2.2.2.2 1 _ (by omega) d1')
  have p3 := (wS_bound s3 hh).2
  have k8 := k108 (q := q) (d := d + 5) (js := js) p3 (b := 3) (i := 4) (by decide) rfl (by decide)
  have k9 := k109 (q := q) (d := d + 5) (js := js) p3 (b := 3) (i := 4) (e := 9) (by decide) rfl (by decide) rfl
  have k8 : Y q (d + 6) 108 0 [vr 91, vi 3] [] S3 js = yret q (vi 5) S3 js := k8
  have k9 : Y q (d + 6) 109 0 [vr 91, vi 3] [] S3 js = yret q (vi 9) S3 js := k9
  have ep1 : (p : Int) + 1 = ((p + 1 : Nat) : Int) := by omega
  have fin : ∀ (x6 : Int) (x7 : yV), YB q (Y q (d + 6) 128 0 [vr 131, vu] [] S2 js) (d + 7) 112 198 [vr 131, vi x0, vi n, vi 1, vi 10, vi p, vi g, vi x6, x7] [] = Y q (d + 7) 112 71 [vr 131, vi x0, vi n, vi 1, vi 10, vi ((p + 1 : Nat) : Int), vi g, vi x6, x7] [] S4 js := fun x6 x7 => by
    rw [a3, YB_retv, w112_201 (d := d + 6), k8, YB_ret, w112_210 (d := d + 6), k9, YB_ret, w112_218 (d := d + 6), a4, YB_retv, w112_222, ep1]
  have s1i : gI S2 34 = 0 ∧ pIn h n f S2 := wS_bound s2 hh
  have hgc : g = 0 ∨ g = 1 := by omega
  rcases hgc with rfl | rfl
  · have b8 := k108n (q := q) (d := d + 5) (js := js) s1i.2 (b := 5) (by decide) rfl
    have b9 := k109n (q := q) (d := d + 5) (js := js) s1i.2 (b := 5) (by decide) rfl
    have b8 : Y q (d + 6) 108 0 [vr 91, vi (5 + 0)] [] S2 js = yret q (vi 0) S2 js := b8
    have b9 : Y q (d + 6) 109 0 [vr 91, vi (5 + 0)] [] S2 js = yret q (vi 0) S2 js := b9
    have z0 : ((0 : Nat) : Int) = 0 := rfl
    refine ⟨S4, 0 + 1, vi (5 + 0), ?_, s4, wJ_tr j1 (wJ_tr k2.j (wJ_tr k3.j k4.j))⟩
    rw [z0] at a2 fin ⊢
    rw [a1, YB_retv, w112_146 (d := d + 6), a2, YB_retv, w112_152, w112_156 (d := d + 6), if_pos (by decide), b8, YB_ret, w112_178 (d := d + 6), b9, YB_ret, w112_187 (d := d + 6), d0 s1i.1, YB_retv, w112_191, w112_156 (d := d + 6), if_neg (by decide), fin]
  · have z1 : ((1 : Nat) : Int) = 1 := rfl
    refine ⟨S4, 1, x7, ?_, s4, wJ_tr j1 (wJ_tr k2.j (wJ_tr k3.j k4.j))⟩
    rw [z1] at a2 fin ⊢
    rw [a1, YB_retv, w112_146 (d := d + 6), a2, YB_retv, w112_152, w112_156 (d := d + 6), if_neg (by decide), fin]
theorem dEqB (hh : 5 ≤ h ∧ h ≤ 10) {k : Nat} (hs : wS h n np f o k M S) (h60 : M.1.length ≤ 60) : ∃ S' : yS, Y q (d + 6) 121 0 [vr 131, vi 10, vi 14, vi 0, vu, vu, vu, vu, vu, vu, vu] [] S js = yretv q S' js ∧ Y q (d + 6) 108 0 [vr 91, vi 10] [] S js = yret q (vi 10) S js ∧ Y q (d + 6) 109 0 [vr 91, vi 10] [] S js = yret q (vi 14) S js ∧ wS h n np f o k (zEq (h - 1) M) S' ∧ wK S S' := by
  obtain ⟨S', a1, a2, a3⟩ := dEq (q := q) (d := d) (js := js) hh hs h60
  have p := (wS_bound hs hh).2
  exact ⟨S', a1, k108 (q := q) (d := d + 5) (js := js) p (b := 10) (i := 9) (by decide) rfl (by decide), k109 (q := q) (d := d + 5) (js := js) p (b := 10) (i := 9) (e := 14) (by decide) rfl (by decide) rfl, a2, a3⟩
/-- a row -/
theorem pBody (hh : 5 ≤ h ∧ h ≤ 10) (hn : n ≤ 23) (hw : wRw n f o V G) {p : Nat} (hp : p < n) (hs : wS h n np f o p (zM (h - 1) V G p) S) (hC : gA S 35 0 = ((zC G p : Nat) : Int)) (x0 : Int) (x5 x6 x7 : yV) : ∃ (S' : yS) (x5' x6' x7' : yV), Y q (d + 7) 112 71 [vr 131, vi x0, vi n, vi 1, vi 10, vi p, x5, x6, x7] [] S js = Y q (d + 7) 112 71 [vr 131, vi x0, vi n, vi 1, vi 10, vi ((p + 1 : Nat) : Int), x5', x6', x7'] [] S' js ∧ wS h n np f o (p + 1) (zM (h - 1) V G (p + 1)) S' ∧ gA S' 35 0 = ((zC G (p + 1) : Nat) : Int) ∧ gI S' 30 = gI S 30 ∧ gI S' 31 = gI S 31 := by
  have z0 : yr 0 = 0 := rfl
  have ep := yrn (n := p) (by omega)
  have en := yrn (n := n) (by omega)
  obtain ⟨b1, b2, b3, b4⟩ := zM_bd (h - 1) V G hw.2.2.2 p
  obtain ⟨S1, a1, s1, i30, i31, o34, c35⟩ := cBreak (q := q) (d := d + 4) (js := js) hs hp hn hw.1 hw.2.1
  have hC1 : gA S1 35 0 = ((zC G (p + 1) : Nat) : Int) := by
    rw [c35, hC]
    show _ = ((zC G p + (if zNew G p then 1 else 0) : Nat) : Int)
    split <;> omega
  have g34 := (wS_bound hs hh).1
  have start : Y q (d + 7) 112 71 [vr 131, vi x0, vi n, vi 1, vi 10, vi p, x5, x6, x7] [] S js = Y q (d + 7) 112 96 [vr 131, vi x0, vi n, vi 1, vi 10, vi p, vi ((if zNew G p = true then 0 else 1 : Nat) : Int), vi 10, x7] [] S1 js := by
    rw [w112_71 (d := d + 6), ep, en, if_pos (by omega), g34, if_pos z0, a1, YB_ret, w112_90]
  have hMp : zM (h - 1) V G (p + 1) = zRow (h - 1) (V p) (G p) (zIn (zNew G p) (V p) (zEnd (h - 1) G p (zM (h - 1) V G p))) := rfl
  rw [start]
  by_cases zn : zNew G p = true
  · rw [if_pos zn]
    have z0' : ((0 : Nat) : Int) = 0 := rfl
    by_cases zp : 0 < p
    · obtain ⟨S2, e1, e8, e9, s2, k2⟩ := dEqB (q := q) (d := d) (js := js) hh s1 (by omega)
      have hE : zEnd (h - 1) G p (zM (h - 1) V G p) = zEq (h - 1) (zM (h - 1) V G p) := by
        unfold zEnd
        rw [if_pos ⟨zp, zn⟩]
      have hzp : 0 ≤ zP (h - 1) (zM (h - 1) V G p) ∧ zP (h - 1) (zM (h - 1) V G p) ≤ (zM (h - 1) V G p).2.2.2 := by
        unfold zP
        split <;> omega
      obtain ⟨S3, x6', x7', t1, t2, t3⟩ := pTail (q := q) (d := d) (js := js) hh hn hw hp (g := 0) (by omega) s2 (by
        show (-10000 ≤ (zM (h - 1) V G p).2.1 ∧ (zM (h - 1) V G p).2.1 ≤ 10000) ∧ (-10000 ≤ (zM (h - 1) V G p).2.2.1 ∧ (zM (h - 1) V G p).2.2.1 ≤ 10000) ∧ (-10000 ≤ zP (h - 1) (zM (h - 1) V G p) ∧ zP (h - 1) (zM (h - 1) V G p) ≤ 10000)
        omega) (by
        show ((zM (h - 1) V G p).1 ++ [(1, (zM (h - 1) V G p).2.2.1, 0, 0)]).length ≤ 60
        rw [List.length_append]
        show (zM (h - 1) V G p).1.length + 1 ≤ 60
        omega) x0 (10 + 1) x7
      rw [decide_eq_true rfl, ← hE] at t2
      have t2 : wS h n np f o (p + 1) (zRow (h - 1) (V p) (G p) (zIn true (V p) (zEnd (h - 1) G p (zM (h - 1) V G p)))) S3 := t2
      rw [← zn, ← hMp] at t2
      refine ⟨S3, vi ((0 : Nat) : Int), vi x6', x7', ?_, t2, ?_, ?_, ?_⟩
      · rw [z0'] at t1 ⊢
        rw [w112_96 (d := d + 6), ep, if_pos (by omega), if_neg (by decide), e8, YB_ret, w112_121 (d := d + 6), e9, YB_ret, w112_130 (d := d + 6), e1, YB_retv, w112_134, w112_96 (d := d + 6), ep, if_pos (by omega), if_pos (by decide), t1]
      · rw [t3.2.2.1, k2.2.2.1, hC1]
      · rw [t3.1, k2.1, i30]
      · rw [t3.2.1, k2.2.1, i31]
    · have hE : zEnd (h - 1) G p (zM (h - 1) V G p) = zM (h - 1) V G p := by
        unfold zEnd
        rw [if_neg (fun y => zp y.1)]
      obtain ⟨S3, x6', x7', t1, t2, t3⟩ := pTail (q := q) (d := d) (js := js) hh hn hw hp (g := 0) (by omega) s1 (by omega) (by omega) x0 10 x7
      rw [decide_eq_true rfl, ← hE] at t2
      have t2 : wS h n np f o (p + 1) (zRow (h - 1) (V p) (G p) (zIn true (V p) (zEnd (h - 1) G p (zM (h - 1) V G p)))) S3 := t2
      rw [← zn, ← hMp] at t2
      refine ⟨S3, vi ((0 : Nat) : Int), vi x6', x7', ?_, t2, ?_, ?_, ?_⟩
      · rw [z0'] at t1 ⊢
        rw [w112_96 (d := d + 6), ep, if_neg (by omega), t1]
      · rw [t3.2.2.1, hC1]
      · rw [t3.1, i30]
      · rw [t3.2.1, i31]
  · rw [if_neg zn]
    have zn2 : zNew G p = false := by
      cases e : zNew G p with
      | false => rfl
      | true => exact absurd e zn
    have zp : 0 < p := by
      rcases Nat.eq_zero_or_pos p with z | z
      · rw [z] at zn2
        cases zn2
      · exact z
    have hE : zEnd (h - 1) G p (zM (h - 1) V G p) = zM (h - 1) V G p := by
      unfold zEnd
      rw [if_neg (fun y => zn y.2)]
    obtain ⟨S3, x6', x7', t1, t2, t3⟩ := pTail (q := q) (d := d) (js := js) hh hn hw hp (g := 1) (by omega) s1 (by omega) (by omega) x0 10 x7
    rw [decide_eq_false (by decide), ← hE] at t2
    have t2 : wS h n np f o (p + 1) (zRow (h - 1) (V p) (G p) (zIn false (V p) (zEnd (h - 1) G p (zM (h - 1) V G p)))) S3 := t2
    rw [← zn2, ← hMp] at t2
    have z1' : ((1 : Nat) : Int) = 1 := rfl
    refine ⟨S3, vi ((1 : Nat) : Int), vi x6', x7', ?_, t2, ?_, ?_, ?_⟩
    · rw [z1'] at t1 ⊢
      rw [w112_96 (d := d + 6), ep, if_pos (by omega), if_pos (by decide), t1]
    · rw [t3.2.2.1, hC1]
    · rw [t3.1, i30]
    · rw [t3.2.1, i31]
theorem pRows (hh : 5 ≤ h ∧ h ≤ 10) (hn : n ≤ 23) (hw : wRw n f o V G) (hs : wS h n np f o 0 (zM (h - 1) V G 0) S) (hC : gA S 35 0 = 0) (x0 : Int) : ∀ p, p ≤ n → ∃ (S' : yS) (x5' x6' x7' : yV), Y q (d + 7) 112 71 [vr 131, vi x0, vi n, vi 1, vi 10, vi ((0 : Nat) : Int), vu, vu, vu] [] S js = Y q (d + 7) 112 71 [vr 131, vi x0, vi n, vi 1, vi 10, vi (p : Int), x5', x6', x7'] [] S' js ∧ wS h n np f o p (zM (h - 1) V G p) S' ∧ gA S' 35 0 = ((zC G p : Nat) : Int) ∧ gI S' 30 = gI S 30 ∧ gI S' 31 = gI S 31
  | 0, _ => ⟨S, vu, vu, vu, rfl, hs, hC, rfl, rfl⟩
  | p + 1, hp => by
    obtain ⟨S1, x5, x6, x7, e1, s1, c1, i1, j1⟩ := pRows hh hn hw hs hC x0 p (by omega)
    obtain ⟨S2, y5, y6, y7, e2, s2, c2, i2, j2⟩ := pBody (q := q) (d := d) (js := js) hh hn hw (by omega) s1 c1 x0 x5 x6 x7
    exact ⟨S2, y5, y6, y7, e1.trans e2, s2, c2, i2.trans i1, j2.trans j1⟩
end YPAL
end YPA
