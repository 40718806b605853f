/-! RUN: one of the two runs, on both sides -/
section YUO
noncomputable def yfinc (q : yQ) (x0 : Int) (S : yS) (js : List xO) : Option xRes := if yr x0 = 0 then yretv q S js else yretv q (sI S 31 (gI S 29)) js
section YUOL
variable {q : yQ} {d d' : Nat} {js ks : List xO} {S0 : yS} {t : Nat} {V : yPV} {a : Int} {n : Nat} {B C C0 S T S' T' : yS} {e e' : yEnv}
theorem r277c {x : Int} {o : xO} {z : Int64} {x1 : Int} (h : yEo x o) : Y q d 277 180 [vr 129, vj z, vu, vi x1] [vr (179 + ks.length)] T (ks ++ [o]) = yretv q (sI T 71 x) (ks ++ [o]) := by
  rcases h with ⟨rfl, rfl⟩ | ⟨rfl, rfl⟩
  · rw [w277_180, j277_183, w277_186]
    rfl
  · rw [w277_180, j277_183, w277_186]
    rfl
theorem yEo_c {x : Int} {o : xO} {z : Int64} {x1 : Int} {pc : Nat} (h : yEo x o) (ht : ∀ a b : Int32, YB q (ythr q (ystp a b) T ks) d 277 pc [vr 129, vj z, vu, vi x1] [] = Y q d 277 180 [vr 129, vj z, vu, vi x1] [vr (179 + ks.length)] T (ks ++ [ystp a b])) : YB q (ythr q o T ks) d 277 pc [vr 129, vj z, vu, vi x1] [] = yretv q (sI T 71 x) (ks ++ [o]) := by
  rw [← r277c h]
  rcases h with ⟨_, rfl⟩ | ⟨_, rfl⟩
  · exact ht _ _
  · exact ht _ _
/-- after an error a run comes to its end -/
theorem k112g (hx : yCx S0 t V a n B C) (hS : yFr yCw B S) (h34 : ¬ yr (gI S 34) = 0) {x0 x1 x2 x3 x4 : Int} {x5 x6 x7 : yV} : YB q (Y q (d + 17) 108 0 [vr 85, vi 4] [] S js) (d + 18) 112 278 [vr 125, vi x0, vi x1, vi x2, vi x3, vi x4, x5, x6, x7] [vr 125] = yfinc q x0 S js := by
  have kb := kband (q := q) (js := js) (S := S) (d := d + 16) (iPq_cw hx.1.2.1 hS) (yCx_g hx) (j := 4) (by omega)
  have kb1 : Y q (d + 17) 108 0 [vr 85, vi 4] [] S js = _ := kb.1
  have kb2 : Y q (d + 17) 109 0 [vr 85, vi 4] [] S js = _ := kb.2
  have kc := kband (q := q) (js := js) (S := S) (d := d + 16) (iPq_cw hx.1.2.1 hS) (yCx_g hx) (j := 2) (by omega)
  have kc1 : Y q (d + 17) 108 0 [vr 85, vi 2] [] S js = _ := kc.1
  have kc2 : Y q (d + 17) 109 0 [vr 85, vi 2] [] S js = _ := kc.2
  rw [kb1, YB_ret, w112_281, kb2, YB_ret, w112_289, k121_0x h34, YB_retv, w112_293, kc1, YB_ret, w112_302, kc2, YB_ret, w112_310, w118_0, k118_x h34, YB_retv, w112_317]
  rfl
theorem k112h (hx : yCx S0 t V a n B C) (hS : yFr yCw B S) (h34 : ¬ yr (gI S 34) = 0) {x0 x2 x3 : Int} : ∀ (c : Nat) (x5 x6 x7 : yV), c ≤ 3 → Y q (d + 18) 112 232 [vr 125, vi x0, vi n, vi x2, vi x3, vi ((11 - c : Nat) : Int), x5, x6, x7] [] S js = yfinc q x0 S js
  | 0, x5, x6, x7, hc => by
    have g := k112g (q := q) (d := d) (js := js) hx hS h34 (x0 := x0) (x1 := (n : Int)) (x2 := x2) (x3 := x3) (x4 := ((11 - 0 : Nat) : Int)) (x5 := x5) (x6 := x6) (x7 := x7)
    rw [w112_232]
    by_cases z : 0 < yr (n : Int)
    · rw [if_pos z, if_pos (show yr 10 < yr ((11 - 0 : Nat) : Int) by decide), g]
    · rw [if_neg z, g]
  | c + 1, x5, x6, x7, hc => by
    have g := k112g (q := q) (d := d) (js := js) hx hS h34 (x0 := x0) (x1 := (n : Int)) (x2 := x2) (x3 := x3) (x4 := ((11 - (c + 1) : Nat) : Int)) (x5 := x5) (x6 := x6) (x7 := x7)
    have ih := k112h hx hS h34 (x0 := x0) (x2 := x2) (x3 := x3) c x5 x6 x7 (by omega)
    have kb := kband (q := q) (js := js) (S := S) (d := d + 16) (iPq_cw hx.1.2.1 hS) (yCx_g hx) (j := 11 - (c + 1)) (by omega)
    have e1 : ((11 - (c + 1) : Nat) : Int) + 1 = ((11 - c : Nat) : Int) := by omega
    have e10 : yr 10 = 10 := rfl
    have e2 : yr ((11 - (c + 1) : Nat) : Int) = ((11 - (c + 1) : Nat) : Int) := yr_eq (by omega) (by omega)
    rw [w112_232]
    by_cases z : 0 < yr (n : Int)
    · rw [if_pos z, e10, e2, if_neg (by omega), kb.1, YB_ret, w112_253, kb.2, YB_ret, w112_262, k121_0x h34, YB_retv, w112_266, e1, ih]
    · rw [if_neg z, g]
theorem k112i (hx : yCx S0 t V a n B C) (hS : yFr yCw B S) (h34 : ¬ yr (gI S 34) = 0) {x0 x3 x4 : Int} {x5 x6 x7 : yV} (h3 : x3 = 10 - ((zG V).length : Int) + 1) : Y q (d + 18) 112 71 [vr 125, vi x0, vi n, vi ((zG V).length : Int), vi x3, vi x4, x5, x6, x7] [] S js = yfinc q x0 S js := by
  have l3 := (vTo_all hx).1.2.2
  have e3 : x3 = ((11 - (zG V).length : Nat) : Int) := by omega
  have h := k112h (q := q) (d := d) (js := js) hx hS h34 (x0 := x0) (x2 := ((zG V).length : Int)) (x3 := x3) (zG V).length x5 x6 x7 l3
  rw [← e3] at h
  rw [w112_71, if_neg h34, ite_self]
  exact h
theorem k112j (hx : yCx S0 t V a n B C) (hS : yFr yCw B S) (h34 : ¬ yr (gI S 34) = 0) {x0 x3 : Int} (h3 : x3 = 10 - ((zG V).length : Int) + 1) : Y q (d + 18) 112 47 [vr 125, vi x0, vi n, vi ((zG V).length : Int), vi x3, vu, vu, vu, vu] [] S js = yfinc q x0 S js := by
  have kb := kband (q := q) (js := js) (S := S) (d := d + 16) (iPq_cw hx.1.2.1 hS) (yCx_g hx) (j := 0) (by omega)
  have kb1 : Y q (d + 17) 108 0 [vr 85, vi 0] [] S js = _ := kb.1
  have kb2 : Y q (d + 17) 109 0 [vr 85, vi 0] [] S js = _ := kb.2
  rw [w112_47, kb1, YB_ret, w112_56, kb2, YB_ret, w112_64, k121_0x h34, YB_retv, w112_68]
  exact k112i hx hS h34 h3
/-- how both end -/
def yEn (q : yQ) (js ks : List xO) (S0 : yS) (t : Nat) (V : yPV) (a : Int) (n : Nat) (B C0 : yS) (x0 : Int) (cl rf : Option xRes) : Prop := ∃ (C S' T' : yS) (x : Int), yFr yRw C0 C ∧ yCx S0 t V a n B C ∧ gI C 69 ≤ n ∧ yEr V B C x S' T' ∧ cl = yfinc q x0 S' js ∧ ((x = 0 ∧ rf = yretv q T' ks) ∨ ∃ o, yEo x o ∧ rf = yretv q (sI T' 71 x) (ks ++ [o]))
theorem yRl_e0 (h : yRl V n B C e S T) : yEr V B C 0 S T := by
  obtain ⟨⟨h1, h2, _, ⟨h4, _⟩, _⟩, _⟩ := h
  exact ⟨h1, h2, e, h4⟩
/-- the last band, and the page's end -/
theorem yend1 (hF : yFr yRw C0 C) (hx : yCx S0 t V a n B C) (h69 : gI C 69 ≤ n) (h : yRl V n B C e S T) {x0 x1 x2 x3 x4 y1 : Int} {z : Int64} {x5 x6 x7 : yV} : yEn q js ks S0 t V a n B C0 x0 (YB q (Y q (d + 17) 108 0 [vr 85, vi 4] [] S js) (d + 18) 112 278 [vr 125, vi x0, vi x1, vi x2, vi x3, vi x4, x5, x6, x7] [vr 125]) (YB q (Y q (d' + 10) 290 0 [vr 129, vi 4, vu, vu, vu] [] T ks) (d' + 11) 277 170 [vr 129, vj z, vu, vi y1] []) := by
  have hg := yCx_g hx
  have hh := hx.2.2.2.1
  have kb := kband (q := q) (js := js) (S := S) (d := d + 16) (iPq_cw hx.1.2.1 h.1.1.1.1) hg (j := 4) (by omega)
  have kb1 : Y q (d + 17) 108 0 [vr 85, vi 4] [] S js = _ := kb.1
  have kb2 : Y q (d + 17) 109 0 [vr 85, vi 4] [] S js = _ := kb.2
  have D := ybody (q := q) (d := d) (d' := d' + 1) (js := js) (ks := ks) hx h (j := 4) (by omega) (by omega)
  rw [kb1, YB_ret, w112_281, kb2, YB_ret, w112_289]
  rcases D with ⟨e1, S1, T1, r1, _, c1, f1⟩ | ⟨x, o, S1, T1, hxo, r1, c1, f1⟩
  · have f1 : Y q (d' + 10) 290 0 [vr 129, vi 4, vu, vu, vu] [] T ks = yretv q T1 ks := f1
    have kc := kband (q := q) (js := js) (S := S1) (d := d + 16) (iPq_cw hx.1.2.1 r1.1.1.1.1) hg (j := 2) (by omega)
    have kc1 : Y q (d + 17) 108 0 [vr 85, vi 2] [] S1 js = _ := kc.1
    have kc2 : Y q (d + 17) 109 0 [vr 85, vi 2] [] S1 js = _ := kc.2
    obtain ⟨_, _, _, _, _, p37, _, p55, _, p61⟩ := yCx_p hx r1.1.1
    obtain ⟨line, hline⟩ : ∃ line : Nat, (line : Int) = (zPg V).2.2 - sht V 2 := ⟨((zPg V).2.2 - sht V 2 : Int).toNat, by omega⟩
    have e37 : gI S1 37 = (line : Int) + 1 := by rw [p37, hline]; omega
    have e55 : gI T1 55 - gI T1 61 = (line : Int) := by rw [p55, p61, hline]
    have kk : 0 ≤ yr 2 ∧ yr 2 < 11 := by decide
    have e2 : (yr 2).toNat = 2 := rfl
    have b := yband (q := q) (d := d + 14) (d' := d' + 3) (js := js) (ks := ks) hx r1 (j := 2) (line := line) (Or.inr rfl) (by omega)
    have b : yGo q ks V n B C (fun S' => gI S' 29 = gI S1 29 ∧ gI S' 38 = gI S1 38) (Y q (d + 17) 118 0 [vr 125, vi (cFb V 2 : Nat), vi (cEb V 2 : Nat), vi ((line : Int) + 1), vu, vu, vu, vu, vu, vu] [] S1 js) (Y q (d' + 9) 286 0 [vr 129, vi (gA T1 51 2), vi line, vu, vu] [] T1 ks) (fun S' c => c = yretv q S' js) (fun T' r => r = yretv q T' ks) (fun S' c => c = yretv q S' js) := b
    rw [c1, f1, YB_retv, YB_retv, w112_293, kc1, YB_ret, w112_302, kc2, YB_ret, w112_310, e37, w277_173, w294_0, if_pos kk, e2, e55]
    rcases b with ⟨e2, S2, T2, r2, _, c2, f2⟩ | ⟨x, o, S2, T2, hxo, r2, c2, f2⟩
    · refine ⟨C, S2, T2, 0, hF, hx, h69, yRl_e0 r2, ?_, Or.inl ⟨rfl, ?_⟩⟩
      · rw [c2, YB_retv, w112_317]
        rfl
      · rw [f2, YB_retv, w294_19, YB_retv, w277_177]
    · refine ⟨C, S2, T2, x, hF, hx, h69, r2, ?_, Or.inr ⟨o, hxo, ?_⟩⟩
      · rw [c2, YB_retv, w112_317]
        rfl
      · rw [f2, yEo_t hxo (fun a b => t294 q a b T2 ks _ _ _ _)]
        exact yEo_c hxo (fun a b => t277_174 q a b T2 ks _ _ _)
  · have f1 : Y q (d' + 10) 290 0 [vr 129, vi 4, vu, vu, vu] [] T ks = ythr q o T1 ks := f1
    have h34 : ¬ yr (gI S1 34) = 0 := by rw [r1.2.1]; exact yEo_0 hxo
    have kc := kband (q := q) (js := js) (S := S1) (d := d + 16) (iPq_cw hx.1.2.1 r1.1.1.1) hg (j := 2) (by omega)
    have kc1 : Y q (d + 17) 108 0 [vr 85, vi 2] [] S1 js = _ := kc.1
    have kc2 : Y q (d + 17) 109 0 [vr 85, vi 2] [] S1 js = _ := kc.2
    refine ⟨C, S1, T1, x, hF, hx, h69, r1, ?_, Or.inr ⟨o, hxo, ?_⟩⟩
    · rw [c1, YB_retv, w112_293, kc1, YB_ret, w112_302, kc2, YB_ret, w112_310, w118_0, k118_x h34, YB_retv, w112_317]
      rfl
    · rw [f1]
      exact yEo_c hxo (fun a b => t277_170 q a b T1 ks _ _ _)
theorem r199n (hx : yCx S0 t V a n B C) (hF : yFr yRw C T) : Y q d 199 0 [vr 129] [] T ks = yret q (vi n) T ks := by
  obtain ⟨_, ⟨hTB, hTC, i10, i11, a20, b7, hn⟩, _⟩ := hx
  obtain ⟨t1, t2, t3, t4, t5, t6, _⟩ := id hTC
  have e41 : gI T 41 = gI C 41 := hF.1 41 rfl
  have e42 : gI T 42 = gI C 42 := hF.1 42 rfl
  rw [r199 (by rw [e41]; omega) (by rw [e42]; omega), e41, e42, t1, t4, i10, i11, hn]
/-- the bands behind all groups -/
theorem yend2 (hF : yFr yRw C0 C) (hx : yCx S0 t V a n B C) (h69 : gI C 69 ≤ n) (hn40 : n ≤ 40) {x0 x2 x3 : Int} {z : Int64} : ∀ (c : Nat) (e : yEnv) (S T : yS) (x5 x6 x7 : yV), c ≤ 3 → yRl V n B C e S T → yEn q js ks S0 t V a n B C0 x0 (Y q (d + 18) 112 232 [vr 125, vi x0, vi n, vi x2, vi x3, vi ((11 - c : Nat) : Int), x5, x6, x7] [] S js) (Y q (d' + 11) 277 141 [vr 129, vj z, vu, vi ((c : Int) - 1)] [] T ks) := by
  have en : yr (n : Int) = n := yr_eq (by omega) (by omega)
  have e10 : yr 10 = 10 := rfl
  intro c
  induction c with
  | zero =>
    intro e S T x5 x6 x7 _ h
    have g := yend1 (q := q) (d := d) (d' := d') (js := js) (ks := ks) hF hx h69 h (x0 := x0) (x1 := (n : Int)) (x2 := x2) (x3 := x3) (x4 := ((11 - 0 : Nat) : Int)) (y1 := ((0 : Nat) : Int) - 1) (z := z) (x5 := x5) (x6 := x6) (x7 := x7)
    have cS : Y q (d + 18) 112 232 [vr 125, vi x0, vi n, vi x2, vi x3, vi ((11 - 0 : Nat) : Int), x5, x6, x7] [] S js = YB q (Y q (d + 17) 108 0 [vr 85, vi 4] [] S js) (d + 18) 112 278 [vr 125, vi x0, vi n, vi x2, vi x3, vi ((11 - 0 : Nat) : Int), x5, x6, x7] [vr 125] := by
      rw [w112_232, if_pos (show yr 10 < yr ((11 - 0 : Nat) : Int) by decide), ite_self]
    rw [cS, w277_141, if_pos (show yr (((0 : Nat) : Int) - 1) < 0 by decide)]
    exact g
  | succ c ih =>
    intro e S T x5 x6 x7 hc h
    have e1 : ((11 - (c + 1) : Nat) : Int) + 1 = ((11 - c : Nat) : Int) := by omega
    have e2 : yr ((11 - (c + 1) : Nat) : Int) = ((11 - (c + 1) : Nat) : Int) := yr_eq (by omega) (by omega)
    have e3 : yr (((c + 1 : Nat) : Int) - 1) = ((c + 1 : Nat) : Int) - 1 := yr_eq (by omega) (by omega)
    have e4 : (6 : Int) + 2 * (((c + 1 : Nat) : Int) - 1) = ((6 + 2 * c : Nat) : Int) := by omega
    have e5 : ((c + 1 : Nat) : Int) - 1 + -1 = (c : Int) - 1 := by omega
    have r199' := r199n (q := q) (d := d' + 10) (ks := ks) hx h.1.1.1.2
    have rS : Y q (d' + 11) 277 141 [vr 129, vj z, vu, vi (((c + 1 : Nat) : Int) - 1)] [] T ks = if 0 < (n : Int) then YB q (Y q (d' + 10) 290 0 [vr 129, vi ((6 + 2 * c : Nat) : Int), vu, vu, vu] [] T ks) (d' + 11) 277 159 [vr 129, vj z, vu, vi (((c + 1 : Nat) : Int) - 1)] [] else YB q (Y q (d' + 10) 290 0 [vr 129, vi 4, vu, vu, vu] [] T ks) (d' + 11) 277 170 [vr 129, vj z, vu, vi (((c + 1 : Nat) : Int) - 1)] [] := by
      rw [w277_141, e3, if_neg (by omega), r199', YB_ret, w277_149, en, e4]
    by_cases hz : 0 < n
    · have kb := kband (q := q) (js := js) (S := S) (d := d + 16) (iPq_cw hx.1.2.1 h.1.1.1.1) (yCx_g hx) (j := 11 - (c + 1)) (by omega)
      have erb : rbn (11 - (c + 1)) = 6 + 2 * c := by
        unfold rbn
        rw [if_neg (by omega), if_neg (by omega)]
        omega
      have b := ybody (q := q) (d := d) (d' := d' + 1) (js := js) (ks := ks) hx h (j := 11 - (c + 1)) (by omega) (by omega)
      rw [erb] at b
      have b : yGo q ks V n B C (fun _ => True) (Y q (d + 17) 121 0 [vr 125, vi (cFb V (11 - (c + 1)) : Nat), vi (cEb V (11 - (c + 1)) : Nat), vi 0, vu, vu, vu, vu, vu, vu, vu] [] S js) (Y q (d' + 10) 290 0 [vr 129, vi ((6 + 2 * c : Nat) : Int), vu, vu, vu] [] T ks) (fun S' c => c = yretv q S' js) (fun T' r => r = yretv q T' ks) (fun S' c => c = yretv q S' js) := b
      rw [w112_232, en, if_pos (by omega), e10, e2, if_neg (by omega), kb.1, YB_ret, w112_253, kb.2, YB_ret, w112_262, rS, if_pos (by omega)]
      rcases b with ⟨e1', S1, T1, r1, _, c1, f1⟩ | ⟨x, o, S1, T1, hxo, r1, c1, f1⟩
      · rw [c1, f1, YB_retv, YB_retv, w112_266, w277_162, e1, e5]
        exact ih e1' S1 T1 x5 x6 x7 (by omega) r1
      · have h34 : ¬ yr (gI S1 34) = 0 := by rw [r1.2.1]; exact yEo_0 hxo
        refine ⟨C, S1, T1, x, hF, hx, h69, r1, ?_, Or.inr ⟨o, hxo, ?_⟩⟩
        · rw [c1, YB_retv, w112_266, e1]
          exact k112h hx r1.1.1.1 h34 c x5 x6 x7 (by omega)
        · rw [f1]
          exact yEo_c hxo (fun a b => t277_159 q a b T1 ks _ _ _)
    · have g := yend1 (q := q) (d := d) (d' := d') (js := js) (ks := ks) hF hx h69 h (x0 := x0) (x1 := (n : Int)) (x2 := x2) (x3 := x3) (x4 := ((11 - (c + 1) : Nat) : Int)) (y1 := ((c + 1 : Nat) : Int) - 1) (z := z) (x5 := x5) (x6 := x6) (x7 := x7)
      rw [w112_232, en, if_neg (by omega), rS, if_neg (by omega)]
      exact g
/-- the rows, one after the other -/
theorem yrows {x0 x3 : Int} {z : Int64} (hn40 : n ≤ 40) (h3 : x3 = 10 - ((zG V).length : Int) + 1) : ∀ (m p : Nat) (C : yS) (e : yEnv) (S T : yS) (x5 x6 x7 : yV), p + m = n → yFr yRw C0 C → yCx S0 t V a n B C → gI C 69 = p → yRl V n B C e S T → yEn q js ks S0 t V a n B C0 x0 (Y q (d + 18) 112 71 [vr 125, vi x0, vi n, vi ((zG V).length : Int), vi x3, vi p, x5, x6, x7] [] S js) (Y q (d' + 11) 277 115 [vr 129, vj z, vu, vi p] [] T ks) := by
  have en : yr (n : Int) = n := yr_eq (by omega) (by omega)
  intro m
  induction m with
  | zero =>
    intro p C e S T x5 x6 x7 hp hF hx h69 h
    have l3 := (vTo_all hx).1.2.2
    have e3 : x3 = ((11 - (zG V).length : Nat) : Int) := by omega
    have epn : p = n := by omega
    have g := yend2 (q := q) (d := d) (d' := d') (js := js) (ks := ks) hF hx (by omega) hn40 (x0 := x0) (x2 := ((zG V).length : Int)) (x3 := x3) (z := z) (zG V).length e S T x5 x6 x7 l3 h
    rw [← e3] at g
    have r199' := r199n (q := q) (d := d' + 10) (ks := ks) hx h.1.1.1.2
    have g57 : gI T 57 = (zG V).length := (iPq_rw hx.1.2.2 h.1.1.1.2).2.2.2.1.1.2.2.1.1
    rw [w112_71, epn, if_neg (show ¬ yr (n : Int) < yr (n : Int) by omega), w277_115, r199', YB_ret, w277_120, if_neg (show ¬ yr (n : Int) < yr (n : Int) by omega), g57]
    exact g
  | succ m ih =>
    intro p C e S T x5 x6 x7 hp hF hx h69 h
    have ep : yr (p : Int) = p := yr_eq (by omega) (by omega)
    have e1 : (p : Int) + 1 = ((p + 1 : Nat) : Int) := by omega
    have r199' := r199n (q := q) (d := d' + 10) (ks := ks) hx h.1.1.1.2
    have rS : Y q (d' + 11) 277 115 [vr 129, vj z, vu, vi p] [] T ks = YB q (Y q (d' + 10) 297 0 [vr 129, vi p, vu, vu] [] T ks) (d' + 11) 277 125 [vr 129, vj z, vu, vi p] [] := by
      rw [w277_115, r199', YB_ret, w277_120, ep, en, if_pos (by omega)]
    rw [rS]
    rcases yrowp (q := q) (d := d) (d' := d') (js := js) (ks := ks) (x0 := x0) (x3 := x3) (z5 := x5) (z6 := x6) (z7 := x7) hx h (show p < n by omega) h69 h3 with ⟨e', S1, T1, z5, z6, z7, r1, c1, f1⟩ | ⟨x, o, C1, S1, T1, z5, z6, z7, hxo, hx1, ⟨hF1, h691⟩, r1, c1, f1⟩
    · rw [c1, f1, YB_retv, w277_128, e1]
      exact ih (p + 1) _ e' S1 T1 z5 z6 z7 (by omega) (yFr_tr hF (yFr_I rfl)) (yCx_69 hx) (gI_self _ _ _) r1
    · have h34 : ¬ yr (gI S1 34) = 0 := by rw [r1.2.1]; exact yEo_0 hxo
      refine ⟨C1, S1, T1, x, yFr_tr hF hF1, hx1, h691, r1, ?_, Or.inr ⟨o, hxo, ?_⟩⟩
      · rw [c1]
        exact k112i hx1 r1.1.1.1 h34 h3
      · rw [f1]
        exact yEo_c hxo (fun a b => t277_125 q a b T1 ks _ _ _)
theorem ypass (hl : (ytq (tb S0) (gI S0 12).toNat).length ≤ 2001) (hS : iPq S0 t V a S) (hT : iPq S0 t V a T) (hTS : iTb S) (hTT : iTb T) (e10 : gI T 10 = gI S 10) (e11 : gI T 11 = gI S 11) (e20 : gA T 20 = gA S 20) (e7 : gB T 7 = gB S 7) (hn : nrow (gI S 10) (gI S 11) = n) (hh : 0 ≤ sht V 1 ∧ 0 ≤ sht V 2 ∧ sht V 1 + sht V 2 < (zPg V).2.2) {x0 kn : Int} (hkn : kn = if yr x0 = 0 then gI S 29 else 0) : ∃ B C0 : yS, yFr yBc S B ∧ yFr yBr T C0 ∧ gI C0 71 = 0 ∧ (∀ v, cV S 27 v → cV B 27 v) ∧ yCx S0 t V a n B C0 ∧ yEn q js ks S0 t V a n B C0 x0 (Y q (d + 18) 112 0 [vr 125, vi x0, vu, vu, vu, vu, vu, vu, vu] [] S js) (Y q (d' + 11) 277 0 [vr 129, vj (yi2l kn), vu, vu] [] T ks) := by
  obtain ⟨t1, t2, t3, t4, t5, t6, t7, t8, t9⟩ := id hTS
  have n40 := nrow_le (c := gI S 10) (n := gI S 11) ⟨t2, t3⟩ ⟨t5, t6⟩
  obtain ⟨B, C, e, hx, r0, C69, B29, fB, fC, C71, h27, c0, f0⟩ := ybgn (q := q) (d := d + 13) (d' := d' + 6) (js := js) (ks := ks) hl hS hT hTS hTT e10 e11 e20 e7 hn hh kn
  refine ⟨B, C, fB, fC, C71, h27, hx, ?_⟩
  have c0 : Y q (d + 17) 113 0 [vr 125, vi kn, vu] [] S js = yretv q B js := c0
  have f0 : Y q (d' + 11) 277 0 [vr 129, vj (yi2l kn), vu, vu] [] T ks = Y q (d' + 11) 277 104 [vr 129, vj (yi2l kn), vu, vi 4] [] C ks := f0
  have g24 : gI B 24 = (zG V).length := hx.1.2.1.2.2.1.2.1.2.2.1.1
  have h34 : gI B 34 = 0 := r0.2.1
  have bg := ybeg (q := q) (d := d + 13) (d' := d' + 3) (js := js) (ks := ks) hx r0 (by omega)
  have bg : yGo q ks V n B C (fun S' => gI S' 38 = 0) (YB q (Y q (d + 16) 96 0 [vr 123, vu, vu, vu] [] B js) (d + 17) 117 70 [vr 125, vu] []) (Y q (d' + 10) 284 0 [vr 129, vu] [] C ks) (fun S' c => c = yretv q S' js) (fun T' r => r = yretv q T' ks) (fun S' c => c = yretv q S' js) := bg
  have c1 : Y q (d + 18) 112 0 [vr 125, vi x0, vu, vu, vu, vu, vu, vu, vu] [] S js = YB q (Y q (d + 17) 117 0 [vr 125, vu] [] B js) (d + 18) 112 44 [vr 125, vi x0, vi n, vi ((zG V).length : Int), vi (10 - ((zG V).length : Int) + 1), vu, vu, vu, vu] [] := by
    have e131 : Y q (d + 17) 131 0 [vr 76] [] B js = yret q (vi n) B js := by
      rw [c131 (by rw [fB.1 10 rfl]; omega) (by rw [fB.1 11 rfl]; omega), fB.1 10 rfl, fB.1 11 rfl, hn]
    rw [w112_0]
    by_cases z : yr x0 = 0
    · rw [if_pos z] at hkn
      rw [if_pos z, ← hkn, c0, YB_retv, w112_19, e131, YB_ret, w112_26, g24]
    · rw [if_neg z] at hkn
      rw [if_neg z, ← hkn, c0, YB_retv, w112_19, e131, YB_ret, w112_26, g24]
  have c2 : Y q (d + 17) 117 0 [vr 125, vu] [] B js = YB q (Y q (d + 16) 96 0 [vr 123, vu, vu, vu] [] B js) (d + 17) 117 70 [vr 125, vu] [] := by
    have z1 : ¬ 0 < yr 0 := by decide
    have z2 : yr 0 < yr 30 := by decide
    rw [w117_0, B29, if_neg z1, h34, if_pos yr_0, if_pos z2, if_pos yr_0]
  have h3 : 10 - ((zG V).length : Int) + 1 = 10 - ((zG V).length : Int) + 1 := rfl
  rw [c1, c2, f0, w277_104]
  rcases bg with ⟨e1, S1, T1, r1, _, c3, f3⟩ | ⟨x, o, S1, T1, hxo, r1, c3, f3⟩
  · have kb := kband (q := q) (js := js) (S := S1) (d := d + 16) (iPq_cw hx.1.2.1 r1.1.1.1.1) (yCx_g hx) (j := 0) (by omega)
    have kb1 : Y q (d + 17) 108 0 [vr 85, vi 0] [] S1 js = _ := kb.1
    have kb2 : Y q (d + 17) 109 0 [vr 85, vi 0] [] S1 js = _ := kb.2
    have D := ybody (q := q) (d := d) (d' := d' + 1) (js := js) (ks := ks) hx r1 (j := 0) (by omega) (by omega)
    rw [c3, f3, YB_retv, YB_retv, w112_47, kb1, YB_ret, w112_56, kb2, YB_ret, w112_64, w277_108]
    rcases D with ⟨e2, S2, T2, r2, _, c4, f4⟩ | ⟨x, o, S2, T2, hxo, r2, c4, f4⟩
    · have f4 : Y q (d' + 10) 290 0 [vr 129, vi 0, vu, vu, vu] [] T1 ks = yretv q T2 ks := f4
      rw [c4, f4, YB_retv, YB_retv, w112_68, w277_113]
      exact yrows (by omega) h3 n 0 C e2 S2 T2 vu vu vu (by omega) (yFr_rf _ _) hx C69 r2
    · have f4 : Y q (d' + 10) 290 0 [vr 129, vi 0, vu, vu, vu] [] T1 ks = ythr q o T2 ks := f4
      have h34' : ¬ yr (gI S2 34) = 0 := by rw [r2.2.1]; exact yEo_0 hxo
      refine ⟨C, S2, T2, x, yFr_rf _ _, hx, by omega, r2, ?_, Or.inr ⟨o, hxo, ?_⟩⟩
      · rw [c4, YB_retv, w112_68]
        exact k112i hx r2.1.1.1 h34' h3
      · rw [f4]
        exact yEo_c hxo (fun a b => t277_110 q a b T2 ks _ _ _)
  · have h34' : ¬ yr (gI S1 34) = 0 := by rw [r1.2.1]; exact yEo_0 hxo
    refine ⟨C, S1, T1, x, yFr_rf _ _, hx, by omega, r1, ?_, Or.inr ⟨o, hxo, ?_⟩⟩
    · rw [c3, YB_retv]
      exact k112j hx r1.1.1.1 h34' h3
    · rw [f3]
      exact yEo_c hxo (fun a b => t277_105 q a b T1 ks _ _ _)
end YUOL
end YUO
