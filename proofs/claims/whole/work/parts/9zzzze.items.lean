/-! RUN: items, on both sides -/
section YUF
def yDo0 (q : yQ) (js ks : List xO) (V : yPV) (n : Nat) (B C : yS) (D D' dp : Nat) (sub : Nat → Nat → Nat → Nat → Prop) : Prop := ∀ i j a0 b, sub i j a0 b → j ≤ 2000 → ∀ (e : yEnv) (S T : yS) (y0 : Int) (w2 w3 : yV), yRl V n B C e S T → yGo q ks V n B C (fun _ => True) (Y q D 121 0 [vr 125, vi i, vi j, vi dp, vu, vu, vu, vu, vu, vu, vu] [] S js) (Y q D' 290 7 [vr 129, vi y0, vi a0, w2, w3] [] T ks) (fun S' c => c = yretv q S' js) (fun T' r => ∃ w2' w3', r = Y q D' 290 7 [vr 129, vi y0, vi b, w2', w3'] [] T' ks) (fun S' c => c = yretv q S' js)
section YUFL
variable {q : yQ} {d d' : Nat} {js ks : List xO} {S0 : yS} {t : Nat} {V : yPV} {a : Int} {n : Nat} {B C S T : yS} {e : yEnv}
/-- the reference's next step: by its kind -/
theorem q290_h {y0 : Int} {p k : Nat} {w2 w3 : yV} (hp : p < 4000) (hk : gA S 52 p = (k : Int)) (h11 : k ≠ 11) (hk2 : k < 11) : Y q (d + 1) 290 7 [vr 129, vi y0, vi p, w2, w3] [] S js = if k = 0 then YB q (Y q d 291 0 [vr 129] [] S js) (d + 1) 290 93 [vr 129, vi y0, vi p, vi ((p + 1 : Nat) : Int), w3] [] else if k = 4 then YB q (Y q d 291 0 [vr 129] [] S js) (d + 1) 290 149 [vr 129, vi y0, vi p, vi ((p + 1 : Nat) : Int), w3] [vi (gA S 53 p), vi (gI S 72), vr 129] else if k = 5 then YB q (Y q d 291 0 [vr 129] [] S js) (d + 1) 290 163 [vr 129, vi y0, vi p, vi ((p + 1 : Nat) : Int), w3] [] else if k = 6 then (if 0 < yr (gI S 72) then YB q (Y q d 293 0 [vr 129] [] S js) (d + 1) 290 197 [vr 129, vi y0, vi p, vi ((p + 1 : Nat) : Int), w3] [] else Y q (d + 1) 290 7 [vr 129, vi y0, vi ((p + 1 : Nat) : Int), vi ((p + 1 : Nat) : Int), w3] [] S js) else if k = 7 then YB q (Y q d 295 0 [vr 129, vi ((p + 1 : Nat) : Int), vi (gA S 53 p), vu, vu, vu, vu] [] S js) (d + 1) 290 213 [vr 129, vi y0, vi p, vi ((p + 1 : Nat) : Int), w3] [] else if k = 9 ∨ k = 10 then YB q (Y q d 296 0 [vr 129, vi p] [] S js) (d + 1) 290 252 [vr 129, vi y0, vi p, vi ((p + 1 : Nat) : Int), w3] [] else Y q (d + 1) 290 7 [vr 129, vi y0, vi ((p + 1 : Nat) : Int), vi ((p + 1 : Nat) : Int), w3] [] S js := by
  have ep : yr (p : Int) = p := yr_eq (by omega) (by omega)
  have ek : yr (k : Int) = k := yr_eq (by omega) (by omega)
  have em : yr (-1) = -1 := rfl
  have e11 : yr 11 = 11 := rfl
  have kk : 0 ≤ (p : Int) ∧ (p : Int) < 4000 := by omega
  have e1 : (p : Int) + 1 = ((p + 1 : Nat) : Int) := by omega
  rw [w290_7, ep, em, if_neg (show ¬ (p : Int) = -1 by omega), if_pos kk, Int.toNat_natCast, hk, ek, e11, if_neg (show ¬ (k : Int) = 11 by omega), if_pos kk, e1]
  have hc : k = 0 ∨ k = 1 ∨ k = 2 ∨ k = 3 ∨ k = 4 ∨ k = 5 ∨ k = 6 ∨ k = 7 ∨ k = 8 ∨ k = 9 ∨ k = 10 := by omega
  rcases hc with rfl | rfl | rfl | rfl | rfl | rfl | rfl | rfl | rfl | rfl | rfl
  · rfl
  · rfl
  · rfl
  · rfl
  · rw [if_pos kk]
    rfl
  · rfl
  · rfl
  · rw [if_pos kk, if_pos kk]
    rfl
  · rfl
  · rfl
  · rfl
theorem ydol (hx : yCx S0 t V a n B C) {sub : Nat → Nat → Nat → Nat → Prop} (hs : ∀ i j a b, sub i j a b → i ≤ j ∧ a ≤ b) {j b dp : Nat} (hj : j ≤ 2000) (hdp : dp ≤ 12) (Hl : yLs0 q js ks V n B C (d + 4) (d' + 8) (dp + 1) sub) (Hd : yDo0 q js ks V n B C (d + 4) (d' + 9) (dp + 1) sub) {x0 y0 : Int} : ∀ (f i a0 m : Nat) (e : yEnv) (S T : yS) (z5 z6 z7 z8 z9 w2 w3 : yV), yIl (yIw (zI V) (zP V) (sGd (sG0 S0) V) true sub) f i j a0 b → m + f = 2000 → yRl V n B C e S T → yGo q ks V n B C (fun _ => True) (Y q (d + 5) 121 6 [vr 125, vi x0, vi j, vi dp, vi i, vi m, z5, z6, z7, z8, z9] [] S js) (Y q (d' + 9) 290 7 [vr 129, vi y0, vi a0, w2, w3] [] T ks) (fun S' c => c = yretv q S' js) (fun T' r => ∃ w2' w3', r = Y q (d' + 9) 290 7 [vr 129, vi y0, vi b, w2', w3'] [] T' ks) (fun S' c => c = yretv q S' js) := by
  intro f
  induction f with
  | zero =>
    intro i a0 m e S T z5 z6 z7 z8 z9 w2 w3 hl _ h
    obtain ⟨rfl, rfl⟩ := hl
    exact Or.inl ⟨e, S, T, h, trivial, k121_to, w2, w3, rfl⟩
  | succ f ih =>
    intro i a0 m e S T z5 z6 z7 z8 z9 w2 w3 hl hm h
    rcases hl with ⟨rfl, rfl⟩ | ⟨en, a1, l1, l2, l3⟩
    · exact Or.inl ⟨e, S, T, h, trivial, k121_to, w2, w3, rfl⟩
    · have h34 : gI S 34 = 0 := h.1.2.1
      have le1 := yIl_le (fun i e a a' h => (yIw_le hs i e a a' h).2) f en j a1 b l3
      have le2 := yIw_le hs _ _ _ _ l2
      obtain ⟨u, v, u1, u2, u3, u4, u5⟩ := id l2
      obtain ⟨⟨i1, i2, i3⟩, j1, j2, j3, j4⟩ := cit (iPq_cw hx.1.2.1 h.1.1.1.1) u1
      obtain ⟨v1, v2, v3, v4, _⟩ := rit (iPq_rw hx.1.2.2 h.1.1.1.2) hx.1.1 u2
      have m1 : (m : Int) + 1 = ((m + 1 : Nat) : Int) := by omega
      have i11 : (i : Int) + 1 = ((i + 1 : Nat) : Int) := by omega
      have d11 : (dp : Int) + 1 = ((dp + 1 : Nat) : Int) := by omega
      have ea : yr (a0 : Int) = a0 := yr_eq (by omega) (by omega)
      have ka : 0 ≤ (a0 : Int) ∧ (a0 : Int) < 4000 := by omega
      have hbo := hx.2.2.2.1
      obtain ⟨⟨_, h40⟩, _⟩ := yCx_p hx h.1.1
      have nx : ∀ (e1 : yEnv) (S1 T1 : yS) (x5 x6 x7 x8 x9 w2 w3 : yV), yRl V n B C e1 S1 T1 → yGo q ks V n B C (fun _ => True) (Y q (d + 5) 121 6 [vr 125, vi x0, vi j, vi dp, vi en, vi ((m + 1 : Nat) : Int), x5, x6, x7, x8, x9] [] S1 js) (Y q (d' + 9) 290 7 [vr 129, vi y0, vi a1, w2, w3] [] T1 ks) (fun S' c => c = yretv q S' js) (fun T' r => ∃ w2' w3', r = Y q (d' + 9) 290 7 [vr 129, vi y0, vi b, w2', w3'] [] T' ks) (fun S' c => c = yretv q S' js) := fun e1 S1 T1 x5 x6 x7 x8 x9 w2 w3 hr => ih en a1 (m + 1) e1 S1 T1 x5 x6 x7 x8 x9 w2 w3 l3 (by omega) hr
      -- what is left of a page
      have lft : ∀ (e1 : yEnv) (S1 T1 : yS), yRl V n B C e1 S1 T1 → gI S1 36 = (zPg V).2.2 - sht V 1 - sht V 2 ∧ 0 ≤ gI S1 38 ∧ gI S1 38 ≤ gI S1 36 ∧ gI S1 35 = sht V 1 ∧ gI T1 60 = sht V 1 ∧ gI T1 72 = gI S1 38 := fun e1 S1 T1 hr => by
        obtain ⟨_, _, _, p35, p36, _, _, _, p60, _⟩ := yCx_p hx hr.1.1
        have hu := hr.2.1
        have e36 := hr.1.1.1.1.1 36 rfl
        exact ⟨p36, hu.2.1, by rw [e36]; exact hu.2.2, p35, p60, hu.1⟩
      obtain ⟨q36, q38, q38', q35, q60, q72⟩ := lft e S T h
      rcases u5 with ⟨k1, k2, k3, k4, k5, k6, k7⟩ | ⟨k1, k2, k3, k4, k5, k6, k7⟩ | ⟨k1, k2, k3, k4, k5, k6, k7⟩ | ⟨k1, k2, k6, k7⟩ | ⟨k1, k2, z, k3, k4, k5, k6⟩ | ⟨k1, k2, k3, k4, g, z, k5, k6, k7, k8, k9, k10⟩
      · -- a line
        have c := k121_it (q := q) (d := d + 4) (js := js) (x0 := x0) (m := m) (dp := dp) (x5 := z5) (x6 := z6) (x7 := z7) (x8 := z8) (x9 := z9) (to := j) (kd := 22) h34 (by omega) hdp (show i < j by omega) hj (by rw [j1, k1]) (by decide) (by decide)
        have cb := k121_b (q := q) (d := d + 3) (js := js) (S := S) (x0 := x0) (x1 := (j : Int)) (x2 := (dp : Int)) (x3 := (i : Int)) (x4 := (m : Int)) (x5 := gA S 29 i) (x6 := gA S 27 i) (l := gA S 27 i) (kd := 22) (x9 := z9) (Or.inl rfl)
        have r := q290_h (q := q) (d := d' + 8) (js := ks) (y0 := y0) (w2 := w2) (w3 := w3) (k := 0) v1 (by rw [v2, k2]) (by decide) (by decide)
        rw [if_pos (show 0 = 0 from rfl), r291 (d := d' + 7) hx h, YB_ret, w290_96] at r
        rw [c, cb, r, ywb_22, j4, u3, j2]
        -- a line is printed, from a state where a line is left
        have pr : ∀ (e1 : yEnv) (S1 T1 : yS), yRl V n B C e1 S1 T1 → gI S1 38 < gI S1 36 → yGo q ks V n B C (fun _ => True) (Y q (d + 5) 121 127 [vr 125, vi x0, vi j, vi dp, vi i, vi m, vi en, vi (u.2.1 : Nat), vr 22, vi (u.2.1 : Nat), z9] [vi (yKo 22), vr 68] S1 js) (YB q (Y q (d' + 8) 287 0 [vr 129, vi a0, vi (gI T1 60 + gI T1 72), vu, vu] [] T1 ks) (d' + 9) 290 114 [vr 129, vi y0, vi a0, vi ((a0 + 1 : Nat) : Int), w3] []) (fun S' c => c = yretv q S' js) (fun T' r => ∃ w2' w3', r = Y q (d' + 9) 290 7 [vr 129, vi y0, vi b, w2', w3'] [] T' ks) (fun S' c => c = yretv q S' js) := fun e1 S1 T1 hr hlt => by
          obtain ⟨s36, s38, s38', s35, s60, s72⟩ := lft e1 S1 T1 hr
          obtain ⟨line, hline⟩ : ∃ line : Nat, (line : Int) = sht V 1 + gI S1 38 := ⟨(sht V 1 + gI S1 38).toNat, by omega⟩
          have p := ypl1 (q := q) (d := d + 1) (d' := d' + 3) (js := js) (ks := ks) hx hr u1 k1 (line := line) (by omega) (by omega) l2
          have p : yGo q ks V n B C (fun S' => gI S' 29 = gI S1 29 ∧ gI S' 38 = gI S1 38) (Y q (d + 4) 118 0 [vr 125, vi i, vi en, vi ((line : Int) + 1), vu, vu, vu, vu, vu, vu] [] S1 js) (Y q (d' + 8) 287 0 [vr 129, vi a0, vi line, vu, vu] [] T1 ks) (fun S' c => c = yretv q S' js) (fun T' r => r = yretv q T' ks) (fun S' c => c = yretv q S' js) := p
          rw [w121_127, if_pos (show 0 ≤ yr (yKo 22) ∧ yr (yKo 22) < 67 by decide), if_pos (show yr ((xLf xSm (yr (yKo 22)).toNat).toInt) = 18 by decide), s35, s60, s72, ← hline]
          rcases p with ⟨e2, S2, T2, r2, ⟨_, k38⟩, c2, f2⟩ | ⟨x, o, S2, T2, hxo, r2, c2, f2⟩
          · obtain ⟨_, y2, y3, _⟩ := rit (iPq_rw hx.1.2.2 r2.1.1.1.2) hx.1.1 u2
            have rr := yRl_us (x := gI S2 38 + 1) r2 (by
              have := (r2.1.1.1.1.1 36 rfl)
              have := (hr.1.1.1.1.1 36 rfl)
              omega)
            have e72 : gI T2 72 = gI S2 38 := r2.2.1.1
            rw [c2, f2, YB_retv, YB_retv, w121_183, w290_117, ea, if_pos ka, Int.toNat_natCast, y3, k3, e72, m1]
            exact nx e2 _ _ _ _ _ _ _ _ _ rr
          · have h34' : ¬ yr (gI S2 34) = 0 := by rw [r2.2.1]; exact yEo_0 hxo
            refine Or.inr ⟨x, o, _, T2, hxo, yEr_us (y := gI S2 38 + 1) r2, ?_, ?_⟩
            · show _ = _
              rw [c2, YB_retv, w121_183]
              exact k121_x h34'
            · rw [f2]
              exact yEo_t hxo (fun a b => t290 q a b T2 ks _ _ _ _)
        by_cases zb : yr (gI S 36 - gI S 38) = 0
        · have tn := yturn (q := q) (d := d) (d' := d') (js := js) (ks := ks) hx h
          rw [decide_eq_true zb, if_pos rfl, if_pos zb]
          rcases tn with ⟨e1, S1, T1, r1, kz, c1, f1⟩ | ⟨x, o, S1, T1, hxo, r1, c1, f1⟩
          · obtain ⟨s36, _, _, _⟩ := lft e1 S1 T1 r1
            rw [c1, f1, YB_retv, YB_retv, w290_103, k121_119 (by decide)]
            exact pr e1 S1 T1 r1 (by omega)
          · have h34' : ¬ yr (gI S1 34) = 0 := by rw [r1.2.1]; exact yEo_0 hxo
            obtain ⟨S2, s1, s2⟩ := k121_e (q := q) (d := d + 3) (js := js) (S := S1) (x0 := x0) (x1 := (j : Int)) (x2 := (dp : Int)) (x3 := (i : Int)) (x4 := (m : Int)) (x5 := (en : Int)) (x6 := (u.2.1 : Nat)) (l := (u.2.1 : Nat)) (x9 := z9) (kd := 22) (Or.inl rfl) h34'
            refine Or.inr ⟨x, o, S2, T1, hxo, yEr_e r1 s1, ?_, ?_⟩
            · show _ = _
              rw [c1, YB_retv, k121_119 (by decide)]
              exact s2
            · rw [f1]
              exact yEo_t hxo (fun a b => t290 q a b T1 ks _ _ _ _)
        · rw [decide_eq_false zb, if_neg (fun v => Bool.noConfusion v), if_neg zb]
          refine pr e S T h ?_
          have : ¬ gI S 36 - gI S 38 = 0 := fun w => zb (by rw [w]; rfl)
          omega
      · -- empty lines
        have c := k121_it (q := q) (d := d + 4) (js := js) (x0 := x0) (m := m) (dp := dp) (x5 := z5) (x6 := z6) (x7 := z7) (x8 := z8) (x9 := z9) (to := j) (kd := 24) h34 (by omega) hdp (show i < j by omega) hj (by rw [j1, k1]) (by decide) (by decide)
        have cb := k121_b (q := q) (d := d + 3) (js := js) (S := S) (x0 := x0) (x1 := (j : Int)) (x2 := (dp : Int)) (x3 := (i : Int)) (x4 := (m : Int)) (x5 := gA S 29 i) (x6 := gA S 27 i) (l := gA S 27 i) (kd := 24) (x9 := z9) (Or.inr (Or.inl rfl))
        have r := q290_h (q := q) (d := d' + 8) (js := ks) (y0 := y0) (w2 := w2) (w3 := w3) (k := 4) v1 (by rw [v2, k2]) (by decide) (by decide)
        rw [if_neg (show ¬ 4 = 0 by decide), if_pos (show 4 = 4 from rfl), r291 (d := d' + 7) hx h, YB_ret, w290_152, ← k7, v3, k3, q72] at r
        have nb : ywb 24 (gA S 27 i) S = false := rfl
        have mb := ymin_b (x := ((u.2.1 : Nat) : Int)) (y := gI S 36 - gI S 38) (by omega) (by omega)
        have rr := yRl_us (x := gI S 38 + ymin ((u.2.1 : Nat) : Int) (gI S 36 - gI S 38)) h (by
          have := (h.1.1.1.1.1 36 rfl)
          omega)
        rw [c, cb, r, nb, if_neg (fun v => Bool.noConfusion v), j4, u3, j2, w121_127, if_pos (show 0 ≤ yr (yKo 24) ∧ yr (yKo 24) < 67 by decide), if_neg (show ¬ yr ((xLf xSm (yr (yKo 24)).toNat).toInt) = 18 by decide), if_pos (show yr ((xLf xSm (yr (yKo 24)).toNat).toInt) = 19 by decide), m1]
        exact nx e _ _ _ _ _ _ _ _ _ rr
      · -- lines that are needed
        have c := k121_it (q := q) (d := d + 4) (js := js) (x0 := x0) (m := m) (dp := dp) (x5 := z5) (x6 := z6) (x7 := z7) (x8 := z8) (x9 := z9) (to := j) (kd := 25) h34 (by omega) hdp (show i < j by omega) hj (by rw [j1, k1]) (by decide) (by decide)
        have cb := k121_b (q := q) (d := d + 3) (js := js) (S := S) (x0 := x0) (x1 := (j : Int)) (x2 := (dp : Int)) (x3 := (i : Int)) (x4 := (m : Int)) (x5 := gA S 29 i) (x6 := gA S 27 i) (l := gA S 27 i) (kd := 25) (x9 := z9) (Or.inr (Or.inr (Or.inl rfl)))
        have r := q290_h (q := q) (d := d' + 8) (js := ks) (y0 := y0) (w2 := w2) (w3 := w3) (k := 5) v1 (by rw [v2, k2]) (by decide) (by decide)
        rw [if_neg (show ¬ 5 = 0 by decide), if_neg (show ¬ 5 = 4 by decide), if_pos (show 5 = 5 from rfl), r291 (d := d' + 7) hx h, YB_ret, w290_166, ea, if_pos ka, Int.toNat_natCast, v3, k3, q72, ← k7] at r
        rw [c, cb, r, ywb_25, j4, u3, j2]
        have sw : ∀ S1 : yS, Y q (d + 5) 121 127 [vr 125, vi x0, vi j, vi dp, vi i, vi m, vi en, vi (u.2.1 : Nat), vr 25, vi (u.2.1 : Nat), z9] [vi (yKo 25), vr 68] S1 js = Y q (d + 5) 121 6 [vr 125, vi x0, vi j, vi dp, vi en, vi ((m + 1 : Nat) : Int), vi en, vi (u.2.1 : Nat), vr 25, vi (u.2.1 : Nat), z9] [] S1 js := fun S1 => by
          rw [w121_127, if_pos (show 0 ≤ yr (yKo 25) ∧ yr (yKo 25) < 67 by decide), if_neg (show ¬ yr ((xLf xSm (yr (yKo 25)).toNat).toInt) = 18 by decide), if_neg (show ¬ yr ((xLf xSm (yr (yKo 25)).toNat).toInt) = 19 by decide), if_pos (show yr ((xLf xSm (yr (yKo 25)).toNat).toInt) = 20 by decide), m1]
        by_cases z1 : 0 < yr (gI S 38)
        · by_cases z2 : yr (gI S 36 - gI S 38) < yr ((u.2.1 : Nat) : Int)
          · have tn := yturn (q := q) (d := d) (d' := d') (js := js) (ks := ks) hx h
            rw [decide_eq_true ⟨z1, z2⟩, if_pos rfl, if_pos z2, if_pos z1]
            rcases tn with ⟨e1, S1, T1, r1, kz, c1, f1⟩ | ⟨x, o, S1, T1, hxo, r1, c1, f1⟩
            · rw [c1, f1, YB_retv, YB_retv, w290_186, k121_119 (by decide), sw]
              exact nx e1 _ _ _ _ _ _ _ _ _ r1
            · have h34' : ¬ yr (gI S1 34) = 0 := by rw [r1.2.1]; exact yEo_0 hxo
              refine Or.inr ⟨x, o, S1, T1, hxo, r1, ?_, ?_⟩
              · show _ = _
                rw [c1, YB_retv, k121_119 (by decide), sw]
                exact k121_x h34'
              · rw [f1]
                exact yEo_t hxo (fun a b => t290 q a b T1 ks _ _ _ _)
          · rw [decide_eq_false (fun w => z2 w.2), if_neg (fun v => Bool.noConfusion v), if_neg z2, sw]
            exact nx e _ _ _ _ _ _ _ _ _ h
        · rw [decide_eq_false (fun w => z1 w.1), if_neg (fun v => Bool.noConfusion v), if_neg z1, ite_self, sw]
          exact nx e _ _ _ _ _ _ _ _ _ h
      · -- a new page
        have c := k121_it (q := q) (d := d + 4) (js := js) (x0 := x0) (m := m) (dp := dp) (x5 := z5) (x6 := z6) (x7 := z7) (x8 := z8) (x9 := z9) (to := j) (kd := 26) h34 (by omega) hdp (show i < j by omega) hj (by rw [j1, k1]) (by decide) (by decide)
        have cb := k121_b (q := q) (d := d + 3) (js := js) (S := S) (x0 := x0) (x1 := (j : Int)) (x2 := (dp : Int)) (x3 := (i : Int)) (x4 := (m : Int)) (x5 := gA S 29 i) (x6 := gA S 27 i) (l := gA S 27 i) (kd := 26) (x9 := z9) (Or.inr (Or.inr (Or.inr (Or.inl rfl))))
        have r := q290_h (q := q) (d := d' + 8) (js := ks) (y0 := y0) (w2 := w2) (w3 := w3) (k := 6) v1 (by rw [v2, k2]) (by decide) (by decide)
        rw [if_neg (show ¬ 6 = 0 by decide), if_neg (show ¬ 6 = 4 by decide), if_neg (show ¬ 6 = 5 by decide), if_pos (show 6 = 6 from rfl), q72, ← k7] at r
        rw [c, cb, r, ywb_26, j4, u3]
        have sw : ∀ S1 : yS, Y q (d + 5) 121 127 [vr 125, vi x0, vi j, vi dp, vi i, vi m, vi en, vi (gA S 27 i), vr 26, vi (gA S 27 i), z9] [vi (yKo 26), vr 68] S1 js = Y q (d + 5) 121 6 [vr 125, vi x0, vi j, vi dp, vi en, vi ((m + 1 : Nat) : Int), vi en, vi (gA S 27 i), vr 26, vi (gA S 27 i), z9] [] S1 js := fun S1 => by
          rw [w121_127, if_pos (show 0 ≤ yr (yKo 26) ∧ yr (yKo 26) < 67 by decide), if_neg (show ¬ yr ((xLf xSm (yr (yKo 26)).toNat).toInt) = 18 by decide), if_neg (show ¬ yr ((xLf xSm (yr (yKo 26)).toNat).toInt) = 19 by decide), if_neg (show ¬ yr ((xLf xSm (yr (yKo 26)).toNat).toInt) = 20 by decide), if_neg (show ¬ yr ((xLf xSm (yr (yKo 26)).toNat).toInt) = 21 by decide), if_neg (show ¬ yr ((xLf xSm (yr (yKo 26)).toNat).toInt) = 22 by decide), m1]
        by_cases z1 : 0 < yr (gI S 38)
        · have tn := yturn (q := q) (d := d) (d' := d') (js := js) (ks := ks) hx h
          rw [decide_eq_true z1, if_pos rfl, if_pos z1]
          rcases tn with ⟨e1, S1, T1, r1, kz, c1, f1⟩ | ⟨x, o, S1, T1, hxo, r1, c1, f1⟩
          · rw [c1, f1, YB_retv, YB_retv, w290_200, k121_119 (by decide), sw]
            exact nx e1 _ _ _ _ _ _ _ _ _ r1
          · have h34' : ¬ yr (gI S1 34) = 0 := by rw [r1.2.1]; exact yEo_0 hxo
            refine Or.inr ⟨x, o, S1, T1, hxo, r1, ?_, ?_⟩
            · show _ = _
              rw [c1, YB_retv, k121_119 (by decide), sw]
              exact k121_x h34'
            · rw [f1]
              exact yEo_t hxo (fun a b => t290 q a b T1 ks _ _ _ _)
        · rw [decide_eq_false z1, if_neg (fun v => Bool.noConfusion v), if_neg z1, sw]
          exact nx e _ _ _ _ _ _ _ _ _ h
      · -- lines that are kept together
        have sl := hs _ _ _ _ k6
        have c := k121_kp (q := q) (d := d + 4) (js := js) (x0 := x0) (m := m) (dp := dp) (x5 := z5) (x6 := z6) (x7 := z7) (x8 := z8) (x9 := z9) (to := j) h34 (by omega) hdp (show i < j by omega) hj (by rw [j1, k1])
        rw [j4, u3] at c
        have r := q290_h (q := q) (d := d' + 8) (js := ks) (y0 := y0) (w2 := w2) (w3 := w3) (k := 7) v1 (by rw [v2, k2]) (by decide) (by decide)
        rw [if_neg (show ¬ 7 = 0 by decide), if_neg (show ¬ 7 = 4 by decide), if_neg (show ¬ 7 = 5 by decide), if_neg (show ¬ 7 = 6 by decide), if_pos (show 7 = 7 from rfl), v3, w295_0] at r
        rw [c, r]
        have n27 : 27 < 67 := by decide
        -- in the kept part
        have go : ∀ (e1 : yEnv) (S1 T1 : yS) (l w3' : yV) (ln : Int), yRl V n B C e1 S1 T1 → yGo q ks V n B C (fun _ => True) (Y q (d + 5) 121 127 [vr 125, vi x0, vi j, vi dp, vi i, vi m, vi en, vi (gA S 27 i), vr 27, vi ln, z9] [vi (yKo 27), vr 68] S1 js) (Y q (d' + 9) 290 7 [vr 129, vi y0, vi ((a0 + 1 : Nat) : Int), vi ((a0 + 1 : Nat) : Int), w3'] [] T1 ks) (fun S' c => c = yretv q S' js) (fun T' r => ∃ w2' w3', r = Y q (d' + 9) 290 7 [vr 129, vi y0, vi b, w2', w3'] [] T' ks) (fun S' c => c = yretv q S' js) := fun e1 S1 T1 l w3' ln hr => by
          rw [w121_127, if_pos (show 0 ≤ yr (yKo 27) ∧ yr (yKo 27) < 67 by decide), if_neg (show ¬ yr ((xLf xSm (yr (yKo 27)).toNat).toInt) = 18 by decide), if_neg (show ¬ yr ((xLf xSm (yr (yKo 27)).toNat).toInt) = 19 by decide), if_neg (show ¬ yr ((xLf xSm (yr (yKo 27)).toNat).toInt) = 20 by decide), if_pos (show yr ((xLf xSm (yr (yKo 27)).toNat).toInt) = 21 by decide), i11, d11]
          rcases Hd _ _ _ _ k6 (by omega) e1 S1 T1 y0 (vi ((a0 + 1 : Nat) : Int)) w3' hr with ⟨e2, S2, T2, r2, _, c2, w4', w5', f2⟩ | ⟨x, o, S2, T2, hxo, r2, c2, f2⟩
          · obtain ⟨y1, y2, _⟩ := rit (iPq_rw hx.1.2.2 r2.1.1.1.2) hx.1.1 k3
            have r' := q290_h (q := q) (d := d' + 8) (js := ks) (y0 := y0) (w2 := w4') (w3 := w5') (k := 8) y1 (by rw [y2, k4]) (by decide) (by decide)
            rw [if_neg (show ¬ 8 = 0 by decide), if_neg (show ¬ 8 = 4 by decide), if_neg (show ¬ 8 = 5 by decide), if_neg (show ¬ 8 = 6 by decide), if_neg (show ¬ 8 = 7 by decide), if_neg (show ¬ (8 = 9 ∨ 8 = 10) by decide), ← k5] at r'
            rw [c2, f2, r', YB_retv, w121_235, m1]
            exact nx e2 _ _ _ _ _ _ _ _ _ r2
          · have h34' : ¬ yr (gI S2 34) = 0 := by rw [r2.2.1]; exact yEo_0 hxo
            refine Or.inr ⟨x, o, S2, T2, hxo, r2, ?_, f2⟩
            show _ = _
            rw [c2, YB_retv, w121_235]
            exact k121_x h34'
        rcases Hl _ _ _ _ k6 (by omega) e S T ((a0 + 1 : Nat) : Int) 0 v.2.1 vu vu (Nat.le_refl _) (by have := (rit (iPq_rw hx.1.2.2 h.1.1.1.2) hx.1.1 k3).1; omega) h with ⟨S1, T1, l, w4', w5', r1, r2, r3, r4⟩ | ⟨S1, T1, l, r1, r3, r4⟩
        · have ev : Y q (d' + 8) 295 5 [vr 129, vi ((a0 + 1 : Nat) : Int), vi (v.2.1 : Nat), vi (0 + l), vi (v.2.1 : Nat), w4', w5'] [] T1 ks = yret q (vi (0 + l)) T1 ks := by
            rw [w295_5, if_neg (show ¬ yr ((v.2.1 : Nat) : Int) < yr ((v.2.1 : Nat) : Int) by omega)]
          have h34' : gI S1 34 = 0 := r1.1.2.1
          obtain ⟨s36, s38, s38', s35, s60, s72⟩ := lft e S1 T1 r1
          have h292 : Y q (d' + 8) 292 0 [vr 129] [] T1 ks = yret q (vi (gI S1 36)) T1 ks := by
            obtain ⟨_, _, _, _, _, _, _, p55, p60, p61⟩ := yCx_p hx r1.1.1
            rw [w292_0, p55, p60, p61, s36]
          have cb := k121_b (q := q) (d := d + 3) (js := js) (S := S1) (x0 := x0) (x1 := (j : Int)) (x2 := (dp : Int)) (x3 := (i : Int)) (x4 := (m : Int)) (x5 := (en : Int)) (x6 := gA S 27 i) (l := 0 + l) (kd := 27) (x9 := z9) (Or.inr (Or.inr (Or.inr (Or.inr (Or.inl rfl)))))
          have c1 : YB q (Y q (d + 4) 122 0 [vr 125, vi ((i + 1 : Nat) : Int), vi en, vi ((dp + 1 : Nat) : Int), vu, vu, vu, vu, vu, vu] [] S js) (d + 5) 121 87 [vr 125, vi x0, vi j, vi dp, vi i, vi m, vi en, vi (gA S 27 i), vr 27, z8, z9] [] = if ywb 27 (0 + l) S1 = true then YB q (Y q (d + 4) 117 0 [vr 125, vu] [] S1 js) (d + 5) 121 116 [vr 125, vi x0, vi j, vi dp, vi i, vi m, vi en, vi (gA S 27 i), vr 27, vi (0 + l), z9] [] else Y q (d + 5) 121 127 [vr 125, vi x0, vi j, vi dp, vi i, vi m, vi en, vi (gA S 27 i), vr 27, vi (0 + l), z9] [vi (yKo 27), vr 68] S1 js := by
            rw [r3, YB_ret, w121_90, h34', if_pos yr_0]
            exact cb
          have h291 := r291 (q := q) (d := d' + 7) (ks := ks) hx r1
          have f1 : YB q (Y q (d' + 8) 295 5 [vr 129, vi ((a0 + 1 : Nat) : Int), vi (v.2.1 : Nat), vi 0, vi ((a0 + 1 : Nat) : Int), vu, vu] [] T ks) (d' + 9) 290 213 [vr 129, vi y0, vi a0, vi ((a0 + 1 : Nat) : Int), w3] [] = if ywb 27 (0 + l) S1 = true then YB q (Y q (d' + 8) 293 0 [vr 129] [] T1 ks) (d' + 9) 290 244 [vr 129, vi y0, vi a0, vi ((a0 + 1 : Nat) : Int), vi (0 + l)] [] else Y q (d' + 9) 290 7 [vr 129, vi y0, vi ((a0 + 1 : Nat) : Int), vi ((a0 + 1 : Nat) : Int), vi (0 + l)] [] T1 ks := by
            rw [r4, ev, YB_ret, w290_216, h291, YB_ret, w290_222, ywb_27]
            by_cases z1 : yr (gI S1 36 - gI S1 38) < yr (0 + l)
            · rw [if_pos z1, h292, YB_ret, w290_231]
              by_cases z2 : yr (gI S1 36) < yr (0 + l)
              · rw [if_pos z2, decide_eq_false (fun w => w.2.2 z2), if_neg (fun v => Bool.noConfusion v)]
              · rw [if_neg z2, s72]
                by_cases z3 : 0 < yr (gI S1 38)
                · rw [if_pos z3, decide_eq_true ⟨z3, z1, z2⟩, if_pos rfl]
                · rw [if_neg z3, decide_eq_false (fun w => z3 w.1), if_neg (fun v => Bool.noConfusion v)]
            · rw [if_neg z1, decide_eq_false (fun w => z1 w.2.1), if_neg (fun v => Bool.noConfusion v)]
          rw [c1, f1]
          cases hb : ywb 27 (0 + l) S1 with
          | true =>
            rw [if_pos rfl, if_pos rfl]
            have tn := yturn (q := q) (d := d) (d' := d') (js := js) (ks := ks) hx r1
            rcases tn with ⟨e2, S2, T2, r2, kz, c2, f2⟩ | ⟨x, o, S2, T2, hxo, r2, c2, f2⟩
            · rw [c2, f2, YB_retv, YB_retv, w290_247, k121_119 n27]
              exact go e2 S2 T2 vu _ _ r2
            · have h34'' : ¬ yr (gI S2 34) = 0 := by rw [r2.2.1]; exact yEo_0 hxo
              obtain ⟨S3, s1, s2⟩ := k121_e (q := q) (d := d + 3) (js := js) (S := S2) (x0 := x0) (x1 := (j : Int)) (x2 := (dp : Int)) (x3 := (i : Int)) (x4 := (m : Int)) (x5 := (en : Int)) (x6 := gA S 27 i) (l := 0 + l) (x9 := z9) (kd := 27) (Or.inr (Or.inr (Or.inr rfl))) h34''
              refine Or.inr ⟨x, o, S3, T2, hxo, yEr_e r2 s1, ?_, ?_⟩
              · show _ = _
                rw [c2, YB_retv, k121_119 n27]
                exact s2
              · rw [f2]
                exact yEo_t hxo (fun a b => t290 q a b T2 ks _ _ _ _)
          | false =>
            rw [if_neg (fun v => Bool.noConfusion v), if_neg (fun v => Bool.noConfusion v)]
            exact go e S1 T1 vu _ _ r1
        · have h34' : ¬ yr (gI S1 34) = 0 := by rw [r1.2.1]; decide
          obtain ⟨S3, s1, s2⟩ := k121_e (q := q) (d := d + 3) (js := js) (S := S1) (x0 := x0) (x1 := (j : Int)) (x2 := (dp : Int)) (x3 := (i : Int)) (x4 := (m : Int)) (x5 := (en : Int)) (x6 := gA S 27 i) (l := l) (x9 := z9) (kd := 27) (Or.inr (Or.inr (Or.inr rfl))) h34'
          refine Or.inr ⟨2, _, S3, T1, Or.inl ⟨rfl, rfl⟩, yEr_e r1 s1, ?_, ?_⟩
          · show _ = _
            rw [r3, YB_ret, w121_90, if_neg h34', if_pos n27, w318_0, if_pos n27, YB_ret]
            exact s2
          · rw [r4, t290]
      · -- a choice
        have sl1 := hs _ _ _ _ k9
        have sl2 := hs _ _ _ _ k10
        have c := k121_it (q := q) (d := d + 4) (js := js) (x0 := x0) (m := m) (dp := dp) (x5 := z5) (x6 := z6) (x7 := z7) (x8 := z8) (x9 := z9) (to := j) (kd := 28) h34 (by omega) hdp (show i < j by omega) hj (by rw [j1, k1]) (by decide) (by decide)
        have cb := k121_b (q := q) (d := d + 3) (js := js) (S := S) (x0 := x0) (x1 := (j : Int)) (x2 := (dp : Int)) (x3 := (i : Int)) (x4 := (m : Int)) (x5 := gA S 29 i) (x6 := gA S 27 i) (l := gA S 27 i) (kd := 28) (x9 := z9) (Or.inr (Or.inr (Or.inr (Or.inr (Or.inr rfl)))))
        have r := q290_h (q := q) (d := d' + 8) (js := ks) (y0 := y0) (w2 := w2) (w3 := w3) (k := 9) v1 (by rw [v2, k2]) (by decide) (by decide)
        rw [if_neg (show ¬ 9 = 0 by decide), if_neg (show ¬ 9 = 4 by decide), if_neg (show ¬ 9 = 5 by decide), if_neg (show ¬ 9 = 6 by decide), if_neg (show ¬ 9 = 7 by decide), if_pos (show 9 = 9 ∨ 9 = 10 by decide)] at r
        have nb : ywb 28 (gA S 27 i) S = false := rfl
        rw [c, cb, r, nb, if_neg (fun v => Bool.noConfusion v), j4, u3, j2, w121_127, if_pos (show 0 ≤ yr (yKo 28) ∧ yr (yKo 28) < 67 by decide), if_neg (show ¬ yr ((xLf xSm (yr (yKo 28)).toNat).toInt) = 18 by decide), if_neg (show ¬ yr ((xLf xSm (yr (yKo 28)).toNat).toInt) = 19 by decide), if_neg (show ¬ yr ((xLf xSm (yr (yKo 28)).toNat).toInt) = 20 by decide), if_neg (show ¬ yr ((xLf xSm (yr (yKo 28)).toNat).toInt) = 21 by decide), if_pos (show yr ((xLf xSm (yr (yKo 28)).toNat).toInt) = 22 by decide)]
        rcases yhol (q := q) (d := d + 1) (d' := d' + 3) (js := js) (ks := ks) hx h u1 u2 k2 k3 k4 with ⟨S1, T1, bb, r1, r2, r3, r4⟩ | ⟨S1, T1, r1, r3, r4⟩
        · have r3 : Y q (d + 4) 123 0 [vr 125, vi i] [] S js = _ := r3
          have r4 : Y q (d' + 8) 296 0 [vr 129, vi a0] [] T ks = _ := r4
          cases bb with
          | true =>
            have n1 : ¬ yr (yb1 true) = 0 := by decide
            rw [if_pos rfl] at r4
            rw [r3, r4, YB_ret, YB_ret, w121_244, w290_255, if_neg n1, if_neg n1, i11, d11]
            rcases Hd _ _ _ _ k9 (by omega) e S1 T1 y0 (vi ((a0 + 1 : Nat) : Int)) w3 r1 with ⟨e2, S2, T2, q1, _, c2, w4', w5', f2⟩ | ⟨x, o, S2, T2, hxo, q1, c2, f2⟩
            · obtain ⟨y1, y2, y3, _⟩ := rit (iPq_rw hx.1.2.2 q1.1.1.1.2) hx.1.1 k5
              have r' := q290_h (q := q) (d := d' + 8) (js := ks) (y0 := y0) (w2 := w4') (w3 := w5') (k := 10) y1 (by rw [y2, k6]) (by decide) (by decide)
              have r'' := q296_g (q := q) (d := d' + 7) (js := ks) y1 (by rw [y2, k6])
              rw [if_neg (show ¬ 10 = 0 by decide), if_neg (show ¬ 10 = 4 by decide), if_neg (show ¬ 10 = 5 by decide), if_neg (show ¬ 10 = 6 by decide), if_neg (show ¬ 10 = 7 by decide), if_pos (show 10 = 9 ∨ 10 = 10 by decide), r'', YB_ret, w290_255, y3, k7] at r'
              rw [c2, f2, r', YB_retv, w121_279, m1]
              exact nx e2 _ _ _ _ _ _ _ _ _ q1
            · have h34' : ¬ yr (gI S2 34) = 0 := by rw [q1.2.1]; exact yEo_0 hxo
              refine Or.inr ⟨x, o, S2, T2, hxo, q1, ?_, f2⟩
              show _ = _
              rw [c2, YB_retv, w121_279]
              exact k121_x h34'
          | false =>
            have n0 : yr (yb1 false) = 0 := by decide
            rw [if_neg (fun v => Bool.noConfusion v), k8] at r4
            rw [r3, r4, YB_ret, YB_ret, w121_244, w290_255, if_pos n0, if_pos n0, d11]
            rcases Hd _ _ _ _ k10 (by omega) e S1 T1 y0 (vi ((g + 1 : Nat) : Int)) w3 r1 with ⟨e2, S2, T2, q1, _, c2, w4', w5', f2⟩ | ⟨x, o, S2, T2, hxo, q1, c2, f2⟩
            · rw [c2, f2, YB_retv, w121_279, m1]
              exact nx e2 _ _ _ _ _ _ _ _ _ q1
            · have h34' : ¬ yr (gI S2 34) = 0 := by rw [q1.2.1]; exact yEo_0 hxo
              refine Or.inr ⟨x, o, S2, T2, hxo, q1, ?_, f2⟩
              show _ = _
              rw [c2, YB_retv, w121_279]
              exact k121_x h34'
        · have r3 : Y q (d + 4) 123 0 [vr 125, vi i] [] S js = _ := r3
          have r4 : Y q (d' + 8) 296 0 [vr 129, vi a0] [] T ks = _ := r4
          have h34' : ¬ yr (gI S1 34) = 0 := by rw [r1.2.1]; decide
          refine Or.inr ⟨2, _, S1, T1, Or.inl ⟨rfl, rfl⟩, r1, ?_, ?_⟩
          · show _ = _
            rw [r3, YB_ret, w121_244, if_pos yr_0, if_pos yr_0, w121_0, k121_x h34', YB_retv, w121_279]
            exact k121_x h34'
          · rw [r4, t290]
theorem ydos (hx : yCx S0 t V a n B C) : ∀ (rd d dp : Nat), dp + rd = 12 → yDo0 q js ks V n B C (d + rd + 5) (d' + 9) dp (yIts (zI V) (zP V) (sGd (sG0 S0) V) true rd)
  | 0, d, dp, hdp => by
    intro i j a0 b hl hj e S T y0 w2 w3 h
    have := ydol (q := q) (d := d) (d' := d') (js := js) (ks := ks) (x0 := (i : Int)) (y0 := y0) hx (sub := fun _ _ _ _ => False) (fun _ _ _ _ h => h.elim) hj (show dp ≤ 12 by omega) (fun _ _ _ _ h => h.elim) (fun _ _ _ _ h => h.elim) 2000 i a0 0 e S T vu vu vu vu vu w2 w3 hl (by omega) h
    rw [w121_0]
    exact this
  | rd + 1, d, dp, hdp => by
    intro i j a0 b hl hj e S T y0 w2 w3 h
    have H1 := ylins (q := q) (d' := d' + 2) (js := js) (ks := ks) hx rd (d + 1) (dp + 1) (by omega)
    have H2 := ydos hx rd d (dp + 1) (by omega)
    have H1 : yLs0 q js ks V n B C (d + rd + 1 + 4) (d' + 8) (dp + 1) (yIts (zI V) (zP V) (sGd (sG0 S0) V) true rd) := by
      have e : d + 1 + rd + 4 = d + rd + 1 + 4 := by omega
      rw [← e]
      exact H1
    have := ydol (q := q) (d := d + rd + 1) (d' := d') (js := js) (ks := ks) (x0 := (i : Int)) (y0 := y0) hx (yIts_le rd) hj (show dp ≤ 12 by omega) H1 H2 2000 i a0 0 e S T vu vu vu vu vu w2 w3 hl (by omega) h
    rw [w121_0]
    exact this
end YUFL
end YUF
