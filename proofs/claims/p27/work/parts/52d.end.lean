/-! THE LAW's END -/
section YEN
theorem yls_cg {f g : Nat → Int} : ∀ (n i : Nat) (s : Int64), (∀ t, t < n → f (i + t) = g (i + t)) → yls f i n s = yls g i n s
  | 0, _, _, _ => rfl
  | n + 1, i, s, h => by
    have e : f i = g i := h 0 (by omega)
    unfold yls
    rw [e]
    exact yls_cg n (i + 1) _ (fun t ht => by
      have := h (t + 1) (by omega)
      rwa [show i + (t + 1) = i + 1 + t by omega] at this)
theorem yfl_cg {f g : Nat → Int64} : ∀ (n i : Nat) (s : Int64), (∀ t, t < n → f (i + t) = g (i + t)) → yfl f i n s = yfl g i n s
  | 0, _, _, _ => rfl
  | n + 1, i, s, h => by
    have e : f i = g i := h 0 (by omega)
    unfold yfl
    rw [e]
    exact yfl_cg n (i + 1) _ (fun t ht => by
      have := h (t + 1) (by omega)
      rwa [show i + (t + 1) = i + 1 + t by omega] at this)
theorem yfc_cg {o o' : Nat → Int} {a a' : Nat → Int64} : ∀ (n i : Nat) (s : Int64), (∀ t, t < n → o (i + t) = o' (i + t) ∧ a (i + t) = a' (i + t)) → yfc o a i n s = yfc o' a' i n s
  | 0, _, _, _ => rfl
  | n + 1, i, s, h => by
    obtain ⟨e1, e2⟩ := h 0 (by omega)
    have e1 : o i = o' i := e1
    have e2 : a i = a' i := e2
    unfold yfc
    rw [e1, e2]
    exact yfc_cg n (i + 1) _ (fun t ht => by
      have := h (t + 1) (by omega)
      rwa [show i + (t + 1) = i + 1 + t by omega] at this)
section YENL
variable {q : yQ} {d : Nat} {js : List xO} {S S' : yS} {h n P : Nat} {f : Nat → Int64} {o : Nat → Nat} {M : zSt} {V G : Nat → Int} {A : Int} {x : Nat} {dg : Int64}
/-- the digest hangs on what is told alone -/
theorem cDig (hh : 5 ≤ h ∧ h ≤ 10) (hn : n ≤ 23) : ∃ D : yS → Int64, ∀ S, wR h n P f o P n M S → (∀ d, Y q (d + 3) 165 0 [vr 81, vu, vu, vu, vu] [] S js = yret q (vj (D S)) S js) ∧ ∀ S', wR h n P f o P n M S' → gI S' 31 = gI S 31 → D S' = D S := by
  refine ⟨fun S => ydg (gI S 10) n (gI S 12) (gB S 7) (n * 2) (gI S 0) (gA S 0) (gB S 0) 26 (ytd (gI S 31) (gI S 29) (gI S 32) (gI S 33) (gI S 34)) (gA S 33) 24 (P * h), fun S hr => ⟨fun d => ?_, fun S' hr' h31 => ?_⟩⟩
  · obtain ⟨hb, _, _, _, _, hP30, _, _⟩ := hr
    have c10 := hb.1.i10
    have c11 := hb.1.i11
    exact c165w (P := P) (h := h) (w := 24) (R := n) (C := 2) (N := 26) c10 (by omega) (by rw [c10, c11]; omega) (by
      unfold nrow
      rw [c10, c11, if_neg (by decide)]
      omega) (by omega) hb.1.i0 (by omega) hb.2.2.1 (fun _ => hb.2.2.2.1) (fun _ => hb.2.2.2.2) hP30 (by omega) (by omega)
  · obtain ⟨hb, ⟨_, _, _, g32, g33⟩, _, _, hpap, _⟩ := hr
    obtain ⟨hb', ⟨_, _, _, g32', g33'⟩, _, _, hpap', _⟩ := hr'
    show ydg (gI S' 10) n (gI S' 12) (gB S' 7) (n * 2) (gI S' 0) (gA S' 0) (gB S' 0) 26 (ytd (gI S' 31) (gI S' 29) (gI S' 32) (gI S' 33) (gI S' 34)) (gA S' 33) 24 (P * h) = ydg (gI S 10) n (gI S 12) (gB S 7) (n * 2) (gI S 0) (gA S 0) (gB S 0) 26 (ytd (gI S 31) (gI S 29) (gI S 32) (gI S 33) (gI S 34)) (gA S 33) 24 (P * h)
    rw [hb.1.i10, hb'.1.i10, hb.1.i12, hb'.1.i12, hb.1.b7, hb'.1.b7, hb.1.i0, hb'.1.i0, h31, hb.2.2.1, hb'.2.2.1, g32, g32', g33, g33', hb.2.1, hb'.2.1]
    unfold ydg
    have ec : ∀ s, yfc (gA S' 0) (gB S' 0) 0 26 s = yfc (gA S 0) (gB S 0) 0 26 s := fun s => yfc_cg 26 0 s (fun t ht => by
      rw [Nat.zero_add, hb.1.a0 t ht, hb'.1.a0 t ht, hb.1.b0 t ht, hb'.1.b0 t ht]
      exact ⟨rfl, rfl⟩)
    rw [ec]
    refine yfl_cg (P * h) 0 _ (fun L hL => ?_)
    rw [Nat.zero_add]
    unfold ylin
    refine yls_cg 24 _ 0 (fun t ht => ?_)
    have hc : h = 5 ∨ h = 6 ∨ h = 7 ∨ h = 8 ∨ h = 9 ∨ h = 10 := by omega
    have hd : L = L / h * h + L % h := by
      have := Nat.div_add_mod L h
      rw [Nat.mul_comm] at this
      exact this.symm
    have hm : L % h < h := Nat.mod_lt _ (by omega)
    have hp : L / h < P := Nat.div_lt_of_lt_mul (by rw [Nat.mul_comm]; exact hL)
    obtain ⟨p, hpp⟩ : ∃ p, p = L / h := ⟨_, rfl⟩
    obtain ⟨l, hll⟩ : ∃ l, l = L % h := ⟨_, rfl⟩
    rw [← hpp] at hd hp
    rw [← hll] at hd hm
    by_cases z : l = 0
    · have e : L * 24 + t = p * h * 24 + t := by rw [hd, z, Nat.add_zero]
      rw [e, hpap'.1 p hp t ht, hpap.1 p hp t ht]
    · have e : L * 24 + t = (p * h + (l - 1) + 1) * 24 + t := by rw [hd]; omega
      rw [e, hpap'.2 p (l - 1) hp (by omega) t ht, hpap.2 p (l - 1) hp (by omega) t ht]
/-- the lines of a page -/
theorem lLines (hh : 5 ≤ h ∧ h ≤ 10) (hn : n ≤ 23) (hw : wRw n f o V G) (hr : wR h n P f o P n M S) (hP : P = wPn (h - 1) M.1) (hg : zGd (h - 1) V G A M.1.length M.1) (hk : (zw (h - 1) M.1 M.1.length).1 = n) (hA : -2300 ≤ A ∧ A ≤ 2300) {p0 : Nat} (hp : p0 < P) : ∀ (m l0 : Nat) (w : zW), l0 + m = h - 1 → w = zw (h - 1) M.1 (p0 * (h - 1) + l0) → ∀ (x12 : Nat) (x14 x15 x16 : yV), (m = 0 ∨ x12 = zH (h - 1) (p0 * (h - 1) + l0) w) → ∃ (w' : zW) (x12' x14' x15' x16' : yV), Y q (d + 4) 0 285 (lFr n h x P (yi2l A) dg (yi2l w.2.2.1) (w.2.2.2.2.1 : Int) (w.2.2.2.1 : Int) (w.1 : Int) (yi2l w.2.1) ((p0 + 1 : Nat) : Int) (vi ((x12 : Nat) : Int)) (vi ((l0 + 2 : Nat) : Int)) x14 x15 x16) [] S js = Y q (d + 4) 0 237 (lFr n h x P (yi2l A) dg (yi2l w'.2.2.1) (w'.2.2.2.2.1 : Int) (w'.2.2.2.1 : Int) (w'.1 : Int) (yi2l w'.2.1) ((p0 + 2 : Nat) : Int) x12' (vi ((h + 1 : Nat) : Int)) x14' x15' x16') [] S js ∧ w' = zw (h - 1) M.1 ((p0 + 1) * (h - 1))
  | 0, l0, w, hl, hwe, x12, x14, x15, x16, _ => by
    have hl : l0 = h - 1 := by omega
    refine ⟨w, vi ((x12 : Nat) : Int), x14, x15, x16, ?_, ?_⟩
    · have e1 : ((l0 + 2 : Nat) : Int) = ((h + 1 : Nat) : Int) := by omega
      have e2 : ((p0 + 1 : Nat) : Int) + 1 = ((p0 + 2 : Nat) : Int) := by omega
      unfold lFr
      rw [e1, w0b_285 (d := d + 3), yrn (n := h) (by omega), yrn (n := h + 1) (by omega), if_pos (by omega), e2]
    · rw [hwe, Nat.succ_mul, hl]
  | m + 1, l0, w, hl, hwe, x12, x14, x15, x16, hx => by
    have hx : x12 = zH (h - 1) (p0 * (h - 1) + l0) w := by
      rcases hx with z | z
      · omega
      · exact z
    obtain ⟨y14, y15, y16, e⟩ := lLine (q := q) (d := d) (js := js) (x := x) (dg := dg) hh hn hw hr hP hg hk hA hp (l0 := l0) (by omega) rfl w hwe x14 x15 x16
    have hw1 : zStep (h - 1) (p0 * (h - 1) + l0) M.1[p0 * (h - 1) + l0]? w = zw (h - 1) M.1 (p0 * (h - 1) + (l0 + 1)) := by
      rw [hwe]
      rfl
    obtain ⟨w', z12, z14, z15, z16, e2, hw'⟩ := lLines hh hn hw hr hP hg hk hA hp m (l0 + 1) _ (by omega) hw1 (zStep (h - 1) (p0 * (h - 1) + l0) M.1[p0 * (h - 1) + l0]? w).2.2.2.2.2 y14 y15 y16 (by
      rcases Nat.eq_zero_or_pos m with z | z
      · exact Or.inl z
      · refine Or.inr ?_
        unfold zH
        have hc : h = 5 ∨ h = 6 ∨ h = 7 ∨ h = 8 ∨ h = 9 ∨ h = 10 := by omega
        rw [if_neg (by rcases hc with rfl | rfl | rfl | rfl | rfl | rfl <;> omega)])
    refine ⟨w', z12, z14, z15, z16, ?_, hw'⟩
    rw [hx, e]
    exact e2
/-- the pages -/
theorem lPages (hh : 5 ≤ h ∧ h ≤ 10) (hn : n ≤ 23) (hw : wRw n f o V G) (hr : wR h n P f o P n M S) (hP : P = wPn (h - 1) M.1) (hg : zGd (h - 1) V G A M.1.length M.1) (hk : (zw (h - 1) M.1 M.1.length).1 = n) (hA : -2300 ≤ A ∧ A ≤ 2300) : ∀ (m p0 : Nat) (w : zW), p0 + m = P → w = zw (h - 1) M.1 (p0 * (h - 1)) → ∀ (x12 x13 x14 x15 x16 : yV), ∃ (w' : zW) (x12' x13' x14' x15' x16' : yV), Y q (d + 4) 0 237 (lFr n h x P (yi2l A) dg (yi2l w.2.2.1) (w.2.2.2.2.1 : Int) (w.2.2.2.1 : Int) (w.1 : Int) (yi2l w.2.1) ((p0 + 1 : Nat) : Int) x12 x13 x14 x15 x16) [] S js = Y q (d + 4) 0 237 (lFr n h x P (yi2l A) dg (yi2l w'.2.2.1) (w'.2.2.2.2.1 : Int) (w'.2.2.2.1 : Int) (w'.1 : Int) (yi2l w'.2.1) ((P + 1 : Nat) : Int) x12' x13' x14' x15' x16') [] S js ∧ w' = zw (h - 1) M.1 (P * (h - 1))
  | 0, p0, w, hm, hwe, x12, x13, x14, x15, x16 => by
    have hm : p0 = P := by omega
    subst hm
    exact ⟨w, x12, x13, x14, x15, x16, rfl, hwe⟩
  | m + 1, p0, w, hm, hwe, x12, x13, x14, x15, x16 => by
    have hP30 : P ≤ 30 := hr.2.2.2.2.2.1
    have hpp : 1 ≤ p0 + 1 ∧ p0 + 1 ≤ P := by omega
    have ep := yrn (n := p0 + 1) (by omega)
    have eP := yrn (n := P) (by omega)
    have same : ∀ a : Int64, yr (ylcmp a a) = 0 := fun a => by
      rw [yr_lcmp, ylcmp_eq]
    have tp : ∀ t, t < 24 → wBy S h (p0 + 1) 1 (t + 1) = wHb (p0 + 1) P t := fun t ht => wBy_top hr (by omega) ht
    have r1 : Y q (d + 3) 7 0 [vr 81, vi ((p0 + 1 : Nat) : Int), vi 1, vi 1, vi 4, vu, vu, vu, vu, vu] [] S js = yret q (vj (yi2l ((p0 + 1 : Nat) : Int))) S js :=
      c7n (l := 1) (a := 1) (e := 4) (w := 4) hh hr hpp (by omega) (by omega) (by omega) (by omega) (n4 (by omega)) (fun t ht => by
        rw [show 1 + t = t + 1 by omega, tp t (by omega)]
        unfold wHb
        rw [if_pos ht])
    have r2 : Y q (d + 3) 7 0 [vr 81, vi ((p0 + 1 : Nat) : Int), vi 1, vi 5, vi 8, vu, vu, vu, vu, vu] [] S js = yret q (vj (yi2l ((P : Nat) : Int))) S js :=
      c7n (l := 1) (a := 5) (e := 8) (w := 4) hh hr hpp (by omega) (by omega) (by omega) (by omega) (n4 (by omega)) (fun t ht => by
        rw [show 5 + t = (4 + t) + 1 by omega, tp (4 + t) (by omega)]
        unfold wHb
        rw [if_neg (by omega), if_pos (by omega), Nat.add_sub_cancel_left])
    obtain ⟨w1, y12, y14, y15, y16, e1, hw1⟩ := lLines (q := q) (d := d) (js := js) (x := x) (dg := dg) hh hn hw hr hP hg hk hA (p0 := p0) (by omega) (h - 1) 0 w (by omega) hwe 0 x14 x15 x16 (Or.inr (by
      unfold zH
      rw [if_pos (by rw [Nat.add_zero]; exact Nat.mul_mod_left _ _)]))
    obtain ⟨w2, z12, z13, z14, z15, z16, e2, hw2⟩ := lPages hh hn hw hr hP hg hk hA m (p0 + 1) w1 (by omega) hw1 y12 (vi ((h + 1 : Nat) : Int)) y14 y15 y16
    refine ⟨w2, z12, z13, z14, z15, z16, ?_, hw2⟩
    rw [← e2, ← e1]
    unfold lFr
    rw [w0b_237 (d := d + 3), eP, ep, if_neg (by omega), r1, YB_ret, w0b_253 (d := d + 3), if_pos (same _), r2, YB_ret, w0b_270, if_pos (same _)]
    rfl
end YENL
end YEN
