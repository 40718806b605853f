/-! RUN: a line's pieces, on both sides -/
section YTY
section YTYL
variable {q : yQ} {d d' : Nat} {js ks : List xO} {S0 : yS} {t : Nat} {V : yPV} {a : Int} {n : Nat} {B C S T : yS} {e : yEnv}
theorem ysd_e {p r : yIe} {ty : Nat} {v : yVal} (hv : yvt v (decide (ty = 1))) (h : (r.2.2.2 = 0 ∧ p.1 = if ty = 1 then 31 else 32) ∨ (1 ≤ r.2.2.2 ∧ r.2.2.2 ≤ 3 ∧ p.1 = 30 + r.2.2.2)) : p.1 = ysd r.2.2.2 (yisn v) := by
  unfold ysd
  rcases h with ⟨h1, h2⟩ | ⟨h1, h2, h3⟩
  · rw [if_pos h1, h2]
    match v, hv with
    | .inl x, hv =>
      have hv : decide (ty = 1) = false := hv
      have := of_decide_eq_false hv
      rw [if_neg this]
      exact (if_pos rfl).symm
    | .inr l, hv =>
      have := of_decide_eq_true hv.1
      rw [if_pos this]
      exact (if_neg (fun z => Bool.noConfusion z)).symm
  · rw [if_neg (by omega), h3]
theorem sAw_id {G : yGx} {L Tt : List yDf} : ∀ op i y, sAw G L Tt op i y → sAw G L Tt op i y := fun _ _ _ h => h
/-- one piece -/
theorem ypce (hx : yCx S0 t V a n B C) (h : yRl V n B C e S T) {p r : yIe} {ip ap en line k0 : Nat} {x0 x1 x2 x4 x5 y0 : Int} (hp : (zI V)[ip]? = some p) (hr : (zP V)[ap]? = some r) (hpc : r.1 = 2 ∧ r.2.1 = p.2.2.1 ∧ r.2.2.1 = p.2.1 ∧ p.2.1 ≤ 60 ∧ ∃ ty, ty ≤ 1 ∧ sGd (sG0 S0) V p.2.2.1 ty ∧ ((r.2.2.2 = 0 ∧ p.1 = if ty = 1 then 31 else 32) ∨ (1 ≤ r.2.2.2 ∧ r.2.2.2 ≤ 3 ∧ p.1 = 30 + r.2.2.2))) (hl : line < (zPg V).2.2) (hk0 : k0 < 500000) (hen : ip < en) (hen2 : en ≤ 2000) : (∃ (S' T' : yS) (w : Nat), yRl V n B C e S' T' ∧ (gI S' 29 = gI S 29 ∧ gI S' 38 = gI S 38) ∧ w ≤ 60 ∧ Y q (d + 3) 118 51 [vr 125, vi x0, vi x1, vi x2, vi ((line : Int) + 1), vi x4, vi x5, vi en, vi ((k0 : Int) + 1), vi ip] [] S js = Y q (d + 3) 118 51 [vr 125, vi x0, vi x1, vi x2, vi ((line : Int) + 1), vi x4, vi x5, vi en, vi (((k0 + w : Nat) : Int) + 1), vi ((ip + 1 : Nat) : Int)] [] S' js ∧ Y q (d' + 5) 287 7 [vr 129, vi y0, vi line, vi k0, vi ap] [] T ks = Y q (d' + 5) 287 7 [vr 129, vi y0, vi line, vi ((k0 + w : Nat) : Int), vi ((ap + 1 : Nat) : Int)] [] T' ks) ∨ ∃ (S' T' : yS), yEr V B C 2 S' T' ∧ Y q (d + 3) 118 51 [vr 125, vi x0, vi x1, vi x2, vi ((line : Int) + 1), vi x4, vi x5, vi en, vi ((k0 : Int) + 1), vi ip] [] S js = Y q (d + 3) 118 51 [vr 125, vi x0, vi x1, vi x2, vi ((line : Int) + 1), vi x4, vi x5, vi en, vi ((k0 : Int) + 1), vi ((ip + 1 : Nat) : Int)] [] S' js ∧ Y q (d' + 5) 287 7 [vr 129, vi y0, vi line, vi k0, vi ap] [] T ks = ythr q (ystp 2 (Int32.ofInt (-1))) T' ks := by
  obtain ⟨q1, q2, q3, q4, ty, q5, q6, q7⟩ := hpc
  obtain ⟨c1, c2, _⟩ := yCx_c hx
  obtain ⟨_, _, _, g4, g5, _⟩ := yCx_g hx
  have hl' := hx.1.1
  have hB := hx.1.2.1
  have hC := hx.1.2.2
  obtain ⟨⟨i1, i2, i3⟩, j1, j2, j3, j4⟩ := cit (iPq_cw hB h.1.1.1.1) hp
  obtain ⟨u1, u2, u3, u4, u5⟩ := rit (iPq_rw hC h.1.1.1.2) hl' hr
  have h34 : gI S 34 = 0 := h.1.2.1
  have h23 : p.1 ≠ 23 ∧ 31 ≤ p.1 ∧ p.1 ≤ 33 := by
    rcases q7 with ⟨_, z⟩ | ⟨_, _, z⟩
    · rw [z]
      split <;> omega
    · omega
  have hst := k118_pc (q := q) (d := d + 2) (js := js) (x0 := x0) (x1 := x1) (x2 := x2) (x3 := (line : Int) + 1) (x4 := x4) (x5 := x5) (x7 := (k0 : Int) + 1) h34 hen hen2 j1 i3 h23.1
  have hrf := q287_pc (q := q) (d := d' + 4) (js := ks) (x0 := y0) (x1 := (line : Int)) (x2 := (k0 : Int)) u1 (by rw [u2, q1]; rfl)
  rw [j3] at hst
  rw [u3, q2] at hrf
  have e1 : (ip : Int) + 1 = ((ip + 1 : Nat) : Int) := by omega
  have e2 : (ap : Int) + 1 = ((ap + 1 : Nat) : Int) := by omega
  have n1 : ¬ yr 1 = 0 := by decide
  rcases yrk (q := q) (d := d) (d' := d') (js := js) (ks := ks) hx h sAw_id q6 with ⟨S1, T1, r1, ⟨f1, f2⟩, ⟨v, v1, a1, a2, b1, b2⟩ | ⟨a1, b1⟩⟩
  · refine Or.inl ?_
    have o1 := r1.1.1
    obtain ⟨⟨w60, h40⟩, p27, p28, _, _, _, p54, p55, _, _⟩ := yCx_p hx o1
    obtain ⟨⟨k1, k2⟩, ⟨k3, _, k4⟩, _, _, k5, _⟩ := id o1
    have k6 := r1.2.2.1
    obtain ⟨P, hP⟩ : ∃ P : Nat, gI S1 29 = P := ⟨(gI S1 29).toNat, by omega⟩
    obtain ⟨_, m1, m2, _⟩ := cit (iPq_cw hB k1) hp
    obtain ⟨_, _, _, s4, s5⟩ := rit (iPq_rw hC k2) hl' hr
    obtain ⟨S2, x1', x2', x3'⟩ := c119 (q := q) (d := d) (js := js) (P := P) (h := (zPg V).2.2) (w := (zPg V).2.1) (line := line) (k0 := k0) (i := ip) (w0 := p.2.1) (side := p.1) (v := v) (by omega) h40 w60 hl hk0 q4 h23.2 (by omega) hP p28 p27 m2 m1 a2
    have hway : r.2.2.2 ≤ 3 := by
      rcases q7 with ⟨z, _⟩ | ⟨_, z, _⟩ <;> omega
    have hbd := yB_lt (P := P) (h := (zPg V).2.2) (w := (zPg V).2.1) (line := line) (by omega) h40 w60 hl
    obtain ⟨T2, y1', y2'⟩ := r288 (q := q) (d := d' + 2) (js := ks) (S := T1) (B := ((P - 1) * (zPg V).2.2 + line) * (zPg V).2.1) (w := (zPg V).2.1) (k0 := k0) (w0 := p.2.1) (way := r.2.2.2) (v := v) w60 hbd hk0 q4 hway p54 b2
    rw [← ysd_e v1 q7] at y1'
    have y1' : Y q (d' + 4) 288 0 [vr 129, vi ((((P - 1) * (zPg V).2.2 + line) * (zPg V).2.1 : Nat) : Int), vi k0, vi (p.2.1 : Int), vi (r.2.2.2 : Int), vu, vu, vu, vu, vu, vu] [] T1 ks = _ := y1'
    have hr285 := r285n (q := q) (d := d' + 4) (js := ks) (S := T1) (P := P - 1) (h := (zPg V).2.2) (w := (zPg V).2.1) (l := line) p55 p54
    have eP : ((P - 1 : Nat) : Int) + 1 = P := by omega
    rw [eP] at hr285
    have kk : 0 ≤ yr (ap : Int) ∧ yr (ap : Int) < 4000 := by
      rw [yr_eq (by omega) (by omega)]
      omega
    have ea : (yr (ap : Int)).toNat = ap := by
      rw [yr_eq (by omega) (by omega), Int.toNat_natCast]
    have hw : ywid p.2.1 (yptx v).length ≤ 60 := by
      unfold ywid
      split <;> omega
    have e3 : (k0 : Int) + 1 + (ywid p.2.1 (yptx v).length : Nat) = ((k0 + ywid p.2.1 (yptx v).length : Nat) : Int) + 1 := by omega
    have e4 : (k0 : Int) + (ywid p.2.1 (yptx v).length : Nat) = ((k0 + ywid p.2.1 (yptx v).length : Nat) : Int) := by omega
    refine ⟨sAr S2 33 (ywl (((P - 1) * (zPg V).2.2 + line) * (zPg V).2.1) (zPg V).2.1 k0 (ypbt (yisn v) (yptx v) (ywid p.2.1 (yptx v).length) (yah p.1 (ywid p.2.1 (yptx v).length) (yptx v).length)) (ywid p.2.1 (yptx v).length) 0 (gA S1 33)), sAr T2 64 (ywl (((P - 1) * (zPg V).2.2 + line) * (zPg V).2.1) (zPg V).2.1 k0 (ypbt (yisn v) (yptx v) (ywid p.2.1 (yptx v).length) (yah p.1 (ywid p.2.1 (yptx v).length) (yptx v).length)) (ywid p.2.1 (yptx v).length) 0 (gA T1 64)), ywid p.2.1 (yptx v).length, yRl_pp (yRl_m g4.1 g5.1 (by omega) r1 (cRp_28 x2') y2') (ywl_eq _ 0 _ _ fun j hj => ?_), ⟨?_, ?_⟩, hw, ?_, ?_⟩
    · exact k5 j (by rw [← x2'.1.1 29 rfl, ← x2'.1.1 28 rfl, ← x2'.1.1 27 rfl]; exact hj)
    · exact (x2'.1.1 29 rfl).trans (f1.1 29 rfl)
    · exact (x2'.1.1 38 rfl).trans (f1.1 38 rfl)
    · rw [hst, a1, YB_ret, w118_120, if_neg n1, x1', YB_ret, w118_133, e1, e3]
    · rw [hrf, b1, YB_retv, w287_57, k3, hP, hr285, YB_ret, w287_67, if_pos kk, if_pos kk, ea, s4, s5, q3, y1', YB_ret, w287_85, e2, e4]
  · refine Or.inr ⟨_, _, yRl_er r1, ?_, ?_⟩
    · rw [hst, a1, YB_ret, w118_120, if_pos yr_0, e1]
    · rw [hrf, b1, t287]
/-- what stands on a line, and its end -/
theorem ypcs (hx : yCx S0 t V a n B C) {it en at0 line N : Nat} {x0 x1 x2 y0 : Int} {x5 : Nat} (hit : it < 2000) (hki : ∀ S, yFr yCw B S → gC S 3 it = 22) (hN : it + 1 + N = en) (hen : en ≤ 2000) (hl : line < (zPg V).2.2) (hpc : ∀ k, k < N → ∃ p r : yIe, (zI V)[it + 1 + k]? = some p ∧ (zP V)[at0 + 1 + k]? = some r ∧ yPc (sGd (sG0 S0) V) p r) (hze : ∃ z : yIe, (zP V)[at0 + 1 + N]? = some z ∧ z.1 = 3) : ∀ (m k k0 : Nat) (e : yEnv) (S T : yS), k + m = N → k0 ≤ 60 * (k + 1) → yRl V n B C e S T → yGo q ks V n B C (fun S' => gI S' 29 = gI S 29 ∧ gI S' 38 = gI S 38) (Y q (d + 3) 118 51 [vr 125, vi x0, vi x1, vi x2, vi ((line : Int) + 1), vi it, vi x5, vi en, vi ((k0 : Int) + 1), vi ((it + 1 + k : Nat) : Int)] [] S js) (Y q (d' + 5) 287 7 [vr 129, vi y0, vi line, vi k0, vi ((at0 + 1 + k : Nat) : Int)] [] T ks) (fun S' c => ∃ z7, c = Y q (d + 3) 118 9 [vr 125, vi x0, vi x1, vi x2, vi ((line : Int) + 1 + 1), vi en, vi ((x5 : Int) + 1), vi en, z7, vi 1] [] S' js) (fun T' r => r = yretv q T' ks) (fun S' c => c = yretv q S' js)
  | 0, k, k0, e, S, T, hk, hk0, h => by
    have hkN : k = N := by omega
    subst hkN
    have h34 : gI S 34 = 0 := h.1.2.1
    obtain ⟨z, z1, z2⟩ := hze
    obtain ⟨u1, u2, _⟩ := rit (iPq_rw hx.1.2.2 h.1.1.1.2) hx.1.1 z1
    have c := k118_end (q := q) (d := d + 2) (js := js) (x0 := x0) (x1 := x1) (x2 := x2) (x3 := (line : Int) + 1) (x5 := (x5 : Int)) (x7 := (k0 : Int) + 1) h34 hit hen (hki S h.1.1.1.1)
    have r := q287_end (q := q) (d := d' + 4) (js := ks) (x0 := y0) (x1 := (line : Int)) (x2 := (k0 : Int)) u1 (by rw [u2, z2]; rfl)
    rw [hN]
    exact Or.inl ⟨e, _, _, yRl_pl h, ⟨rfl, rfl⟩, ⟨_, c⟩, r⟩
  | m + 1, k, k0, e, S, T, hk, hk0, h => by
    have h34 : gI S 34 = 0 := h.1.2.1
    obtain ⟨p, r, p1, p2, p3⟩ := hpc k (by omega)
    have e1 : it + 1 + k + 1 = it + 1 + (k + 1) := by omega
    have e2 : at0 + 1 + k + 1 = at0 + 1 + (k + 1) := by omega
    rcases p3 with ⟨w1, w2, w3, w4, w5⟩ | w
    · obtain ⟨_, j1, j2, _⟩ := cit (iPq_cw hx.1.2.1 h.1.1.1.1) p1
      obtain ⟨u1, u2, u3, _⟩ := rit (iPq_rw hx.1.2.2 h.1.1.1.2) hx.1.1 p2
      have c := k118_at (q := q) (d := d + 2) (js := js) (x0 := x0) (x1 := x1) (x2 := x2) (x3 := (line : Int) + 1) (x4 := (it : Int)) (x5 := (x5 : Int)) (x7 := (k0 : Int) + 1) (en := en) (p := it + 1 + k) h34 (by omega) hen (by rw [j1, w1])
      have r' := q287_at (q := q) (d := d' + 4) (js := ks) (x0 := y0) (x1 := (line : Int)) (x2 := (k0 : Int)) u1 (by rw [u2, w2]; rfl)
      have ih := ypcs hx (x0 := x0) (x1 := x1) (x2 := x2) (y0 := y0) (x5 := x5) hit hki hN hen hl hpc hze m (k + 1) (p.2.1 - 1) e S T (by omega) (by omega) h
      have e3 : ((p.2.1 - 1 : Nat) : Int) + 1 = p.2.1 := by omega
      have e4 : (r.2.1 : Int) - 1 = ((p.2.1 - 1 : Nat) : Int) := by rw [w3]; omega
      rw [e3] at ih
      rw [c, r', j2, u3, e4, e1, e2]
      exact ih
    · rcases ypce (q := q) (d := d) (d' := d') (js := js) (ks := ks) (x0 := x0) (x1 := x1) (x2 := x2) (x4 := (it : Int)) (x5 := (x5 : Int)) (y0 := y0) (k0 := k0) (en := en) hx h p1 p2 w hl (by omega) (by omega) hen with ⟨S1, T1, wd, r1, ⟨k1, k2⟩, k3, c, r'⟩ | ⟨S1, T1, r1, c, r'⟩
      · have ih := ypcs hx (x0 := x0) (x1 := x1) (x2 := x2) (y0 := y0) (x5 := x5) hit hki hN hen hl hpc hze m (k + 1) (k0 + wd) e S1 T1 (by omega) (by omega) r1
        rw [c, r', e1, e2]
        rw [k1, k2] at ih
        exact ih
      · refine Or.inr ⟨2, _, _, _, Or.inl ⟨rfl, rfl⟩, yEr_pl r1, ?_, r'⟩
        rw [c]
        exact k118_er (by rw [r1.2.1]; decide) hit hen (hki S1 r1.1.1.1)
end YTYL
end YTY
