/-! THE LAW, from behind compile to its end -/
section YLW
theorem lA_sum (q : yQ) : ∀ k, k ≤ 1000 → lA q k = yi2l (zS (lV q) k) ∧ -(99 * (k : Int)) ≤ zS (lV q) k ∧ zS (lV q) k ≤ 99 * (k : Int)
  | 0, _ => ⟨yi2l_0, by show -(99 * ((0 : Nat) : Int)) ≤ 0; omega, by show (0 : Int) ≤ 99 * ((0 : Nat) : Int); omega⟩
  | k + 1, h => by
    obtain ⟨h1, h2, h3⟩ := lA_sum q k (by omega)
    have hv := lV_rng q k
    have e : zS (lV q) (k + 1) = zS (lV q) k + lV q k := rfl
    refine ⟨?_, by rw [e]; omega, by rw [e]; omega⟩
    show lA q k + yi2l (lV q k) = _
    rw [h1, yi2l_add (by omega) (by omega), e]
theorem law_end {q : yQ} {js : List xO} {S : yS} {x : Nat} {x7 : yV} {f : Nat → Int64} (p : pIn (lH q) (lNn q) f S) (hc : lCl q (lNn q) f) (g30 : gI S 30 = 0) : ∃ S' : yS, Y q 900 0 163 (lM (lNn q) (lA q (lNn q)) ((lH q : Nat) : Int) x x7) [vi 0] S js = yret q (vi 1) S' js := by
  have hh := lH_rng q
  have hn := lNn_rng q
  obtain ⟨h, eh⟩ : ∃ h, h = lH q := ⟨_, rfl⟩
  obtain ⟨n, en⟩ : ∃ n, n = lNn q := ⟨_, rfl⟩
  rw [← eh, ← en] at p
  rw [← en] at hc hn
  rw [← eh] at hh
  rw [← eh, ← en]
  obtain ⟨V, hV⟩ : ∃ V : Nat → Int, V = fun j => lV q (wO f n j) := ⟨_, rfl⟩
  obtain ⟨G, hG⟩ : ∃ G : Nat → Int, G = fun j => lG q (wO f n j) := ⟨_, rfl⟩
  have hw : wRw n f (wO f n) V G := by
    refine ⟨fun i hi => (wO_rng hi).2, fun i hi => ⟨?_, ?_⟩, fun i hi => ?_, fun i => ?_⟩
    · rw [hG]
      exact (hc _ (wO_rng hi).2).1
    · rw [hG]
      exact lG_rng q _
    · rw [hV]
      exact (hc _ (wO_rng hi).2).2
    · rw [hV]
      exact lV_rng q _
  obtain ⟨a1, a2, a3⟩ := lA_sum q n (by omega)
  obtain ⟨A, hA⟩ : ∃ A, A = zS V n := ⟨_, rfl⟩
  have eA : A = zS (lV q) n := by
    rw [hA, hV]
    exact zS_order f (lV q) n
  rw [← eA] at a1 a2 a3
  have bA : -2300 ≤ A ∧ A ≤ 2300 := by omega
  rw [a1]
  obtain ⟨z1, z2, z3, z4, z5, z6⟩ := zF_ok (h - 1) V G n
  have zi := (zM_ok (h - 1) V G 0 0 n).2.2.2.1
  have eM : (zF (h - 1) V G n).2.1 = A := by
    rw [hA, ← zi]
    unfold zF
    split <;> rfl
  rw [← hA] at z1 z4
  obtain ⟨M, hM⟩ : ∃ M, M = zF (h - 1) V G n := ⟨_, rfl⟩
  obtain ⟨P, hP⟩ : ∃ P, P = wPn (h - 1) M.1 := ⟨_, rfl⟩
  obtain ⟨S1, b1, r1, c1, i1, j1⟩ := cRun (q := q) (d := 891) (js := js) hh hn hw p (r := 0) (by omega) g30
  rw [← hM] at r1 j1 z1 z2 z3 z4 z5 z6 eM
  rw [← hP] at r1 j1
  have b1 : Y q 899 175 0 [vr 81] [] S js = yret q (vi 0) S1 js := b1
  have hb1 := r1.1
  have g32 := r1.2.1.2.2.2.1
  obtain ⟨v16, -⟩ := r1.2.2.1
  have hP30 : P ≤ 30 := r1.2.2.2.2.2.1
  have hlen : M.1.length ≤ P * (h - 1) := r1.2.2.2.2.2.2.2
  obtain ⟨S2, b2, r2, c2, i2, j2⟩ := cRun (q := q) (d := 891) (js := js) hh hn hw hb1.1 (r := 1) (by omega) i1
  rw [← hM] at r2 j2
  rw [← hP] at r2 j2
  have b2 : Y q 899 175 0 [vr 81] [] S1 js = yret q (vi 0) S2 js := b2
  obtain ⟨S3, b3, r3, c3, i3, j3⟩ := cRun (q := q) (d := 891) (js := js) hh hn hw r2.1.1 (r := 2) (by omega) i2
  rw [← hM] at r3 j3
  rw [← hP] at r3 j3
  have b3 : Y q 899 175 0 [vr 81] [] S2 js = yret q (vi 0) S3 js := b3
  obtain ⟨D, hD⟩ := cDig (q := q) (js := js) (h := h) (n := n) (P := P) (f := f) (o := wO f n) (M := M) hh hn
  have d1 := (hD S1 r1).1 896
  have d1 : Y q 899 165 0 [vr 81, vu, vu, vu, vu] [] S1 js = yret q (vj (D S1)) S1 js := d1
  have d3 := (hD S3 r3).1 896
  have d3 : Y q 899 165 0 [vr 81, vu, vu, vu, vu] [] S3 js = yret q (vj (D S3)) S3 js := d3
  have dd : D S3 = D S1 := (hD S1 r1).2 S3 r3 (j3.trans j1.symm)
  have z0 : yr 0 = 0 := rfl
  have same : ∀ a : Int64, yr (ylcmp a a) = 0 := fun a => by
    rw [yr_lcmp, ylcmp_eq]
  -- what is told
  have t1 : Y q 899 176 0 [vr 81, vi 1] [] S1 js = yret q (vi (P : Int)) S1 js := by
    rw [c176 (by omega), if_pos (by omega), if_neg (by decide), if_pos rfl, hb1.2.2.1]
  have t0 : Y q 899 176 0 [vr 81, vi 0] [] S1 js = yret q (vi (P : Int)) S1 js := by
    rw [c176 (by omega), if_pos (by omega), if_pos rfl, j1]
  have t2 : Y q 899 176 0 [vr 81, vi 2] [] S1 js = yret q (vi (n : Int)) S1 js := by
    rw [c176 (by omega), if_pos (by omega), if_neg (by decide), if_neg (by decide), if_pos rfl, g32]
  have t0' : Y q 899 176 0 [vr 81, vi 0] [] S2 js = yret q (vi (P : Int)) S2 js := by
    rw [c176 (by omega), if_pos (by omega), if_pos rfl, j2]
  have u0 : Y q 899 181 0 [vr 81, vi 0] [] S1 js = yret q (vj (yi2l A)) S1 js := by
    have e1 : gA S1 30 16 = 0 := v16.1
    have e2 : gB S1 9 16 = yi2l M.2.1 := v16.2.1
    have k := c181 (q := q) (d := 898) (js := js) (S := S1) (x := 0) (by omega) (by rw [i1]; omega) (fun _ => by rw [hb1.1.i9]; omega)
    rw [if_pos (by rw [i1, hb1.1.i9]; omega)] at k
    have e16 : 16 + (0 : Int).toNat = 16 := rfl
    rw [e16, e1, if_pos z0, e2, eM] at k
    exact k
  have w0 : Y q 899 182 0 [vr 81, vi 0] [] S1 js = yret q (vi ((zC G n : Nat) : Int)) S1 js := by
    have k := c182 (q := q) (d := 899) (js := js) (S := S1) (x := 0) (by omega) (by rw [i1]; omega) (fun _ => by rw [hb1.1.i24]; omega)
    rw [if_pos (by rw [i1, hb1.1.i24]; omega)] at k
    have e0 : (0 : Int).toNat = 0 := rfl
    rw [e0, c1] at k
    exact k
  -- the pages
  obtain ⟨w', y12, y13, y14, y15, y16, e1, hw'⟩ := lPages (q := q) (d := 896) (js := js) (x := x) (dg := D S1) hh hn hw r1 hP z1 z2 bA P 0 (0, 0, 0, 0, 0, 0) (by omega) (by rw [Nat.zero_mul]; rfl) vu vu vu vu vu
  have tl := zw_tail (h - 1) M.1 (P * (h - 1) - M.1.length)
  rw [show M.1.length + (P * (h - 1) - M.1.length) = P * (h - 1) by omega, ← hw', z2, z3, z4, z5, z6] at tl
  obtain ⟨l1, l2, l3, l4, l5⟩ := tl
  rw [l1, l2, l3, l4, l5] at e1
  have e1 : Y q 900 0 237 [vr 79, vr 81, vi n, vj (yi2l A), vu, vi h, vr x, vj (D S1), vu, vi P, vj 0, vu, vi 0, vi 0, vi 0, vj 0, vu, vi 1, vu, vu, vu, vu, vu, vu, vu] [] S1 js = Y q 900 0 237 (lFr n h x P (yi2l A) (D S1) (yi2l A) ((1 : Nat) : Int) ((zC G n : Nat) : Int) (n : Int) (yi2l 0) ((P + 1 : Nat) : Int) y12 y13 y14 y15 y16) [] S1 js := e1
  have y1 : yr ((1 : Nat) : Int) = yr 1 := rfl
  have eg : yr (ylcmp (yi2l 0) 0) = 0 := by
    rw [← yi2l_0]
    exact same 0
  refine ⟨S3, ?_⟩
  unfold lM
  rw [w0b_163 (d := 899), if_pos z0, b1, YB_ret, w0b_170 (d := 899), if_pos z0, d1, YB_ret, w0b_179 (d := 899), t1, YB_ret, w0b_186 (d := 899), t0, YB_ret, w0b_193 (d := 899), if_pos rfl, u0, YB_ret, w0b_203 (d := 899), if_pos (same _), t2, YB_ret, w0b_213, if_pos rfl, e1]
  unfold lFr
  rw [w0b_237 (d := 899), yrn (n := P) (by omega), yrn (n := P + 1) (by omega), if_pos (by omega), if_pos (same _), y1, if_pos rfl, w0, YB_ret, w0b_562 (d := 899), if_pos rfl, if_pos rfl, if_pos eg, b2, YB_ret, w0b_584 (d := 899), if_pos z0, t0', YB_ret, w0b_592 (d := 899), if_pos rfl, b3, YB_ret, w0b_601 (d := 899), if_pos z0, d3, YB_ret, w0b_608, dd, if_pos (same _), if_pos (by decide)]
theorem x_pure : xPure := by
  intro v L xs hv hL
  obtain ⟨S, js, x, x7, f, e1, p, hc, ⟨-, g30, -⟩, l1, l2⟩ := y_163 (q := (v, L, xs)) hv hL
  obtain ⟨S', e2⟩ := law_end (q := (v, L, xs)) (js := js) (x := x) (x7 := x7) p hc g30
  have e3 : yD v 900 0 0 (.ref 79 :: List.replicate 24 xU) [] (xB0 L xs) = some (.inl (some (.int 1)), yH (v, L, xs) S' js) := e1.trans e2
  obtain ⟨fuel, hf⟩ := yD_iff.mp e3
  refine ⟨fuel, yH (v, L, xs) S' js, hf, ?_, ?_⟩
  · rw [yH_len]
    omega
  · have := yT_sum
    rw [yH_sum]
    show xsum (xB0 L xs) + (yT.map yKsz).sum + xsum js ≤ 7301442 + xsum (xB0 L xs)
    omega
end YLW
