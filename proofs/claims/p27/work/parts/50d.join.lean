/-! UP TO BEHIND COMPILE -/
section YJN
/-- the law's frame behind compile -/
def lM (n : Nat) (a : Int64) (h : Int) (x : Nat) (x7 : yV) : List yV := [vr 79, vr 81, vi n, vj a, vu, vi h, vr x, x7, vu, vu, vu, vu, vu, vu, vu, vu, vu, vu, vu, vu, vu, vu, vu, vu, vu]
/-- the cells are the rows' -/
def lCl (q : yQ) (n : Nat) (f : Nat → Int64) : Prop := ∀ i, i < n → f (2 * i) = yi2l (lG q i) ∧ f (2 * i + 1) = yi2l (lV q i)
theorem y_163 {q : yQ} (hv : jV q.1) (hL : q.2.1 ≤ 260) : ∃ (S : yS) (js : List xO) (x : Nat) (x7 : yV) (f : Nat → Int64), yD q.1 900 0 0 (.ref 79 :: List.replicate 24 xU) [] (xB0 q.2.1 q.2.2) = Y q 900 0 163 (lM (lNn q) (lA q (lNn q)) ((lH q : Nat) : Int) x x7) [vi 0] S js ∧ pIn (lH q) (lNn q) f S ∧ lCl q (lNn q) f ∧ (gI S 29 = 0 ∧ gI S 30 = 0 ∧ gI S 31 = 0 ∧ gI S 32 = 0 ∧ gI S 33 = 0 ∧ gI S 34 = 0) ∧ js.length ≤ 500 ∧ xsum js ≤ 20000 := by
  obtain ⟨S0, js0, e0, l0, s0, a10, a11, a12, a4, c0, c1', n0, n1⟩ := y_front hv
  obtain ⟨S1, x3, x4, e1, f1, f2, f3⟩ := lput_all (q := q) (d := 897) (js := js0) hL a10 a11 c0 c1'
  have e1 : Y q 900 0 24 yL0 [] S0 js0 = Y q 900 0 130 (lL (lNn q) (lA q (lNn q)) ((lH q : Nat) : Int) x3 x4) [] S1 js0 := e1
  obtain ⟨js5, xa, xb, g, e2, hs, hg, l5, s5⟩ := y_text (q := q) (S := S1) hv l0 (lH_rng q) (Int32.ofInt ((lNn q : Nat) : Int)) (lA q (lNn q)) (yval x3) (yval x4)
  have e2 : Y q 900 0 130 (lL (lNn q) (lA q (lNn q)) ((lH q : Nat) : Int) x3 x4) [] S1 js0 = Y q 900 0 158 (lM (lNn q) (lA q (lNn q)) ((lH q : Nat) : Int) (135 + xa) x4) [vr 81] S1 (js0 ++ js5) := e2 839
  have b10 : gI S1 10 = 2 := (f1.1 10 rfl).trans a10
  have b12 : gI S1 12 = 0 := (f1.1 12 rfl).trans a12
  have b4 : gA S1 4 0 = 0 := by rw [f1.2.2.2.1 4 rfl]; exact a4
  have b20 : gA S1 20 = gA S0 20 := f1.2.2.2.1 20 rfl
  have b6 : gB S1 6 = gB S0 6 := f1.2.2.2.2.1 6 rfl
  obtain ⟨S2, js', e3, p1, p2, l6, s6⟩ := c3 (q := q) (d := 691) (js := js0 ++ js5) (S := S1) (n := lNn q) (f := gB S1 7) hv (lH_rng q) hs hg b12 b10 f2 (by rw [b6]; exact n0) (by rw [b6]; exact n1) (by rw [b20]; exact c0) (by rw [b20]; exact c1') b4 rfl
  refine ⟨S2, js0 ++ js5 ++ js', 135 + xa, x4, gB S1 7, ?_, p1, f3, p2, ?_, ?_⟩
  · rw [e0, e1, e2]
    unfold lM
    rw [w0c_158 (d := 899), e3, YB_ret]
  · rw [List.length_append, List.length_append]
    omega
  · rw [xsum_app, xsum_app]
    omega
end YJN
