/-! THE REFERENCE's MACHINE is one -/
section YRM
def rRp (S0 S : yS) (st : List yVal) : Prop := yFr yWp S0 S ∧ gI S 63 = st.length ∧ ∀ (i : Nat) (v : yVal), st[i]? = some v → rV S i v
noncomputable abbrev rHd (q : yQ) (d : Nat) (js : List xO) (u : Nat) (x0 : Int) (S : yS) (pc : Nat) (x2 x3 : yV) : Option xRes := Y q (d + 4) 258 7 [vr 129, vr (ru u), vi x0, vi pc, x2, x3, vu] [] S js
def rR (q : yQ) (d : Nat) (js : List xO) (u : Nat) (x0 : Int) (S0 : yS) (a b : ySt) : Prop := ∀ S x2 x3, rRp S0 S a.2 → ∃ S' y2 y3, rRp S0 S' b.2 ∧ rHd q d js u x0 S a.1 x2 x3 = rHd q d js u x0 S' b.1 y2 y3
def rEE (q : yQ) (d : Nat) (js : List xO) (u : Nat) (x0 : Int) (S0 : yS) (a : ySt) : Prop := ∀ S x2 x3, rRp S0 S a.2 → ∃ S', yFr yWp S0 S' ∧ rHd q d js u x0 S a.1 x2 x3 = ythr q (ystp 2 (Int32.ofInt (-1))) S' js
section YRML
variable {q : yQ} {d : Nat} {js : List xO} {S S' S0 : yS} {u n : Nat} {x0 : Int}
theorem rRp_put {st r : List yVal} {v : yVal} (h : rRp S0 S (st ++ r)) (hp : rPs st.length S S' v) : rRp S0 S' (st ++ [v]) := by
  obtain ⟨h1, h2, h3⟩ := h
  obtain ⟨p1, p2, p3⟩ := hp
  refine ⟨yFr_tr h1 p1.1, by rw [p2, List.length_append]; rfl, fun i w hi => ?_⟩
  have hl := (List.getElem?_eq_some_iff.mp hi).1
  rw [List.length_append] at hl
  have hl : i < st.length + 1 := hl
  by_cases z : i < st.length
  · rw [List.getElem?_append_left z] at hi
    exact rV_fs p1 (by omega) (h3 i w (by rw [List.getElem?_append_left z]; exact hi))
  · have ei : i = st.length := by omega
    subst ei
    rw [List.getElem?_append_right (Nat.le_refl _), Nat.sub_self] at hi
    have e : v = w := Option.some.inj hi
    rw [← e]
    exact p3
theorem rRp_at {st r : List yVal} {v : yVal} (j : Nat) (h : rRp S0 S (st ++ r)) (hj : r[j]? = some v) : rV S (st.length + j) v :=
  h.2.2 _ _ (by rw [List.getElem?_append_right (by omega), show st.length + j - st.length = j by omega]; exact hj)
theorem rRp_p {st r : List yVal} (h : rRp S0 S (st ++ r)) : gI S 63 = ((st.length + r.length : Nat) : Int) := by rw [h.2.1, List.length_append]
theorem rK_m {C : yCo} (hu : u = 0 ∨ u = 1) (h : rK S0 u C) (hf : yFr yWp S0 S) : rK S u C := by
  obtain ⟨f1, f2, f3, f4, f5, f6⟩ := hf
  rcases hu with rfl | rfl
  · refine ⟨(f1 _ rfl).trans h.1, fun j x hj => ?_⟩
    rw [f4 _ rfl, f5 _ rfl]
    exact h.2 j x hj
  · refine ⟨(f1 _ rfl).trans h.1, fun j x hj => ?_⟩
    rw [f4 _ rfl, f5 _ rfl]
    exact h.2 j x hj
theorem rX_m {X : List (Nat × Nat)} {tx : Nat → Nat → List Int} {Tk : Nat → Nat → Prop} (hu : u = 0 ∨ u = 1) (h : rXt S0 u X tx Tk) (hf : yFr yWp S0 S) : rXt S u X tx Tk := by
  obtain ⟨f1, f2, f3, f4, f5, f6⟩ := hf
  rcases hu with rfl | rfl
  · refine ⟨h.1, fun k l hk => ?_⟩
    rw [f4 _ rfl, f4 _ rfl, f4 _ rfl]
    exact h.2 k l hk
  · refine ⟨h.1, fun k l hk => ?_⟩
    rw [f4 _ rfl, f4 _ rfl, f4 _ rfl]
    exact h.2 k l hk
theorem rVv_m {k : Nat} {v : yVal} (h : rVv S0 k v) (hf : yFr yWp S0 S) : rVv S k v := by
  obtain ⟨f1, f2, f3, f4, f5, f6⟩ := hf
  match v, h with
  | .inl x, h => exact ⟨by rw [f4 _ rfl]; exact h.1, by rw [f5 _ rfl]; exact h.2⟩
  | .inr l, h => exact ⟨by rw [f4 _ rfl]; exact h.1, h.2.1, fun i y hi => by rw [f4 _ rfl]; exact h.2.2 i y hi⟩
theorem rsp_m {k : Nat} (hf : yFr yWp S0 S) : rsp S k = rsp S0 k := by
  unfold rsp
  rw [hf.1 _ rfl, hf.1 _ rfl, hf.1 _ rfl, hf.2.1 _ rfl]
/-- a load -/
theorem rR_load {C : yCo} {pc op : Nat} {z : Int64} {st : List yVal} {v : yVal} (hu : u = 0 ∨ u = 1) (hK : rK S0 u C) (hC : C.length ≤ 8000) (hc : C[pc]? = some (op, z)) (ho : op ≤ 5) (h259 : ∀ S : yS, yFr yWp S0 S → gI S 63 = st.length → ∃ S' : yS, Y q (d + 3) 259 0 [vr 129, vr (ru u), vi op, vj z, vu, vu] [] S js = yretv q S' js ∧ rPs st.length S S' v) : rR q d js u x0 S0 (pc, st) (pc + 1, st ++ [v]) := by
  intro S x2 x3 hS
  obtain ⟨S', a1, a2⟩ := h259 S hS.1 hS.2.1
  have hS0 : rRp S0 S (st ++ []) := by rw [List.append_nil]; exact hS
  refine ⟨S', vi op, vj z, rRp_put hS0 a2, ?_⟩
  show Y q (d + 4) 258 7 [vr 129, vr (ru u), vi x0, vi pc, x2, x3, vu] [] S js = Y q (d + 4) 258 7 [vr 129, vr (ru u), vi x0, vi ((pc + 1 : Nat) : Int), vi op, vj z, vu] [] S' js
  rw [h258 hu (rK_m hu hK hS.1) hC hc (by omega), if_neg (by omega), if_neg (by omega), if_neg (by omega), a1, YB_retv, u258_104 hu]
theorem r259_0 {z : Int64} (hu : u = 0 ∨ u = 1) (hn : n < 128) (hp : gI S 63 = n) : ∃ S' : yS, Y q (d + 3) 259 0 [vr 129, vr (ru u), vi ((0 : Nat) : Int), vj z, vu, vu] [] S js = yretv q S' js ∧ rPs n S S' (.inl z) := by
  obtain ⟨S', a1, a2⟩ := r260 (q := q) (d := d + 2) (js := js) (x := z) hn hp
  refine ⟨S', ?_, a2⟩
  show Y q (d + 3) 259 0 [vr 129, vr (ru u), vi 0, vj z, vu, vu] [] S js = _
  rw [u259_0 hu, if_pos yr_0, a1, YB_retv, u259_45 hu]
theorem r259_1 {X : List (Nat × Nat)} {tx : Nat → Nat → List Int} {Tk : Nat → Nat → Prop} {k : Nat} {p : Nat × Nat} (hu : u = 0 ∨ u = 1) (hn : n < 128) (hp : gI S 63 = n) (hX : rXt S u X tx Tk) (hl : X[k]? = some p) (hT : Tk p.1 p.2) : ∃ S' : yS, Y q (d + 3) 259 0 [vr 129, vr (ru u), vi ((1 : Nat) : Int), vj (ya64 k), vu, vu] [] S js = yretv q S' js ∧ rPs n S S' (.inr (tx p.1 p.2)) := by
  have hk := (List.getElem?_eq_some_iff.mp hl).1
  have hX1 := hX.1
  obtain ⟨h2, h3, hq⟩ := hX.2 k p hl
  obtain ⟨h1, h60, h4, h5⟩ := hq hT
  have er : rsl u = 8 + u := by rcases hu with rfl | rfl <;> rfl
  have ec : rcp u = 2000 := by rcases hu with rfl | rfl <;> rfl
  obtain ⟨S', a1, a2⟩ := r261 (q := q) (d := d + 1) (js := js) (u := u) (f := p.1) (r := tx p.1 p.2) (by omega) hn (by rw [ec, h1]; omega) (by rw [h1]; exact h60) hp (fun j y hj => by rw [er]; exact h5 j y hj)
  refine ⟨S', ?_, a2⟩
  have e1 : yr 1 = 1 := rfl
  have ek : yl2i (ya64 k) = k := yl2i_a64 (by omega)
  have eyk : yr (k : Int) = k := yr_eq (by omega) (by omega)
  have k1 : 0 ≤ (k : Int) ∧ (k : Int) < 2000 := by omega
  show Y q (d + 3) 259 0 [vr 129, vr (ru u), vi 1, vj (ya64 k), vu, vu] [] S js = _
  rw [u259_0 hu, e1]
  simp only [Int.reduceEq, if_true, if_false]
  rw [h1] at a1
  rw [ek, eyk, if_pos k1, if_pos k1, Int.toNat_natCast, h2, h3, a1, YB_retv, u259_70 hu]
theorem r259_v {op k : Nat} {e : yEnv} {A : Nat → Nat → Prop} (hu : u = 0 ∨ u = 1) (hn : n < 64) (hp : gI S 63 = n) (hf : yFr yWp S0 S) (he : rEn q (d + 1) js S0 A e) (h1 : 2 ≤ op) (h2 : op ≤ 5) (hk : k < 8) (hk2 : 8 * op + k < 43) (hA : A op k) : ∃ S' : yS, Y q (d + 3) 259 0 [vr 129, vr (ru u), vi op, vj (ya64 k), vu, vu] [] S js = yretv q S' js ∧ rPs n S S' (e op k) := by
  have e2 : yr 2 = 2 := rfl
  have e3 : yr 3 = 3 := rfl
  have e4 : yr 4 = 4 := rfl
  have e5 : yr 5 = 5 := rfl
  have ek : yl2i (ya64 k) = k := yl2i_a64 (by omega)
  obtain ⟨g1, g2, g3⟩ := he
  have ho : op = 2 ∨ op = 3 ∨ op = 4 ∨ op = 5 := by omega
  rcases ho with rfl | rfl | rfl | rfl
  · obtain ⟨S', a1, a2⟩ := g1 k hk hA S n hf hp hn
    refine ⟨S', ?_, a2⟩
    show Y q (d + 3) 259 0 [vr 129, vr (ru u), vi 2, vj (ya64 k), vu, vu] [] S js = _
    rw [u259_0 hu, e2]
    simp only [Int.reduceEq, if_true, if_false]
    rw [ek, a1, YB_retv, u259_79 hu]
  · obtain ⟨S', a1, a2⟩ := r265 (q := q) (d := d) (js := js) (k := 8 * (3 - 3) + k) (by omega) hp (by omega) (rVv_m (g2 3 k (Or.inl rfl) hk hA) hf)
    refine ⟨S', ?_, a2⟩
    show Y q (d + 3) 259 0 [vr 129, vr (ru u), vi 3, vj (ya64 k), vu, vu] [] S js = _
    rw [u259_0 hu, e3]
    simp only [Int.reduceEq, if_true, if_false]
    rw [show 8 * (3 - 3) + k = k by omega] at a1
    rw [ek, a1, YB_retv, u259_88 hu]
  · obtain ⟨S', a1, a2⟩ := r265 (q := q) (d := d) (js := js) (k := 8 * (4 - 3) + k) (by omega) hp (by omega) (rVv_m (g2 4 k (Or.inr rfl) hk hA) hf)
    refine ⟨S', ?_, a2⟩
    show Y q (d + 3) 259 0 [vr 129, vr (ru u), vi 4, vj (ya64 k), vu, vu] [] S js = _
    rw [u259_0 hu, e4]
    simp only [Int.reduceEq, if_true, if_false]
    rw [ek, show (8 : Int) + (k : Int) = ((8 * (4 - 3) + k : Nat) : Int) by omega, a1, YB_retv, u259_100 hu]
  · obtain ⟨S', a1, a2⟩ := r260 (q := q) (d := d + 2) (js := js) (x := rsp S k) (show n < 128 by omega) hp
    rw [rsp_m hf, ← rsp_m hf] at a2
    refine ⟨S', ?_, by rw [g3 k (by omega) hA, ← rsp_m hf]; exact a2⟩
    show Y q (d + 3) 259 0 [vr 129, vr (ru u), vi 5, vj (ya64 k), vu, vu] [] S js = _
    rw [u259_0 hu, e5]
    simp only [Int.reduceEq, if_true, if_false]
    rw [ek, r266 (by omega), YB_ret, u259_110 hu, a1, YB_retv, u259_113 hu]
/-- an instruction's work -/
theorem rR_two {C : yCo} {pc op : Nat} {z : Int64} {st : List yVal} {v w r : yVal} (hu : u = 0 ∨ u = 1) (hK : rK S0 u C) (hC : C.length ≤ 8000) (hc : C[pc]? = some (op, z)) (hn : st.length ≤ 60) (hf : yft2 op v w) (hr : yO2 op v w = some r) : rR q d js u x0 S0 (pc, st ++ [v, w]) (pc + 1, st ++ [r]) := by
  intro S x2 x3 hS
  have hp : gI S 63 = ((st.length + 2 : Nat) : Int) := rRp_p hS
  have hv := rRp_at 0 hS rfl
  have hw := rRp_at 1 hS rfl
  rw [Nat.add_zero] at hv
  show ∃ S' y2 y3, rRp S0 S' (st ++ [r]) ∧ Y q (d + 4) 258 7 [vr 129, vr (ru u), vi x0, vi pc, x2, x3, vu] [] S js = Y q (d + 4) 258 7 [vr 129, vr (ru u), vi x0, vi ((pc + 1 : Nat) : Int), y2, y3, vu] [] S' js
  match v, w, hf, hr, hv, hw, hS with
  | .inl a, .inl b, hf, hr, hv, hw, hS =>
    have hf : (6 ≤ op ∧ op ≤ 10) ∨ (12 ≤ op ∧ op ≤ 17) ∨ op = 26 ∨ op = 27 := hf
    by_cases z1 : 12 ≤ op ∧ op ≤ 17
    · obtain ⟨S', a1, a2⟩ := r269 (q := q) (d := d + 2) (js := js) (n := st.length) z1 (v := .inl a) (w := .inl b) hf hr (by omega) hp hv hw
      refine ⟨S', vi op, vj z, rRp_put hS a2, ?_⟩
      rw [h258 hu (rK_m hu hK hS.1) hC hc (by omega), if_neg (by omega), if_neg (by omega), if_pos (by omega), if_neg (by omega), if_neg (by omega), if_neg (by omega), if_neg (by omega), if_pos (by omega), a1, YB_retv, u258_167 hu]
    · have hr : (if (op = 9 ∨ op = 10) ∧ b = 0 then none else some (Sum.inl (ycal op a b))) = some r := hr
      have h0 : op = 9 ∨ op = 10 → b ≠ 0 := fun h h2 => by rw [if_pos ⟨h, h2⟩] at hr; nomatch hr
      rw [if_neg (fun h => h0 h.1 h.2)] at hr
      have hr := Option.some.inj hr
      obtain ⟨S', a1, a2⟩ := r267 (q := q) (d := d + 2) (js := js) (n := st.length) (op := op) (by omega) (by omega) hp hv hw h0
      rw [hr] at a2
      refine ⟨S', vi op, vj z, rRp_put hS a2, ?_⟩
      rw [h258 hu (rK_m hu hK hS.1) hC hc (by omega), if_neg (by omega), if_neg (by omega), if_pos (by omega), a1, YB_retv, u258_134 hu]
      by_cases z2 : (op : Int) < 11
      · rw [if_pos z2]
      · rw [if_neg z2]
        by_cases z3 : (op : Int) = 26
        · rw [if_pos z3]
        · rw [if_neg z3, if_pos (by omega)]
  | .inr l, .inr m, hf, hr, hv, hw, hS =>
    have hf2 : 11 ≤ op ∧ op ≤ 17 ∧ l.length ≤ 60 ∧ m.length ≤ 60 := hf
    by_cases z1 : op = 11
    · have hr : (if op = 11 then some (Sum.inr ((l ++ m).take 60)) else some (Sum.inl (ycal op (yi2l (ycmT l m)) 0))) = some r := hr
      rw [if_pos z1] at hr
      have hr := Option.some.inj hr
      obtain ⟨S', a1, a2⟩ := r268 (q := q) (d := d + 2) (js := js) (n := st.length) (by omega) hp hv hw
      rw [hr] at a2
      refine ⟨S', vi op, vj z, rRp_put hS a2, ?_⟩
      rw [h258 hu (rK_m hu hK hS.1) hC hc (by omega), if_neg (by omega), if_neg (by omega), if_pos (by omega), if_neg (by omega), if_neg (by omega), if_neg (by omega), if_pos (by omega), a1, YB_retv, u258_148 hu]
    · obtain ⟨S', a1, a2⟩ := r269 (q := q) (d := d + 2) (js := js) (n := st.length) (op := op) (by omega) (v := .inr l) (w := .inr m) hf hr (by omega) hp hv hw
      refine ⟨S', vi op, vj z, rRp_put hS a2, ?_⟩
      rw [h258 hu (rK_m hu hK hS.1) hC hc (by omega), if_neg (by omega), if_neg (by omega), if_pos (by omega), if_neg (by omega), if_neg (by omega), if_neg (by omega), if_neg (by omega), if_pos (by omega), a1, YB_retv, u258_167 hu]
theorem rE_div {C : yCo} {pc op : Nat} {z : Int64} {st : List yVal} {a : Int64} (hu : u = 0 ∨ u = 1) (hK : rK S0 u C) (hC : C.length ≤ 8000) (hc : C[pc]? = some (op, z)) (ho : op = 9 ∨ op = 10) (hn : st.length ≤ 60) : rEE q d js u x0 S0 (pc, st ++ [.inl a, .inl 0]) := by
  intro S x2 x3 hS
  have hp : gI S 63 = ((st.length + 2 : Nat) : Int) := rRp_p hS
  have hv := rRp_at 0 hS (v := .inl a) rfl
  have hw := rRp_at 1 hS (v := .inl 0) rfl
  rw [Nat.add_zero] at hv
  refine ⟨sI S 63 ((st.length + 1 : Nat) : Int), yFr_tr hS.1 (yFr_I rfl), ?_⟩
  show Y q (d + 4) 258 7 [vr 129, vr (ru u), vi x0, vi pc, x2, x3, vu] [] S js = _
  rw [h258 hu (rK_m hu hK hS.1) hC hc (by omega), if_neg (by omega), if_neg (by omega), if_pos (by omega), if_pos (by omega), r267_0 ho (by omega) hp hv hw, t258]
theorem rMach {C : yCo} {X : List (Nat × Nat)} {tx : Nat → Nat → List Int} {Tk : Nat → Nat → Prop} {e : yEnv} {A : Nat → Nat → Prop} (hu : u = 0 ∨ u = 1) (hK : rK S0 u C) (hC : C.length ≤ 8000) (hX : rXt S0 u X tx Tk) (he : rEn q (d + 1) js S0 A e) : yMach C X tx Tk e A (rR q d js u x0 S0) (rEE q d js u x0 S0) := by
  refine ⟨fun a S x2 x3 hS => ⟨S, x2, x3, hS, rfl⟩, fun a b c h1 h2 S x2 x3 hS => ?_, fun a b h1 h2 S x2 x3 hS => ?_, ?_, ?_, ?_, ?_, ?_, ?_, ?_, ?_⟩
  · obtain ⟨S1, a2, a3, b1, b2⟩ := h1 S x2 x3 hS
    obtain ⟨S2, c2, c3, d1, d2⟩ := h2 S1 a2 a3 b1
    exact ⟨S2, c2, c3, d1, b2.trans d2⟩
  · obtain ⟨S1, a2, a3, b1, b2⟩ := h1 S x2 x3 hS
    obtain ⟨S2, d1, d2⟩ := h2 S1 a2 a3 b1
    exact ⟨S2, d1, b2.trans d2⟩
  · intro pc st v hc hn
    exact rR_load hu hK hC hc (by omega) (fun S hS hp => r259_0 hu (by omega) hp)
  · intro pc st k p hc hl h60 hn
    exact rR_load hu hK hC hc (by omega) (fun S hS hp => r259_1 hu (by omega) hp (rX_m hu hX hS) hl h60)
  · intro pc st op k hc h1 h2 hk hk2 hA hn
    exact rR_load hu hK hC hc h2 (fun S hS hp => r259_v hu (by omega) hp hS he h1 h2 hk hk2 hA)
  · intro pc st a hc ha ha2 hn S x2 x3 hS
    refine ⟨S, vi ((28 : Nat) : Int), vj (ya64 a), hS, ?_⟩
    show Y q (d + 4) 258 7 [vr 129, vr (ru u), vi x0, vi pc, x2, x3, vu] [] S js = _
    rw [h258 hu (rK_m hu hK hS.1) hC hc (by omega), if_pos (by rfl), yl2i_a64 (by omega)]
  · intro pc st n a hc ha ha2 hn S x2 x3 hS
    have hp : gI S 63 = ((st.length + 1 : Nat) : Int) := rRp_p hS
    have hv := rRp_at 0 hS (v := .inl n) rfl
    rw [Nat.add_zero] at hv
    have e1 : ((st.length + 1 : Nat) : Int) - 1 = (st.length : Int) := by omega
    have en : yr (st.length : Int) = st.length := yr_eq (by omega) (by omega)
    have k1 : 0 ≤ (st.length : Int) ∧ (st.length : Int) < 128 := by omega
    have hS' : rRp S0 (sI S 63 (st.length : Int)) st := ⟨yFr_tr hS.1 (yFr_I rfl), gI_self _ _ _, fun i w hi => rV_63 (hS.2.2 i w (by rw [List.getElem?_append_left (List.getElem?_eq_some_iff.mp hi).1]; exact hi))⟩
    refine ⟨sI S 63 (st.length : Int), vi ((29 : Nat) : Int), vj (ya64 a), hS', ?_⟩
    show Y q (d + 4) 258 7 [vr 129, vr (ru u), vi x0, vi pc, x2, x3, vu] [] S js = _
    rw [h258 hu (rK_m hu hK hS.1) hC hc (by omega), if_neg (by omega), if_pos (by rfl), hp, e1, en, if_pos k1, Int.toNat_natCast, hv.2, yl2i_a64 (by omega)]
    simp only [yr_lcmp, ylcmp_eq]
    by_cases z : n = 0
    · rw [if_pos z]
      simp only [z, if_true]
    · rw [if_neg z]
      simp only [z, if_false]
  · intro pc st op z v hc hn hf S x2 x3 hS
    have hp : gI S 63 = ((st.length + 1 : Nat) : Int) := rRp_p hS
    have hv := rRp_at 0 hS (v := v) rfl
    rw [Nat.add_zero] at hv
    have hop : 18 ≤ op ∧ op ≤ 25 := by
      match v, hf with
      | .inl x, hf =>
        have hf : op = 18 ∨ op = 19 ∨ op = 23 ∨ op = 24 ∨ op = 25 := hf
        omega
      | .inr l, hf =>
        have hf : (op = 20 ∨ op = 21) ∧ l.length ≤ 60 := hf
        omega
    obtain ⟨S', a1, a2⟩ := r271_1 (q := q) (d := d + 1) (js := js) (n := st.length) hf (by omega) hp hv
    refine ⟨S', vi op, vj z, rRp_put hS a2, ?_⟩
    show Y q (d + 4) 258 7 [vr 129, vr (ru u), vi x0, vi pc, x2, x3, vu] [] S js = Y q (d + 4) 258 7 [vr 129, vr (ru u), vi x0, vi ((pc + 1 : Nat) : Int), vi op, vj z, vu] [] S' js
    rw [h258 hu (rK_m hu hK hS.1) hC hc (by omega), if_neg (by omega), if_neg (by omega), if_pos (by omega), if_neg (by omega), if_neg (by omega), if_neg (by omega), if_neg (by omega), if_neg (by omega), a1, YB_retv, u258_176 hu]
  · intro pc st op z v w hc hn hf
    cases hr : yO2 op v w with
    | some r => exact rR_two hu hK hC hc hn hf hr
    | none =>
      match v, w, hf, hr with
      | .inl x, .inl y, hf, hr =>
        have hr : (if (op = 9 ∨ op = 10) ∧ y = 0 then none else some (Sum.inl (ycal op x y))) = none := hr
        by_cases z9 : (op = 9 ∨ op = 10) ∧ y = 0
        · obtain ⟨z9, rfl⟩ := z9
          exact rE_div hu hK hC hc z9 hn
        · rw [if_neg z9] at hr
          nomatch hr
      | .inr l, .inr m, hf, hr =>
        have hr : (if op = 11 then some (Sum.inr ((l ++ m).take 60)) else some (Sum.inl (ycal op (yi2l (ycmT l m)) 0))) = none := hr
        split at hr <;> nomatch hr
  · intro pc st z l m n hc hn hl S x2 x3 hS
    have hp : gI S 63 = ((st.length + 3 : Nat) : Int) := rRp_p hS
    have h0 := rRp_at 0 hS (v := .inr l) rfl
    have h1 := rRp_at 1 hS (v := .inl m) rfl
    have h2 := rRp_at 2 hS (v := .inl n) rfl
    rw [Nat.add_zero] at h0
    obtain ⟨S', a1, a2⟩ := r271_3 (q := q) (d := d + 1) (js := js) (n := st.length) (by omega) hp h0 h1 h2
    refine ⟨S', vi ((22 : Nat) : Int), vj z, rRp_put hS a2, ?_⟩
    have a1 : Y q (d + 3) 271 0 [vr 129, vi ((22 : Nat) : Int), vu, vu, vu, vu] [] S js = yretv q S' js := a1
    show Y q (d + 4) 258 7 [vr 129, vr (ru u), vi x0, vi pc, x2, x3, vu] [] S js = Y q (d + 4) 258 7 [vr 129, vr (ru u), vi x0, vi ((pc + 1 : Nat) : Int), vi ((22 : Nat) : Int), vj z, vu] [] S' js
    rw [h258 hu (rK_m hu hK hS.1) hC hc (by omega), if_neg (by omega), if_neg (by omega), if_pos (by omega), if_neg (by omega), if_neg (by omega), if_neg (by omega), if_neg (by omega), if_neg (by omega), a1, YB_retv, u258_176 hu]
/-- an expression's code, from its first instruction to its end -/
theorem r258 {C : yCo} {e : yEnv} {base b b' : Nat} {x : yX} {z : Int64} (hu : u = 0 ∨ u = 1) (hK : rK S0 u C) (hC : C.length ≤ 8000) (hb : b ≤ b' + 124) (hr : yRun e (rR q d js u (base : Int) (sI S0 63 0)) (rEE q d js u (base : Int) (sI S0 63 0)) base b b' x) (he : C[base + x.2.2.1.length]? = some (30, z)) : match x.2.2.2.2 e with
    | some v => yvt v x.1 ∧ ∃ S' : yS, Y q (d + 4) 258 0 [vr 129, vr (ru u), vi base, vu, vu, vu, vu] [] S0 js = yretv q S' js ∧ rRp (sI S0 63 0) S' [v]
    | none => ∃ S' : yS, Y q (d + 4) 258 0 [vr 129, vr (ru u), vi base, vu, vu, vu, vu] [] S0 js = ythr q (ystp 2 (Int32.ofInt (-1))) S' js ∧ yFr yWp S0 S' := by
  have h0 := hr [] (by show 2 * 0 + (b - b') ≤ 124; omega)
  have hS : rRp (sI S0 63 0) (sI S0 63 0) [] := ⟨yFr_rf _ _, gI_self _ _ _, fun i v h => nomatch h⟩
  have hf : yFr yWp S0 (sI S0 63 0) := yFr_I rfl
  match hd : x.2.2.2.2 e with
  | some v =>
    rw [hd] at h0
    obtain ⟨h1, h2⟩ := h0
    obtain ⟨S', y2, y3, b1, b2⟩ := h2 (sI S0 63 0) vu vu hS
    refine ⟨h1, S', ?_, b1⟩
    rw [u258_0 hu]
    refine b2.trans ?_
    exact h258e hu (rK_m hu hK (yFr_tr hf b1.1)) hC he
  | none =>
    rw [hd] at h0
    obtain ⟨S', b1, b2⟩ := h0 (sI S0 63 0) vu vu hS
    exact ⟨S', by rw [u258_0 hu]; exact b2, yFr_tr hf b1⟩
end YRML
end YRM
