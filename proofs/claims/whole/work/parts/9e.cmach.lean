/-! THE CLASS's MACHINE is one -/
section YCY
/-- the pile, over what was there -/
def cRp (S0 S : yS) (st : List yVal) : Prop := yFr yWm S0 S ∧ (∀ m, m < 28 → gA S 30 m = gA S0 30 m ∧ gB S 9 m = gB S0 9 m ∧ gA S 31 m = gA S0 31 m) ∧ (∀ j, j < 1680 → gA S 32 j = gA S0 32 j) ∧ ∀ (i : Nat) (v : yVal), st[i]? = some v → cV S (28 + i) v
def cEn (S0 : yS) (A : Nat → Nat → Prop) (e : yEnv) : Prop := ∀ op k, 2 ≤ op → op ≤ 5 → k < 8 → 8 * op + k < 43 → A op k → cV S0 (8 * (op - 2) + k) (e op k)
noncomputable abbrev cHd (q : yQ) (d : Nat) (js : List xO) (u : Nat) (x0 : Int) (S : yS) (pc n i : Nat) (x4 x5 : yV) : Option xRes := Y q (d + 2) 75 9 [vr 118, vr (cu u), vi x0, vi pc, vi ((27 + n : Nat) : Int), vi i, x4, x5, vu] [] S js
def cR (q : yQ) (d : Nat) (js : List xO) (u : Nat) (x0 : Int) (S0 : yS) (a b : ySt) : Prop := a.1 ≤ b.1 ∧ ∀ S i x4 x5, cRp S0 S a.2 → i ≤ a.1 → ∃ S' i' y4 y5, cRp S0 S' b.2 ∧ i' ≤ b.1 ∧ cHd q d js u x0 S a.1 a.2.length i x4 x5 = cHd q d js u x0 S' b.1 b.2.length i' y4 y5
def cEE (q : yQ) (d : Nat) (js : List xO) (u : Nat) (x0 : Int) (S0 : yS) (a : ySt) : Prop := ∀ S i x4 x5, cRp S0 S a.2 → i ≤ a.1 → ∃ S', cRp S0 S' [] ∧ cHd q d js u x0 S a.1 a.2.length i x4 x5 = yret q (vi 0) S' js
section YCYL
variable {q : yQ} {d : Nat} {js : List xO} {S S' S0 : yS} {u n : Nat} {x0 : Int}
theorem cV_low {m : Nat} {st : List yVal} {v : yVal} (h : cRp S0 S st) (hm : m < 28) (hv : cV S0 m v) : cV S m v := by
  obtain ⟨_, h2, h3, _⟩ := h
  obtain ⟨a, b, c⟩ := h2 m hm
  match v, hv with
  | .inl x, hv => exact ⟨a.trans hv.1, b.trans hv.2.1, c.trans hv.2.2⟩
  | .inr l, hv =>
    refine ⟨a.trans hv.1, c.trans hv.2.1, hv.2.2.1, fun i y hi => ?_⟩
    have hl := (List.getElem?_eq_some_iff.mp hi).1
    have := hv.2.2.1
    rw [h3 _ (by omega)]
    exact hv.2.2.2 i y hi
theorem cRp_put {st r : List yVal} {v : yVal} (h : cRp S0 S (st ++ r)) (hf : yFs (28 + st.length) S S') (hv : cV S' (28 + st.length) v) : cRp S0 S' (st ++ [v]) := by
  obtain ⟨h1, h2, h3, h4⟩ := h
  obtain ⟨f1, f2, f3⟩ := hf
  refine ⟨yFr_tr h1 f1, fun m hm => ?_, fun j hj => (f3 j (by omega)).trans (h3 j hj), fun i w hi => ?_⟩
  · obtain ⟨a, b, c⟩ := f2 m (by omega)
    obtain ⟨a', b', c'⟩ := h2 m hm
    exact ⟨a.trans a', b.trans b', c.trans c'⟩
  · have hl := (List.getElem?_eq_some_iff.mp hi).1
    rw [List.length_append] at hl
    have hl : i < st.length + 1 := hl
    by_cases z : i < st.length
    · rw [List.getElem?_append_left z] at hi
      exact cV_fs ⟨f1, f2, f3⟩ (by omega) (h4 i w (by rw [List.getElem?_append_left z]; exact hi))
    · have ei : i = st.length := by omega
      subst ei
      rw [List.getElem?_append_right (Nat.le_refl _), Nat.sub_self] at hi
      have e : v = w := Option.some.inj hi
      rw [← e]
      exact hv
theorem cRp_drop {st r : List yVal} (h : cRp S0 S (st ++ r)) : cRp S0 S st := by
  obtain ⟨h1, h2, h3, h4⟩ := h
  exact ⟨h1, h2, h3, fun i w hi => h4 i w (by rw [List.getElem?_append_left (List.getElem?_eq_some_iff.mp hi).1]; exact hi)⟩
theorem cRp_at {st r : List yVal} {v : yVal} (j : Nat) (h : cRp S0 S (st ++ r)) (hj : r[j]? = some v) : cV S (28 + st.length + j) v := by
  rw [Nat.add_assoc]
  exact h.2.2.2 _ _ (by rw [List.getElem?_append_right (by omega), show st.length + j - st.length = j by omega]; exact hj)
theorem cK_m {C : yCo} (hu : u = 0 ∨ u = 1) (h : cK S0 u C) (hf : yFr yWm S0 S) : cK S u C := by
  obtain ⟨f1, f2, f3, f4, f5, f6⟩ := hf
  rcases hu with rfl | rfl
  · refine ⟨(f1 _ rfl).trans h.1, fun j x hj => ?_⟩
    rw [f4 _ rfl, f5 _ rfl]
    exact h.2 j x hj
  · refine ⟨(f1 _ rfl).trans h.1, fun j x hj => ?_⟩
    rw [f4 _ rfl, f5 _ rfl]
    exact h.2 j x hj
theorem cX_m {X : List (List Int)} (hu : u = 0 ∨ u = 1) (h : cX S0 u X) (hf : yFr yWm S0 S) : cX S u X := by
  obtain ⟨f1, f2, f3, f4, f5, f6⟩ := hf
  rcases hu with rfl | rfl
  · refine ⟨(f1 _ rfl).trans h.1, fun k hk => ?_, fun k l i y hk hi => ?_⟩
    · rw [f4 _ rfl]
      exact h.2.1 k hk
    · rw [f4 _ rfl]
      exact h.2.2 k l i y hk hi
  · refine ⟨(f1 _ rfl).trans h.1, fun k hk => ?_, fun k l i y hk hi => ?_⟩
    · rw [f4 _ rfl]
      exact h.2.1 k hk
    · rw [f4 _ rfl]
      exact h.2.2 k l i y hk hi
/-- a load -/
theorem cR_load {C : yCo} {pc op : Nat} {z : Int64} {st : List yVal} {v : yVal} (hu : u = 0 ∨ u = 1) (hK : cK S0 u C) (hC : (C.length : Int) ≤ capu u) (hc : C[pc]? = some (op, z)) (ho : op ≤ 5) (hn : st.length ≤ 61) (h76 : ∀ S : yS, cRp S0 S st → ∃ S' : yS, Y q (d + 1) 76 0 [vr 118, vr (cu u), vi op, vj z, vu, vi ((28 + st.length : Nat) : Int), vu] [] S js = yretv q S' js ∧ yFs (28 + st.length) S S' ∧ cV S' (28 + st.length) v) : cR q d js u x0 S0 (pc, st) (pc + 1, st ++ [v]) := by
  refine ⟨Nat.le_succ _, fun S i x4 x5 hS hi => ?_⟩
  obtain ⟨S', a1, a2, a3⟩ := h76 S hS
  have hS0 : cRp S0 S (st ++ []) := by rw [List.append_nil]; exact hS
  refine ⟨S', i + 1, vi op, vj z, cRp_put hS0 a2 a3, Nat.succ_le_succ hi, ?_⟩
  show Y q (d + 2) 75 9 [vr 118, vr (cu u), vi x0, vi pc, vi ((27 + st.length : Nat) : Int), vi i, x4, x5, vu] [] S js = Y q (d + 2) 75 9 [vr 118, vr (cu u), vi x0, vi ((pc + 1 : Nat) : Int), vi ((27 + (st ++ [v]).length : Nat) : Int), vi ((i + 1 : Nat) : Int), vi op, vj z, vu] [] S' js
  have el : (st ++ [v]).length = st.length + 1 := by rw [List.length_append]; rfl
  rw [h75 hu (cK_m hu hK hS.1) hC hc (by omega) (by omega) hi, if_neg (by omega), if_neg (by omega), if_neg (by omega), a1, YB_retv, u75_138 hu, el, show 27 + (st.length + 1) = 28 + st.length by omega]
  rfl
/-- an instruction's work -/
theorem cR_work {C : yCo} {pc op : Nat} {z : Int64} {st vs : List yVal} {r : yVal} (hu : u = 0 ∨ u = 1) (hK : cK S0 u C) (hC : (C.length : Int) ≤ capu u) (hc : C[pc]? = some (op, z)) (ho : 5 < op) (ho2 : op < 28) (hvs : vs.length = yopn op) (hn : st.length + vs.length ≤ 63) (hz : op = 9 ∨ op = 10 → ∀ S : yS, cRp S0 S (st ++ vs) → gB S 9 (28 + st.length + 1) ≠ 0) (h80 : ∀ S : yS, cRp S0 S (st ++ vs) → ∃ S' : yS, Y q (d + 1) 80 0 [vr 118, vi op, vi ((28 + st.length : Nat) : Int)] [] S js = yretv q S' js ∧ yFs (28 + st.length) S S' ∧ cV S' (28 + st.length) r) : cR q d js u x0 S0 (pc, st ++ vs) (pc + 1, st ++ [r]) := by
  refine ⟨Nat.le_succ _, fun S i x4 x5 hS hi => ?_⟩
  obtain ⟨S', a1, a2, a3⟩ := h80 S hS
  refine ⟨S', i + 1, vi op, vj z, cRp_put hS a2 a3, Nat.succ_le_succ hi, ?_⟩
  show Y q (d + 2) 75 9 [vr 118, vr (cu u), vi x0, vi pc, vi ((27 + (st ++ vs).length : Nat) : Int), vi i, x4, x5, vu] [] S js = Y q (d + 2) 75 9 [vr 118, vr (cu u), vi x0, vi ((pc + 1 : Nat) : Int), vi ((27 + (st ++ [r]).length : Nat) : Int), vi ((i + 1 : Nat) : Int), vi op, vj z, vu] [] S' js
  have el : (st ++ [r]).length = st.length + 1 := by rw [List.length_append]; rfl
  have el2 : (st ++ vs).length = st.length + yopn op := by rw [List.length_append, hvs]
  have eb : ((27 + (st.length + yopn op) : Nat) : Int) - ((yopn op : Int) - 1) = ((28 + st.length : Nat) : Int) := by omega
  have eo : yr (op : Int) = op := yr_eq (by omega) (by omega)
  have e9 : yr 9 = 9 := rfl
  have e10 : yr 10 = 10 := rfl
  have e1 : yr (((28 + st.length : Nat) : Int) + 1) = ((28 + st.length + 1 : Nat) : Int) := by rw [yr_eq] <;> omega
  have hv2 : op = 9 ∨ op = 10 → vs.length = 2 := by
    intro h
    rw [hvs]
    rcases h with rfl | rfl <;> rfl
  have ei : (i : Int) + 1 = ((i + 1 : Nat) : Int) := by omega
  rw [el2, h75 hu (cK_m hu hK hS.1) hC hc (by omega) (by rw [hvs] at hn; omega) hi, if_neg (by omega), if_neg (by omega), if_pos (by omega), c79 (by omega), YB_ret, u75_148 hu, eb, eo, e9, e10, e1, el, show 27 + (st.length + 1) = 28 + st.length by omega]
  by_cases z9 : (op : Int) = 9
  · have := hz (by omega) S hS
    have := hv2 (by omega)
    have k : 0 ≤ ((28 + st.length + 1 : Nat) : Int) ∧ ((28 + st.length + 1 : Nat) : Int) < 92 := by omega
    rw [if_pos z9, if_pos k, Int.toNat_natCast]
    simp only [yr_lcmp, ylcmp_eq]
    rw [if_neg (by assumption), a1, YB_retv, u75_191 hu, ei]
  · rw [if_neg z9]
    by_cases z10 : (op : Int) = 10
    · have := hz (by omega) S hS
      have := hv2 (by omega)
      have k : 0 ≤ ((28 + st.length + 1 : Nat) : Int) ∧ ((28 + st.length + 1 : Nat) : Int) < 92 := by omega
      rw [if_pos z10, if_pos k, Int.toNat_natCast]
      simp only [yr_lcmp, ylcmp_eq]
      rw [if_neg (by assumption), a1, YB_retv, u75_191 hu, ei]
    · rw [if_neg z10, a1, YB_retv, u75_191 hu, ei]
/-- a division by zero -/
theorem cE_div {C : yCo} {pc op : Nat} {z : Int64} {st : List yVal} {a : Int64} (hu : u = 0 ∨ u = 1) (hK : cK S0 u C) (hC : (C.length : Int) ≤ capu u) (hc : C[pc]? = some (op, z)) (ho : op = 9 ∨ op = 10) (hn : st.length + 2 ≤ 63) : cEE q d js u x0 S0 (pc, st ++ [.inl a, .inl 0]) := by
  intro S i x4 x5 hS hi
  refine ⟨S, cRp_drop (st := []) hS, ?_⟩
  show Y q (d + 2) 75 9 [vr 118, vr (cu u), vi x0, vi pc, vi ((27 + (st ++ [Sum.inl a, Sum.inl 0]).length : Nat) : Int), vi i, x4, x5, vu] [] S js = _
  have hy : yopn op = 2 := by rcases ho with rfl | rfl <;> rfl
  have el2 : (st ++ [(Sum.inl a : yVal), Sum.inl 0]).length = st.length + 2 := by rw [List.length_append]; rfl
  have eb : ((27 + (st.length + 2) : Nat) : Int) - (((2 : Nat) : Int) - 1) = ((28 + st.length : Nat) : Int) := by omega
  have eo : yr (op : Int) = op := yr_eq (by omega) (by omega)
  have e9 : yr 9 = 9 := rfl
  have e10 : yr 10 = 10 := rfl
  have e1 : yr (((28 + st.length : Nat) : Int) + 1) = ((28 + st.length + 1 : Nat) : Int) := by rw [yr_eq] <;> omega
  have k : 0 ≤ ((28 + st.length + 1 : Nat) : Int) ∧ ((28 + st.length + 1 : Nat) : Int) < 92 := by omega
  have hd := (cRp_at 1 hS (v := .inl 0) rfl).2.1
  have o0 : yr 0 = 0 ∨ yr 0 = 1 := Or.inl yr_0
  rw [el2, h75 hu (cK_m hu hK hS.1) hC hc (by omega) (by omega) hi, if_neg (by omega), if_neg (by omega), if_pos (by omega), c79 (by omega), YB_ret, hy, u75_148 hu, eb, eo, e9, e10, e1]
  rcases ho with rfl | rfl
  · rw [if_pos (by rfl), if_pos k, Int.toNat_natCast, hd]
    simp only [yr_lcmp, ylcmp_eq]
    rw [if_pos trivial, if_pos o0]
  · rw [if_neg (by omega), if_pos (by rfl), if_pos k, Int.toNat_natCast, hd]
    simp only [yr_lcmp, ylcmp_eq]
    rw [if_pos trivial, if_pos o0]
theorem cMach {C : yCo} {X : List (Nat × Nat)} {tx : Nat → Nat → List Int} {Tk : Nat → Nat → Prop} {e : yEnv} {A : Nat → Nat → Prop} (hu : u = 0 ∨ u = 1) (hK : cK S0 u C) (hC : (C.length : Int) ≤ capu u) (hX : cX S0 u (X.map fun p => tx p.1 p.2)) (hT : yTx (X.map fun p => tx p.1 p.2)) (hTk : ∀ p n, Tk p n → yT60 (tx p n)) (he : cEn S0 A e) : yMach C X tx Tk e A (cR q d js u x0 S0) (cEE q d js u x0 S0) := by
  have hcap : capu u ≤ 4000 := by rcases hu with rfl | rfl <;> decide
  refine ⟨fun a => ⟨Nat.le_refl _, fun S i x4 x5 hS hi => ⟨S, i, x4, x5, hS, hi, rfl⟩⟩, fun a b c h1 h2 => ⟨Nat.le_trans h1.1 h2.1, fun S i x4 x5 hS hi => ?_⟩, fun a b h1 h2 S i x4 x5 hS hi => ?_, ?_, ?_, ?_, ?_, ?_, ?_, ?_, ?_⟩
  · obtain ⟨S1, i1, a4, a5, b1, b2, b3⟩ := h1.2 S i x4 x5 hS hi
    obtain ⟨S2, i2, c4, c5, d1, d2, d3⟩ := h2.2 S1 i1 a4 a5 b1 b2
    exact ⟨S2, i2, c4, c5, d1, d2, b3.trans d3⟩
  · obtain ⟨S1, i1, a4, a5, b1, b2, b3⟩ := h1.2 S i x4 x5 hS hi
    obtain ⟨S2, d1, d2⟩ := h2 S1 i1 a4 a5 b1 b2
    exact ⟨S2, d1, b3.trans d2⟩
  · intro pc st v hc hn
    exact cR_load hu hK hC hc (by omega) hn (fun S hS => c76_0 hu (by omega))
  · intro pc st k p hc hl h60 hn
    exact cR_load hu hK hC hc (by omega) hn (fun S hS => c76_1 hu (by omega) (cX_m hu hX hS.1) hT (l := tx p.1 p.2) (by rw [List.getElem?_map, hl]; rfl) (hTk _ _ h60))
  · intro pc st op k hc h1 h2 hk hk2 hA hn
    exact cR_load hu hK hC hc h2 hn (fun S hS => c76_v hu (by omega) (by omega) h1 h2 hk hk2 (cV_low hS (by omega) (he op k h1 h2 hk hk2 hA)))
  · intro pc st a hc ha ha2 hn
    refine ⟨by show pc ≤ a; omega, fun S i x4 x5 hS hi => ⟨S, i + 1, vi ((28 : Nat) : Int), vj (ya64 a), hS, ?_, ?_⟩⟩
    · have hi : i ≤ pc := hi
      show i + 1 ≤ a
      omega
    · show Y q (d + 2) 75 9 [vr 118, vr (cu u), vi x0, vi pc, vi ((27 + st.length : Nat) : Int), vi i, x4, x5, vu] [] S js = _
      rw [h75 hu (cK_m hu hK hS.1) hC hc (by omega) (by omega) hi, if_pos (by rfl), yl2i_a64 (by omega)]
  · intro pc st n a hc ha ha2 hn
    refine ⟨by show pc ≤ if n = 0 then a else pc + 1; split <;> omega, fun S i x4 x5 hS hi => ⟨S, i + 1, vi ((29 : Nat) : Int), vj (ya64 a), cRp_drop hS, ?_, ?_⟩⟩
    · have hi : i ≤ pc := hi
      show i + 1 ≤ if n = 0 then a else pc + 1
      split <;> omega
    · show Y q (d + 2) 75 9 [vr 118, vr (cu u), vi x0, vi pc, vi ((27 + (st ++ [Sum.inl n]).length : Nat) : Int), vi i, x4, x5, vu] [] S js = _
      have el2 : (st ++ [(Sum.inl n : yVal)]).length = st.length + 1 := by rw [List.length_append]; rfl
      have hv := (cRp_at 0 hS (v := .inl n) rfl).2.1
      have et : ((27 + (st.length + 1) : Nat) : Int) + (-1) = ((27 + st.length : Nat) : Int) := by omega
      rw [el2, h75 hu (cK_m hu hK hS.1) hC hc (by omega) (by omega) hi, if_neg (by omega), if_pos (by rfl), yl2i_a64 (by omega), et, show 27 + (st.length + 1) = 28 + st.length + 0 by omega, hv]
      by_cases z : n = 0
      · rw [if_pos z]
        simp only [z, if_true]
      · rw [if_neg z]
        simp only [z, if_false]
  · intro pc st op z v hc hn hf
    have hop : 18 ≤ op ∧ op ≤ 25 ∧ op ≠ 22 := by
      match v, hf with
      | .inl x, hf =>
        have hf : op = 18 ∨ op = 19 ∨ op = 23 ∨ op = 24 ∨ op = 25 := hf
        omega
      | .inr l, hf =>
        have hf : (op = 20 ∨ op = 21) ∧ l.length ≤ 60 := hf
        omega
    refine cR_work hu hK hC hc (by omega) (by omega) ?_ (by show st.length + 1 ≤ 63; omega) (by omega) (fun S hS => c80_1 hf (by omega) (cRp_at 0 hS rfl))
    show 1 = yopn op
    unfold yopn
    rw [if_neg (by omega), if_pos (by omega)]
  · intro pc st op z v w hc hn hf
    have hop : 6 ≤ op ∧ op < 28 ∧ ¬ (18 ≤ op ∧ op ≤ 25) := by
      match v, w, hf with
      | .inl x, .inl y, hf =>
        have hf : (6 ≤ op ∧ op ≤ 10) ∨ (12 ≤ op ∧ op ≤ 17) ∨ op = 26 ∨ op = 27 := hf
        omega
      | .inr l, .inr m, hf =>
        have hf : 11 ≤ op ∧ op ≤ 17 ∧ l.length ≤ 60 ∧ m.length ≤ 60 := hf
        omega
    have hy : yopn op = 2 := by
      unfold yopn
      rw [if_neg (by omega), if_neg (by omega)]
    cases hr : yO2 op v w with
    | some r =>
      refine cR_work hu hK hC hc (by omega) (by omega) hy.symm (by show st.length + 2 ≤ 63; omega) (fun h9 S hS h0 => ?_) (fun S hS => c80_2 hf hr (by omega) (cRp_at 0 hS rfl) (cRp_at 1 hS rfl))
      match v, w, hf, hr, hS with
      | .inl x, .inl y, hf, hr, hS =>
        have e := (cRp_at 1 hS (v := .inl y) rfl).2.1
        rw [h0] at e
        have hr : (if (op = 9 ∨ op = 10) ∧ y = 0 then none else some (Sum.inl (ycal op x y))) = some r := hr
        rw [if_pos ⟨h9, e.symm⟩] at hr
        nomatch hr
      | .inr l, .inr m, hf, hr, hS =>
        have hf : 11 ≤ op ∧ op ≤ 17 ∧ l.length ≤ 60 ∧ m.length ≤ 60 := hf
        omega
    | none =>
      match v, w, hf, hr with
      | .inl x, .inl y, hf, hr =>
        have hr : (if (op = 9 ∨ op = 10) ∧ y = 0 then none else some (Sum.inl (ycal op x y))) = none := hr
        by_cases z9 : (op = 9 ∨ op = 10) ∧ y = 0
        · obtain ⟨z9, rfl⟩ := z9
          exact cE_div hu hK hC hc z9 (by omega)
        · rw [if_neg z9] at hr
          nomatch hr
      | .inr l, .inr m, hf, hr =>
        have hr : (if op = 11 then some (Sum.inr ((l ++ m).take 60)) else some (Sum.inl (ycal op (yi2l (ycmT l m)) 0))) = none := hr
        split at hr <;> nomatch hr
  · intro pc st z l m n hc hn hl
    exact cR_work hu hK hC hc (by omega) (by omega) rfl (by show st.length + 3 ≤ 63; omega) (by omega) (fun S hS => c80_3 (by omega) (cRp_at 0 hS rfl) (cRp_at 1 hS rfl) (cRp_at 2 hS rfl))
end YCYL
end YCY
