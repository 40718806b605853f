/-! RUN: a row, on both sides -/
section YUM
section YUML
variable {q : yQ} {d d' : Nat} {js ks : List xO} {S0 : yS} {t : Nat} {V : yPV} {a : Int} {n : Nat} {B C S T S' T' : yS} {e e' : yEnv}
theorem k121_0x {x0 x1 x2 : Int} (h34 : ¬ yr (gI S 34) = 0) : Y q (d + 1) 121 0 [vr 125, vi x0, vi x1, vi x2, vu, vu, vu, vu, vu, vu, vu] [] S js = yretv q S js := by
  rw [w121_0, k121_x h34]
/-- after an error a row comes to nothing -/
theorem k112e1 (hx : yCx S0 t V a n B C) (hS : yFr yCw B S) (h34 : ¬ yr (gI S 34) = 0) {x0 x1 x2 x3 x4 x5 x6 : Int} {x7 : yV} : Y q (d + 18) 112 201 [vr 125, vi x0, vi x1, vi x2, vi x3, vi x4, vi x5, vi x6, x7] [] S js = Y q (d + 18) 112 71 [vr 125, vi x0, vi x1, vi x2, vi x3, vi (x4 + 1), vi x5, vi x6, x7] [] S js := by
  have kb := kband (q := q) (js := js) (S := S) (d := d + 16) (iPq_cw hx.1.2.1 hS) (yCx_g hx) (j := 3) (by omega)
  have kb1 : Y q (d + 17) 108 0 [vr 85, vi 3] [] S js = _ := kb.1
  have kb2 : Y q (d + 17) 109 0 [vr 85, vi 3] [] S js = _ := kb.2
  rw [w112_201, kb1, YB_ret, w112_210, kb2, YB_ret, w112_218, k121_0x h34, YB_retv, w112_222]
theorem k112e2 (hx : yCx S0 t V a n B C) (hS : yFr yCw B S) (h34 : ¬ yr (gI S 34) = 0) {x0 x1 x3 x4 x5 : Int} : ∀ (m g : Nat) (x7 : yV), g + m = (zG V).length → ∃ z6 z7, Y q (d + 18) 112 156 [vr 125, vi x0, vi x1, vi ((zG V).length : Int), vi x3, vi x4, vi x5, vi g, x7] [] S js = Y q (d + 18) 112 71 [vr 125, vi x0, vi x1, vi ((zG V).length : Int), vi x3, vi (x4 + 1), vi x5, z6, z7] [] S js
  | 0, g, x7, hg => by
    have eg : g = (zG V).length := by omega
    have e1 := k112e1 (q := q) (d := d) (js := js) hx hS h34 (x0 := x0) (x1 := x1) (x2 := ((zG V).length : Int)) (x3 := x3) (x4 := x4) (x5 := x5) (x6 := ((zG V).length : Int)) (x7 := x7)
    have e9 : Y q (d + 17) 128 0 [vr 125, vu] [] S js = yretv q S js := by
      rw [w128_0, w128_2, if_neg h34, ite_self]
    refine ⟨vi ((zG V).length : Int), x7, ?_⟩
    rw [w112_156, eg, if_neg (show ¬ yr ((zG V).length : Int) < yr ((zG V).length : Int) by omega), e9, YB_retv, e1]
  | m + 1, g, x7, hg => by
    have l3 := (vTo_all hx).1.2.2
    have eg : yr (g : Int) = g := yr_eq (by omega) (by omega)
    have en : yr ((zG V).length : Int) = (zG V).length := yr_eq (by omega) (by omega)
    have e5 : (5 : Int) + g = ((5 + g : Nat) : Int) := by omega
    have e1 : (g : Int) + 1 = ((g + 1 : Nat) : Int) := by omega
    have kb := kband (q := q) (js := js) (S := S) (d := d + 16) (iPq_cw hx.1.2.1 hS) (yCx_g hx) (j := 5 + g) (by omega)
    obtain ⟨z6, z7, ih⟩ := k112e2 hx hS h34 (x0 := x0) (x1 := x1) (x3 := x3) (x4 := x4) (x5 := x5) m (g + 1) (vi ((5 + g : Nat) : Int)) (by omega)
    refine ⟨z6, z7, ?_⟩
    rw [w112_156, eg, en, if_pos (by omega), e5, kb.1, YB_ret, w112_178, kb.2, YB_ret, w112_187, k121_0x h34, YB_retv, w112_191, e1, ih]
theorem k112e3 (hx : yCx S0 t V a n B C) (hS : yFr yCw B S) (h34 : ¬ yr (gI S 34) = 0) {x0 x1 x3 x4 x6 : Int} {o : Nat} {x7 : yV} (ho : o ≤ (zG V).length) : ∃ z6 z7, Y q (d + 18) 112 146 [vr 125, vi x0, vi x1, vi ((zG V).length : Int), vi x3, vi x4, vi o, vi x6, x7] [] S js = Y q (d + 18) 112 71 [vr 125, vi x0, vi x1, vi ((zG V).length : Int), vi x3, vi (x4 + 1), vi o, z6, z7] [] S js := by
  obtain ⟨z6, z7, h⟩ := k112e2 (q := q) (d := d) (js := js) hx hS h34 (x0 := x0) (x1 := x1) (x3 := x3) (x4 := x4) (x5 := (o : Int)) ((zG V).length - o) o x7 (by omega)
  refine ⟨z6, z7, ?_⟩
  have e9 : Y q (d + 17) 127 0 [vr 125, vi o, vu] [] S js = yretv q S js := by
    rw [w127_0, w127_2, if_neg h34, ite_self]
  rw [w112_146, e9, YB_retv, w112_152, h]
theorem k112e5 (hx : yCx S0 t V a n B C) (hS : yFr yCw B S) (h34 : ¬ yr (gI S 34) = 0) {x0 x1 x3 : Int} {p o : Nat} (hp : p < 40) (ho : o ≤ (zG V).length) : ∀ (m c : Nat) (x7 : yV), o + m = c → c ≤ (zG V).length → ∃ z6 z7, Y q (d + 18) 112 96 [vr 125, vi x0, vi x1, vi ((zG V).length : Int), vi x3, vi p, vi o, vi (((11 - c : Nat)) : Int), x7] [] S js = Y q (d + 18) 112 71 [vr 125, vi x0, vi x1, vi ((zG V).length : Int), vi x3, vi ((p : Int) + 1), vi o, z6, z7] [] S js := by
  have l3 := (vTo_all hx).1.2.2
  have e9 : Y q (d + 17) 126 0 [vr 125, vi p, vu] [] S js = yretv q S js := by
    rw [w126_0, if_neg h34]
  have ep : yr (p : Int) = p := yr_eq (by omega) (by omega)
  intro m
  induction m with
  | zero =>
    intro c x7 hc hcl
    obtain ⟨z6, z7, h⟩ := k112e3 (q := q) (d := d) (js := js) hx hS h34 (x0 := x0) (x1 := x1) (x3 := x3) (x4 := (p : Int)) (x6 := ((11 - c : Nat) : Int)) (o := o) (x7 := x7) ho
    refine ⟨z6, z7, ?_⟩
    have e1 : yr ((10 : Int) - o) = 10 - o := yr_eq (by omega) (by omega)
    have e2 : yr ((11 - c : Nat) : Int) = ((11 - c : Nat) : Int) := yr_eq (by omega) (by omega)
    by_cases z : 0 < p
    · rw [w112_96, ep, if_pos (by omega), e1, e2, if_pos (by omega), e9, YB_retv, h]
    · rw [w112_96, ep, if_neg (by omega), e9, YB_retv, h]
  | succ m ih =>
    intro c x7 hc hcl
    have e1 : yr ((10 : Int) - o) = 10 - o := yr_eq (by omega) (by omega)
    have e2 : yr ((11 - c : Nat) : Int) = ((11 - c : Nat) : Int) := yr_eq (by omega) (by omega)
    by_cases z : 0 < p
    · have kb := kband (q := q) (js := js) (S := S) (d := d + 16) (iPq_cw hx.1.2.1 hS) (yCx_g hx) (j := 11 - c) (by omega)
      have e3 : ((11 - c : Nat) : Int) + 1 = ((11 - (c - 1) : Nat) : Int) := by omega
      obtain ⟨z6, z7, h⟩ := ih (c - 1) x7 (by omega) (by omega)
      refine ⟨z6, z7, ?_⟩
      rw [w112_96, ep, if_pos (by omega), e1, e2, if_neg (by omega), kb.1, YB_ret, w112_121, kb.2, YB_ret, w112_130, k121_0x h34, YB_retv, w112_134, e3, h]
    · obtain ⟨z6, z7, h⟩ := k112e3 (q := q) (d := d) (js := js) hx hS h34 (x0 := x0) (x1 := x1) (x3 := x3) (x4 := (p : Int)) (x6 := ((11 - c : Nat) : Int)) (o := o) (x7 := x7) ho
      refine ⟨z6, z7, ?_⟩
      rw [w112_96, ep, if_neg (by omega), e9, YB_retv, h]
/-- behind a row, after an error -/
def cEr (q : yQ) (js : List xO) (V : yPV) (d : Nat) (x0 x1 x3 : Int) (p : Nat) (S' : yS) (c : Option xRes) : Prop := ∃ z5 z6 z7, c = Y q (d + 18) 112 71 [vr 125, vi x0, vi x1, vi ((zG V).length : Int), vi x3, vi ((p : Int) + 1), z5, z6, z7] [] S' js
/-- bands behind groups that break -/
theorem yaft (hx : yCx S0 t V a n B C) {x0 x1 x3 : Int} {p o f : Nat} (hp : p < 40) (hof : o ≤ (zG V).length ∧ (f = o ∧ o < (zG V).length ∨ o = (zG V).length ∧ (zG V).length ≤ f ∧ f ≤ 3)) : ∀ (m c : Nat) (x7 : yV) (e : yEnv) (S T : yS), o + m = c → c ≤ (zG V).length → yRl V n B C e S T → yGo q ks V n B C (fun _ => True) (Y q (d + 18) 112 96 [vr 125, vi x0, vi x1, vi ((zG V).length : Int), vi x3, vi p, vi o, vi ((11 - c : Nat) : Int), x7] [] S js) (Y q (d' + 10) 297 39 [vr 129, vi p, vi f, vi ((c : Int) - 1)] [] T ks) (fun S' r => ∃ z6 : Int, ∃ z7, r = YB q (Y q (d + 17) 126 0 [vr 125, vi p, vu] [] S' js) (d + 18) 112 143 [vr 125, vi x0, vi x1, vi ((zG V).length : Int), vi x3, vi p, vi o, vi z6, z7] []) (fun T' r => ∃ z2 : Int, r = YB q (Y q (d' + 9) 299 0 [vr 129, vi p, vu] [] T' ks) (d' + 10) 297 66 [vr 129, vi p, vi f, vi z2] []) (cEr q js V d x0 x1 x3 p) := by
  have l3 := (vTo_all hx).1.2.2
  have ep : yr (p : Int) = p := yr_eq (by omega) (by omega)
  intro m
  induction m with
  | zero =>
    intro c x7 e S T hc hcl h
    have e1 : yr ((10 : Int) - o) = 10 - o := yr_eq (by omega) (by omega)
    have e2 : yr ((11 - c : Nat) : Int) = ((11 - c : Nat) : Int) := yr_eq (by omega) (by omega)
    have e3 : yr ((c : Int) - 1) = c - 1 := yr_eq (by omega) (by omega)
    have e4 : yr (f : Int) = f := yr_eq (by omega) (by omega)
    refine Or.inl ⟨e, S, T, h, trivial, ⟨((11 - c : Nat) : Int), x7, ?_⟩, ⟨(c : Int) - 1, ?_⟩⟩
    · by_cases z : 0 < p
      · rw [w112_96, ep, if_pos (by omega), e1, e2, if_pos (by omega)]
      · rw [w112_96, ep, if_neg (by omega)]
    · rw [w297_39, e3, e4, if_pos (by omega)]
  | succ m ih =>
    intro c x7 e S T hc hcl h
    have e1 : yr ((10 : Int) - o) = 10 - o := yr_eq (by omega) (by omega)
    have e2 : yr ((11 - c : Nat) : Int) = ((11 - c : Nat) : Int) := yr_eq (by omega) (by omega)
    have e3 : yr ((c : Int) - 1) = c - 1 := yr_eq (by omega) (by omega)
    have e4 : yr (f : Int) = f := yr_eq (by omega) (by omega)
    by_cases z : 0 < p
    · have kb := kband (q := q) (js := js) (S := S) (d := d + 16) (iPq_cw hx.1.2.1 h.1.1.1.1) (yCx_g hx) (j := 11 - c) (by omega)
      have e5 : ((11 - c : Nat) : Int) + 1 = ((11 - (c - 1) : Nat) : Int) := by omega
      have erb : rbn (11 - c) = 4 + 2 * c := by
        unfold rbn
        rw [if_neg (by omega), if_neg (by omega)]
        omega
      have b := ybody (q := q) (d := d) (d' := d') (js := js) (ks := ks) hx h (j := 11 - c) (by omega) (by omega)
      rw [erb] at b
      have e6 : (6 : Int) + 2 * ((c : Int) - 1) = ((4 + 2 * c : Nat) : Int) := by omega
      have cS : Y q (d + 18) 112 96 [vr 125, vi x0, vi x1, vi ((zG V).length : Int), vi x3, vi p, vi o, vi ((11 - c : Nat) : Int), x7] [] S js = YB q (Y q (d + 17) 121 0 [vr 125, vi (cFb V (11 - c) : Nat), vi (cEb V (11 - c) : Nat), vi 0, vu, vu, vu, vu, vu, vu, vu] [] S js) (d + 18) 112 131 [vr 125, vi x0, vi x1, vi ((zG V).length : Int), vi x3, vi p, vi o, vi ((11 - c : Nat) : Int), x7] [] := by
        rw [w112_96, ep, if_pos (by omega), e1, e2, if_neg (by omega), kb.1, YB_ret, w112_121, kb.2, YB_ret, w112_130]
      have rS : Y q (d' + 10) 297 39 [vr 129, vi p, vi f, vi ((c : Int) - 1)] [] T ks = YB q (Y q (d' + 9) 290 0 [vr 129, vi ((4 + 2 * c : Nat) : Int), vu, vu, vu] [] T ks) (d' + 10) 297 55 [vr 129, vi p, vi f, vi ((c : Int) - 1)] [] := by
        rw [w297_39, e3, e4, if_neg (by omega), ep, if_pos (by omega), e6]
      have e7 : (c : Int) - 1 + -1 = ((c - 1 : Nat) : Int) - 1 := by omega
      rw [cS, rS]
      rcases b with ⟨e1', S1, T1, r1, _, c1, f1⟩ | ⟨x, oo, S1, T1, hxo, r1, c1, f1⟩
      · rw [c1, f1, YB_retv, YB_retv, w112_134, w297_58, e5, e7]
        exact ih (c - 1) x7 e1' S1 T1 (by omega) (by omega) r1
      · have h34' : ¬ yr (gI S1 34) = 0 := by rw [r1.2.1]; exact yEo_0 hxo
        obtain ⟨z6, z7, hz⟩ := k112e5 (q := q) (d := d) (js := js) (x0 := x0) (x1 := x1) (x3 := x3) hx r1.1.1.1 h34' hp hof.1 m (c - 1) x7 (by omega) (by omega)
        refine Or.inr ⟨x, oo, S1, T1, hxo, r1, ⟨vi o, z6, z7, ?_⟩, ?_⟩
        · rw [c1, YB_retv, w112_134, e5, hz]
        · rw [f1]
          exact yEo_t hxo (fun a b => t297 q a b T1 ks _ _ _ _)
    · refine Or.inl ⟨e, S, T, h, trivial, ⟨((11 - c : Nat) : Int), x7, ?_⟩, ⟨(c : Int) - 1, ?_⟩⟩
      · rw [w112_96, ep, if_neg (by omega)]
      · rw [w297_39, e3, e4, ep, if_neg (show ¬ (0 : Int) < p by omega), ite_self]
/-- bands ahead of groups that break -/
theorem ybef (hx : yCx S0 t V a n B C) {x0 x1 x3 : Int} {p o f : Nat} (hp : p < 40) : ∀ (m g : Nat) (x7 : yV) (e : yEnv) (S T : yS), g + m = (zG V).length → yRl V n B C e S T → yGo q ks V n B C (fun _ => True) (Y q (d + 18) 112 156 [vr 125, vi x0, vi x1, vi ((zG V).length : Int), vi x3, vi p, vi o, vi g, x7] [] S js) (Y q (d' + 10) 297 92 [vr 129, vi p, vi f, vi g] [] T ks) (fun S' r => ∃ z6 : Int, ∃ z7, r = YB q (Y q (d + 17) 128 0 [vr 125, vu] [] S' js) (d + 18) 112 198 [vr 125, vi x0, vi x1, vi ((zG V).length : Int), vi x3, vi p, vi o, vi z6, z7] []) (fun T' r => r = Y q (d' + 10) 297 117 [vr 129, vi p, vi f, vi 0] [] T' ks) (cEr q js V d x0 x1 x3 p) := by
  have l3 := (vTo_all hx).1.2.2
  have en : yr ((zG V).length : Int) = (zG V).length := yr_eq (by omega) (by omega)
  intro m
  induction m with
  | zero =>
    intro g x7 e S T hg h
    have g57 : gI T 57 = (zG V).length := (iPq_rw hx.1.2.2 h.1.1.1.2).2.2.2.1.1.2.2.1.1
    have eg : yr (g : Int) = g := yr_eq (by omega) (by omega)
    refine Or.inl ⟨e, S, T, h, trivial, ⟨(g : Int), x7, ?_⟩, ?_⟩
    · rw [w112_156, eg, en, if_neg (by omega)]
    · show _ = _
      rw [w297_92, g57, eg, en, if_neg (by omega)]
  | succ m ih =>
    intro g x7 e S T hg h
    have g57 : gI T 57 = (zG V).length := (iPq_rw hx.1.2.2 h.1.1.1.2).2.2.2.1.1.2.2.1.1
    have eg : yr (g : Int) = g := yr_eq (by omega) (by omega)
    have e5 : (5 : Int) + g = ((5 + g : Nat) : Int) := by omega
    have e1 : (g : Int) + 1 = ((g + 1 : Nat) : Int) := by omega
    have kb := kband (q := q) (js := js) (S := S) (d := d + 16) (iPq_cw hx.1.2.1 h.1.1.1.1) (yCx_g hx) (j := 5 + g) (by omega)
    have erb : rbn (5 + g) = 5 + 2 * g := by
      unfold rbn
      rw [if_neg (by omega), if_pos (by omega)]
      omega
    have b := ybody (q := q) (d := d) (d' := d') (js := js) (ks := ks) hx h (j := 5 + g) (by omega) (by omega)
    rw [erb] at b
    have e6 : (5 : Int) + 2 * (g : Int) = ((5 + 2 * g : Nat) : Int) := by omega
    have cS : Y q (d + 18) 112 156 [vr 125, vi x0, vi x1, vi ((zG V).length : Int), vi x3, vi p, vi o, vi g, x7] [] S js = YB q (Y q (d + 17) 121 0 [vr 125, vi (cFb V (5 + g) : Nat), vi (cEb V (5 + g) : Nat), vi 0, vu, vu, vu, vu, vu, vu, vu] [] S js) (d + 18) 112 188 [vr 125, vi x0, vi x1, vi ((zG V).length : Int), vi x3, vi p, vi o, vi g, vi ((5 + g : Nat) : Int)] [] := by
      rw [w112_156, eg, en, if_pos (by omega), e5, kb.1, YB_ret, w112_178, kb.2, YB_ret, w112_187]
    have rS : Y q (d' + 10) 297 92 [vr 129, vi p, vi f, vi g] [] T ks = YB q (Y q (d' + 9) 290 0 [vr 129, vi ((5 + 2 * g : Nat) : Int), vu, vu, vu] [] T ks) (d' + 10) 297 106 [vr 129, vi p, vi f, vi g] [] := by
      rw [w297_92, g57, eg, en, if_pos (by omega), e6]
    rw [cS, rS]
    rcases b with ⟨e1', S1, T1, r1, _, c1, f1⟩ | ⟨x, oo, S1, T1, hxo, r1, c1, f1⟩
    · rw [c1, f1, YB_retv, YB_retv, w112_191, w297_109, e1]
      exact ih (g + 1) _ e1' S1 T1 (by omega) r1
    · have h34' : ¬ yr (gI S1 34) = 0 := by rw [r1.2.1]; exact yEo_0 hxo
      obtain ⟨z6, z7, hz⟩ := k112e2 (q := q) (d := d) (js := js) (x0 := x0) (x1 := x1) (x3 := x3) (x4 := (p : Int)) (x5 := (o : Int)) hx r1.1.1.1 h34' m (g + 1) (vi ((5 + g : Nat) : Int)) (by omega)
      refine Or.inr ⟨x, oo, S1, T1, hxo, r1, ⟨vi o, z6, z7, ?_⟩, ?_⟩
      · rw [c1, YB_retv, w112_191, e1, hz]
      · rw [f1]
        exact yEo_t hxo (fun a b => t297 q a b T1 ks _ _ _ _)
/-- a whole row -/
theorem yrowp (hx : yCx S0 t V a n B C) (h : yRl V n B C e S T) {x0 x3 : Int} {p : Nat} {z5 z6 z7 : yV} (hp : p < n) (h69 : gI C 69 = p) (h3 : x3 = 10 - ((zG V).length : Int) + 1) : (∃ (e' : yEnv) (S' T' : yS) (u5 u6 u7 : yV), yRl V n B (sI C 69 ((p + 1 : Nat) : Int)) e' S' T' ∧ Y q (d + 18) 112 71 [vr 125, vi x0, vi n, vi ((zG V).length : Int), vi x3, vi p, z5, z6, z7] [] S js = Y q (d + 18) 112 71 [vr 125, vi x0, vi n, vi ((zG V).length : Int), vi x3, vi ((p + 1 : Nat) : Int), u5, u6, u7] [] S' js ∧ Y q (d' + 10) 297 0 [vr 129, vi p, vu, vu] [] T ks = yretv q T' ks) ∨ ∃ (x : Int) (o : xO) (C' S' T' : yS) (u5 u6 u7 : yV), yEo x o ∧ yCx S0 t V a n B C' ∧ (yFr yRw C C' ∧ gI C' 69 ≤ n) ∧ yEr V B C' x S' T' ∧ Y q (d + 18) 112 71 [vr 125, vi x0, vi n, vi ((zG V).length : Int), vi x3, vi p, z5, z6, z7] [] S js = Y q (d + 18) 112 71 [vr 125, vi x0, vi n, vi ((zG V).length : Int), vi x3, vi ((p + 1 : Nat) : Int), u5, u6, u7] [] S' js ∧ Y q (d' + 10) 297 0 [vr 129, vi p, vu, vu] [] T ks = ythr q o T' ks := by
  obtain ⟨_, ⟨hTB, _, _, _, _, _, hn⟩, _⟩ := id hx
  obtain ⟨t1, t2, t3, t4, t5, t6, _⟩ := id hTB
  have n40 := nrow_le (c := gI B 10) (n := gI B 11) ⟨t2, t3⟩ ⟨t5, t6⟩
  have l3 := (vTo_all hx).1.2.2
  have ep : yr (p : Int) = p := yr_eq (by omega) (by omega)
  have en : yr (n : Int) = n := yr_eq (by omega) (by omega)
  have ep1 : (p : Int) + 1 = ((p + 1 : Nat) : Int) := by omega
  have e3 : x3 = ((11 - (zG V).length : Nat) : Int) := by omega
  have h69b : yFr yRw C (sI C 69 ((p + 1 : Nat) : Int)) ∧ gI (sI C 69 ((p + 1 : Nat) : Int)) 69 ≤ n := ⟨yFr_I rfl, by
    rw [gI_self]
    omega⟩
  have hx2 := yCx_69 (x := ((p + 1 : Nat) : Int)) hx
  obtain ⟨o, f, S1, T1, r1, hof, c1, f1⟩ := ybrk (q := q) (d := d + 15) (d' := d' + 8) (js := js) (ks := ks) hx h hp
  have cA : Y q (d + 18) 112 71 [vr 125, vi x0, vi n, vi ((zG V).length : Int), vi x3, vi p, z5, z6, z7] [] S js = Y q (d + 18) 112 96 [vr 125, vi x0, vi n, vi ((zG V).length : Int), vi x3, vi p, vi o, vi ((11 - (zG V).length : Nat) : Int), z7] [] S1 js := by
    rw [w112_71, ep, en, if_pos (by omega), h.1.2.1, if_pos yr_0, c1, YB_ret, w112_90, e3]
  have A := yaft (q := q) (d := d) (d' := d') (js := js) (ks := ks) (x0 := x0) (x1 := (n : Int)) (x3 := x3) (p := p) hx (by omega) hof ((zG V).length - o) (zG V).length z7 e S1 T1 (by omega) (by omega) r1
  rw [cA, f1]
  rcases A with ⟨e2, S2, T2, r2, _, ⟨y6, y7, c2⟩, ⟨y2, f2⟩⟩ | ⟨x, oo, S2, T2, hxo, r2, ⟨y5, y6, y7, c2⟩, f2⟩
  · rw [c2, f2]
    have R := ytrow (q := q) (d := d + 14) (d' := d' + 4) (js := js) (ks := ks) hx r2 hp h69
    rcases R with ⟨e3', S3, T3, r3, _, c3, f3⟩ | ⟨x, oo, S3, T3, hxo, r3, c3, f3⟩
    · have c3 : Y q (d + 17) 126 0 [vr 125, vi p, vu] [] S2 js = yretv q S3 js := c3
      have f3 : Y q (d' + 9) 299 0 [vr 129, vi p, vu] [] T2 ks = yretv q T3 ks := f3
      obtain ⟨e4, S4, T4, r4, c4, f4⟩ := yanew (q := q) (d := d + 15) (d' := d' + 8) (js := js) (ks := ks) (x0 := (p : Int)) hx2 r3 hof
      have c4 : Y q (d + 17) 127 0 [vr 125, vi o, vu] [] S3 js = yretv q S4 js := c4
      have f4 : Y q (d' + 10) 297 71 [vr 129, vi p, vi f, vi f] [] T3 ks = Y q (d' + 10) 297 92 [vr 129, vi p, vi f, vi f] [] T4 ks := f4
      have fo : Y q (d' + 10) 297 92 [vr 129, vi p, vi f, vi f] [] T4 ks = Y q (d' + 10) 297 92 [vr 129, vi p, vi f, vi o] [] T4 ks := by
        rcases hof.2 with ⟨w1, w2⟩ | ⟨w1, w2, w3⟩
        · rw [w1]
        · have g57 : gI T4 57 = (zG V).length := (iPq_rw hx2.1.2.2 r4.1.1.1.2).2.2.2.1.1.2.2.1.1
          have ef : yr (f : Int) = f := yr_eq (by omega) (by omega)
          have eo : yr (o : Int) = o := yr_eq (by omega) (by omega)
          have eg : yr ((zG V).length : Int) = (zG V).length := yr_eq (by omega) (by omega)
          rw [w297_92, g57, ef, eg, if_neg (by omega), w297_92, g57, eo, eg, if_neg (by omega)]
      have Bf := ybef (q := q) (d := d) (d' := d') (js := js) (ks := ks) (x0 := x0) (x1 := (n : Int)) (x3 := x3) (p := p) (o := o) (f := f) hx2 (by omega) ((zG V).length - o) o y7 e4 S4 T4 (by omega) r4
      rw [c3, f3, YB_retv, YB_retv, w112_146, c4, YB_retv, w112_152, w297_69, f4, fo]
      rcases Bf with ⟨e5, S5, T5, r5, _, ⟨v6, v7, c5⟩, f5⟩ | ⟨x, oo, S5, T5, hxo, r5, ⟨v5, v6, v7, c5⟩, f5⟩
      · rw [c5, f5, w128_0]
        have I := ytin (q := q) (d := d + 14) (d' := d' + 4) (js := js) (ks := ks) (x0 := (p : Int)) (x1 := (f : Int)) hx2 (zT V).length 0 e5 S5 T5 (by omega) r5
        have I : yGo q ks V n B (sI C 69 ((p + 1 : Nat) : Int)) (fun S' => gI S' 32 = gI S5 32) (Y q (d + 17) 128 2 [vr 125, vi 0] [] S5 js) (Y q (d' + 10) 297 117 [vr 129, vi p, vi f, vi 0] [] T5 ks) (fun S' c => c = yretv q S' js) (fun T' r => r = Y q (d' + 10) 297 117 [vr 129, vi p, vi f, vi (zT V).length] [] T' ks) (fun S' c => c = yretv q S' js) := I
        rcases I with ⟨e6, S6, T6, r6, _, c6, f6⟩ | ⟨x, oo, S6, T6, hxo, r6, c6, f6⟩
        · have g52 : gI T6 52 = (zT V).length := (iPq_rw hx2.1.2.2 r6.1.1.1.2).2.2.2.1.1.2.2.2.2.1.1
          have kb := kband (q := q) (js := js) (S := S6) (d := d + 16) (iPq_cw hx2.1.2.1 r6.1.1.1.1) (yCx_g hx2) (j := 3) (by omega)
          have kb1 : Y q (d + 17) 108 0 [vr 85, vi 3] [] S6 js = _ := kb.1
          have kb2 : Y q (d + 17) 109 0 [vr 85, vi 3] [] S6 js = _ := kb.2
          have D := ybody (q := q) (d := d) (d' := d') (js := js) (ks := ks) hx2 r6 (j := 3) (by omega) (by omega)
          rw [c6, f6, YB_retv, w112_201, kb1, YB_ret, w112_210, kb2, YB_ret, w112_218, w297_117, g52, if_neg (show ¬ yr ((zT V).length : Int) < yr ((zT V).length : Int) by omega)]
          rcases D with ⟨e7, S7, T7, r7, _, c7, f7⟩ | ⟨x, oo, S7, T7, hxo, r7, c7, f7⟩
          · have f7 : Y q (d' + 9) 290 0 [vr 129, vi 3, vu, vu, vu] [] T6 ks = yretv q T7 ks := f7
            refine Or.inl ⟨e7, S7, T7, vi (o : Int), vi v6, v7, r7, ?_, ?_⟩
            · rw [c7, YB_retv, w112_222, ep1]
            · rw [f7, YB_retv, w297_141]
          · have f7 : Y q (d' + 9) 290 0 [vr 129, vi 3, vu, vu, vu] [] T6 ks = ythr q oo T7 ks := f7
            refine Or.inr ⟨x, oo, _, S7, T7, vi (o : Int), vi v6, v7, hxo, hx2, h69b, r7, ?_, ?_⟩
            · rw [c7, YB_retv, w112_222, ep1]
            · rw [f7]
              exact yEo_t hxo (fun a b => t297 q a b T7 ks _ _ _ _)
        · have h34' : ¬ yr (gI S6 34) = 0 := by rw [r6.2.1]; exact yEo_0 hxo
          have e1 := k112e1 (q := q) (d := d) (js := js) (S := S6) hx2 r6.1.1.1 h34' (x0 := x0) (x1 := (n : Int)) (x2 := ((zG V).length : Int)) (x3 := x3) (x4 := (p : Int)) (x5 := (o : Int)) (x6 := v6) (x7 := v7)
          refine Or.inr ⟨x, oo, _, S6, T6, vi (o : Int), vi v6, v7, hxo, hx2, h69b, r6, ?_, f6⟩
          rw [c6, YB_retv, e1, ep1]
      · refine Or.inr ⟨x, oo, _, S5, T5, v5, v6, v7, hxo, hx2, h69b, r5, ?_, f5⟩
        rw [c5, ep1]
    · have c3 : Y q (d + 17) 126 0 [vr 125, vi p, vu] [] S2 js = yretv q S3 js := c3
      have f3 : Y q (d' + 9) 299 0 [vr 129, vi p, vu] [] T2 ks = ythr q oo T3 ks := f3
      have h34' : ¬ yr (gI S3 34) = 0 := by rw [r3.2.1]; exact yEo_0 hxo
      obtain ⟨v6, v7, hz⟩ := k112e3 (q := q) (d := d) (js := js) (S := S3) hx2 r3.1.1.1 h34' (x0 := x0) (x1 := (n : Int)) (x3 := x3) (x4 := (p : Int)) (x6 := y6) (o := o) (x7 := y7) hof.1
      refine Or.inr ⟨x, oo, _, S3, T3, vi (o : Int), v6, v7, hxo, hx2, h69b, r3, ?_, ?_⟩
      · rw [c3, YB_retv, hz, ep1]
      · rw [f3]
        exact yEo_t hxo (fun a b => t297 q a b T3 ks _ _ _ _)
  · refine Or.inr ⟨x, oo, _, S2, T2, y5, y6, y7, hxo, hx, ⟨yFr_rf _ _, by omega⟩, r2, ?_, f2⟩
    rw [c2, ep1]
end YUML
end YUM
