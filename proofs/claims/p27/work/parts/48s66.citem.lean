/-! taken from whole by wip/p27/slice2.py: 9zu.citem.lean.txt -/
section YCI
def dIe : yIe := (0, 0, 0, 0)
def sadI (kd n c : Nat) (V : yPV) : yPV := zsI V (qzI V ++ [(kd, n, c, (qzI V).length + 1)])
def snI (i n : Nat) (V : yPV) : yPV := zsI V ((qzI V).set i (((qzI V).getD i dIe).1, n, ((qzI V).getD i dIe).2.2.1, ((qzI V).getD i dIe).2.2.2))
def scI (i c : Nat) (V : yPV) : yPV := zsI V ((qzI V).set i (((qzI V).getD i dIe).1, ((qzI V).getD i dIe).2.1, c, ((qzI V).getD i dIe).2.2.2))
def skI (i k : Nat) (V : yPV) : yPV := zsI V ((qzI V).set i (k, ((qzI V).getD i dIe).2.1, ((qzI V).getD i dIe).2.2.1, ((qzI V).getD i dIe).2.2.2))
def seI (i : Nat) (V : yPV) : yPV := zsI V ((qzI V).set i (((qzI V).getD i dIe).1, ((qzI V).getD i dIe).2.1, ((qzI V).getD i dIe).2.2.1, (qzI V).length))
def slyP (e : yIe) (V : yPV) : yPV := zsP V (qzP V ++ [e])
def saP (i n : Nat) (V : yPV) : yPV := zsP V ((qzP V).set i (((qzP V).getD i dIe).1, n, ((qzP V).getD i dIe).2.2.1, ((qzP V).getD i dIe).2.2.2))
def sbP (i n : Nat) (V : yPV) : yPV := zsP V ((qzP V).set i (((qzP V).getD i dIe).1, ((qzP V).getD i dIe).2.1, n, ((qzP V).getD i dIe).2.2.2))
section YCIL
variable {q : yQ} {d : Nat} {js : List xO} {G : yGx} {σ σ' : yPS} {m : yMo} {S S' : yS} {a a' w : Int} {dp : Nat}
theorem yWT_i {S S' : yS} (h : yFr yWi S S') : yFr yWT S S' := yFr_mo h fun s k e => by
  unfold yWT at e
  unfold yWi
  simp only [Bool.or_eq_false_iff] at e ⊢
  obtain ⟨⟨⟨e1, e2⟩, e3⟩, e4⟩ := e
  refine ⟨⟨?_, ?_⟩, ?_⟩
  · cases hs : (s == 0)
    · rfl
    · rw [hs] at e1
      simp only [Bool.true_and, Bool.or_eq_false_iff] at e1 ⊢
      exact e1.1.1.2
  · cases hs : (s == 3)
    · rfl
    · rw [hs] at e2
      simp only [Bool.true_and, Bool.or_eq_false_iff] at e2 ⊢
      exact ⟨⟨e2.1.1.1.1.1.1.1.1.2, e2.1.1.1.1.1.1.1.2⟩, e2.1.1.1.1.1.1.2⟩
  · cases hs : (s == 5)
    · rfl
    · rw [hs] at e4
      simp only [Bool.true_and, Bool.or_eq_false_iff] at e4 ⊢
      exact e4.2
/-- what is done to the items alone -/
theorem cP_i {f : yPV → yPV} (h : cP G a S σ) (hf : yFr yWi S S') (hr : (0 ≤ gI S' 25 ∧ gI S' 25 ≤ 2000) ∧ ∀ j : Nat, (j : Int) < gI S' 25 → (0 ≤ gA S' 29 j ∧ gA S' 29 j ≤ 2000) ∧ gC S' 3 j < 67) (hv : ∀ t V, σ = .inr (t, .inr V) → vIt S (qzI V) → ∃ l, f V = zsI V l ∧ vIt S' l ∧ (qzI V).length ≤ l.length ∧ (l.length : Int) + a ≤ (qzI V).length + a') : cP G a' S' (smp f σ) := by
  have hR := h.2.1
  have al : ∀ t V, σ = .inr (t, .inr V) → ∃ l, f V = zsI V l ∧ vIt S' l ∧ (qzI V).length ≤ l.length ∧ (l.length : Int) + a ≤ (qzI V).length + a' := fun t V e => hv t V e (h.2.2.2 t V e).1.2.2.2.2.2.1
  refine cP_T h (yWT_i hf) ?_ (fun t V e => ?_) fun t V e v o => ?_
  · unfold cRg cGr at hR ⊢
    rw [hf.1 20 rfl, hf.1 21 rfl, hf.1 22 rfl, hf.1 23 rfl, hf.1 24 rfl, hf.1 8 rfl, hf.1 9 rfl, hf.2.2.2.1 25 rfl, hf.2.2.2.1 26 rfl]
    exact ⟨hR.1, hR.2.1, hR.2.2.1, hR.2.2.2.1, hR.2.2.2.2.1, hR.2.2.2.2.2.1, hR.2.2.2.2.2.2.1, hr.1, hR.2.2.2.2.2.2.2.2.1, hr.2⟩
  · obtain ⟨l, e1, _⟩ := al t V e
    rw [e1]
    exact ⟨rfl, rfl⟩
  · obtain ⟨l, e1, e2, e3, e4⟩ := al t V e
    rw [e1]
    refine ⟨⟨vPg_fr v.1 hf ⟨rfl, rfl, rfl⟩, vO_fr v.2.1 hf ⟨rfl, rfl, rfl⟩, vG_fr v.2.2.1 hf ⟨rfl, rfl⟩, cDe_fr v.2.2.2.1 hf ⟨rfl, rfl, rfl, rfl, rfl, rfl⟩, cDe_fr v.2.2.2.2.1 hf ⟨rfl, rfl, rfl, rfl, rfl, rfl⟩, e2, cBn_fr v.2.2.2.2.2.2 hf rfl⟩, ?_⟩
    obtain ⟨o1, o2, o3, o4, o5, o6⟩ := o
    refine ⟨o1, ?_, o3, o4, fun j i c hb => ?_, o6⟩
    · show (l.length : Int) ≤ _
      omega
    · have := o5 j i c hb
      show i < l.length
      omega
theorem yLs_set {α : Type} {n : Int} {L : List α} {r r' : Nat → α → Prop} {i : Nat} {x : α} (h : yLs n L r) (hx : i < L.length → r' i x) (hr : ∀ j y, j ≠ i → r j y → r' j y) : yLs n (L.set i x) r' := by
  refine ⟨by rw [List.length_set]; exact h.1, fun j y hj => ?_⟩
  rw [List.getElem?_set] at hj
  by_cases z : i = j
  · subst z
    rw [if_pos rfl] at hj
    by_cases z2 : i < L.length
    · rw [if_pos z2] at hj
      cases hj
      exact hx z2
    · rw [if_neg z2] at hj
      nomatch hj
  · rw [if_neg z] at hj
    exact hr j y (fun e => z e.symm) (h.2 j y hj)
theorem cP_25 (h : cP G a S σ) : ∃ cnt : Nat, gI S 25 = cnt ∧ cnt ≤ 2000 ∧ ∀ t V, σ = .inr (t, .inr V) → (qzI V).length = cnt := by
  have hr := h.2.1.2.2.2.2.2.2.2.1
  refine ⟨(gI S 25).toNat, by omega, by omega, fun t V e => ?_⟩
  have := (h.2.2.2 t V e).1.2.2.2.2.2.1.1
  omega
theorem k100 {kd n c : Nat} {na nb : Int} (h : cP G a S σ) (hkd : kd < 67) (hl : ∀ t V, σ = .inr (t, .inr V) → (qzI V).length < 2000 ∧ na = n ∧ nb = c) : ∃ (S' : yS) (i : Nat), Y q d 100 0 [vr 91, vr kd, vi na, vi nb, vu] [] S js = yret q (vi (i : Int)) S' js ∧ yFr yWi S S' ∧ cP G (a + 1) S' (smp (sadI kd n c) σ) ∧ i ≤ 2000 ∧ ∀ t V, σ = .inr (t, .inr V) → i = (qzI V).length := by
  obtain ⟨cnt, h1, h2, h3⟩ := cP_25 h
  obtain ⟨S', e1, e2, e3, e4⟩ := c100 (q := q) (d := d) (js := js) (a := na) (b := nb) h1 h2 hkd
  have hr := h.2.1.2.2.2.2.2.2.2.2.2
  refine ⟨S', cnt, e1, e2, cP_i h e2 ?_ fun t V e v => ?_, h2, fun t V e => (h3 t V e).symm⟩
  · by_cases z : cnt < 2000
    · obtain ⟨f1, f2, f3, f4, f5⟩ := e3 z
      refine ⟨by omega, fun j hj => ?_⟩
      rw [f2, f5]
      by_cases y : j = cnt
      · rw [if_pos y, if_pos y]
        omega
      · rw [if_neg y, if_neg y]
        exact hr j (by omega)
    · rw [e4 z]
      exact ⟨by omega, hr⟩
  · obtain ⟨l1, l2, l3⟩ := hl t V e
    have hc := h3 t V e
    obtain ⟨f1, f2, f3, f4, f5⟩ := e3 (by omega)
    refine ⟨_, rfl, yLs_app v (by rw [f1, hc]) ?_ fun j y hj hy => ?_, ?_, ?_⟩
    · show gC S' 3 (qzI V).length = kd ∧ gA S' 27 (qzI V).length = n ∧ gA S' 28 (qzI V).length = c ∧ gA S' 29 (qzI V).length = (((qzI V).length + 1 : Nat) : Int)
      rw [f2, f3, f4, f5, if_pos hc, if_pos hc, if_pos hc, if_pos hc, l2, l3, hc]
      exact ⟨rfl, rfl, rfl, rfl⟩
    · show gC S' 3 j = y.1 ∧ gA S' 27 j = y.2.1 ∧ gA S' 28 j = y.2.2.1 ∧ gA S' 29 j = y.2.2.2
      rw [f2, f3, f4, f5, if_neg (by omega), if_neg (by omega), if_neg (by omega), if_neg (by omega)]
      exact hy
    · rw [List.length_append]
      omega
    · rw [List.length_append]
      show ((_ + 1 : Nat) : Int) + _ ≤ _
      omega
theorem k103 {i i0 n : Nat} {v : Int} (h : cP G a S σ) (hi : i ≤ 2000) (hl : ∀ t V, σ = .inr (t, .inr V) → i = i0 ∧ v = n) : ∃ S' : yS, Y q d 103 0 [vr 91, vi i, vi v] [] S js = yretv q S' js ∧ yFr yWi S S' ∧ cP G a S' (smp (snI i0 n) σ) := by
  obtain ⟨cnt, h1, h2, h3⟩ := cP_25 h
  have hr := h.2.1.2.2.2.2.2.2.2
  rw [c103 h1 h2 hi]
  have fr : yFr yWi S (if i < cnt then sA S 27 i v else S) := by
    split
    · exact yFr_A rfl
    · exact yFr_rf _ _
  refine ⟨_, rfl, fr, cP_i h fr ?_ fun t V e vv => ?_⟩
  · split
    · exact ⟨hr.1, hr.2.2⟩
    · exact ⟨hr.1, hr.2.2⟩
  · obtain ⟨l1, l2⟩ := hl t V e
    subst l1
    have hc := h3 t V e
    refine ⟨_, rfl, ?_, by rw [List.length_set]; omega, by rw [List.length_set]; omega⟩
    by_cases z : i < cnt
    · rw [if_pos z]
      refine yLs_set vv (fun hlt => ?_) fun j y hj hy => ?_
      · have := yLs_D vv dIe hlt
        show gC S 3 i = _ ∧ gA (sA S 27 i v) 27 i = _ ∧ gA S 28 i = _ ∧ gA S 29 i = _
        rw [gA_self, if_pos rfl]
        exact ⟨this.1, l2, this.2.2.1, this.2.2.2⟩
      · show gC S 3 j = y.1 ∧ gA (sA S 27 i v) 27 j = y.2.1 ∧ gA S 28 j = y.2.2.1 ∧ gA S 29 j = y.2.2.2
        rw [gA_self, if_neg hj]
        exact hy
    · rw [if_neg z]
      exact yLs_set vv (fun hlt => absurd hlt (by omega)) fun j y hj hy => hy
theorem k105 {i i0 n : Nat} {v : Int} (h : cP G a S σ) (hi : i ≤ 2000) (hl : ∀ t V, σ = .inr (t, .inr V) → i = i0 ∧ v = n) : ∃ S' : yS, Y q d 105 0 [vr 91, vi i, vi v] [] S js = yretv q S' js ∧ yFr yWi S S' ∧ cP G a S' (smp (scI i0 n) σ) := by
  obtain ⟨cnt, h1, h2, h3⟩ := cP_25 h
  have hr := h.2.1.2.2.2.2.2.2.2
  rw [c105 h1 h2 hi]
  have fr : yFr yWi S (if i < cnt then sA S 28 i v else S) := by
    split
    · exact yFr_A rfl
    · exact yFr_rf _ _
  refine ⟨_, rfl, fr, cP_i h fr ?_ fun t V e vv => ?_⟩
  · split
    · exact ⟨hr.1, hr.2.2⟩
    · exact ⟨hr.1, hr.2.2⟩
  · obtain ⟨l1, l2⟩ := hl t V e
    subst l1
    have hc := h3 t V e
    refine ⟨_, rfl, ?_, by rw [List.length_set]; omega, by rw [List.length_set]; omega⟩
    by_cases z : i < cnt
    · rw [if_pos z]
      refine yLs_set vv (fun hlt => ?_) fun j y hj hy => ?_
      · have := yLs_D vv dIe hlt
        show gC S 3 i = _ ∧ gA S 27 i = _ ∧ gA (sA S 28 i v) 28 i = _ ∧ gA S 29 i = _
        rw [gA_self, if_pos rfl]
        exact ⟨this.1, this.2.1, l2, this.2.2.2⟩
      · show gC S 3 j = y.1 ∧ gA S 27 j = y.2.1 ∧ gA (sA S 28 i v) 28 j = y.2.2.1 ∧ gA S 29 j = y.2.2.2
        rw [gA_self, if_neg hj]
        exact hy
    · rw [if_neg z]
      exact yLs_set vv (fun hlt => absurd hlt (by omega)) fun j y hj hy => hy
theorem k104 {i i0 kd : Nat} (h : cP G a S σ) (hi : i ≤ 2000) (hkd : kd < 67) (hl : ∀ t V, σ = .inr (t, .inr V) → i = i0) : ∃ S' : yS, Y q d 104 0 [vr 91, vi i, vr kd] [] S js = yretv q S' js ∧ yFr yWi S S' ∧ cP G a S' (smp (skI i0 kd) σ) := by
  obtain ⟨cnt, h1, h2, h3⟩ := cP_25 h
  have hr := h.2.1.2.2.2.2.2.2.2
  rw [c104 h1 h2 hi hkd]
  have fr : yFr yWi S (if i < cnt then sC S 3 i kd else S) := by
    split
    · exact yFr_C rfl
    · exact yFr_rf _ _
  refine ⟨_, rfl, fr, cP_i h fr ?_ fun t V e vv => ?_⟩
  · split
    · refine ⟨hr.1, fun j hj => ⟨(hr.2.2 j hj).1, ?_⟩⟩
      rw [gC_self]
      split
      · exact hkd
      · exact (hr.2.2 j hj).2
    · exact ⟨hr.1, hr.2.2⟩
  · have l1 := hl t V e
    subst l1
    have hc := h3 t V e
    refine ⟨_, rfl, ?_, by rw [List.length_set]; omega, by rw [List.length_set]; omega⟩
    by_cases z : i < cnt
    · rw [if_pos z]
      refine yLs_set vv (fun hlt => ?_) fun j y hj hy => ?_
      · have := yLs_D vv dIe hlt
        show gC (sC S 3 i kd) 3 i = _ ∧ gA S 27 i = _ ∧ gA S 28 i = _ ∧ gA S 29 i = _
        rw [gC_self, if_pos rfl]
        exact ⟨rfl, this.2.1, this.2.2.1, this.2.2.2⟩
      · show gC (sC S 3 i kd) 3 j = y.1 ∧ gA S 27 j = y.2.1 ∧ gA S 28 j = y.2.2.1 ∧ gA S 29 j = y.2.2.2
        rw [gC_self, if_neg hj]
        exact hy
    · rw [if_neg z]
      exact yLs_set vv (fun hlt => absurd hlt (by omega)) fun j y hj hy => hy
theorem k106 {i i0 : Nat} (h : cP G a S σ) (hi : i ≤ 2000) (hl : ∀ t V, σ = .inr (t, .inr V) → i = i0) : ∃ S' : yS, Y q d 106 0 [vr 91, vi i] [] S js = yretv q S' js ∧ yFr yWi S S' ∧ cP G a S' (smp (seI i0) σ) := by
  obtain ⟨cnt, h1, h2, h3⟩ := cP_25 h
  have hr := h.2.1.2.2.2.2.2.2.2
  rw [c106 h1 h2 hi]
  have fr : yFr yWi S (if i < cnt then sA S 29 i cnt else S) := by
    split
    · exact yFr_A rfl
    · exact yFr_rf _ _
  refine ⟨_, rfl, fr, cP_i h fr ?_ fun t V e vv => ?_⟩
  · split
    · refine ⟨hr.1, fun j hj => ⟨?_, (hr.2.2 j hj).2⟩⟩
      rw [gA_self]
      split
      · omega
      · exact (hr.2.2 j hj).1
    · exact ⟨hr.1, hr.2.2⟩
  · have l1 := hl t V e
    subst l1
    have hc := h3 t V e
    refine ⟨_, rfl, ?_, by rw [List.length_set]; omega, by rw [List.length_set]; omega⟩
    by_cases z : i < cnt
    · rw [if_pos z]
      refine yLs_set vv (fun hlt => ?_) fun j y hj hy => ?_
      · have := yLs_D vv dIe hlt
        show gC S 3 i = _ ∧ gA S 27 i = _ ∧ gA S 28 i = _ ∧ gA (sA S 29 i cnt) 29 i = (((qzI V).length : Nat) : Int)
        rw [gA_self, if_pos rfl, hc]
        exact ⟨this.1, this.2.1, this.2.2.1, rfl⟩
      · show gC S 3 j = y.1 ∧ gA S 27 j = y.2.1 ∧ gA S 28 j = y.2.2.1 ∧ gA (sA S 29 i cnt) 29 j = y.2.2.2
        rw [gA_self, if_neg hj]
        exact hy
    · rw [if_neg z]
      exact yLs_set vv (fun hlt => absurd hlt (by omega)) fun j y hj hy => hy
/-- the plan is none of the class's -/
theorem cP_P {f : yPV → yPV} (h : cP G a S σ) (hf : ∀ V, ∃ l, f V = zsP V l) : cP G a S (smp f σ) := by
  refine cP_T h (yFr_rf _ _) h.2.1 (fun t V _ => ?_) fun t V _ v o => ?_
  · obtain ⟨l, e⟩ := hf V
    rw [e]
    exact ⟨rfl, rfl⟩
  · obtain ⟨l, e⟩ := hf V
    rw [e]
    exact ⟨v, o⟩
theorem smp_mp {f g : yPV → yPV} : smp f (smp g σ) = smp (fun V => f (g V)) σ := by
  rcases σ with p | ⟨t, e | V⟩ <;> rfl
end YCIL
end YCI
