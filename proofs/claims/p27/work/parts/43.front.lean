/-! CLOSED RUNS: behind the constructor and the columns, and behind compile -/
section YFN
def yPh (b : Bool) (v : Value) : xPg := xHd b (xP_sf (xPrg v)) (xPrg v)
theorem yh_kd (v : Value) : xP_kd (xPrg v) ≠ 199 := show (100 : Nat) ≠ 199 by decide
theorem yh_sf (v : Value) : ∀ p j x, xP_sf (xPrg v) p j = some x → xP_sf (xPrg v) p j = some x := fun _ _ _ h => h
theorem yh_mk (v : Value) : ∀ p j, xP_mk (xPrg v) p j = none := by
  intro p j
  show xfs (xlk (xPl xPs p).2.2.2.2.2.2.2.2.2.2.2.2 j) = none
  have e : (xPl xPs p).2.2.2.2.2.2.2.2.2.2.2.2 = [] := by
    unfold xPl
    split
    · rename_i q hq
      have ha : (xPs.all fun q => q.2.2.2.2.2.2.2.2.2.2.2.2.isEmpty) = true := rfl
      exact List.isEmpty_iff.mp (List.all_eq_true.mp ha q (List.mem_of_getElem? hq))
    · rfl
  rw [e]
  rfl
def yh0 : List xO := (xB0 0 fun _ => 0).set 79 xUn
theorem yh0_set (L : Nat) (xs : Nat → Int32) : yh0.set 79 (.inl (10, L, .inl xs)) = xB0 L xs := rfl
theorem yh0_U : yh0[79]? = some xUn := rfl
theorem xSim_set {hv : Value} {H : List xO} {a : Nat} {z : xO} (hU : H[a]? = some xUn) : xSim false hv (fun i => if i = a then some z else none) H (H.set a z) := by
  have hl : a < H.length := (List.getElem?_eq_some_iff.mp hU).1
  refine ⟨by rw [List.length_set], fun i hi => if_neg (by omega), fun i o ho => ?_, fun h => by cases h⟩
  by_cases e : i = a
  · subst e
    refine ⟨z, List.getElem?_set_self hl, ?_, fun _ w hw => ?_⟩
    · rw [hU] at ho
      cases ho
      exact Or.inl rfl
    · have hw : (if i = i then some z else none) = some w := hw
      rw [if_pos rfl] at hw
      cases hw
      rfl
  · exact ⟨o, by rw [List.getElem?_set_ne (Ne.symm e)]; exact ho, xlike_rf _, fun _ w hw => by have hw : (if i = a then some z else none) = some w := hw; rw [if_neg e] at hw; cases hw⟩
/-! shapes -/
theorem ycos_iff : ∀ (es : List yDs) (os : List xO) (k : Nat), ycos k es os = true ↔ (os.length = es.length ∧ ∀ (i : Nat) (e : yDs) (o : xO), es[i]? = some e → os[i]? = some o → yco1 (k + i) e o = true)
  | [], [], k => ⟨fun _ => ⟨rfl, fun i e o h => by simp at h⟩, fun _ => rfl⟩
  | [], o :: os, k => ⟨fun h => (by cases h), fun h => absurd h.1 (by simp)⟩
  | e :: es, [], k => ⟨fun h => (by cases h), fun h => absurd h.1 (by simp)⟩
  | e :: es, o :: os, k => by
    show (yco1 k e o && ycos (k + 1) es os) = true ↔ _
    rw [Bool.and_eq_true, ycos_iff es os (k + 1)]
    constructor
    · rintro ⟨h1, h2, h3⟩
      refine ⟨by rw [List.length_cons, List.length_cons, h2], fun i e' o' he ho => ?_⟩
      cases i with
      | zero => cases he; cases ho; exact h1
      | succ i =>
        have := h3 i e' o' he ho
        rwa [show k + 1 + i = k + (i + 1) by omega] at this
    · rintro ⟨h1, h2⟩
      refine ⟨h2 0 e o rfl rfl, by simpa using h1, fun i e' o' he ho => ?_⟩
      have := h2 (i + 1) e' o' he ho
      rwa [show k + (i + 1) = k + 1 + i by omega] at this
def yun (o : xO) : Bool := match o with
  | .inr (c, _) => Nat.beq c 199
  | _ => false
def yc8 (o : xO) : Bool := match o with
  | .inr (c, _) => Nat.beq c 8
  | _ => false
/-- a heap's things from 81 on are of their shapes: all but those at 1 and at ex -/
def yshp (ex : Nat) (H : List xO) : Bool := Nat.ble 135 H.length && (List.range 54).all fun i => Nat.beq i ex || Nat.beq i 1 || (match yT[i]?, H[81 + i]? with
  | some e, some o => yco1 i e o && !yun o && !yc8 o
  | _, _ => false)
/-- the table's object -/
def y82 (H : List xO) (w : Value) : Bool := match (H[82]? : Option xO) with
  | some (.inr (c, fs)) => Nat.beq c 8 && decide (fs = [.int 2, w, .ref 83, .ref 84, .ref 85])
  | _ => false
theorem y82_ok {H : List xO} {w : Value} (h : y82 H w = true) : H[82]? = some (.inr (8, [.int 2, w, .ref 83, .ref 84, .ref 85])) := by
  unfold y82 at h
  split at h
  · rename_i c fs e
    rw [Bool.and_eq_true] at h
    rw [e, Nat.eq_of_beq_eq_true h.1, of_decide_eq_true h.2]
  · cases h
section YFNS
variable {b : Bool} {hv : Value} {R : Nat → Option xO} {H H' : List xO}
theorem yco1_like {k : Nat} {e : yDs} {o o' : xO} (hl : xLike b o o') (hn : yun o = false) (h8 : yc8 o = false) (h : yco1 k e o = true) : yco1 k e o' = true := by
  rcases hl with h1 | h1 | ⟨t, n, f, f', h1, h2, -⟩ | ⟨t, n, f, f', h1, h2, -⟩ | ⟨t, n, f, f', h1, h2, -⟩ | ⟨hb, fs, fs', h1, h2, -⟩
  · subst h1
    cases hn
  · rw [← h1]
    exact h
  · subst h1
    subst h2
    rcases e with ⟨c, ps⟩ | ⟨t0, n0, s0⟩ <;> exact h
  · subst h1
    subst h2
    rcases e with ⟨c, ps⟩ | ⟨t0, n0, s0⟩ <;> exact h
  · subst h1
    subst h2
    rcases e with ⟨c, ps⟩ | ⟨t0, n0, s0⟩ <;> exact h
  · subst h1
    cases h8
theorem yshp_at {ex i : Nat} (h : yshp ex H = true) (hi : i < 54) (h1 : i ≠ 1) (hx : i ≠ ex) : ∃ e o, yT[i]? = some e ∧ H[81 + i]? = some o ∧ yco1 i e o = true ∧ yun o = false ∧ yc8 o = false := by
  unfold yshp at h
  rw [Bool.and_eq_true] at h
  have := List.all_eq_true.mp h.2 i (List.mem_range.mpr hi)
  rw [Bool.or_eq_true, Bool.or_eq_true] at this
  rcases this with (h2 | h2) | h2
  · exact (hx (Nat.eq_of_beq_eq_true h2)).elim
  · exact (h1 (Nat.eq_of_beq_eq_true h2)).elim
  · split at h2
    · rename_i e o e1 e2
      simp only [Bool.and_eq_true, Bool.not_eq_true'] at h2
      exact ⟨e, o, e1, e2, h2.1.1, h2.1.2, h2.2⟩
    · cases h2
/-- the object of the table, on the heap itself -/
theorem y82_real (hU : xSim b hv R H H') {w : Value} (h : y82 H w = true) : ∃ x : Value, H'[82]? = some (.inr (8, [.int 2, x, .ref 83, .ref 84, .ref 85])) ∧ (b = true → x = hv) ∧ (b = false → x = w) := by
  obtain ⟨fs', h1, h2, h3⟩ := xs_obj hU (y82_ok h) (by rintro ⟨e, -⟩; cases e)
  have h4 := h3 0 (by rintro ⟨-, -, e⟩; cases e)
  have h5 := h3 2 (by rintro ⟨-, -, e⟩; cases e)
  have h6 := h3 3 (by rintro ⟨-, -, e⟩; cases e)
  have h7 := h3 4 (by rintro ⟨-, -, e⟩; cases e)
  match fs', h2, h4, h5, h6, h7 with
  | [a0, a1, a2, a3, a4], _, h4, h5, h6, h7 =>
    cases h4
    cases h5
    cases h6
    cases h7
    refine ⟨a1, h1, fun hb => ?_, fun hb => ?_⟩
    · obtain ⟨gs, g1, g2⟩ := hU.2.2.2 hb
      rw [h1] at g1
      cases g1
      cases g2
      rfl
    · have := h3 1 (by rintro ⟨e, -⟩; rw [hb] at e; cases e)
      cases this
      rfl
/-- the heap itself is of the flat machine's shape -/
theorem yshp_real (hU : xSim b hv R H H') {ex : Nat} {w : Value} (h : yshp ex H = true) (h82 : y82 H w = true) (hx : ∃ x : Int32, (b = true → hv = .int x) ∧ (b = false → w = .int x)) (hex : ∀ e, yT[ex]? = some e → ∃ o, H'[81 + ex]? = some o ∧ yco1 ex e o = true) : 135 ≤ H'.length ∧ ycos 0 yT ((H'.take 135).drop 81) = true := by
  have hl : 135 ≤ H'.length := by
    unfold yshp at h
    rw [Bool.and_eq_true] at h
    rw [← hU.1]
    exact Nat.le_of_ble_eq_true h.1
  refine ⟨hl, (ycos_iff _ _ _).mpr ⟨by rw [List.length_drop, List.length_take, yT_len]; omega, fun i e o he ho => ?_⟩⟩
  have hi : i < 54 := by
    have := (List.getElem?_eq_some_iff.mp he).1
    rwa [yT_len] at this
  have ho : H'[81 + i]? = some o := by
    rw [List.getElem?_drop, List.getElem?_take_of_lt (by omega)] at ho
    exact ho
  rw [Nat.zero_add]
  by_cases h1 : i = 1
  · subst h1
    obtain ⟨x, g1, g2, g3⟩ := y82_real hU h82
    obtain ⟨x0, x1, x2⟩ := hx
    rw [show 81 + 1 = 82 from rfl, g1] at ho
    cases ho
    cases he
    have : x = .int x0 := by
      cases b
      · exact (g3 rfl).trans (x2 rfl)
      · exact (g2 rfl).trans (x1 rfl)
    subst this
    rfl
  · by_cases h2 : i = ex
    · subst h2
      obtain ⟨o2, k1, k2⟩ := hex e he
      rw [k1] at ho
      cases ho
      exact k2
    · obtain ⟨e', o', k1, k2, k3, k4, k5⟩ := yshp_at h hi h1 h2
      rw [he] at k1
      cases k1
      obtain ⟨o2, l1, l2, -⟩ := hU.2.2.1 _ _ k2
      rw [l1] at ho
      cases ho
      exact yco1_like l2 k4 k5 k3
theorem yH_of {q : yQ} {H : List xO} (h0 : H.take 81 = xB0 q.2.1 q.2.2) (hl : 135 ≤ H.length) (h : ycos 0 yT ((H.take 135).drop 81) = true) : H = yH q (yext H) (H.drop 135) := by
  have e := ycos_ok (H := H) h (fun i o ho => by
    have hi := (List.getElem?_eq_some_iff.mp ho).1
    rw [List.length_drop, List.length_take] at hi
    rw [List.getElem?_drop, List.getElem?_take_of_lt (by omega)] at ho
    rw [Nat.zero_add]
    exact ho)
  unfold yH
  rw [e, ← h0]
  have a1 : H = H.take 135 ++ H.drop 135 := (List.take_append_drop 135 H).symm
  have a2 : H.take 135 = (H.take 135).take 81 ++ (H.take 135).drop 81 := (List.take_append_drop 81 _).symm
  have a3 : (H.take 135).take 81 = H.take 81 := by rw [List.take_take]; rfl
  rw [a3] at a2
  conv => lhs; rw [a1, a2]
  rw [List.append_assoc]
/-! what is known of slots -/
def ypI (H : List xO) (l : List (Nat × Int)) : Bool := l.all fun p => match yIs[p.1]? with
  | some (k, f) => !Nat.beq k 1 && (match H[81 + k]? with
    | some (.inr (c, fs)) => !Nat.beq c 199 && !Nat.beq c 8 && (match fs[f]? with
      | some (.int x) => decide (x.toInt = p.2)
      | _ => false)
    | _ => false)
  | none => false
def ypA (H : List xO) (l : List (Nat × List Int)) : Bool := l.all fun p => match yAs[p.1]? with
  | some k => (match H[81 + k]? with
    | some (.inl (_, n, .inl g)) => Nat.ble p.2.length n && (List.range p.2.length).all fun j => decide ((g j).toInt = p.2.getD j 0)
    | _ => false)
  | none => false
def ypB (H : List xO) (l : List (Nat × List Int64)) : Bool := l.all fun p => match yBs[p.1]? with
  | some k => (match H[81 + k]? with
    | some (.inl (_, n, .inr (.inl g))) => Nat.ble p.2.length n && (List.range p.2.length).all fun j => decide (g j = p.2.getD j 0)
    | _ => false)
  | none => false
def ypC (H : List xO) (l : List (Nat × List Nat)) : Bool := l.all fun p => match yCs[p.1]? with
  | some k => (match H[81 + k]? with
    | some (.inl (_, n, .inr (.inr (.inr (.inr g))))) => Nat.ble p.2.length n && (List.range p.2.length).all fun j => Nat.beq (yco (g j)) (p.2.getD j 0)
    | _ => false)
  | none => false
theorem ypI_ok (hU : xSim b hv R H H') {l : List (Nat × Int)} (h : ypI H l = true) : ∀ p ∈ l, gI (yext H') p.1 = p.2 := by
  intro p hp
  have h1 := List.all_eq_true.mp h p hp
  show yxI H' p.1 = p.2
  split at h1
  · rename_i k f hk
    rw [Bool.and_eq_true] at h1
    have h2 := h1.2
    split at h2
    · rename_i c fs ho
      simp only [Bool.and_eq_true, Bool.not_eq_true'] at h2
      obtain ⟨⟨h3, h4⟩, h5⟩ := h2
      obtain ⟨fs', g1, -, g2⟩ := xs_obj hU ho (by rintro ⟨rfl, -⟩; cases h3)
      have g3 := g2 f (by rintro ⟨-, rfl, -⟩; cases h4)
      split at h5
      · rename_i x hx
        unfold yxI yxf
        simp only [hk, g1]
        rw [List.getD_eq_getElem?_getD, g3, hx]
        exact of_decide_eq_true h5
      · cases h5
    · cases h2
  · cases h1
theorem ypA_ok (hU : xSim b hv R H H') {l : List (Nat × List Int)} (h : ypA H l = true) : ∀ p ∈ l, ∀ j, j < p.2.length → gA (yext H') p.1 j = p.2.getD j 0 := by
  intro p hp j hj
  have h1 := List.all_eq_true.mp h p hp
  show yxA H' p.1 j = p.2.getD j 0
  split at h1
  · rename_i k hk
    split at h1
    · rename_i t n g ho
      rw [Bool.and_eq_true] at h1
      obtain ⟨f', g1, g2⟩ := xs_int hU ho
      unfold yxA
      simp only [hk, g1]
      rw [← g2 j (Nat.lt_of_lt_of_le hj (Nat.le_of_ble_eq_true h1.1))]
      exact of_decide_eq_true (List.all_eq_true.mp h1.2 j (List.mem_range.mpr hj))
    · cases h1
  · cases h1
theorem ypB_ok (hU : xSim b hv R H H') {l : List (Nat × List Int64)} (h : ypB H l = true) : ∀ p ∈ l, ∀ j, j < p.2.length → gB (yext H') p.1 j = p.2.getD j 0 := by
  intro p hp j hj
  have h1 := List.all_eq_true.mp h p hp
  show yxB H' p.1 j = p.2.getD j 0
  split at h1
  · rename_i k hk
    split at h1
    · rename_i t n g ho
      rw [Bool.and_eq_true] at h1
      obtain ⟨f', g1, g2⟩ := xs_long hU ho
      unfold yxB
      simp only [hk, g1]
      rw [← g2 j (Nat.lt_of_lt_of_le hj (Nat.le_of_ble_eq_true h1.1))]
      exact of_decide_eq_true (List.all_eq_true.mp h1.2 j (List.mem_range.mpr hj))
    · cases h1
  · cases h1
theorem ypC_ok (hU : xSim b hv R H H') {l : List (Nat × List Nat)} (h : ypC H l = true) : ∀ p ∈ l, ∀ j, j < p.2.length → gC (yext H') p.1 j = p.2.getD j 0 := by
  intro p hp j hj
  have h1 := List.all_eq_true.mp h p hp
  show yxC H' p.1 j = p.2.getD j 0
  split at h1
  · rename_i k hk
    split at h1
    · rename_i t n g ho
      rw [Bool.and_eq_true] at h1
      obtain ⟨f', g1, g2⟩ := xs_ref hU ho
      unfold yxC
      simp only [hk, g1]
      rw [← g2 j (Nat.lt_of_lt_of_le hj (Nat.le_of_ble_eq_true h1.1))]
      exact Nat.eq_of_beq_eq_true (List.all_eq_true.mp h1.2 j (List.mem_range.mpr hj))
    · cases h1
  · cases h1
end YFNS
end YFN
