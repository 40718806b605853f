/-! taken from whole by wip/p27/slice2.py: 60.prim.lean.txt -/
section YPI
/-- what holds of code and texts while only tokens are read -/
theorem cO_k {S S' : yS} {u : Nat} (hu : u = 0 ∨ u = 1) (h : cO S u) (hf : yFr yWk S S') : cO S' u := by
  rcases hu with rfl | rfl
  · obtain ⟨h1, h2, h3, h4, h5⟩ := h
    have e0 : gI S' 0 = gI S 0 := hf.1 0 rfl
    have e2 : gI S' 2 = gI S 2 := hf.1 2 rfl
    have e4 : gA S' 4 = gA S 4 := hf.2.2.2.1 4 rfl
    exact ⟨by rw [e0]; exact h1, by rw [e0]; exact h2, (by show 0 ≤ gI S' 2; rw [e2]; exact h3), (by show gI S' 2 ≤ 1000; rw [e2]; exact h4), fun k hk => by
      have hk : (k : Int) ≤ gI S' 2 := hk
      rw [e2] at hk
      show 0 ≤ gA S' 4 k ∧ gA S' 4 k ≤ 2000 ∧ (k = 0 → gA S' 4 k = 0)
      rw [e4]
      exact h5 k hk⟩
  · obtain ⟨h1, h2, h3, h4, h5⟩ := h
    have e0 : gI S' 1 = gI S 1 := hf.1 1 rfl
    have e2 : gI S' 3 = gI S 3 := hf.1 3 rfl
    have e4 : gA S' 5 = gA S 5 := hf.2.2.2.1 5 rfl
    exact ⟨by rw [e0]; exact h1, by rw [e0]; exact h2, (by show 0 ≤ gI S' 3; rw [e2]; exact h3), (by show gI S' 3 ≤ 1000; rw [e2]; exact h4), fun k hk => by
      have hk : (k : Int) ≤ gI S' 3 := hk
      rw [e2] at hk
      show 0 ≤ gA S' 5 k ∧ gA S' 5 k ≤ 2000 ∧ (k = 0 → gA S' 5 k = 0)
      rw [e4]
      exact h5 k hk⟩
theorem cK_k {S S' : yS} {u : Nat} {L : yCo} (hu : u = 0 ∨ u = 1) (h : cK S u L) (hf : yFr yWk S S') : cK S' u L := by
  rcases hu with rfl | rfl
  · exact ⟨by rw [hf.1 0 rfl]; exact h.1, fun j x hj => by rw [hf.2.2.2.1 0 rfl, hf.2.2.2.2.1 0 rfl]; exact h.2 j x hj⟩
  · exact ⟨by rw [hf.1 1 rfl]; exact h.1, fun j x hj => by rw [hf.2.2.2.1 1 rfl, hf.2.2.2.2.1 1 rfl]; exact h.2 j x hj⟩
theorem cX_k {S S' : yS} {u : Nat} {X : List (List Int)} (hu : u = 0 ∨ u = 1) (h : cX S u X) (hf : yFr yWk S S') : cX S' u X := by
  rcases hu with rfl | rfl
  · exact ⟨(hf.1 2 rfl).trans h.1, fun k hk => (congrFun (hf.2.2.2.1 4 rfl) k).trans (h.2.1 k hk), fun k l i y hk hi => (congrFun (hf.2.2.2.1 2 rfl) _).trans (h.2.2 k l i y hk hi)⟩
  · exact ⟨(hf.1 3 rfl).trans h.1, fun k hk => (congrFun (hf.2.2.2.1 5 rfl) k).trans (h.2.1 k hk), fun k l i y hk hi => (congrFun (hf.2.2.2.1 3 rfl) _).trans (h.2.2 k l i y hk hi)⟩
/-- out of what was known and the tokens' new state, the new mode -/
theorem cM_k {T : yTk} {N u : Nat} {w : Int} {S S' : yS} {m : yMo} (hu : u = 0 ∨ u = 1) (h : cM T N u w S m) (hf : yFr yWk S S') : cT S' T N ∧ cO S' u ∧ gK S' 1 = cu u ∧ gI S' 26 = w := ⟨cT_fr h.1 hf, cO_k hu h.2.1 hf, (hf.2.2.1 1 rfl).trans h.2.2.1, (hf.1 26 rfl).trans h.2.2.2.1⟩
theorem cM_dead {T : yTk} {N u p : Nat} {w : Int} {S S' : yS} {m : yMo} (hu : u = 0 ∨ u = 1) (h : cM T N u w S m) (hf : yFr yWk S S') (hd : cD S' p) : cM T N u w S' (.inl p) := by
  obtain ⟨k1, k2, k3, k4⟩ := cM_k hu h hf
  exact ⟨k1, k2, k3, k4, hd⟩
/-- the error that a mode holds -/
def yke (k : yK9) : Option (Nat × Nat) := match k with
  | .inl e => some e
  | .inr _ => none
theorem cM_A {T : yTk} {N u t b : Nat} {w : Int} {S : yS} {k : yK9} (h : cM T N u w S (.inr (t, b, k))) : cA S T N t b ∧ cE S (yke k) := by
  match k, h with
  | .inl e, h => exact h.2.2.2.2
  | .inr (L, X), h => exact ⟨h.2.2.2.2.1, h.2.2.2.2.2.1⟩
/-- the same code at other tokens -/
theorem cM_to {T : yTk} {N u t b t' b' : Nat} {w : Int} {S S' : yS} {k : yK9} (hu : u = 0 ∨ u = 1) (h : cM T N u w S (.inr (t, b, k))) (hf : yFr yWk S S') (hA : cA S' T N t' b') (hE : cE S' (yke k)) : cM T N u w S' (.inr (t', b', k)) := by
  obtain ⟨k1, k2, k3, k4⟩ := cM_k hu h hf
  match k, h, hE with
  | .inl e, h, hE => exact ⟨k1, k2, k3, k4, hA, hE⟩
  | .inr (L, X), h, hE => exact ⟨k1, k2, k3, k4, hA, hE, cK_k hu h.2.2.2.2.2.2.1 hf, cX_k hu h.2.2.2.2.2.2.2 hf⟩
/-- an error more -/
def ykw (k : yK9) (n p : Nat) : yK9 := match k with
  | .inl e => .inl e
  | .inr _ => .inl (n, p)
theorem cM_err {T : yTk} {N u t b n p : Nat} {w : Int} {S S' : yS} {k : yK9} (hu : u = 0 ∨ u = 1) (h : cM T N u w S (.inr (t, b, k))) (hf : yFr yWk S S') (hA : cA S' T N t b) (hE : cE S' (yfst (yke k) n p)) : cM T N u w S' (.inr (t, b, ykw k n p)) := by
  obtain ⟨k1, k2, k3, k4⟩ := cM_k hu h hf
  match k, h, hE with
  | .inl e, h, hE => exact ⟨k1, k2, k3, k4, hA, hE⟩
  | .inr (L, X), h, hE => exact ⟨k1, k2, k3, k4, hA, hE⟩
theorem yWk_x {u : Nat} {S S' : yS} (h : yFr yWk S S') : yFr (yWx u) S S' := yFr_mo h fun _ _ e => yWx_k e
section YPIL
variable {q : yQ} {d : Nat} {js : List xO} {S : yS} {T : yTk} {N u : Nat} {w : Int}
/-- the next token -/
def ynx (T : yTk) (m : yMo) : yMo := match m with
  | .inl p => .inl p
  | .inr (t, b, k) => if b = 0 then .inl (T t).2.1 else .inr (t + 1, b - 1, k)
theorem mnext {m : yMo} (hu : u = 0 ∨ u = 1) (hT : yTo T N) (h : cM T N u w S m) (hk : ∀ t b k, m = .inr (t, b, k) → (T t).1 ≤ 64) : ∃ S', Y q d 154 0 [vr 86] [] S js = yretv q S' js ∧ yFr yWk S S' ∧ cM T N u w S' (ynx T m) := by
  match m, h, hk with
  | .inl p, h, _ => exact ⟨S, c154d h.2.2.2.2, yFr_rf _ _, h⟩
  | .inr (t, b, k), h, hk =>
    obtain ⟨hA, hE⟩ := cM_A h
    obtain ⟨S', e1, e2, e3, e4⟩ := c154 (q := q) (d := d) (js := js) hT hA (hk t b k rfl) hE
    refine ⟨S', e1, e2, ?_⟩
    show cM T N u w S' (if b = 0 then .inl (T t).2.1 else .inr (t + 1, b - 1, k))
    by_cases z : b = 0
    · rw [if_pos z]
      exact cM_dead hu h e2 (e3 z)
    · rw [if_neg z]
      obtain ⟨a1, a2⟩ := e4 (by omega)
      exact cM_to hu h e2 a1 a2
/-- no token fits -/
def yrf (T : yTk) (m : yMo) : yMo := match m with
  | .inl p => .inl p
  | .inr (t, _, _) => .inl (T t).2.1
theorem mrefuse {m : yMo} (hu : u = 0 ∨ u = 1) (h : cM T N u w S m) : ∃ S', Y q d 155 0 [vr 86] [] S js = yretv q S' js ∧ yFr yWk S S' ∧ cM T N u w S' (yrf T m) ∧ gI S' 17 = 1 := by
  match m, h with
  | .inl p, h =>
    have hD := h.2.2.2.2
    obtain ⟨S', e1, e2, e3, e4⟩ := c155 (q := q) (d := d) (js := js) (p := p) hD.2.1 hD.2.2
    exact ⟨S', e1, e2, cM_dead hu h e2 e3, e4⟩
  | .inr (t, b, k), h =>
    obtain ⟨hA, hE⟩ := cM_A h
    have h17 := cE_17 hE
    obtain ⟨S', e1, e2, e3, e4⟩ := c155 (q := q) (d := d) (js := js) (p := (T t).2.1) hA.2.2.2.2.2.2.1 ⟨fun x => (h17.2.2 x).elim, h17.1, h17.2.1⟩
    exact ⟨S', e1, e2, cM_dead hu h e2 e3, e4⟩
/-- an error of meaning -/
def ywr (m : yMo) (n p : Nat) : yMo := match m with
  | .inl p => .inl p
  | .inr (t, b, k) => .inr (t, b, ykw k n p)
theorem mwrong {m : yMo} {n p : Nat} (hu : u = 0 ∨ u = 1) (h : cM T N u w S m) (hn : 2 ≤ n ∧ n ≤ 6) : ∃ S', Y q d 153 0 [vr 86, vi n, vi p] [] S js = yretv q S' js ∧ yFr yWk S S' ∧ cM T N u w S' (ywr m n p) := by
  match m, h with
  | .inl p', h =>
    obtain ⟨S', e1, e2, e3⟩ := c153d (q := q) (d := d) (js := js) (n := n) (p' := p) h.2.2.2.2 hn
    exact ⟨S', e1, e2, cM_dead hu h e2 e3⟩
  | .inr (t, b, k), h =>
    obtain ⟨hA, hE⟩ := cM_A h
    obtain ⟨S', e1, e2, e3, e4⟩ := c153a (q := q) (d := d) (js := js) (n := n) (p := p) hA hE hn
    exact ⟨S', e1, e2, cM_err hu h e2 e3 e4⟩
/-- operands that have to be numbers -/
def ywn (m : yMo) (x y p : Nat) : yMo := if x = 1 ∨ y = 1 then ywr m 3 p else m
theorem mwant {m : yMo} {x y p : Nat} (hu : u = 0 ∨ u = 1) (h : cM T N u w S m) (hx : x ≤ 2) (hy : y ≤ 2) : ∃ S', Y q (d + 1) 57 0 [vr 122, vi x, vi y, vi p] [] S js = yret q (vi 0) S' js ∧ yFr yWk S S' ∧ cM T N u w S' (ywn m x y p) := by
  have ex : yr (x : Int) = x := yr_eq (by omega) (by omega)
  have ey : yr (y : Int) = y := yr_eq (by omega) (by omega)
  have e1' : yr 1 = 1 := rfl
  obtain ⟨S', e1, e2, e3⟩ := mwrong (q := q) (d := d) (js := js) (n := 3) (p := p) hu h (by omega)
  have e1 : Y q d 153 0 [vr 86, vi 3, vi p] [] S js = yretv q S' js := e1
  rw [w57_0, ex, ey, e1', e1, YB_retv, w57_19]
  unfold ywn
  by_cases z : x = 1
  · rw [if_pos (by omega), if_pos (Or.inl z)]
    exact ⟨S', rfl, e2, e3⟩
  · rw [if_neg (by omega)]
    by_cases z2 : y = 1
    · rw [if_pos (by omega), if_pos (Or.inr z2)]
      exact ⟨S', rfl, e2, e3⟩
    · rw [if_neg (by omega), if_neg (by omega)]
      exact ⟨S, rfl, yFr_rf _ _, h⟩
/-- & wants text: a number gets a STR -/
theorem mtext {m : yMo} {x : Nat} (hu : u = 0 ∨ u = 1) (h : cM T N u w S m) (hx : x ≤ 2) : ∃ S', Y q (d + 1) 66 0 [vr 122, vi x] [] S js = yretv q S' js ∧ yFr (yWx u) S S' ∧ cM T N u w S' (if x = 1 then m else yadm u m 23 0) := by
  have ex : yr (x : Int) = x := yr_eq (by omega) (by omega)
  have e1' : yr 1 = 1 := rfl
  obtain ⟨S', r, e1, e2, e3, e4, e5⟩ := madd (q := q) (d := d) (js := js) hu h 23 0
  have hk := h.2.2.1
  rw [w66_0, ex, e1']
  by_cases z : x = 1
  · rw [if_pos (by omega), if_pos z]
    exact ⟨S, rfl, yFr_rf _ _, h⟩
  · rw [if_neg (by omega), if_neg z]
    rcases hu with rfl | rfl
    · have hk : gK S 1 = 107 := hk
      have e1 : Y q d 20 0 [vr 107, vi 23, vj 0, vu, vu] [] S js = yret q (vi r) S' js := e1
      rw [if_pos hk, w66_9, e1, YB_ret, w66_15]
      exact ⟨S', rfl, e2, e4⟩
    · have hk : gK S 1 = 117 := hk
      have e1 : Y q d 20 0 [vr 117, vi 23, vj 0, vu, vu] [] S js = yret q (vi r) S' js := e1
      rw [if_neg (by omega), if_pos hk, w66_9x, e1, YB_ret, w66_15]
      exact ⟨S', rfl, e2, e4⟩
end YPIL
end YPI
