/-! taken from whole by wip/p27/slice2.py: 58.cls.lean.txt -/
section YCS
/-- a row of tokens is in order -/
def yTo (T : yTk) (N : Nat) : Prop := 1 ≤ N ∧ N ≤ 2001 ∧ ((T (N - 1)).1 = 65 ∨ (T (N - 1)).1 = 66) ∧ (∀ j, j + 1 < N → (T j).1 ≤ 64) ∧ ∀ j, j < N → (T j).2.1 ≤ 2000 ∧ (T j).1 < 67
def cT (S : yS) (T : yTk) (N : Nat) : Prop := (∀ j, j < N → gC S 2 j = (T j).1 ∧ gA S 22 j = (T j).2.1 ∧ gB S 8 j = (T j).2.2) ∧ (N : Int) ≤ gI S 13 ∧ gI S 13 ≤ 2001
/-- at token t, so many may still be taken -/
def cA (S : yS) (T : yTk) (N t b : Nat) : Prop := cT S T N ∧ t < N ∧ gI S 14 = t ∧ gI S 15 = b ∧ b ≤ 1000000 ∧ gK S 0 = (T t).1 ∧ gI S 16 = (T t).2.1 ∧ gJ S 0 = (T t).2.2
/-- the first error of meaning -/
def cE (S : yS) (e : Option (Nat × Nat)) : Prop := match e with
  | none => gI S 17 = 0 ∧ gI S 18 = -1
  | some (n, p) => gI S 17 = n ∧ gI S 18 = p ∧ 2 ≤ n ∧ n ≤ 6
/-- nothing is read on, from a place on -/
def cD (S : yS) (p : Nat) : Prop := gK S 0 = 66 ∧ gI S 16 = p ∧ (gI S 17 = 1 → gI S 18 = p) ∧ 0 ≤ gI S 17 ∧ gI S 17 ≤ 6
theorem cE_17 {S : yS} {e : Option (Nat × Nat)} (h : cE S e) : 0 ≤ gI S 17 ∧ gI S 17 ≤ 6 ∧ gI S 17 ≠ 1 := by
  match e, h with
  | none, h => have h : gI S 17 = 0 := h.1; omega
  | some (n, p), h => obtain ⟨h1, h2, h3, h4⟩ := h; omega
/-- what tokens and errors change -/
def yWk (s k : Nat) : Bool := (s == 0 && (k == 14 || k == 15 || k == 16 || k == 17 || k == 18)) || (s == 1 && k == 0) || (s == 2 && k == 0)
theorem cT_fr {S S' : yS} {T : yTk} {N : Nat} (h : cT S T N) (hf : yFr yWk S S') : cT S' T N := by
  refine ⟨fun j hj => ?_, ?_, ?_⟩
  · rw [hf.2.2.2.2.2 2 rfl, hf.2.2.2.1 22 rfl, hf.2.2.2.2.1 8 rfl]
    exact h.1 j hj
  · rw [hf.1 13 rfl]; exact h.2.1
  · rw [hf.1 13 rfl]; exact h.2.2
section YCSL
variable {q : yQ} {d : Nat} {js : List xO} {S : yS} {T : yTk} {N t b : Nat}
/-- the next token -/
theorem c154 (hT : yTo T N) (h : cA S T N t b) (hk : (T t).1 ≤ 64) {e : Option (Nat × Nat)} (he : cE S e) : ∃ S', Y q d 154 0 [vr 86] [] S js = yretv q S' js ∧ yFr yWk S S' ∧ (b = 0 → cD S' (T t).2.1) ∧ (0 < b → cA S' T N (t + 1) (b - 1) ∧ cE S' e) := by
  obtain ⟨h1, h2, h3, h4, h5, h6, h7, h8⟩ := h
  obtain ⟨n1, n2, n3, n4, n5⟩ := id hT
  have ht : t + 1 < N := by
    by_cases z : t + 1 < N
    · exact z
    · have : t = N - 1 := by omega
      rw [this] at hk
      rcases n3 with n3 | n3 <;> omega
  have e15 : yr (gI S 15) = b := by rw [h4, yr_eq] <;> omega
  have e14 : yr (gI S 14 + 1) = ((t + 1 : Nat) : Int) := by rw [h3, yr_eq] <;> omega
  have e13 : yr (gI S 13) = gI S 13 := by have := h1.2; rw [yr_eq] <;> omega
  have e01 : yr 2001 = 2001 := rfl
  have k66 : ¬ gK S 0 = 66 := by rw [h6]; omega
  have k67 : gK S 0 < 67 ∧ 66 < 67 := ⟨by rw [h6]; omega, by omega⟩
  rw [w154_0, if_pos k67, if_neg k66, e15, e14, e13, e01]
  by_cases z : b = 0
  · rw [if_neg (by omega)]
    have h17 := cE_17 he
    exact ⟨_, rfl, yFr_K rfl, fun _ => ⟨rfl, h7, fun w => (h17.2.2 w).elim, h17.1, h17.2.1⟩, fun w => by omega⟩
  · have hn := h1.1 (t + 1) ht
    have h13 := h1.2
    have hin : 0 ≤ ((t + 1 : Nat) : Int) ∧ ((t + 1 : Nat) : Int) < 2001 := by omega
    have hc : gC S 2 (t + 1) < 67 := by rw [hn.1]; exact (n5 _ ht).2
    rw [if_pos (by omega), if_pos (by omega), if_pos (by omega)]
    simp only [hin, hc, and_self, if_true, Int.toNat_natCast]
    have fr : yFr yWk S (sJ (sI (sK (sI (sI S 15 (gI S 15 - 1)) 14 (gI S 14 + 1)) 0 (gC S 2 (t + 1))) 16 (gA S 22 (t + 1))) 0 (gB S 8 (t + 1))) := yFr_tr (yFr_I rfl) (yFr_tr (yFr_I rfl) (yFr_tr (yFr_K rfl) (yFr_tr (yFr_I rfl) (yFr_J rfl))))
    refine ⟨_, rfl, fr, fun w => (z w).elim, fun _ => ⟨⟨cT_fr h1 fr, ht, ?_, ?_, by omega, hn.1, hn.2.1, hn.2.2⟩, ?_⟩⟩
    · show gI S 14 + 1 = _
      omega
    · show gI S 15 - 1 = _
      omega
    · match e, he with
      | none, he => exact he
      | some (n, p), he => exact he
theorem c154d {p : Nat} (h : cD S p) : Y q d 154 0 [vr 86] [] S js = yretv q S js := by
  rw [w154_0, if_pos ⟨by rw [h.1]; omega, by omega⟩, if_pos h.1]
/-- no token fits -/
theorem c155 {p : Nat} (hp : gI S 16 = p) (h : (gI S 17 = 1 → gI S 18 = p) ∧ 0 ≤ gI S 17 ∧ gI S 17 ≤ 6) : ∃ S', Y q d 155 0 [vr 86] [] S js = yretv q S' js ∧ yFr yWk S S' ∧ cD S' p ∧ gI S' 17 = 1 := by
  have e1 : yr 1 = 1 := rfl
  rw [w155_0, e1, yr_eq (x := gI S 17) (by omega) (by omega)]
  by_cases z : gI S 17 = 1
  · rw [if_pos z]
    exact ⟨_, rfl, yFr_K rfl, ⟨rfl, hp, h.1, h.2.1, h.2.2⟩, z⟩
  · rw [if_neg z]
    exact ⟨_, rfl, yFr_tr (yFr_I rfl) (yFr_tr (yFr_I rfl) (yFr_K rfl)), ⟨rfl, hp, fun _ => hp, show 0 ≤ (1 : Int) by omega, show (1 : Int) ≤ 6 by omega⟩, rfl⟩
/-- an error of meaning -/
theorem c153 {n p : Nat} (h17 : 0 ≤ gI S 17 ∧ gI S 17 ≤ 6) : Y q d 153 0 [vr 86, vi n, vi p] [] S js = yretv q (if gI S 17 = 0 then sI (sI S 17 n) 18 p else S) js := by
  rw [w153_0, yr_eq (x := gI S 17) (by omega) (by omega)]
  split <;> rfl
/-- the first error counts -/
def yfst (e : Option (Nat × Nat)) (n p : Nat) : Option (Nat × Nat) := match e with
  | none => some (n, p)
  | some x => some x
theorem c153a {n p : Nat} {e : Option (Nat × Nat)} (hA : cA S T N t b) (he : cE S e) (hn : 2 ≤ n ∧ n ≤ 6) : ∃ S', Y q d 153 0 [vr 86, vi n, vi p] [] S js = yretv q S' js ∧ yFr yWk S S' ∧ cA S' T N t b ∧ cE S' (yfst e n p) := by
  have h17 := cE_17 he
  rw [c153 ⟨h17.1, h17.2.1⟩]
  match e, he with
  | none, he =>
    have he : gI S 17 = 0 := he.1
    rw [if_pos he]
    have fr : yFr yWk S (sI (sI S 17 n) 18 p) := yFr_tr (yFr_I rfl) (yFr_I rfl)
    exact ⟨_, rfl, fr, ⟨cT_fr hA.1 fr, hA.2⟩, ⟨rfl, rfl, hn.1, hn.2⟩⟩
  | some (n', p'), he =>
    have : ¬ gI S 17 = 0 := by have := he.1; have := he.2.2.1; omega
    rw [if_neg this]
    exact ⟨S, rfl, yFr_rf _ _, hA, he⟩
theorem c153d {n p p' : Nat} (h : cD S p) (hn : 2 ≤ n ∧ n ≤ 6) : ∃ S', Y q d 153 0 [vr 86, vi n, vi p'] [] S js = yretv q S' js ∧ yFr yWk S S' ∧ cD S' p := by
  obtain ⟨h1, h2, h3, h4, h5⟩ := h
  rw [c153 ⟨h4, h5⟩]
  by_cases z : gI S 17 = 0
  · rw [if_pos z]
    refine ⟨_, rfl, yFr_tr (yFr_I rfl) (yFr_I rfl), h1, h2, fun w => ?_, ?_, ?_⟩
    · have w : (n : Int) = 1 := w
      omega
    · show 0 ≤ (n : Int)
      omega
    · show (n : Int) ≤ 6
      omega
  · rw [if_neg z]
    exact ⟨S, rfl, yFr_rf _ _, h1, h2, h3, h4, h5⟩
/-- one deeper: whether something can stand behind it -/
theorem c56 (hT : yTo T N) (h : cA S T N t b) (hk : (T t).1 ≤ 64) {e : Option (Nat × Nat)} (he : cE S e) {dp : Nat} (hdp : dp ≤ 13) : ∃ (S' : yS) (r : Int), Y q (d + 1) 56 0 [vr 122, vi dp] [] S js = yret q (vi r) S' js ∧ yFr yWk S S' ∧ (12 ≤ dp ∨ b = 0 → r = 0 ∧ cD S' (T t).2.1) ∧ (dp < 12 ∧ 0 < b → cA S' T N (t + 1) (b - 1) ∧ cE S' e ∧ r = yb (¬ (T (t + 1)).1 = 66)) := by
  have e12 : yr 12 = 12 := rfl
  have ed : yr (dp : Int) = dp := yr_eq (by omega) (by omega)
  have h17 := cE_17 he
  rw [w56_0, e12, ed]
  by_cases z : dp < 12
  · obtain ⟨S', e1, e2, e3, e4⟩ := c154 (q := q) (d := d) (js := js) hT h hk he
    rw [if_pos (by omega), e1, YB_retv, w56_23]
    simp only [yz0, yz1, if_true]
    by_cases zb : b = 0
    · have hD := e3 zb
      rw [if_pos ⟨by rw [hD.1]; omega, by omega⟩, if_pos hD.1]
      exact ⟨S', 0, rfl, e2, fun _ => ⟨rfl, hD⟩, fun w => by omega⟩
    · obtain ⟨hA, hE⟩ := e4 (by omega)
      have hkd := (hT.2.2.2.2 _ hA.2.1).2
      rw [if_pos ⟨by rw [hA.2.2.2.2.2.1]; exact hkd, by omega⟩, hA.2.2.2.2.2.1]
      by_cases y : (T (t + 1)).1 = 66
      · rw [if_pos y]
        exact ⟨S', 0, rfl, e2, fun w => by omega, fun _ => ⟨hA, hE, (yb_f (fun w => w y)).symm⟩⟩
      · rw [if_neg y]
        exact ⟨S', 1, rfl, e2, fun w => by omega, fun _ => ⟨hA, hE, (yb_t y).symm⟩⟩
  · obtain ⟨S', e1, e2, e3, e4⟩ := c155 (q := q) (d := d) (js := js) (p := (T t).2.1) h.2.2.2.2.2.2.1 ⟨fun w => (h17.2.2 w).elim, h17.1, h17.2.1⟩
    rw [if_neg (by omega), e1, YB_retv, w56_13]
    simp only [yz0, yz1, if_true]
    rw [if_pos ⟨by rw [e3.1]; omega, by omega⟩, if_pos e3.1]
    exact ⟨S', 0, rfl, e2, fun _ => ⟨rfl, e3⟩, fun w => by omega⟩
theorem c56d {p : Nat} (h : cD S p) {dp : Nat} (hdp : dp ≤ 13) : ∃ S' : yS, Y q (d + 1) 56 0 [vr 122, vi dp] [] S js = yret q (vi 0) S' js ∧ yFr yWk S S' ∧ cD S' p := by
  have e12 : yr 12 = 12 := rfl
  have ed : yr (dp : Int) = dp := yr_eq (by omega) (by omega)
  rw [w56_0, e12, ed]
  by_cases z : dp < 12
  · rw [if_pos (by omega), c154d h, YB_retv, w56_23]
    simp only [yz0, yz1, if_true]
    rw [if_pos ⟨by rw [h.1]; omega, by omega⟩, if_pos h.1]
    exact ⟨S, rfl, yFr_rf _ _, h⟩
  · obtain ⟨S', e1, e2, e3, e4⟩ := c155 (q := q) (d := d) (js := js) (p := p) h.2.1 h.2.2
    rw [if_neg (by omega), e1, YB_retv, w56_13]
    simp only [yz0, yz1, if_true]
    rw [if_pos ⟨by rw [e3.1]; omega, by omega⟩, if_pos e3.1]
    exact ⟨S', rfl, e2, e3⟩
/-- a parenthesis that closes -/
theorem c59 (hT : yTo T N) (h : cA S T N t b) {e : Option (Nat × Nat)} (he : cE S e) : ∃ S' : yS, Y q (d + 1) 59 0 [vr 122] [] S js = yretv q S' js ∧ yFr yWk S S' ∧ ((T t).1 = 47 ∧ 0 < b → cA S' T N (t + 1) (b - 1) ∧ cE S' e) ∧ (¬ ((T t).1 = 47 ∧ 0 < b) → cD S' (T t).2.1) := by
  have hkd := (hT.2.2.2.2 _ h.2.1).2
  have h17 := cE_17 he
  rw [w59_0, h.2.2.2.2.2.1, if_pos ⟨hkd, by omega⟩]
  by_cases z : (T t).1 = 47
  · obtain ⟨S', e1, e2, e3, e4⟩ := c154 (q := q) (d := d) (js := js) hT h (by omega) he
    rw [if_pos z, e1, YB_retv, w59_20]
    exact ⟨S', rfl, e2, fun w => e4 w.2, fun w => e3 (by omega)⟩
  · obtain ⟨S', e1, e2, e3, e4⟩ := c155 (q := q) (d := d) (js := js) (p := (T t).2.1) h.2.2.2.2.2.2.1 ⟨fun w => (h17.2.2 w).elim, h17.1, h17.2.1⟩
    rw [if_neg z, e1, YB_retv, w59_30]
    exact ⟨S', rfl, e2, fun w => (z w.1).elim, fun _ => e3⟩
theorem c59d {p : Nat} (h : cD S p) : ∃ S' : yS, Y q (d + 1) 59 0 [vr 122] [] S js = yretv q S' js ∧ yFr yWk S S' ∧ cD S' p := by
  obtain ⟨S', e1, e2, e3, e4⟩ := c155 (q := q) (d := d) (js := js) (p := p) h.2.1 h.2.2
  rw [w59_0, h.1, if_pos ⟨by omega, by omega⟩, if_neg (by omega), e1, YB_retv, w59_30]
  exact ⟨S', rfl, e2, e3⟩
end YCSL
end YCS
