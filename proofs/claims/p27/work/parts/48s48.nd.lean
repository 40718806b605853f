/-! taken from whole by wip/p27/slice2.py: 9za.nd.lean.txt -/
section YND
section YNDL
variable {q : yQ} {d : Nat} {js : List xO} {S : yS} {T : yTk} {N u : Nat}
theorem cNd_k {S' : yS} {m : yMo} (hu : u = 0 ∨ u = 1) (h : cNd T N u S m) (hf : yFr yWk S S') : cT S' T N ∧ cO S' u := ⟨cT_fr h.1 hf, cO_k hu h.2.1 hf⟩
theorem cNd_A {t b : Nat} {k : yK9} (h : cNd T N u S (.inr (t, b, k))) : cA S T N t b ∧ cE S (yke k) := by
  match k, h with
  | .inl e, h => exact h.2.2
  | .inr (L, X), h => exact ⟨h.2.2.1, h.2.2.2.1⟩
theorem cNd_to {t b t' b' : Nat} {S' : yS} {k : yK9} (hu : u = 0 ∨ u = 1) (h : cNd T N u S (.inr (t, b, k))) (hf : yFr yWk S S') (hA : cA S' T N t' b') (hE : cE S' (yke k)) : cNd T N u S' (.inr (t', b', k)) := by
  obtain ⟨k1, k2⟩ := cNd_k hu h hf
  match k, h, hE with
  | .inl e, h, hE => exact ⟨k1, k2, hA, hE⟩
  | .inr (L, X), h, hE => exact ⟨k1, k2, hA, hE, cK_k hu h.2.2.2.2.1 hf, cX_k hu h.2.2.2.2.2 hf⟩
theorem cNd_err {t b n p : Nat} {S' : yS} {k : yK9} (hu : u = 0 ∨ u = 1) (h : cNd T N u S (.inr (t, b, k))) (hf : yFr yWk S S') (hA : cA S' T N t b) (hE : cE S' (yfst (yke k) n p)) : cNd T N u S' (.inr (t, b, ykw k n p)) := by
  obtain ⟨k1, k2⟩ := cNd_k hu h hf
  match k, h, hE with
  | .inl e, h, hE => exact ⟨k1, k2, hA, hE⟩
  | .inr (L, X), h, hE => exact ⟨k1, k2, hA, hE⟩
theorem cNd_dead {p : Nat} {S' : yS} {m : yMo} (hu : u = 0 ∨ u = 1) (h : cNd T N u S m) (hf : yFr yWk S S') (hd : cD S' p) : cNd T N u S' (.inl p) := by
  obtain ⟨k1, k2⟩ := cNd_k hu h hf
  exact ⟨k1, k2, hd⟩
theorem nnext {m : yMo} (hu : u = 0 ∨ u = 1) (hT : yTo T N) (h : cNd T N u S m) (hk : ∀ t b k, m = .inr (t, b, k) → (T t).1 ≤ 64) : ∃ S', Y q d 154 0 [vr 86] [] S js = yretv q S' js ∧ yFr yWk S S' ∧ cNd T N u S' (ynx T m) := by
  match m, h, hk with
  | .inl p, h, _ => exact ⟨S, c154d h.2.2, yFr_rf _ _, h⟩
  | .inr (t, b, k), h, hk =>
    obtain ⟨hA, hE⟩ := cNd_A h
    obtain ⟨S', e1, e2, e3, e4⟩ := c154 (q := q) (d := d) (js := js) hT hA (hk t b k rfl) hE
    refine ⟨S', e1, e2, ?_⟩
    show cNd T N u S' (if b = 0 then .inl (T t).2.1 else .inr (t + 1, b - 1, k))
    by_cases z : b = 0
    · rw [if_pos z]
      exact cNd_dead hu h e2 (e3 z)
    · rw [if_neg z]
      obtain ⟨a1, a2⟩ := e4 (by omega)
      exact cNd_to hu h e2 a1 a2
theorem nrefuse {m : yMo} (hu : u = 0 ∨ u = 1) (h : cNd T N u S m) : ∃ S', Y q d 155 0 [vr 86] [] S js = yretv q S' js ∧ yFr yWk S S' ∧ cNd T N u S' (yrf T m) ∧ gI S' 17 = 1 := by
  match m, h with
  | .inl p, h =>
    have hD := h.2.2
    obtain ⟨S', e1, e2, e3, e4⟩ := c155 (q := q) (d := d) (js := js) (p := p) hD.2.1 hD.2.2
    exact ⟨S', e1, e2, cNd_dead hu h e2 e3, e4⟩
  | .inr (t, b, k), h =>
    obtain ⟨hA, hE⟩ := cNd_A h
    have h17 := cE_17 hE
    obtain ⟨S', e1, e2, e3, e4⟩ := c155 (q := q) (d := d) (js := js) (p := (T t).2.1) hA.2.2.2.2.2.2.1 ⟨fun x => (h17.2.2 x).elim, h17.1, h17.2.1⟩
    exact ⟨S', e1, e2, cNd_dead hu h e2 e3, e4⟩
theorem nwrong {m : yMo} {n p : Nat} (hu : u = 0 ∨ u = 1) (h : cNd T N u S m) (hn : 2 ≤ n ∧ n ≤ 6) : ∃ S', Y q d 153 0 [vr 86, vi n, vi p] [] S js = yretv q S' js ∧ yFr yWk S S' ∧ cNd T N u S' (ywr m n p) := by
  match m, h with
  | .inl p', h =>
    obtain ⟨S', e1, e2, e3⟩ := c153d (q := q) (d := d) (js := js) (n := n) (p' := p) h.2.2 hn
    exact ⟨S', e1, e2, cNd_dead hu h e2 e3⟩
  | .inr (t, b, k), h =>
    obtain ⟨hA, hE⟩ := cNd_A h
    obtain ⟨S', e1, e2, e3, e4⟩ := c153a (q := q) (d := d) (js := js) (n := n) (p := p) hA hE hn
    exact ⟨S', e1, e2, cNd_err hu h e2 e3 e4⟩
/-- what kind of token stands there -/
def ykm2 (T : yTk) (m : yMo) : Nat := match m with
  | .inl _ => 66
  | .inr (t, _, _) => (T t).1
theorem cNd_kind {m : yMo} (hT : yTo T N) (h : cNd T N u S m) : gK S 0 = ykm2 T m ∧ ykm2 T m < 67 := by
  match m, h with
  | .inl p, h => exact ⟨h.2.2.1, by show 66 < 67; omega⟩
  | .inr (t, b, k), h =>
    obtain ⟨hA, hE⟩ := cNd_A h
    exact ⟨hA.2.2.2.2.2.1, (hT.2.2.2.2 t hA.2.1).2⟩
/-- a token that has to be there -/
def yxp (T : yTk) (kd : Nat) (m : yMo) : yMo := if ykm2 T m = kd then ynx T m else yrf T m
theorem nexpect {m : yMo} {kd : Nat} (hu : u = 0 ∨ u = 1) (hT : yTo T N) (h : cNd T N u S m) (hkd : kd ≤ 64) : ∃ S', Y q (d + 1) 30 0 [vr 123, vr kd] [] S js = yretv q S' js ∧ yFr yWk S S' ∧ cNd T N u S' (yxp T kd m) := by
  obtain ⟨k1, k2⟩ := cNd_kind hT h
  rw [w30_0, k1, if_pos ⟨k2, by omega⟩]
  unfold yxp
  by_cases z : ykm2 T m = kd
  · obtain ⟨S', e1, e2, e3⟩ := nnext (q := q) (d := d) (js := js) hu hT h (fun t b k hm => by
      subst hm
      have z : (T t).1 = kd := z
      omega)
    rw [if_pos z, if_pos z, e1, YB_retv, w30_18]
    exact ⟨S', rfl, e2, e3⟩
  · obtain ⟨S', e1, e2, e3, _⟩ := nrefuse (q := q) (d := d) (js := js) hu h
    rw [if_neg z, if_neg z, e1, YB_retv, w30_28]
    exact ⟨S', rfl, e2, e3⟩
end YNDL
end YND
