/-! taken from whole by wip/p27/slice2.py: 75.ok2.lean.txt -/
section YOL
section YOLL
variable {T : yTk} {N : Nat} {Rm : Nat → Nat → Nat} {Rx : Nat → Nat} {s : Nat} {tx : Nat → Nat → List Int}
theorem yleaf_ok {t b t' b' : Nat} {m m0 : yMn} (hT : yTo T N) (hR : yRoom T N Rm Rx s) (ht : t < N) (h64 : (T t).1 ≤ 64) (hb : b ≠ 0) (h : (Sum.inr (t + 1, b - 1, m0) : yPr) = .inr (t', b', m)) (h0 : ∀ x, m0 = .inr x → yWf x ∧ x.2.2.1.length ≤ 1 ∧ ytl tx x.2.2.2.1 + Rx t ≤ Rx (t + 1)) : t' < N ∧ b' ≤ b ∧ Rm t' b' ≤ Rm t b ∧ Rx t ≤ Rx t' ∧ ∀ x, m = .inr x → yWf x ∧ x.2.2.1.length + s + Rm t' b' ≤ Rm t b ∧ ytl tx x.2.2.2.1 + Rx t ≤ Rx t' := by
  have ht1 := yTo_t hT ht h64
  obtain ⟨s1, s2, hR⟩ := hR
  obtain ⟨R1, R2, R3⟩ := hR t b ht1 h64
  obtain ⟨R3, R4⟩ := R3 (by omega)
  obtain ⟨h1, h2, h3⟩ := yinr h
  rw [← h1, ← h2, ← h3]
  exact ⟨ht1, by omega, by omega, by omega, fun x hx => by
    obtain ⟨x1, x2, x3⟩ := h0 x hx
    exact ⟨x1, by omega, x3⟩⟩
theorem ynum_ok {t b t' b' : Nat} {m : yMn} (hT : yTo T N) (hR : yRoom T N Rm Rx s) (ht : t < N) (h64 : (T t).1 ≤ 64) (h : ynum T t b = .inr (t', b', m)) : t' < N ∧ b' ≤ b ∧ Rm t' b' ≤ Rm t b ∧ Rx t ≤ Rx t' ∧ ∀ x, m = .inr x → yWf x ∧ x.2.2.1.length + s + Rm t' b' ≤ Rm t b ∧ ytl tx x.2.2.2.1 + Rx t ≤ Rx t' := by
  unfold ynum at h
  by_cases hb : b = 0
  · rw [if_pos hb] at h
    nomatch h
  · rw [if_neg hb] at h
    refine yleaf_ok hT hR ht h64 hb h fun x hx => ?_
    injection hx with hx
    subst hx
    have R1 := (hR.2.2 t b (yTo_t hT ht h64) h64).1
    refine ⟨fun v hv => ?_, Nat.le_refl 1, ?_⟩
    · have hv : some (T t).2.2 = some v := hv
      injection hv with hv
      subst hv
      exact ⟨rfl, rfl, rfl⟩
    · show 0 + Rx t ≤ Rx (t + 1)
      omega
theorem yspc_ok {decl : Bool} {t b t' b' : Nat} {m : yMn} (hT : yTo T N) (hR : yRoom T N Rm Rx s) (ht : t < N) (h64 : (T t).1 ≤ 64) (h : yspc T decl t b = .inr (t', b', m)) : t' < N ∧ b' ≤ b ∧ Rm t' b' ≤ Rm t b ∧ Rx t ≤ Rx t' ∧ ∀ x, m = .inr x → yWf x ∧ x.2.2.1.length + s + Rm t' b' ≤ Rm t b ∧ ytl tx x.2.2.2.1 + Rx t ≤ Rx t' := by
  unfold yspc at h
  by_cases hb : b = 0
  · rw [if_pos hb] at h
    nomatch h
  · rw [if_neg hb] at h
    refine yleaf_ok hT hR ht h64 hb h fun x hx => ?_
    have R1 := (hR.2.2 t b (yTo_t hT ht h64) h64).1
    split at hx
    · nomatch hx
    · injection hx with hx
      subst hx
      refine ⟨(fun v hv => nomatch hv), Nat.le_refl 1, ?_⟩
      show 0 + Rx t ≤ Rx (t + 1)
      omega
theorem ytxt_ok {tb t b t' b' : Nat} {m : yMn} (hT : yTo T N) (hR : yRoom T N Rm Rx s) (ht : t < N) (h64 : (T t).1 = 64) (hl : (tx ((T t).2.1 + 1) (T t).2.2.toInt.toNat).length ≤ (T t).2.2.toInt.toNat) (h : ytxt T tx tb t b = .inr (t', b', m)) : t' < N ∧ b' ≤ b ∧ Rm t' b' ≤ Rm t b ∧ Rx t ≤ Rx t' ∧ ∀ x, m = .inr x → yWf x ∧ x.2.2.1.length + s + Rm t' b' ≤ Rm t b ∧ ytl tx x.2.2.2.1 + Rx t ≤ Rx t' := by
  unfold ytxt at h
  by_cases hb : b = 0
  · rw [if_pos hb] at h
    nomatch h
  · rw [if_neg hb] at h
    refine yleaf_ok hT hR ht (by omega) hb h fun x hx => ?_
    have R2 := (hR.2.2 t b (yTo_t hT ht (by omega)) (by omega)).2.1 h64
    injection hx with hx
    subst hx
    refine ⟨(fun v hv => nomatch hv), Nat.le_refl 1, ?_⟩
    show ((tx ((T t).2.1 + 1) (T t).2.2.toInt.toNat).length + 0) + 2 * 1 + Rx t ≤ Rx (t + 1)
    omega
end YOLL
end YOL
