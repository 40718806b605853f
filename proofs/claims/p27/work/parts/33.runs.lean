/-! RUNS OF THE SMALL MACHINE, put together: with fuel enough and depth enough -/
section XAL
variable {v : Value} {d k pc : Nat} {L st : List Value} {ah ah1 ah' : List xO} {r : Option Value ⊕ Nat}
/-- from here the frame ends so, in at most d frames below it -/
def xR (v : Value) (d k pc : Nat) (L st : List Value) (ah : List xO) (r : Option Value ⊕ Nat) (ah' : List xO) : Prop := ∃ f0, ∀ f, f0 ≤ f → ∀ d', d ≤ d' → xrun (xPrg v) 81 f d' k pc L st ah = some (r, ah')
theorem xR.deep {d2 : Nat} (h : xR v d k pc L st ah r ah') (hd : d ≤ d2) : xR v d2 k pc L st ah r ah' := by
  obtain ⟨f0, h⟩ := h
  exact ⟨f0, fun f hf d' hd' => h f hf d' (Nat.le_trans hd hd')⟩
/-- one instruction that neither calls nor ends -/
def xone (P : xPg) (E k pc : Nat) (L st : List Value) (ah : List xO) : Option xS4 := match xP_code P k pc with
  | none => none
  | some (i, n) => match xinv i with
    | some _ => none
    | none => match xret (xP_rt P k) i n st with
      | some _ => none
      | none => match i with
        | .athrow => none
        | .new j => (match xP_te P (xP_pool P k) j with
          | some _ => none
          | none => (match xP_mk P (xP_pool P k) j with
            | some _ => none
            | none => xstep P E k pc L st ah i n))
        | i => xstep P E k pc L st ah i n
theorem xR.one {pc' : Nat} {L' st' : List Value} (h : xone (xPrg v) 81 k pc L st ah = some (pc', L', st', ah1)) (hr : xR v d k pc' L' st' ah1 r ah') : xR v d k pc L st ah r ah' := by
  obtain ⟨f0, hr⟩ := hr
  refine ⟨f0 + 1, fun f hf d' hd => ?_⟩
  obtain ⟨g, rfl⟩ : ∃ g, f = g + 1 := ⟨f - 1, by omega⟩
  have hr := hr g (by omega) d' hd
  unfold xone at h
  unfold xrun
  split at h
  · cases h
  · rename_i i n hc
    rw [hc]
    split at h
    · cases h
    · rename_i hi
      simp only [hi]
      split at h
      · cases h
      · rename_i hq
        simp only [hq]
        split at h
        · cases h
        · split at h
          · cases h
          · rename_i hte
            split at h
            · cases h
            · rename_i hmk
              simp only [hte, hmk, h]
              exact hr
        · split
          · exact absurd rfl (by assumption)
          · first | (rename_i h9; exact (h9 _ rfl).elim) | (rename_i h9 _; exact (h9 _ rfl).elim) | (rename_i h9 _ _; exact (h9 _ rfl).elim) | (rename_i h9 _ _ _; exact (h9 _ rfl).elim)
          · simp only [h]
            exact hr
/-- some of them, one after another -/
def xones (P : xPg) (E k : Nat) : Nat → Nat → List Value → List Value → List xO → Option xS4
  | 0, pc, L, st, ah => some (pc, L, st, ah)
  | n + 1, pc, L, st, ah => match xone P E k pc L st ah with
    | some (pc', L', st', ah') => xones P E k n pc' L' st' ah'
    | none => none
theorem xR.ones : ∀ {n pc pc' : Nat} {L st L' st' : List Value} {ah ah1 : List xO}, xones (xPrg v) 81 k n pc L st ah = some (pc', L', st', ah1) → xR v d k pc' L' st' ah1 r ah' → xR v d k pc L st ah r ah'
  | 0, pc, pc', L, st, L', st', ah, ah1, h, hr => by cases h; exact hr
  | n + 1, pc, pc', L, st, L', st', ah, ah1, h, hr => by
    unfold xones at h
    split at h
    · rename_i h1
      exact xR.one h1 (xR.ones h hr)
    · cases h
theorem xR.ret {i : Instr} {n : Nat} {w : Option Value} (hc : xP_code (xPrg v) k pc = some (i, n)) (hi : xinv i = none) (hw : xret (xP_rt (xPrg v) k) i n st = some w) : xR v 0 k pc L st ah (.inl w) ah := by
  refine ⟨1, fun f hf d' _ => ?_⟩
  obtain ⟨g, rfl⟩ : ∃ g, f = g + 1 := ⟨f - 1, by omega⟩
  unfold xrun
  simp only [hc, hi, hw]
/-- what a call needs, by evaluation: the callee, its arguments, what stays on the stack -/
def xgo (P : xPg) (k pc : Nat) (st : List Value) (ah : List xO) : Option (Nat × List Value × List Value) := match xP_code P k pc with
  | none => none
  | some (i, n) => match xinv i with
    | none => none
    | some (kd, j) => if n = 3 then (match xcaj P (xP_pool P k) kd j with
      | none => none
      | some (y, na) => (match xtake (if kd = 0 then na else na + 1) st with
        | some (vs, rr) => if xrecv P kd y ah vs = true ∧ rr.length ≤ 12 ∧ xP_ml P y ≤ 20 ∧ (xlay vs).length ≤ xP_ml P y then some (y, vs, rr) else none
        | none => none)) else none
theorem xR.call {y : Nat} {vs rr : List Value} {w : Option Value} (h : xgo (xPrg v) k pc st ah = some (y, vs, rr)) (hy : xR v d y 0 (xentry vs (xP_ml (xPrg v) y)) [] ah (.inl w) ah1) (hr : xR v (d + 1) k (pc + 3) L (w.toList ++ rr) ah1 r ah') : xR v (d + 1) k pc L st ah r ah' := by
  obtain ⟨f1, hy⟩ := hy
  obtain ⟨f2, hr⟩ := hr
  refine ⟨f1 + f2 + 1, fun f hf d' hd => ?_⟩
  obtain ⟨g, rfl⟩ : ∃ g, f = g + 1 := ⟨f - 1, by omega⟩
  obtain ⟨d'', rfl⟩ : ∃ d'', d' = d'' + 1 := ⟨d' - 1, by omega⟩
  have hy := hy g (by omega) d'' (by omega)
  have hr := hr g (by omega) (d'' + 1) hd
  unfold xgo at h
  unfold xrun
  split at h
  · cases h
  · rename_i i n hc
    rw [hc]
    split at h
    · cases h
    · rename_i kd j hi
      simp only [hi]
      split at h
      · rename_i hn
        simp only [hn, if_true]
        split at h
        · cases h
        · rename_i y0 na hca
          simp only [hca]
          split at h
          · rename_i vs0 rr0 ht
            simp only [ht]
            split at h
            · rename_i hg
              cases h
              rw [if_pos hg]
              simp only [hy]
              exact hr
            · cases h
          · cases h
      · cases h
end XAL
