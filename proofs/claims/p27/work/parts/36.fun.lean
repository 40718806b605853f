/-! WHAT A FRAME COMES TO, as a partial function, and its equations -/
section YA
theorem xrun_up {P : xPg} {E : Nat} : ∀ {f d k pc : Nat} {L st : List Value} {ah : List xO} {z : xRes}, xrun P E f d k pc L st ah = some z → ∀ {f' d' : Nat}, f ≤ f' → d ≤ d' → xrun P E f' d' k pc L st ah = some z
  | 0, d, k, pc, L, st, ah, z, h, _, _, _, _ => by cases h
  | f + 1, d, k, pc, L, st, ah, z, h, f', d', hf, hd => by
    obtain ⟨g, rfl⟩ : ∃ g, f' = g + 1 := ⟨f' - 1, by omega⟩
    have hg0 : f ≤ g := by omega
    unfold xrun at h
    unfold xrun
    split at h
    · cases h
    · rename_i i n hc
      try simp only [hc]
      split at h
      · rename_i kd j hi
        try simp only [hi]
        split at h
        · rename_i hn
          try rw [if_pos hn]
          split at h
          · rename_i y na hca
            try simp only [hca]
            split at h
            · cases h
            · rename_i d1
              obtain ⟨d2, rfl⟩ : ∃ d2, d' = d2 + 1 := ⟨d' - 1, by omega⟩
              try simp only
              split at h
              · rename_i vs rr ht
                try simp only [ht]
                split at h
                · rename_i hg
                  try rw [if_pos hg]
                  split at h
                  · rename_i v ah1 hr
                    try simp only [xrun_up hr hg0 (show d1 ≤ d2 by omega)]
                    exact xrun_up h hg0 hd
                  · rename_i a ah1 hr
                    try simp only [xrun_up hr hg0 (show d1 ≤ d2 by omega)]
                    split at h
                    · rename_i c hcl
                      try simp only [hcl]
                      split at h
                      · rename_i hh hhn
                        try simp only [hhn]
                        exact xrun_up h hg0 hd
                      · rename_i hhn
                        try simp only [hhn]
                        exact h
                      · cases h
                    · cases h
                  · cases h
                · cases h
              · cases h
          · rename_i hca
            try simp only [hca]
            split at h
            · split at h
              · rename_i st' ho
                try simp only [ho]
                exact xrun_up h hg0 hd
              · cases h
            · split at h
              · rename_i st' ho
                try simp only [ho]
                exact xrun_up h hg0 hd
              · rename_i hom
                try simp only [hom]
                split at h
                · rename_i ah1 st' ho
                  try simp only [ho]
                  exact xrun_up h hg0 hd
                · cases h
            · split at h
              · rename_i ah1 st' ho
                try simp only [ho]
                exact xrun_up h hg0 hd
              · cases h
            · cases h
        · cases h
      · rename_i hi
        try simp only [hi]
        split at h
        · rename_i v hr
          try simp only [hr]
          exact h
        · rename_i hr
          try simp only [hr]
          split at h
          · split at h
            · rename_i a rest _
              split at h
              · rename_i hn
                try simp only [hn, if_true]
                split at h
                · rename_i c hcl
                  try simp only [hcl]
                  split at h
                  · rename_i hh hhn
                    try simp only [hhn]
                    exact xrun_up h hg0 hd
                  · rename_i hhn
                    try simp only [hhn]
                    exact h
                  · cases h
                · cases h
              · cases h
            · cases h
          · rename_i j _ _
            split at h
            · rename_i ce hte
              try simp only [hte]
              exact h
            · rename_i hte
              try simp only [hte]
              split at h
              · rename_i ce ic y hmk
                try simp only [hmk]
                split at h
                · rename_i hn
                  try rw [if_pos hn]
                  split at h
                  · cases h
                  · rename_i d1
                    obtain ⟨d2, rfl⟩ : ∃ d2, d' = d2 + 1 := ⟨d' - 1, by omega⟩
                    try simp only
                    split at h
                    · rename_i pc' L' st' hp
                      try simp only [hp]
                      split at h
                      · rename_i a b rr htw
                        try simp only [htw]
                        split at h
                        · rename_i ah2 hr2
                          try simp only [xrun_up hr2 hg0 (show d1 ≤ d2 by omega)]
                          exact xrun_up h hg0 hd
                        · cases h
                      · cases h
                    · cases h
                · cases h
              · rename_i hmk
                try simp only [hmk]
                split at h
                · rename_i pc' L' st' ah1 hs
                  try simp only [hs]
                  exact xrun_up h hg0 hd
                · cases h
          · split at h
            · rename_i pc' L' st' ah1 hs
              exact xrun_up h hg0 hd
            · cases h
/-- what a frame comes to -/
noncomputable def yD (v : Value) (d k pc : Nat) (L st : List Value) (ah : List xO) : Option xRes := @dite _ (∃ z, ∃ f, xrun (xPrg v) 81 f d k pc L st ah = some z) (Classical.propDecidable _) (fun h => some (Classical.choose h)) (fun _ => none)
section YAB
variable {v : Value} {d d1 k pc k1 pc1 : Nat} {L st L1 st1 : List Value} {ah ah1 : List xO} {z : xRes}
theorem yD_iff : yD v d k pc L st ah = some z ↔ ∃ f, xrun (xPrg v) 81 f d k pc L st ah = some z := by
  unfold yD
  by_cases h : ∃ z, ∃ f, xrun (xPrg v) 81 f d k pc L st ah = some z
  · rw [dif_pos h]
    obtain ⟨f1, h1⟩ := Classical.choose_spec h
    constructor
    · intro e
      cases e
      exact ⟨f1, h1⟩
    · rintro ⟨f, h2⟩
      have e1 := xrun_up h1 (Nat.le_max_left f1 f) (Nat.le_refl d)
      have e2 := xrun_up h2 (Nat.le_max_right f1 f) (Nat.le_refl d)
      exact e1.symm.trans e2
  · rw [dif_neg h]
    constructor
    · intro e
      cases e
    · intro e
      exact (h ⟨z, e⟩).elim
theorem yD_up (h : yD v d k pc L st ah = some z) (hd : d ≤ d1) : yD v d1 k pc L st ah = some z := by
  obtain ⟨f, h⟩ := yD_iff.mp h
  exact yD_iff.mpr ⟨f, xrun_up h (Nat.le_refl f) hd⟩
theorem yD_ext (h : ∀ z, (∃ f, xrun (xPrg v) 81 f d k pc L st ah = some z) ↔ ∃ f, xrun (xPrg v) 81 f d1 k1 pc1 L1 st1 ah1 = some z) : yD v d k pc L st ah = yD v d1 k1 pc1 L1 st1 ah1 := by
  apply Option.ext
  intro z
  show yD v d k pc L st ah = some z ↔ yD v d1 k1 pc1 L1 st1 ah1 = some z
  rw [yD_iff, yD_iff]
  exact h z
theorem yD_next (h : ∀ f, xrun (xPrg v) 81 (f + 1) d k pc L st ah = xrun (xPrg v) 81 f d1 k1 pc1 L1 st1 ah1) : yD v d k pc L st ah = yD v d1 k1 pc1 L1 st1 ah1 := by
  refine yD_ext fun z => ⟨?_, ?_⟩
  · rintro ⟨f, hf⟩
    cases f with
    | zero => cases hf
    | succ f => exact ⟨f, (h f).symm.trans hf⟩
  · rintro ⟨f, hf⟩
    exact ⟨f + 1, (h f).trans hf⟩
theorem yD_val (h : ∀ f, xrun (xPrg v) 81 (f + 1) d k pc L st ah = some z) : yD v d k pc L st ah = some z := yD_iff.mpr ⟨1, h 0⟩
theorem yD_no (h : ∀ f, xrun (xPrg v) 81 (f + 1) d k pc L st ah = none) : yD v d k pc L st ah = none := by
  cases e : yD v d k pc L st ah with
  | none => rfl
  | some z =>
    obtain ⟨f, hf⟩ := yD_iff.mp e
    cases f with
    | zero => cases hf
    | succ f => rw [h f] at hf; cases hf
/-- an instruction that neither calls nor ends -/
theorem xrun_one {P : xPg} {E f d k pc pc' : Nat} {L st L' st' : List Value} {ah ah' : List xO} (h : xone P E k pc L st ah = some (pc', L', st', ah')) : xrun P E (f + 1) d k pc L st ah = xrun P E f d k pc' L' st' ah' := by
  unfold xone at h
  conv => lhs; unfold xrun
  split at h
  · cases h
  · rename_i i n hc
    rw [hc]
    split at h
    · cases h
    · rename_i hi
      simp only [hi]
      split at h
      · cases h
      · rename_i hq
        simp only [hq]
        split at h
        · cases h
        · split at h
          · cases h
          · rename_i hte
            split at h
            · cases h
            · rename_i hmk
              simp only [hte, hmk, h]
        · split
          · exact absurd rfl (by assumption)
          · first | (rename_i h9; exact (h9 _ rfl).elim) | (rename_i h9 _; exact (h9 _ rfl).elim) | (rename_i h9 _ _; exact (h9 _ rfl).elim) | (rename_i h9 _ _ _; exact (h9 _ rfl).elim)
          · simp only [h]
theorem yD_one {pc' : Nat} {L' st' : List Value} {ah' : List xO} (h : xone (xPrg v) 81 k pc L st ah = some (pc', L', st', ah')) : yD v d k pc L st ah = yD v d k pc' L' st' ah' := yD_next fun _ => xrun_one h
/-- a frame's end -/
theorem yD_ret {i : Instr} {n : Nat} {w : Option Value} (hc : xP_code (xPrg v) k pc = some (i, n)) (hi : xinv i = none) (hw : xret (xP_rt (xPrg v) k) i n st = some w) : yD v d k pc L st ah = some (.inl w, ah) := by
  refine yD_val fun f => ?_
  unfold xrun
  simp only [hc, hi, hw]
/-- behind a call -/
noncomputable def yB (v : Value) (o : Option xRes) (d k pc : Nat) (L st : List Value) : Option xRes := match o with
  | some (.inl w, ah1) => yD v d k (pc + 3) L (w.toList ++ st) ah1
  | some (.inr a, ah1) => (match xcls ah1 a with
    | some c => (match xP_hn (xPrg v) k pc c with
      | some (some h) => yD v d k h L [.ref a] ah1
      | some none => some (.inr a, ah1)
      | none => none)
    | none => none)
  | none => none
theorem yD_call {y : Nat} {vs rr : List Value} (h : xgo (xPrg v) k pc st ah = some (y, vs, rr)) : yD v (d + 1) k pc L st ah = yB v (yD v d y 0 (xentry vs (xP_ml (xPrg v) y)) [] ah) (d + 1) k pc L rr := by
  have e : ∀ f, xrun (xPrg v) 81 (f + 1) (d + 1) k pc L st ah = (match xrun (xPrg v) 81 f d y 0 (xentry vs (xP_ml (xPrg v) y)) [] ah with
              | some (.inl w, ah1) => xrun (xPrg v) 81 f (d + 1) k (pc + 3) L (w.toList ++ rr) ah1
              | some (.inr a, ah1) => (match xcls ah1 a with
                | some c => (match xP_hn (xPrg v) k pc c with
                  | some (some h) => xrun (xPrg v) 81 f (d + 1) k h L [.ref a] ah1
                  | some none => some (.inr a, ah1)
                  | none => none)
                | none => none)
              | none => none) := by
    intro f
    unfold xgo at h
    conv => lhs; unfold xrun
    split at h
    · cases h
    · rename_i i n hc
      rw [hc]
      split at h
      · cases h
      · rename_i kd j hi
        simp only [hi]
        split at h
        · rename_i hn
          simp only [hn, if_true]
          split at h
          · cases h
          · rename_i y0 na hca
            simp only [hca]
            split at h
            · rename_i vs0 rr0 ht
              simp only [ht]
              split at h
              · rename_i hg
                cases h
                rw [if_pos hg]
                rfl
              · cases h
            · cases h
        · cases h
  have stuck : ∀ {o : Option xRes}, (∀ z, o = some z → False) → o = none := fun {o} h => by
    cases o with
    | none => rfl
    | some z => exact (h z rfl).elim
  cases hy : yD v d y 0 (xentry vs (xP_ml (xPrg v) y)) [] ah with
  | none =>
    show _ = none
    refine yD_no fun f => ?_
    rw [e f]
    cases h9 : xrun (xPrg v) 81 f d y 0 (xentry vs (xP_ml (xPrg v) y)) [] ah with
    | none => rfl
    | some z => rw [yD_iff.mpr ⟨f, h9⟩] at hy; cases hy
  | some z =>
    obtain ⟨o, ah1⟩ := z
    obtain ⟨f0, h0⟩ := yD_iff.mp hy
    have same : ∀ f z, xrun (xPrg v) 81 f d y 0 (xentry vs (xP_ml (xPrg v) y)) [] ah = some z → z = (o, ah1) := by
      intro f z hz
      have := (yD_iff.mpr ⟨f, hz⟩).symm.trans hy
      cases this; rfl
    cases o with
    | inl w =>
      show _ = yD v (d + 1) k (pc + 3) L (w.toList ++ rr) ah1
      refine yD_ext fun z => ⟨?_, ?_⟩
      · rintro ⟨f, hf⟩
        cases f with
        | zero => cases hf
        | succ f =>
          rw [e f] at hf
          cases h9 : xrun (xPrg v) 81 f d y 0 (xentry vs (xP_ml (xPrg v) y)) [] ah with
          | none => rw [h9] at hf; cases hf
          | some z1 =>
            rw [h9] at hf
            cases same f _ h9
            exact ⟨f, hf⟩
      · rintro ⟨f, hf⟩
        refine ⟨max f0 f + 1, ?_⟩
        rw [e, xrun_up h0 (Nat.le_max_left f0 f) (Nat.le_refl d)]
        exact xrun_up hf (Nat.le_max_right f0 f) (Nat.le_refl _)
    | inr a =>
      unfold yB
      simp only
      cases hc : xcls ah1 a with
      | none =>
        simp only
        refine yD_no fun f => ?_
        rw [e f]
        cases h9 : xrun (xPrg v) 81 f d y 0 (xentry vs (xP_ml (xPrg v) y)) [] ah with
        | none => rfl
        | some z1 =>
          cases same f _ h9
          simp only [hc]
      | some c =>
        simp only
        cases hh : xP_hn (xPrg v) k pc c with
        | none =>
          simp only
          refine yD_no fun f => ?_
          rw [e f]
          cases h9 : xrun (xPrg v) 81 f d y 0 (xentry vs (xP_ml (xPrg v) y)) [] ah with
          | none => rfl
          | some z1 =>
            cases same f _ h9
            simp only [hc, hh]
        | some o2 =>
          cases o2 with
          | none =>
            simp only
            refine yD_iff.mpr ⟨f0 + 1, ?_⟩
            rw [e, h0]
            simp only [hc, hh]
          | some h1 =>
            simp only
            refine yD_ext fun z => ⟨?_, ?_⟩
            · rintro ⟨f, hf⟩
              cases f with
              | zero => cases hf
              | succ f =>
                rw [e f] at hf
                cases h9 : xrun (xPrg v) 81 f d y 0 (xentry vs (xP_ml (xPrg v) y)) [] ah with
                | none => rw [h9] at hf; cases hf
                | some z1 =>
                  rw [h9] at hf
                  cases same f _ h9
                  simp only [hc, hh] at hf
                  exact ⟨f, hf⟩
            · rintro ⟨f, hf⟩
              refine ⟨max f0 f + 1, ?_⟩
              rw [e, xrun_up h0 (Nat.le_max_left f0 f) (Nat.le_refl d)]
              simp only [hc, hh]
              exact xrun_up hf (Nat.le_max_right f0 f) (Nat.le_refl _)
/-- Object's constructor; Math's members -/
theorem yD_oinit {j : Nat} {st' : List Value} (hc : xP_code (xPrg v) k pc = some (.invokespecial j, 3)) (hca : xcaj (xPrg v) (xP_pool (xPrg v) k) 2 j = none) (ho : x_oinit (xP_oi (xPrg v) (xP_pool (xPrg v) k)) j st = some st') : yD v d k pc L st ah = yD v d k (pc + 3) L st' ah := by
  refine yD_next fun f => ?_
  have hi : xinv (.invokespecial j) = some (2, j) := rfl
  conv => lhs; unfold xrun
  simp only [hc, hi, hca, ho, if_true]
theorem yD_math {j : Nat} {st' : List Value} (hc : xP_code (xPrg v) k pc = some (.invokestatic j, 3)) (hca : xcaj (xPrg v) (xP_pool (xPrg v) k) 0 j = none) (ho : x_math (xP_ma (xPrg v) (xP_pool (xPrg v) k)) j st = some st') : yD v d k pc L st ah = yD v d k (pc + 3) L st' ah := by
  refine yD_next fun f => ?_
  have hi : xinv (.invokestatic j) = some (0, j) := rfl
  conv => lhs; unfold xrun
  simp only [hc, hi, hca, ho, if_true]
/-- 'throw new E()' -/
theorem yD_tnew {j ce : Nat} (hc : xP_code (xPrg v) k pc = some (.new j, 3)) (hte : xP_te (xPrg v) (xP_pool (xPrg v) k) j = some ce) (hst : st.length ≤ 12) : yD v d k pc L st ah = some (.inr ah.length, ah ++ [.inr (ce, List.replicate 6 .null)]) := by
  refine yD_val fun f => ?_
  have hi : xinv (.new j) = none := rfl
  have hq : xret (xP_rt (xPrg v) k) (.new j) 3 st = none := rfl
  unfold xrun
  simp only [hc, hi, hq, hte, hst, and_self, if_true]
/-- 'throw' of a thing at hand -/
theorem yD_thro {a c : Nat} {rr : List Value} (hc : xP_code (xPrg v) k pc = some (.athrow, 1)) (hcl : xcls ah a = some c) (hh : xP_hn (xPrg v) k pc c = some none) : yD v d k pc L (.ref a :: rr) ah = some (.inr a, ah) := by
  refine yD_val fun f => ?_
  have hi : xinv .athrow = none := rfl
  have hq : xret (xP_rt (xPrg v) k) .athrow 1 (.ref a :: rr) = none := rfl
  unfold xrun
  simp only [hc, hi, hq, hcl, hh, if_true]
/-- 'new' of an exception of our own: its constructor stores the two ints -/
theorem yD_mk {j ce ic y pc' : Nat} {L' st' rr : List Value} {a b : Int32} {ah2 : List xO} (hc : xP_code (xPrg v) k pc = some (.new j, 3)) (hte : xP_te (xPrg v) (xP_pool (xPrg v) k) j = none) (hmk : xP_mk (xPrg v) (xP_pool (xPrg v) k) j = some (ce, ic, y)) (hml : xP_ml (xPrg v) y = 3) (hp : xpure (xPrg v) k ic 12 (pc + 3) L (.ref ah.length :: st) (ah ++ [.inr (ce, xP_fd (xPrg v) ce)]) = some (pc', L', st')) (htw : xtwo ah.length st' = some (a, b, rr)) (hy : ∀ d, yD v d y 4 [.ref ah.length, .int a, .int b] [] (ah ++ [.inr (ce, xP_fd (xPrg v) ce)]) = some (.inl none, ah2)) : yD v (d + 1) k pc L st ah = yD v (d + 1) k (pc' + 3) L' rr ah2 := by
  have hi : xinv (.new j) = none := rfl
  have hq : xret (xP_rt (xPrg v) k) (.new j) 3 st = none := rfl
  have e : ∀ f, xrun (xPrg v) 81 (f + 1) (d + 1) k pc L st ah = (match xrun (xPrg v) 81 f d y 4 [.ref ah.length, .int a, .int b] [] (ah ++ [.inr (ce, xP_fd (xPrg v) ce)]) with
    | some (.inl none, ah2) => xrun (xPrg v) 81 f (d + 1) k (pc' + 3) L' rr ah2
    | _ => none) := by
    intro f
    conv => lhs; unfold xrun
    simp only [hc, hi, hq, hte, hmk, hml, and_self, if_true, hp, htw]
    rfl
  obtain ⟨f0, h0⟩ := yD_iff.mp (hy d)
  refine yD_ext fun z => ⟨?_, ?_⟩
  · rintro ⟨f, hf⟩
    cases f with
    | zero => cases hf
    | succ f =>
      rw [e f] at hf
      cases h9 : xrun (xPrg v) 81 f d y 4 [.ref ah.length, .int a, .int b] [] (ah ++ [.inr (ce, xP_fd (xPrg v) ce)]) with
      | none => rw [h9] at hf; cases hf
      | some z1 =>
        have := (yD_iff.mpr ⟨f, h9⟩).symm.trans (hy d)
        cases this
        rw [h9] at hf
        exact ⟨f, hf⟩
  · rintro ⟨f, hf⟩
    refine ⟨max f0 f + 1, ?_⟩
    rw [e, xrun_up h0 (Nat.le_max_left f0 f) (Nat.le_refl d)]
    exact xrun_up hf (Nat.le_max_right f0 f) (Nat.le_refl _)
end YAB
end YA
