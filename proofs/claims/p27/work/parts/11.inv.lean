/-! what a run's first instruction was -/
section XS
def xHnd (P : xPg) (E f d k pc : Nat) (L : List Value) (a : Nat) (ah1 : List xO) (r : Option Value ⊕ Nat) (ah' : List xO) : Prop := ∃ c, xcls ah1 a = some c ∧ ((∃ h, xP_hn P k pc c = some (some h) ∧ xrun P E f d k h L [.ref a] ah1 = some (r, ah')) ∨ (xP_hn P k pc c = some none ∧ r = .inr a ∧ ah' = ah1))
def xInvA (P : xPg) (E f d k pc : Nat) (L st : List Value) (ah : List xO) (i : Instr) (n : Nat) (r : Option Value ⊕ Nat) (ah' : List xO) : Prop := ∃ kd j y na d' vs rr o ah1, xinv i = some (kd, j) ∧ n = 3 ∧ xcaj P (xP_pool P k) kd j = some (y, na) ∧ d = d' + 1 ∧ xtake (if kd = 0 then na else na + 1) st = some (vs, rr) ∧ xrecv P kd y ah vs = true ∧ rr.length ≤ 12 ∧ xP_ml P y ≤ 20 ∧ (xlay vs).length ≤ xP_ml P y ∧ xrun P E f d' y 0 (xentry vs (xP_ml P y)) [] ah = some (o, ah1) ∧
  ((∃ v, o = .inl v ∧ xrun P E f d k (pc + 3) L (v.toList ++ rr) ah1 = some (r, ah')) ∨ ∃ a, o = .inr a ∧ xHnd P E f d k pc L a ah1 r ah')
def xInvM (P : xPg) (E f d k pc : Nat) (L st : List Value) (ah : List xO) (i : Instr) (n : Nat) (r : Option Value ⊕ Nat) (ah' : List xO) : Prop := ∃ j ce ic y d' pc' L' st' a b rr ah2, i = .new j ∧ xP_mk P (xP_pool P k) j = some (ce, ic, y) ∧ n = 3 ∧ xP_ml P y = 3 ∧ d = d' + 1 ∧ xpure P k ic 12 (pc + 3) L (.ref ah.length :: st) (ah ++ [.inr (ce, xP_fd P ce)]) = some (pc', L', st') ∧ xtwo ah.length st' = some (a, b, rr) ∧
  xrun P E f d' y 4 [.ref ah.length, .int a, .int b] [] (ah ++ [.inr (ce, xP_fd P ce)]) = some (.inl none, ah2) ∧ xrun P E f d k (pc' + 3) L' rr ah2 = some (r, ah')
def xInv (P : xPg) (E f d k pc : Nat) (L st : List Value) (ah : List xO) (r : Option Value ⊕ Nat) (ah' : List xO) : Prop := ∃ i n, xP_code P k pc = some (i, n) ∧
  (xInvA P E f d k pc L st ah i n r ah' ∨
   (∃ j st', i = .invokespecial j ∧ n = 3 ∧ x_oinit (xP_oi P (xP_pool P k)) j st = some st' ∧ xrun P E f d k (pc + 3) L st' ah = some (r, ah')) ∨
   (∃ j st', i = .invokestatic j ∧ n = 3 ∧ x_math (xP_ma P (xP_pool P k)) j st = some st' ∧ xrun P E f d k (pc + 3) L st' ah = some (r, ah')) ∨
   xInvM P E f d k pc L st ah i n r ah' ∨
   (∃ v, xret (xP_rt P k) i n st = some v ∧ r = .inl v ∧ ah' = ah) ∨
   (i = .athrow ∧ n = 1 ∧ ∃ a rest, st = .ref a :: rest ∧ xHnd P E f d k pc L a ah r ah') ∨
   (∃ j ce, i = .new j ∧ xP_te P (xP_pool P k) j = some ce ∧ n = 3 ∧ st.length ≤ 12 ∧ r = .inr ah.length ∧ ah' = ah ++ [.inr (ce, List.replicate 6 .null)]) ∨
   (∃ pc' L' st' ah1, xstep P E k pc L st ah i n = some (pc', L', st', ah1) ∧ xrun P E f d k pc' L' st' ah1 = some (r, ah')) ∨
   (∃ j st' ah1, i = .invokestatic j ∧ n = 3 ∧ x_acp E (xP_ma P (xP_pool P k)) j ah st = some (ah1, st') ∧ xrun P E f d k (pc + 3) L st' ah1 = some (r, ah')) ∨
   (∃ j st' ah1, i = .invokevirtual j ∧ n = 3 ∧ x_cln (xP_ma P (xP_pool P k)) (xP_code P k (pc + 3)) j ah st = some (ah1, st') ∧ xrun P E f d k (pc + 6) L st' ah1 = some (r, ah')))
theorem xinv_2 {i : Instr} {j : Nat} (h : xinv i = some (2, j)) : i = .invokespecial j := by
  unfold xinv at h
  split at h <;> cases h
  rfl
theorem xinv_0 {i : Instr} {j : Nat} (h : xinv i = some (0, j)) : i = .invokestatic j := by
  unfold xinv at h
  split at h <;> cases h
  rfl
theorem xinv_1 {i : Instr} {j : Nat} (h : xinv i = some (1, j)) : i = .invokevirtual j := by
  unfold xinv at h
  split at h <;> cases h
  rfl
theorem xrun_inv {P : xPg} {E f d k pc : Nat} {L st : List Value} {ah : List xO} {r : Option Value ⊕ Nat} {ah' : List xO} (h : xrun P E (f + 1) d k pc L st ah = some (r, ah')) : xInv P E f d k pc L st ah r ah' := by
  unfold xrun at h
  split at h
  · cases h
  · rename_i i n hc
    refine ⟨i, n, hc, ?_⟩
    split at h
    · rename_i kd j hi
      split at h
      · rename_i hn
        split at h
        · rename_i y na hca
          split at h
          · cases h
          · rename_i d'
            split at h
            · rename_i vs rr ht
              split at h
              · rename_i hg
                obtain ⟨hg1, hg2, hg3, hg4⟩ := hg
                split at h
                · rename_i v ah1 hr
                  exact Or.inl ⟨kd, j, y, na, d', vs, rr, _, ah1, hi, hn, hca, rfl, ht, hg1, hg2, hg3, hg4, hr, Or.inl ⟨v, rfl, h⟩⟩
                · rename_i a ah1 hr
                  refine Or.inl ⟨kd, j, y, na, d', vs, rr, _, ah1, hi, hn, hca, rfl, ht, hg1, hg2, hg3, hg4, hr, Or.inr ⟨a, rfl, ?_⟩⟩
                  split at h
                  · rename_i c hcl
                    split at h
                    · rename_i hh hhn
                      exact ⟨c, hcl, Or.inl ⟨hh, hhn, h⟩⟩
                    · rename_i hhn
                      cases h
                      exact ⟨c, hcl, Or.inr ⟨hhn, rfl, rfl⟩⟩
                    · cases h
                  · cases h
                · cases h
              · cases h
            · cases h
        · split at h
          · split at h
            · rename_i st' ho
              exact Or.inr (Or.inl ⟨j, st', xinv_2 hi, hn, ho, h⟩)
            · cases h
          · split at h
            · rename_i st' ho
              exact Or.inr (Or.inr (Or.inl ⟨j, st', xinv_0 hi, hn, ho, h⟩))
            · split at h
              · rename_i ah1 st' ho
                exact Or.inr (Or.inr (Or.inr (Or.inr (Or.inr (Or.inr (Or.inr (Or.inr (Or.inl ⟨j, st', ah1, xinv_0 hi, hn, ho, h⟩))))))))
              · cases h
          · split at h
            · rename_i ah1 st' ho
              exact Or.inr (Or.inr (Or.inr (Or.inr (Or.inr (Or.inr (Or.inr (Or.inr (Or.inr ⟨j, st', ah1, xinv_1 hi, hn, ho, h⟩))))))))
            · cases h
          · cases h
      · cases h
    · split at h
      · rename_i v hr
        cases h
        exact Or.inr (Or.inr (Or.inr (Or.inr (Or.inl ⟨v, hr, rfl, rfl⟩))))
      · split at h
        · split at h
          · rename_i a rest hz9
            split at h
            · rename_i hn
              refine Or.inr (Or.inr (Or.inr (Or.inr (Or.inr (Or.inl ⟨rfl, hn, a, rest, rfl, ?_⟩)))))
              split at h
              · rename_i c hcl
                split at h
                · rename_i hh hhn
                  exact ⟨c, hcl, Or.inl ⟨hh, hhn, h⟩⟩
                · rename_i hhn
                  cases h
                  exact ⟨c, hcl, Or.inr ⟨hhn, rfl, rfl⟩⟩
                · cases h
              · cases h
            · cases h
          · cases h
        · rename_i j hz8 hz9
          split at h
          · rename_i ce hte
            split at h
            · rename_i hn
              cases h
              exact Or.inr (Or.inr (Or.inr (Or.inr (Or.inr (Or.inr (Or.inl ⟨j, ce, rfl, hte, hn.1, hn.2, rfl, rfl⟩))))))
            · cases h
          · split at h
            · rename_i ce ic y hmk
              split at h
              · rename_i hn
                split at h
                · cases h
                · rename_i d'
                  split at h
                  · rename_i pc' L' st' hp
                    split at h
                    · rename_i a b rr htw
                      split at h
                      · rename_i ah2 hr
                        exact Or.inr (Or.inr (Or.inr (Or.inl ⟨j, ce, ic, y, d', pc', L', st', a, b, rr, ah2, rfl, hmk, hn.1, hn.2, rfl, hp, htw, hr, h⟩)))
                      · cases h
                    · cases h
                  · cases h
              · cases h
            · split at h
              · rename_i pc' L' st' ah1 hs
                exact Or.inr (Or.inr (Or.inr (Or.inr (Or.inr (Or.inr (Or.inr (Or.inl ⟨pc', L', st', ah1, hs, h⟩)))))))
              · cases h
        · split at h
          · rename_i pc' L' st' ah1 hs
            exact Or.inr (Or.inr (Or.inr (Or.inr (Or.inr (Or.inr (Or.inr (Or.inl ⟨pc', L', st', ah1, hs, h⟩)))))))
          · cases h
def xle (a b : List xO) : Prop := a.length ≤ b.length ∧ xsum a ≤ xsum b
theorem xle.rf (a : List xO) : xle a a := ⟨Nat.le_refl _, Nat.le_refl _⟩
theorem xle.tr {a b c : List xO} (h1 : xle a b) (h2 : xle b c) : xle a c := ⟨Nat.le_trans h1.1 h2.1, Nat.le_trans h1.2 h2.2⟩
theorem x_acp_mono {E : Nat} {ma : Nat → Option Nat} {j : Nat} {ah ah' : List xO} {st st' : List Value} (h : x_acp E ma j ah st = some (ah', st')) : xle ah ah' := by
  unfold x_acp at h
  split at h
  · split at h
    · rename_i hob
      split at h
      · rename_i hc
        obtain ⟨-, rfl, -⟩ := hc
        cases h
        exact ⟨by rw [List.length_set]; exact Nat.le_refl _, Nat.le_of_eq (Eq.symm (xsum_set hob rfl))⟩
      · cases h
    · cases h
  · cases h
theorem x_cln_mono {ma : Nat → Option Nat} {nx : Option (Instr × Nat)} {j : Nat} {ah ah' : List xO} {st st' : List Value} (h : x_cln ma nx j ah st = some (ah', st')) : xle ah ah' := by
  unfold x_cln at h
  split at h
  · split at h
    · split at h
      · cases h
        exact ⟨by rw [List.length_append]; omega, by rw [xsum_push]; omega⟩
      · cases h
    · cases h
  · cases h
theorem xrun_mono {P : xPg} {E : Nat} : ∀ {f d k pc : Nat} {L st : List Value} {ah : List xO} {r : Option Value ⊕ Nat} {ah' : List xO}, xrun P E f d k pc L st ah = some (r, ah') → xle ah ah'
  | 0, d, k, pc, L, st, ah, r, ah', h => by cases h
  | f + 1, d, k, pc, L, st, ah, r, ah', h => by
    have hH : ∀ {a : Nat} {ah1 : List xO}, xHnd P E f d k pc L a ah1 r ah' → xle ah1 ah' := by
      rintro a ah1 ⟨c, -, ⟨h0, -, h2⟩ | ⟨-, -, rfl⟩⟩
      · exact xrun_mono h2
      · exact xle.rf _
    obtain ⟨i, n, hc, h1 | h1 | h1 | h1 | h1 | h1 | h1 | h1 | h1 | h1⟩ := xrun_inv h
    · obtain ⟨kd, j, y, na, d', vs, rr, o, ah1, -, -, -, -, -, -, -, -, -, hr, ⟨v, -, h2⟩ | ⟨a, -, h2⟩⟩ := h1
      · exact (xrun_mono hr).tr (xrun_mono h2)
      · exact (xrun_mono hr).tr (hH h2)
    · obtain ⟨j, st', -, -, -, h2⟩ := h1
      exact xrun_mono h2
    · obtain ⟨j, st', -, -, -, h2⟩ := h1
      exact xrun_mono h2
    · obtain ⟨j, ce, ic, y, d', pc', L', st', a, b, rr, ah2, -, -, -, -, -, -, -, hr, h2⟩ := h1
      exact xle.tr (xle.tr ⟨by rw [List.length_append]; omega, by rw [xsum_push]; omega⟩ (xrun_mono hr)) (xrun_mono h2)
    · obtain ⟨v, -, -, rfl⟩ := h1
      exact xle.rf _
    · obtain ⟨-, -, a, rest, -, h2⟩ := h1
      exact hH h2
    · obtain ⟨j, ce, -, -, -, -, -, rfl⟩ := h1
      exact ⟨by rw [List.length_append]; omega, by rw [xsum_push]; omega⟩
    · obtain ⟨pc', L', st', ah1, hs, h2⟩ := h1
      exact xle.tr (xstep_mono hs) (xrun_mono h2)
    · obtain ⟨j, st', ah1, -, -, ho, h2⟩ := h1
      exact xle.tr (x_acp_mono ho) (xrun_mono h2)
    · obtain ⟨j, st', ah1, -, -, ho, h2⟩ := h1
      exact xle.tr (x_cln_mono ho) (xrun_mono h2)
/-! entry -/
theorem xlay_len (ad : Nat → Nat) : ∀ (vs : List Value), (lg_sl (vs.map (xm ad))).length = (xlay vs).length
  | [] => rfl
  | v :: t => by
    have ih := xlay_len ad t
    unfold lg_sl at ih ⊢
    simp only [List.map_cons, List.flatMap_cons, List.length_append, xm_cat, xlay]
    split <;> simp [ih] <;> omega
theorem xlay_mem {ad : Nat → Nat} {q : Nat × Value} (m : Nat) : ∀ {vs : List Value} {j : Nat}, q ∈ xP ad j (xlay vs ++ List.replicate m xU) → q ∈ lv_args j (vs.map (xm ad))
  | [], j, h => by
    obtain ⟨i, v, h1, h2, -⟩ := xP_mem.mp h
    simp only [xlay, List.nil_append] at h1
    have := List.eq_of_mem_replicate (List.mem_of_getElem? h1)
    subst this
    cases h2
  | v :: t, j, h => by
    simp only [List.map_cons, lv_args, xm_cat]
    unfold xlay at h
    by_cases hc : v.category = 2
    · rw [if_pos hc] at h ⊢
      rw [List.cons_append, List.cons_append] at h
      unfold xP at h
      have h3 : ∀ q', q' ∈ xP ad (j + 1) (xU :: (xlay t ++ List.replicate m xU)) → q' ∈ xP ad (j + 2) (xlay t ++ List.replicate m xU) := by
        intro q' h'
        unfold xP at h'
        exact h'
      split at h
      · rcases List.mem_cons.mp h with h | h
        · rw [h]; exact List.mem_cons_self
        · exact List.mem_cons_of_mem _ (xlay_mem m (h3 _ h))
      · exact List.mem_cons_of_mem _ (xlay_mem m (h3 _ h))
    · rw [if_neg hc] at h ⊢
      rw [List.cons_append] at h
      unfold xP at h
      split at h
      · rcases List.mem_cons.mp h with h | h
        · rw [h]; exact List.mem_cons_self
        · exact List.mem_cons_of_mem _ (xlay_mem m h)
      · exact List.mem_cons_of_mem _ (xlay_mem m h)
theorem xentry_len {vs : List Value} {n : Nat} (h : (xlay vs).length ≤ n) : (xentry vs n).length = n := by
  unfold xentry
  rw [List.length_append, List.length_replicate]
  omega
theorem xentry_ok (ad : Nat → Nat) (m : MethodId) {vs : List Value} {n : Nat} (h : (xlay vs).length ≤ n) : ∃ ls : Array Slot, entryFrame m (xJ vs ad).toArray n = F0 m 0 ls [] ∧ xL ad (xentry vs n) ls n := by
  have h1 : (lg_sl (xJ vs ad)).length ≤ n := by rw [xJ, xlay_len]; exact h
  have h2 := lv_entry (xJ vs ad) h1
  refine ⟨_, lg_entry_eq m (xJ vs ad) n, h2.1, h2.2.1, fun q hq => h2.2.2 q ?_⟩
  exact xlay_mem _ hq
end XS
