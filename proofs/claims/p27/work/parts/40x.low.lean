/-! WHAT WAS THERE BEFORE STAYS -/
section YL
variable {P : xPg} {ah : List xO}
theorem xacp_low {ma : Nat → Option Nat} {j : Nat} {st st' : List Value} {ah1 : List xO} (h : x_acp 81 ma j ah st = some (ah1, st')) (hl : 81 ≤ ah.length) : ah1.take 81 = ah.take 81 ∧ 81 ≤ ah1.length := by
  unfold x_acp at h
  (repeat' split at h) <;> first | cases h | skip
  rename_i hc
  exact ⟨List.take_set_of_le hc.2.2.1, by rw [List.length_set]; exact hl⟩
theorem xcln_low {ma : Nat → Option Nat} {nx : Option (Instr × Nat)} {j : Nat} {st st' : List Value} {ah1 : List xO} (h : x_cln ma nx j ah st = some (ah1, st')) (hl : 81 ≤ ah.length) : ah1.take 81 = ah.take 81 ∧ 81 ≤ ah1.length := by
  unfold x_cln at h
  (repeat' split at h) <;> first | cases h | skip
  exact ⟨List.take_append_of_le_length hl, by rw [List.length_append]; omega⟩
theorem xstep_low {k pc n : Nat} {L st : List Value} {i : Instr} {z : xS4} (h : xstep P 81 k pc L st ah i n = some z) (hl : 81 ≤ ah.length) : z.2.2.2.take 81 = ah.take 81 ∧ 81 ≤ z.2.2.2.length := by
  have same : ∀ {ah' : List xO}, ah' = ah → ah'.take 81 = ah.take 81 ∧ 81 ≤ ah'.length := fun h => by rw [h]; exact ⟨rfl, hl⟩
  have push : ∀ (x : xO), (ah ++ [x]).take 81 = ah.take 81 ∧ 81 ≤ (ah ++ [x]).length := fun x => ⟨List.take_append_of_le_length hl, by rw [List.length_append]; omega⟩
  have set : ∀ {a : Nat} (x : xO), 81 ≤ a → (ah.set a x).take 81 = ah.take 81 ∧ 81 ≤ (ah.set a x).length := fun x ha => ⟨List.take_set_of_le ha, by rw [List.length_set]; exact hl⟩
  unfold xstep at h
  split at h
  all_goals first
    | (obtain ⟨-, st', -, rfl⟩ := xr1_ok h; exact same rfl)
    | (obtain ⟨-, pc', st', -, rfl⟩ := xr3_ok h; exact same rfl)
    | (obtain ⟨L', st', -, rfl⟩ := xr4_ok h; exact same rfl)
    | skip
  · obtain ⟨-, ah', st', h1, rfl⟩ := xr2_ok h
    unfold x_putf at h1
    (repeat' split at h1) <;> first | cases h1 | skip
    rename_i hc; exact set _ hc.2.2.1
  · obtain ⟨-, ah', st', h1, rfl⟩ := xr2_ok h
    unfold x_iast at h1
    (repeat' split at h1) <;> first | cases h1 | skip
    rename_i hc; exact set _ hc.2.2
  · obtain ⟨-, ah', st', h1, rfl⟩ := xr2_ok h
    unfold x_bast at h1
    (repeat' split at h1) <;> first | cases h1 | skip
    all_goals (first | (rename_i hc _; exact set _ hc.2) | (rename_i hc _ _; exact set _ hc.2))
  · obtain ⟨-, ah', st', h1, rfl⟩ := xr2_ok h
    unfold x_last at h1
    (repeat' split at h1) <;> first | cases h1 | skip
    rename_i hc; exact set _ hc.2.2
  · obtain ⟨-, ah', st', h1, rfl⟩ := xr2_ok h
    unfold x_aast at h1
    (repeat' split at h1) <;> first | cases h1 | skip
    rename_i hc; exact set _ hc.2.2.1
  · obtain ⟨-, ah', st', h1, rfl⟩ := xr2_ok h
    unfold x_newarr at h1
    (repeat' split at h1) <;> first | cases h1 | skip
    all_goals exact push _
  · obtain ⟨-, ah', st', h1, rfl⟩ := xr2_ok h
    unfold x_anew at h1
    (repeat' split at h1) <;> first | cases h1 | skip
    exact push _
  · obtain ⟨-, ah', st', h1, rfl⟩ := xr2_ok h
    unfold x_new at h1
    (repeat' split at h1) <;> first | cases h1 | skip
    exact push _
/-- what was there before stays -/
theorem xrun_low : ∀ {f d k pc : Nat} {L st : List Value} {ah : List xO} {r : Option Value ⊕ Nat} {ah1 : List xO}, xrun P 81 f d k pc L st ah = some (r, ah1) → 81 ≤ ah.length → ah1.take 81 = ah.take 81 ∧ 81 ≤ ah1.length
  | 0, d, k, pc, L, st, ah, r, ah1, h, _ => by cases h
  | f + 1, d, k, pc, L, st, ah, r, ah9, h, hU => by
    have push : ∀ (x : xO), (ah ++ [x]).take 81 = ah.take 81 ∧ 81 ≤ (ah ++ [x]).length := fun x => ⟨List.take_append_of_le_length hU, by rw [List.length_append]; omega⟩
    unfold xrun at h
    split at h
    · cases h
    · rename_i i n hc
      split at h
      · rename_i kd j hi
        split at h
        · rename_i hn
          split at h
          · rename_i y na hca
            split at h
            · cases h
            · rename_i d1
              split at h
              · rename_i vs rr ht
                split at h
                · rename_i hg
                  split at h
                  · rename_i v ah1 hr
                    obtain ⟨h1, hU1⟩ := xrun_low hr hU
                    have h2 := xrun_low h hU1
                    exact ⟨h2.1.trans h1, h2.2⟩
                  · rename_i a ah1 hr
                    obtain ⟨h1, hU1⟩ := xrun_low hr hU
                    split at h
                    · rename_i c hcl
                      split at h
                      · have h2 := xrun_low h hU1
                        exact ⟨h2.1.trans h1, h2.2⟩
                      · cases h
                        exact ⟨h1, hU1⟩
                      · cases h
                    · cases h
                  · cases h
                · cases h
              · cases h
          · rename_i hca
            split at h
            · split at h
              · exact xrun_low h hU
              · cases h
            · split at h
              · exact xrun_low h hU
              · split at h
                · rename_i ah1 st' ho
                  obtain ⟨h1, hU1⟩ := xacp_low ho hU
                  have h2 := xrun_low h hU1
                  exact ⟨h2.1.trans h1, h2.2⟩
                · cases h
            · split at h
              · rename_i ah1 st' ho
                obtain ⟨h1, hU1⟩ := xcln_low ho hU
                have h2 := xrun_low h hU1
                exact ⟨h2.1.trans h1, h2.2⟩
              · cases h
            · cases h
        · cases h
      · rename_i hi
        split at h
        · cases h
          exact ⟨rfl, hU⟩
        · rename_i hr
          split at h
          · split at h
            · split at h
              · split at h
                · split at h
                  · exact xrun_low h hU
                  · cases h
                    exact ⟨rfl, hU⟩
                  · cases h
                · cases h
              · cases h
            · cases h
          · rename_i j _ _
            split at h
            · split at h
              · cases h
                exact push _
              · cases h
            · split at h
              · split at h
                · split at h
                  · cases h
                  · rename_i ce ic y _ _ _ _
                    split at h
                    · split at h
                      · split at h
                        · rename_i ah2 hr2
                          have h1 := push (.inr (ce, xP_fd P ce))
                          obtain ⟨h2, hU2⟩ := xrun_low hr2 h1.2
                          have h3 := xrun_low h hU2
                          exact ⟨h3.1.trans (h2.trans h1.1), h3.2⟩
                        · cases h
                      · cases h
                    · cases h
                · cases h
              · split at h
                · rename_i pc' L' st' ah1 hs
                  obtain ⟨h1, hU1⟩ := xstep_low hs hU
                  have h2 := xrun_low h hU1
                  exact ⟨h2.1.trans h1, h2.2⟩
                · cases h
          · split at h
            · rename_i pc' L' st' ah1 hs
              obtain ⟨h1, hU1⟩ := xstep_low hs hU
              have h2 := xrun_low h hU1
              exact ⟨h2.1.trans h1, h2.2⟩
            · cases h
end YL
