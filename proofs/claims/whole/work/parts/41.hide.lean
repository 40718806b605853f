/-! WHAT A RUN NEVER TOUCHES MAY BE ANYTHING: thing 73, the script -/
section YL
def xUn : xO := .inr (199, [])
variable {P : xPg} {ah : List xO} {o : xO}
theorem xget_hid {x : xO} {a : Nat} (hU : ah[73]? = some xUn) (h : ah[a]? = some x) (hx : x ≠ xUn) : (ah.set 73 o)[a]? = some x := by
  rw [List.getElem?_set]
  split
  · rename_i e
    subst e
    rw [hU] at h
    cases h
    exact (hx rfl).elim
  · exact h
theorem xset_hid {x : xO} {a : Nat} (ha : 75 ≤ a) : (ah.set 73 o).set a x = (ah.set a x).set 73 o := List.set_comm _ _ (by omega)
theorem xset_U {x : xO} {a : Nat} (hU : ah[73]? = some xUn) (ha : 75 ≤ a) : (ah.set a x)[73]? = some xUn := by
  rw [List.getElem?_set_ne (by omega)]
  exact hU
theorem xpush_hid (hU : ah[73]? = some xUn) (x : xO) : ah.set 73 o ++ [x] = (ah ++ [x]).set 73 o := by
  have hl := (List.getElem?_eq_some_iff.mp hU).1
  rw [List.set_append_left _ _ hl]
theorem xpush_U (hU : ah[73]? = some xUn) (x : xO) : (ah ++ [x])[73]? = some xUn := by
  have hl := (List.getElem?_eq_some_iff.mp hU).1
  rw [List.getElem?_append_left hl]
  exact hU
theorem x_getf_hid (hU : ah[73]? = some xUn) {fl : Nat → Option (Nat × Nat)} {j : Nat} {st st' : List Value} (h : x_getf fl ah j st = some st') : x_getf fl (ah.set 73 o) j st = some st' := by
  unfold x_getf at h
  split at h
  · split at h
    · rename_i hf
      split at h
      · rename_i hg
        split at h
        · rename_i hc
          split at h
          · rename_i hv
            have hg2 := xget_hid (o := o) hU hg (by intro z; cases z; simp at hv)
            simp only [x_getf, hf, hg2, hc, if_true, hv]
            exact h
          · cases h
        · cases h
      · cases h
    · cases h
  · cases h
theorem x_ald_hid (hU : ah[73]? = some xUn) {T : Nat} {st st' : List Value} (h : x_ald T ah st = some st') : x_ald T (ah.set 73 o) st = some st' := by
  unfold x_ald at h
  split at h
  · split at h
    · rename_i hg
      have hg2 := xget_hid (o := o) hU hg (by intro z; cases z)
      simp only [x_ald, hg2]
      exact h
    · cases h
  · cases h
theorem x_bald_hid (hU : ah[73]? = some xUn) {st st' : List Value} (h : x_bald ah st = some st') : x_bald (ah.set 73 o) st = some st' := by
  have no : ∀ {i : Int32} {a : Nat} {r : List Value}, x_ald 3 ah (.int i :: .ref a :: r) = some st' → x_ald 2 ah (.int i :: .ref a :: r) = none → x_ald 2 (ah.set 73 o) (.int i :: .ref a :: r) = none := by
    intro i a r h3 h2
    unfold x_ald at h3
    simp only at h3
    split at h3
    · rename_i hg
      have hg2 := xget_hid (o := o) hU hg (by intro z; cases z)
      simp only [x_ald, hg] at h2
      simp only [x_ald, hg2]
      exact h2
    · cases h3
  unfold x_bald at h ⊢
  split at h
  · rename_i z hz
    rw [x_ald_hid hU hz]
    exact h
  · rename_i hz
    have h2 : x_ald 2 (ah.set 73 o) st = none := by
      have h3 := h
      unfold x_ald at h3
      split at h3
      · exact no h hz
      · cases h3
    rw [h2]
    exact x_ald_hid hU h
theorem x_lald_hid (hU : ah[73]? = some xUn) {st st' : List Value} (h : x_lald ah st = some st') : x_lald (ah.set 73 o) st = some st' := by
  unfold x_lald at h
  split at h
  · split at h
    · rename_i hg
      have hg2 := xget_hid (o := o) hU hg (by intro z; cases z)
      simp only [x_lald, hg2]
      exact h
    · cases h
  · cases h
theorem x_aald_hid (hU : ah[73]? = some xUn) {st st' : List Value} (h : x_aald ah st = some st') : x_aald (ah.set 73 o) st = some st' := by
  unfold x_aald at h
  split at h
  · split at h
    · rename_i hg
      have hg2 := xget_hid (o := o) hU hg (by intro z; cases z)
      simp only [x_aald, hg2]
      exact h
    · cases h
  · cases h
theorem x_alen_hid (hU : ah[73]? = some xUn) {st st' : List Value} (h : x_alen ah st = some st') : x_alen (ah.set 73 o) st = some st' := by
  unfold x_alen at h
  split at h
  · split at h
    · rename_i hg
      have hg2 := xget_hid (o := o) hU hg (by intro z; cases z)
      simp only [x_alen, hg2]
      exact h
    · cases h
  · cases h
theorem x_putf_hid (hU : ah[73]? = some xUn) {fl : Nat → Option (Nat × Nat × Bool)} {ft : Nat → Nat → FieldType} {ini : Bool} {j : Nat} {st st' : List Value} {ah' : List xO} (h : x_putf 75 fl ft ini ah j st = some (ah', st')) : x_putf 75 fl ft ini (ah.set 73 o) j st = some (ah'.set 73 o, st') ∧ ah'[73]? = some xUn := by
  unfold x_putf at h
  split at h
  · split at h
    · rename_i hf
      split at h
      · rename_i hg
        split at h
        · rename_i hc
          cases h
          have hg2 := xget_hid (o := o) hU hg (by intro z; cases z; exact absurd hc.2.1 (by simp))
          refine ⟨?_, xset_U hU hc.2.2.1⟩
          simp only [x_putf, hf, hg2]
          rw [if_pos hc, xset_hid hc.2.2.1]
        · cases h
      · cases h
    · cases h
  · cases h
theorem x_iast_hid (hU : ah[73]? = some xUn) {st st' : List Value} {ah' : List xO} (h : x_iast 75 ah st = some (ah', st')) : x_iast 75 (ah.set 73 o) st = some (ah'.set 73 o, st') ∧ ah'[73]? = some xUn := by
  unfold x_iast at h
  split at h
  · split at h
    · rename_i hg
      split at h
      · rename_i hc
        cases h
        have hg2 := xget_hid (o := o) hU hg (by intro z; cases z)
        refine ⟨?_, xset_U hU hc.2.2⟩
        simp only [x_iast, hg2]
        rw [if_pos hc, xset_hid hc.2.2]
      · cases h
    · cases h
  · cases h
theorem x_last_hid (hU : ah[73]? = some xUn) {st st' : List Value} {ah' : List xO} (h : x_last 75 ah st = some (ah', st')) : x_last 75 (ah.set 73 o) st = some (ah'.set 73 o, st') ∧ ah'[73]? = some xUn := by
  unfold x_last at h
  split at h
  · split at h
    · rename_i hg
      split at h
      · rename_i hc
        cases h
        have hg2 := xget_hid (o := o) hU hg (by intro z; cases z)
        refine ⟨?_, xset_U hU hc.2.2⟩
        simp only [x_last, hg2]
        rw [if_pos hc, xset_hid hc.2.2]
      · cases h
    · cases h
  · cases h
theorem x_bast_hid (hU : ah[73]? = some xUn) {st st' : List Value} {ah' : List xO} (h : x_bast 75 ah st = some (ah', st')) : x_bast 75 (ah.set 73 o) st = some (ah'.set 73 o, st') ∧ ah'[73]? = some xUn := by
  unfold x_bast at h
  split at h
  · split at h
    · rename_i hg
      split at h
      · rename_i hc
        have hg2 := xget_hid (o := o) hU hg (by intro z; cases z)
        split at h
        · rename_i ht
          cases h
          refine ⟨?_, xset_U hU hc.2⟩
          simp only [x_bast, hg2]
          rw [if_pos hc, if_pos ht, xset_hid hc.2]
        · rename_i ht
          split at h
          · rename_i ht2
            cases h
            refine ⟨?_, xset_U hU hc.2⟩
            simp only [x_bast, hg2]
            rw [if_pos hc, if_neg ht, if_pos ht2, xset_hid hc.2]
          · cases h
      · cases h
    · cases h
  · cases h
theorem x_aast_hid (hU : ah[73]? = some xUn) {st st' : List Value} {ah' : List xO} {kd : Nat} (hkd : kd = 100) (h : x_aast 75 kd ah st = some (ah', st')) : x_aast 75 kd (ah.set 73 o) st = some (ah'.set 73 o, st') ∧ ah'[73]? = some xUn := by
  unfold x_aast at h
  split at h
  · split at h
    · rename_i hg
      split at h
      · rename_i hv
        split at h
        · rename_i hc
          cases h
          have hg2 := xget_hid (o := o) hU hg (by intro z; cases z)
          have hv2 := xget_hid (o := o) hU hv (by intro z; cases z; have := hc.2.2.2; omega)
          refine ⟨?_, xset_U hU hc.2.2.1⟩
          simp only [x_aast, hg2, hv2]
          rw [if_pos hc, xset_hid hc.2.2.1]
        · cases h
      · cases h
    · cases h
  · cases h
theorem x_newarr_hid (hU : ah[73]? = some xUn) {t : ArrayType} {st st' : List Value} {ah' : List xO} (h : x_newarr t ah st = some (ah', st')) : x_newarr t (ah.set 73 o) st = some (ah'.set 73 o, st') ∧ ah'[73]? = some xUn := by
  unfold x_newarr at h ⊢
  split at h
  · (repeat' split at h) <;> first | cases h | skip
    all_goals exact ⟨by rw [xpush_hid hU, List.length_set, if_pos (by assumption)], xpush_U hU _⟩
  · cases h
theorem x_anew_hid (hU : ah[73]? = some xUn) {an : Nat → Bool} {j : Nat} {st st' : List Value} {ah' : List xO} (h : x_anew an j ah st = some (ah', st')) : x_anew an j (ah.set 73 o) st = some (ah'.set 73 o, st') ∧ ah'[73]? = some xUn := by
  unfold x_anew at h ⊢
  split at h
  · (repeat' split at h) <;> first | cases h | skip
    all_goals exact ⟨by rw [xpush_hid hU, List.length_set, if_pos (by assumption)], xpush_U hU _⟩
  · cases h
theorem x_new_hid (hU : ah[73]? = some xUn) {tn : Nat → Option Nat} {fd : Nat → List Value} {j : Nat} {st st' : List Value} {ah' : List xO} (h : x_new tn fd j ah st = some (ah', st')) : x_new tn fd j (ah.set 73 o) st = some (ah'.set 73 o, st') ∧ ah'[73]? = some xUn := by
  unfold x_new at h ⊢
  split at h
  · (repeat' split at h) <;> first | cases h | skip
    all_goals exact ⟨by rw [xpush_hid hU, List.length_set], xpush_U hU _⟩
  · cases h
theorem xcls_hid (hU : ah[73]? = some xUn) {a c : Nat} (h : xcls ah a = some c) : xcls (ah.set 73 o) a = some c := by
  unfold xcls at h
  split at h
  · rename_i c' fs hg
    have hg2 := xget_hid (o := o) hU hg (by intro z; cases z; cases h)
    unfold xcls
    rw [hg2]
    exact h
  · cases h
theorem xrecv_hid (hU : ah[73]? = some xUn) {kd y : Nat} {vs : List Value} (h : xrecv P kd y ah vs = true) : xrecv P kd y (ah.set 73 o) vs = true := by
  unfold xrecv at h ⊢
  split at h
  · exact h
  · simp only [Bool.and_eq_true] at h ⊢
    refine ⟨h.1, ?_⟩
    have h2 := h.2
    split at h2
    · rename_i a r
      exact decide_eq_true (xcls_hid hU (of_decide_eq_true h2))
    · cases h2
  · exact h
theorem xr1_hid {b : Bool} {pc : Nat} {L : List Value} {f g : Option (List Value)} {z : xS4} (h : xr1 b pc L ah f = some z) (hU : ah[73]? = some xUn) (hf : ∀ st, f = some st → g = some st) : xr1 b pc L (ah.set 73 o) g = some (z.1, z.2.1, z.2.2.1, z.2.2.2.set 73 o) ∧ z.2.2.2[73]? = some xUn := by
  obtain ⟨hb, st, h1, rfl⟩ := xr1_ok h
  refine ⟨?_, hU⟩
  rw [hf st h1, hb]
  rfl
theorem xr2_hid {b : Bool} {pc : Nat} {L : List Value} {f g : Option (List xO × List Value)} {z : xS4} (h : xr2 b pc L f = some z) (hf : ∀ ah' st, f = some (ah', st) → g = some (ah'.set 73 o, st) ∧ ah'[73]? = some xUn) : xr2 b pc L g = some (z.1, z.2.1, z.2.2.1, z.2.2.2.set 73 o) ∧ z.2.2.2[73]? = some xUn := by
  obtain ⟨hb, ah', st, h1, rfl⟩ := xr2_ok h
  obtain ⟨h2, h3⟩ := hf ah' st h1
  refine ⟨?_, h3⟩
  rw [h2, hb]
  rfl
theorem xr3_hid {b : Bool} {L : List Value} {f : Option (Nat × List Value)} {z : xS4} (h : xr3 L ah b f = some z) (hU : ah[73]? = some xUn) : xr3 L (ah.set 73 o) b f = some (z.1, z.2.1, z.2.2.1, z.2.2.2.set 73 o) ∧ z.2.2.2[73]? = some xUn := by
  obtain ⟨hb, pc, st, h1, rfl⟩ := xr3_ok h
  refine ⟨?_, hU⟩
  rw [h1, hb]
  rfl
theorem xr4_hid {pc n : Nat} {f : Option (Nat × List Value × List Value)} {z : xS4} (h : xr4 pc n ah f = some z) (hU : ah[73]? = some xUn) : xr4 pc n (ah.set 73 o) f = some (z.1, z.2.1, z.2.2.1, z.2.2.2.set 73 o) ∧ z.2.2.2[73]? = some xUn := by
  obtain ⟨L, st, h1, rfl⟩ := xr4_ok h
  refine ⟨?_, hU⟩
  rw [h1]
  unfold xr4
  simp only [if_true]
theorem xstep_hid (hkd : xP_kd P = 100) (hU : ah[73]? = some xUn) {k pc n : Nat} {L st : List Value} {i : Instr} {z : xS4} (h : xstep P 75 k pc L st ah i n = some z) : xstep P 75 k pc L st (ah.set 73 o) i n = some (z.1, z.2.1, z.2.2.1, z.2.2.2.set 73 o) ∧ z.2.2.2[73]? = some xUn := by
  unfold xstep at h ⊢
  split at h
  · exact xr1_hid h hU fun _ e => x_getf_hid hU e
  · exact xr2_hid h fun _ _ e => x_putf_hid hU e
  · exact xr1_hid h hU fun _ e => e
  · exact xr1_hid h hU fun _ e => x_ald_hid hU e
  · exact xr1_hid h hU fun _ e => x_bald_hid hU e
  · exact xr1_hid h hU fun _ e => x_lald_hid hU e
  · exact xr1_hid h hU fun _ e => x_aald_hid hU e
  · exact xr1_hid h hU fun _ e => x_alen_hid hU e
  · exact xr2_hid h fun _ _ e => x_iast_hid hU e
  · exact xr2_hid h fun _ _ e => x_bast_hid hU e
  · exact xr2_hid h fun _ _ e => x_last_hid hU e
  · exact xr2_hid h fun _ _ e => x_aast_hid hU hkd e
  · exact xr2_hid h fun _ _ e => x_newarr_hid hU e
  · exact xr2_hid h fun _ _ e => x_anew_hid hU e
  · exact xr2_hid h fun _ _ e => x_new_hid hU e
  · exact xr3_hid h hU
  · exact xr3_hid h hU
  · exact xr3_hid h hU
  · exact xr3_hid h hU
  · exact xr3_hid h hU
  · exact xr3_hid h hU
  · exact xr3_hid h hU
  · exact xr3_hid h hU
  · exact xr4_hid h hU
theorem xpure_hid (hU : ah[73]? = some xUn) {k ic : Nat} : ∀ {f pc : Nat} {L st : List Value} {z : Nat × List Value × List Value}, xpure P k ic f pc L st ah = some z → xpure P k ic f pc L st (ah.set 73 o) = some z
  | 0, _, _, _, _, h => by cases h
  | f + 1, pc, L, st, z, h => by
    unfold xpure at h ⊢
    split at h
    · cases h
    · rename_i i n hc
      try simp only [hc]
      split at h
      · exact h
      · split at h
        · rename_i pc' L' st' ah' h1
          have h9 := (xr1_hid (o := o) h1 hU fun _ e => x_getf_hid (o := o) hU e).1
          simp only [h9]
          exact xpure_hid hU h
        · cases h
      · split at h
        · rename_i pc' L' st' ah' h1
          have h9 := (xr1_hid (o := o) h1 hU fun _ e => x_ald_hid (o := o) hU e).1
          simp only [h9]
          exact xpure_hid hU h
        · cases h
      · split at h
        · rename_i pc' L' st' ah' h1
          have h9 := (xr4_hid (o := o) h1 hU).1
          simp only [h9]
          exact xpure_hid hU h
        · cases h
theorem xrun_hid (hkd : xP_kd P = 100) : ∀ {f d k pc : Nat} {L st : List Value} {ah : List xO} {r : Option Value ⊕ Nat} {ah1 : List xO}, xrun P 75 f d k pc L st ah = some (r, ah1) → ah[73]? = some xUn → xrun P 75 f d k pc L st (ah.set 73 o) = some (r, ah1.set 73 o) ∧ ah1[73]? = some xUn
  | 0, d, k, pc, L, st, ah, r, ah1, h, _ => by cases h
  | f + 1, d, k, pc, L, st, ah, r, ah9, h, hU => by
    unfold xrun at h
    unfold xrun
    split at h
    · cases h
    · rename_i i n hc
      try simp only [hc]
      split at h
      · rename_i kd j hi
        try simp only [hi]
        split at h
        · rename_i hn
          try rw [if_pos hn]
          split at h
          · rename_i y na hca
            try simp only [hca]
            split at h
            · cases h
            · rename_i d1
              try simp only
              split at h
              · rename_i vs rr ht
                try simp only [ht]
                split at h
                · rename_i hg
                  try rw [if_pos ⟨xrecv_hid hU hg.1, hg.2⟩]
                  split at h
                  · rename_i v ah1 hr
                    obtain ⟨h1, hU1⟩ := xrun_hid hkd hr hU
                    try simp only [h1]
                    exact xrun_hid hkd h hU1
                  · rename_i a ah1 hr
                    obtain ⟨h1, hU1⟩ := xrun_hid hkd hr hU
                    try simp only [h1]
                    split at h
                    · rename_i c hcl
                      try simp only [xcls_hid hU1 hcl]
                      split at h
                      · rename_i hh hhn
                        try simp only [hhn]
                        exact xrun_hid hkd h hU1
                      · rename_i hhn
                        try simp only [hhn]
                        cases h
                        exact ⟨rfl, hU1⟩
                      · cases h
                    · cases h
                  · cases h
                · cases h
              · cases h
          · rename_i hca
            try simp only [hca]
            split at h
            · split at h
              · rename_i st' ho
                try simp only [ho]
                exact xrun_hid hkd h hU
              · cases h
            · split at h
              · rename_i st' ho
                try simp only [ho]
                exact xrun_hid hkd h hU
              · cases h
            · cases h
        · cases h
      · rename_i hi
        try simp only [hi]
        split at h
        · rename_i v hr
          try simp only [hr]
          cases h
          exact ⟨rfl, hU⟩
        · rename_i hr
          try simp only [hr]
          split at h
          · split at h
            · rename_i a rest _
              split at h
              · rename_i hn
                try simp only [hn, if_true]
                split at h
                · rename_i c hcl
                  try simp only [xcls_hid hU hcl]
                  split at h
                  · rename_i hh hhn
                    try simp only [hhn]
                    exact xrun_hid hkd h hU
                  · rename_i hhn
                    try simp only [hhn]
                    cases h
                    exact ⟨rfl, hU⟩
                  · cases h
                · cases h
              · cases h
            · cases h
          · rename_i j _ _
            split at h
            · rename_i ce hte
              try simp only [hte]
              split at h
              · rename_i hcn
                cases h
                rw [if_pos hcn, xpush_hid hU, List.length_set]
                exact ⟨rfl, xpush_U hU _⟩
              · cases h
            · rename_i hte
              try simp only [hte]
              split at h
              · rename_i ce ic y hmk
                try simp only [hmk]
                split at h
                · rename_i hn
                  try rw [if_pos hn]
                  split at h
                  · cases h
                  · rename_i d1
                    try simp only
                    have hU1 := xpush_U hU (.inr (ce, xP_fd P ce))
                    rw [xpush_hid hU, List.length_set]
                    split at h
                    · rename_i pc' L' st' hp
                      try simp only [xpure_hid (o := o) hU1 hp]
                      split at h
                      · rename_i a b rr htw
                        try simp only [htw]
                        split at h
                        · rename_i ah2 hr2
                          obtain ⟨h1, hU2⟩ := xrun_hid hkd hr2 hU1
                          try simp only [h1]
                          exact xrun_hid hkd h hU2
                        · cases h
                      · cases h
                    · cases h
                · cases h
              · rename_i hmk
                try simp only [hmk]
                split at h
                · rename_i pc' L' st' ah1 hs
                  obtain ⟨h1, hU1⟩ := xstep_hid (o := o) hkd hU hs
                  try simp only [h1]
                  exact xrun_hid hkd h hU1
                · cases h
          · split at h
            · rename_i pc' L' st' ah1 hs
              obtain ⟨h1, hU1⟩ := xstep_hid (o := o) hkd hU hs
              try simp only [h1]
              exact xrun_hid hkd h hU1
            · cases h
theorem xstep_low {k pc n : Nat} {L st : List Value} {i : Instr} {z : xS4} (h : xstep P 75 k pc L st ah i n = some z) (hl : 75 ≤ ah.length) : z.2.2.2.take 75 = ah.take 75 ∧ 75 ≤ z.2.2.2.length := by
  have same : ∀ {ah' : List xO}, ah' = ah → ah'.take 75 = ah.take 75 ∧ 75 ≤ ah'.length := fun h => by rw [h]; exact ⟨rfl, hl⟩
  have push : ∀ (x : xO), (ah ++ [x]).take 75 = ah.take 75 ∧ 75 ≤ (ah ++ [x]).length := fun x => ⟨List.take_append_of_le_length hl, by rw [List.length_append]; omega⟩
  have set : ∀ {a : Nat} (x : xO), 75 ≤ a → (ah.set a x).take 75 = ah.take 75 ∧ 75 ≤ (ah.set a x).length := fun x ha => ⟨List.take_set_of_le ha, by rw [List.length_set]; exact hl⟩
  unfold xstep at h
  split at h
  all_goals first
    | (obtain ⟨-, st', -, rfl⟩ := xr1_ok h; exact same rfl)
    | (obtain ⟨-, pc', st', -, rfl⟩ := xr3_ok h; exact same rfl)
    | (obtain ⟨L', st', -, rfl⟩ := xr4_ok h; exact same rfl)
    | skip
  · obtain ⟨-, ah', st', h1, rfl⟩ := xr2_ok h
    unfold x_putf at h1
    (repeat' split at h1) <;> first | cases h1 | skip
    rename_i hc; exact set _ hc.2.2.1
  · obtain ⟨-, ah', st', h1, rfl⟩ := xr2_ok h
    unfold x_iast at h1
    (repeat' split at h1) <;> first | cases h1 | skip
    rename_i hc; exact set _ hc.2.2
  · obtain ⟨-, ah', st', h1, rfl⟩ := xr2_ok h
    unfold x_bast at h1
    (repeat' split at h1) <;> first | cases h1 | skip
    all_goals (first | (rename_i hc _; exact set _ hc.2) | (rename_i hc _ _; exact set _ hc.2))
  · obtain ⟨-, ah', st', h1, rfl⟩ := xr2_ok h
    unfold x_last at h1
    (repeat' split at h1) <;> first | cases h1 | skip
    rename_i hc; exact set _ hc.2.2
  · obtain ⟨-, ah', st', h1, rfl⟩ := xr2_ok h
    unfold x_aast at h1
    (repeat' split at h1) <;> first | cases h1 | skip
    rename_i hc; exact set _ hc.2.2.1
  · obtain ⟨-, ah', st', h1, rfl⟩ := xr2_ok h
    unfold x_newarr at h1
    (repeat' split at h1) <;> first | cases h1 | skip
    all_goals exact push _
  · obtain ⟨-, ah', st', h1, rfl⟩ := xr2_ok h
    unfold x_anew at h1
    (repeat' split at h1) <;> first | cases h1 | skip
    exact push _
  · obtain ⟨-, ah', st', h1, rfl⟩ := xr2_ok h
    unfold x_new at h1
    (repeat' split at h1) <;> first | cases h1 | skip
    exact push _
/-- what was there before stays -/
theorem xrun_low : ∀ {f d k pc : Nat} {L st : List Value} {ah : List xO} {r : Option Value ⊕ Nat} {ah1 : List xO}, xrun P 75 f d k pc L st ah = some (r, ah1) → 75 ≤ ah.length → ah1.take 75 = ah.take 75 ∧ 75 ≤ ah1.length
  | 0, d, k, pc, L, st, ah, r, ah1, h, _ => by cases h
  | f + 1, d, k, pc, L, st, ah, r, ah9, h, hU => by
    have push : ∀ (x : xO), (ah ++ [x]).take 75 = ah.take 75 ∧ 75 ≤ (ah ++ [x]).length := fun x => ⟨List.take_append_of_le_length hU, by rw [List.length_append]; omega⟩
    unfold xrun at h
    split at h
    · cases h
    · rename_i i n hc
      split at h
      · rename_i kd j hi
        split at h
        · rename_i hn
          split at h
          · rename_i y na hca
            split at h
            · cases h
            · rename_i d1
              split at h
              · rename_i vs rr ht
                split at h
                · rename_i hg
                  split at h
                  · rename_i v ah1 hr
                    obtain ⟨h1, hU1⟩ := xrun_low hr hU
                    have h2 := xrun_low h hU1
                    exact ⟨h2.1.trans h1, h2.2⟩
                  · rename_i a ah1 hr
                    obtain ⟨h1, hU1⟩ := xrun_low hr hU
                    split at h
                    · rename_i c hcl
                      split at h
                      · have h2 := xrun_low h hU1
                        exact ⟨h2.1.trans h1, h2.2⟩
                      · cases h
                        exact ⟨h1, hU1⟩
                      · cases h
                    · cases h
                  · cases h
                · cases h
              · cases h
          · rename_i hca
            split at h
            · split at h
              · exact xrun_low h hU
              · cases h
            · split at h
              · exact xrun_low h hU
              · cases h
            · cases h
        · cases h
      · rename_i hi
        split at h
        · cases h
          exact ⟨rfl, hU⟩
        · rename_i hr
          split at h
          · split at h
            · split at h
              · split at h
                · split at h
                  · exact xrun_low h hU
                  · cases h
                    exact ⟨rfl, hU⟩
                  · cases h
                · cases h
              · cases h
            · cases h
          · rename_i j _ _
            split at h
            · split at h
              · cases h
                exact push _
              · cases h
            · split at h
              · split at h
                · split at h
                  · cases h
                  · rename_i ce ic y _ _ _ _
                    split at h
                    · split at h
                      · split at h
                        · rename_i ah2 hr2
                          have h1 := push (.inr (ce, xP_fd P ce))
                          obtain ⟨h2, hU2⟩ := xrun_low hr2 h1.2
                          have h3 := xrun_low h hU2
                          exact ⟨h3.1.trans (h2.trans h1.1), h3.2⟩
                        · cases h
                      · cases h
                    · cases h
                · cases h
              · split at h
                · rename_i pc' L' st' ah1 hs
                  obtain ⟨h1, hU1⟩ := xstep_low hs hU
                  have h2 := xrun_low h hU1
                  exact ⟨h2.1.trans h1, h2.2⟩
                · cases h
          · split at h
            · rename_i pc' L' st' ah1 hs
              obtain ⟨h1, hU1⟩ := xstep_low hs hU
              have h2 := xrun_low h hU1
              exact ⟨h2.1.trans h1, h2.2⟩
            · cases h
end YL
