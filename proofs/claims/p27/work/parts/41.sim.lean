/-! WHAT A RUN DOES ON A HEAP OF WHICH LESS IS KNOWN (hidden things, rows told in their range alone) IT DOES ON THE HEAP ITSELF -/
section YSM
def xUn : xO := .inr (199, [])
/-- fields read, without the hidden one: class 8, field 1 -/
def xhf (b : Bool) (fl : Nat → Option (Nat × Nat)) : Nat → Option (Nat × Nat) := fun j => match fl j with
  | some (c, k) => (match b && (Nat.beq c 8 && Nat.beq k 1) with | true => none | false => some (c, k))
  | none => none
theorem xhf_ok {b : Bool} {fl : Nat → Option (Nat × Nat)} {j c k : Nat} (h : xhf b fl j = some (c, k)) : fl j = some (c, k) ∧ (b = true → ¬ (c = 8 ∧ k = 1)) := by
  unfold xhf at h
  split at h
  · rename_i c' k' hf
    split at h
    · cases h
    · rename_i hb
      cases h
      refine ⟨hf, ?_⟩
      rintro rfl ⟨rfl, rfl⟩
      cases hb
  · cases h
def xhp (b : Bool) (fl : Nat → Option (Nat × Nat × Bool)) : Nat → Option (Nat × Nat × Bool) := fun j => match fl j with
  | some (c, k, f) => (match b && (Nat.beq c 8 && Nat.beq k 1) with | true => none | false => some (c, k, f))
  | none => none
theorem xhp_ok {b : Bool} {fl : Nat → Option (Nat × Nat × Bool)} {j c k : Nat} {f : Bool} (h : xhp b fl j = some (c, k, f)) : fl j = some (c, k, f) ∧ (b = true → ¬ (c = 8 ∧ k = 1)) := by
  unfold xhp at h
  split at h
  · rename_i c' k' f' hf
    split at h
    · cases h
    · rename_i hb
      cases h
      refine ⟨hf, ?_⟩
      rintro rfl ⟨rfl, rfl⟩
      cases hb
  · cases h
/-- a program that can neither read nor write the hidden field, and knows the statics u alone -/
def xHd (b : Bool) (u : Nat → Nat → Option Value) (P : xPg) : xPg := (P.1, P.2.1, fun p => xhf b (P.2.2.1 p), fun p => xhp b (P.2.2.2.1 p), u, P.2.2.2.2.2)
theorem xHd_code (b : Bool) (u : Nat → Nat → Option Value) (P : xPg) : xP_code (xHd b u P) = xP_code P := rfl
theorem xHd_pool (b : Bool) (u : Nat → Nat → Option Value) (P : xPg) : xP_pool (xHd b u P) = xP_pool P := rfl
theorem xHd_oi (b : Bool) (u : Nat → Nat → Option Value) (P : xPg) : xP_oi (xHd b u P) = xP_oi P := rfl
theorem xHd_hn (b : Bool) (u : Nat → Nat → Option Value) (P : xPg) : xP_hn (xHd b u P) = xP_hn P := rfl
theorem xHd_te (b : Bool) (u : Nat → Nat → Option Value) (P : xPg) : xP_te (xHd b u P) = xP_te P := rfl
theorem xHd_ma (b : Bool) (u : Nat → Nat → Option Value) (P : xPg) : xP_ma (xHd b u P) = xP_ma P := rfl
theorem xHd_mk (b : Bool) (u : Nat → Nat → Option Value) (P : xPg) : xP_mk (xHd b u P) = xP_mk P := rfl
theorem xHd_fd (b : Bool) (u : Nat → Nat → Option Value) (P : xPg) : xP_fd (xHd b u P) = xP_fd P := rfl
theorem xHd_ml (b : Bool) (u : Nat → Nat → Option Value) (P : xPg) : xP_ml (xHd b u P) = xP_ml P := rfl
theorem xHd_rt (b : Bool) (u : Nat → Nat → Option Value) (P : xPg) : xP_rt (xHd b u P) = xP_rt P := rfl
theorem xHd_caj (b : Bool) (u : Nat → Nat → Option Value) (P : xPg) : xcaj (xHd b u P) = xcaj P := rfl
theorem xHd_recv (b : Bool) (u : Nat → Nat → Option Value) (P : xPg) : xrecv (xHd b u P) = xrecv P := rfl
def xLike (b : Bool) (o o' : xO) : Prop := o = xUn ∨ o = o' ∨ (∃ t n f f', o = .inl (t, n, .inl f) ∧ o' = .inl (t, n, .inl f') ∧ ∀ i, i < n → f i = f' i) ∨ (∃ t n f f', o = .inl (t, n, .inr (.inl f)) ∧ o' = .inl (t, n, .inr (.inl f')) ∧ ∀ i, i < n → f i = f' i) ∨ (∃ t n f f', o = .inl (t, n, .inr (.inr (.inr (.inr f)))) ∧ o' = .inl (t, n, .inr (.inr (.inr (.inr f')))) ∧ ∀ i, i < n → f i = f' i) ∨ (b = true ∧ ∃ fs fs' : List Value, o = .inr (8, fs) ∧ o' = .inr (8, fs') ∧ fs'.length = fs.length ∧ ∀ i, i ≠ 1 → fs'[i]? = fs[i]?)
/-- R: what the hidden things are -/
def xSim (b : Bool) (hv : Value) (R : Nat → Option xO) (ah ah' : List xO) : Prop := ah.length = ah'.length ∧ (∀ i, ah.length ≤ i → R i = none) ∧ (∀ i o, ah[i]? = some o → ∃ o', ah'[i]? = some o' ∧ xLike b o o' ∧ (o = xUn → ∀ z, R i = some z → o' = z)) ∧ (b = true → ∃ fs', ah'[82]? = some (.inr (8, fs')) ∧ fs'[1]? = some hv)
variable {b : Bool} {hv : Value} {u : Nat → Nat → Option Value} {P : xPg} {E : Nat} {R : Nat → Option xO} {ah ah' : List xO}
theorem xs_int (h : xSim b hv R ah ah') {a t n : Nat} {f : Nat → Int32} (hg : ah[a]? = some (.inl (t, n, .inl f))) : ∃ f', ah'[a]? = some (.inl (t, n, .inl f')) ∧ ∀ i, i < n → f i = f' i := by
  obtain ⟨o', h1, h2, -⟩ := h.2.2.1 _ _ hg
  rcases h2 with e | e | ⟨t', n', f0, f', e, e', hh⟩ | ⟨t', n', f0, f', e, e', hh⟩ | ⟨t', n', f0, f', e, e', hh⟩ | ⟨hb, gs, gs', e, e', hh⟩
  · cases e
  · subst e; exact ⟨f, h1, fun _ _ => rfl⟩
  · cases e; subst e'; exact ⟨f', h1, hh⟩
  · cases e
  · cases e
  · cases e
theorem xs_long (h : xSim b hv R ah ah') {a t n : Nat} {f : Nat → Int64} (hg : ah[a]? = some (.inl (t, n, .inr (.inl f)))) : ∃ f', ah'[a]? = some (.inl (t, n, .inr (.inl f'))) ∧ ∀ i, i < n → f i = f' i := by
  obtain ⟨o', h1, h2, -⟩ := h.2.2.1 _ _ hg
  rcases h2 with e | e | ⟨t', n', f0, f', e, e', hh⟩ | ⟨t', n', f0, f', e, e', hh⟩ | ⟨t', n', f0, f', e, e', hh⟩ | ⟨hb, gs, gs', e, e', hh⟩
  · cases e
  · subst e; exact ⟨f, h1, fun _ _ => rfl⟩
  · cases e
  · cases e; subst e'; exact ⟨f', h1, hh⟩
  · cases e
  · cases e
theorem xs_ref (h : xSim b hv R ah ah') {a t n : Nat} {f : Nat → Option Nat} (hg : ah[a]? = some (.inl (t, n, .inr (.inr (.inr (.inr f)))))) : ∃ f', ah'[a]? = some (.inl (t, n, .inr (.inr (.inr (.inr f'))))) ∧ ∀ i, i < n → f i = f' i := by
  obtain ⟨o', h1, h2, -⟩ := h.2.2.1 _ _ hg
  rcases h2 with e | e | ⟨t', n', f0, f', e, e', hh⟩ | ⟨t', n', f0, f', e, e', hh⟩ | ⟨t', n', f0, f', e, e', hh⟩ | ⟨hb, gs, gs', e, e', hh⟩
  · cases e
  · subst e; exact ⟨f, h1, fun _ _ => rfl⟩
  · cases e
  · cases e
  · cases e; subst e'; exact ⟨f', h1, hh⟩
  · cases e
theorem xs_obj (h : xSim b hv R ah ah') {a c : Nat} {fs : List Value} (hg : ah[a]? = some (.inr (c, fs))) (hn : ¬ (c = 199 ∧ fs = [])) : ∃ fs', ah'[a]? = some (.inr (c, fs')) ∧ fs'.length = fs.length ∧ ∀ i, ¬ (b = true ∧ c = 8 ∧ i = 1) → fs'[i]? = fs[i]? := by
  obtain ⟨o', h1, h2, -⟩ := h.2.2.1 _ _ hg
  rcases h2 with e | e | ⟨t', n', f0, f', e, e', hh⟩ | ⟨t', n', f0, f', e, e', hh⟩ | ⟨t', n', f0, f', e, e', hh⟩ | ⟨hb, gs, gs', e, e', hh⟩
  · cases e; exact (hn ⟨rfl, rfl⟩).elim
  · subst e; exact ⟨fs, h1, rfl, fun _ _ => rfl⟩
  · cases e
  · cases e
  · cases e
  · cases e; subst e'; exact ⟨gs', h1, hh.1, fun i hi => hh.2 i fun e => hi ⟨hb, rfl, e⟩⟩
theorem xs_row (h : xSim b hv R ah ah') {a t : Nat} {x : vp_A} (hg : ah[a]? = some (.inl (t, x))) : ∃ x', ah'[a]? = some (.inl (t, x')) ∧ x'.1 = x.1 := by
  obtain ⟨o', h1, h2, -⟩ := h.2.2.1 _ _ hg
  rcases h2 with e | e | ⟨t', n', f0, f', e, e', hh⟩ | ⟨t', n', f0, f', e, e', hh⟩ | ⟨t', n', f0, f', e, e', hh⟩ | ⟨hb, gs, gs', e, e', hh⟩
  · cases e
  · subst e; exact ⟨x, h1, rfl⟩
  · cases e; subst e'; exact ⟨_, h1, rfl⟩
  · cases e; subst e'; exact ⟨_, h1, rfl⟩
  · cases e; subst e'; exact ⟨_, h1, rfl⟩
  · cases e
theorem xs_set (h : xSim b hv R ah ah') (a : Nat) {o o' : xO} (hl : xLike b o o') (hn : o ≠ xUn) (h82 : b = true → a = 82 → ∃ fs', o' = .inr (8, fs') ∧ fs'[1]? = some hv) : xSim b hv R (ah.set a o) (ah'.set a o') := by
  refine ⟨by rw [List.length_set, List.length_set]; exact h.1, fun i hi => h.2.1 i (by rw [List.length_set] at hi; exact hi), fun i z hz => ?_, fun hb => ?_⟩
  · by_cases hi : i = a
    · subst hi
      have hlt : i < ah.length := by
        have := (List.getElem?_eq_some_iff.mp hz).1
        rwa [List.length_set] at this
      rw [List.getElem?_set_self hlt] at hz
      cases hz
      exact ⟨o', by rw [List.getElem?_set_self (by rw [← h.1]; exact hlt)], hl, fun e => (hn e).elim⟩
    · rw [List.getElem?_set_ne (Ne.symm hi)] at hz
      rw [List.getElem?_set_ne (Ne.symm hi)]
      exact h.2.2.1 i z hz
  · obtain ⟨fs', g1, g2⟩ := h.2.2.2 hb
    by_cases hi : a = 82
    · obtain ⟨fs2, k1, k2⟩ := h82 hb hi
      have hlt : 82 < ah'.length := (List.getElem?_eq_some_iff.mp g1).1
      exact ⟨fs2, by rw [hi, List.getElem?_set_self hlt, k1], k2⟩
    · exact ⟨fs', by rw [List.getElem?_set_ne hi]; exact g1, g2⟩
theorem xs_push (h : xSim b hv R ah ah') {o o' : xO} (hl : xLike b o o') : xSim b hv R (ah ++ [o]) (ah' ++ [o']) := by
  refine ⟨by rw [List.length_append, List.length_append, h.1]; rfl, fun i hi => h.2.1 i (by rw [List.length_append] at hi; omega), fun i z hz => ?_, fun hb => ?_⟩
  · by_cases hi : i < ah.length
    · rw [List.getElem?_append_left hi] at hz
      rw [List.getElem?_append_left (by rw [← h.1]; exact hi)]
      exact h.2.2.1 i z hz
    · rw [List.getElem?_append_right (by omega)] at hz
      rw [List.getElem?_append_right (by rw [← h.1]; omega), ← h.1]
      have hlt : i - ah.length < 1 := (List.getElem?_eq_some_iff.mp hz).1
      rw [show i - ah.length = 0 by omega] at hz ⊢
      cases hz
      exact ⟨o', rfl, hl, fun _ w hw => by rw [h.2.1 i (by omega)] at hw; cases hw⟩
  · obtain ⟨fs', g1, g2⟩ := h.2.2.2 hb
    exact ⟨fs', by rw [List.getElem?_append_left (List.getElem?_eq_some_iff.mp g1).1]; exact g1, g2⟩
/-- a row does not stand at the object's place -/
theorem xs_no82 (h : xSim b hv R ah ah') {a : Nat} {x : Nat × vp_A} (hg : ah'[a]? = some (.inl x)) {p : Prop} : b = true → a = 82 → p := by
  intro hb ha
  obtain ⟨fs', g1, -⟩ := h.2.2.2 hb
  rw [ha, g1] at hg
  cases hg
theorem xlike_rf (o : xO) : xLike b o o := Or.inr (Or.inl rfl)
theorem xin_lt2 {i : Int32} {n : Nat} (h : xin i n = true) : i.toNatClampNeg < n := xin_lt h
theorem xs_getf (h : xSim b hv R ah ah') {fl : Nat → Option (Nat × Nat)} {j : Nat} {st st' : List Value} (hx : x_getf (xhf b fl) ah j st = some st') : x_getf fl ah' j st = some st' := by
  unfold x_getf at hx
  split at hx
  · split at hx
    · rename_i hf
      split at hx
      · rename_i hg
        split at hx
        · rename_i hc
          split at hx
          · rename_i hv
            obtain ⟨fs', hg2, -, hh⟩ := xs_obj h hg (by rintro ⟨-, rfl⟩; simp at hv)
            obtain ⟨hf1, hf2⟩ := xhf_ok hf
            have hv2 := (hh _ (by rw [hc]; rintro ⟨z1, z2⟩; exact hf2 z1 z2)).trans hv
            simp only [x_getf, hf1, hg2, hc, if_true, hv2]
            exact hx
          · cases hx
        · cases hx
      · cases hx
    · cases hx
  · cases hx
theorem xs_ald (h : xSim b hv R ah ah') {T : Nat} {st st' : List Value} (hx : x_ald T ah st = some st') : x_ald T ah' st = some st' := by
  unfold x_ald at hx
  split at hx
  · split at hx
    · rename_i t n f hg
      split at hx
      · rename_i hc
        obtain ⟨f', hg2, hh⟩ := xs_int h hg
        simp only [x_ald, hg2]
        rw [if_pos hc, ← hh _ (xin_lt hc.2)]
        exact hx
      · cases hx
    · cases hx
  · cases hx
theorem xs_bald (h : xSim b hv R ah ah') {st st' : List Value} (hx : x_bald ah st = some st') : x_bald ah' st = some st' := by
  unfold x_bald at hx
  split at hx
  · rename_i z hz
    unfold x_bald
    rw [xs_ald h hz]
    exact hx
  · rename_i hz
    have h3 := xs_ald h hx
    have hn : x_ald 2 ah' st = none := by
      unfold x_ald at hx
      split at hx
      · split at hx
        · rename_i t n f hg
          split at hx
          · rename_i hc
            obtain ⟨f', hg2, hh⟩ := xs_int h hg
            simp only [x_ald, hg2]
            rw [if_neg]
            rintro ⟨h1, -⟩
            have := hc.1
            omega
          · cases hx
        · cases hx
      · cases hx
    unfold x_bald
    rw [hn]
    exact h3
theorem xs_lald (h : xSim b hv R ah ah') {st st' : List Value} (hx : x_lald ah st = some st') : x_lald ah' st = some st' := by
  unfold x_lald at hx
  split at hx
  · split at hx
    · rename_i t n f hg
      split at hx
      · rename_i hc
        obtain ⟨f', hg2, hh⟩ := xs_long h hg
        simp only [x_lald, hg2]
        rw [if_pos hc, ← hh _ (xin_lt hc.2)]
        exact hx
      · cases hx
    · cases hx
  · cases hx
theorem xs_aald (h : xSim b hv R ah ah') {st st' : List Value} (hx : x_aald ah st = some st') : x_aald ah' st = some st' := by
  unfold x_aald at hx
  split at hx
  · split at hx
    · rename_i t n f hg
      split at hx
      · rename_i hc
        obtain ⟨f', hg2, hh⟩ := xs_ref h hg
        simp only [x_aald, hg2]
        rw [if_pos hc, ← hh _ (xin_lt hc.2)]
        exact hx
      · cases hx
    · cases hx
  · cases hx
theorem xs_alen (h : xSim b hv R ah ah') {st st' : List Value} (hx : x_alen ah st = some st') : x_alen ah' st = some st' := by
  unfold x_alen at hx
  split at hx
  · split at hx
    · rename_i t x hg
      obtain ⟨x', hg2, hh⟩ := xs_row h hg
      simp only [x_alen, hg2, hh]
      exact hx
    · cases hx
  · cases hx
theorem xlike_put {c k : Nat} {v : Value} {fs fs' : List Value} (hlen : fs'.length = fs.length) (hh : ∀ i, ¬ (b = true ∧ c = 8 ∧ i = 1) → fs'[i]? = fs[i]?) : xLike b (.inr (c, fs.set k v)) (.inr (c, fs'.set k v)) := by
  have e : ∀ i, ¬ (b = true ∧ c = 8 ∧ i = 1) → (fs'.set k v)[i]? = (fs.set k v)[i]? := fun i hi => by
    rw [List.getElem?_set, List.getElem?_set, hlen, hh i hi]
  by_cases hc : b = true ∧ c = 8
  · obtain ⟨hb, rfl⟩ := hc
    exact Or.inr (Or.inr (Or.inr (Or.inr (Or.inr ⟨hb, _, _, rfl, rfl, by rw [List.length_set, List.length_set, hlen], fun i hi => e i fun z => hi z.2.2⟩))))
  · refine Or.inr (Or.inl ?_)
    have : fs.set k v = fs'.set k v := List.ext_getElem? fun i => (e i fun z => hc ⟨z.1, z.2.1⟩).symm
    rw [this]
theorem xs_putf (h : xSim b hv R ah ah') {fl : Nat → Option (Nat × Nat × Bool)} {ft : Nat → Nat → FieldType} {ini : Bool} {j : Nat} {st st' : List Value} {ah1 : List xO} (hx : x_putf E (xhp b fl) ft ini ah j st = some (ah1, st')) : ∃ ah2, x_putf E fl ft ini ah' j st = some (ah2, st') ∧ xSim b hv R ah1 ah2 := by
  unfold x_putf at hx
  split at hx
  · rename_i v a r
    split at hx
    · rename_i ci k fin hf
      split at hx
      · rename_i c fs hg
        split at hx
        · rename_i hc
          cases hx
          obtain ⟨hf1, hf2⟩ := xhp_ok hf
          obtain ⟨fs', hg2, hlen, hh⟩ := xs_obj h hg (by rintro ⟨-, rfl⟩; exact absurd hc.2.1 (by simp))
          refine ⟨_, by simp only [x_putf, hf1, hg2]; rw [if_pos (by rw [hlen]; exact hc)], xs_set h _ (xlike_put hlen hh) ?_ ?_⟩
          · intro z
            injection z with z
            injection z with z1 z2
            have hl := hc.2.1
            have := congrArg List.length z2
            rw [List.length_set] at this
            simp at this
            rw [this] at hl
            simp at hl
          · intro hb ha
            subst ha
            obtain ⟨gs, g1, g2⟩ := h.2.2.2 hb
            rw [hg2] at g1
            cases g1
            refine ⟨_, rfl, ?_⟩
            rw [List.getElem?_set_ne (fun e => hf2 hb ⟨hc.1.symm, e⟩)]
            exact g2
        · cases hx
      · cases hx
    · cases hx
  · cases hx
theorem upd_like {f f' : Nat → Int32} {n k : Nat} {x : Int32} (hh : ∀ i, i < n → f i = f' i) : ∀ i, i < n → upd f k x i = upd f' k x i := by
  intro i hi
  unfold upd
  rw [hh i hi]
theorem updL_like {f f' : Nat → Int64} {n k : Nat} {x : Int64} (hh : ∀ i, i < n → f i = f' i) : ∀ i, i < n → vp_updL f k x i = vp_updL f' k x i := by
  intro i hi
  unfold vp_updL
  rw [hh i hi]
theorem up_like {f f' : Nat → Option Nat} {n k : Nat} {x : Option Nat} (hh : ∀ i, i < n → f i = f' i) : ∀ i, i < n → va_up f k x i = va_up f' k x i := by
  intro i hi
  unfold va_up
  rw [hh i hi]
theorem xs_iast (h : xSim b hv R ah ah') {st st' : List Value} {ah1 : List xO} (hx : x_iast E ah st = some (ah1, st')) : ∃ ah2, x_iast E ah' st = some (ah2, st') ∧ xSim b hv R ah1 ah2 := by
  unfold x_iast at hx
  split at hx
  · split at hx
    · rename_i t n f hg
      split at hx
      · rename_i hc
        cases hx
        obtain ⟨f', hg2, hh⟩ := xs_int h hg
        exact ⟨_, by simp only [x_iast, hg2]; rw [if_pos hc], xs_set h _ (Or.inr (Or.inr (Or.inl ⟨_, _, _, _, rfl, rfl, upd_like hh⟩))) (by intro z; cases z) (xs_no82 h hg2)⟩
      · cases hx
    · cases hx
  · cases hx
theorem xs_last (h : xSim b hv R ah ah') {st st' : List Value} {ah1 : List xO} (hx : x_last E ah st = some (ah1, st')) : ∃ ah2, x_last E ah' st = some (ah2, st') ∧ xSim b hv R ah1 ah2 := by
  unfold x_last at hx
  split at hx
  · split at hx
    · rename_i t n f hg
      split at hx
      · rename_i hc
        cases hx
        obtain ⟨f', hg2, hh⟩ := xs_long h hg
        exact ⟨_, by simp only [x_last, hg2]; rw [if_pos hc], xs_set h _ (Or.inr (Or.inr (Or.inr (Or.inl ⟨_, _, _, _, rfl, rfl, updL_like hh⟩)))) (by intro z; cases z) (xs_no82 h hg2)⟩
      · cases hx
    · cases hx
  · cases hx
theorem xs_bast (h : xSim b hv R ah ah') {st st' : List Value} {ah1 : List xO} (hx : x_bast E ah st = some (ah1, st')) : ∃ ah2, x_bast E ah' st = some (ah2, st') ∧ xSim b hv R ah1 ah2 := by
  unfold x_bast at hx
  split at hx
  · split at hx
    · rename_i t n f hg
      split at hx
      · rename_i hc
        obtain ⟨f', hg2, hh⟩ := xs_int h hg
        split at hx
        · rename_i ht
          cases hx
          exact ⟨_, by simp only [x_bast, hg2]; rw [if_pos hc, if_pos ht], xs_set h _ (Or.inr (Or.inr (Or.inl ⟨_, _, _, _, rfl, rfl, upd_like hh⟩))) (by intro z; cases z) (xs_no82 h hg2)⟩
        · rename_i ht
          split at hx
          · rename_i ht2
            cases hx
            exact ⟨_, by simp only [x_bast, hg2]; rw [if_pos hc, if_neg ht, if_pos ht2], xs_set h _ (Or.inr (Or.inr (Or.inl ⟨_, _, _, _, rfl, rfl, upd_like hh⟩))) (by intro z; cases z) (xs_no82 h hg2)⟩
          · cases hx
      · cases hx
    · cases hx
  · cases hx
theorem xs_aast (h : xSim b hv R ah ah') {kd : Nat} (hkd : kd ≠ 199) {st st' : List Value} {ah1 : List xO} (hx : x_aast E kd ah st = some (ah1, st')) : ∃ ah2, x_aast E kd ah' st = some (ah2, st') ∧ xSim b hv R ah1 ah2 := by
  unfold x_aast at hx
  split at hx
  · split at hx
    · rename_i t n f hg
      split at hx
      · rename_i c fs hv
        split at hx
        · rename_i hc
          cases hx
          obtain ⟨f', hg2, hh⟩ := xs_ref h hg
          obtain ⟨fs', hv2, -, -⟩ := xs_obj h hv (by rintro ⟨e, -⟩; exact hkd (hc.2.2.2.symm.trans e))
          exact ⟨_, by simp only [x_aast, hg2, hv2]; rw [if_pos hc], xs_set h _ (Or.inr (Or.inr (Or.inr (Or.inr (Or.inl ⟨_, _, _, _, rfl, rfl, up_like hh⟩))))) (by intro z; cases z) (xs_no82 h hg2)⟩
        · cases hx
      · cases hx
    · cases hx
  · cases hx
theorem xs_newarr (h : xSim b hv R ah ah') {t : ArrayType} {st st' : List Value} {ah1 : List xO} (hx : x_newarr t ah st = some (ah1, st')) : ∃ ah2, x_newarr t ah' st = some (ah2, st') ∧ xSim b hv R ah1 ah2 := by
  unfold x_newarr at hx ⊢
  rw [← h.1]
  split at hx
  · (repeat' split at hx) <;> first | cases hx | skip
    all_goals exact ⟨_, by rw [if_pos (by assumption)], xs_push h (xlike_rf _)⟩
  · cases hx
theorem xs_anew (h : xSim b hv R ah ah') {an : Nat → Bool} {j : Nat} {st st' : List Value} {ah1 : List xO} (hx : x_anew an j ah st = some (ah1, st')) : ∃ ah2, x_anew an j ah' st = some (ah2, st') ∧ xSim b hv R ah1 ah2 := by
  unfold x_anew at hx ⊢
  rw [← h.1]
  split at hx
  · (repeat' split at hx) <;> first | cases hx | skip
    all_goals exact ⟨_, by rw [if_pos (by assumption)], xs_push h (xlike_rf _)⟩
  · cases hx
theorem xs_new (h : xSim b hv R ah ah') {tn : Nat → Option Nat} {fd : Nat → List Value} {j : Nat} {st st' : List Value} {ah1 : List xO} (hx : x_new tn fd j ah st = some (ah1, st')) : ∃ ah2, x_new tn fd j ah' st = some (ah2, st') ∧ xSim b hv R ah1 ah2 := by
  unfold x_new at hx ⊢
  rw [← h.1]
  split at hx
  · cases hx
    exact ⟨_, rfl, xs_push h (xlike_rf _)⟩
  · cases hx
theorem xs_byt {f f' : Nat → Int32} {n o m : Nat} (hh : ∀ i, i < n → f i = f' i) (ho : o + m ≤ n) (h : x_byt f o m = true) : x_byt f' o m = true := by
  refine List.all_eq_true.mpr fun i hi => ?_
  have hi' := List.mem_range.mp hi
  rw [← hh _ (by omega)]
  exact x_byt_ok h i hi'
theorem xs_acp (h : xSim b hv R ah ah') {ma : Nat → Option Nat} {j : Nat} {st st' : List Value} {ah1 : List xO} (hx : x_acp E ma j ah st = some (ah1, st')) : ∃ ah2, x_acp E ma j ah' st = some (ah2, st') ∧ xSim b hv R ah1 ah2 := by
  unfold x_acp at hx
  split at hx
  · rename_i n dp b sp a r hj
    split at hx
    · rename_i t n0 f t1 n1 g hoa hob
      split at hx
      · rename_i hc
        cases hx
        obtain ⟨f', hg1, hh1⟩ := xs_int h hoa
        obtain ⟨g', hg2, hh2⟩ := xs_int h hob
        obtain ⟨c1, c2, c3, c4, c5, c6, c7, c8, c9, c10⟩ := hc
        have hc' : (t = 2 ∨ t = 12) ∧ t1 = 2 ∧ E ≤ b ∧ st'.length ≤ 12 ∧ (¬ sp < 0) ∧ (¬ dp < 0) ∧ (¬ n < 0) ∧ sp.toNatClampNeg + n.toNatClampNeg ≤ n0 ∧ dp.toNatClampNeg + n.toNatClampNeg ≤ n1 ∧ x_byt f' sp.toNatClampNeg n.toNatClampNeg = true := ⟨c1, c2, c3, c4, c5, c6, c7, c8, c9, xs_byt hh1 c8 c10⟩
        refine ⟨_, by simp only [x_acp, hj, hg1, hg2]; rw [if_pos hc'], xs_set h _ (Or.inr (Or.inr (Or.inl ⟨_, _, _, _, rfl, rfl, fun i hi => ?_⟩))) (by intro z; cases z) (xs_no82 h hg2)⟩
        unfold va_cpy
        split
        · rename_i hd
          exact hh1 _ (by omega)
        · exact hh2 i hi
      · cases hx
    · cases hx
  · cases hx
theorem xs_cln (h : xSim b hv R ah ah') {ma : Nat → Option Nat} {nx : Option (Instr × Nat)} {j : Nat} {st st' : List Value} {ah1 : List xO} (hx : x_cln ma nx j ah st = some (ah1, st')) : ∃ ah2, x_cln ma nx j ah' st = some (ah2, st') ∧ xSim b hv R ah1 ah2 := by
  unfold x_cln at hx
  split at hx
  · rename_i j2 a r hj
    split at hx
    · rename_i t n f ho
      split at hx
      · rename_i hc
        cases hx
        obtain ⟨f', hg, hh⟩ := xs_int h ho
        have hc' : t = 2 ∧ ma j2 = some 7 ∧ r.length ≤ 12 ∧ x_byt f' 0 n = true := ⟨hc.1, hc.2.1, hc.2.2.1, xs_byt hh (by omega) hc.2.2.2⟩
        exact ⟨_, by simp only [x_cln, hj, hg]; rw [if_pos hc', ← h.1], xs_push h (Or.inr (Or.inr (Or.inl ⟨_, _, _, _, rfl, rfl, hh⟩)))⟩
      · cases hx
    · cases hx
  · cases hx
theorem xs_cls (h : xSim b hv R ah ah') {a c : Nat} (hx : xcls ah a = some c) : xcls ah' a = some c := by
  unfold xcls at hx
  split at hx
  · rename_i c' fs hg
    obtain ⟨fs', hg2, -, -⟩ := xs_obj h hg (by rintro ⟨rfl, -⟩; cases hx)
    unfold xcls
    rw [hg2]
    exact hx
  · cases hx
theorem xs_recv (h : xSim b hv R ah ah') {kd y : Nat} {vs : List Value} (hx : xrecv P kd y ah vs = true) : xrecv P kd y ah' vs = true := by
  unfold xrecv at hx ⊢
  split at hx
  · exact hx
  · simp only [Bool.and_eq_true] at hx ⊢
    refine ⟨hx.1, ?_⟩
    have h2 := hx.2
    split at h2
    · rename_i a r
      exact decide_eq_true (xs_cls h (of_decide_eq_true h2))
    · cases h2
  · simp only [Bool.and_eq_true] at hx ⊢
    refine ⟨hx.1, ?_⟩
    have h2 := hx.2
    split at h2
    · rename_i a r
      rw [Bool.or_eq_true] at h2 ⊢
      exact h2.imp_right fun z => decide_eq_true (xs_cls h (of_decide_eq_true z))
    · cases h2
theorem xs_r1 {c : Bool} {pc : Nat} {L : List Value} {f g : Option (List Value)} {z : xS4} (hz : xr1 c pc L ah f = some z) (h : xSim b hv R ah ah') (hf : ∀ st, f = some st → g = some st) : ∃ ah2, xr1 c pc L ah' g = some (z.1, z.2.1, z.2.2.1, ah2) ∧ xSim b hv R z.2.2.2 ah2 := by
  obtain ⟨hb, st, h1, rfl⟩ := xr1_ok hz
  exact ⟨ah', by rw [hf st h1, hb]; rfl, h⟩
theorem xs_r2 {c : Bool} {pc : Nat} {L : List Value} {f g : Option (List xO × List Value)} {z : xS4} (hz : xr2 c pc L f = some z) (hf : ∀ ah1 st, f = some (ah1, st) → ∃ ah2, g = some (ah2, st) ∧ xSim b hv R ah1 ah2) : ∃ ah2, xr2 c pc L g = some (z.1, z.2.1, z.2.2.1, ah2) ∧ xSim b hv R z.2.2.2 ah2 := by
  obtain ⟨hb, ah1, st, h1, rfl⟩ := xr2_ok hz
  obtain ⟨ah2, h2, h3⟩ := hf ah1 st h1
  exact ⟨ah2, by rw [h2, hb]; rfl, h3⟩
theorem xs_r3 {c : Bool} {L : List Value} {f : Option (Nat × List Value)} {z : xS4} (hz : xr3 L ah c f = some z) (h : xSim b hv R ah ah') : ∃ ah2, xr3 L ah' c f = some (z.1, z.2.1, z.2.2.1, ah2) ∧ xSim b hv R z.2.2.2 ah2 := by
  obtain ⟨hb, pc, st, h1, rfl⟩ := xr3_ok hz
  exact ⟨ah', by rw [h1, hb]; rfl, h⟩
theorem xs_r4 {pc n : Nat} {f : Option (Nat × List Value × List Value)} {z : xS4} (hz : xr4 pc n ah f = some z) (h : xSim b hv R ah ah') : ∃ ah2, xr4 pc n ah' f = some (z.1, z.2.1, z.2.2.1, ah2) ∧ xSim b hv R z.2.2.2 ah2 := by
  obtain ⟨L, st, h1, rfl⟩ := xr4_ok hz
  refine ⟨ah', ?_, h⟩
  rw [h1]
  unfold xr4
  simp only [if_true]
theorem xs_gets {sf sf' : Nat → Option Value} {j : Nat} {st st' : List Value} (hs : ∀ x, sf j = some x → sf' j = some x) (hx : x_gets sf j st = some st') : x_gets sf' j st = some st' := by
  unfold x_gets at hx ⊢
  split at hx
  · rename_i v hv
    rw [hs _ hv]
    exact hx
  · cases hx
theorem xs_step (hkd : xP_kd P ≠ 199) (hs : ∀ p j x, u p j = some x → xP_sf P p j = some x) (h : xSim b hv R ah ah') {k pc n : Nat} {L st : List Value} {i : Instr} {z : xS4} (hz : xstep (xHd b u P) E k pc L st ah i n = some z) : ∃ ah2, xstep P E k pc L st ah' i n = some (z.1, z.2.1, z.2.2.1, ah2) ∧ xSim b hv R z.2.2.2 ah2 := by
  unfold xstep at hz ⊢
  split at hz
  · exact xs_r1 hz h fun _ e => xs_getf h e
  · exact xs_r2 hz fun _ _ e => xs_putf h e
  · exact xs_r1 hz h fun _ e => xs_gets (hs _ _) e
  · exact xs_r1 hz h fun _ e => xs_ald h e
  · exact xs_r1 hz h fun _ e => xs_bald h e
  · exact xs_r1 hz h fun _ e => xs_lald h e
  · exact xs_r1 hz h fun _ e => xs_aald h e
  · exact xs_r1 hz h fun _ e => xs_alen h e
  · exact xs_r2 hz fun _ _ e => xs_iast h e
  · exact xs_r2 hz fun _ _ e => xs_bast h e
  · exact xs_r2 hz fun _ _ e => xs_last h e
  · exact xs_r2 hz fun _ _ e => xs_aast h hkd e
  · exact xs_r2 hz fun _ _ e => xs_newarr h e
  · exact xs_r2 hz fun _ _ e => xs_anew h e
  · exact xs_r2 hz fun _ _ e => xs_new h e
  · exact xs_r3 hz h
  · exact xs_r3 hz h
  · exact xs_r3 hz h
  · exact xs_r3 hz h
  · exact xs_r3 hz h
  · exact xs_r3 hz h
  · exact xs_r3 hz h
  · exact xs_r3 hz h
  · exact xs_r4 hz h
theorem xrun_sim (hkd : xP_kd P ≠ 199) (hs : ∀ p j x, u p j = some x → xP_sf P p j = some x) (hmk0 : ∀ p j, xP_mk P p j = none) : ∀ {f d k pc : Nat} {L st : List Value} {ah : List xO} {r : Option Value ⊕ Nat} {ah1 : List xO}, xrun (xHd b u P) E f d k pc L st ah = some (r, ah1) → ∀ {ah' : List xO}, xSim b hv R ah ah' → ∃ ah2, xrun P E f d k pc L st ah' = some (r, ah2) ∧ xSim b hv R ah1 ah2
  | 0, d, k, pc, L, st, ah, r, ah1, h, _, _ => by cases h
  | f + 1, d, k, pc, L, st, ah, r, ah9, h, ah', hU => by
    unfold xrun at h
    unfold xrun
    simp only [xHd_code, xHd_pool, xHd_oi, xHd_hn, xHd_te, xHd_ma, xHd_mk, xHd_fd, xHd_rt, xHd_caj] at h
    split at h
    · cases h
    · rename_i i n hc
      try simp only [hc]
      split at h
      · rename_i kd j hi
        try simp only [hi]
        split at h
        · rename_i hn
          try rw [if_pos hn]
          split at h
          · rename_i y na hca
            try simp only [hca]
            split at h
            · cases h
            · rename_i d1
              try simp only
              split at h
              · rename_i vs rr ht
                try simp only [ht]
                split at h
                · rename_i hg
                  have hg : xrecv P kd y ah vs = true ∧ rr.length ≤ 12 ∧ xP_ml P y ≤ 20 ∧ (xlay vs).length ≤ xP_ml P y := hg
                  rw [if_pos ⟨xs_recv hU hg.1, hg.2⟩]
                  split at h
                  · rename_i v ah1 hr
                    have hr : xrun (xHd b u P) E f d1 y 0 (xentry vs (xP_ml P y)) [] ah = some (.inl v, ah1) := hr
                    obtain ⟨ah2, h1, hU1⟩ := xrun_sim hkd hs hmk0 hr hU
                    try simp only [h1]
                    exact xrun_sim hkd hs hmk0 h hU1
                  · rename_i a ah1 hr
                    have hr : xrun (xHd b u P) E f d1 y 0 (xentry vs (xP_ml P y)) [] ah = some (.inr a, ah1) := hr
                    obtain ⟨ah2, h1, hU1⟩ := xrun_sim hkd hs hmk0 hr hU
                    try simp only [h1]
                    split at h
                    · rename_i c hcl
                      try simp only [xs_cls hU1 hcl]
                      split at h
                      · rename_i hh hhn
                        try simp only [hhn]
                        exact xrun_sim hkd hs hmk0 h hU1
                      · rename_i hhn
                        try simp only [hhn]
                        cases h
                        exact ⟨_, rfl, hU1⟩
                      · cases h
                    · cases h
                  · cases h
                · cases h
              · cases h
          · rename_i hca
            try simp only [hca]
            split at h
            · split at h
              · rename_i st' ho
                try simp only [ho]
                exact xrun_sim hkd hs hmk0 h hU
              · cases h
            · split at h
              · rename_i st' ho
                try simp only [ho]
                exact xrun_sim hkd hs hmk0 h hU
              · rename_i hom
                try simp only [hom]
                split at h
                · rename_i ah1 st' ho
                  obtain ⟨ah2, h1, hU1⟩ := xs_acp hU ho
                  try simp only [h1]
                  exact xrun_sim hkd hs hmk0 h hU1
                · cases h
            · split at h
              · rename_i ah1 st' ho
                obtain ⟨ah2, h1, hU1⟩ := xs_cln hU ho
                try simp only [h1]
                exact xrun_sim hkd hs hmk0 h hU1
              · cases h
            · cases h
        · cases h
      · rename_i hi
        try simp only [hi]
        split at h
        · rename_i v hr
          try simp only [hr]
          cases h
          exact ⟨_, rfl, hU⟩
        · rename_i hr
          try simp only [hr]
          split at h
          · split at h
            · rename_i a rest _
              split at h
              · rename_i hn
                try simp only [hn, if_true]
                split at h
                · rename_i c hcl
                  try simp only [xs_cls hU hcl]
                  split at h
                  · rename_i hh hhn
                    try simp only [hhn]
                    exact xrun_sim hkd hs hmk0 h hU
                  · rename_i hhn
                    try simp only [hhn]
                    cases h
                    exact ⟨_, rfl, hU⟩
                  · cases h
                · cases h
              · cases h
            · cases h
          · rename_i j _ _
            split at h
            · rename_i ce hte
              try simp only [hte]
              split at h
              · rename_i hcn
                cases h
                rw [if_pos hcn, ← hU.1]
                exact ⟨_, rfl, xs_push hU (xlike_rf _)⟩
              · cases h
            · rename_i hte
              try simp only [hte]
              split at h
              · rename_i ce ic y hmk
                rw [hmk0] at hmk
                cases hmk
              · rename_i hmk
                try simp only [hmk]
                split at h
                · rename_i pc' L' st' ah1 hst
                  obtain ⟨ah2, h1, hU1⟩ := xs_step hkd hs hU hst
                  try simp only [h1]
                  exact xrun_sim hkd hs hmk0 h hU1
                · cases h
          · split at h
            · rename_i pc' L' st' ah1 hst
              obtain ⟨ah2, h1, hU1⟩ := xs_step hkd hs hU hst
              try simp only [h1]
              exact xrun_sim hkd hs hmk0 h hU1
            · cases h
/-- one step, a call included, of a frame that goes on -/
theorem xs_one (hkd : xP_kd P ≠ 199) (hs : ∀ p j x, u p j = some x → xP_sf P p j = some x) (hmk0 : ∀ p j, xP_mk P p j = none) (h : xSim b hv R ah ah') {k pc : Nat} {L st : List Value} {z : xS4} (hz : xone (xHd b u P) E k pc L st ah = some z) : ∃ ah2, xone P E k pc L st ah' = some (z.1, z.2.1, z.2.2.1, ah2) ∧ xSim b hv R z.2.2.2 ah2 := by
  unfold xone at hz ⊢
  simp only [xHd_code, xHd_pool, xHd_te, xHd_mk, xHd_rt] at hz
  split at hz
  · cases hz
  · rename_i i n hc
    try simp only [hc]
    split at hz
    · cases hz
    · rename_i hi
      try simp only [hi]
      split at hz
      · cases hz
      · rename_i hr
        try simp only [hr]
        split at hz
        · cases hz
        · split at hz
          · cases hz
          · rename_i hte
            try simp only [hte]
            split at hz
            · cases hz
            · rename_i hmk
              try simp only [hmk]
              exact xs_step hkd hs h hz
        · exact xs_step hkd hs h hz
/-- a frame's run up to a place -/
def xto (P : xPg) (E f d k pe : Nat) : Nat → Nat → List Value → List Value → List xO → Option xS4
  | 0, _, _, _, _ => none
  | n + 1, pc, L, st, ah => match Nat.beq pc pe with
    | true => some (pc, L, st, ah)
    | false => match xgo P k pc st ah with
      | some (y, vs, rr) => (match xrun P E f d y 0 (xentry vs (xP_ml P y)) [] ah with
        | some (.inl w, ah1) => xto P E f d k pe n (pc + 3) L (w.toList ++ rr) ah1
        | _ => none)
      | none => (match xone P E k pc L st ah with
        | some (pc', L', st', ah1) => xto P E f d k pe n pc' L' st' ah1
        | none => none)
/-- one call in a frame -/
def zcl (P : xPg) (f k pc : Nat) (st : List Value) (ah : List xO) : Option (List Value × List xO) := match xgo P k pc st ah with
  | some (y, vs, rr) => (match xrun P 81 f 60 y 0 (xentry vs (xP_ml P y)) [] ah with
    | some (.inl w, ah1) => some (w.toList ++ rr, ah1)
    | _ => none)
  | none => none
theorem xHd_go (b : Bool) (u : Nat → Nat → Option Value) (P : xPg) : xgo (xHd b u P) = xgo P := rfl
theorem xs_go (h : xSim b hv R ah ah') {k pc y : Nat} {st vs rr : List Value} (hz : xgo P k pc st ah = some (y, vs, rr)) : xgo P k pc st ah' = some (y, vs, rr) := by
  unfold xgo at hz ⊢
  split at hz
  · cases hz
  · rename_i i n hc
    try simp only [hc]
    split at hz
    · cases hz
    · rename_i kd j hi
      try simp only [hi]
      split at hz
      · rename_i hn
        try rw [if_pos hn]
        split at hz
        · cases hz
        · rename_i y' na hca
          try simp only [hca]
          split at hz
          · rename_i vs' r ht
            try simp only [ht]
            split at hz
            · rename_i hg
              rw [if_pos ⟨xs_recv h hg.1, hg.2⟩]
              exact hz
            · cases hz
          · cases hz
      · cases hz
theorem xone_low {P : xPg} {ah : List xO} {k pc : Nat} {L st : List Value} {z : xS4} (h : xone P 81 k pc L st ah = some z) (hl : 81 ≤ ah.length) : z.2.2.2.take 81 = ah.take 81 ∧ 81 ≤ z.2.2.2.length := by
  unfold xone at h
  (repeat' split at h) <;> first | cases h | exact xstep_low h hl
section YSMT
variable {v : Value}
theorem xto_sim (hkd : xP_kd (xPrg v) ≠ 199) (hs : ∀ p j x, u p j = some x → xP_sf (xPrg v) p j = some x) (hmk0 : ∀ p j, xP_mk (xPrg v) p j = none) {f d k pe : Nat} : ∀ {n pc : Nat} {L st : List Value} {ah : List xO} {z : xS4}, xto (xHd b u (xPrg v)) 81 f d k pe n pc L st ah = some z → ∀ {ah' : List xO}, xSim b hv R ah ah' → 81 ≤ ah'.length → ∃ ah2, yD v (d + 1) k pc L st ah' = yD v (d + 1) k z.1 z.2.1 z.2.2.1 ah2 ∧ xSim b hv R z.2.2.2 ah2 ∧ ah2.take 81 = ah'.take 81
  | 0, _, _, _, _, _, h, _, _, _ => by cases h
  | n + 1, pc, L, st, ah, z, h, ah', hU, hl => by
    unfold xto at h
    split at h
    · cases h
      exact ⟨ah', rfl, hU, rfl⟩
    · split at h
      · rename_i y vs rr hg
        rw [xHd_go] at hg
        split at h
        · rename_i w ah1 hr
          have hr2 : xrun (xHd b u (xPrg v)) 81 f d y 0 (xentry vs (xP_ml (xPrg v) y)) [] ah = some (.inl w, ah1) := hr
          obtain ⟨ah2, h1, hU1⟩ := xrun_sim hkd hs hmk0 hr2 hU
          obtain ⟨l1, l2⟩ := xrun_low h1 hl
          obtain ⟨ah3, h3, hU3, l3⟩ := xto_sim hkd hs hmk0 h hU1 l2
          refine ⟨ah3, ?_, hU3, l3.trans l1⟩
          rw [← h3, yD_call (xs_go hU hg), yD_iff.mpr ⟨f, h1⟩]
          rfl
        · cases h
      · split at h
        · rename_i pc' L' st' ah1 ho
          obtain ⟨ah2, h1, hU1⟩ := xs_one hkd hs hmk0 hU ho
          obtain ⟨l1, l2⟩ := xone_low h1 hl
          obtain ⟨ah3, h3, hU3, l3⟩ := xto_sim hkd hs hmk0 h hU1 l2
          exact ⟨ah3, (yD_one h1).trans h3, hU3, l3.trans l1⟩
        · cases h
/-- one call -/
theorem zcl_sim (hkd : xP_kd (xPrg v) ≠ 199) (hs : ∀ p j x, u p j = some x → xP_sf (xPrg v) p j = some x) (hmk0 : ∀ p j, xP_mk (xPrg v) p j = none) {f k pc : Nat} {st st' : List Value} {ah ah1 ah' : List xO} (h : zcl (xHd b u (xPrg v)) f k pc st ah = some (st', ah1)) (hU : xSim b hv R ah ah') (hl : 81 ≤ ah'.length) : ∃ ah2, (∀ (d : Nat) (L : List Value), yD v (d + 61) k pc L st ah' = yD v (d + 61) k (pc + 3) L st' ah2) ∧ xSim b hv R ah1 ah2 ∧ ah2.take 81 = ah'.take 81 ∧ 81 ≤ ah2.length := by
  unfold zcl at h
  split at h
  · rename_i y vs rr hg
    rw [xHd_go] at hg
    split at h
    · rename_i w ah3 hr
      cases h
      have hr2 : xrun (xHd b u (xPrg v)) 81 f 60 y 0 (xentry vs (xP_ml (xPrg v) y)) [] ah = some (.inl w, ah1) := hr
      obtain ⟨ah2, h1, hU1⟩ := xrun_sim hkd hs hmk0 hr2 hU
      obtain ⟨l1, l2⟩ := xrun_low h1 hl
      refine ⟨ah2, fun d L => ?_, hU1, l1, l2⟩
      rw [yD_call (d := d + 60) (xs_go hU hg), yD_up (yD_iff.mpr ⟨f, h1⟩) (Nat.le_add_left 60 d)]
      rfl
    · cases h
  · cases h
end YSMT
end YSM
