/-! A PROGRAM's ITEMS: what is read stands side by side -/
section YSK
section YSKL
variable {G : yGx} {V V1 V2 Vb : yPV} {σ : yPS} {α : Type}
theorem pre_set {l l' : List α} {i : Nat} {x : α} (h : ∃ r, l' = l ++ r) (hi : l.length ≤ i) : ∃ r, l'.set i x = l ++ r := by
  obtain ⟨r, h⟩ := h
  subst h
  exact ⟨r.set (i - l.length) x, by rw [List.set_append_right _ _ hi]⟩
theorem pre_app {l l' : List α} {x : α} (h : ∃ r, l' = l ++ r) : ∃ r, l' ++ [x] = l ++ r := by
  obtain ⟨r, h⟩ := h
  subst h
  exact ⟨r ++ [x], List.append_assoc ..⟩
theorem vEx_ad {kd n c : Nat} (h : vEx V Vb) : vEx V (sadI kd n c Vb) := ⟨pre_app h.1, h.2⟩
theorem vEx_nI {i n : Nat} (h : vEx V Vb) (hi : (zI V).length ≤ i) : vEx V (snI i n Vb) := ⟨pre_set h.1 hi, h.2⟩
theorem vEx_cI {i n : Nat} (h : vEx V Vb) (hi : (zI V).length ≤ i) : vEx V (scI i n Vb) := ⟨pre_set h.1 hi, h.2⟩
theorem vEx_kI {i n : Nat} (h : vEx V Vb) (hi : (zI V).length ≤ i) : vEx V (skI i n Vb) := ⟨pre_set h.1 hi, h.2⟩
theorem vEx_eI {i : Nat} (h : vEx V Vb) (hi : (zI V).length ≤ i) : vEx V (seI i Vb) := ⟨pre_set h.1 hi, h.2⟩
theorem vEx_ly {e : yIe} (h : vEx V Vb) : vEx V (slyP e Vb) := ⟨h.1, pre_app h.2.1, h.2.2⟩
theorem vEx_aP {i n : Nat} (h : vEx V Vb) (hi : (zP V).length ≤ i) : vEx V (saP i n Vb) := ⟨h.1, pre_set h.2.1 hi, h.2.2⟩
theorem vEx_bP {i n : Nat} (h : vEx V Vb) (hi : (zP V).length ≤ i) : vEx V (sbP i n Vb) := ⟨h.1, pre_set h.2.1 hi, h.2.2⟩
theorem vEx_K {c : yCo} {x : List (Nat × Nat)} (h : vEx V Vb) : vEx V (zsK Vb (zC Vb ++ c) (zX Vb ++ x)) := by
  obtain ⟨h1, h2, ⟨l3, h3⟩, ⟨l4, h4⟩, h5⟩ := h
  exact ⟨h1, h2, ⟨l3 ++ c, by rw [← List.append_assoc, ← h3]⟩, ⟨l4 ++ x, by rw [← List.append_assoc, ← h4]⟩, h5⟩
theorem last_get {l : List α} {a : α} : (l ++ [a])[l.length]? = some a := by
  rw [List.getElem?_append_right (Nat.le_refl _), Nat.sub_self]
  rfl
theorem set_last {l : List α} {a b : α} : (l ++ [a]).set l.length b = l ++ [b] := by
  rw [List.set_append_right _ _ (Nat.le_refl _), Nat.sub_self]
  rfl
theorem getD_last {l : List α} {a d : α} : (l ++ [a]).getD l.length d = a := by
  rw [List.getD_eq_getElem?_getD, last_get]
  rfl
/-- a piece of a line -/
theorem spc_gd {dp t t1 : Nat} (h60 : (zPg V).2.1 ≤ 60) (h : spc G dp (.inr (t, .inr V)) = .inr (t1, .inr V1)) : vEx V V1 ∧ (zI V1).length = (zI V).length + 1 ∧ (zP V1).length = (zP V).length + 1 ∧ ∃ p r : yIe, (zI V1)[(zI V).length]? = some p ∧ (zP V1)[(zP V).length]? = some r ∧ yPc (sGd G V1) p r := by
  unfold spc at h
  split at h
  · obtain ⟨V2, h, e2⟩ := smp_al h
    obtain ⟨V3, h, e3⟩ := smp_al h
    obtain ⟨t0, h, _, l1, l2, _⟩ := snum_al h
    injection h with h
    injection h with _ h
    injection h with h
    subst h e3 e2
    have hw : swd (snx (.inr (t, .inr V))) = (zPg V).2.1 := rfl
    rw [hw] at l2
    obtain ⟨v, hv⟩ : ∃ v, v = sfv G (snx (.inr (t, .inr V))) := ⟨_, rfl⟩
    have hv2 : 1 ≤ v ∧ v ≤ 60 := by
      rw [hv]
      unfold sfv
      omega
    rw [← hv]
    refine ⟨vEx_ly (vEx_ad vEx_rf), ?_, ?_, (23, v, 0, (zI V).length + 1), (1, v, 0, 0), last_get, last_get, Or.inl ⟨rfl, rfl, rfl, hv2.1, hv2.2⟩⟩
    · show (zI V ++ [_]).length = _
      rw [List.length_append]
      rfl
    · show (zP V ++ [_]).length = _
      rw [List.length_append]
      rfl
  · unfold spcE at h
    rcases hx : sex G 2 dp (.inr (t, .inr V)) with p | ⟨t2, e | V2⟩
    · rw [hx] at h
      have e2 : ∀ f : yPV → yPV, smp f (.inl p) = .inl p := fun _ => rfl
      have := fun j st => (sStr_fld (G := G) (j := fun _ => j) (st := fun _ => st) sStr_id).1 p
      rw [e2] at h
      have this : ∀ j st, sfld G j st (.inl p) = .inl p := this
      rw [this] at h
      nomatch h
    · rw [hx] at h
      have e2 : ∀ f : yPV → yPV, smp f (.inr (t2, .inl e)) = .inr (t2, .inl e) := fun _ => rfl
      rw [e2] at h
      have := sAl_fld ⟨t1, V1, h⟩
      obtain ⟨_, _, y⟩ := this
      injection y with y
      injection y with _ y
      nomatch y
    · rw [hx] at h
      obtain ⟨hty, ⟨cc, xx, hV2⟩, hg, _⟩ := sex_gd (Or.inr rfl) hx
      have hg := hg rfl
      obtain ⟨st, hst⟩ : ∃ st, st = (zC V).length := ⟨_, rfl⟩
      obtain ⟨ty, hty2⟩ : ∃ ty, ty = sty G 2 dp (.inr (t, .inr V)) := ⟨_, rfl⟩
      have e1 : sln (fun V => (zC V).length) (.inr (t, .inr V)) = st := hst.symm
      have e2 : sln (fun V => (zI V).length) (.inr (t2, .inr V2)) = (zI V2).length := rfl
      rw [e1, e2, ← hty2] at h
      rw [← hst, ← hty2] at hg
      rw [← hty2] at hty
      have hex : vEx V V2 := by
        rw [hV2]
        exact vEx_K vEx_rf
      have lI : (zI V2).length = (zI V).length := by rw [hV2]
      have lP : (zP V2).length = (zP V).length := by rw [hV2]
      obtain ⟨k, hk⟩ : ∃ k, k = if ty = 1 then 31 else 32 := ⟨_, rfl⟩
      rw [← hk] at h
      have h3 : smp (sadI k 0 st) (.inr (t2, .inr V2)) = .inr (t2, .inr (sadI k 0 st V2)) := rfl
      rw [h3] at h
      unfold sfld at h
      -- what is put down
      have fin : ∀ (Vx : yPV) (kk v way : Nat), Vx = slyP (2, st, v, way) (zsI V2 (zI V2 ++ [(kk, v, st, (zI V2).length + 1)])) → v ≤ 60 → ((way = 0 ∧ kk = if ty = 1 then 31 else 32) ∨ (1 ≤ way ∧ way ≤ 3 ∧ kk = 30 + way)) → vEx V Vx ∧ (zI Vx).length = (zI V).length + 1 ∧ (zP Vx).length = (zP V).length + 1 ∧ ∃ p r : yIe, (zI Vx)[(zI V).length]? = some p ∧ (zP Vx)[(zP V).length]? = some r ∧ yPc (sGd G Vx) p r := by
        intro Vx kk v way hVx hv hw
        subst hVx
        refine ⟨⟨pre_app hex.1, pre_app hex.2.1, hex.2.2⟩, ?_, ?_, (kk, v, st, (zI V2).length + 1), (2, st, v, way), ?_, ?_, Or.inr ⟨rfl, rfl, rfl, hv, ty, hty, hg, hw⟩⟩
        · show (zI V2 ++ [_]).length = _
          rw [List.length_append, lI]
          rfl
        · show (zP V2 ++ [_]).length = _
          rw [List.length_append, lP]
          rfl
        · rw [← lI]
          exact last_get
        · rw [← lP]
          exact last_get
      split at h
      · obtain ⟨v, hv⟩ : ∃ v, v = sfv G (snx (.inr (t2, .inr (sadI k 0 st V2)))) := ⟨_, rfl⟩
        rw [← hv] at h
        have hs1 : ∀ t5 V5, sfld1 G (zI V2).length (.inr (t2, .inr (sadI k 0 st V2))) = .inr (t5, .inr V5) → V5 = zsI V2 (zI V2 ++ [(k, v, st, (zI V2).length + 1)]) ∧ v ≤ 60 := fun t5 V5 h5 => by
          unfold sfld1 at h5
          obtain ⟨V6, h6, e6⟩ := smp_al h5
          obtain ⟨t0, h7, _, l1, l2, _⟩ := snum_al h6
          injection h7 with h7
          injection h7 with _ h7
          injection h7 with h7
          rw [← h7] at e6
          refine ⟨?_, ?_⟩
          · rw [e6, ← hv]
            show zsI V2 ((zI V2 ++ [(k, 0, st, (zI V2).length + 1)]).set (zI V2).length (((zI V2 ++ [(k, 0, st, (zI V2).length + 1)]).getD (zI V2).length dIe).1, v, ((zI V2 ++ [(k, 0, st, (zI V2).length + 1)]).getD (zI V2).length dIe).2.2.1, ((zI V2 ++ [(k, 0, st, (zI V2).length + 1)]).getD (zI V2).length dIe).2.2.2)) = _
            rw [getD_last, set_last]
          · rw [hv]
            unfold sfv
            omega
        split at h
        · rename_i hS
          obtain ⟨V6, h6, e6⟩ := smp_al h
          obtain ⟨t0, h7, _⟩ := snx_al h6
          obtain ⟨V8, h8, e8⟩ := smp_al h7
          obtain ⟨hV8, hv60⟩ := hs1 _ _ h8
          obtain ⟨kk, hkk⟩ : ∃ kk, kk = skd G (sfld1 G (zI V2).length (.inr (t2, .inr (sadI k 0 st V2)))) := ⟨_, rfl⟩
          rw [← hkk] at e6 e8 hS
          unfold sisS at hS
          have hS := of_decide_eq_true hS
          refine fin V1 kk v (kk - 30) ?_ hv60 (Or.inr ⟨by omega, by omega, by omega⟩)
          rw [e6, e8, hV8]
          show slyP _ (zsI V2 ((zI V2 ++ [(k, v, st, (zI V2).length + 1)]).set (zI V2).length (kk, ((zI V2 ++ [(k, v, st, (zI V2).length + 1)]).getD (zI V2).length dIe).2.1, ((zI V2 ++ [(k, v, st, (zI V2).length + 1)]).getD (zI V2).length dIe).2.2.1, ((zI V2 ++ [(k, v, st, (zI V2).length + 1)]).getD (zI V2).length dIe).2.2.2))) = _
          rw [getD_last, set_last]
        · obtain ⟨V6, h6, e6⟩ := smp_al h
          obtain ⟨hV8, hv60⟩ := hs1 _ _ h6
          exact fin V1 k v 0 (by rw [e6, hV8]) hv60 (Or.inl ⟨rfl, hk⟩)
      · obtain ⟨V6, h6, e6⟩ := smp_al h
        injection h6 with h6
        injection h6 with _ h6
        injection h6 with h6
        exact fin V1 k 0 0 (by rw [e6, ← h6]; rfl) (by omega) (Or.inl ⟨rfl, hk⟩)
/-- the pieces of a line -/
theorem spcs_gd {dp : Nat} : ∀ (n t t1 : Nat) (V V1 : yPV), (zPg V).2.1 ≤ 60 → slp G sisP (spc G dp) n (.inr (t, .inr V)) = .inr (t1, .inr V1) → vEx V V1 ∧ ∃ m, (zI V1).length = (zI V).length + m ∧ (zP V1).length = (zP V).length + m ∧ ∀ k, k < m → ∃ p r : yIe, (zI V1)[(zI V).length + k]? = some p ∧ (zP V1)[(zP V).length + k]? = some r ∧ yPc (sGd G V1) p r
  | 0, t, t1, V, V1, h60, h => by
    have h : (Sum.inr (t, .inr V) : yPS) = .inr (t1, .inr V1) := h
    injection h with h
    injection h with _ h
    injection h with h
    subst h
    exact ⟨vEx_rf, 0, rfl, rfl, fun k hk => by omega⟩
  | n + 1, t, t1, V, V1, h60, h => by
    have h : (if sisP (skd G (.inr (t, .inr V))) = true then slp G sisP (spc G dp) n (spc G dp (.inr (t, .inr V))) else .inr (t, .inr V)) = .inr (t1, .inr V1) := h
    split at h
    · have al := sAl_lp (c := sisP) (fun _ => sAl_pc) n _ ⟨t1, V1, h⟩
      obtain ⟨t2, V2, e2⟩ := al
      obtain ⟨x1, x2, x3, p, r, x4, x5, x6⟩ := spc_gd h60 e2
      rw [e2] at h
      have h60' : (zPg V2).2.1 ≤ 60 := by rw [x1.2.2.2.2.1]; exact h60
      obtain ⟨y1, m, y2, y3, y4⟩ := spcs_gd n t2 t1 V2 V1 h60' h
      refine ⟨vEx_tr x1 y1, m + 1, by omega, by omega, fun k hk => ?_⟩
      by_cases z : k = 0
      · subst z
        obtain ⟨l1, e1⟩ := y1.1
        obtain ⟨l2, e3⟩ := y1.2.1
        exact ⟨p, r, by rw [Nat.add_zero, app_get e1 (by omega)]; exact x4, by rw [Nat.add_zero, app_get e3 (by omega)]; exact x5, yPc_mo (sGd_ex y1) x6⟩
      · obtain ⟨p', r', z1, z2, z3⟩ := y4 (k - 1) (by omega)
        have f1 : (zI V2).length + (k - 1) = (zI V).length + k := by omega
        have f2 : (zP V2).length + (k - 1) = (zP V).length + k := by omega
        rw [f1] at z1
        rw [f2] at z2
        exact ⟨p', r', z1, z2, z3⟩
    · injection h with h
      injection h with _ h
      injection h with h
      subst h
      exact ⟨vEx_rf, 0, rfl, rfl, fun k hk => by omega⟩
end YSKL
end YSK
