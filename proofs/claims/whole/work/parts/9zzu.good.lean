/-! A PROGRAM, read to its end, is in order -/
section YSN
/-- a total -/
def vTo (G : yGx) (V : yPV) (x : yDf) : Prop := x.2.1 ≤ 1 ∧ (6 ≤ x.2.2.2.1 ∧ x.2.2.2.1 ≤ 11) ∧ (-2 ≤ x.2.2.2.2 ∧ x.2.2.2.2 < (zG V).length) ∧ ∃ ty, ty ≤ 1 ∧ sGc G (zC V) (zX V) (zL V) [] x.2.2.1 ty ∧ (x.2.2.2.1 = 6 → ty = 0) ∧ x.2.1 = if x.2.2.2.1 = 7 then 0 else ty
/-- bands -/
def vBn (G : yGx) (V : yPV) : Prop := ∀ j i a, zB V j = some (i, a) → ∃ (x z : yIe) (b : Nat), (zI V)[i]? = some x ∧ x.1 = 13 ∧ x.2.2.2 ≤ (zI V).length ∧ yIts (zI V) (zP V) (sGd G V) (decide (j ≠ 1 ∧ j ≠ 2)) 12 (i + 1) x.2.2.2 a b ∧ (zP V)[b]? = some z ∧ z.1 = 11
def vGd (G : yGx) (V : yPV) : Prop := ((zPg V).1 ≤ 1 ∧ (10 ≤ (zPg V).2.1 ∧ (zPg V).2.1 ≤ 60) ∧ 4 ≤ (zPg V).2.2 ∧ (zPg V).2.2 ≤ 40) ∧ ((zO V).length ≤ 4 ∧ ∀ x, x ∈ zO V → x.1 < gCc G ∧ x.2 ≤ 1) ∧ ((zG V).length ≤ 3 ∧ ∀ c, c ∈ zG V → c < gCc G) ∧ ((zL V).length ≤ 8 ∧ ∀ x, x ∈ zL V → x.2.1 ≤ 1 ∧ sGc G (zC V) (zX V) (zL V) [] x.2.2.1 x.2.1) ∧ ((zT V).length ≤ 8 ∧ ∀ x, x ∈ zT V → vTo G V x) ∧ vBn G V
section YSNL
variable {G : yGx} {V V1 V2 : yPV} {σ : yPS} {t t1 : Nat}
theorem sGc_L {C : yCo} {X : List (Nat × Nat)} {L L' T : List yDf} {st ty : Nat} (hL : ∃ l, L' = L ++ l) (h : sGc G C X L T st ty) : sGc G C X L' T st ty := by
  obtain ⟨nm, decl, rd, tb, t, b, t', b', x, h1, h2, h3, h4, h5, h6⟩ := h
  obtain ⟨l, hL⟩ := hL
  refine ⟨nm, decl, rd, tb, t, b, t', b', x, h1, h2, h3, h4, h5, fun v op i y hv => ?_⟩
  rcases h6 v op i y hv with h | ⟨k1, k2, k3⟩ | h
  · exact Or.inl h
  · refine Or.inr (Or.inl ⟨k1, by rw [hL, List.length_append]; omega, ?_⟩)
    rw [k3, List.getD_eq_getElem?_getD, List.getD_eq_getElem?_getD, app_get hL k2]
  · exact Or.inr (Or.inr h)
theorem shd_a2 {c : yPV → Bool} (h : shd G c (.inr (t, .inr V)) = .inr (t1, .inr V1)) : V1 = V ∧ c V = true := by
  obtain ⟨t0, e, _⟩ := snx_al h
  obtain ⟨e1, e2⟩ := sgd_al e
  injection e1 with e1
  injection e1 with _ e1
  injection e1 with e1
  subst e1
  exact ⟨rfl, e2⟩
theorem sfc_b {v : Int64} (h : 0 ≤ sfc G v) : (sfc G v).toNat < gCc G := by
  unfold sfc at h ⊢
  rcases yfind_none (f := gCn G) (w := v) (n := gCc G) (i := 0) with h0 | ⟨k, _, k2, k3, _⟩
  · omega
  · rw [k3]
    omega
theorem sgr_b {v : Int64} : sgr G V v < ((zG V).length : Int) ∨ (zG V).length = 0 ∧ sgr G V v < 0 := by
  unfold sgr
  split
  · rcases Nat.eq_zero_or_pos (zG V).length with h | h
    · exact Or.inr ⟨h, by omega⟩
    · exact Or.inl (by omega)
  · unfold sfg
    by_cases z : 0 ≤ yfg (fun i => (((zG V).getD i 0 : Nat) : Int)) (sfc G v) (zG V).length 0
    · have := yfg_lt _ _ z
      exact Or.inl (by omega)
    · rcases Nat.eq_zero_or_pos (zG V).length with h | h
      · exact Or.inr ⟨h, by omega⟩
      · exact Or.inl (by omega)
theorem vTo_L {x : yDf} {d : List yDf} (h : vTo G V x) : vTo G (zsL V (zL V ++ d)) x := by
  obtain ⟨h1, h2, h3, ty, h4, h5, h6⟩ := h
  exact ⟨h1, h2, h3, ty, h4, sGc_L ⟨d, rfl⟩ h5, h6⟩
/-- code and texts grow -/
theorem vGd_K {c : yCo} {x : List (Nat × Nat)} (h : vGd G V) : vGd G (zsK V (zC V ++ c) (zX V ++ x)) := by
  obtain ⟨h1, h2, h3, ⟨h4, h4'⟩, ⟨h5, h5'⟩, h6⟩ := h
  refine ⟨h1, h2, h3, ⟨h4, fun y hy => ⟨(h4' y hy).1, sGc_mo ⟨c, rfl⟩ ⟨x, rfl⟩ (h4' y hy).2⟩⟩, ⟨h5, fun y hy => ?_⟩, fun j i a hb => ?_⟩
  · obtain ⟨k1, k2, k3, ty, k4, k5, k6⟩ := h5' y hy
    exact ⟨k1, k2, k3, ty, k4, sGc_mo ⟨c, rfl⟩ ⟨x, rfl⟩ k5, k6⟩
  · obtain ⟨y, z, b, k1, k2, k3, k4, k5⟩ := h6 j i a hb
    exact ⟨y, z, b, k1, k2, k3, yIts_mo (fun _ _ _ => rfl) (fun _ _ _ => rfl) (fun st ty hg => sGc_mo ⟨c, rfl⟩ ⟨x, rfl⟩ hg) 12 _ _ _ _ (Nat.le_refl _) (Nat.le_refl _) (Nat.le_refl _) (Nat.le_refl _) k4, k5⟩
theorem vGd_pg (h : vGd G V) (e : spage G (.inr (t, .inr V)) = .inr (t1, .inr V1)) : vGd G V1 := by
  obtain ⟨V0, e1, e2⟩ := smp_al e
  obtain ⟨t2, e3, _, l1, l2, _⟩ := snum_al e1
  obtain ⟨t3, e4, _, l3, l4, _⟩ := snum_al e3
  obtain ⟨e5, _⟩ := shd_a2 e4
  subst e5
  rw [e2]
  refine ⟨⟨?_, ?_, ?_⟩, h.2⟩
  · show (1 : Nat) ≤ 1
    omega
  · show 10 ≤ (svl G (spag1 G _)).toInt.toNat ∧ (svl G (spag1 G _)).toInt.toNat ≤ 60
    omega
  · show 4 ≤ (svl G (snum G 10 60 (spag1 G _))).toInt.toNat ∧ (svl G (snum G 10 60 (spag1 G _))).toInt.toNat ≤ 40
    omega
theorem vGd_or (h : vGd G V) (e : sord G (.inr (t, .inr V)) = .inr (t1, .inr V1)) : vGd G V1 := by
  obtain ⟨V0, e1, e2⟩ := smp_al e
  obtain ⟨e3, c3⟩ := sgd_al e1
  obtain ⟨t2, e4, _, _⟩ := sxp_al e3
  have e5 : ∃ t3, sord1 G (.inr (t, .inr V)) = .inr (t3, .inr V0) := by
    unfold sord2 at e4
    split at e4
    · obtain ⟨t3, e5, _⟩ := snx_al e4
      exact ⟨t3, e5⟩
    · exact ⟨_, e4⟩
  obtain ⟨t3, e5⟩ := e5
  obtain ⟨e6, c6⟩ := shd_a2 e5
  subst e6
  have c6 := of_decide_eq_true c6
  have c3 := of_decide_eq_true c3
  rw [e2]
  refine ⟨h.1, ⟨?_, fun x hx => ?_⟩, h.2.2⟩
  · show (zO V0 ++ [_]).length ≤ 4
    rw [List.length_append]
    show (zO V0).length + 1 ≤ 4
    omega
  · rcases List.mem_append.mp hx with hx | hx
    · exact h.2.1.2 x hx
    · rw [List.mem_singleton.mp hx]
      refine ⟨sfc_b c3, ?_⟩
      show (if _ then 1 else 0) ≤ 1
      split <;> omega
theorem vGd_gr (h : vGd G V) (e : sgro G (.inr (t, .inr V)) = .inr (t1, .inr V1)) : vGd G V1 := by
  obtain ⟨V0, e1, e2⟩ := smp_al e
  obtain ⟨e3, _⟩ := sgd_al e1
  obtain ⟨e4, c4⟩ := sgd_al e3
  obtain ⟨t2, e5, _, _⟩ := sxp_al e4
  obtain ⟨e6, c6⟩ := shd_a2 e5
  subst e6
  have c6 := of_decide_eq_true c6
  have c4 := of_decide_eq_true c4
  obtain ⟨h1, h2, ⟨h3, h3'⟩, h4, ⟨h5, h5'⟩, h6⟩ := h
  rw [e2]
  refine ⟨h1, h2, ⟨?_, fun x hx => ?_⟩, h4, ⟨h5, fun y hy => ?_⟩, h6⟩
  · show (zG V0 ++ [_]).length ≤ 3
    rw [List.length_append]
    show (zG V0).length + 1 ≤ 3
    omega
  · rcases List.mem_append.mp hx with hx | hx
    · exact h3' x hx
    · rw [List.mem_singleton.mp hx]
      exact sfc_b c4
  · obtain ⟨k1, k2, ⟨k3, k3'⟩, k4⟩ := h5' y hy
    refine ⟨k1, k2, ⟨k3, ?_⟩, k4⟩
    show _ < (((zG V0 ++ [_]).length : Nat) : Int)
    rw [List.length_append]
    omega
/-- the name that is new -/
theorem snew_al (e : snew G σ = .inr (t1, .inr V1)) : ∃ t0, σ = .inr (t0, .inr V1) := by
  obtain ⟨e1, _⟩ := sgd_al e
  obtain ⟨t0, e2, _⟩ := sxp_al e1
  exact ⟨t0, e2⟩
theorem vGd_le (h : vGd G V) (e : slet G (.inr (t, .inr V)) = .inr (t1, .inr V1)) : vGd G V1 := by
  obtain ⟨V0, e1, e2⟩ := smp_al e
  obtain ⟨t2, V2, e3⟩ := sAl_ex (σ := slet3 G (.inr (t, .inr V))) ⟨_, _, e1⟩
  obtain ⟨t3, e4, _⟩ := sxp_al (e3 : sxp G 50 _ = _)
  obtain ⟨t4, e5⟩ := snew_al e4
  obtain ⟨e6, c6⟩ := shd_a2 e5
  subst e6
  have c6 := of_decide_eq_true c6
  rw [e3] at e1 e2
  obtain ⟨g1, ⟨c, x, g2⟩, _, g4⟩ := sex_gd (Or.inl rfl) e1
  have h0 := vGd_K (c := c) (x := x) h
  rw [← g2] at h0
  obtain ⟨h1, h2, h3, ⟨h4, h4'⟩, ⟨h5, h5'⟩, h6⟩ := h0
  have eL : zL V0 = zL V2 := by rw [g2]
  rw [if_neg (by decide), ← eL] at g4
  rw [e2]
  refine ⟨h1, h2, h3, ⟨?_, fun y hy => ?_⟩, ⟨h5, fun y hy => vTo_L (h5' y hy)⟩, ?_⟩
  · show (zL V0 ++ [_]).length ≤ 8
    rw [List.length_append, eL]
    show (zL V2).length + 1 ≤ 8
    omega
  · rcases List.mem_append.mp hy with hy | hy
    · exact ⟨(h4' y hy).1, sGc_L ⟨_, rfl⟩ (h4' y hy).2⟩
    · rw [List.mem_singleton.mp hy]
      exact ⟨g1, sGc_L ⟨_, rfl⟩ g4⟩
  · intro j i a hb
    obtain ⟨y, z, b, k1, k2, k3, k4, k5⟩ := h6 j i a hb
    refine ⟨y, z, b, k1, k2, k3, yIts_mo (fun _ _ _ => rfl) (fun _ _ _ => rfl) (fun st ty hg => ?_) 12 _ _ _ _ (Nat.le_refl _) (Nat.le_refl _) (Nat.le_refl _) (Nat.le_refl _) k4, k5⟩
    exact sGc_L ⟨_, rfl⟩ hg
theorem sscp_a2 (e : sscp G σ = .inr (t1, .inr V1)) : ∃ t0, σ = .inr (t0, .inr V1) ∧ (¬ skd G σ = 0 → 0 ≤ sgr G V1 (svl G σ)) := by
  unfold sscp at e
  split at e
  · rename_i z
    obtain ⟨t0, e1, _⟩ := snx_al e
    exact ⟨t0, e1, fun y => absurd z y⟩
  · obtain ⟨e1, c1⟩ := sgd_al e
    obtain ⟨t0, e2, _⟩ := sxp_al e1
    exact ⟨t0, e2, fun _ => of_decide_eq_true c1⟩
theorem sGc_T {C : yCo} {X : List (Nat × Nat)} {L T : List yDf} {st ty : Nat} {y : yDf} : sGc G C X L T st ty → sGc G C X L (T ++ [y]) st ty := by
  intro h
  obtain ⟨nm, decl, rd, tb, t, b, t', b', x, h1, h2, h3, h4, h5, h6⟩ := h
  refine ⟨nm, decl, rd, tb, t, b, t', b', x, h1, h2, h3, h4, h5, fun v op i y hv => ?_⟩
  rcases h6 v op i y hv with h | h | ⟨k1, k2, k3⟩
  · exact Or.inl h
  · exact Or.inr (Or.inl h)
  · refine Or.inr (Or.inr ⟨k1, by rw [List.length_append]; omega, ?_⟩)
    rw [k3, List.getD_eq_getElem?_getD, List.getD_eq_getElem?_getD, app_l k2]
theorem vGd_to (h : vGd G V) (e : stot G (.inr (t, .inr V)) = .inr (t1, .inr V1)) : vGd G V1 := by
  obtain ⟨V0, e1, e2⟩ := smp_al e
  have e3 : ∃ t6, stot6 G (.inr (t, .inr V)) = .inr (t6, .inr V0) ∧ (-2 ≤ stots G (.inr (t, .inr V)) V0 ∧ stots G (.inr (t, .inr V)) V0 < (zG V0).length) := by
    unfold stot7 at e1
    unfold stots
    split at e1
    · rename_i z
      obtain ⟨t0, f1, f2⟩ := sscp_a2 e1
      obtain ⟨t6, f3, _⟩ := snx_al f1
      refine ⟨t6, f3, ?_⟩
      rw [if_pos z]
      split
      · omega
      · rename_i y
        have := f2 y
        rcases sgr_b (G := G) (V := V0) (v := svl G (snx (stot6 G (.inr (t, .inr V))))) with k | ⟨k, k'⟩
        · omega
        · omega
    · rename_i z
      refine ⟨_, e1, ?_⟩
      rw [if_neg z]
      omega
  obtain ⟨t6, e4, s1, s2⟩ := e3
  obtain ⟨e5, c5⟩ := sgd_al e4
  have c5 := of_decide_eq_true c5
  obtain ⟨t4, V4, e6⟩ := sAl_ex (σ := stot4 G (.inr (t, .inr V))) ⟨_, _, e5⟩
  have e7 := e6
  unfold stot4 at e7
  split at e7
  · rename_i hT
    obtain ⟨t3, e8, _⟩ := snx_al e7
    obtain ⟨t2, e9, _⟩ := sxp_al (e8 : sxp G 50 _ = _)
    obtain ⟨t5, e10⟩ := snew_al e9
    obtain ⟨e11, c11⟩ := shd_a2 e10
    subst e11
    have c11 := of_decide_eq_true c11
    unfold sisT at hT
    have hT := of_decide_eq_true hT
    rw [e6] at e5 c5 e2
    obtain ⟨g1, ⟨c, x, g2⟩, _, g4⟩ := sex_gd (Or.inl rfl) e5
    have h0 := vGd_K (c := c) (x := x) h
    rw [← g2] at h0
    obtain ⟨h1, h2, h3, h4, ⟨h5, h5'⟩, h6⟩ := h0
    have eL : zL V0 = zL V4 := by rw [g2]
    have eT : zT V0 = zT V4 := by rw [g2]
    rw [if_neg (by decide), ← eL] at g4
    rw [e2]
    refine ⟨h1, h2, h3, h4, ⟨?_, fun y hy => ?_⟩, ?_⟩
    · show (zT V0 ++ [_]).length ≤ 8
      rw [List.length_append, eT]
      show (zT V4).length + 1 ≤ 8
      omega
    · rcases List.mem_append.mp hy with hy | hy
      · exact h5' y hy
      · rw [List.mem_singleton.mp hy]
        refine ⟨?_, hT, ⟨s1, s2⟩, sty G 1 0 (.inr (t4, .inr V4)), g1, g4, fun y6 => ?_, rfl⟩
        · show (if _ then 0 else _) ≤ 1
          split
          · omega
          · exact g1
        · have y6 : skd G (stot3 G (.inr (t, .inr V4))) = 6 := y6
          have : ¬ sty G 1 0 (.inr (t4, .inr V4)) = 1 := fun y => c5 ⟨y6, y⟩
          omega
    · intro j i a hb
      obtain ⟨y, z, b, k1, k2, k3, k4, k5⟩ := h6 j i a hb
      refine ⟨y, z, b, k1, k2, k3, yIts_mo (fun _ _ _ => rfl) (fun _ _ _ => rfl) (fun st ty hg => ?_) 12 _ _ _ _ (Nat.le_refl _) (Nat.le_refl _) (Nat.le_refl _) (Nat.le_refl _) k4, k5⟩
      exact sGc_T hg
  · exact (srf_al e7).elim
theorem sAl_dec (h : sAl (sdec G σ)) : sAl σ := by
  unfold sdec at h
  split at h
  · exact sAl_gd (sAl_nx (sAl_num (sAl_num (sAl_mp h))))
  · split at h
    · have h := sAl_xp (sAl_gd (sAl_mp h))
      unfold sord2 at h
      split at h
      · exact sAl_gd (sAl_nx (sAl_nx h))
      · exact sAl_gd (sAl_nx h)
    · split at h
      · exact sAl_gd (sAl_nx (sAl_xp (sAl_gd (sAl_gd (sAl_mp h)))))
      · split at h
        · exact sAl_gd (sAl_nx (sAl_xp (sAl_gd (sAl_xp (sAl_ex (sAl_mp h))))))
        · have h := sAl_mp h
          have h : sAl (stot6 G σ) := by
            unfold stot7 at h
            split at h
            · unfold sscp at h
              split at h
              · exact sAl_nx (sAl_nx h)
              · exact sAl_nx (sAl_xp (sAl_gd h))
            · exact h
          have h := sAl_ex (sAl_gd h)
          unfold stot4 at h
          split at h
          · exact sAl_gd (sAl_nx (sAl_xp (sAl_gd (sAl_xp (sAl_nx h)))))
          · exact (sAl_rf h).elim
theorem vGd_de (h : vGd G V) (e : sdec G (.inr (t, .inr V)) = .inr (t1, .inr V1)) : vGd G V1 := by
  unfold sdec at e
  split at e
  · exact vGd_pg h e
  · split at e
    · exact vGd_or h e
    · split at e
      · exact vGd_gr h e
      · split at e
        · exact vGd_le h e
        · exact vGd_to h e
/-- a loop keeps what its body keeps -/
theorem slp_gd {c : Nat → Bool} {g : yPS → yPS} (P : yPV → Prop) (ha : ∀ σ, sAl (g σ) → sAl σ) (hg : ∀ t V t1 V1, P V → c (gT G t).1 = true → g (.inr (t, .inr V)) = .inr (t1, .inr V1) → P V1) : ∀ (n t : Nat) (V : yPV) (t1 : Nat) (V1 : yPV), P V → slp G c g n (.inr (t, .inr V)) = .inr (t1, .inr V1) → P V1
  | 0, t, V, t1, V1, hP, h => by
    have h : (Sum.inr (t, .inr V) : yPS) = .inr (t1, .inr V1) := h
    injection h with h
    injection h with _ h
    injection h with h
    rw [← h]
    exact hP
  | n + 1, t, V, t1, V1, hP, h => by
    have h : (if c (gT G t).1 = true then slp G c g n (g (.inr (t, .inr V))) else .inr (t, .inr V)) = .inr (t1, .inr V1) := h
    split at h
    · rename_i hc
      obtain ⟨t2, V2, e2⟩ := sAl_lp ha n _ ⟨t1, V1, h⟩
      rw [e2] at h
      exact slp_gd P ha hg n t2 V2 t1 V1 (hg _ _ _ _ hP hc e2) h
    · injection h with h
      injection h with _ h
      injection h with h
      rw [← h]
      exact hP
theorem sbod_k (h67 : ∀ t, (gT G t).1 < 67) (h3 : (zG V).length ≤ 3) : sbod G σ = decide (sbnb G σ V ≠ 1 ∧ sbnb G σ V ≠ 2) := by
  have hk : skd G (sbn1 G σ) < 67 := by
    rcases sbn1 G σ with p | ⟨t, κ⟩
    · show 66 < 67
      omega
    · exact h67 t
  obtain ⟨r1, r2, r3, r4, r5, r6, r7⟩ := ybd_r _ hk
  have key : (¬ skd G (sbn1 G σ) = 15 ∧ ¬ skd G (sbn1 G σ) = 16) ↔ (sbnb G σ V ≠ 1 ∧ sbnb G σ V ≠ 2) := by
    have hs : -1 ≤ sgr G V (svl G (sbn2 G σ)) := by
      unfold sgr
      split
      · omega
      · exact (yfg_rng _ _).1
    have hs2 := sgr_b (G := G) (V := V) (v := svl G (sbn2 G σ))
    unfold sbnb
    by_cases z1 : skd G (sbn1 G σ) = 17
    · rw [if_pos z1]
      omega
    · rw [if_neg z1]
      by_cases z2 : skd G (sbn1 G σ) = 19
      · rw [if_pos z2]
        omega
      · rw [if_neg z2]
        omega
  unfold sbod
  exact decide_eq_decide.mpr key
theorem sAl_bnd (h : sAl (sbnd G σ)) : sAl σ := by
  have h := sAl_mp (sAl_its 12 _ (sAl_mp (sAl_xp (sAl_mp h))))
  obtain ⟨t, V0, t3, e, _⟩ := sbn5_al h
  exact ⟨t, V0, e⟩
theorem vGd_bn (h67 : ∀ t, (gT G t).1 < 67) (h : vGd G V) (e : sbnd G (.inr (t, .inr V)) = .inr (t1, .inr V1)) : vGd G V1 := by
  obtain ⟨Vd, e1, e2⟩ := smp_al e
  obtain ⟨t4, e3, _⟩ := sxp_al e1
  obtain ⟨Vc, e4, e5⟩ := smp_al e3
  obtain ⟨t5, Vb, e6⟩ := sAl_its 12 _ ⟨_, _, e4⟩
  obtain ⟨Va, e7, e8⟩ := smp_al e6
  obtain ⟨t0, V0, t3, f1, f2, f3⟩ := sbn5_al (σ := .inr (t, .inr V)) ⟨_, _, e7⟩
  injection f1 with f1
  injection f1 with _ f1
  injection f1 with f1
  subst f1
  obtain ⟨f4, _⟩ := sgd_al e7
  rw [f2] at f4
  injection f4 with f4
  injection f4 with f5 f4
  injection f4 with f4
  rw [← f4] at e8
  obtain ⟨k, hk⟩ : ∃ k, k = sbnb G (.inr (t, .inr V)) (sadI 13 0 0 V) := ⟨_, rfl⟩
  have hbod := sbod_k (G := G) (V := sadI 13 0 0 V) (σ := .inr (t, .inr V)) h67 h.2.2.1.1
  rw [← hk] at e8 f3 hbod
  rw [hbod, e6] at e4
  obtain ⟨h1, h2, h3, h4, h5, h6⟩ := h
  have ePb : zPg Vb = zPg V := by rw [e8]; rfl
  obtain ⟨x1, x2⟩ := sits_gd 12 t5 Vb t4 Vc (by rw [ePb]; exact h1.2.1.2) e4
  have iVb : zI Vb = zI V ++ [(13, 0, 0, (zI V).length + 1)] := by rw [e8]; rfl
  have pVb : zP Vb = zP V := by rw [e8]; rfl
  have bVb : zB Vb = fun j => if j = k then some ((zI V).length, (zP V).length) else zB V j := by rw [e8]; rfl
  obtain ⟨⟨lI, xI⟩, ⟨lP, xP⟩, xC, xX, x5, x6, x7, x8, x9, x10⟩ := id x1
  have gI : (zI Vc)[(zI V).length]? = some (13, 0, 0, (zI V).length + 1) := by
    rw [xI, List.getElem?_append_left (by rw [iVb, List.length_append]; show (zI V).length < (zI V).length + 1; omega), iVb]
    exact last_get
  have lIc : (zI V).length < (zI Vc).length := (List.getElem?_eq_some_iff.mp gI).1
  have i1 : zI V1 = (zI Vc).set (zI V).length (13, 0, 0, (zI Vc).length) := by
    rw [e2, e5]
    show (zI Vc).set (zI V).length (((zI Vc).getD (zI V).length dIe).1, ((zI Vc).getD (zI V).length dIe).2.1, ((zI Vc).getD (zI V).length dIe).2.2.1, (zI Vc).length) = _
    rw [getD_of gI]
  have p1 : zP V1 = zP Vc ++ [(11, 0, 0, 0)] := by rw [e2, e5]; rfl
  have b1 : zB V1 = zB Vc := by rw [e2, e5]; rfl
  have c1 : zC V1 = zC Vc ∧ zX V1 = zX Vc ∧ zL V1 = zL Vc ∧ zT V1 = zT Vc ∧ zPg V1 = zPg Vc ∧ zO V1 = zO Vc ∧ zG V1 = zG Vc := by
    rw [e2, e5]
    exact ⟨rfl, rfl, rfl, rfl, rfl, rfl, rfl⟩
  obtain ⟨cC, cX, cL, cT, cP, cO, cG⟩ := c1
  have dVb : zC Vb = zC V ∧ zX Vb = zX V ∧ zL Vb = zL V ∧ zT Vb = zT V ∧ zPg Vb = zPg V ∧ zO Vb = zO V ∧ zG Vb = zG V := by
    rw [e8]
    exact ⟨rfl, rfl, rfl, rfl, rfl, rfl, rfl⟩
  obtain ⟨dC, dX, dL, dT, dP, dO, dG⟩ := dVb
  have eC : ∃ l, zC V1 = zC V ++ l := by rw [cC, ← dC]; exact xC
  have eX : ∃ l, zX V1 = zX V ++ l := by rw [cX, ← dX]; exact xX
  have eL : zL V1 = zL V := by rw [cL, x8, dL]
  have eT : zT V1 = zT V := by rw [cT, x9, dT]
  have eP : zPg V1 = zPg V := by rw [cP, x5, dP]
  have eO : zO V1 = zO V := by rw [cO, x6, dO]
  have eG : zG V1 = zG V := by rw [cG, x7, dG]
  have lI1 : (zI V1).length = (zI Vc).length := by rw [i1, List.length_set]
  have gd1 : ∀ st ty, sGd G Vc st ty → sGd G V1 st ty := fun st ty hg => by
    unfold sGd at hg ⊢
    rw [cC, cX, cL, cT]
    exact hg
  unfold vGd
  rw [eP, eO, eG, eL, eT]
  refine ⟨h1, h2, h3, ⟨h4.1, fun y hy => ⟨(h4.2 y hy).1, sGc_mo eC eX (h4.2 y hy).2⟩⟩, ⟨h5.1, fun y hy => ?_⟩, fun j i a hb => ?_⟩
  · obtain ⟨k1, k2, k3, ty, k4, k5, k6⟩ := h5.2 y hy
    refine ⟨k1, k2, by rw [eG]; exact k3, ty, k4, ?_, k6⟩
    rw [eL]
    exact sGc_mo eC eX k5
  · rw [b1, x10, bVb] at hb
    have hb : (if j = k then some ((zI V).length, (zP V).length) else zB V j) = some (i, a) := hb
    by_cases z : j = k
    · rw [if_pos z] at hb
      injection hb with hb
      injection hb with hi ha
      subst z
      rw [iVb, pVb, List.length_append] at x2
      have x2 : yIts (zI Vc) (zP Vc) (sGd G Vc) (decide (j ≠ 1 ∧ j ≠ 2)) 12 ((zI V).length + 1) (zI Vc).length (zP V).length (zP Vc).length := x2
      refine ⟨(13, 0, 0, (zI Vc).length), (11, 0, 0, 0), (zP Vc).length, by rw [i1, ← hi]; exact set_eq lIc, rfl, by rw [lI1]; exact Nat.le_refl _, ?_, by rw [p1]; exact last_get, rfl⟩
      rw [← hi, ← ha]
      exact yIts_mo (i0 := (zI V).length + 1) (j0 := (zI Vc).length) (a0 := 0) (b0 := (zP Vc).length) (fun kk h1 _ => by rw [i1]; exact set_ne (by omega)) (fun kk _ h2 => by rw [p1]; exact app_l h2) gd1 12 _ _ _ _ (Nat.le_refl _) (Nat.le_refl _) (Nat.zero_le _) (Nat.le_refl _) x2
    · rw [if_neg z] at hb
      obtain ⟨y, zz, b, k1, k2, k3, k4, k5, k6⟩ := h6 j i a hb
      have li := (List.getElem?_eq_some_iff.mp k1).1
      have lb := (List.getElem?_eq_some_iff.mp k5).1
      have hI : ∀ kk, kk < (zI V).length → (zI V1)[kk]? = (zI V)[kk]? := fun kk hkk => by
        rw [i1, set_ne (by omega), xI, List.getElem?_append_left (by rw [iVb, List.length_append]; omega), iVb, app_l hkk]
      have hP : ∀ kk, kk < (zP V).length → (zP V1)[kk]? = (zP V)[kk]? := fun kk hkk => by
        rw [p1, app_l (by rw [xP, List.length_append, pVb]; omega), xP, List.getElem?_append_left (by rw [pVb]; exact hkk), pVb]
      refine ⟨y, zz, b, by rw [hI _ li]; exact k1, k2, by rw [lI1]; omega, ?_, by rw [hP _ lb]; exact k5, k6⟩
      exact yIts_mo (i0 := 0) (j0 := (zI V).length) (a0 := 0) (b0 := (zP V).length) (fun kk _ h2 => hI kk h2) (fun kk _ h2 => hP kk h2) (fun st ty hg => by
        unfold sGd at hg ⊢
        rw [eL, eT]
        exact sGc_mo eC eX hg) 12 _ _ _ _ (Nat.zero_le _) k3 (Nat.zero_le _) (by omega) k4
theorem spro_gd (h67 : ∀ t, (gT G t).1 < 67) (h : vGd G V) (e : sprc G (.inr (t, .inr V)) = .inr (t1, .inr V1)) : vGd G V1 := by
  unfold sprc send at e
  split at e
  · obtain ⟨t2, V2, e2⟩ := sAl_lp (G := G) (c := fun kd => decide (kd = 13)) (g := sbnd G) (fun σ => sAl_bnd) 2000 _ ⟨_, _, e⟩
    have g2 := slp_gd (G := G) (c := sisD) (g := sdec G) (vGd G) (fun σ => sAl_dec) (fun t V t1 V1 hV _ e => vGd_de hV e) 2000 _ _ _ _ h e2
    rw [e2] at e
    exact slp_gd (G := G) (c := fun kd => decide (kd = 13)) (g := sbnd G) (vGd G) (fun σ => sAl_bnd) (fun t V t1 V1 hV _ e => vGd_bn h67 hV e) 2000 _ _ _ _ g2 e
  · exact (srf_al e).elim
theorem vGd_0 : vGd G yV0 := ⟨⟨by decide, by decide, by decide, by decide⟩, ⟨by decide, fun x y => (nomatch y)⟩, ⟨by decide, fun x y => (nomatch y)⟩, ⟨by decide, fun x y => (nomatch y)⟩, ⟨by decide, fun x y => (nomatch y)⟩, fun j i a y => (nomatch y)⟩
end YSNL
end YSN
