/-! A PROGRAM's ITEMS: items are side by side -/
section YSL
def gGd (G : yGx) (bd : Bool) (rd : Nat) (g : yPS → yPS) : Prop := ∀ (t : Nat) (V : yPV) (t1 : Nat) (V1 : yPV), (zPg V).2.1 ≤ 60 → g (.inr (t, .inr V)) = .inr (t1, .inr V1) → vEx V V1 ∧ yIts (zI V1) (zP V1) (sGd G V1) bd rd (zI V).length (zI V1).length (zP V).length (zP V1).length
section YSLL
variable {G : yGx} {V V1 V2 Vb : yPV} {σ : yPS} {α : Type}
theorem set_ne {l : List α} {i k : Nat} {x : α} (h : k ≠ i) : (l.set i x)[k]? = l[k]? := by
  rw [List.getElem?_set, if_neg (fun e => h e.symm)]
theorem set_eq {l : List α} {i : Nat} {x : α} (h : i < l.length) : (l.set i x)[i]? = some x := by
  rw [List.getElem?_set, if_pos rfl, if_pos h]
theorem getD_of {l : List α} {i : Nat} {x d : α} (h : l[i]? = some x) : l.getD i d = x := by
  rw [List.getD_eq_getElem?_getD, h]
  rfl
theorem app_l {l : List α} {k : Nat} {x : α} (h : k < l.length) : (l ++ [x])[k]? = l[k]? := List.getElem?_append_left h
theorem yIl_nil {one : Nat → Nat → Nat → Nat → Prop} {i a : Nat} : ∀ f, yIl one f i i a a
  | 0 => ⟨rfl, rfl⟩
  | f + 1 => Or.inl ⟨rfl, rfl⟩
theorem yIts_nil {I P : List yIe} {Gd : Nat → Nat → Prop} {bd : Bool} (rd i a : Nat) : yIts I P Gd bd rd i i a a := by
  cases rd with
  | zero => exact yIl_nil 2000
  | succ rd => exact yIl_nil 2000
theorem sitm_gd {body : Bool} {sub : Option (yPS → yPS)} {rd dp t t1 : Nat} (hg : ∀ g, sub = some g → gGd G body rd g ∧ ∀ σ, sAl (g σ) → sAl σ) (h60 : (zPg V).2.1 ≤ 60) (hsI : sisI (gT G t).1 = true) (h : sitm G body dp sub (.inr (t, .inr V)) = .inr (t1, .inr V1)) : vEx V V1 ∧ yIw (zI V1) (zP V1) (sGd G V1) body (fun i j a b => (∃ g, sub = some g) ∧ yIts (zI V1) (zP V1) (sGd G V1) body rd i j a b) (zI V).length (zI V1).length (zP V).length (zP V1).length := by
  rw [sitm_e] at h
  obtain ⟨Vb, hb, eb⟩ := smp_al h
  have al := sAl_mp (sAl_itw (body := body) (fun g σ e => (hg g e).2 σ) ⟨t1, Vb, hb⟩)
  obtain ⟨t', V', h0⟩ := al
  obtain ⟨h0', hc⟩ := sgd_al h0
  injection h0' with h0'
  injection h0' with e1 e2
  injection e2 with e2
  subst e1 e2
  rw [h0] at hb eb
  have hc := of_decide_eq_true hc
  obtain ⟨kd, hkd⟩ : ∃ kd, kd = skd G (.inr (t, .inr V)) := ⟨_, rfl⟩
  obtain ⟨i, hi⟩ : ∃ i, i = (zI V).length := ⟨_, rfl⟩
  obtain ⟨a, ha⟩ : ∃ a, a = (zP V).length := ⟨_, rfl⟩
  obtain ⟨Va, hVa⟩ : ∃ Va, Va = sadI kd 0 0 V := ⟨_, rfl⟩
  have es1 : sln (fun V => (zI V).length) (.inr (t, .inr V)) = i := hi.symm
  have es2 : sln (fun V => (zP V).length) (.inr (t, .inr V)) = a := ha.symm
  have es3 : smp (sadI kd 0 0) (.inr (t, .inr V)) = .inr (t, .inr Va) := by rw [hVa]; rfl
  rw [es1, es2, ← hkd, es3] at hb
  rw [es1] at eb
  rw [← hkd] at hc
  have xVa : vEx V Va := by rw [hVa]; exact vEx_ad vEx_rf
  have iVa : (zI Va).length = i + 1 := by
    rw [hVa, hi]
    show (zI V ++ [_]).length = _
    rw [List.length_append]
    rfl
  have gVa : (zI Va)[i]? = some (kd, 0, 0, i + 1) := by
    rw [hVa, hi]
    exact last_get
  have pVa : zP Va = zP V := by rw [hVa]; rfl
  have p60 : (zPg Va).2.1 ≤ 60 := by rw [hVa]; exact h60
  -- its end is put down
  have fin : ∀ (n c e0 : Nat), vEx V Vb → (zI Vb)[i]? = some (kd, n, c, e0) → vEx V V1 ∧ (zI V1).length = (zI Vb).length ∧ zP V1 = zP Vb ∧ sGd G V1 = sGd G Vb ∧ (zI V1)[i]? = some (kd, n, c, (zI V1).length) ∧ (∀ k, i < k → (zI V1)[k]? = (zI Vb)[k]?) := by
    intro n c e0 hx hgi
    have hlt := (List.getElem?_eq_some_iff.mp hgi).1
    have hl : (zI V1).length = (zI Vb).length := by
      rw [eb]
      show ((zI Vb).set i _).length = _
      rw [List.length_set]
    refine ⟨by rw [eb]; exact vEx_eI hx (by omega), hl, by rw [eb]; rfl, by rw [eb]; rfl, ?_, fun k hk => ?_⟩
    · rw [hl, eb]
      show ((zI Vb).set i _)[i]? = _
      rw [set_eq hlt, getD_of hgi]
    · rw [eb]
      show ((zI Vb).set i _)[k]? = _
      rw [set_ne (by omega)]
  rw [← hi, ← ha]
  unfold sitw at hb
  by_cases z22 : kd = 22
  · -- a line
    rw [if_pos z22] at hb
    unfold slin at hb
    have ea : smp (slyP (0, 0, 0, 0)) (snx (.inr (t, .inr Va))) = .inr (t + 1, .inr (slyP (0, 0, 0, 0) Va)) := rfl
    rw [ea] at hb
    obtain ⟨V3, hl, e3⟩ := smp_al hb
    have es4 : sln (fun V => (zP V).length) (.inr (t, .inr Va)) = a := by
      show (zP Va).length = a
      rw [pVa, ha]
    rw [es4] at e3
    obtain ⟨x1, m, x2, x3, x4⟩ := spcs_gd 2000 (t + 1) t1 (slyP (0, 0, 0, 0) Va) V3 p60 hl
    have x2 : (zI V3).length = i + 1 + m := by rw [← iVa]; exact x2
    have lP2 : (zP (slyP (0, 0, 0, 0) Va)).length = a + 1 := by
      show (zP Va ++ [_]).length = _
      rw [pVa, List.length_append, ha]
      rfl
    have x3 : (zP V3).length = a + 1 + m := by rw [← lP2]; exact x3
    have lI2 : (zI (slyP (0, 0, 0, 0) Va)).length = i + 1 := iVa
    rw [lI2, lP2] at x4
    obtain ⟨l1, y1⟩ := x1.1
    obtain ⟨l2, y2⟩ := x1.2.1
    have g3 : (zI V3)[i]? = some (kd, 0, 0, i + 1) := by
      rw [app_get y1 (by rw [lI2]; omega)]
      exact gVa
    have p3 : (zP V3)[a]? = some (0, 0, 0, 0) := by
      rw [app_get y2 (by rw [lP2]; omega)]
      show (zP Va ++ [(0, 0, 0, 0)])[a]? = _
      rw [pVa, ha]
      exact last_get
    have eP : zP Vb = (zP V3 ++ [(3, 0, 0, 0)]).set a (0, (zP V3).length + 1, 0, 0) := by
      rw [e3]
      show (zP V3 ++ [(3, 0, 0, 0)]).set a (((zP V3 ++ [(3, 0, 0, 0)]).getD a dIe).1, (zP V3).length + 1, ((zP V3 ++ [(3, 0, 0, 0)]).getD a dIe).2.2.1, ((zP V3 ++ [(3, 0, 0, 0)]).getD a dIe).2.2.2) = _
      rw [getD_of (x := (0, 0, 0, 0)) (by rw [app_l (by omega)]; exact p3)]
    have eI : zI Vb = zI V3 := by rw [e3]; rfl
    have eGd : sGd G Vb = sGd G V3 := by rw [e3]; rfl
    have lPb : (zP Vb).length = a + 1 + m + 1 := by
      rw [eP, List.length_set, List.length_append, x3]
      rfl
    have xV3 : vEx V V3 := vEx_tr (vEx_ly xVa) x1
    obtain ⟨f1, f2, f3, f4, f5, f6⟩ := fin 0 0 (i + 1) (by rw [e3]; exact vEx_aP (vEx_ly xV3) (by omega)) (by rw [eI]; exact g3)
    refine ⟨f1, (kd, 0, 0, (zI V1).length), (0, (zP V3).length + 1, 0, 0), f5, ?_, rfl, hc, Or.inl ⟨z22, rfl, ?_, ⟨(3, 0, 0, 0), ?_, rfl⟩, ?_, ?_, fun k hk => ?_⟩⟩
    · rw [f3, eP, set_eq (by rw [List.length_append]; omega)]
    · show (zP V3).length + 1 = _
      rw [f3, lPb]
      omega
    · rw [f3, lPb, eP, set_ne (by omega)]
      have : a + 1 + m + 1 - 1 = (zP V3).length := by omega
      rw [this]
      exact last_get
    · rw [f3, lPb, f2, eI, x2]
      omega
    · rw [f2, eI, x2]
      omega
    · rw [f2, eI, x2] at hk
      obtain ⟨p, r, w1, w2, w3⟩ := x4 k (by omega)
      refine ⟨p, r, ?_, ?_, ?_⟩
      · rw [f6 _ (by omega), eI]
        exact w1
      · rw [f3, eP, set_ne (by omega), app_l (by omega)]
        exact w2
      · rw [f4, eGd]
        exact w3
  rw [if_neg z22] at hb
  by_cases z24 : kd = 24 ∨ kd = 25
  · -- lines skipped or needed
    rw [if_pos z24] at hb
    obtain ⟨V3, hl, e3⟩ := smp_al hb
    obtain ⟨t0, hl, _, l1, l2, _⟩ := snum_al hl
    obtain ⟨t3, hl, _⟩ := snx_al hl
    injection hl with hl
    injection hl with _ hl
    injection hl with hl
    subst hl
    obtain ⟨v, hv⟩ : ∃ v, v = sfv G (snx (.inr (t, .inr Va))) := ⟨_, rfl⟩
    have hv2 : 1 ≤ v ∧ v ≤ 40 := by
      rw [hv]
      unfold sfv
      omega
    rw [← hv] at e3
    have eI : zI Vb = (zI Va).set i (kd, v, 0, i + 1) := by
      rw [e3]
      show (zI Va).set i (((zI Va).getD i dIe).1, v, ((zI Va).getD i dIe).2.2.1, ((zI Va).getD i dIe).2.2.2) = _
      rw [getD_of gVa]
    have eP : zP Vb = zP V ++ [(kd - 20, v, 0, 0)] := by
      rw [e3]
      show zP Va ++ _ = _
      rw [pVa]
    obtain ⟨f1, f2, f3, f4, f5, f6⟩ := fin v 0 (i + 1) (by rw [e3]; exact vEx_ly (vEx_nI xVa (by omega))) (by rw [eI, set_eq (by omega)])
    have lI : (zI V1).length = i + 1 := by rw [f2, eI, List.length_set, iVa]
    have lP : (zP V1).length = a + 1 := by rw [f3, eP, List.length_append, ha]; rfl
    have ga : (zP V1)[a]? = some (kd - 20, v, 0, 0) := by
      rw [f3, eP, ha]
      exact last_get
    refine ⟨f1, (kd, v, 0, (zI V1).length), (kd - 20, v, 0, 0), f5, ga, rfl, hc, ?_⟩
    rcases z24 with z | z
    · exact Or.inr (Or.inl ⟨z, by show kd - 20 = 4; omega, rfl, hv2.1, hv2.2, lI, lP⟩)
    · exact Or.inr (Or.inr (Or.inl ⟨z, by show kd - 20 = 5; omega, rfl, hv2.1, hv2.2, lI, lP⟩))
  rw [if_neg z24] at hb
  by_cases z27 : kd = 27
  · rw [if_pos z27] at hb
    rcases hs : sub with _ | g
    · rw [hs] at hb
      exact (srf_al hb).elim
    · rw [hs] at hb
      obtain ⟨hgg, hga⟩ := hg g hs
      obtain ⟨t5, hb, _⟩ := sxp_al hb
      obtain ⟨V5, h5, e5⟩ := smp_al hb
      have h5 : g (.inr (t + 1, .inr (slyP (7, 0, 0, 0) Va))) = .inr (t5, .inr V5) := h5
      obtain ⟨x1, x2⟩ := hgg (t + 1) (slyP (7, 0, 0, 0) Va) t5 V5 p60 h5
      have lI2 : (zI (slyP (7, 0, 0, 0) Va)).length = i + 1 := iVa
      have lP2 : (zP (slyP (7, 0, 0, 0) Va)).length = a + 1 := by
        show (zP Va ++ [_]).length = _
        rw [pVa, List.length_append, ha]
        rfl
      rw [lI2, lP2] at x2
      have hle := yIts_le rd _ _ _ _ x2
      obtain ⟨l1, y1⟩ := x1.1
      obtain ⟨l2, y2⟩ := x1.2.1
      have g5 : (zI V5)[i]? = some (kd, 0, 0, i + 1) := by
        rw [app_get y1 (by rw [lI2]; omega)]
        exact gVa
      have p5 : (zP V5)[a]? = some (7, 0, 0, 0) := by
        rw [app_get y2 (by rw [lP2]; omega)]
        show (zP Va ++ [(7, 0, 0, 0)])[a]? = _
        rw [pVa, ha]
        exact last_get
      have eP : zP Vb = (zP V5 ++ [(8, 0, 0, 0)]).set a (7, (zP V5).length, 0, 0) := by
        rw [e5]
        show (zP V5 ++ [(8, 0, 0, 0)]).set a (((zP V5 ++ [(8, 0, 0, 0)]).getD a dIe).1, (zP V5).length, ((zP V5 ++ [(8, 0, 0, 0)]).getD a dIe).2.2.1, ((zP V5 ++ [(8, 0, 0, 0)]).getD a dIe).2.2.2) = _
        rw [getD_of (x := (7, 0, 0, 0)) (by rw [app_l (by omega)]; exact p5)]
      have eI : zI Vb = zI V5 := by rw [e5]; rfl
      have eGd : sGd G Vb = sGd G V5 := by rw [e5]; rfl
      have lPb : (zP Vb).length = (zP V5).length + 1 := by
        rw [eP, List.length_set, List.length_append]
        rfl
      have xV5 : vEx V V5 := vEx_tr (vEx_ly xVa) x1
      obtain ⟨f1, f2, f3, f4, f5, f6⟩ := fin 0 0 (i + 1) (by rw [e5]; exact vEx_aP (vEx_ly xV5) (by omega)) (by rw [eI]; exact g5)
      refine ⟨f1, (kd, 0, 0, (zI V1).length), (7, (zP V5).length, 0, 0), f5, ?_, rfl, hc, Or.inr (Or.inr (Or.inr (Or.inr (Or.inl ⟨z27, rfl, (8, 0, 0, 0), ?_, rfl, ?_, ⟨g, rfl⟩, ?_⟩))))⟩
      · rw [f3, eP, set_eq (by rw [List.length_append]; omega)]
      · rw [f3, eP]
        show (_ : List yIe)[(zP V5).length]? = _
        rw [set_ne (by omega)]
        exact last_get
      · show (zP V1).length = (zP V5).length + 1
        rw [f3, lPb]
      · show yIts (zI V1) (zP V1) (sGd G V1) body rd (i + 1) (zI V1).length (a + 1) (zP V5).length
        rw [f2, eI]
        exact yIts_mo (i0 := i + 1) (j0 := (zI V5).length) (a0 := a + 1) (b0 := (zP V5).length) (fun k h1 h2 => by rw [f6 k (by omega), eI]) (fun k h1 h2 => by rw [f3, eP, set_ne (by omega), app_l h2]) (fun st ty hq => by rw [f4, eGd]; exact hq) rd _ _ _ _ (Nat.le_refl _) (Nat.le_refl _) (Nat.le_refl _) (Nat.le_refl _) x2
  rw [if_neg z27] at hb
  by_cases z28 : kd = 28
  · rw [if_pos z28] at hb
    rcases hs : sub with _ | g
    · rw [hs] at hb
      exact (srf_al hb).elim
    · rw [hs] at hb
      obtain ⟨hgg, hga⟩ := hg g hs
      obtain ⟨pl, hpl⟩ : ∃ pl, pl = spl G (.inr (t, .inr V)) := ⟨_, rfl⟩
      rw [← hpl] at hb
      unfold sch at hb
      obtain ⟨t9, hb, _⟩ := sxp_al hb
      obtain ⟨V9, h9, e9⟩ := smp_al hb
      have al4 : sAl (sch4 G dp i a pl g (.inr (t, .inr Va))) := by
        have h9' := h9
        unfold sch5 at h9'
        split at h9'
        · exact sAl_nx (hga _ ⟨_, _, h9'⟩)
        · exact ⟨_, _, h9'⟩
      obtain ⟨t6, V6, h6⟩ := sAl_mp al4
      have eg : sln (fun V => (zP V).length) (sch3 G dp i pl g (.inr (t, .inr Va))) = (zP V6).length := by rw [h6]; rfl
      rw [eg] at e9
      obtain ⟨V7, hV7⟩ : ∃ V7, V7 = sbP a ((zP V6).length + 1) (slyP (10, 0, 0, 0) (snI i (zI V6).length V6)) := ⟨_, rfl⟩
      have h7 : sch4 G dp i a pl g (.inr (t, .inr Va)) = .inr (t6, .inr V7) := by
        unfold sch4
        rw [h6, hV7]
        rfl
      obtain ⟨V3, hV3⟩ : ∃ V3, V3 = scI i (zC Va).length Va := ⟨_, rfl⟩
      have h3 : sch1 i (.inr (t, .inr Va)) = .inr (t + 1, .inr V3) := by rw [hV3]; rfl
      obtain ⟨st, hst⟩ : ∃ st, st = (zC Va).length := ⟨_, rfl⟩
      have cV3 : (zC V3).length = st := by rw [hV3, hst]; rfl
      -- the condition
      have h6' := h6
      unfold sch3 at h6'
      obtain ⟨t5, V5, h5⟩ := hga _ ⟨_, _, h6'⟩
      rw [h5] at h6'
      obtain ⟨t4, h5, _⟩ := sxp_al h5
      obtain ⟨V4, h5, e5⟩ := smp_al h5
      unfold sch2 at h5
      obtain ⟨h5, hty⟩ := sgd_al h5
      have hty := of_decide_eq_true hty
      rw [h3] at h5 hty
      have es5 : sln (fun V => (zC V).length) (sch1 i (.inr (t, .inr Va))) = st := by rw [h3]; exact cV3
      rw [es5] at e5
      obtain ⟨w1, ⟨cc, xx, hV4⟩, w2, _⟩ := sex_gd (Or.inr rfl) h5
      have w2 := w2 rfl
      obtain ⟨ty, hty2⟩ : ∃ ty, ty = sty G 2 (dp + 1) (.inr (t + 1, .inr V3)) := ⟨_, rfl⟩
      rw [← hty2] at w1 w2 hty
      have ty0 : ty = 0 := by omega
      rw [ty0, cV3] at w2
      have x4 : vEx V V4 := by
        rw [hV4]
        refine vEx_K ?_
        rw [hV3]
        exact vEx_cI xVa (by omega)
      have eI3 : zI V3 = (zI Va).set i (kd, 0, st, i + 1) := by
        rw [hV3]
        show (zI Va).set i (((zI Va).getD i dIe).1, ((zI Va).getD i dIe).2.1, (zC Va).length, ((zI Va).getD i dIe).2.2.2) = _
        rw [getD_of gVa, ← hst]
      have eI4 : zI V4 = zI V3 := by rw [hV4]
      have eI5 : zI V5 = zI V3 := by rw [e5]; exact eI4
      have eP4 : zP V4 = zP V := by rw [hV4, hV3]; exact pVa
      have eP5 : zP V5 = zP V ++ [(9, st, 0, 0)] := by
        rw [e5]
        show zP V4 ++ _ = _
        rw [eP4]
      have lI5 : (zI V5).length = i + 1 := by rw [eI5, eI3, List.length_set, iVa]
      have lP5 : (zP V5).length = a + 1 := by rw [eP5, List.length_append, ha]; rfl
      have x5 : vEx V V5 := by rw [e5]; exact vEx_ly x4
      have p605 : (zPg V5).2.1 ≤ 60 := by rw [x5.2.2.2.2.1]; exact h60
      obtain ⟨x6, y6⟩ := hgg t5 V5 t6 V6 p605 h6'
      rw [lI5, lP5] at y6
      have le6 := yIts_le rd _ _ _ _ y6
      obtain ⟨l1, q1⟩ := x6.1
      obtain ⟨l2, q2⟩ := x6.2.1
      have gI6 : (zI V6)[i]? = some (kd, 0, st, i + 1) := by
        rw [app_get q1 (by omega), eI5, eI3, set_eq (by omega)]
      have gP6 : (zP V6)[a]? = some (9, st, 0, 0) := by
        rw [app_get q2 (by omega), eP5, ha]
        exact last_get
      have eI7 : zI V7 = (zI V6).set i (kd, (zI V6).length, st, i + 1) := by
        rw [hV7]
        show (zI V6).set i (((zI V6).getD i dIe).1, (zI V6).length, ((zI V6).getD i dIe).2.2.1, ((zI V6).getD i dIe).2.2.2) = _
        rw [getD_of gI6]
      have eP7 : zP V7 = (zP V6 ++ [(10, 0, 0, 0)]).set a (9, st, (zP V6).length + 1, 0) := by
        rw [hV7]
        show (zP V6 ++ [(10, 0, 0, 0)]).set a (((zP V6 ++ [(10, 0, 0, 0)]).getD a dIe).1, ((zP V6 ++ [(10, 0, 0, 0)]).getD a dIe).2.1, (zP V6).length + 1, ((zP V6 ++ [(10, 0, 0, 0)]).getD a dIe).2.2.2) = _
        rw [getD_of (x := (9, st, 0, 0)) (by rw [app_l (by omega)]; exact gP6)]
      have lI7 : (zI V7).length = (zI V6).length := by rw [eI7, List.length_set]
      have lP7 : (zP V7).length = (zP V6).length + 1 := by
        rw [eP7, List.length_set, List.length_append]
        rfl
      have x6V : vEx V V6 := vEx_tr x5 x6
      have x7 : vEx V V7 := by
        rw [hV7]
        exact vEx_bP (vEx_ly (vEx_nI x6V (by omega))) (by omega)
      have p607 : (zPg V7).2.1 ≤ 60 := by rw [x7.2.2.2.2.1]; exact h60
      -- otherwise
      have two : vEx V7 V9 ∧ yIts (zI V9) (zP V9) (sGd G V9) body rd (zI V7).length (zI V9).length (zP V7).length (zP V9).length := by
        unfold sch5 at h9
        rw [h7] at h9
        split at h9
        · have h9 : g (.inr (t6 + 1, .inr V7)) = .inr (t9, .inr V9) := h9
          exact hgg (t6 + 1) V7 t9 V9 p607 h9
        · injection h9 with h9
          injection h9 with _ h9
          injection h9 with h9
          subst h9
          exact ⟨vEx_rf, yIts_nil rd _ _⟩
      obtain ⟨x9, y9⟩ := two
      rw [lI7, lP7] at y9
      have le9 := yIts_le rd _ _ _ _ y9
      obtain ⟨l3, q3⟩ := x9.1
      obtain ⟨l4, q4⟩ := x9.2.1
      have gI9 : (zI V9)[i]? = some (kd, (zI V6).length, st, i + 1) := by
        rw [app_get q3 (by omega), eI7, set_eq (by omega)]
      have gP9 : (zP V9)[a]? = some (9, st, (zP V6).length + 1, 0) := by
        rw [app_get q4 (by omega), eP7, set_eq (by rw [List.length_append]; omega)]
      have gP9g : (zP V9)[(zP V6).length]? = some (10, 0, 0, 0) := by
        rw [app_get q4 (by omega), eP7, set_ne (by omega)]
        exact last_get
      have eIb : zI Vb = zI V9 := by rw [e9]; rfl
      have ePb : zP Vb = (zP V9).set (zP V6).length (10, (zP V9).length, 0, 0) := by
        rw [e9]
        show (zP V9).set (zP V6).length (((zP V9).getD (zP V6).length dIe).1, (zP V9).length, ((zP V9).getD (zP V6).length dIe).2.2.1, ((zP V9).getD (zP V6).length dIe).2.2.2) = _
        rw [getD_of gP9g]
      have eGd : sGd G Vb = sGd G V9 := by rw [e9]; rfl
      have x9V : vEx V V9 := vEx_tr x7 x9
      obtain ⟨f1, f2, f3, f4, f5, f6⟩ := fin (zI V6).length st (i + 1) (by rw [e9]; exact vEx_aP x9V (by omega)) (by rw [eIb]; exact gI9)
      have lP1 : (zP V1).length = (zP V9).length := by rw [f3, ePb, List.length_set]
      have w9 : sGd G V9 st 0 := by
        have a1 : vEx V4 V5 := by rw [e5]; exact vEx_ly vEx_rf
        have e67 : sGd G V7 = sGd G V6 := by rw [hV7]; rfl
        exact sGd_ex x9 st 0 (by rw [e67]; exact sGd_ex (vEx_tr a1 x6) st 0 w2)
      refine ⟨f1, (kd, (zI V6).length, st, (zI V1).length), (9, st, (zP V6).length + 1, 0), f5, ?_, rfl, hc, Or.inr (Or.inr (Or.inr (Or.inr (Or.inr ⟨z28, rfl, rfl, ?_, (zP V6).length, (10, (zP V9).length, 0, 0), ?_, rfl, ?_, rfl, ⟨⟨g, rfl⟩, ?_⟩, ⟨⟨g, rfl⟩, ?_⟩⟩))))⟩
      · rw [f3, ePb, set_ne (by omega)]
        exact gP9
      · rw [f4, eGd]
        exact w9
      · rw [f3, ePb, set_eq (by omega)]
      · exact lP1.symm
      · show yIts (zI V1) (zP V1) (sGd G V1) body rd (i + 1) (zI V6).length (a + 1) (zP V6).length
        refine yIts_mo (i0 := i + 1) (j0 := (zI V6).length) (a0 := a + 1) (b0 := (zP V6).length) (fun k h1 h2 => ?_) (fun k h1 h2 => ?_) (fun st ty hq => ?_) rd _ _ _ _ (Nat.le_refl _) (Nat.le_refl _) (Nat.le_refl _) (Nat.le_refl _) y6
        · rw [f6 k (by omega), eIb, app_get q3 (by omega), eI7, set_ne (by omega)]
        · rw [f3, ePb, set_ne (by omega), app_get q4 (by omega), eP7, set_ne (by omega), app_l h2]
        · rw [f4, eGd]
          have e67 : sGd G V7 = sGd G V6 := by rw [hV7]; rfl
          exact sGd_ex x9 st ty (by rw [e67]; exact hq)
      · show yIts (zI V1) (zP V1) (sGd G V1) body rd (zI V6).length (zI V1).length ((zP V6).length + 1) (zP V1).length
        rw [f2, eIb, lP1]
        refine yIts_mo (i0 := (zI V6).length) (j0 := (zI V9).length) (a0 := (zP V6).length + 1) (b0 := (zP V9).length) (fun k h1 h2 => ?_) (fun k h1 h2 => ?_) (fun st ty hq => ?_) rd _ _ _ _ (Nat.le_refl _) (Nat.le_refl _) (Nat.le_refl _) (Nat.le_refl _) y9
        · rw [f6 k (by omega), eIb]
        · rw [f3, ePb, set_ne (by omega)]
        · rw [f4, eGd]
          exact hq
  · rw [if_neg z28] at hb
    obtain ⟨V3, hl, e3⟩ := smp_al hb
    obtain ⟨t3, hl, _⟩ := snx_al hl
    injection hl with hl
    injection hl with _ hl
    injection hl with hl
    subst hl
    have hk26 : kd = 26 := by
      unfold sisI at hsI
      have := of_decide_eq_true hsI
      have e : kd = (gT G t).1 := hkd
      omega
    have eI : zI Vb = zI Va := by rw [e3]; rfl
    have eP : zP Vb = zP V ++ [(6, 0, 0, 0)] := by
      rw [e3]
      show zP Va ++ _ = _
      rw [pVa]
    obtain ⟨f1, f2, f3, f4, f5, f6⟩ := fin 0 0 (i + 1) (by rw [e3]; exact vEx_ly xVa) (by rw [eI]; exact gVa)
    have lI : (zI V1).length = i + 1 := by rw [f2, eI, iVa]
    have lP : (zP V1).length = a + 1 := by rw [f3, eP, List.length_append, ha]; rfl
    exact ⟨f1, (kd, 0, 0, (zI V1).length), (6, 0, 0, 0), f5, by rw [f3, eP, ha]; exact last_get, rfl, hc, Or.inr (Or.inr (Or.inr (Or.inl ⟨hk26, rfl, lI, lP⟩)))⟩
theorem yIw_cg {I P : List yIe} {Gd : Nat → Nat → Prop} {bd : Bool} {s1 s2 : Nat → Nat → Nat → Nat → Prop} (h : ∀ i j a b, s1 i j a b → s2 i j a b) {i e a a' : Nat} (hw : yIw I P Gd bd s1 i e a a') : yIw I P Gd bd s2 i e a a' := by
  obtain ⟨x, y, h1, h2, h3, h4, h5⟩ := hw
  refine ⟨x, y, h1, h2, h3, h4, ?_⟩
  rcases h5 with h5 | h5 | h5 | h5 | ⟨k1, k2, z, k3, k4, k5, k6⟩ | ⟨k1, k2, k3, k4, g, z, k5, k6, k7, k8, k9, k10⟩
  · exact Or.inl h5
  · exact Or.inr (Or.inl h5)
  · exact Or.inr (Or.inr (Or.inl h5))
  · exact Or.inr (Or.inr (Or.inr (Or.inl h5)))
  · exact Or.inr (Or.inr (Or.inr (Or.inr (Or.inl ⟨k1, k2, z, k3, k4, k5, h _ _ _ _ k6⟩))))
  · exact Or.inr (Or.inr (Or.inr (Or.inr (Or.inr ⟨k1, k2, k3, k4, g, z, k5, k6, k7, k8, h _ _ _ _ k9, h _ _ _ _ k10⟩))))
/-- items, one behind the other -/
theorem sitl_gd {body : Bool} {sub : Option (yPS → yPS)} {rd dp : Nat} (hg : ∀ g, sub = some g → gGd G body rd g ∧ ∀ σ, sAl (g σ) → sAl σ) {R : List yIe → List yIe → (Nat → Nat → Prop) → Nat → Nat → Nat → Nat → Prop} (hR : ∀ I P Gd i j a b, (∃ g, sub = some g) → yIts I P Gd body rd i j a b → R I P Gd i j a b) (hRl : ∀ I P Gd i j a b, R I P Gd i j a b → i ≤ j ∧ a ≤ b) (hRm : ∀ I P I' P' Gd Gd' i0 j0 a0 b0, (∀ k, i0 ≤ k → k < j0 → I'[k]? = I[k]?) → (∀ k, a0 ≤ k → k < b0 → P'[k]? = P[k]?) → (∀ st ty, Gd st ty → Gd' st ty) → ∀ i j a b, i0 ≤ i → j ≤ j0 → a0 ≤ a → b ≤ b0 → R I P Gd i j a b → R I' P' Gd' i j a b) : ∀ (n t : Nat) (V : yPV) (t1 : Nat) (V1 : yPV), (zPg V).2.1 ≤ 60 → slp G sisI (sitm G body dp sub) n (.inr (t, .inr V)) = .inr (t1, .inr V1) → vEx V V1 ∧ yIl (yIw (zI V1) (zP V1) (sGd G V1) body (R (zI V1) (zP V1) (sGd G V1))) n (zI V).length (zI V1).length (zP V).length (zP V1).length
  | 0, t, V, t1, V1, h60, h => by
    have h : (Sum.inr (t, .inr V) : yPS) = .inr (t1, .inr V1) := h
    injection h with h
    injection h with _ h
    injection h with h
    subst h
    exact ⟨vEx_rf, rfl, rfl⟩
  | n + 1, t, V, t1, V1, h60, h => by
    have h : (if sisI (skd G (.inr (t, .inr V))) = true then slp G sisI (sitm G body dp sub) n (sitm G body dp sub (.inr (t, .inr V))) else .inr (t, .inr V)) = .inr (t1, .inr V1) := h
    split at h
    · rename_i hsI
      have al := sAl_lp (c := sisI) (fun σ => sAl_itm (σ := σ) (fun g σ e => (hg g e).2 σ)) n _ ⟨t1, V1, h⟩
      obtain ⟨t2, V2, e2⟩ := al
      obtain ⟨x1, x2⟩ := sitm_gd hg h60 hsI e2
      rw [e2] at h
      obtain ⟨y1, y2⟩ := sitl_gd hg hR hRl hRm n t2 V2 t1 V1 (by rw [x1.2.2.2.2.1]; exact h60) h
      obtain ⟨l1, q1⟩ := y1.1
      obtain ⟨l2, q2⟩ := y1.2.1
      have x2 : yIw (zI V2) (zP V2) (sGd G V2) body (R (zI V2) (zP V2) (sGd G V2)) (zI V).length (zI V2).length (zP V).length (zP V2).length := yIw_cg (fun i j a b hh => hR _ _ _ _ _ _ _ hh.1 hh.2) x2
      have lt := yIw_le (hRl _ _ _) _ _ _ _ x2
      refine ⟨vEx_tr x1 y1, Or.inr ⟨(zI V2).length, (zP V2).length, lt.1, ?_, y2⟩⟩
      exact yIw_mo (i0 := (zI V).length) (j0 := (zI V2).length) (a0 := (zP V).length) (b0 := (zP V2).length) (fun k _ hk => app_get q1 hk) (fun k _ hk => app_get q2 hk) (sGd_ex y1) (hRl _ _ _) (hRm _ _ _ _ _ _ _ _ _ _ (fun k _ hk => app_get q1 hk) (fun k _ hk => app_get q2 hk) (sGd_ex y1)) _ _ _ _ (Nat.le_refl _) (Nat.le_refl _) (Nat.le_refl _) (Nat.le_refl _) x2
    · injection h with h
      injection h with _ h
      injection h with h
      subst h
      exact ⟨vEx_rf, Or.inl ⟨rfl, rfl⟩⟩
theorem sits_gd {body : Bool} : ∀ rd, gGd G body rd (sits G body rd)
  | 0 => fun t V t1 V1 h60 h => sitl_gd (G := G) (sub := none) (rd := 0) (fun g e => by cases e) (R := fun _ _ _ _ _ _ _ => False) (fun _ _ _ _ _ _ _ e _ => by obtain ⟨g, e⟩ := e; cases e) (fun _ _ _ _ _ _ _ h => h.elim) (fun _ _ _ _ _ _ _ _ _ _ _ _ _ _ _ _ _ _ _ _ _ h => h) 2000 t V t1 V1 h60 h
  | rd + 1 => fun t V t1 V1 h60 h => sitl_gd (G := G) (sub := some (sits G body rd)) (rd := rd) (fun g e => by
      injection e with e
      rw [← e]
      exact ⟨sits_gd rd, fun σ => sAl_its rd σ⟩) (R := fun I P Gd => yIts I P Gd body rd) (fun _ _ _ _ _ _ _ _ h => h) (fun _ _ _ => yIts_le rd) (fun _ _ _ _ _ _ _ _ _ _ h1 h2 h3 => yIts_mo h1 h2 h3 rd) 2000 t V t1 V1 h60 h
end YSLL
end YSL
