/-! RUN: the call -/
section YUR
section YURL
variable {q : yQ} {d d' : Nat} {js ks : List xO} {S0 : yS} {t : Nat} {V : yPV} {a : Int} {n : Nat} {S S' : yS}
theorem shtl_le {I P : List yIe} {Gd : Nat → Nat → Prop} {sub : Nat → Nat → Nat → Nat → Prop} : ∀ (f i j a b : Nat) (x : Int), yIl (yIw I P Gd false sub) f i j a b → shtl I f i j x ≤ x + 40 * f
  | 0, i, j, a, b, x, h => by
    show x ≤ x + 40 * ((0 : Nat) : Int)
    omega
  | f + 1, i, j, a, b, x, h => by
    rcases h with ⟨h1, h2⟩ | ⟨e, a', h1, h2, h3⟩
    · unfold shtl
      rw [if_neg (by omega)]
      omega
    · obtain ⟨u, v, u1, u2, u3, u4, u5⟩ := h2
      have gu : I.getD i dIe = u := getD_of u1
      have hw : (if u.1 = 24 then ((u.2.1 : Nat) : Int) else 1) ≤ 40 := by
        rcases u5 with ⟨k1, _⟩ | ⟨k1, k2, k3, k4, k5, _⟩ | ⟨k1, _⟩ | ⟨k1, _⟩ | ⟨k1, _⟩ | ⟨k1, _⟩
        · rw [if_neg (by omega)]
          omega
        · rw [if_pos k1]
          omega
        · rw [if_neg (by omega)]
          omega
        · rw [if_neg (by omega)]
          omega
        · rw [if_neg (by omega)]
          omega
        · rw [if_neg (by omega)]
          omega
      have ih := shtl_le f e j a' b (x + if u.1 = 24 then ((u.2.1 : Nat) : Int) else 1) h3
      unfold shtl
      rw [gu, u3]
      split
      · omega
      · omega
theorem sht_rng {G : yGx} (hg : vGd G V) {j : Nat} (hj : j = 1 ∨ j = 2) : 0 ≤ sht V j ∧ sht V j ≤ 80000 := by
  unfold sht
  cases hz : zB V j with
  | none => exact ⟨by show (0 : Int) ≤ 0; omega, by show (0 : Int) ≤ 80000; omega⟩
  | some y =>
    obtain ⟨i, b0⟩ := y
    obtain ⟨x, z, b, k1, k2, k3, k4, k5, k6⟩ := hg.2.2.2.2.2 j i b0 hz
    have bd : decide (j ≠ 1 ∧ j ≠ 2) = false := decide_eq_false (by omega)
    rw [bd] at k4
    have k4 : yIl (yIw (zI V) (zP V) (sGd G V) false (yIts (zI V) (zP V) (sGd G V) false 11)) 2000 (i + 1) x.2.2.2 b0 b := k4
    have h1 := shtl_ge (I := zI V) 2000 (i + 1) x.2.2.2 0
    have h2 := shtl_le 2000 _ _ _ _ 0 k4
    show 0 ≤ shtl (zI V) 2000 (i + 1) ((zI V).getD i dIe).2.2.2 0 ∧ shtl (zI V) 2000 (i + 1) ((zI V).getD i dIe).2.2.2 0 ≤ 80000
    rw [getD_of k1]
    exact ⟨h1, by omega⟩
theorem yhts (h : iPq S0 t V a S) : 0 ≤ sht V 1 ∧ 0 ≤ sht V 2 ∧ sht V 1 + sht V 2 < (zPg V).2.2 := by
  have h1 := sht_rng h.2.2.2.2 (j := 1) (Or.inl rfl)
  have h2 := sht_rng h.2.2.2.2 (j := 2) (Or.inr rfl)
  have h3 := h.1.2.2
  have h4 := h.2.2.2.2.1.2.2.2
  rw [yr_eq (by omega) (by omega), yr_eq (by omega) (by omega)] at h3
  exact ⟨h1.1, h2.1, by omega⟩
theorem iTb_wf (h : iTb S) (hf : yFr yWfn S S') : iTb S' := by
  unfold iTb at h ⊢
  rw [hf.1 41 rfl, hf.1 10 rfl, hf.1 42 rfl, hf.1 11 rfl, hf.2.2.2.2.1 11 rfl, hf.2.2.2.2.1 6 rfl, hf.2.2.2.1 38 rfl, hf.2.2.2.1 20 rfl, hf.2.2.2.2.1 12 rfl, hf.2.2.2.2.1 7 rfl]
  exact h
theorem yr_lit {x y : Int} (hx : x = 0 ∨ x = 2 ∨ x = 4) (hy : y = 0 ∨ y = 2 ∨ y = 4) (h : yr x = yr y) : x = y := by
  have ex : yr x = x := by
    rcases hx with rfl | rfl | rfl
    · rfl
    · rfl
    · rfl
  have ey : yr y = y := by
    rcases hy with rfl | rfl | rfl
    · rfl
    · rfl
    · rfl
  rw [ex, ey] at h
  exact h
/-- what holds between calls, behind a run -/
theorem yfinJ (hJ : yJ S) (hq : iPq S0 t V a S) (h19 : gI S 19 = 1) (h30 : 0 ≤ gI S 30 ∧ gI S 30 < 4) {D E : yS} (hf : yFr yWfn S E) (r30 : gI E 30 = gI S 30 + 1) (r66 : gI E 66 = gI S 30 + 1) (r67 : gI E 67 = gI D 31) {x : Int} (d34 : gI D 34 = x) (e71 : gI E 71 = x) (cI : ∀ k, k = 27 ∨ k = 28 ∨ k = 29 ∨ k = 31 ∨ k = 32 ∨ k = 33 ∨ k = 34 → yr (gI E k) = yr (gI D k)) (cA : ∀ k j, k = 30 ∨ k = 31 ∨ k = 32 ∨ k = 33 ∨ k = 34 ∨ k = 35 → yr (gA E k j) = yr (gA D k j)) (cB : gB E 9 = gB D 9) (fx : yFx S V D E) : yJ (yNw E) := by
  obtain ⟨⟨hTp, hTb, hCd, hPg, hRs, hRn⟩, hPr⟩ := hJ
  obtain ⟨hn, hkw, z1, z2, z3, z4, z5, z6, z7, z8⟩ := id hRn
  obtain ⟨⟨x1, x1a, x1b⟩, ⟨x2, x2a, x2b⟩, x3, x4, x5, ⟨x6, x6a⟩, x7, ⟨e, has, hcT, hrT⟩, x8⟩ := fx
  obtain ⟨F, hF⟩ : ∃ F, F = yNw E := ⟨_, rfl⟩
  have fI : ∀ k, yWfn 0 k = true → gI F k = yr (gI E k) := fun k hk => by rw [hF, yNw_I, if_pos hk]
  have fA : ∀ k j, yWfn 3 k = true → gA F k j = yr (gA E k j) := fun k j hk => by rw [hF, yNw_A, if_pos hk]
  have ff : yFr yWfn S F := by
    refine yFr_tr hf ?_
    rw [hF]
    refine ⟨fun k hk => ?_, fun _ _ => rfl, fun _ _ => rfl, fun k hk => ?_, fun _ _ => rfl, fun _ _ => rfl⟩
    · rw [yNw_I, if_neg (by rw [hk]; decide)]
    · rw [yNw_A, if_neg (by rw [hk]; decide)]
  have fB : gB F = gB E := by rw [hF]; rfl
  have eI : ∀ k, yWfn 0 k = true → k = 27 ∨ k = 28 ∨ k = 29 ∨ k = 31 ∨ k = 32 ∨ k = 33 ∨ k = 34 → gI F k = yr (gI D k) := fun k hk h => (fI k hk).trans (cI k h)
  have eA : ∀ k j, yWfn 3 k = true → k = 30 ∨ k = 31 ∨ k = 32 ∨ k = 33 ∨ k = 34 ∨ k = 35 → gA F k j = yr (gA D k j) := fun k j hk h => (fA k j hk).trans (cA k j h)
  have v29 : gI F 29 = gI D 29 := by rw [eI 29 rfl (by omega), yr_eq (by omega) (by omega)]
  have v32 : gI F 32 = gI D 32 := by rw [eI 32 rfl (by omega), yr_eq (by omega) (by omega)]
  have hg := hq.2.2.2.2
  have v27 : gI F 27 = gI D 27 := by
    have := hg.1.2.1
    rw [eI 27 rfl (by omega), yr_eq (by omega) (by omega)]
  have v28 : gI F 28 = gI D 28 := by
    have := hg.1.2.2
    rw [eI 28 rfl (by omega), yr_eq (by omega) (by omega)]
  obtain ⟨v20, v21, v22⟩ := hq.2.2.1.2.1.1
  have s9 : gI S 9 = (zT V).length := hq.2.2.1.2.1.2.2.2.2.1.1
  have s52 : gI S 52 = (zT V).length := hq.2.2.2.1.1.2.2.2.2.1.1
  have s24 : gI S 24 = (zG V).length := hq.2.2.1.2.1.2.2.1.1
  have s57 : gI S 57 = (zG V).length := hq.2.2.2.1.1.2.2.1.1
  have l8 := hg.2.2.2.2.1.1
  have l3 := hg.2.2.1.1
  rw [← hF]
  refine ⟨⟨?_, iTb_wf hTb ff, ?_, ?_, ?_, ?_, ?_, ?_⟩, fun _ => ⟨S0, t, V, a, iPq_wf hq ff⟩⟩
  · unfold iTp at hTp ⊢
    unfold tb at hTp ⊢
    rw [ff.1 40 rfl, ff.1 12 rfl, ff.2.2.2.1 37 rfl, ff.2.2.2.1 21 rfl]
    exact hTp
  · unfold iCd at hCd ⊢
    rw [ff.1 4 rfl, ff.1 0 rfl, ff.2.2.2.1 6 rfl, ff.2.2.2.1 0 rfl, ff.2.2.2.2.1 2 rfl, ff.2.2.2.2.1 0 rfl]
    exact hCd
  · unfold iPg at hPg ⊢
    rw [ff.1 59 rfl, ff.1 18 rfl, ff.1 48 rfl, ff.1 19 rfl, ff.1 54 rfl, ff.1 21 rfl, ff.1 55 rfl, ff.1 22 rfl]
    exact hPg
  · unfold iRs
    rw [ff.1 62 rfl, ff.2.1 2 rfl, ff.2.2.2.1 56 rfl, eA 30 27 rfl (by omega), eA 31 27 rfl (by omega), fB, cB]
    rcases hRs with ⟨a1, a2, a3, a4⟩ | ⟨a1, a2, a3, a4, a5, a6⟩
    · obtain ⟨c1, c2, c3⟩ := x8 (.inl (gB S 9 27)) ⟨a1, rfl, a4⟩
      rw [c1, c3]
      exact Or.inl ⟨rfl, a2, by rw [c2]; exact a3, rfl⟩
    · obtain ⟨len, hlen⟩ : ∃ len : Nat, gA S 31 27 = len := ⟨(gA S 31 27).toNat, by omega⟩
      obtain ⟨l, hl⟩ : ∃ l : List Int, l = (List.range len).map fun i => gA S 32 (1620 + i) := ⟨_, rfl⟩
      have ll : l.length = len := by rw [hl, List.length_map, List.length_range]
      obtain ⟨c1, c2, c3, c4⟩ := x8 (.inr l) ⟨a1, by rw [hlen, ll], by omega, fun i y hi => by
        have hil := (List.getElem?_eq_some_iff.mp hi).1
        have hil : i < len := by omega
        have e1 : l[i]? = some (gA S 32 (1620 + i)) := by rw [hl, List.getElem?_map, List.getElem?_range hil]; rfl
        rw [e1] at hi
        have e2 := Option.some.inj hi
        rw [← e2]
        exact ⟨rfl, (a6 i (by omega)).2⟩⟩
      have yl : yr (l.length : Int) = l.length := yr_eq (by omega) (by omega)
      rw [c1, c2, yl]
      refine Or.inr ⟨rfl, by rw [a2, hlen, ll], by omega, by omega, by rw [a5, hlen, ll], fun i hi => ?_⟩
      have hil : i < l.length := by omega
      have e1 : l[i]? = some (gA S 32 (1620 + i)) := by
        rw [hl, List.getElem?_map, List.getElem?_range (by omega)]
        rfl
      obtain ⟨w1, w2, w3⟩ := c4 i _ e1
      have w1 : gA D 32 (1620 + i) = gA S 32 (1620 + i) := w1
      rw [eA 32 (1620 + i) rfl (by omega), w1, yr_eq (by omega) (by omega)]
      exact a6 i (by omega)
  · unfold iRn
    have f30 : gI F 30 = gI S 30 + 1 := by rw [fI 30 rfl, r30, yr_eq (by omega) (by omega)]
    have f66 : gI F 66 = gI S 30 + 1 := by rw [fI 66 rfl, r66, yr_eq (by omega) (by omega)]
    refine ⟨by rw [f30, f66], by omega, by omega, fun z => by omega, fun _ => ⟨?_, ?_, ?_, ?_, ?_, ?_, ?_, ?_, by omega, by omega, by omega, by omega, ?_, ?_, ?_, ?_, ?_, ?_, fun i hi => ?_, fun i hi => ?_, fun i hi => ?_, fun i hi => ?_⟩⟩
    · rw [ff.1 19 rfl]
      exact h19
    · rw [fI 67 rfl, r67, eI 31 rfl (by omega)]
    · rw [fI 68 rfl, x1, eI 29 rfl (by omega)]
    · rw [fI 69 rfl, x2, eI 32 rfl (by omega)]
    · rw [fI 70 rfl, x3, eI 33 rfl (by omega)]
    · rw [fI 71 rfl, e71, eI 34 rfl (by omega), d34]
    · rw [v27, ff.1 21 rfl, x6, v21]
    · rw [v28, ff.1 22 rfl, x6a, v22]
    · rw [ff.1 52 rfl, ff.1 9 rfl, s52, s9]
    · rw [ff.1 9 rfl, s9]
      omega
    · rw [ff.1 9 rfl, s9]
      omega
    · rw [ff.1 57 rfl, ff.1 24 rfl, s57, s24]
    · rw [ff.1 24 rfl, s24]
      omega
    · rw [ff.1 24 rfl, s24]
      omega
    · rw [v29, v28, v27] at hi
      rw [fA 64 i rfl, x4 i hi, eA 33 i rfl (by omega)]
    · rw [v32] at hi
      rw [fA 61 i rfl, x7 i hi, eA 34 i rfl (by omega)]
    · rw [ff.1 24 rfl, s24] at hi
      rw [fA 62 i rfl, x5 i (by omega), eA 35 i rfl (by omega)]
    · rw [ff.1 9 rfl, s9] at hi
      have h1 := (hcT i (by omega)).1
      have h2 := (hrT i (by omega)).1
      rw [eA 30 (16 + i) rfl (by omega), eA 31 (16 + i) rfl (by omega), fA 59 (8 + i) rfl, fB, cB]
      match e 4 i, h1, h2 with
      | .inl y, h1, h2 =>
        rw [h1.1, h2.1, h2.2, h1.2.1]
        exact Or.inl ⟨rfl, rfl, rfl⟩
      | .inr l, h1, h2 =>
        have hl := h2.2.1
        have yl : yr (l.length : Int) = l.length := yr_eq (by omega) (by omega)
        rw [h1.1, h1.2.1, h2.1, yl]
        exact Or.inr ⟨rfl, rfl, by omega, by omega⟩
  · rw [ff.2.2.2.2.1 10 rfl]
    exact hkw
  · unfold iZ
    rw [ff.1 8 rfl, ff.1 9 rfl, ff.1 51 rfl, ff.1 52 rfl, ff.2.2.2.1 42 rfl, ff.2.2.2.1 44 rfl, ff.2.2.2.1 4 rfl, ff.2.2.2.1 5 rfl]
    exact ⟨z1, z2, z3, z4, z5, z6, z7, z8⟩
def yWc0 (s k : Nat) : Bool := yBc s k || (s == 0 && (k == 30 || k == 31))
theorem yWc0_b {S S' : yS} (h : yFr yBc S S') : yFr yWc0 S S' := yFr_mo h fun s k e => by
  unfold yWc0 at e
  simp only [Bool.or_eq_false_iff] at e
  exact e.1
theorem yWfn_c0 {S S' : yS} (h : yFr yWc0 S S') : yFr yWfn S S' := yFr_mo h fun s k e => by
  unfold yWfn at e
  unfold yWc0
  simp only [Bool.or_eq_false_iff] at e ⊢
  refine ⟨e.1.1.1, ?_⟩
  have h2 := e.1.2
  cases hs : (s == 0)
  · rfl
  · rw [hs] at h2
    simp only [Bool.true_and, Bool.or_eq_false_iff] at h2 ⊢
    exact ⟨h2.1.1.1.1, h2.1.1.1.2⟩
def yWr0 (s k : Nat) : Bool := yBr s k || (s == 0 && (k == 39 || k == 66 || k == 67)) || (s == 4 && k == 18)
theorem yWr0_b {S S' : yS} (h : yFr yBr S S') : yFr yWr0 S S' := yFr_mo h fun s k e => by
  unfold yWr0 at e
  simp only [Bool.or_eq_false_iff] at e
  exact e.1.1
theorem yWfn_r0 {S S' : yS} (h : yFr yWr0 S S') : yFr yWfn S S' := yFr_mo h fun s k e => by
  unfold yWfn at e
  unfold yWr0
  simp only [Bool.or_eq_false_iff] at e ⊢
  refine ⟨⟨e.1.1.2, ?_⟩, e.2⟩
  have h2 := e.1.2
  cases hs : (s == 0)
  · rfl
  · rw [hs] at h2
    simp only [Bool.true_and, Bool.or_eq_false_iff] at h2 ⊢
    exact ⟨⟨h2.1.1.2, h2.1.2⟩, h2.2⟩
/-- the call's end -/
theorem yend14 {x0 : Int} {y1 y2 y3 y4 : yV} (hL : q.2.1 ≤ 3072) (h0 : 0 ≤ x0) (h6 : x0 + 6 ≤ q.2.1) (hop : yand (xa q x0) 31 = 14) (hJ : yJ S) (hq : iPq S0 t V a S) (h19 : gI S 19 = 1) (h30 : 0 ≤ gI S 30 ∧ gI S 30 < 4) {A D E : yS} {x : Int} {ks' : List xO} (hc : Y q (d + 398) 175 0 [vr 75] [] S js = yret q (vi (gI A 34)) A js) (fA : yFr yWc0 S A) (a30 : gI A 30 = gI S 30 + 1) (hm : Y q (d + 399) 276 0 [vr 129] [] (sB A 18 0 (yi2l (gI A 34))) js = yret q (vi (gI E 71)) E ks') (fE : yFr yWr0 A E) (e18 : gB E 18 0 = yi2l (gI A 34)) (e39 : gI E 39 = 0) (e66 : gI E 66 = gI S 30 + 1) (hH : yH q A js = yH q D js) (r67 : gI E 67 = gI D 31) (d34 : gI D 34 = x) (e71 : gI E 71 = x) (fx : yFx S V D E) (hk : ks' = js ∨ ∃ o, yEo x o ∧ ks' = js ++ [o]) : yEnd yJ q S js x0 d y1 y2 y3 y4 := by
  have cI : ∀ k, k = 27 ∨ k = 28 ∨ k = 29 ∨ k = 31 ∨ k = 32 ∨ k = 33 ∨ k = 34 → yr (gI E k) = yr (gI D k) := fun k hk => by
    rcases hk with rfl | rfl | rfl | rfl | rfl | rfl | rfl
    · rw [fE.1 27 rfl]; exact yH_I (f := 0) hH (k := 48) rfl rfl
    · rw [fE.1 28 rfl]; exact yH_I (f := 1) hH (k := 48) rfl rfl
    · rw [fE.1 29 rfl]; exact yH_I (f := 2) hH (k := 48) rfl rfl
    · rw [fE.1 31 rfl]; exact yH_I (f := 5) hH (k := 50) rfl rfl
    · rw [fE.1 32 rfl]; exact yH_I (f := 6) hH (k := 50) rfl rfl
    · rw [fE.1 33 rfl]; exact yH_I (f := 7) hH (k := 50) rfl rfl
    · rw [fE.1 34 rfl]; exact yH_I (f := 8) hH (k := 50) rfl rfl
  have cA : ∀ k j, k = 30 ∨ k = 31 ∨ k = 32 ∨ k = 33 ∨ k = 34 ∨ k = 35 → yr (gA E k j) = yr (gA D k j) := fun k j hk => by
    rcases hk with rfl | rfl | rfl | rfl | rfl | rfl
    · rw [fE.2.2.2.1 30 rfl]; exact yH_A hH (k := 44) rfl (fun _ => rfl) j
    · rw [fE.2.2.2.1 31 rfl]; exact yH_A hH (k := 46) rfl (fun _ => rfl) j
    · rw [fE.2.2.2.1 32 rfl]; exact yH_A hH (k := 47) rfl (fun _ => rfl) j
    · rw [fE.2.2.2.1 33 rfl]; exact yH_A hH (k := 49) rfl (fun _ => rfl) j
    · rw [fE.2.2.2.1 34 rfl]; exact yH_A hH (k := 51) rfl (fun _ => rfl) j
    · rw [fE.2.2.2.1 35 rfl]; exact yH_A hH (k := 52) rfl (fun _ => rfl) j
  have cB : gB E 9 = gB D 9 := by rw [fE.2.2.2.2.1 9 rfl]; exact yH_B hH (k := 45) rfl
  have hJ' := yfinJ hJ hq h19 h30 (yFr_tr (yWfn_c0 fA) (yWfn_r0 fE)) (by rw [fE.1 30 rfl]; exact a30) e66 r67 d34 e71 cI cA cB fx
  have hm' : Y q (d + 399) 276 0 [vr 129] [] (sB A 18 0 (yi2l (gI A 34))) js = yret q (vi (gI E 71)) (yNw E) ks' := by
    rw [hm]
    unfold yret
    rw [yNw_H]
  have h39 : gI (yNw E) 39 = 0 := by
    rw [yNw_I, if_pos (show yWfn 0 39 = true from rfl), e39]
    rfl
  have hb : gB (yNw E) 18 0 = yi2l (gI E 71) := by
    show gB E 18 0 = _
    have h34 := cI 34 (by omega)
    rw [fE.1 34 rfl, d34, ← e71] at h34
    rw [e18, ← yi2l_yr (gI A 34), h34, yi2l_yr]
  have hlen : ks'.length ≤ js.length + 12 ∧ xsum ks' ≤ xsum js + 120 := by
    rcases hk with rfl | ⟨o, ⟨_, rfl⟩ | ⟨_, rfl⟩, rfl⟩
    · exact ⟨by omega, by omega⟩
    · exact ⟨(xsum_s _ _ _).2, (xsum_s _ _ _).1⟩
    · exact ⟨(xsum_s _ _ _).2, (xsum_s _ _ _).1⟩
  exact k14_ok hL h0 h6 hop hc hm' h39 hb hJ' hlen.1 hlen.2
end YURL
end YUR
