/-! THE REFERENCE READS AN EXPRESSION: its state, in both passes -/
section YRM
def rT (S : yS) (T : yTk) (N : Nat) : Prop := ∀ j, j < N → gA S 39 j = ykR (T j).1 ∧ gA S 40 j = (T j).2.1 ∧ ((T j).1 = 62 ∨ (T j).1 = 63 → gB S 13 j = (T j).2.2) ∧ ((T j).1 = 64 → gB S 13 j = yi2l (((T j).2.1 : Int) + 1) ∧ yi2l (gA S 41 j) = (T j).2.2 ∧ 0 ≤ gA S 41 j ∧ gA S 41 j ≤ 20)
abbrev yRk : Type := Option (yCo × List (Nat × Nat))
def rK (S : yS) (u : Nat) (L : yCo) : Prop := gI S (4 + u) = L.length ∧ ∀ (j : Nat) (x : Nat × Int64), L[j]? = some x → gA S (6 + u) j = x.1 ∧ gB S (2 + u) j = x.2
def rX (S : yS) (u : Nat) (X : List (Nat × Nat)) : Prop := gI S (6 + u) = X.length ∧ ∀ (j : Nat) (x : Nat × Nat), X[j]? = some x → gA S (10 + u) j = x.1 ∧ gA S (12 + u) j = x.2
def rC (S : yS) (u : Nat) (k : yRk) : Prop := match k with
  | none => gI S 45 = 0 ∧ gI S (4 + u) = 0 ∧ gI S (6 + u) = 0
  | some (L, X) => gI S 45 = 1 ∧ rK S u L ∧ rX S u X
/-- at a token, with so much budget and depth; what was compiled, in the second pass -/
def rM (T : yTk) (N u : Nat) (sc : Int) (S : yS) (t b dp : Nat) (k : yRk) : Prop := rT S T N ∧ t < N ∧ gI S 44 = t ∧ gI S 47 = b ∧ b ≤ 100 ∧ gI S 46 = dp ∧ dp ≤ 12 ∧ gK S 2 = ru u ∧ gI S 50 = sc ∧ rC S u k
/-- the known number -/
def rP (S : yS) (o : Option Int64) : Prop := match o with
  | none => gI S 49 = 0
  | some v => gI S 49 = 1 ∧ gJ S 1 = v
/-- what an expression changes -/
def yWv (u s k : Nat) : Bool := (s == 0 && (k == 44 || k == 46 || k == 47 || k == 49 || k == 4 + u || k == 6 + u)) || (s == 1 && k == 1) || (s == 3 && (k == 6 + u || k == 10 + u || k == 12 + u)) || (s == 4 && k == 2 + u)
def rkad (k : yRk) (op : Nat) (a : Int64) : yRk := match k with
  | none => none
  | some (L, X) => some (L ++ [(op, a)], X)
def rkcd (k : yRk) (f : yCo → yCo) : yRk := match k with
  | none => none
  | some (L, X) => some (f L, X)
theorem ykR_inj : ∀ a : Nat, a < 67 → ∀ b : Nat, b < 67 → (ykR a = ykR b ↔ a = b) := by
  intro a ha b hb
  unfold ykR
  constructor
  · intro h
    split at h <;> split at h <;> (try split at h) <;> (try split at h) <;> omega
  · rintro rfl
    rfl
theorem ykR_rng {a : Nat} (h : a < 67) : 0 ≤ ykR a ∧ ykR a ≤ 204 := by
  unfold ykR
  split
  · omega
  · split <;> omega
theorem rC_I {S : yS} {u j : Nat} {x : Int} {k : yRk} (h : rC S u k) (h1 : j ≠ 45) (h2 : j ≠ 4 + u) (h3 : j ≠ 6 + u) : rC (sI S j x) u k := by
  match k, h with
  | none, h => exact ⟨(gI_ne S j x (Ne.symm h1)).trans h.1, (gI_ne S j x (Ne.symm h2)).trans h.2.1, (gI_ne S j x (Ne.symm h3)).trans h.2.2⟩
  | some (L, X), h => exact ⟨(gI_ne S j x (Ne.symm h1)).trans h.1, ⟨(gI_ne S j x (Ne.symm h2)).trans h.2.1.1, h.2.1.2⟩, ⟨(gI_ne S j x (Ne.symm h3)).trans h.2.2.1, h.2.2.2⟩⟩
theorem rC_J {S : yS} {u j : Nat} {x : Int64} {k : yRk} (h : rC S u k) : rC (sJ S j x) u k := by
  match k, h with
  | none, h => exact h
  | some (L, X), h => exact h
theorem yWv_I {u k : Nat} (h : k = 44 ∨ k = 46 ∨ k = 47 ∨ k = 49 ∨ k = 4 + u ∨ k = 6 + u) : yWv u 0 k = true := by
  unfold yWv
  rcases h with rfl | rfl | rfl | rfl | rfl | rfl <;> simp
theorem yWv_A {u k : Nat} (h : k = 6 + u ∨ k = 10 + u ∨ k = 12 + u) : yWv u 3 k = true := by
  unfold yWv
  rcases h with rfl | rfl | rfl <;> simp
theorem yWv_B {u k : Nat} (h : k = 2 + u) : yWv u 4 k = true := by
  unfold yWv
  subst h
  simp
theorem yWv_J {u : Nat} : yWv u 1 1 = true := by
  unfold yWv
  simp
section YRML
variable {q : yQ} {d : Nat} {js : List xO} {S : yS} {T : yTk} {N u : Nat} {sc : Int} {t b dp : Nat} {k : yRk}
theorem rM_t (h : rM T N u sc S t b dp k) : gI S 44 = t ∧ t < N ∧ b ≤ 100 ∧ gI S 47 = b ∧ gI S 46 = dp ∧ dp ≤ 12 ∧ gA S 39 t = ykR (T t).1 ∧ gA S 40 t = (T t).2.1 := ⟨h.2.2.1, h.2.1, h.2.2.2.2.1, h.2.2.2.1, h.2.2.2.2.2.1, h.2.2.2.2.2.2.1, (h.1 t h.2.1).1, (h.1 t h.2.1).2.1⟩
/-- is it that token? -/
theorem rm_is (hT : yTo T N) (h : rM T N u sc S t b dp k) {kd : Nat} (hk : kd < 67) : Y q d 221 0 [vr 129, vi (ykR kd)] [] S js = yret q (vi (yb ((T t).1 = kd))) S js := by
  obtain ⟨h1, h2, h3, h4, h5, h6, h7, h8⟩ := rM_t h
  have h67 := (hT.2.2.2.2 t h2).2
  have hN := hT.2.1
  have r1 := ykR_rng hk
  have r2 := ykR_rng h67
  have et : (gI S 44).toNat = t := by rw [h1]; rfl
  rw [r221 (by omega) (by omega) (by rw [et, h7]; omega), et, h7]
  simp only [ykR_inj _ h67 _ hk]
/-- taking a token -/
theorem rm_take (hT : yTo T N) (h : rM T N u sc S t b dp k) (h64 : (T t).1 ≤ 64) (hb : b ≠ 0) (hu : u = 0 ∨ u = 1) : ∃ S' : yS, Y q (d + 1) 217 0 [vr 129] [] S js = yretv q S' js ∧ yFr (yWv u) S S' ∧ rM T N u sc S' (t + 1) (b - 1) dp k ∧ gI S' 49 = gI S 49 ∧ gJ S' 1 = gJ S 1 := by
  obtain ⟨h1, h2, h3, h4, h5, h6, h7, h8, h9, h10⟩ := h
  have ht := yTo_t hT h2 h64
  rw [r217 (by omega) (by omega), if_pos (by omega), h4, h3]
  refine ⟨_, rfl, yFr_tr (yFr_I (yWv_I (by omega))) (yFr_I (yWv_I (by omega))), ⟨h1, ht, ?_, ?_, by omega, h6, h7, h8, h9, ?_⟩, rfl, rfl⟩
  · show (t : Int) + 1 = _
    omega
  · show (b : Int) - 1 = _
    omega
  · exact rC_I (rC_I h10 (by omega) (by omega) (by omega)) (by omega) (by omega) (by omega)
theorem rm_take0 (hT : yTo T N) (h : rM T N u sc S t 0 dp k) : Y q (d + 2) 217 0 [vr 129] [] S js = ythr q (ystp 1 (Int32.ofInt ((T t).2.1 : Nat))) S js := by
  obtain ⟨h1, h2, h3, h4, h5, h6, h7, h8⟩ := rM_t h
  have hN := hT.2.1
  have et : (gI S 44).toNat = t := by rw [h1]; rfl
  rw [r217t h4 (by omega), et, h8]
/-- one deeper -/
theorem rm_deep (h : rM T N u sc S t b dp k) (hd : dp < 12) (hu : u = 0 ∨ u = 1) : ∃ S' : yS, Y q (d + 1) 237 0 [vr 129] [] S js = yretv q S' js ∧ yFr (yWv u) S S' ∧ rM T N u sc S' t b (dp + 1) k ∧ gI S' 49 = gI S 49 ∧ gJ S' 1 = gJ S 1 := by
  obtain ⟨h1, h2, h3, h4, h5, h6, h7, h8, h9, h10⟩ := h
  rw [r237 (by omega)]
  refine ⟨_, rfl, yFr_I (yWv_I (by omega)), ⟨h1, h2, h3, h4, h5, ?_, by omega, h8, h9, ?_⟩, rfl, rfl⟩
  · show gI S 46 + 1 = _
    omega
  · exact rC_I h10 (by omega) (by omega) (by omega)
theorem rm_deep0 (hT : yTo T N) (h : rM T N u sc S t b 12 k) : Y q (d + 2) 237 0 [vr 129] [] S js = ythr q (ystp 1 (Int32.ofInt ((T t).2.1 : Nat))) S js := by
  obtain ⟨h1, h2, h3, h4, h5, h6, h7, h8⟩ := rM_t h
  have hN := hT.2.1
  have et : (gI S 44).toNat = t := by rw [h1]; rfl
  rw [r237t h5 (by omega), et, h8]
theorem rm_up (h : rM T N u sc S t b (dp + 1) k) (hu : u = 0 ∨ u = 1) : yFr (yWv u) S (sI S 46 (gI S 46 - 1)) ∧ rM T N u sc (sI S 46 (gI S 46 - 1)) t b dp k := by
  obtain ⟨h1, h2, h3, h4, h5, h6, h7, h8, h9, h10⟩ := h
  refine ⟨yFr_I (yWv_I (by omega)), h1, h2, h3, h4, h5, ?_, by omega, h8, h9, ?_⟩
  · show gI S 46 - 1 = _
    omega
  · exact rC_I h10 (by omega) (by omega) (by omega)
/-- no known number -/
theorem rm_no (h : rM T N u sc S t b dp k) (hu : u = 0 ∨ u = 1) : yFr (yWv u) S (sI S 49 0) ∧ rM T N u sc (sI S 49 0) t b dp k ∧ rP (sI S 49 0) none := by
  obtain ⟨h1, h2, h3, h4, h5, h6, h7, h8, h9, h10⟩ := h
  exact ⟨yFr_I (yWv_I (by omega)), ⟨h1, h2, h3, h4, h5, h6, h7, h8, h9, rC_I h10 (by omega) (by omega) (by omega)⟩, rfl⟩
/-- what has to be -/
theorem rm_must1 {e p : Int} : Y q d 219 0 [vr 129, vi 1, vi e, vi p] [] S js = yretv q S js := r219n (Or.inr (by decide))
theorem rm_mustn {c e p : Int} (h : rM T N u sc S t b dp none) : Y q d 219 0 [vr 129, vi c, vi e, vi p] [] S js = yretv q S js := by
  have h1 : gI S 45 = 0 := h.2.2.2.2.2.2.2.2.2.1
  exact r219n (Or.inl (by rw [h1]; rfl))
theorem rm_must0 {e p : Int} {L : yCo} {X : List (Nat × Nat)} (h : rM T N u sc S t b dp (some (L, X))) : Y q (d + 1) 219 0 [vr 129, vi 0, vi e, vi p] [] S js = ythr q (ystp (Int32.ofInt e) (Int32.ofInt p)) S js := by
  have h1 : gI S 45 = 1 := h.2.2.2.2.2.2.2.2.2.1
  exact r219t h1 rfl
/-- an instruction more -/
theorem rK_ad {S : yS} {L : yCo} {op : Nat} {a : Int64} (hu : u = 0 ∨ u = 1) (h : rK S u L) : rK (rem S u op a) u (L ++ [(op, a)]) := by
  have e : (gI S (4 + u)).toNat = L.length := by rw [h.1]; rfl
  refine ⟨?_, fun j x hj => ?_⟩
  · have : gI (rem S u op a) (4 + u) = gI S (4 + u) + 1 := gI_self _ _ _
    rw [this, h.1, List.length_append]
    rfl
  · have ga : gA (rem S u op a) (6 + u) j = if j = (gI S (4 + u)).toNat then (op : Int) else gA S (6 + u) j := gA_self S (6 + u) _ _ j
    have gb : gB (rem S u op a) (2 + u) j = if j = (gI S (4 + u)).toNat then a else gB S (2 + u) j := gB_self (sA S (6 + u) (gI S (4 + u)).toNat op) (2 + u) _ _ j
    rw [ga, gb, e]
    by_cases y : j = L.length
    · subst y
      rw [List.getElem?_append_right (Nat.le_refl _), Nat.sub_self] at hj
      cases hj
      rw [if_pos rfl, if_pos rfl]
      exact ⟨rfl, rfl⟩
    · have hj2 : j < L.length := by
        have := (List.getElem?_eq_some_iff.mp hj).1
        rw [List.length_append] at this
        have e1 : ([(op, a)] : yCo).length = 1 := rfl
        omega
      rw [List.getElem?_append_left hj2] at hj
      rw [if_neg y, if_neg y]
      exact h.2 j x hj
theorem rX_em {S : yS} {X : List (Nat × Nat)} {op : Int} {a : Int64} (hu : u = 0 ∨ u = 1) (h : rX S u X) : rX (rem S u op a) u X := by
  have g1 : gI (rem S u op a) (6 + u) = gI S (6 + u) := gI_ne _ _ _ (by omega)
  have g2 : gA (rem S u op a) (10 + u) = gA S (10 + u) := gA_ne S (6 + u) _ _ (by omega)
  have g3 : gA (rem S u op a) (12 + u) = gA S (12 + u) := gA_ne S (6 + u) _ _ (by omega)
  refine ⟨g1.trans h.1, fun j x hj => ?_⟩
  rw [g2, g3]
  exact h.2 j x hj
theorem rT_em {S : yS} {op : Int} {a : Int64} (hu : u = 0 ∨ u = 1) (h : rT S T N) : rT (rem S u op a) T N := by
  have g2 : ∀ m, m = 39 ∨ m = 40 ∨ m = 41 → gA (rem S u op a) m = gA S m := fun m hm => gA_ne S (6 + u) _ _ (by omega)
  have g3 : gB (rem S u op a) 13 = gB S 13 := gB_ne (sA S (6 + u) (gI S (4 + u)).toNat op) (2 + u) _ _ (by omega)
  intro j hj
  rw [g2 39 (by omega), g2 40 (by omega), g2 41 (by omega), g3]
  exact h j hj
theorem rem_fr {S : yS} {op : Int} {a : Int64} : yFr (yWv u) S (rem S u op a) := yFr_tr (yFr_A (yWv_A (Or.inl rfl))) (yFr_tr (yFr_B (yWv_B rfl)) (yFr_I (yWv_I (by omega))))
theorem rm_emit (hu : u = 0 ∨ u = 1) (h : rM T N u sc S t b dp k) (hc : ∀ L X, k = some (L, X) → L.length < 8000) (op : Nat) (a : Int64) : ∃ (S' : yS) (r : Nat), Y q d 234 0 [vr 129, vi op, vj a, vu] [] S js = yret q (vi r) S' js ∧ yFr (yWv u) S S' ∧ rM T N u sc S' t b dp (rkad k op a) ∧ gI S' 49 = gI S 49 ∧ gJ S' 1 = gJ S 1 ∧ ∀ L X, k = some (L, X) → r = L.length := by
  obtain ⟨h1, h2, h3, h4, h5, h6, h7, h8, h9, h10⟩ := h
  match k, h10, hc with
  | none, h10, hc =>
    exact ⟨S, 0, r234n h10.1, yFr_rf _ _, ⟨h1, h2, h3, h4, h5, h6, h7, h8, h9, h10⟩, rfl, rfl, fun L X e => nomatch e⟩
  | some (L, X), h10, hc =>
    have hl := hc L X rfl
    obtain ⟨m1, m2, m3⟩ := h10
    have e := m2.1
    have g1 : ∀ m, m ≠ 4 + u → gI (rem S u op a) m = gI S m := fun m hm => gI_ne _ _ _ hm
    refine ⟨rem S u op a, L.length, ?_, rem_fr, ⟨rT_em hu h1, h2, ?_, ?_, h5, ?_, h7, h8, ?_, ?_, rK_ad hu m2, rX_em hu m3⟩, ?_, rfl, fun L' X' e' => ?_⟩
    · rw [r234 hu h8 m1 (by omega), e]
    · rw [g1 _ (by omega)]; exact h3
    · rw [g1 _ (by omega)]; exact h4
    · rw [g1 _ (by omega)]; exact h6
    · rw [g1 _ (by omega)]; exact h9
    · rw [g1 _ (by omega)]; exact m1
    · exact g1 _ (by omega)
    · injection e' with e'
      injection e' with e1 e2
      rw [e1]
/-- a jump's aim -/
theorem r243 {i : Nat} (hu : u = 0 ∨ u = 1) (hk : gK S 2 = ru u) (hm : gI S 45 = 1) (hi : i < 8000) : Y q d 243 0 [vr 129, vi i] [] S js = yretv q (sB S (2 + u) i (yi2l (gI S (4 + u)))) js := by
  have em : ¬ yr (gI S 45) = 0 := by rw [hm]; decide
  have ei : yr (i : Int) = i := yr_eq (by omega) (by omega)
  rcases hu with rfl | rfl
  · have hk : gK S 2 = 139 := hk
    rw [w243_0, if_neg em, if_pos hk, w243_11, if_pos hk, w243_19, ei, if_pos (by omega)]
    rfl
  · have hk : gK S 2 = 145 := hk
    rw [w243_0, if_neg em, if_neg (by omega), if_pos hk, w243_11x, if_neg (by omega), if_pos hk, w243_19z, ei, if_pos (by omega)]
    rfl
theorem rm_aim {i : Nat} (hu : u = 0 ∨ u = 1) (h : rM T N u sc S t b dp k) (hc : ∀ L X, k = some (L, X) → i < L.length ∧ L.length ≤ 8000) : ∃ S' : yS, Y q d 243 0 [vr 129, vi i] [] S js = yretv q S' js ∧ yFr (yWv u) S S' ∧ rM T N u sc S' t b dp (rkcd k (yset i)) ∧ gI S' 49 = gI S 49 ∧ gJ S' 1 = gJ S 1 := by
  obtain ⟨h1, h2, h3, h4, h5, h6, h7, h8, h9, h10⟩ := h
  match k, h10, hc with
  | none, h10, hc =>
    have h10' : gI S 45 = 0 := h10.1
    refine ⟨S, ?_, yFr_rf _ _, ⟨h1, h2, h3, h4, h5, h6, h7, h8, h9, h10⟩, rfl, rfl⟩
    rw [w243_0, h10', if_pos yr_0]
  | some (L, X), h10, hc =>
    obtain ⟨hl, hl2⟩ := hc L X rfl
    obtain ⟨m1, m2, m3⟩ := h10
    refine ⟨_, r243 hu h8 m1 (by omega), yFr_B (yWv_B rfl), ⟨?_, h2, h3, h4, h5, h6, h7, h8, h9, m1, ?_, m3⟩, rfl, rfl⟩
    · have g3 : gB (sB S (2 + u) i (yi2l (gI S (4 + u)))) 13 = gB S 13 := gB_ne S (2 + u) _ _ (by omega)
      intro j hj
      show gA S 39 j = _ ∧ gA S 40 j = _ ∧ (_ → gB (sB S (2 + u) i (yi2l (gI S (4 + u)))) 13 j = _) ∧ (_ → gB (sB S (2 + u) i (yi2l (gI S (4 + u)))) 13 j = _ ∧ yi2l (gA S 41 j) = _ ∧ 0 ≤ gA S 41 j ∧ gA S 41 j ≤ 20)
      rw [g3]
      exact h1 j hj
    · unfold yset
      rw [if_pos hl]
      refine ⟨by rw [List.length_set]; exact m2.1, fun j x hj => ?_⟩
      have hg : gB (sB S (2 + u) i (yi2l (gI S (4 + u)))) (2 + u) j = if j = i then yi2l (gI S (4 + u)) else gB S (2 + u) j := gB_self S (2 + u) i _ j
      show gA S (6 + u) j = x.1 ∧ gB (sB S (2 + u) i (yi2l (gI S (4 + u)))) (2 + u) j = x.2
      rw [hg]
      rw [List.getElem?_set] at hj
      by_cases y : i = j
      · subst y
        rw [if_pos rfl, if_pos hl] at hj
        cases hj
        have hx := m2.2 i _ (List.getElem?_eq_getElem hl)
        have ed : (L.getD i (0, 0)) = L[i] := by rw [List.getD_eq_getElem?_getD, List.getElem?_eq_getElem hl]; rfl
        rw [if_pos rfl, ed, m2.1]
        exact ⟨hx.1, rfl⟩
      · rw [if_neg y] at hj
        rw [if_neg (fun e => y e.symm)]
        exact m2.2 j x hj
/-- a known number, in the place of what stands from some instruction on -/
theorem rm_plain {n : Nat} {st : Int} {v : Int64} (hu : u = 0 ∨ u = 1) (h : rM T N u sc S t b dp k) (hc : ∀ L X, k = some (L, X) → st = n ∧ n ≤ L.length ∧ n < 8000) : ∃ S' : yS, Y q (d + 1) 233 0 [vr 129, vi st, vj v, vu] [] S js = yretv q S' js ∧ yFr (yWv u) S S' ∧ rM T N u sc S' t b dp (rkcd k fun L => L.take n ++ [(0, v)]) ∧ rP S' (some v) := by
  have f1 : yFr (yWv u) S (sJ (sI S 49 1) 1 v) := yFr_tr (yFr_I (yWv_I (by omega))) (yFr_J yWv_J)
  obtain ⟨h1, h2, h3, h4, h5, h6, h7, h8, h9, h10⟩ := h
  match k, h10, hc with
  | none, h10, hc =>
    have h10' : gI S 45 = 0 := h10.1
    refine ⟨_, ?_, f1, ⟨h1, h2, h3, h4, h5, h6, h7, h8, h9, ⟨h10.1, (gI_ne S 49 1 (by omega)).trans h10.2.1, (gI_ne S 49 1 (by omega)).trans h10.2.2⟩⟩, ⟨rfl, rfl⟩⟩
    rw [w233_0, h10', if_pos yr_0, r234n (S := sJ (sI S 49 1) 1 v) h10', YB_ret, w233_31]
  | some (L, X), h10, hc =>
    obtain ⟨hst, hl, hl2⟩ := hc L X rfl
    obtain ⟨m1, m2, m3⟩ := h10
    have em : ¬ yr (gI S 45) = 0 := by rw [m1]; decide
    subst hst
    have key : ∃ S2 : yS, S2 = sI (sJ (sI S 49 1) 1 v) (4 + u) n ∧ Y q (d + 1) 233 0 [vr 129, vi (n : Int), vj v, vu] [] S js = YB q (Y q d 234 0 [vr 129, vi 0, vj v, vu] [] S2 js) (d + 1) 233 28 [vr 129, vi (n : Int), vj v, vu] [] := by
      refine ⟨_, rfl, ?_⟩
      rcases hu with rfl | rfl
      · have hk : gK S 2 = 139 := h8
        rw [w233_0, if_neg em, if_pos hk, w233_21]
      · have hk : gK S 2 = 145 := h8
        rw [w233_0, if_neg em, if_neg (by omega), if_pos hk, w233_21x]
    obtain ⟨S2, hS2, key⟩ := key
    have g1 : ∀ m, m ≠ 4 + u → gI S2 m = gI (sJ (sI S 49 1) 1 v) m := fun m hm => by rw [hS2]; exact gI_ne _ _ _ hm
    have gn : gI S2 (4 + u) = n := by rw [hS2]; exact gI_self _ _ _
    have ga : gA S2 = gA S := by rw [hS2]; rfl
    have gb : gB S2 = gB S := by rw [hS2]; rfl
    have gk : gK S2 = gK S := by rw [hS2]; rfl
    have gj : gJ S2 1 = v := by rw [hS2]; rfl
    have hlen : (L.take n).length = n := by rw [List.length_take]; omega
    have hM2 : rM T N u sc S2 t b dp (some (L.take n, X)) := by
      refine ⟨?_, h2, ?_, ?_, h5, ?_, h7, by rw [gk]; exact h8, ?_, ?_, ⟨by rw [gn, hlen], fun j x hj => ?_⟩, ?_, ?_⟩
      · intro j hj
        rw [ga, gb]
        exact h1 j hj
      · rw [g1 _ (by omega)]; exact h3
      · rw [g1 _ (by omega)]; exact h4
      · rw [g1 _ (by omega)]; exact h6
      · rw [g1 _ (by omega)]; exact h9
      · rw [g1 _ (by omega)]; exact m1
      · have hjn : j < n := by
          have := (List.getElem?_eq_some_iff.mp hj).1
          rw [hlen] at this
          exact this
        rw [List.getElem?_take_of_lt hjn] at hj
        rw [ga, gb]
        exact m2.2 j x hj
      · rw [g1 _ (by omega)]
        have : gI (sJ (sI S 49 1) 1 v) (6 + u) = gI S (6 + u) := gI_ne S 49 1 (by omega)
        rw [this]
        exact m3.1
      · rw [ga]
        exact m3.2
    obtain ⟨S3, r, a1, a2, a3, a4, a5, a6⟩ := rm_emit (q := q) (d := d) (js := js) hu hM2 (fun L' X' e => by
      injection e with e
      injection e with e1 e2
      rw [← e1, hlen]
      omega) 0 v
    have a1 : Y q d 234 0 [vr 129, vi 0, vj v, vu] [] S2 js = yret q (vi r) S3 js := a1
    refine ⟨S3, ?_, yFr_tr f1 (yFr_tr (by rw [hS2]; exact yFr_I (yWv_I (by omega))) a2), a3, ?_, ?_⟩
    · rw [key, a1, YB_ret, w233_31]
    · rw [a4, g1 49 (by omega)]
      rfl
    · rw [a5, gj]
end YRML
end YRM
