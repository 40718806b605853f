/-! THE REFERENCE: a text to be read is set up -/
section YRX
def yWq (u s k : Nat) : Bool := yWr s k || (s == 2 && k == 2) || (s == 0 && (k == 4 + u || k == 6 + u || k == 59)) || (s == 3 && k == 8 + u)
def yWqs (u s k : Nat) : Bool := yWr s k || (s == 0 && k == 59) || (s == 3 && k == 8 + u)
theorem yWqs_q {u : Nat} {S S' : yS} (h : yFr (yWqs u) S S') : yFr (yWq u) S S' := yFr_mo h fun s k e => by
  unfold yWq at e
  unfold yWqs
  simp only [Bool.or_eq_false_iff] at e ⊢
  refine ⟨⟨e.1.1.1, ?_⟩, e.2⟩
  cases hs : (s == 0)
  · rfl
  · have h2 := e.1.2
    rw [hs] at h2
    simp only [Bool.true_and, Bool.or_eq_false_iff] at h2 ⊢
    exact h2.2
section YRXL
variable {q : yQ} {d : Nat} {js : List xO} {S : yS} {u : Nat}
theorem u206_0 (hu : u = 0 ∨ u = 1) : Y q d 206 0 [vr 129, vr (ru u), vu] [] S js = Y q d 206 17 [vr 129, vr (ru u), vi 0] [] (sI (sI (sK S 2 (ru u)) (4 + u) 0) (6 + u) 0) js := by
  rcases hu with rfl | rfl
  · exact w206_0 q d js S
  · exact w206b_0 q d js S
theorem u206_17 (hu : u = 0 ∨ u = 1) {x0 : Int} : Y q (d + 1) 206 17 [vr 129, vr (ru u), vi x0] [] S js = if yr x0 < yr (gI S 40) then if 0 ≤ yr x0 ∧ yr x0 < 2000 then if 0 ≤ yr x0 ∧ yr x0 < 2000 then Y q (d + 1) 206 17 [vr 129, vr (ru u), vi (x0 + 1)] [] (sA S (8 + u) ((yr x0).toNat) (gA S 37 ((yr x0).toNat))) js else Y q (d + 1) 206 36 [vr 129, vr (ru u), vi x0] [vi (gA S 37 ((yr x0).toNat)), vi x0, vr (rth u)] S js else Y q (d + 1) 206 35 [vr 129, vr (ru u), vi x0] [vi x0, vr 131, vi x0, vr (rth u)] S js else YB q (Y q d 207 0 [vr 129, vu, vu] [] (sI S 59 (-1)) js) (d + 1) 206 49 [vr 129, vr (ru u), vi x0] [] := by
  rcases hu with rfl | rfl
  · exact w206_17 q d js S x0
  · exact w206b_17 q d js S x0
theorem u206_52 (hu : u = 0 ∨ u = 1) {x0 : Int} : Y q d 206 52 [vr 129, vr (ru u), vi x0] [] S js = yretv q S js := by
  rcases hu with rfl | rfl
  · exact w206_52 q d js S x0
  · exact w206b_52 q d js S x0
theorem r206l {n : Nat} {b : Nat → Int} (hu : u = 0 ∨ u = 1) (hn : n ≤ 2000) : ∀ (m i : Nat) (S : yS), i + m = n → gI S 40 = n → (∀ j, j < n → gA S 37 j = b j ∧ 0 ≤ b j ∧ b j ≤ 255) → (∀ j : Nat, j < 46 → gB S 10 j = yKw j) → (∀ j, j < i → gA S (8 + u) j = b j) → ∃ S' : yS, Y q (d + 7) 206 17 [vr 129, vr (ru u), vi i] [] S js = yretv q S' js ∧ yFr (yWqs u) S S' ∧ gI S' 59 = -1 ∧ (∀ j, j < n → gA S' (8 + u) j = b j) ∧ yHoldR S' 0 (ytq b n) ∧ (ytq b n).length ≤ 2001
  | 0, i, S, hi, h40, hb, hk, hc => by
    have ei : yr (i : Int) = i := yr_eq (by omega) (by omega)
    have en : yr (n : Int) = n := yr_eq (by omega) (by omega)
    obtain ⟨S', a1, a2, a3, a4, a5⟩ := r207 (q := q) (d := d) (js := js) (S := sI S 59 (-1)) (n := n) (b := b) h40 hn hb hk
    have f : yFr (yWqs u) S S' := yFr_tr (yFr_I (by unfold yWqs; simp)) (yFr_mo a2 fun s k e => by
      unfold yWqs at e
      simp only [Bool.or_eq_false_iff] at e
      exact e.1.1)
    have e8 : gA S' (8 + u) = gA S (8 + u) := by
      rcases hu with rfl | rfl
      · exact (a2.2.2.2.1 _ rfl).trans rfl
      · exact (a2.2.2.2.1 _ rfl).trans rfl
    refine ⟨S', ?_, f, (a2.1 59 rfl).trans (gI_self _ _ _), fun j hj => by rw [e8]; exact hc j (by omega), a3, by
      have a4 : gI S' 43 = ((ytq b n).length : Int) := a4
      omega⟩
    rw [u206_17 hu, ei, h40, en, if_neg (by omega), a1, YB_retv, u206_52 hu]
  | m + 1, i, S, hi, h40, hb, hk, hc => by
    have ei : yr (i : Int) = i := yr_eq (by omega) (by omega)
    have en : yr (n : Int) = n := yr_eq (by omega) (by omega)
    have k1 : 0 ≤ (i : Int) ∧ (i : Int) < 2000 := by omega
    have ep : (i : Int) + 1 = ((i + 1 : Nat) : Int) := by omega
    have g37 : gA (sA S (8 + u) i (gA S 37 i)) 37 = gA S 37 := gA_ne _ _ _ _ (by omega)
    obtain ⟨S', a1, a2, a3, a4, a5, a6⟩ := r206l hu hn m (i + 1) (sA S (8 + u) i (gA S 37 i)) (by omega) h40 (fun j hj => by rw [g37]; exact hb j hj) hk (fun j hj => by
      rw [gA_self]
      by_cases z : j = i
      · rw [if_pos z, z]
        exact (hb i (by omega)).1
      · rw [if_neg z]
        exact hc j (by omega))
    refine ⟨S', ?_, yFr_tr (yFr_A (by unfold yWqs; simp)) a2, a3, a4, a5, a6⟩
    rw [u206_17 hu, ei, h40, en, if_pos (by omega), if_pos k1, if_pos k1, Int.toNat_natCast, ep, a1]
theorem r206 {n : Nat} {b : Nat → Int} (hu : u = 0 ∨ u = 1) (h40 : gI S 40 = n) (hn : n ≤ 2000) (hb : ∀ j, j < n → gA S 37 j = b j ∧ 0 ≤ b j ∧ b j ≤ 255) (hk : ∀ j : Nat, j < 46 → gB S 10 j = yKw j) : ∃ S' : yS, Y q (d + 7) 206 0 [vr 129, vr (ru u), vu] [] S js = yretv q S' js ∧ yFr (yWq u) S S' ∧ gK S' 2 = ru u ∧ gI S' (4 + u) = 0 ∧ gI S' (6 + u) = 0 ∧ gI S' 59 = -1 ∧ (∀ j, j < n → gA S' (8 + u) j = b j) ∧ yHoldR S' 0 (ytq b n) ∧ (ytq b n).length ≤ 2001 := by
  -- the loop changes no counter of the unit
  obtain ⟨S1, hS1⟩ : ∃ S1, S1 = sI (sI (sK S 2 (ru u)) (4 + u) 0) (6 + u) 0 := ⟨_, rfl⟩
  have f1 : yFr (yWq u) S S1 := by
    rw [hS1]
    exact yFr_tr (yFr_K (by unfold yWq; simp)) (yFr_tr (yFr_I (by unfold yWq; simp)) (yFr_I (by unfold yWq; simp)))
  have g4 : gI S1 (4 + u) = 0 := by
    rw [hS1, gI_ne _ _ _ (by omega), gI_self]
  have g6 : gI S1 (6 + u) = 0 := by rw [hS1, gI_self]
  have gk : gK S1 2 = ru u := by
    rw [hS1]
    exact gK_self _ _ _
  have g40 : gI S1 40 = n := by
    rw [hS1, gI_ne _ _ _ (by omega), gI_ne _ _ _ (by omega)]
    exact h40
  have g37 : gA S1 37 = gA S 37 := by rw [hS1]; rfl
  have g10 : gB S1 10 = gB S 10 := by rw [hS1]; rfl
  obtain ⟨S', a1, a2, a3, a4, a5, a6⟩ := r206l (q := q) (d := d) (js := js) hu hn (n := n) (b := b) n 0 S1 (Nat.zero_add _) g40 (fun j hj => by rw [g37]; exact hb j hj) (fun j hj => by rw [g10]; exact hk j hj) (fun j hj => by omega)
  have g4' : gI S' (4 + u) = gI S1 (4 + u) := by rcases hu with rfl | rfl <;> exact a2.1 _ rfl
  have g6' : gI S' (6 + u) = gI S1 (6 + u) := by rcases hu with rfl | rfl <;> exact a2.1 _ rfl
  refine ⟨S', ?_, yFr_tr f1 (yWqs_q a2), (a2.2.2.1 2 rfl).trans gk, g4'.trans g4, g6'.trans g6, a3, a4, a5, a6⟩
  rw [u206_0 hu, ← hS1]
  exact a1
end YRXL
end YRX
