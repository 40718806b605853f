/-! THE CLASS EVALUATES: up to the expression's end -/
section YEV
def yWe (s k : Nat) : Bool := yWm s k || yWt s k || yWy 1 s k || (s == 0 && (k == 12 || k == 13 || k == 14 || k == 15 || k == 16 || k == 17 || k == 18 || k == 1 || k == 3)) || (s == 1 && k == 0) || (s == 2 && k == 0)
theorem yWe_m {S S' : yS} (h : yFr yWm S S') : yFr yWe S S' := yFr_mo h fun s k e => by
  unfold yWe at e
  simp only [Bool.or_eq_false_iff] at e
  exact e.1.1.1.1.1
theorem yWe_y {S S' : yS} (h : yFr (yWy 1) S S') : yFr yWe S S' := yFr_mo h fun s k e => by
  unfold yWe at e
  simp only [Bool.or_eq_false_iff] at e
  exact e.1.1.1.2
theorem yWe_t {S S' : yS} (h : yFr (fun s k => yWt s k || (s == 0 && (k == 17 || k == 18))) S S') : yFr yWe S S' := yFr_mo h fun s k e => by
  unfold yWe at e
  simp only [Bool.or_eq_false_iff] at e ⊢
  refine ⟨e.1.1.1.1.2, ?_⟩
  have h2 := e.1.1.2
  cases hs : (s == 0)
  · rfl
  · rw [hs] at h2
    simp only [Bool.true_and, Bool.or_eq_false_iff] at h2 ⊢
    exact ⟨h2.1.1.1.2, h2.1.1.2⟩
/-- slots other than the result's are as they were -/
def yF27 (S S' : yS) : Prop := (∀ m, m ≠ 27 → gA S' 30 m = gA S 30 m ∧ gB S' 9 m = gB S 9 m ∧ gA S' 31 m = gA S 31 m) ∧ ∀ j, ¬ (1620 ≤ j ∧ j < 1680) → gA S' 32 j = gA S 32 j
theorem yF27_e {A B C : yS} (h : yF27 A B) (h30 : gA C 30 = gA B 30) (h9 : gB C 9 = gB B 9) (h31 : gA C 31 = gA B 31) (h32 : gA C 32 = gA B 32) : yF27 A C := ⟨fun m hm => by rw [h30, h9, h31]; exact h.1 m hm, fun j hj => by rw [h32]; exact h.2 j hj⟩
theorem cV_e {A B : yS} {n : Nat} {v : yVal} (h : cV A n v) (h30 : gA B 30 = gA A 30) (h9 : gB B 9 = gB A 9) (h31 : gA B 31 = gA A 31) (h32 : gA B 32 = gA A 32) : cV B n v := by
  match v, h with
  | .inl x, h => exact ⟨by rw [h30]; exact h.1, by rw [h9]; exact h.2.1, by rw [h31]; exact h.2.2⟩
  | .inr l, h => exact ⟨by rw [h30]; exact h.1, by rw [h31]; exact h.2.1, h.2.2.1, fun i y hi => by rw [h32]; exact h.2.2.2 i y hi⟩
section YEVL
variable {q : yQ} {js : List xO} {S : yS}
theorem c173a {row : Int} {n e : Nat} {O : yOp} (h12 : gI S 12 = n) (hn : n ≤ 2000) (h10 : 0 ≤ gI S 10 ∧ gI S 10 ≤ 8) (h11 : 0 ≤ gI S 11 ∧ gI S 11 ≤ 320) (h8 : 0 ≤ gI S 8 ∧ gI S 8 ≤ 8) (h9 : 0 ≤ gI S 9 ∧ gI S 9 ≤ 8) (h5 : gA S 5 0 = 0) (hb : ∀ i, i < n → 0 ≤ tb S i ∧ tb S i ≤ 255) (hrow : -1 ≤ row ∧ row < nrow (gI S 10) (gI S 11)) (hr40 : row < 40) : ∃ (S5 : yS) (r : Nat), Y q (e + 172) 173 0 [vr 75, vi row] [] S js = Y q (e + 172) 173 61 [vr 75, vi row] [vi (r : Int)] S5 js ∧ yFr yWe S S5 ∧ yF27 S S5 ∧ cV S5 27 (.inl 0) ∧ (ytq (tb S) n).length ≤ 2001 ∧ cNd (yTf (ytq (tb S) n)) (ytq (tb S) n).length 1 S5 (ymdn 1 (ymode (.inr ([], [])) (ytxb S) (yexp (yTf (ytq (tb S) n)) (ytxb S) (ynmS S 0) false O 12 0 0 0 100))) := by
  have er : yr row = row := yr_eq (by omega) (by omega)
  have em : yr (-1) = -1 := rfl
  have hn40 := nrow_le h10 (n := gI S 11) 
  obtain ⟨S1, a1, a2, a3⟩ := c71 (q := q) (d := e + 171) (js := js) (S := S) (n := 27) (x := 0) (by omega)
  have st1 : Y q (e + 172) 173 0 [vr 75, vi row] [] S js = Y q (e + 172) 173 41 [vr 75, vi row] [] (sI (sI S1 1 0) 3 0) js := by
    have hnr : -2147483648 ≤ nrow (gI S 10) (gI S 11) ∧ nrow (gI S 10) (gI S 11) < 2147483648 := by
      unfold nrow
      split
      · omega
      · have h1 : gI S 11 / gI S 10 ≤ gI S 11 := Int.ediv_le_self _ h11.1
        have h2 := Int.ediv_nonneg h11.1 h10.1
        omega
    have a1 : Y q (e + 171) 71 0 [vr 118, vi 27, vj 0, vu] [] S js = yretv q S1 js := a1
    rw [w173_0, er, em, if_neg (by omega), c131 h10 h11, YB_ret, w173_13, er, yr_eq hnr.1 hnr.2, if_pos hrow.2, a1, YB_retv, w173_34, w19_0, YB_retv]
  obtain ⟨S2, hS2⟩ : ∃ S2, S2 = sI (sI S1 1 0) 3 0 := ⟨_, rfl⟩
  rw [← hS2] at st1
  have f02 : yFr yWe S S2 := by
    rw [hS2]
    exact yFr_tr (yWe_m a2.1) (yFr_tr (yFr_I rfl) (yFr_I rfl))
  have t2 : tb S2 = tb S := by
    funext i
    unfold tb
    rw [f02.2.2.2.1 21 rfl]
  have h12' : gI S2 12 = n := by
    rw [hS2]
    show gI S1 12 = n
    rw [a2.1.1 12 rfl]
    exact h12
  obtain ⟨S3, b1, b2, b3, b4, b5, b6, b7⟩ := c142 (q := q) (d := e + 167) (js := js) (S := S2) h12' hn
  rw [t2] at b5 b6
  have b5 : yHold S3 0 (ytq (tb S) n) := b5
  have b6 : ((ytq (tb S) n).length : Int) ≤ gI S3 13 := b6
  have hl : (ytq (tb S) n).length ≤ 2001 := by omega
  obtain ⟨hT, hpl⟩ := ytq_to hn hl
  have hR := (ytq_room hn hl hb).2
  obtain ⟨S4, hS4⟩ : ∃ S4, S4 = yfin S3 := ⟨_, rfl⟩
  have f24 : yFr yWe S2 S4 := by
    rw [hS4]
    exact yFr_tr (yWe_t b2) (yFr_tr (yFr_I rfl) (yFr_tr (yFr_I rfl) (yFr_tr (yFr_K rfl) (yFr_tr (yFr_I rfl) (yFr_J rfl)))))
  have f04 := yFr_tr f02 f24
  have tok : ∀ j, j < (ytq (tb S) n).length → gC S3 2 j = (yTf (ytq (tb S) n) j).1 ∧ gA S3 22 j = (yTf (ytq (tb S) n) j).2.1 ∧ gB S3 8 j = (yTf (ytq (tb S) n) j).2.2 := fun j hj => by
    have := b5 j _ (yTf_some hj)
    rw [Nat.zero_add] at this
    exact this
  have hN := hT.1
  have g1 : gI S4 1 = 0 := by
    rw [hS4]
    show gI S3 1 = 0
    rw [b2.1 1 rfl, hS2]
    rfl
  have g3 : gI S4 3 = 0 := by
    rw [hS4]
    show gI S3 3 = 0
    rw [b2.1 3 rfl, hS2]
    rfl
  have g5 : gA S4 5 0 = 0 := by
    rw [hS4]
    show gA S3 5 0 = 0
    rw [b2.2.2.2.1 5 rfl, hS2]
    show gA S1 5 0 = 0
    rw [a2.1.2.2.2.1 5 rfl]
    exact h5
  have kT : cT S4 (yTf (ytq (tb S) n)) (ytq (tb S) n).length := by
    rw [hS4]
    exact ⟨tok, b6, b7⟩
  have kO : cO S4 1 := by
    refine ⟨by rw [g1]; omega, by rw [g1]; decide, by show 0 ≤ gI S4 3; omega, by show gI S4 3 ≤ 1000; omega, fun k hk => ?_⟩
    have hk : (k : Int) ≤ gI S4 3 := hk
    have hk0 : k = 0 := by omega
    subst hk0
    show 0 ≤ gA S4 5 0 ∧ gA S4 5 0 ≤ 2000 ∧ (0 = 0 → gA S4 5 0 = 0)
    rw [g5]
    omega
  have kA : cA S4 (yTf (ytq (tb S) n)) (ytq (tb S) n).length 0 1000000 := by
    refine ⟨kT, hN, ?_, ?_, by omega, ?_, ?_, ?_⟩
    · rw [hS4]
      rfl
    · rw [hS4]
      rfl
    · rw [hS4]
      exact (tok 0 hN).1
    · rw [hS4]
      exact (tok 0 hN).2.1
    · rw [hS4]
      exact (tok 0 hN).2.2
  have kE : cE S4 none := by
    rw [hS4]
    exact ⟨b3, b4⟩
  have kN : cNd (yTf (ytq (tb S) n)) (ytq (tb S) n).length 1 S4 (.inr (0, 1000000, .inr ([], []))) := by
    refine ⟨kT, kO, kA, kE, ⟨g1, fun j x hj => nomatch hj⟩, ⟨g3, fun k hk => ?_, fun k l i y hk => nomatch hk⟩⟩
    have hk0 : k = 0 := Nat.le_zero.mp hk
    subst hk0
    exact g5
  have hbs : ybs 1 yRm1 (yRx (tb S) n) 0 0 0 100 (.inr ([], [])) := by
    intro L X hLX
    injection hLX with hLX
    injection hLX with h1 h2
    subst h1 h2
    exact ⟨rfl, rfl, by decide, Nat.zero_le _⟩
  have g12 : gI S4 12 = n := by
    rw [hS4]
    show gI S3 12 = n
    rw [b2.1 12 rfl]
    exact h12'
  obtain ⟨S5, r, m', c1, c2, c3, c4, c5, c6⟩ := m51 (q := q) (js := js) (w := 0) (O := O) (dp := 0) (u := 1) (s := 2) (Or.inr rfl) hT hR (fun t ht => by have := hpl t ht; unfold yRx; omega) (S := S4) (by omega) (Or.inl rfl) (by rw [f04.1 10 rfl]; exact h10) (by rw [f04.1 8 rfl]; exact h8) (by rw [f04.1 9 rfl]; exact h9) (fun t ht hk => by
    obtain ⟨m, m1, m2, _⟩ := ytq_txt hn hl hb ht hk
    rw [m1, (ytq_64 m2).2]
    omega) (by omega) kN (d := e + 170) (by omega) (fun t b k hk => ⟨0, 0, by
      injection hk with hk
      injection hk with h1 h2
      injection h2 with h2 h3
      subst h1 h2 h3
      exact hbs⟩)
  obtain ⟨c6, _⟩ := c6 0 1000000 _ rfl 0 0 hbs
  have etx : ytxb S4 = ytxb S := by
    funext p m
    unfold ytxb tbl tb
    rw [f04.2.2.2.1 21 rfl, g12, h12]
  have enm : ynmS S4 0 = ynmS S 0 := by
    funext v
    unfold ynmS
    rw [f04.1 10 rfl, f04.1 8 rfl, f04.1 9 rfl, f04.2.2.2.2.1 6 rfl, f04.2.2.2.2.1 4 rfl, f04.2.2.2.2.1 5 rfl, f04.2.2.2.1 20 rfl, f04.2.2.2.1 14 rfl, f04.2.2.2.1 15 rfl]
  rw [etx, enm] at c6
  have c6 : m' = ymdn 1 (ymode (.inr ([], [])) (ytxb S) (yexp (yTf (ytq (tb S) n)) (ytxb S) (ynmS S 0) false O 12 0 0 0 100)) := c6
  rw [c6] at c3
  -- slots
  have m1 : ∀ k, k = 30 ∨ k = 31 ∨ k = 32 → gA S5 k = gA S1 k := by
    intro k hk
    have h51 : gA S5 k = gA S4 k := by rcases hk with rfl | rfl | rfl <;> exact c2.2.2.2.1 _ rfl
    have h43 : gA S4 k = gA S3 k := by rw [hS4]; rfl
    have h32 : gA S3 k = gA S2 k := by rcases hk with rfl | rfl | rfl <;> exact b2.2.2.2.1 _ rfl
    have h21 : gA S2 k = gA S1 k := by rw [hS2]; rfl
    rw [h51, h43, h32, h21]
  have m9 : gB S5 9 = gB S1 9 := by
    have h51 : gB S5 9 = gB S4 9 := c2.2.2.2.2.1 _ rfl
    have h43 : gB S4 9 = gB S3 9 := by rw [hS4]; rfl
    have h32 : gB S3 9 = gB S2 9 := b2.2.2.2.2.1 _ rfl
    have h21 : gB S2 9 = gB S1 9 := by rw [hS2]; rfl
    rw [h51, h43, h32, h21]
  refine ⟨S5, r, ?_, yFr_tr f04 (yWe_y c2), ?_, cV_e a3 (m1 30 (Or.inl rfl)) m9 (m1 31 (Or.inr (Or.inl rfl))) (m1 32 (Or.inr (Or.inr rfl))), hl, c3⟩
  · rw [st1]
    have b1 : Y q (e + 171) 142 0 [vr 80, vu, vu, vu] [] S2 js = yretv q S4 js := by rw [hS4]; exact b1
    have c1 : Y q (e + 171) 51 0 [vr 116, vr 111, vi 0, vi 0, vu] [] S4 js = yret q (vi (r : Int)) S5 js := c1
    rw [w173_41, b1, YB_retv, w173_48, c1, YB_ret]
  · exact yF27_e ⟨a2.2.1, fun j hj => a2.2.2 j (by omega)⟩ (m1 30 (Or.inl rfl)) m9 (m1 31 (Or.inr (Or.inl rfl))) (m1 32 (Or.inr (Or.inr rfl)))
end YEVL
end YEV
