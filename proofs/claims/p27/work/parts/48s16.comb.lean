/-! taken from whole by wip/p27/slice2.py: 62.comb.lean.txt -/
section YCB
section YCBL
variable {q : yQ} {d : Nat} {js : List xO} {S : yS} {T : yTk} {N u : Nat} {w : Int}
theorem c69 {op : Nat} {a b : Int64} (h : 6 ≤ op ∧ op ≤ 19 ∧ op ≠ 11) : Y q d 69 0 [vi op, vj a, vu, vj b, vu] [] S js = yret q (vj (ycal op a b)) S js := by
  have e : yr (op : Int) = op := yr_eq (by omega) (by omega)
  rw [w69_0, e]
  simp only [yr_lcmp, ylcmp_eq, ylcmp_lt, ylcmp_gt]
  unfold ycal
  obtain ⟨h1, h2, h3⟩ := h
  have hc : (op : Int) = 6 ∨ (op : Int) = 7 ∨ (op : Int) = 8 ∨ (op : Int) = 9 ∨ (op : Int) = 10 ∨ (op : Int) = 12 ∨ (op : Int) = 13 ∨ (op : Int) = 14 ∨ (op : Int) = 15 ∨ (op : Int) = 16 ∨ (op : Int) = 17 ∨ (op : Int) = 18 ∨ (op : Int) = 19 := by omega
  generalize (op : Int) = o at hc e ⊢
  rcases hc with rfl | rfl | rfl | rfl | rfl | rfl | rfl | rfl | rfl | rfl | rfl | rfl | rfl
  all_goals simp only [Int.reduceEq, if_true, if_false]
  all_goals repeat' split
  all_goals first | rfl | contradiction
theorem mcomb {m : yMo} {x y op : Nat} (hu : u = 0 ∨ u = 1) (h : cM T N u w S m) (hx : x ≤ 2) (hy : y ≤ 2) (hop : 6 ≤ op ∧ op ≤ 19 ∧ op ≠ 11) : ∃ (S' : yS) (r : Nat) (m' : yMo), Y q (d + 1) 67 0 [vr 122, vi op, vi x, vi y, vu, vu, vu, vu, vu] [] S js = yret q (vi r) S' js ∧ yFr (yWx u) S S' ∧ r ≤ 2 ∧ cM T N u w S' m' ∧ (¬ (x = 2 ∧ y = 2) → m' = yadm u m op 0 ∧ r = 0) ∧ (x = 2 ∧ y = 2 → (∀ p, m = .inl p → m' = m) ∧ (∀ t b e, m = .inr (t, b, .inl e) → m' = m) ∧ ∀ t b A a c X, m = .inr (t, b, .inr (A ++ [(0, a), (0, c)], X)) → if (op = 9 ∨ op = 10) ∧ c = 0 then m' = yadm u m op 0 ∧ r = 0 else m' = .inr (t, b, .inr (A ++ [(0, ycal op a c)], X)) ∧ r = 2) := by
  obtain ⟨v2, b2, f2⟩ := mback (q := q) (d := d) (js := js) (k := 2) hu h (by omega)
  obtain ⟨v1, b1, f1⟩ := mback (q := q) (d := d) (js := js) (k := 1) hu h (by omega)
  obtain ⟨S1, r1, a1, a2, a3, a4, a5⟩ := madd (q := q) (d := d) (js := js) hu h op 0
  obtain ⟨S2, c1, c2, c3⟩ := mrep (q := q) (d := d) (js := js) (k := 2) (v := ycal op v2 v1) hu h (by omega)
  have e9 : yr 9 = 9 := rfl
  have e10 : yr 10 = 10 := rfl
  have e2 : yr 2 = 2 := rfl
  have z1 : ¬ yr 1 = 0 := by decide
  have z0 : yr 0 = 0 := rfl
  have eo : yr (op : Int) = op := yr_eq (by omega) (by omega)
  have ex : yr (x : Int) = x := yr_eq (by omega) (by omega)
  have ey : yr (y : Int) = y := yr_eq (by omega) (by omega)
  have hk := h.2.2.1
  have st : Y q (d + 1) 67 0 [vr 122, vi op, vi x, vi y, vu, vu, vu, vu, vu] [] S js = if (x = 2 ∧ y = 2) ∧ ¬ ((op = 9 ∨ op = 10) ∧ v1 = 0) then yret q (vi 2) S2 js else yret q (vi 0) S1 js := by
    rcases hu with rfl | rfl
    · have hk : gK S 1 = 107 := hk
      have b2 : Y q d 22 0 [vr 107, vi 2] [] S js = yret q (vj v2) S js := b2
      have b1 : Y q d 22 0 [vr 107, vi 1] [] S js = yret q (vj v1) S js := b1
      have a1 : Y q d 20 0 [vr 107, vi op, vj 0, vu, vu] [] S js = yret q (vi r1) S1 js := a1
      have c1 : Y q d 23 0 [vr 107, vi 2, vj (ycal op v2 v1), vu] [] S js = yretv q S2 js := c1
      have r65 : ∀ i : Int, Y q (d + 1) 67 65 [vr 122, vi op, vi x, vi y, vj v2, vu, vj v1, vu, vi i] [vr 107] S js = yret q (vi 0) S1 js := fun i => by rw [w67_65, a1, YB_ret, w67_70]
      have r77 : ∀ i : Int, Y q (d + 1) 67 77 [vr 122, vi op, vi x, vi y, vj v2, vu, vj v1, vu, vi i] [vr 107] S js = yret q (vi 2) S2 js := fun i => by rw [w67_77, c69 hop, YB_ret, w67_86, c1, YB_retv, w67_89]
      rw [w67_0, if_pos hk, w67_4, b2, YB_ret, w67_8, if_pos hk, w67_14, b1, YB_ret, w67_18]
      simp only [hk, if_true, Nat.reduceEqDiff, if_false, r65, r77, e9, e10, e2, z1, z0, eo, ex, ey, yr_lcmp, ylcmp_eq]
      by_cases x2 : x = 2
      · by_cases y2 : y = 2
        · by_cases o9 : op = 9
          · by_cases v0 : v1 = 0
            · simp [x2, y2, o9, v0]
            · simp [x2, y2, o9, v0]
          · by_cases o10 : op = 10
            · by_cases v0 : v1 = 0
              · simp [x2, y2, o9, o10, v0]
              · simp [x2, y2, o9, o10, v0]
            · have n9 : ¬ ((op : Int) = 9) := by omega
              have n10 : ¬ ((op : Int) = 10) := by omega
              simp [x2, y2, o9, o10, n9, n10]
        · have ny : ¬ ((y : Int) = 2) := by omega
          simp [y2, ny]
      · have nx : ¬ ((x : Int) = 2) := by omega
        simp [x2, nx]
    · have hk : gK S 1 = 117 := hk
      have b2 : Y q d 22 0 [vr 117, vi 2] [] S js = yret q (vj v2) S js := b2
      have b1 : Y q d 22 0 [vr 117, vi 1] [] S js = yret q (vj v1) S js := b1
      have a1 : Y q d 20 0 [vr 117, vi op, vj 0, vu, vu] [] S js = yret q (vi r1) S1 js := a1
      have c1 : Y q d 23 0 [vr 117, vi 2, vj (ycal op v2 v1), vu] [] S js = yretv q S2 js := c1
      have hk9 : ¬ gK S 1 = 107 := by omega
      have r65 : ∀ i : Int, Y q (d + 1) 67 65 [vr 122, vi op, vi x, vi y, vj v2, vu, vj v1, vu, vi i] [vr 117] S js = yret q (vi 0) S1 js := fun i => by rw [w67_65x, a1, YB_ret, w67_70]
      have r77 : ∀ i : Int, Y q (d + 1) 67 77 [vr 122, vi op, vi x, vi y, vj v2, vu, vj v1, vu, vi i] [vr 117] S js = yret q (vi 2) S2 js := fun i => by rw [w67_77x, c69 hop, YB_ret, w67_86x, c1, YB_retv, w67_89]
      rw [w67_0, if_neg hk9, if_pos hk, w67_4x, b2, YB_ret, w67_8, if_neg hk9, if_pos hk, w67_14x, b1, YB_ret, w67_18]
      simp only [hk, if_true, Nat.reduceEqDiff, if_false, r65, r77, e9, e10, e2, z1, z0, eo, ex, ey, yr_lcmp, ylcmp_eq]
      by_cases x2 : x = 2
      · by_cases y2 : y = 2
        · by_cases o9 : op = 9
          · by_cases v0 : v1 = 0
            · simp [x2, y2, o9, v0]
            · simp [x2, y2, o9, v0]
          · by_cases o10 : op = 10
            · by_cases v0 : v1 = 0
              · simp [x2, y2, o9, o10, v0]
              · simp [x2, y2, o9, o10, v0]
            · have n9 : ¬ ((op : Int) = 9) := by omega
              have n10 : ¬ ((op : Int) = 10) := by omega
              simp [x2, y2, o9, o10, n9, n10]
        · have ny : ¬ ((y : Int) = 2) := by omega
          simp [y2, ny]
      · have nx : ¬ ((x : Int) = 2) := by omega
        simp [x2, nx]
  rw [st]
  by_cases z : (x = 2 ∧ y = 2) ∧ ¬ ((op = 9 ∨ op = 10) ∧ v1 = 0)
  · rw [if_pos z]
    refine ⟨S2, 2, ycode m (ylast 2 (ycal op v2 v1)), rfl, c2, Nat.le_refl 2, c3, fun n => (n z.1).elim, fun _ => ⟨fun p hm => by subst hm; rfl, fun t b e hm => by subst hm; rfl, fun t b A a c X hm => ?_⟩⟩
    have g1 : v1 = c := f1 t b (A ++ [(0, a)]) [] 0 c X (by rw [hm, List.append_assoc]; rfl) rfl
    have g2 : v2 = a := f2 t b A [(0, c)] 0 a X hm rfl
    rw [← g1, if_neg z.2]
    subst hm
    refine ⟨?_, rfl⟩
    show (Sum.inr (t, b, Sum.inr (ylast 2 (ycal op v2 v1) (A ++ [(0, a), (0, c)]), X)) : yMo) = _
    have := ylast_at (A := A) (B := [(0, a), (0, c)]) (v := ycal op v2 v1)
    rw [show ([(0, a), (0, c)] : yCo).length = 2 from rfl] at this
    rw [this, g2]
  · rw [if_neg z]
    refine ⟨S1, 0, yadm u m op 0, rfl, a2, by omega, a4, fun _ => ⟨rfl, rfl⟩, fun xy => ⟨fun p hm => by subst hm; rfl, fun t b e hm => by subst hm; rfl, fun t b A a c X hm => ?_⟩⟩
    have g1 : v1 = c := f1 t b (A ++ [(0, a)]) [] 0 c X (by rw [hm, List.append_assoc]; rfl) rfl
    have y9 : (op = 9 ∨ op = 10) ∧ c = 0 := by
      rw [← g1]
      exact Classical.byContradiction fun n => z ⟨xy, n⟩
    rw [if_pos y9]
    exact ⟨rfl, rfl⟩
end YCBL
end YCB
