/-! taken from whole by wip/p27/slice2.py: 61.prim2.lean.txt -/
section YPJ
/-- a mode with other code -/
def ycode (m : yMo) (f : yCo → yCo) : yMo := match m with
  | .inl p => .inl p
  | .inr (t, b, .inl e) => .inr (t, b, .inl e)
  | .inr (t, b, .inr (L, X)) => .inr (t, b, .inr (f L, X))
theorem cM_code {T : yTk} {N u : Nat} {w : Int} {S S' : yS} {m : yMo} {f : yCo → yCo} (hu : u = 0 ∨ u = 1) (h : cM T N u w S m) (g1 : ∀ k, k ≠ u → gI S' k = gI S k) (ga : ∀ k, k ≠ u → gA S' k = gA S k) (gb : ∀ k, k ≠ u → gB S' k = gB S k) (gc : gC S' = gC S) (gk : gK S' = gK S) (gj : gJ S' = gJ S) (hr : 0 ≤ gI S' u ∧ gI S' u ≤ capu u) (hf : ∀ L, cK S u L → cK S' u (f L)) : cM T N u w S' (ycode m f) := by
  obtain ⟨h1, h2, h3, h4, h5⟩ := h
  have kT : cT S' T N := by
    refine ⟨fun j hj => ?_, ?_, ?_⟩
    · rw [gc, ga 22 (by omega), gb 8 (by omega)]
      exact h1.1 j hj
    · rw [g1 13 (by omega)]; exact h1.2.1
    · rw [g1 13 (by omega)]; exact h1.2.2
  have kA : ∀ t b, cA S T N t b → cA S' T N t b := fun t b hA => ⟨kT, hA.2.1, by rw [g1 14 (by omega)]; exact hA.2.2.1, by rw [g1 15 (by omega)]; exact hA.2.2.2.1, hA.2.2.2.2.1, by rw [gk]; exact hA.2.2.2.2.2.1, by rw [g1 16 (by omega)]; exact hA.2.2.2.2.2.2.1, by rw [gj]; exact hA.2.2.2.2.2.2.2⟩
  have kE : ∀ e, cE S e → cE S' e := fun e he => by
    match e, he with
    | none, he => show gI S' 17 = 0 ∧ gI S' 18 = -1; rw [g1 17 (by omega), g1 18 (by omega)]; exact he
    | some (n, p), he => show gI S' 17 = n ∧ gI S' 18 = p ∧ 2 ≤ n ∧ n ≤ 6; rw [g1 17 (by omega), g1 18 (by omega)]; exact he
  have kO : cO S' u := by
    refine ⟨hr.1, hr.2, by rw [g1 (2 + u) (by omega)]; exact h2.2.2.1, by rw [g1 (2 + u) (by omega)]; exact h2.2.2.2.1, fun k hk => ?_⟩
    rw [g1 (2 + u) (by omega)] at hk
    rw [ga (4 + u) (by omega)]
    exact h2.2.2.2.2 k hk
  refine ⟨kT, kO, by rw [gk]; exact h3, by rw [g1 26 (by omega)]; exact h4, ?_⟩
  match m, h5 with
  | .inl p, h5 =>
    obtain ⟨d1, d2, d3, d4, d5⟩ := h5
    exact ⟨by rw [gk]; exact d1, by rw [g1 16 (by omega)]; exact d2, by rw [g1 17 (by omega), g1 18 (by omega)]; exact d3, by rw [g1 17 (by omega)]; exact d4, by rw [g1 17 (by omega)]; exact d5⟩
  | .inr (t, b, .inl e), h5 => exact ⟨kA t b h5.1, kE _ h5.2⟩
  | .inr (t, b, .inr (L, X)), h5 =>
    obtain ⟨a1, a2, a3, a4⟩ := h5
    refine ⟨kA t b a1, kE _ a2, hf L a3, ⟨?_, fun k hk => ?_, fun k l i y hk hi => ?_⟩⟩
    · rw [g1 (2 + u) (by omega)]; exact a4.1
    · rw [ga (4 + u) (by omega)]; exact a4.2.1 k hk
    · rw [ga (2 + u) (by omega)]; exact a4.2.2 k l i y hk hi
/-- a jump's aim -/
def yset (i : Nat) (L : yCo) : yCo := if i < L.length then L.set i ((L.getD i (0, 0)).1, ya64 L.length) else L
/-- one number in the place of the last ones -/
def ylast (k : Nat) (v : Int64) (L : yCo) : yCo := if k ≤ L.length then L.take (L.length - k) ++ [(0, v)] else L
theorem yset_at {A B : yCo} {op : Nat} {a : Int64} : yset A.length (A ++ (op, a) :: B) = A ++ (op, ya64 (A ++ (op, a) :: B).length) :: B := by
  unfold yset
  have h : A.length < (A ++ (op, a) :: B).length := by rw [List.length_append, List.length_cons]; omega
  have e : (A ++ (op, a) :: B).getD A.length (0, 0) = (op, a) := by
    rw [List.getD_eq_getElem?_getD, List.getElem?_append_right (Nat.le_refl _), Nat.sub_self]
    rfl
  rw [if_pos h, e, List.set_append_right _ _ (Nat.le_refl _), Nat.sub_self]
  rfl
theorem ylast_at {A B : yCo} {v : Int64} : ylast B.length v (A ++ B) = A ++ [(0, v)] := by
  unfold ylast
  have h : B.length ≤ (A ++ B).length := by rw [List.length_append]; omega
  have e : (A ++ B).length - B.length = A.length := by rw [List.length_append]; omega
  rw [if_pos h, e, List.take_append_of_le_length (Nat.le_refl _), List.take_length]
section YPJL
variable {q : yQ} {d : Nat} {js : List xO} {S : yS} {T : yTk} {N u : Nat} {w : Int}
theorem maim {m : yMo} {i : Nat} (hu : u = 0 ∨ u = 1) (h : cM T N u w S m) (hi : i ≤ 4000) : ∃ S', Y q d 24 0 [vr (cu u), vi i] [] S js = yretv q S' js ∧ yFr (yWx u) S S' ∧ cM T N u w S' (ycode m (yset i)) := by
  have hO := h.2.1
  refine ⟨yaim S u i, c24 hu ⟨hO.1, hO.2.1⟩ (by omega), ?_, ?_⟩
  · unfold yaim
    split
    · exact yFr_B (by unfold yWx; simp)
    · exact yFr_rf _ _
  · unfold yaim
    by_cases z : 0 ≤ (i : Int) ∧ (i : Int) < gI S u
    · rw [if_pos z]
      refine cM_code hu h (fun _ _ => rfl) (fun _ _ => rfl) (fun k hk => gB_ne S u _ _ hk) rfl rfl rfl ⟨hO.1, hO.2.1⟩ fun L hL => ?_
      have hil : i < L.length := by have := hL.1; omega
      unfold yset
      rw [if_pos hil]
      refine ⟨by rw [List.length_set]; exact hL.1, fun j x hj => ?_⟩
      have hg := gB_self S u ((i : Int).toNat) (yi2l (gI S u)) j
      rw [Int.toNat_natCast] at hg
      have hg2 : gB (sB S u (i : Int).toNat (yi2l (gI S u))) u j = if j = i then yi2l (gI S u) else gB S u j := hg
      show gA S u j = x.1 ∧ gB (sB S u (i : Int).toNat (yi2l (gI S u))) u j = x.2
      rw [hg2]
      rw [List.getElem?_set] at hj
      by_cases y : i = j
      · subst y
        rw [if_pos rfl, if_pos hil] at hj
        cases hj
        have hx := hL.2 i _ (List.getElem?_eq_getElem hil)
        have ed : (L.getD i (0, 0)) = L[i] := by rw [List.getD_eq_getElem?_getD, List.getElem?_eq_getElem hil]; rfl
        rw [if_pos rfl, ed, hL.1]
        exact ⟨hx.1, rfl⟩
      · rw [if_neg y] at hj
        rw [if_neg (fun e => y e.symm)]
        exact hL.2 j x hj
    · rw [if_neg z]
      have e : ∀ L, cK S u L → yset i L = L := fun L hL => by
        unfold yset
        rw [if_neg (by have := hL.1; omega)]
      refine cM_code hu h (fun _ _ => rfl) (fun _ _ => rfl) (fun _ _ => rfl) rfl rfl rfl ⟨hO.1, hO.2.1⟩ fun L hL => ?_
      rw [e L hL]
      exact hL
theorem mrep {m : yMo} {k : Nat} {v : Int64} (hu : u = 0 ∨ u = 1) (h : cM T N u w S m) (hk : 1 ≤ k ∧ k ≤ 4) : ∃ S', Y q d 23 0 [vr (cu u), vi k, vj v, vu] [] S js = yretv q S' js ∧ yFr (yWx u) S S' ∧ cM T N u w S' (ycode m (ylast k v)) := by
  have hO := h.2.1
  have e0 : ∀ s, s = 0 ∨ s = 3 ∨ s = 4 → yWx u s u = true := by
    intro s hs
    unfold yWx
    rcases hs with rfl | rfl | rfl <;> simp
  refine ⟨yrep S u k v, c23 hu ⟨hO.1, hO.2.1⟩ (by omega), ?_, ?_⟩
  · unfold yrep
    split
    · exact yFr_tr (yFr_I (e0 0 (by omega))) (yFr_tr (yFr_A (e0 3 (by omega))) (yFr_tr (yFr_B (e0 4 (by omega))) (yFr_I (e0 0 (by omega)))))
    · exact yFr_rf _ _
  · unfold yrep
    by_cases z : 0 < (k : Int) ∧ (k : Int) ≤ gI S u
    · rw [if_pos z]
      refine cM_code hu h (fun j hj => (gI_ne _ u _ hj).trans (gI_ne S u _ hj)) (fun j hj => gA_ne (sI S u (gI S u - k)) u _ _ hj) (fun j hj => gB_ne (sA (sI S u (gI S u - k)) u (gI S u - k).toNat 0) u _ _ hj) rfl rfl rfl ?_ fun L hL => ?_
      · have : gI (sI (sB (sA (sI S u (gI S u - k)) u (gI S u - k).toNat 0) u (gI S u - k).toNat v) u (gI S u - k + 1)) u = gI S u - k + 1 := gI_self _ _ _
        rw [this]
        have := hO.2.1
        omega
      · have hkl : k ≤ L.length := by have := hL.1; omega
        have en : (gI S u - k).toNat = L.length - k := by have := hL.1; omega
        unfold ylast
        rw [if_pos hkl]
        have hlen : (L.take (L.length - k)).length = L.length - k := by rw [List.length_take]; omega
        refine ⟨?_, fun j x hj => ?_⟩
        · have : gI (sI (sB (sA (sI S u (gI S u - k)) u (gI S u - k).toNat 0) u (gI S u - k).toNat v) u (gI S u - k + 1)) u = gI S u - k + 1 := gI_self _ _ _
          rw [this, List.length_append, hlen]
          have e1 : ([(0, v)] : yCo).length = 1 := rfl
          have := hL.1
          omega
        · have hga : gA (sI (sB (sA (sI S u (gI S u - k)) u (gI S u - k).toNat 0) u (gI S u - k).toNat v) u (gI S u - k + 1)) u j = if j = (gI S u - k).toNat then 0 else gA S u j := gA_self (sI S u (gI S u - k)) u _ _ j
          have hgb : gB (sI (sB (sA (sI S u (gI S u - k)) u (gI S u - k).toNat 0) u (gI S u - k).toNat v) u (gI S u - k + 1)) u j = if j = (gI S u - k).toNat then v else gB S u j := gB_self (sA (sI S u (gI S u - k)) u (gI S u - k).toNat 0) u _ _ j
          rw [hga, hgb, en]
          by_cases y : j = L.length - k
          · rw [if_pos y, if_pos y]
            rw [List.getElem?_append_right (by omega), hlen, y, Nat.sub_self] at hj
            cases hj
            exact ⟨rfl, rfl⟩
          · have hj2 : j < L.length - k := by
              have := (List.getElem?_eq_some_iff.mp hj).1
              rw [List.length_append, hlen] at this
              have e1 : ([(0, v)] : yCo).length = 1 := rfl
              omega
            rw [if_neg y, if_neg y]
            rw [List.getElem?_append_left (by omega), List.getElem?_take_of_lt hj2] at hj
            exact hL.2 j x hj
    · rw [if_neg z]
      refine cM_code hu h (fun _ _ => rfl) (fun _ _ => rfl) (fun _ _ => rfl) rfl rfl rfl ⟨hO.1, hO.2.1⟩ fun L hL => ?_
      unfold ylast
      rw [if_neg (by have := hL.1; omega)]
      exact hL
/-- the argument so many from the end -/
theorem mback {m : yMo} {k : Nat} (hu : u = 0 ∨ u = 1) (h : cM T N u w S m) (hk : 1 ≤ k ∧ k ≤ 4) : ∃ v, Y q d 22 0 [vr (cu u), vi k] [] S js = yret q (vj v) S js ∧ ∀ t b A B op a X, m = .inr (t, b, .inr (A ++ (op, a) :: B, X)) → B.length + 1 = k → v = a := by
  have hO := h.2.1
  refine ⟨_, c22 hu ⟨hO.1, hO.2.1⟩ (by omega), ?_⟩
  intro t b A B op a X hm hB
  subst hm
  have hK := h.2.2.2.2.2.2.1
  have hl : gI S u = (A ++ (op, a) :: B).length := hK.1
  rw [List.length_append, List.length_cons] at hl
  have e : (gI S u - k).toNat = A.length := by omega
  have hx := (hK.2 A.length (op, a) (by rw [List.getElem?_append_right (Nat.le_refl _), Nat.sub_self]; rfl)).2
  rw [if_pos (by omega), e, hx]
/-- one deeper -/
theorem mopen {t b dp : Nat} {k : yK9} (hu : u = 0 ∨ u = 1) (hT : yTo T N) (h : cM T N u w S (.inr (t, b, k))) (hk : (T t).1 ≤ 64) (hdp : dp ≤ 13) : ∃ (S' : yS) (r : Int), Y q (d + 1) 56 0 [vr 122, vi dp] [] S js = yret q (vi r) S' js ∧ yFr yWk S S' ∧ (12 ≤ dp ∨ b = 0 → r = 0 ∧ cM T N u w S' (.inl (T t).2.1)) ∧ (dp < 12 ∧ 0 < b → cM T N u w S' (.inr (t + 1, b - 1, k)) ∧ r = yb (¬ (T (t + 1)).1 = 66)) := by
  obtain ⟨hA, hE⟩ := cM_A h
  obtain ⟨S', r, e1, e2, e3, e4⟩ := c56 (q := q) (d := d) (js := js) hT hA hk hE hdp
  refine ⟨S', r, e1, e2, fun z => ?_, fun z => ?_⟩
  · obtain ⟨a1, a2⟩ := e3 z
    exact ⟨a1, cM_dead hu h e2 a2⟩
  · obtain ⟨a1, a2, a3⟩ := e4 z
    exact ⟨cM_to hu h e2 a1 a2, a3⟩
theorem mopend {p dp : Nat} (hu : u = 0 ∨ u = 1) (h : cM T N u w S (.inl p)) (hdp : dp ≤ 13) : ∃ S' : yS, Y q (d + 1) 56 0 [vr 122, vi dp] [] S js = yret q (vi 0) S' js ∧ yFr yWk S S' ∧ cM T N u w S' (.inl p) := by
  obtain ⟨S', e1, e2, e3⟩ := c56d (q := q) (d := d) (js := js) h.2.2.2.2 hdp
  exact ⟨S', e1, e2, cM_dead hu h e2 e3⟩
/-- a parenthesis that closes -/
def yclm (T : yTk) (m : yMo) : yMo := match m with
  | .inl p => .inl p
  | .inr (t, b, k) => if (T t).1 = 47 ∧ 0 < b then .inr (t + 1, b - 1, k) else .inl (T t).2.1
theorem mclose {m : yMo} (hu : u = 0 ∨ u = 1) (hT : yTo T N) (h : cM T N u w S m) : ∃ S' : yS, Y q (d + 1) 59 0 [vr 122] [] S js = yretv q S' js ∧ yFr yWk S S' ∧ cM T N u w S' (yclm T m) := by
  match m, h with
  | .inl p, h =>
    obtain ⟨S', e1, e2, e3⟩ := c59d (q := q) (d := d) (js := js) h.2.2.2.2
    exact ⟨S', e1, e2, cM_dead hu h e2 e3⟩
  | .inr (t, b, k), h =>
    obtain ⟨hA, hE⟩ := cM_A h
    obtain ⟨S', e1, e2, e3, e4⟩ := c59 (q := q) (d := d) (js := js) hT hA hE
    refine ⟨S', e1, e2, ?_⟩
    unfold yclm
    by_cases z : (T t).1 = 47 ∧ 0 < b
    · show cM T N u w S' (if _ then _ else _)
      rw [if_pos z]
      obtain ⟨a1, a2⟩ := e3 z
      exact cM_to hu h e2 a1 a2
    · show cM T N u w S' (if _ then _ else _)
      rw [if_neg z]
      exact cM_dead hu h e2 (e4 z)
/-- at a token that is none nothing is read on -/
theorem cM_66 {t b : Nat} {k : yK9} (h : cM T N u w S (.inr (t, b, k))) (h66 : (T t).1 = 66) : cM T N u w S (.inl (T t).2.1) := by
  obtain ⟨hA, hE⟩ := cM_A h
  have h17 := cE_17 hE
  exact ⟨h.1, h.2.1, h.2.2.1, h.2.2.2.1, by rw [hA.2.2.2.2.2.1]; exact h66, hA.2.2.2.2.2.2.1, fun x => (h17.2.2 x).elim, h17.1, h17.2.1⟩
end YPJL
end YPJ
