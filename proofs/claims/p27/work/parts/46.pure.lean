/-! THE REPORT, pure: lines as they come, and what reads them -/
section YPU
/-- a line: 0 a row (v, g, p), 1 behind a group (b), 2 the summary (a) -/
abbrev zLn : Type := Nat × Int × Int × Int
/-- lines, a, b, p -/
abbrev zSt : Type := List zLn × Int × Int × Int
def zTurn (hb : Nat) (Ls : List zLn) : Bool := Nat.blt 0 Ls.length && Nat.beq (Ls.length % hb) 0
def zP (hb : Nat) (M : zSt) : Int := if zTurn hb M.1 then 0 else M.2.2.2
/-- a row is taken in -/
def zIn (anew : Bool) (v : Int) (M : zSt) : zSt := (M.1, M.2.1 + v, (if anew then 0 else M.2.2.1) + v, M.2.2.2 + 1)
def zRow (hb : Nat) (v g : Int) (M : zSt) : zSt := (M.1 ++ [(0, v, g, zP hb M)], M.2.1, M.2.2.1, zP hb M)
def zEq (hb : Nat) (M : zSt) : zSt := (M.1 ++ [(1, M.2.2.1, 0, 0)], M.2.1, M.2.2.1, zP hb M)
def zPl (hb : Nat) (M : zSt) : zSt := (M.1 ++ [(2, M.2.1, 0, 0)], M.2.1, M.2.2.1, zP hb M)
def zNew (G : Nat → Int) (i : Nat) : Bool := Nat.beq i 0 || !decide (G (i - 1) = G i)
/-- behind a group, if one ends ahead of row i -/
def zEnd (hb : Nat) (G : Nat → Int) (i : Nat) (M : zSt) : zSt := if 0 < i ∧ zNew G i = true then zEq hb M else M
def zM (hb : Nat) (V G : Nat → Int) : Nat → zSt
  | 0 => ([], 0, 0, 0)
  | i + 1 => zRow hb (V i) (G i) (zIn (zNew G i) (V i) (zEnd hb G i (zM hb V G i)))
def zF (hb : Nat) (V G : Nat → Int) (n : Nat) : zSt := zPl hb (if 0 < n then zEq hb (zM hb V G n) else zM hb V G n)
def zS (V : Nat → Int) : Nat → Int
  | 0 => 0
  | i + 1 => zS V i + V i
def zC (G : Nat → Int) : Nat → Nat
  | 0 => 0
  | i + 1 => zC G i + (if zNew G i then 1 else 0)
/-- what the law has at hand: rows taken, a group's sum, the sum of those, groups, ends, rows on this page -/
abbrev zW : Type := Nat × Int × Int × Nat × Nat × Nat
def zH (hb j : Nat) (w : zW) : Nat := if j % hb = 0 then 0 else w.2.2.2.2.2
def zStep (hb j : Nat) (o : Option zLn) (w : zW) : zW := match o with
  | none => (w.1, w.2.1, w.2.2.1, w.2.2.2.1, w.2.2.2.2.1, zH hb j w)
  | some (0, v, _, _) => (w.1 + 1, w.2.1 + v, w.2.2.1, w.2.2.2.1, w.2.2.2.2.1, zH hb j w + 1)
  | some (1, b, _, _) => (w.1, 0, w.2.2.1 + b, w.2.2.2.1 + 1, w.2.2.2.2.1, zH hb j w)
  | some (_ + 2, _, _, _) => (w.1, w.2.1, w.2.2.1, w.2.2.2.1, w.2.2.2.2.1 + 1, zH hb j w)
def zw (hb : Nat) (Ls : List zLn) : Nat → zW
  | 0 => (0, 0, 0, 0, 0, 0)
  | j + 1 => zStep hb j Ls[j]? (zw hb Ls j)
theorem zw_pre (hb : Nat) (Ls : List zLn) (L : zLn) : ∀ j, j ≤ Ls.length → zw hb (Ls ++ [L]) j = zw hb Ls j
  | 0, _ => rfl
  | j + 1, h => by
    show zStep hb j (Ls ++ [L])[j]? (zw hb (Ls ++ [L]) j) = zStep hb j Ls[j]? (zw hb Ls j)
    rw [zw_pre hb Ls L j (by omega), List.getElem?_append_left (by omega)]
theorem zw_snoc (hb : Nat) (Ls : List zLn) (L : zLn) : zw hb (Ls ++ [L]) (Ls ++ [L]).length = zStep hb Ls.length (some L) (zw hb Ls Ls.length) := by
  rw [List.length_append]
  show zStep hb Ls.length (Ls ++ [L])[Ls.length]? (zw hb (Ls ++ [L]) Ls.length) = _
  rw [zw_pre hb Ls L _ (Nat.le_refl _), List.getElem?_append_right (Nat.le_refl _), Nat.sub_self]
  rfl
/-- a line is as the law wants it -/
def zOk (hb : Nat) (V G : Nat → Int) (A : Int) (K j : Nat) (w : zW) (L : zLn) : Prop := (L.1 = 0 ∧ L.2.1 = V w.1 ∧ L.2.2.1 = G w.1 ∧ 0 ≤ L.2.2.2 ∧ (L.2.2.2 = (zH hb j w : Nat) + 1 ∨ L.2.2.2 = (zH hb j w : Nat)) ∧ L.2.2.2 ≤ w.1 + 1) ∨ (L.1 = 1 ∧ L.2.1 = w.2.1) ∨ (L.1 = 2 ∧ L.2.1 = A ∧ j + 1 = K)
def zGd (hb : Nat) (V G : Nat → Int) (A : Int) (K : Nat) (Ls : List zLn) : Prop := ∀ (j : Nat) (L : zLn), Ls[j]? = some L → zOk hb V G A K j (zw hb Ls j) L
theorem zGd_snoc {hb : Nat} {V G : Nat → Int} {A : Int} {K : Nat} {Ls : List zLn} {L : zLn} (h : zGd hb V G A K Ls) (hL : zOk hb V G A K Ls.length (zw hb Ls Ls.length) L) : zGd hb V G A K (Ls ++ [L]) := by
  intro j L' hj
  have hlt := (List.getElem?_eq_some_iff.mp hj).1
  rw [List.length_append] at hlt
  have hlt : j < Ls.length + 1 := hlt
  rw [zw_pre hb Ls L j (by omega)]
  by_cases e : j < Ls.length
  · rw [List.getElem?_append_left e] at hj
    exact h j L' hj
  · have e2 : j = Ls.length := by omega
    subst e2
    rw [List.getElem?_append_right (Nat.le_refl _), Nat.sub_self] at hj
    cases hj
    exact hL
/-- between lines -/
def zR (M : zSt) (w : zW) : Prop := 0 ≤ M.2.2.2 ∧ (M.2.2.2 = (w.2.2.2.2.2 : Nat) ∨ M.2.2.2 + 1 = (w.2.2.2.2.2 : Nat)) ∧ M.2.2.2 ≤ w.1 ∧ w.2.2.2.2.1 = 0
/-- behind i rows -/
def zI (hb : Nat) (V G : Nat → Int) (A : Int) (K i : Nat) (M : zSt) : Prop := zGd hb V G A K M.1 ∧ zR M (zw hb M.1 M.1.length) ∧ (zw hb M.1 M.1.length).1 = i ∧ M.2.1 = zS V i ∧ (i = 0 → M.1 = [] ∧ M.2.2.1 = 0 ∧ M.2.2.2 = 0) ∧ (0 < i → (zw hb M.1 M.1.length).2.1 = M.2.2.1 ∧ (zw hb M.1 M.1.length).2.2.1 + M.2.2.1 = M.2.1 ∧ (zw hb M.1 M.1.length).2.2.2.1 + 1 = zC G i)
theorem zTurn_f {hb : Nat} {Ls : List zLn} (h : Ls.length % hb = 0) (h2 : zTurn hb Ls = false) : Ls = [] := by
  match Ls, h, h2 with
  | [], _, _ => rfl
  | L :: l, h, h2 =>
    unfold zTurn at h2
    rw [h] at h2
    cases h2
theorem zTurn_t {hb : Nat} {Ls : List zLn} (h : zTurn hb Ls = true) : Ls.length % hb = 0 ∧ 0 < Ls.length := by
  unfold zTurn at h
  rw [Bool.and_eq_true] at h
  exact ⟨Nat.eq_of_beq_eq_true h.2, by rw [← Nat.blt_eq]; exact h.1⟩
/-- p as it is printed, against the rows of this page -/
theorem zP_h {hb : Nat} {M : zSt} {w : zW} (hR : zR M w) (he : M.1 = [] → M.2.2.2 = 0) : 0 ≤ zP hb M ∧ zP hb M ≤ w.1 ∧ (zP hb M = (zH hb M.1.length w : Nat) ∨ zP hb M + 1 = (zH hb M.1.length w : Nat)) := by
  obtain ⟨r1, r2, r3, -⟩ := hR
  unfold zP zH
  cases e : zTurn hb M.1 with
  | true =>
    obtain ⟨t1, t2⟩ := zTurn_t e
    rw [if_pos rfl, if_pos t1]
    exact ⟨Int.le_refl _, by omega, Or.inl rfl⟩
  | false =>
    rw [if_neg (by decide)]
    by_cases t1 : M.1.length % hb = 0
    · have := zTurn_f t1 e
      rw [if_pos t1, he this]
      exact ⟨Int.le_refl _, by omega, Or.inl rfl⟩
    · rw [if_neg t1]
      exact ⟨r1, r3, r2⟩
theorem zStep_1 (hb j : Nat) (b g p : Int) (w : zW) : zStep hb j (some (1, b, g, p)) w = (w.1, 0, w.2.2.1 + b, w.2.2.2.1 + 1, w.2.2.2.2.1, zH hb j w) := rfl
theorem zStep_0 (hb j : Nat) (v g p : Int) (w : zW) : zStep hb j (some (0, v, g, p)) w = (w.1 + 1, w.2.1 + v, w.2.2.1, w.2.2.2.1, w.2.2.2.2.1, zH hb j w + 1) := rfl
theorem zStep_2 (hb j : Nat) (v g p : Int) (w : zW) : zStep hb j (some (2, v, g, p)) w = (w.1, w.2.1, w.2.2.1, w.2.2.2.1, w.2.2.2.2.1 + 1, zH hb j w) := rfl
/-- behind the line of a group -/
theorem zEq_ok {hb : Nat} {V G : Nat → Int} {A : Int} {K i : Nat} {M : zSt} (hi : 0 < i) (h : zI hb V G A K i M) : zGd hb V G A K (zEq hb M).1 ∧ zR (zEq hb M) (zw hb (zEq hb M).1 (zEq hb M).1.length) ∧ (zw hb (zEq hb M).1 (zEq hb M).1.length).1 = i ∧ (zEq hb M).2.1 = zS V i ∧ (zw hb (zEq hb M).1 (zEq hb M).1.length).2.1 = 0 ∧ (zw hb (zEq hb M).1 (zEq hb M).1.length).2.2.1 = M.2.1 ∧ (zw hb (zEq hb M).1 (zEq hb M).1.length).2.2.2.1 = zC G i := by
  obtain ⟨h1, h2, h3, h4, h5, h6⟩ := h
  obtain ⟨k1, k2, k3⟩ := h6 hi
  have hne : M.1 = [] → M.2.2.2 = 0 := fun e => by
    rw [e] at h3
    have h3 : (0 : Nat) = i := h3
    omega
  obtain ⟨p1, p2, p3⟩ := zP_h (hb := hb) h2 hne
  unfold zEq
  simp only [zw_snoc, zStep_1]
  exact ⟨zGd_snoc h1 (Or.inr (Or.inl ⟨rfl, k1.symm⟩)), ⟨p1, p3, p2, h2.2.2.2⟩, h3, h4, trivial, k2, k3⟩
theorem zM_ok (hb : Nat) (V G : Nat → Int) (A : Int) (K : Nat) : ∀ i, zI hb V G A K i (zM hb V G i)
  | 0 => ⟨fun j L h => by simp [zM] at h, ⟨Int.le_refl _, Or.inl rfl, Int.le_refl _, rfl⟩, rfl, rfl, fun _ => ⟨rfl, rfl, rfl⟩, fun h => by omega⟩
  | i + 1 => by
    have ih := zM_ok hb V G A K i
    -- the state ahead of the row
    obtain ⟨E, hE⟩ : ∃ E, E = zEnd hb G i (zM hb V G i) := ⟨_, rfl⟩
    have a : zGd hb V G A K E.1 ∧ zR E (zw hb E.1 E.1.length) ∧ (zw hb E.1 E.1.length).1 = i ∧ E.2.1 = zS V i ∧ (E.1 = [] → E.2.2.2 = 0) ∧ (zw hb E.1 E.1.length).2.1 = (if zNew G i then 0 else E.2.2.1) ∧ (zw hb E.1 E.1.length).2.2.1 + (if zNew G i then 0 else E.2.2.1) = E.2.1 ∧ (zw hb E.1 E.1.length).2.2.2.1 + 1 = zC G (i + 1) := by
      unfold zEnd at hE
      have hC : zC G (i + 1) = zC G i + (if zNew G i then 1 else 0) := rfl
      by_cases h0 : 0 < i
      · by_cases hn : zNew G i = true
        · rw [if_pos ⟨h0, hn⟩] at hE
          obtain ⟨e1, e2, e3, e4, e5, e6, e7⟩ := zEq_ok h0 ih
          rw [hE, hC, hn]
          simp only [if_true]
          refine ⟨e1, e2, e3, e4, fun z => ?_, e5, ?_, ?_⟩
          · unfold zEq at z
            simp at z
          · rw [e6, Int.add_zero]
            rfl
          · rw [e7]
        · rw [if_neg (fun z => hn z.2)] at hE
          have hn2 : zNew G i = false := by
            cases e : zNew G i
            · rfl
            · exact (hn e).elim
          obtain ⟨h1, h2, h3, h4, h5, h6⟩ := ih
          obtain ⟨k1, k2, k3⟩ := h6 h0
          rw [hE, hC, hn2]
          simp only [Bool.false_eq_true, if_false]
          refine ⟨h1, h2, h3, h4, fun e => ?_, k1, k2, ?_⟩
          · rw [e] at h3
            have h3 : (0 : Nat) = i := h3
            omega
          · rw [k3, Nat.add_zero]
      · have hi : i = 0 := by omega
        subst hi
        rw [if_neg (fun z => h0 z.1)] at hE
        obtain ⟨h1, h2, h3, h4, h5, h6⟩ := ih
        rw [hE]
        refine ⟨h1, h2, h3, h4, fun _ => rfl, rfl, rfl, rfl⟩
    obtain ⟨a1, a2, a3, a4, a5, a6, a7, a8⟩ := a
    have hM : zM hb V G (i + 1) = zRow hb (V i) (G i) (zIn (zNew G i) (V i) E) := by rw [hE]; rfl
    rw [hM]
    -- p behind the row's taking in
    have hz : 0 ≤ zP hb (zIn (zNew G i) (V i) E) ∧ (zP hb (zIn (zNew G i) (V i) E) = (zH hb E.1.length (zw hb E.1 E.1.length) : Nat) + 1 ∨ zP hb (zIn (zNew G i) (V i) E) = (zH hb E.1.length (zw hb E.1 E.1.length) : Nat)) ∧ zP hb (zIn (zNew G i) (V i) E) ≤ (i : Int) + 1 := by
      obtain ⟨r1, r2, r3, -⟩ := a2
      have e1 : (zIn (zNew G i) (V i) E).1 = E.1 := rfl
      have e2 : (zIn (zNew G i) (V i) E).2.2.2 = E.2.2.2 + 1 := rfl
      unfold zP zH
      rw [e1, e2]
      cases e : zTurn hb E.1 with
      | true =>
        obtain ⟨t1, t2⟩ := zTurn_t e
        rw [if_pos rfl, if_pos t1]
        exact ⟨Int.le_refl _, Or.inr rfl, by omega⟩
      | false =>
        rw [if_neg (by decide)]
        by_cases t1 : E.1.length % hb = 0
        · have := zTurn_f t1 e
          rw [if_pos t1, a5 this]
          exact ⟨by decide, Or.inl rfl, by omega⟩
        · rw [if_neg t1]
          rw [a3] at r3
          exact ⟨by omega, by omega, by omega⟩
    obtain ⟨z1, z2, z3⟩ := hz
    unfold zRow zI zR
    have e1 : (zIn (zNew G i) (V i) E).1 = E.1 := rfl
    have e3 : (zIn (zNew G i) (V i) E).2.1 = E.2.1 + V i := rfl
    have e4 : (zIn (zNew G i) (V i) E).2.2.1 = (if zNew G i then 0 else E.2.2.1) + V i := rfl
    simp only [e1, e3, e4, zw_snoc, zStep_0, a3, a6]
    refine ⟨zGd_snoc a1 (Or.inl ⟨rfl, by rw [a3], by rw [a3], z1, z2, by rw [a3]; exact z3⟩), ⟨z1, ?_, ?_, a2.2.2.2⟩, trivial, ?_, fun h => by omega, fun _ => ⟨trivial, ?_, a8⟩⟩
    · omega
    · omega
    · rw [a4]
      rfl
    · omega
/-- the whole report -/
theorem zF_ok (hb : Nat) (V G : Nat → Int) (n : Nat) : zGd hb V G (zS V n) (zF hb V G n).1.length (zF hb V G n).1 ∧ (zw hb (zF hb V G n).1 (zF hb V G n).1.length).1 = n ∧ (zw hb (zF hb V G n).1 (zF hb V G n).1.length).2.1 = 0 ∧ (zw hb (zF hb V G n).1 (zF hb V G n).1.length).2.2.1 = zS V n ∧ (zw hb (zF hb V G n).1 (zF hb V G n).1.length).2.2.2.1 = zC G n ∧ (zw hb (zF hb V G n).1 (zF hb V G n).1.length).2.2.2.2.1 = 1 := by
  have ih := zM_ok hb V G (zS V n) (zF hb V G n).1.length n
  generalize hK : (zF hb V G n).1.length = K at ih ⊢
  rw [← hK]
  by_cases h0 : 0 < n
  · obtain ⟨e1, e2, e3, e4, e5, e6, e7⟩ := zEq_ok h0 ih
    have hF : zF hb V G n = zPl hb (zEq hb (zM hb V G n)) := by
      unfold zF
      rw [if_pos h0]
    rw [hF] at hK ⊢
    have hl : (zEq hb (zM hb V G n)).1.length + 1 = K := by
      rw [← hK]
      unfold zPl
      rw [List.length_append]
      rfl
    unfold zPl
    simp only [zw_snoc, zStep_2]
    rw [List.length_append]
    show zGd hb V G (zS V n) ((zEq hb (zM hb V G n)).1.length + 1) _ ∧ _
    rw [hl]
    exact ⟨zGd_snoc e1 (Or.inr (Or.inr ⟨rfl, e4, hl⟩)), e3, e5, e6.trans ih.2.2.2.1, e7, by rw [e2.2.2.2]⟩
  · have hn : n = 0 := by omega
    subst hn
    refine ⟨fun j L hj => ?_, rfl, rfl, rfl, rfl, rfl⟩
    match j, hj with
    | 0, hj =>
      cases hj
      exact Or.inr (Or.inr ⟨rfl, rfl, rfl⟩)
    | j + 1, hj => cases hj
end YPU
