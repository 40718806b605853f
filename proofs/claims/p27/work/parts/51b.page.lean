/-! PAGES, pure -/
section YPP
abbrev wI (x : Int) : yVal := .inl (yi2l x)
/-- a line's values; its item; its bytes -/
def wVs (L : zLn) : List yVal := match L with
  | (0, v, g, p) => [wI v, wI g, wI p]
  | (1, b, _, _) => [.inr [61], wI b, wI b]
  | (_ + 2, a, _, _) => [.inr [43], wI a]
def wIt (L : zLn) : Nat := match L with
  | (0, _, _, _) => 5
  | (1, _, _, _) => 10
  | (_ + 2, _, _, _) => 15
def wLb (L : zLn) (t : Nat) : Int := match L with
  | (0, v, g, p) => if t < 5 then wF (wI v) 5 32 t else if t < 8 then wF (wI g) 3 32 (t - 5) else if t < 12 then wF (wI p) 4 32 (t - 8) else 32
  | (1, b, _, _) => if t < 1 then 61 else if t < 8 then wF (wI b) 7 32 (t - 1) else if t < 16 then wF (wI b) 8 32 (t - 8) else 32
  | (_ + 2, a, _, _) => if t < 1 then 43 else if t < 8 then wF (wI a) 7 32 (t - 1) else 32
/-- the top line of a page -/
def wHb (P np t : Nat) : Int := if t < 4 then wF (wI P) 4 32 t else if t < 8 then wF (wI np) 4 32 (t - 4) else 32
def wPut (B : Nat) (b : Nat → Int) (F : Nat → Int) (j : Nat) : Int := if B ≤ j ∧ j < B + 24 then b (j - B) else F j
theorem wRn_L (B : Nat) (L : zLn) (F : Nat → Int) (hF : ∀ t, t < 24 → F (B + t) = 32) : wRn B (wVs L) (wIt L + 1) 0 F = wPut B (wLb L) F := by
  funext j
  unfold wPut
  by_cases z : B ≤ j ∧ j < B + 24
  · obtain ⟨t, rfl⟩ : ∃ t, j = B + t := ⟨j - B, by omega⟩
    have ht : t < 24 := by omega
    have eB : B + t - B = t := by omega
    rw [if_pos z, eB]
    match L with
    | (0, v, g, p) =>
      have e : wRn B (wVs (0, v, g, p)) (wIt (0, v, g, p) + 1) 0 F = wPc B 8 (wI p) 4 32 (wPc B 5 (wI g) 3 32 (wPc B 0 (wI v) 5 32 F)) := rfl
      have w5 : wWd (wI v) 5 = 5 := rfl
      have w3 : wWd (wI g) 3 = 3 := rfl
      have w4 : wWd (wI p) 4 = 4 := rfl
      have el : wLb (0, v, g, p) t = if t < 5 then wF (wI v) 5 32 t else if t < 8 then wF (wI g) 3 32 (t - 5) else if t < 12 then wF (wI p) 4 32 (t - 8) else 32 := rfl
      rw [e, el, wPc_eq, wPc_eq, wPc_eq, w5, w3, w4, hF t ht, eB, Nat.sub_zero]
      by_cases a : t < 5
      · rw [if_neg (by omega), if_neg (by omega), if_pos (by omega), if_pos a]
      · by_cases b : t < 8
        · rw [if_neg (by omega), if_pos (by omega), if_neg a, if_pos b]
        · by_cases c : t < 12
          · rw [if_pos (by omega), if_neg a, if_neg b, if_pos c]
          · rw [if_neg (by omega), if_neg (by omega), if_neg (by omega), if_neg a, if_neg b, if_neg c]
    | (1, b, x, y) =>
      have e : wRn B (wVs (1, b, x, y)) (wIt (1, b, x, y) + 1) 0 F = wPc B 8 (wI b) 8 32 (wPc B 1 (wI b) 7 32 (wPc B 0 (.inr [61]) 0 31 F)) := rfl
      have w1 : wWd (.inr [61]) 0 = 1 := rfl
      have w7 : wWd (wI b) 7 = 7 := rfl
      have w8 : wWd (wI b) 8 = 8 := rfl
      have el : wLb (1, b, x, y) t = if t < 1 then 61 else if t < 8 then wF (wI b) 7 32 (t - 1) else if t < 16 then wF (wI b) 8 32 (t - 8) else 32 := rfl
      rw [e, el, wPc_eq, wPc_eq, wPc_eq, w1, w7, w8, hF t ht, eB, Nat.sub_zero]
      by_cases a : t < 1
      · have t0 : t = 0 := by omega
        subst t0
        rw [if_neg (by omega), if_neg (by omega), if_pos (by omega), if_pos a]
        rfl
      · by_cases b : t < 8
        · rw [if_neg (by omega), if_pos (by omega), if_neg a, if_pos b]
        · by_cases c : t < 16
          · rw [if_pos (by omega), if_neg a, if_neg b, if_pos c]
          · rw [if_neg (by omega), if_neg (by omega), if_neg (by omega), if_neg a, if_neg b, if_neg c]
    | (k + 2, b, x, y) =>
      have e : wRn B (wVs (k + 2, b, x, y)) (wIt (k + 2, b, x, y) + 1) 0 F = wPc B 1 (wI b) 7 32 (wPc B 0 (.inr [43]) 0 31 F) := rfl
      have w1 : wWd (.inr [43]) 0 = 1 := rfl
      have w7 : wWd (wI b) 7 = 7 := rfl
      have el : wLb (k + 2, b, x, y) t = if t < 1 then 43 else if t < 8 then wF (wI b) 7 32 (t - 1) else 32 := rfl
      rw [e, el, wPc_eq, wPc_eq, w1, w7, hF t ht, eB, Nat.sub_zero]
      by_cases a : t < 1
      · have t0 : t = 0 := by omega
        subst t0
        rw [if_neg (by omega), if_pos (by omega), if_pos a]
        rfl
      · by_cases b : t < 8
        · rw [if_pos (by omega), if_neg a, if_pos b]
        · rw [if_neg (by omega), if_neg (by omega), if_neg a, if_neg b]
  · rw [if_neg z]
    have out : ∀ (k0 : Nat) (v : yVal) (w side : Nat) (G : Nat → Int), wPc B k0 v w side G j = G j := fun k0 v w side G => by
      rw [wPc_eq, if_neg (by omega)]
    match L with
    | (0, v, g, p) =>
      have e : wRn B (wVs (0, v, g, p)) (wIt (0, v, g, p) + 1) 0 F = wPc B 8 (wI p) 4 32 (wPc B 5 (wI g) 3 32 (wPc B 0 (wI v) 5 32 F)) := rfl
      rw [e, out, out, out]
    | (1, b, x, y) =>
      have e : wRn B (wVs (1, b, x, y)) (wIt (1, b, x, y) + 1) 0 F = wPc B 8 (wI b) 8 32 (wPc B 1 (wI b) 7 32 (wPc B 0 (.inr [61]) 0 31 F)) := rfl
      rw [e, out, out, out]
    | (k + 2, b, x, y) =>
      have e : wRn B (wVs (k + 2, b, x, y)) (wIt (k + 2, b, x, y) + 1) 0 F = wPc B 1 (wI b) 7 32 (wPc B 0 (.inr [43]) 0 31 F) := rfl
      rw [e, out, out]
theorem wRn_H (B P np : Nat) (F : Nat → Int) (hF : ∀ t, t < 24 → F (B + t) = 32) : wRn B [wI P, wI np] 2 0 F = wPut B (wHb P np) F := by
  have e : wRn B [wI P, wI np] 2 0 F = wPc B 4 (wI np) 4 32 (wPc B 0 (wI P) 4 32 F) := rfl
  have w1 : wWd (wI P) 4 = 4 := rfl
  have w2 : wWd (wI np) 4 = 4 := rfl
  funext j
  unfold wPut wHb
  rw [e, wPc_eq, wPc_eq, w1, w2]
  by_cases z : B ≤ j ∧ j < B + 24
  · obtain ⟨t, rfl⟩ : ∃ t, j = B + t := ⟨j - B, by omega⟩
    have ht : t < 24 := by omega
    have eB : B + t - B = t := by omega
    rw [if_pos z, hF t ht, eB, Nat.sub_zero]
    by_cases a : t < 4
    · rw [if_neg (by omega), if_pos (by omega), if_pos a]
    · by_cases b : t < 8
      · rw [if_pos (by omega), if_neg a, if_pos b]
      · rw [if_neg (by omega), if_neg (by omega), if_neg a, if_neg b]
  · rw [if_neg z, if_neg (by omega), if_neg (by omega)]
/-- a body's line -/
def wBd (Ls : List zLn) (j t : Nat) : Int := match Ls[j]? with
  | some L => wLb L t
  | none => 32
/-- P pages of h lines hold the lines -/
def wPap (h np P : Nat) (Ls : List zLn) (F : Nat → Int) : Prop := (∀ p, p < P → ∀ t, t < 24 → F (p * h * 24 + t) = wHb (p + 1) np t) ∧ ∀ p l, p < P → l < h - 1 → ∀ t, t < 24 → F ((p * h + l + 1) * 24 + t) = wBd Ls (p * (h - 1) + l) t
theorem wh_cases {h : Nat} (hh : 5 ≤ h ∧ h ≤ 10) {p : Prop} (a : ∀ k, h = k → (k = 5 ∨ k = 6 ∨ k = 7 ∨ k = 8 ∨ k = 9 ∨ k = 10) → p) : p := a h rfl (by omega)
theorem wPap_line {h np P : Nat} {Ls : List zLn} {F : Nat → Int} (hh : 5 ≤ h ∧ h ≤ 10) (hp : wPap h np P Ls F) {p0 l0 : Nat} (hP : P = p0 + 1) (hl : Ls.length = p0 * (h - 1) + l0) (hl0 : l0 < h - 1) (L : zLn) : (∀ t, t < 24 → F ((p0 * h + l0 + 1) * 24 + t) = 32) ∧ wPap h np P (Ls ++ [L]) (wPut ((p0 * h + l0 + 1) * 24) (wLb L) F) := by
  subst hP
  refine ⟨fun t ht => ?_, fun p hp1 t ht => ?_, fun p l hp1 hl1 t ht => ?_⟩
  · rw [hp.2 p0 l0 (by omega) hl0 t ht]
    unfold wBd
    rw [List.getElem?_eq_none (by omega)]
  · unfold wPut
    rw [if_neg (by
      have : h = 5 ∨ h = 6 ∨ h = 7 ∨ h = 8 ∨ h = 9 ∨ h = 10 := by omega
      rcases this with rfl | rfl | rfl | rfl | rfl | rfl <;> omega)]
    exact hp.1 p hp1 t ht
  · unfold wPut
    by_cases z : p * (h - 1) + l = Ls.length
    · have e : p = p0 ∧ l = l0 := by
        have : h = 5 ∨ h = 6 ∨ h = 7 ∨ h = 8 ∨ h = 9 ∨ h = 10 := by omega
        rcases this with rfl | rfl | rfl | rfl | rfl | rfl <;> omega
      obtain ⟨rfl, rfl⟩ := e
      have e2 : (p * h + l + 1) * 24 + t - (p * h + l + 1) * 24 = t := by omega
      rw [if_pos (by omega), e2]
      unfold wBd
      rw [z, List.getElem?_append_right (Nat.le_refl _), Nat.sub_self]
      rfl
    · have e : ¬ ((p0 * h + l0 + 1) * 24 ≤ (p * h + l + 1) * 24 + t ∧ (p * h + l + 1) * 24 + t < (p0 * h + l0 + 1) * 24 + 24) := by
        have : h = 5 ∨ h = 6 ∨ h = 7 ∨ h = 8 ∨ h = 9 ∨ h = 10 := by omega
        rcases this with rfl | rfl | rfl | rfl | rfl | rfl <;> omega
      rw [if_neg e, hp.2 p l hp1 hl1 t ht]
      unfold wBd
      by_cases y : p * (h - 1) + l < Ls.length
      · rw [List.getElem?_append_left y]
      · rw [List.getElem?_eq_none (by omega), List.getElem?_eq_none (by rw [List.length_append]; show Ls.length + 1 ≤ _; omega)]
theorem wPap_turn {h np P : Nat} {Ls : List zLn} {F : Nat → Int} (hh : 5 ≤ h ∧ h ≤ 10) (hp : wPap h np P Ls F) (hl : Ls.length = P * (h - 1)) : (∀ t, t < 24 → yblk (P * h * 24) ((P + 1) * h * 24) F (P * h * 24 + t) = 32) ∧ wPap h np (P + 1) Ls (wPut (P * h * 24) (wHb (P + 1) np) (yblk (P * h * 24) ((P + 1) * h * 24) F)) := by
  have hc : h = 5 ∨ h = 6 ∨ h = 7 ∨ h = 8 ∨ h = 9 ∨ h = 10 := by omega
  refine ⟨fun t ht => ?_, fun p hp1 t ht => ?_, fun p l hp1 hl1 t ht => ?_⟩
  · unfold yblk
    rw [if_pos (by rcases hc with rfl | rfl | rfl | rfl | rfl | rfl <;> omega)]
  · unfold wPut
    by_cases z : p = P
    · subst z
      have e2 : p * h * 24 + t - p * h * 24 = t := by omega
      rw [if_pos (by omega), e2]
    · unfold yblk
      rw [if_neg (by rcases hc with rfl | rfl | rfl | rfl | rfl | rfl <;> omega), if_neg (by rcases hc with rfl | rfl | rfl | rfl | rfl | rfl <;> omega)]
      exact hp.1 p (by omega) t ht
  · unfold wPut yblk
    by_cases z : p = P
    · subst z
      rw [if_neg (by rcases hc with rfl | rfl | rfl | rfl | rfl | rfl <;> omega), if_pos (by rcases hc with rfl | rfl | rfl | rfl | rfl | rfl <;> omega)]
      unfold wBd
      rw [List.getElem?_eq_none (by omega)]
    · rw [if_neg (by rcases hc with rfl | rfl | rfl | rfl | rfl | rfl <;> omega), if_neg (by rcases hc with rfl | rfl | rfl | rfl | rfl | rfl <;> omega)]
      exact hp.2 p l (by omega) hl1 t ht
end YPP
