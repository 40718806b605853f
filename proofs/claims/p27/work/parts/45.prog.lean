/-! THE PROGRAM IS IN PLACE: printed by wip/p27/gen45.py -/
section YPI
def zA0 : List Int := [2, 30, 2, 30, 2, 30, 5, 30, 5, 30, 2, 30, 2, 30, 4, 30, 1, 30, 4, 30, 4, 30, 1, 30, 4, 30]
def zA2 : List Int := [61, 43]
def zA4 : List Int := [0, 1, 2]
def zA15 : List Int := [0, 0, 0]
def zA17 : List Int := [0, 2, 4]
def zA19 : List Int := [-2, 0, -1]
def zA20 : List Int := [0, 0]
def zA23 : List Int := [0]
def zA24 : List Int := [0]
def zA25 : List Int := [0]
def zA26 : List Int := [-1, 0, -1, 4, 14, -1, -1, -1, -1, -1, 9]
def zA27 : List Int := [0, 0, 4, 4, 0, 0, 5, 3, 4, 0, 0, 0, 7, 8, 0, 0, 0, 7]
def zA28 : List Int := [0, 0, 6, 8, 0, 0, 10, 12, 14, 0, 0, 16, 18, 20, 0, 0, 22, 24]
def zA29 : List Int := [4, 4, 3, 4, 9, 9, 7, 8, 9, 14, 14, 12, 13, 14, 18, 18, 17, 18]
def zB0 : List Int64 := [1, 0, 1, 0, 1, 0, 0, 0, 1, 0, 1, 0, 0, 0, 2, 0, 0, 0, 1, 0, 1, 0, 1, 0, 0, 0]
def zC1 : List Nat := [6, 6, 7]
def zC3 : List Nat := [13, 22, 32, 32, 13, 22, 32, 32, 32, 13, 22, 31, 32, 32, 13, 22, 31, 32]
/-- n rows of cells f, the program with pages of h lines -/
def pIn (h n : Nat) (f : Nat → Int64) (S : yS) : Prop := gI S 0 = 26 ∧ gI S 2 = 2 ∧ gI S 8 = 0 ∧ gI S 9 = 3 ∧ gI S 10 = 2 ∧ gI S 11 = ((2 * n : Nat) : Int) ∧ gI S 12 = 0 ∧ gI S 19 = 1 ∧ gI S 21 = 24 ∧ gI S 22 = (h : Int) ∧ gI S 23 = 1 ∧ gI S 24 = 1 ∧ gI S 25 = 18 ∧ (∀ j, j < 26 → gA S 0 j = zA0.getD j 0) ∧ (∀ j, j < 2 → gA S 2 j = zA2.getD j 0) ∧ (∀ j, j < 3 → gA S 4 j = zA4.getD j 0) ∧ (∀ j, j < 3 → gA S 15 j = zA15.getD j 0) ∧ (∀ j, j < 3 → gA S 17 j = zA17.getD j 0) ∧ (∀ j, j < 3 → gA S 19 j = zA19.getD j 0) ∧ (∀ j, j < 2 → gA S 20 j = zA20.getD j 0) ∧ (∀ j, j < 1 → gA S 23 j = zA23.getD j 0) ∧ (∀ j, j < 1 → gA S 24 j = zA24.getD j 0) ∧ (∀ j, j < 1 → gA S 25 j = zA25.getD j 0) ∧ (∀ j, j < 11 → gA S 26 j = zA26.getD j 0) ∧ (∀ j, j < 18 → gA S 27 j = zA27.getD j 0) ∧ (∀ j, j < 18 → gA S 28 j = zA28.getD j 0) ∧ (∀ j, j < 18 → gA S 29 j = zA29.getD j 0) ∧ (∀ j, j < 26 → gB S 0 j = zB0.getD j 0) ∧ gB S 7 = f ∧ (∀ j, j < 3 → gC S 1 j = zC1.getD j 0) ∧ (∀ j, j < 18 → gC S 3 j = zC3.getD j 0)
theorem pIn.i0 {h n : Nat} {f : Nat → Int64} {S : yS} (p : pIn h n f S) : gI S 0 = 26 := p.1
theorem pIn.i2 {h n : Nat} {f : Nat → Int64} {S : yS} (p : pIn h n f S) : gI S 2 = 2 := p.2.1
theorem pIn.i8 {h n : Nat} {f : Nat → Int64} {S : yS} (p : pIn h n f S) : gI S 8 = 0 := p.2.2.1
theorem pIn.i9 {h n : Nat} {f : Nat → Int64} {S : yS} (p : pIn h n f S) : gI S 9 = 3 := p.2.2.2.1
theorem pIn.i10 {h n : Nat} {f : Nat → Int64} {S : yS} (p : pIn h n f S) : gI S 10 = 2 := p.2.2.2.2.1
theorem pIn.i11 {h n : Nat} {f : Nat → Int64} {S : yS} (p : pIn h n f S) : gI S 11 = ((2 * n : Nat) : Int) := p.2.2.2.2.2.1
theorem pIn.i12 {h n : Nat} {f : Nat → Int64} {S : yS} (p : pIn h n f S) : gI S 12 = 0 := p.2.2.2.2.2.2.1
theorem pIn.i19 {h n : Nat} {f : Nat → Int64} {S : yS} (p : pIn h n f S) : gI S 19 = 1 := p.2.2.2.2.2.2.2.1
theorem pIn.i21 {h n : Nat} {f : Nat → Int64} {S : yS} (p : pIn h n f S) : gI S 21 = 24 := p.2.2.2.2.2.2.2.2.1
theorem pIn.i22 {h n : Nat} {f : Nat → Int64} {S : yS} (p : pIn h n f S) : gI S 22 = (h : Int) := p.2.2.2.2.2.2.2.2.2.1
theorem pIn.i23 {h n : Nat} {f : Nat → Int64} {S : yS} (p : pIn h n f S) : gI S 23 = 1 := p.2.2.2.2.2.2.2.2.2.2.1
theorem pIn.i24 {h n : Nat} {f : Nat → Int64} {S : yS} (p : pIn h n f S) : gI S 24 = 1 := p.2.2.2.2.2.2.2.2.2.2.2.1
theorem pIn.i25 {h n : Nat} {f : Nat → Int64} {S : yS} (p : pIn h n f S) : gI S 25 = 18 := p.2.2.2.2.2.2.2.2.2.2.2.2.1
theorem pIn.a0 {h n : Nat} {f : Nat → Int64} {S : yS} (p : pIn h n f S) : (∀ j, j < 26 → gA S 0 j = zA0.getD j 0) := p.2.2.2.2.2.2.2.2.2.2.2.2.2.1
theorem pIn.a2 {h n : Nat} {f : Nat → Int64} {S : yS} (p : pIn h n f S) : (∀ j, j < 2 → gA S 2 j = zA2.getD j 0) := p.2.2.2.2.2.2.2.2.2.2.2.2.2.2.1
theorem pIn.a4 {h n : Nat} {f : Nat → Int64} {S : yS} (p : pIn h n f S) : (∀ j, j < 3 → gA S 4 j = zA4.getD j 0) := p.2.2.2.2.2.2.2.2.2.2.2.2.2.2.2.1
theorem pIn.a15 {h n : Nat} {f : Nat → Int64} {S : yS} (p : pIn h n f S) : (∀ j, j < 3 → gA S 15 j = zA15.getD j 0) := p.2.2.2.2.2.2.2.2.2.2.2.2.2.2.2.2.1
theorem pIn.a17 {h n : Nat} {f : Nat → Int64} {S : yS} (p : pIn h n f S) : (∀ j, j < 3 → gA S 17 j = zA17.getD j 0) := p.2.2.2.2.2.2.2.2.2.2.2.2.2.2.2.2.2.1
theorem pIn.a19 {h n : Nat} {f : Nat → Int64} {S : yS} (p : pIn h n f S) : (∀ j, j < 3 → gA S 19 j = zA19.getD j 0) := p.2.2.2.2.2.2.2.2.2.2.2.2.2.2.2.2.2.2.1
theorem pIn.a20 {h n : Nat} {f : Nat → Int64} {S : yS} (p : pIn h n f S) : (∀ j, j < 2 → gA S 20 j = zA20.getD j 0) := p.2.2.2.2.2.2.2.2.2.2.2.2.2.2.2.2.2.2.2.1
theorem pIn.a23 {h n : Nat} {f : Nat → Int64} {S : yS} (p : pIn h n f S) : (∀ j, j < 1 → gA S 23 j = zA23.getD j 0) := p.2.2.2.2.2.2.2.2.2.2.2.2.2.2.2.2.2.2.2.2.1
theorem pIn.a24 {h n : Nat} {f : Nat → Int64} {S : yS} (p : pIn h n f S) : (∀ j, j < 1 → gA S 24 j = zA24.getD j 0) := p.2.2.2.2.2.2.2.2.2.2.2.2.2.2.2.2.2.2.2.2.2.1
theorem pIn.a25 {h n : Nat} {f : Nat → Int64} {S : yS} (p : pIn h n f S) : (∀ j, j < 1 → gA S 25 j = zA25.getD j 0) := p.2.2.2.2.2.2.2.2.2.2.2.2.2.2.2.2.2.2.2.2.2.2.1
theorem pIn.a26 {h n : Nat} {f : Nat → Int64} {S : yS} (p : pIn h n f S) : (∀ j, j < 11 → gA S 26 j = zA26.getD j 0) := p.2.2.2.2.2.2.2.2.2.2.2.2.2.2.2.2.2.2.2.2.2.2.2.1
theorem pIn.a27 {h n : Nat} {f : Nat → Int64} {S : yS} (p : pIn h n f S) : (∀ j, j < 18 → gA S 27 j = zA27.getD j 0) := p.2.2.2.2.2.2.2.2.2.2.2.2.2.2.2.2.2.2.2.2.2.2.2.2.1
theorem pIn.a28 {h n : Nat} {f : Nat → Int64} {S : yS} (p : pIn h n f S) : (∀ j, j < 18 → gA S 28 j = zA28.getD j 0) := p.2.2.2.2.2.2.2.2.2.2.2.2.2.2.2.2.2.2.2.2.2.2.2.2.2.1
theorem pIn.a29 {h n : Nat} {f : Nat → Int64} {S : yS} (p : pIn h n f S) : (∀ j, j < 18 → gA S 29 j = zA29.getD j 0) := p.2.2.2.2.2.2.2.2.2.2.2.2.2.2.2.2.2.2.2.2.2.2.2.2.2.2.1
theorem pIn.b0 {h n : Nat} {f : Nat → Int64} {S : yS} (p : pIn h n f S) : (∀ j, j < 26 → gB S 0 j = zB0.getD j 0) := p.2.2.2.2.2.2.2.2.2.2.2.2.2.2.2.2.2.2.2.2.2.2.2.2.2.2.2.1
theorem pIn.b7 {h n : Nat} {f : Nat → Int64} {S : yS} (p : pIn h n f S) : gB S 7 = f := p.2.2.2.2.2.2.2.2.2.2.2.2.2.2.2.2.2.2.2.2.2.2.2.2.2.2.2.2.1
theorem pIn.c1 {h n : Nat} {f : Nat → Int64} {S : yS} (p : pIn h n f S) : (∀ j, j < 3 → gC S 1 j = zC1.getD j 0) := p.2.2.2.2.2.2.2.2.2.2.2.2.2.2.2.2.2.2.2.2.2.2.2.2.2.2.2.2.2.1
theorem pIn.c3 {h n : Nat} {f : Nat → Int64} {S : yS} (p : pIn h n f S) : (∀ j, j < 18 → gC S 3 j = zC3.getD j 0) := p.2.2.2.2.2.2.2.2.2.2.2.2.2.2.2.2.2.2.2.2.2.2.2.2.2.2.2.2.2.2
/-- what a run changes -/
def pW (s k : Nat) : Bool := match s with
  | 0 => Nat.ble 27 k && Nat.ble k 38
  | 3 => Nat.ble 30 k && Nat.ble k 36
  | 4 => Nat.beq k 9
  | _ => false
theorem yFr_mono {W W' : Nat → Nat → Bool} {S S' : yS} (hW : ∀ s k, W' s k = false → W s k = false) (h : yFr W S S') : yFr W' S S' := ⟨fun k hk => h.1 k (hW _ _ hk), fun k hk => h.2.1 k (hW _ _ hk), fun k hk => h.2.2.1 k (hW _ _ hk), fun k hk => h.2.2.2.1 k (hW _ _ hk), fun k hk => h.2.2.2.2.1 k (hW _ _ hk), fun k hk => h.2.2.2.2.2 k (hW _ _ hk)⟩
theorem pW_m : ∀ s k, pW s k = false → yWm s k = false := by
  intro s k h
  cases e : yWm s k with
  | false => rfl
  | true =>
    have : (s = 3 ∧ (k = 30 ∨ k = 31 ∨ k = 32)) ∨ (s = 4 ∧ k = 9) := by simpa [yWm, or_assoc] using e
    rcases this with ⟨rfl, rfl | rfl | rfl⟩ | ⟨rfl, rfl⟩ <;> cases h
theorem pW_s {m : Nat} {S S' : yS} (h : yFs m S S') : yFr pW S S' := yFr_mono pW_m h.1
theorem pW_I {S : yS} {k : Nat} {x : Int} (h : pW 0 k = true) : yFr pW S (sI S k x) := yFr_I h
theorem pIn.fr {h n : Nat} {f : Nat → Int64} {S S' : yS} (p : pIn h n f S) (k : yFr pW S S') : pIn h n f S' := ⟨(k.1 0 rfl).trans p.i0, (k.1 2 rfl).trans p.i2, (k.1 8 rfl).trans p.i8, (k.1 9 rfl).trans p.i9, (k.1 10 rfl).trans p.i10, (k.1 11 rfl).trans p.i11, (k.1 12 rfl).trans p.i12, (k.1 19 rfl).trans p.i19, (k.1 21 rfl).trans p.i21, (k.1 22 rfl).trans p.i22, (k.1 23 rfl).trans p.i23, (k.1 24 rfl).trans p.i24, (k.1 25 rfl).trans p.i25, fun j hj => by rw [k.2.2.2.1 0 rfl]; exact p.a0 j hj, fun j hj => by rw [k.2.2.2.1 2 rfl]; exact p.a2 j hj, fun j hj => by rw [k.2.2.2.1 4 rfl]; exact p.a4 j hj, fun j hj => by rw [k.2.2.2.1 15 rfl]; exact p.a15 j hj, fun j hj => by rw [k.2.2.2.1 17 rfl]; exact p.a17 j hj, fun j hj => by rw [k.2.2.2.1 19 rfl]; exact p.a19 j hj, fun j hj => by rw [k.2.2.2.1 20 rfl]; exact p.a20 j hj, fun j hj => by rw [k.2.2.2.1 23 rfl]; exact p.a23 j hj, fun j hj => by rw [k.2.2.2.1 24 rfl]; exact p.a24 j hj, fun j hj => by rw [k.2.2.2.1 25 rfl]; exact p.a25 j hj, fun j hj => by rw [k.2.2.2.1 26 rfl]; exact p.a26 j hj, fun j hj => by rw [k.2.2.2.1 27 rfl]; exact p.a27 j hj, fun j hj => by rw [k.2.2.2.1 28 rfl]; exact p.a28 j hj, fun j hj => by rw [k.2.2.2.1 29 rfl]; exact p.a29 j hj, fun j hj => by rw [k.2.2.2.2.1 0 rfl]; exact p.b0 j hj, (k.2.2.2.2.1 7 rfl).trans p.b7, fun j hj => by rw [k.2.2.2.2.2 1 rfl]; exact p.c1 j hj, fun j hj => by rw [k.2.2.2.2.2 3 rfl]; exact p.c3 j hj⟩
end YPI
