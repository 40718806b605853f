/-! taken from whole by wip/p27/slice.py: 9zn.crel.lean.txt -/
section YCP
/-- a table holds a list -/
def yLs {α : Type} (n : Int) (L : List α) (r : Nat → α → Prop) : Prop := n = L.length ∧ ∀ (j : Nat) (x : α), L[j]? = some x → r j x
def cDe (S : yS) (z : Nat) (l : List yDf) : Prop := yLs (gI S (8 + z)) l fun j x => gB S (4 + z) j = x.1 ∧ gA S (14 + z) j = x.2.1 ∧ gA S (16 + z) j = x.2.2.1 ∧ gC S z j = x.2.2.2.1 ∧ gA S (18 + z) j = x.2.2.2.2
def vO (S : yS) (l : List (Nat × Nat)) : Prop := yLs (gI S 23) l fun j x => gA S 23 j = x.1 ∧ gA S 24 j = x.2
def vG (S : yS) (l : List Nat) : Prop := yLs (gI S 24) l fun j x => gA S 25 j = x
/-- the tables in their ranges, whatever was read -/
def cRg (S : yS) : Prop := (gI S 20 = 0 ∨ gI S 20 = 1) ∧ (10 ≤ gI S 21 ∧ gI S 21 ≤ 60) ∧ (4 ≤ gI S 22 ∧ gI S 22 ≤ 40) ∧ (0 ≤ gI S 23 ∧ gI S 23 ≤ 4) ∧ cGr S ∧ (0 ≤ gI S 8 ∧ gI S 8 ≤ 8) ∧ (0 ≤ gI S 9 ∧ gI S 9 ≤ 8) ∧ (0 ≤ gI S 25 ∧ gI S 25 ≤ 2000) ∧ (∀ j, j < 11 → -1 ≤ gA S 26 j ∧ gA S 26 j ≤ 2000) ∧ ∀ j : Nat, (j : Int) < gI S 25 → (0 ≤ gA S 29 j ∧ gA S 29 j ≤ 2000) ∧ gC S 3 j < 67
section YCPL
variable {S S' : yS} {a : Int}
section YVF
variable {W : Nat → Nat → Bool}
theorem cDe_fr {z : Nat} {l : List yDf} (h : cDe S z l) (hf : yFr W S S') (w : W 0 (8 + z) = false ∧ W 4 (4 + z) = false ∧ W 3 (14 + z) = false ∧ W 3 (16 + z) = false ∧ W 5 z = false ∧ W 3 (18 + z) = false) : cDe S' z l := by
  unfold cDe at h ⊢
  rw [hf.1 _ w.1, hf.2.2.2.2.1 _ w.2.1, hf.2.2.2.1 _ w.2.2.1, hf.2.2.2.1 _ w.2.2.2.1, hf.2.2.2.2.2 _ w.2.2.2.2.1, hf.2.2.2.1 _ w.2.2.2.2.2]
  exact h
end YVF
end YCPL
end YCP
