/-! taken from whole by wip/p27/slice.py: 59.mode.lean.txt -/
section YMO
def ysl (X : List (List Int)) (k : Nat) : Nat := ((X.take k).map List.length).sum
def cX (S : yS) (u : Nat) (X : List (List Int)) : Prop := gI S (2 + u) = X.length ∧ (∀ k, k ≤ X.length → gA S (4 + u) k = ysl X k) ∧ ∀ (k : Nat) (l : List Int) (i : Nat) (y : Int), X[k]? = some l → l[i]? = some y → gA S (2 + u) (ysl X k + i) = y
section YMOL
variable {q : yQ} {d : Nat} {js : List xO} {S : yS} {N u : Nat} {w : Int}
end YMOL
end YMO
