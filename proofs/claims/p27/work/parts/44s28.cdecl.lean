/-! taken from whole by wip/p27/slice.py: 9zo.cdecl.lean.txt -/
section YCQ
section YCQL
variable {q : yQ} {d : Nat} {js : List xO} {S S' : yS} {a a' : Int}
theorem yLs_D {α : Type} {n : Int} {L : List α} {r : Nat → α → Prop} (h : yLs n L r) (x0 : α) {j : Nat} (hj : j < L.length) : r j (L.getD j x0) := by
  refine h.2 j _ ?_
  rw [List.getD_eq_getElem?_getD, List.getElem?_eq_getElem hj]
  rfl
end YCQL
end YCQ
