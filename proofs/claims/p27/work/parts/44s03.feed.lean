/-! taken from whole by wip/p27/slice.py: 49c.feed.lean.txt -/
section YFD
/-- a row becomes another one -/
def sAr (S : yS) (k : Nat) (f : Nat → Int) : yS := (S.1, S.2.1, S.2.2.1, yup S.2.2.2.1 k f, S.2.2.2.2)
theorem yup_up {α : Type} (f : Nat → α) (k : Nat) (x y : α) : yup (yup f k x) k y = yup f k y := by
  funext j
  rw [yup_eq, yup_eq, yup_eq]
  split <;> rfl
theorem yup_sf {α : Type} (f : Nat → α) (k : Nat) : yup f k (f k) = f := by
  funext j
  rw [yup_eq]
  split
  · rename_i h
    rw [h]
  · rfl
section YFDL
variable {q : yQ} {d : Nat} {js : List xO} {S : yS}
end YFDL
theorem e255 : (Int32.ofInt 255).toBitVec = 255#32 := by decide
end YFD
