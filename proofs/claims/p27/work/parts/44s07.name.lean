/-! taken from whole by wip/p27/slice.py: 49i.name.lean.txt -/
section YNA
section YNAL
variable {q : yQ} {d : Nat} {js : List xO} {S : yS}
/-- writing a row over what was written -/
theorem sAr_sA (S : yS) (k i : Nat) (x : Int) (f : Nat → Int) : sAr (sA S k i x) k f = sAr S k f := by
  show (S.1, S.2.1, S.2.2.1, yup (yup S.2.2.2.1 k _) k f, S.2.2.2.2) = _
  rw [yup_up]
  rfl
theorem sAr_sf (S : yS) (k : Nat) : sAr S k (gA S k) = S := by
  show (S.1, S.2.1, S.2.2.1, yup S.2.2.2.1 k (S.2.2.2.1 k), S.2.2.2.2) = _
  rw [yup_sf]
end YNAL
end YNA
