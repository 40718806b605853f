/-! taken from whole by wip/p27/slice.py: 57.spec.lean.txt -/
section YPM
abbrev yVal : Type := Int64 ⊕ List Int
end YPM
