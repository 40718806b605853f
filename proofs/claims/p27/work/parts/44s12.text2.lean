/-! taken from whole by wip/p27/slice.py: 70.text2.lean.txt -/
section YTZ
theorem ysl_mono (X : List (List Int)) (k : Nat) (l : List Int) (i : Nat) (h : X[k]? = some l) (hi : i < l.length) : ysl X k + i < ysl X X.length := by
  have hk : k < X.length := (List.getElem?_eq_some_iff.mp h).1
  have e : X = X.take k ++ l :: X.drop (k + 1) := by
    have hl : X[k] = l := (List.getElem?_eq_some_iff.mp h).2
    rw [← hl, ← List.drop_eq_getElem_cons hk, List.take_append_drop]
  have e2 : ysl X X.length = ysl X k + (l.length + ((X.drop (k + 1)).map List.length).sum) := by
    unfold ysl
    rw [List.take_length]
    conv => lhs; rw [e]
    rw [List.map_append, List.sum_append, List.map_cons, List.sum_cons]
  omega
end YTZ
