/-! taken from whole by wip/p27/slice.py: 9zzzk.breaks2.lean.txt -/
section YTL
section YTLL
variable {q : yQ} {d : Nat} {js : List xO} {S : yS}
/-- a total begins anew, the class -/
theorem c114 {k : Nat} {ty : Int} (hk : k < 8) (ht : gA S 15 k = ty) (h01 : ty = 0 ∨ ty = 1) : ∃ S' : yS, Y q (d + 1) 114 0 [vr 131, vi k] [] S js = yretv q S' js ∧ yFs (16 + k) (sA S 36 k 0) S' ∧ cV S' (16 + k) (if ty = 0 then .inl 0 else .inr []) := by
  have ek : yr (k : Int) = k := yr_eq (by omega) (by omega)
  have kk : 0 ≤ (k : Int) ∧ (k : Int) < 8 := by omega
  have b : yi2z 0 = 0 := by decide
  have e16 : (16 : Int) + k = ((16 + k : Nat) : Int) := by omega
  obtain ⟨S', a1, a2, a3⟩ := c74 (q := q) (d := d) (js := js) (S := sA S 36 k 0) (n := 16 + k) (x := ty) h01 (by omega)
  refine ⟨S', ?_, a2, a3⟩
  rw [w114_0, ek, if_pos kk, if_pos kk, Int.toNat_natCast, b, ht, e16, a1, YB_retv, w114_30]
end YTLL
end YTL
