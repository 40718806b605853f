/-! RUNS, more: constructors that do nothing, Math, throws -/
section XAM
variable {v : Value} {d k pc : Nat} {L st : List Value} {ah ah1 ah' : List xO} {r : Option Value ⊕ Nat}
theorem xR.oinit {j : Nat} {st' : List Value} (hc : xP_code (xPrg v) k pc = some (.invokespecial j, 3)) (hca : xcaj (xPrg v) (xP_pool (xPrg v) k) 2 j = none) (ho : x_oinit (xP_oi (xPrg v) (xP_pool (xPrg v) k)) j st = some st') (hr : xR v d k (pc + 3) L st' ah r ah') : xR v d k pc L st ah r ah' := by
  obtain ⟨f0, hr⟩ := hr
  refine ⟨f0 + 1, fun f hf d' hd => ?_⟩
  obtain ⟨g, rfl⟩ : ∃ g, f = g + 1 := ⟨f - 1, by omega⟩
  have hr := hr g (by omega) d' hd
  have hi : xinv (.invokespecial j) = some (2, j) := rfl
  unfold xrun
  simp only [hc, hi, hca, ho, if_true]
  exact hr
theorem xR.math {j : Nat} {st' : List Value} (hc : xP_code (xPrg v) k pc = some (.invokestatic j, 3)) (hca : xcaj (xPrg v) (xP_pool (xPrg v) k) 0 j = none) (ho : x_math (xP_ma (xPrg v) (xP_pool (xPrg v) k)) j st = some st') (hr : xR v d k (pc + 3) L st' ah r ah') : xR v d k pc L st ah r ah' := by
  obtain ⟨f0, hr⟩ := hr
  refine ⟨f0 + 1, fun f hf d' hd => ?_⟩
  obtain ⟨g, rfl⟩ : ∃ g, f = g + 1 := ⟨f - 1, by omega⟩
  have hr := hr g (by omega) d' hd
  have hi : xinv (.invokestatic j) = some (0, j) := rfl
  unfold xrun
  simp only [hc, hi, hca, ho, if_true]
  exact hr
/-- 'throw new E()' -/
theorem xR.tnew {j ce : Nat} (hc : xP_code (xPrg v) k pc = some (.new j, 3)) (hte : xP_te (xPrg v) (xP_pool (xPrg v) k) j = some ce) (hst : st.length ≤ 12) : xR v 0 k pc L st ah (.inr ah.length) (ah ++ [.inr (ce, List.replicate 6 .null)]) := by
  refine ⟨1, fun f hf d' _ => ?_⟩
  obtain ⟨g, rfl⟩ : ∃ g, f = g + 1 := ⟨f - 1, by omega⟩
  have hi : xinv (.new j) = none := rfl
  have hq : xret (xP_rt (xPrg v) k) (.new j) 3 st = none := rfl
  unfold xrun
  simp only [hc, hi, hq, hte, hst, and_self, if_true]
/-- a call that throws, and nothing here catches it -/
theorem xR.callo {y a c : Nat} {vs rr : List Value} (h : xgo (xPrg v) k pc st ah = some (y, vs, rr)) (hy : xR v d y 0 (xentry vs (xP_ml (xPrg v) y)) [] ah (.inr a) ah1) (hcl : xcls ah1 a = some c) (hh : xP_hn (xPrg v) k pc c = some none) : xR v (d + 1) k pc L st ah (.inr a) ah1 := by
  obtain ⟨f1, hy⟩ := hy
  refine ⟨f1 + 1, fun f hf d' hd => ?_⟩
  obtain ⟨g, rfl⟩ : ∃ g, f = g + 1 := ⟨f - 1, by omega⟩
  obtain ⟨d'', rfl⟩ : ∃ d'', d' = d'' + 1 := ⟨d' - 1, by omega⟩
  have hy := hy g (by omega) d'' (by omega)
  unfold xgo at h
  unfold xrun
  split at h
  · cases h
  · rename_i i n hc
    rw [hc]
    split at h
    · cases h
    · rename_i kd j hi
      simp only [hi]
      split at h
      · rename_i hn
        simp only [hn, if_true]
        split at h
        · cases h
        · rename_i y0 na hca
          simp only [hca]
          split at h
          · rename_i vs0 rr0 ht
            simp only [ht]
            split at h
            · rename_i hg
              cases h
              rw [if_pos hg]
              simp only [hy, hcl, hh]
            · cases h
          · cases h
      · cases h
/-- a call that throws, and it is caught here -/
theorem xR.callc {y a c h0 : Nat} {vs rr : List Value} (h : xgo (xPrg v) k pc st ah = some (y, vs, rr)) (hy : xR v d y 0 (xentry vs (xP_ml (xPrg v) y)) [] ah (.inr a) ah1) (hcl : xcls ah1 a = some c) (hh : xP_hn (xPrg v) k pc c = some (some h0)) (hr : xR v (d + 1) k h0 L [.ref a] ah1 r ah') : xR v (d + 1) k pc L st ah r ah' := by
  obtain ⟨f1, hy⟩ := hy
  obtain ⟨f2, hr⟩ := hr
  refine ⟨f1 + f2 + 1, fun f hf d' hd => ?_⟩
  obtain ⟨g, rfl⟩ : ∃ g, f = g + 1 := ⟨f - 1, by omega⟩
  obtain ⟨d'', rfl⟩ : ∃ d'', d' = d'' + 1 := ⟨d' - 1, by omega⟩
  have hy := hy g (by omega) d'' (by omega)
  have hr := hr g (by omega) (d'' + 1) hd
  unfold xgo at h
  unfold xrun
  split at h
  · cases h
  · rename_i i n hc
    rw [hc]
    split at h
    · cases h
    · rename_i kd j hi
      simp only [hi]
      split at h
      · rename_i hn
        simp only [hn, if_true]
        split at h
        · cases h
        · rename_i y0 na hca
          simp only [hca]
          split at h
          · rename_i vs0 rr0 ht
            simp only [ht]
            split at h
            · rename_i hg
              cases h
              rw [if_pos hg]
              simp only [hy, hcl, hh]
              exact hr
            · cases h
          · cases h
      · cases h
/-- 'throw' of a thing at hand, that nothing here catches -/
theorem xR.thro {a c : Nat} {rr : List Value} (hc : xP_code (xPrg v) k pc = some (.athrow, 1)) (hst : st = .ref a :: rr) (hcl : xcls ah a = some c) (hh : xP_hn (xPrg v) k pc c = some none) : xR v 0 k pc L st ah (.inr a) ah := by
  refine ⟨1, fun f hf d' _ => ?_⟩
  obtain ⟨g, rfl⟩ : ∃ g, f = g + 1 := ⟨f - 1, by omega⟩
  have hi : xinv .athrow = none := rfl
  have hq : xret (xP_rt (xPrg v) k) .athrow 1 st = none := rfl
  subst hst
  unfold xrun
  simp only [hc, hi, hq, hcl, hh, if_true]
/-- 'new' of an exception of our own -/
theorem xR.mk {j ce ic y pc' : Nat} {L' st' rr : List Value} {a b : Int32} (hc : xP_code (xPrg v) k pc = some (.new j, 3)) (hte : xP_te (xPrg v) (xP_pool (xPrg v) k) j = none) (hmk : xP_mk (xPrg v) (xP_pool (xPrg v) k) j = some (ce, ic, y)) (hml : xP_ml (xPrg v) y = 3) (hp : xpure (xPrg v) k ic 12 (pc + 3) L (.ref ah.length :: st) (ah ++ [.inr (ce, xP_fd (xPrg v) ce)]) = some (pc', L', st')) (htw : xtwo ah.length st' = some (a, b, rr)) (hy : xR v d y 4 [.ref ah.length, .int a, .int b] [] (ah ++ [.inr (ce, xP_fd (xPrg v) ce)]) (.inl none) ah1) (hr : xR v (d + 1) k (pc' + 3) L' rr ah1 r ah') : xR v (d + 1) k pc L st ah r ah' := by
  obtain ⟨f1, hy⟩ := hy
  obtain ⟨f2, hr⟩ := hr
  refine ⟨f1 + f2 + 1, fun f hf d' hd => ?_⟩
  obtain ⟨g, rfl⟩ : ∃ g, f = g + 1 := ⟨f - 1, by omega⟩
  obtain ⟨d'', rfl⟩ : ∃ d'', d' = d'' + 1 := ⟨d' - 1, by omega⟩
  have hy := hy g (by omega) d'' (by omega)
  have hr := hr g (by omega) (d'' + 1) hd
  have hi : xinv (.new j) = none := rfl
  have hq : xret (xP_rt (xPrg v) k) (.new j) 3 st = none := rfl
  unfold xrun
  simp only [hc, hi, hq, hte, hmk, hml, and_self, if_true, hp, htw, hy]
  exact hr
end XAM
