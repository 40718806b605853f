/-! THE CLASS's reckon -/
section YCZ
section YCZL
variable {q : yQ} {d : Nat} {js : List xO} {S0 : yS} {u : Nat}
theorem cRp_0 (S0 : yS) : cRp S0 S0 [] := ⟨yFr_rf _ _, fun _ _ => ⟨rfl, rfl, rfl⟩, fun _ _ => rfl, fun i v h => nomatch h⟩
/-- an expression's code, from its first instruction to where it ends -/
theorem c75 {C : yCo} {e : yEnv} {base b b' : Nat} {x : yX} (hu : u = 0 ∨ u = 1) (hK : cK S0 u C) (hC : (C.length : Int) ≤ capu u) (hb : b ≤ b' + 124) (hr : yRun e (cR q d js u (base : Int) S0) (cEE q d js u (base : Int) S0) base b b' x) (he : base + x.2.2.1.length = C.length ∨ ∃ z, C[base + x.2.2.1.length]? = some (30, z)) : match x.2.2.2.2 e with
    | some v => yvt v x.1 ∧ ∃ S' : yS, Y q (d + 2) 75 0 [vr 118, vr (cu u), vi base, vu, vu, vu, vu, vu, vu] [] S0 js = yret q (vi 1) S' js ∧ cRp S0 S' [v]
    | none => ∃ S' : yS, Y q (d + 2) 75 0 [vr 118, vr (cu u), vi base, vu, vu, vu, vu, vu, vu] [] S0 js = yret q (vi 0) S' js ∧ cRp S0 S' [] := by
  have h0 := hr [] (by show 2 * 0 + (b - b') ≤ 124; omega)
  have st : Y q (d + 2) 75 0 [vr 118, vr (cu u), vi base, vu, vu, vu, vu, vu, vu] [] S0 js = cHd q d js u (base : Int) S0 base 0 0 vu vu := by
    rw [u75_0 hu]
    rfl
  match hd : x.2.2.2.2 e with
  | some v =>
    rw [hd] at h0
    obtain ⟨h1, _, h2⟩ := h0
    obtain ⟨S', i', y4, y5, b1, b2, b3⟩ := h2 S0 0 vu vu (cRp_0 S0) (Nat.zero_le _)
    refine ⟨h1, S', ?_, b1⟩
    rw [st]
    refine b3.trans ?_
    exact h75e hu (cK_m hu hK b1.1) hC he (n := 1) (by omega) b2
  | none =>
    rw [hd] at h0
    obtain ⟨S', b1, b2⟩ := h0 S0 0 vu vu (cRp_0 S0) (Nat.zero_le _)
    exact ⟨S', by rw [st]; exact b2, b1⟩
end YCZL
end YCZ
