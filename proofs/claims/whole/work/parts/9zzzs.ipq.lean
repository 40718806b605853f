/-! RUN: what a program that both hold gives to the machines -/
section YTT
section YTTL
variable {S0 S : yS} {t : Nat} {V : yPV} {a : Int}
theorem gRx_all (hin : sIn S0) (hl : (ytq (tb S0) (gI S0 12).toNat).length ≤ 2001) (t : Nat) : gRx (sG0 S0) t ≤ 2000 := by
  by_cases z : t < gN (sG0 S0)
  · exact (gOk_0 hin hl).2.2.1 t z
  · show (yTf (ytq (tb S0) (gI S0 12).toNat) t).2.1 ≤ 2000
    unfold yTf
    rw [List.getElem?_eq_none (by have z : ¬ t < (ytq (tb S0) (gI S0 12).toNat).length := z; omega)]
    show 0 ≤ 2000
    omega
theorem iPq_rx (h : iPq S0 t V a S) (hl : (ytq (tb S0) (gI S0 12).toNat).length ≤ 2001) : rXt (sI S 63 0) 0 (zX V) (gX (sG0 S0)) (yTq (tb S0) (gI S0 12).toNat) := by
  obtain ⟨⟨hin, _, _⟩, ⟨_, _, h8⟩, ⟨_, _, ho, _, _⟩, ⟨_, _, _, hX, _, _⟩, _⟩ := h
  have h12 := hin.1
  have hr := gRx_all hin hl t
  have hx := ho.1.2
  refine ⟨?_, fun k p hp => ?_⟩
  · unfold ytl at hx
    omega
  · obtain ⟨p1, p2⟩ := hX.2 k p hp
    refine ⟨p1, p2, fun hq => ⟨ytxb_len _ _ _, by have := hq.1; omega, by have := hq.2.1; omega, fun i y hi => ?_⟩⟩
    obtain ⟨i1, i2, i3, i4⟩ := ytxb_at (S := S0) (n := (gI S0 12).toNat) (by omega) hq hi
    have := hq.2.1
    have e : gA (sI S 63 0) 8 (p.1 + i) = tb S0 (p.1 + i) := h8 _ (by omega)
    exact ⟨e.trans i2.symm, by omega, by omega⟩
theorem iPq_tx (h : iPq S0 t V a S) (hl : (ytq (tb S0) (gI S0 12).toNat).length ≤ 2001) : yTx (yTexts (gX (sG0 S0)) (zX V)) := by
  have hr := gRx_all h.1.1 hl t
  have hx := h.2.2.1.2.2.1.1.2
  unfold ytl at hx
  have e : (yTexts (gX (sG0 S0)) (zX V)).length = (zX V).length := by
    unfold yTexts
    exact List.length_map _
  refine ⟨by omega, ?_⟩
  rw [ysl_all]
  omega
theorem iPq_C (h : iPq S0 t V a S) : (zC V).length ≤ 4000 := by
  have := h.2.2.1.2.2.1.1.1
  omega
end YTTL
end YTT
