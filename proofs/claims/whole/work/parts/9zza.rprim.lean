/-! THE REFERENCE READS A PROGRAM: the primitives, in a program's words -/
section YRQ
section YRQL
variable {q : yQ} {d : Nat} {js : List xO} {G : yGx} {σ σ1 : yPS} {S S1 S' : yS} {sc c c' w : Int} {dp dp' t : Nat} {b : Bool} {o : Option xRes} {B B1 B2 : yS → Option xRes → Prop} {κ : yKp}
theorem rS_t (hG : gOk G) (h : rS G sc c S t dp κ) : gI S 44 = t ∧ t < gN G ∧ t ≤ 2000 ∧ gI S 47 = -1 ∧ gI S 46 = dp ∧ dp ≤ 12 ∧ gA S 39 t = ykR (gT G t).1 ∧ gA S 40 t = (gT G t).2.1 ∧ (gT G t).1 < 67 ∧ (gT G t).2.1 ≤ 2000 ∧ gK S 2 = 139 := by
  obtain ⟨⟨h1, h2, h3, h4, h5, h6, h7, h8, h9⟩, _⟩ := h
  have hN := hG.1.2.1
  have := hG.1.2.2.2.2 t h2
  exact ⟨h3, h2, by omega, h4, h5, h6, (h1 t h2).1, (h1 t h2).2.1, this.2, this.1, h7⟩
theorem rTb_to {t' : Nat} (hG : gOk G) (h : rTb G c S t κ) (ht : t ≤ t') (htN : t' < gN G) (hc : 2 * t + c ≤ 2 * t' + c') : rTb G c' S t' κ := by
  match κ, h with
  | .inl e, h => exact h
  | .inr V, h =>
    obtain ⟨h1, h2, h3, h4⟩ := h
    have e : t + (t' - t) = t' := by omega
    have := sRo_le (V := V) hG (t' - t) t (by omega) h2
    rw [e] at this
    exact ⟨h1, this, by omega, h4⟩
theorem rS_c (hG : gOk G) (h : rS G sc c S t dp κ) (hc : c ≤ c') : rS G sc c' S t dp κ := ⟨h.1, h.2.1, rTb_to hG h.2.2 (Nat.le_refl _) h.1.2.1 (by omega)⟩
/-- slots of its own -/
theorem rTb_fr (h : rTb G c S t κ) (hf : yFr (yWv 0) S S') : rTb G c S' t κ := by
  match κ, h with
  | .inl e, h =>
    have h : rEm S := h
    show rEm S'
    unfold rEm at h ⊢
    rw [hf.1 51 rfl, hf.1 52 rfl, hf.1 56 rfl, hf.1 57 rfl, hf.1 58 rfl, hf.2.2.2.1 51 rfl]
    exact h
  | .inr V, h =>
    refine ⟨?_, h.2⟩
    have h := h.1
    unfold rVl rPg rOs rGs rD1 rD2 rPl rBn at h ⊢
    rw [hf.1 51 rfl, hf.1 52 rfl, hf.1 53 rfl, hf.1 54 rfl, hf.1 55 rfl, hf.1 56 rfl, hf.1 57 rfl, hf.1 58 rfl, hf.2.2.2.1 42 rfl, hf.2.2.2.1 43 rfl, hf.2.2.2.1 44 rfl, hf.2.2.2.1 45 rfl, hf.2.2.2.1 46 rfl, hf.2.2.2.1 47 rfl, hf.2.2.2.1 48 rfl, hf.2.2.2.1 49 rfl, hf.2.2.2.1 50 rfl, hf.2.2.2.1 51 rfl, hf.2.2.2.1 52 rfl, hf.2.2.2.1 53 rfl, hf.2.2.2.1 54 rfl, hf.2.2.2.1 55 rfl, hf.2.2.2.2.1 14 rfl, hf.2.2.2.2.1 15 rfl]
    exact h
theorem rCx_fr {W : Nat → Nat → Bool} (h : rCx G S) (hf : yFr W S S') (hW : W 0 41 = false ∧ W 4 11 = false ∧ W 3 38 = false) : rCx G S' := by
  unfold rCx at h ⊢
  rw [hf.1 41 hW.1, hf.2.2.2.2.1 11 hW.2.1, hf.2.2.2.1 38 hW.2.2]
  exact h
/-- a token is taken -/
theorem q217 (hG : gOk G) (h : rS G sc c S t dp κ) (h64 : (gT G t).1 ≤ 64) : ∃ S' : yS, Y q (d + 1) 217 0 [vr 129] [] S js = yretv q S' js ∧ yFr yWR S S' ∧ rS G sc (c - 2) S' (t + 1) dp κ := by
  obtain ⟨g1, g2, g3, g4, g5, _⟩ := rS_t hG h
  have ht := yTo_t hG.1 g2 h64
  have f : yFr (yWv 0) S (sI S 44 (gI S 44 + 1)) := yFr_I (yWv_I (by omega))
  refine ⟨sI S 44 (gI S 44 + 1), by rw [r217 (by omega) (by omega), if_neg (by omega)], yWR_v f, ?_, rCx_fr h.2.1 f ⟨rfl, rfl, rfl⟩, rTb_fr (rTb_to hG h.2.2 (by omega) ht (by omega)) f⟩
  obtain ⟨⟨h1, h2, h3, h4, h5, h6, h7, h8, h9⟩, _⟩ := h
  refine ⟨h1, ht, ?_, h4, h5, h6, h7, h8, rC_I h9 (by omega) (by omega) (by omega)⟩
  rw [gI_self, h3]
  rfl
theorem q221 (hG : gOk G) (h : rS G sc c S t dp κ) {kd : Nat} (hk : kd < 67) : Y q d 221 0 [vr 129, vi (ykR kd)] [] S js = yret q (vi (yb (skd G (.inr (t, κ)) = kd))) S js := by
  obtain ⟨g1, g2, g3, g4, g5, g6, g7, g8, g9, _⟩ := rS_t hG h
  have r1 := ykR_rng hk
  have r2 := ykR_rng g9
  have et : (gI S 44).toNat = t := by rw [g1]; rfl
  rw [r221 (by omega) (by omega) (by rw [et, g7]; omega), et, g7]
  simp only [ykR_inj _ g9 _ hk]
  rfl
theorem rS_45 (h : rS G sc c S t dp κ) : gI S 45 = if sbk κ = true then 1 else 0 := by
  have h9 := h.1.2.2.2.2.2.2.2.2
  match κ, h9 with
  | .inl e, h9 => exact h9.1
  | .inr V, h9 => exact h9.1
theorem rS_nz (h : rS G sc c S t dp κ) : rNz S := by
  have h := h.2.2
  match κ, h with
  | .inl e, h =>
    obtain ⟨h1, h2, _⟩ : rEm S := h
    exact ⟨by omega, by omega, fun i hi => by omega, fun i hi => by omega⟩
  | .inr V, h =>
    obtain ⟨⟨_, _, _, d1, d2, _⟩, _, _, ⟨_, _, o1, o2⟩, _, o3, o4, _⟩ := h
    have l1 := d1.1
    have l2 := d2.1
    refine ⟨by omega, by omega, fun i hi => ?_, fun i hi => ?_⟩
    · have hi : i < (zL V).length := by omega
      have k1 := (d1.2 i _ (List.getElem?_eq_getElem hi)).2.1
      have k2 := o3 _ (List.getElem_mem hi)
      omega
    · have hi : i < (zT V).length := by omega
      have k1 := (d2.2 i _ (List.getElem?_eq_getElem hi)).2.1
      have k2 := o4 _ (List.getElem_mem hi)
      omega
theorem rNz_v (h : rNz S) (hf : yFr (yWv 0) S S') : rNz S' := by
  unfold rNz at h ⊢
  rw [hf.1 51 rfl, hf.1 52 rfl, hf.2.2.2.1 42 rfl, hf.2.2.2.1 44 rfl]
  exact h
theorem q219 {f : yPV → Bool} {C : Prop} [Decidable C] {n p : Nat} {x : Int} (h : rS G sc c S t dp κ) (hC : ∀ V, κ = .inr V → (f V = true ↔ C)) (hx : ∀ V, κ = .inr V → x = yb C) : rO q js G sc c S dp (sbk κ) (Y q (d + 1) 219 0 [vr 129, vi x, vi n, vi p] [] S js) (sgd f n p (.inr (t, κ))) (rVo q js) := by
  have h45 := rS_45 h
  match κ, h, hC, hx, h45 with
  | .inl e, h, hC, hx, h45 =>
    have h45 : gI S 45 = 0 := h45
    exact rO_ok (κ := .inl e) h (r219n (Or.inl (by rw [h45]; rfl)))
  | .inr V, h, hC, hx, h45 =>
    have h45 : gI S 45 = 1 := h45
    rw [hx V rfl]
    show rO q js G sc c S dp true _ (.inr (t, if f V = true then .inr V else .inl (n, p))) _
    by_cases z : C
    · rw [if_pos ((hC V rfl).mpr z), yb, if_pos z]
      exact rO_ok (κ := .inr V) h (r219n (Or.inr (by decide)))
    · rw [if_neg (fun y => z ((hC V rfl).mp y)), yb, if_neg z]
      exact ⟨fun _ => ⟨S, r219t h45 rfl, yFr_rf _ _, rS_nz (κ := .inr V) h⟩, fun y => nomatch y⟩
theorem q225 {kd : Nat} (hG : gOk G) (h : rS G sc c S t dp κ) (hkd : kd ≤ 64) : rO q js G sc (c - 2) S dp (sbk κ) (Y q (d + 2) 225 0 [vr 129, vi (ykR kd)] [] S js) (sxp G kd (.inr (t, κ))) (rVo q js) := by
  obtain ⟨g1, g2, g3, g4, g5, g6, g7, g8, g9, g10, _⟩ := rS_t hG h
  have e44 : yr (gI S 44) = t := by rw [g1]; exact yr_eq (by omega) (by omega)
  have n1 : ¬ yr 1 = 0 := by decide
  rw [w225_0, q221 hG h (by omega), YB_ret, w225_5]
  unfold sxp
  by_cases z : skd G (.inr (t, κ)) = kd
  · obtain ⟨S1, e1, f1, h1⟩ := q217 (q := q) (d := d) (js := js) hG h (by have z : (gT G t).1 = kd := z; omega)
    rw [yb, if_pos z, if_neg n1, if_pos z, e1, YB_retv, w225_17]
    exact rO_tr f1 (rO_ok (κ := κ) h1 rfl)
  · rw [yb, if_neg z, if_pos yr_0, if_neg z]
    intro _
    refine ⟨S, ?_, yFr_rf _ _, rS_nz h⟩
    rw [c218 q d js S (by rw [e44]; omega), YB_ret, a225_12, e44, Int.toNat_natCast, g8]
theorem q191 (hG : gOk G) (h : rS G sc c S t dp κ) {lo hi : Nat} {l u : Int64} (hl : l = yi2l (lo : Int)) (hu : u = yi2l (hi : Int)) (h1 : lo ≤ 300) (h2 : hi ≤ 300) : Y q d 191 0 [vj (yi2l (gA S 39 t)), vu, vj l, vu, vj u, vu] [] S js = yret q (vi (yb ((lo : Int) ≤ ykR (gT G t).1 ∧ ykR (gT G t).1 ≤ hi))) S js := by
  obtain ⟨g1, g2, g3, g4, g5, g6, g7, g8, g9, g10, _⟩ := rS_t hG h
  have r2 := ykR_rng g9
  rw [g7]
  exact r191i hl hu (by omega) (by omega) (by omega)
end YRQL
end YRQ
