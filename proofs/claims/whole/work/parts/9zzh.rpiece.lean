/-! THE REFERENCE READS A PROGRAM: how far things go; lines -/
section YRZ
/-- nothing goes back -/
def sPr (G : yGx) (F : yPS → yPS) : Prop := ∀ t κ t1 κ1, t < gN G → F (.inr (t, κ)) = .inr (t1, κ1) → t ≤ t1 ∧ t1 < gN G
section YRZL
variable {q : yQ} {d : Nat} {js : List xO} {G : yGx} {σ σ1 : yPS} {S S1 S' : yS} {sc c c' w : Int} {dp dp' t : Nat} {b : Bool} {o : Option xRes} {B B1 B2 : yS → Option xRes → Prop} {κ κ1 : yKp}
theorem sPr_id : sPr G fun s => s := fun t κ t1 κ1 h e => by
  have e : (Sum.inr (t, κ) : yPS) = .inr (t1, κ1) := e
  injection e with e
  injection e with e _
  omega
theorem sPr_co {f g : yPS → yPS} (hs : sStr f) (hf : sPr G f) (hg : sPr G g) : sPr G fun s => f (g s) := fun t κ t1 κ1 h e => by
  have e : f (g (.inr (t, κ))) = .inr (t1, κ1) := e
  rcases hx : g (.inr (t, κ)) with p | ⟨t2, κ2⟩
  · rw [hx, hs.1] at e
    nomatch e
  · obtain ⟨h1, h2⟩ := hg t κ t2 κ2 h hx
    rw [hx] at e
    obtain ⟨h3, h4⟩ := hf t2 κ2 t1 κ1 h2 e
    exact ⟨by omega, h4⟩
theorem smp_t {f : yPV → yPV} {t1 : Nat} (e : smp f σ = .inr (t1, κ1)) : ∃ κ0, σ = .inr (t1, κ0) := by
  rcases σ with p | ⟨t, e0 | V⟩
  · nomatch e
  · have e : (Sum.inr (t, .inl e0) : yPS) = .inr (t1, κ1) := e
    injection e with e
    injection e with e _
    exact ⟨_, by rw [e]⟩
  · have e : (Sum.inr (t, .inr (f V)) : yPS) = .inr (t1, κ1) := e
    injection e with e
    injection e with e _
    exact ⟨_, by rw [e]⟩
theorem sgd_t' {f : yPV → Bool} {n p t1 : Nat} (e : sgd f n p σ = .inr (t1, κ1)) : ∃ κ0, σ = .inr (t1, κ0) := by
  rcases σ with p | ⟨t, e0 | V⟩
  · nomatch e
  · have e : (Sum.inr (t, .inl e0) : yPS) = .inr (t1, κ1) := e
    injection e with e
    injection e with e _
    exact ⟨_, by rw [e]⟩
  · have e : (Sum.inr (t, if f V = true then .inr V else .inl (n, p)) : yPS) = .inr (t1, κ1) := e
    injection e with e
    injection e with e _
    exact ⟨_, by rw [e]⟩
theorem swr_t {n p t1 : Nat} (e : swr σ n p = .inr (t1, κ1)) : ∃ κ0, σ = .inr (t1, κ0) := by
  rcases σ with p | ⟨t, e0 | V⟩
  · nomatch e
  · have e : (Sum.inr (t, .inl e0) : yPS) = .inr (t1, κ1) := e
    injection e with e
    injection e with e _
    exact ⟨_, by rw [e]⟩
  · have e : (Sum.inr (t, .inl (n, p)) : yPS) = .inr (t1, κ1) := e
    injection e with e
    injection e with e _
    exact ⟨_, by rw [e]⟩
theorem sPr_mp {f : yPS → yPV → yPV} {g : yPS → yPS} (hg : sPr G g) : sPr G fun s => smp (f s) (g s) := fun t κ t1 κ1 h e => by
  obtain ⟨κ0, e⟩ := smp_t e
  exact hg t κ t1 κ0 h e
theorem sPr_gd {f : yPS → yPV → Bool} {n p : yPS → Nat} {g : yPS → yPS} (hg : sPr G g) : sPr G fun s => sgd (f s) (n s) (p s) (g s) := fun t κ t1 κ1 h e => by
  obtain ⟨κ0, e⟩ := sgd_t' e
  exact hg t κ t1 κ0 h e
theorem sPr_wr {n p : yPS → Nat} {g : yPS → yPS} (hg : sPr G g) : sPr G fun s => swr (g s) (n s) (p s) := fun t κ t1 κ1 h e => by
  obtain ⟨κ0, e⟩ := swr_t e
  exact hg t κ t1 κ0 h e
theorem sPr_if {C : yPS → Prop} [∀ s, Decidable (C s)] {f g : yPS → yPS} (hf : sPr G f) (hg : sPr G g) : sPr G fun s => if C s then f s else g s := fun t κ t1 κ1 h e => by
  have e : (if C (.inr (t, κ)) then f (.inr (t, κ)) else g (.inr (t, κ))) = .inr (t1, κ1) := e
  split at e
  · exact hf t κ t1 κ1 h e
  · exact hg t κ t1 κ1 h e
theorem sPr_nx (hG : gOk G) {C : yPS → Prop} [∀ s, Decidable (C s)] (hC : ∀ s, C s → skd G s ≤ 64) {f : yPS → yPS} (hf : sPr G f) : sPr G fun s => if C s then snx s else f s := fun t κ t1 κ1 h e => by
  have e : (if C (.inr (t, κ)) then snx (.inr (t, κ)) else f (.inr (t, κ))) = .inr (t1, κ1) := e
  split at e
  · rename_i z
    have e : (Sum.inr (t + 1, κ) : yPS) = .inr (t1, κ1) := e
    injection e with e
    injection e with e _
    have := yTo_t hG.1 h (hC _ z)
    omega
  · exact hf t κ t1 κ1 h e
theorem sPr_rf : sPr G (srf G) := fun t κ t1 κ1 h e => nomatch e
theorem sPr_xp (hG : gOk G) {kd : Nat} (hk : kd ≤ 64) : sPr G (sxp G kd) := sPr_nx (C := fun s => skd G s = kd) hG (fun s z => by omega) sPr_rf
theorem sPr_num (hG : gOk G) {lo : Nat} {hi : yPS → Nat} : sPr G fun s => snum G lo (hi s) s := sPr_if (sPr_xp hG (by omega)) (sPr_wr (sPr_xp hG (by omega)))
theorem sex_lt {t1 : Nat} (hG : gOk G) (h : t < gN G) (e : sex G w dp (.inr (t, κ)) = .inr (t1, κ1)) : t < t1 ∧ t1 < gN G := by
  have e : (match sxr G w dp (.inr (t, κ)) with
      | .inl p => .inl p
      | .inr (t', _, m) => .inr (t', sxk κ m) : yPS) = .inr (t1, κ1) := e
  cases hr : sxr G w dp (.inr (t, κ)) with
  | inl p =>
    rw [hr] at e
    nomatch e
  | inr y =>
    obtain ⟨t', b', m⟩ := y
    rw [hr] at e
    have e : (Sum.inr (t', sxk κ m) : yPS) = .inr (t1, κ1) := e
    injection e with e
    injection e with e _
    obtain ⟨k1, k2, _⟩ := sxr_in hG h hr
    omega
theorem sPr_ex (hG : gOk G) : sPr G (sex G w dp) := fun t κ t1 κ1 h e => by
  have := sex_lt hG h e
  omega
theorem sPr_lp {g : yPS → yPS} {cc : Nat → Bool} (hs : sStr g) (hg : sPr G g) : ∀ n, sPr G (slp G cc g n)
  | 0 => sPr_id
  | n + 1 => sPr_if (sPr_co (sStr_lp hs n) (sPr_lp hs hg n) hg) sPr_id
theorem sPr_cm (hG : gOk G) : sPr G (scm G) := sPr_gd (sPr_xp hG (by omega))
theorem sPr_new (hG : gOk G) : sPr G (snew G) := sPr_gd (sPr_xp hG (by omega))
theorem sPr_gn (hG : gOk G) : sPr G (sgn G) := sPr_gd (sPr_xp hG (by omega))
theorem sPr_sc (hG : gOk G) : sPr G (sscp G) := sPr_nx (C := fun s => skd G s = 0) hG (fun s z => by omega) (sPr_gn hG)
/-- behind a first token -/
theorem sPr_1 {f : yPS → yPS} {t1 : Nat} (hG : gOk G) (hf : sPr G f) (h : t < gN G) (hk : (gT G t).1 ≤ 64) (e : f (.inr (t + 1, κ)) = .inr (t1, κ1)) : t < t1 ∧ t1 < gN G := by
  obtain ⟨h1, h2⟩ := hf (t + 1) κ t1 κ1 (yTo_t hG.1 h hk) e
  exact ⟨by omega, h2⟩
theorem q238 (hG : gOk G) (h : rS G sc c S t dp κ) : Y q (d + 1) 238 0 [vr 129] [] S js = yret q (vi (yb (yKr (gT G t).1 = 5))) S js := by
  obtain ⟨g1, g2, g3, g4, g5, g6, g7, g8, h67, _⟩ := rS_t hG h
  have rng := ykR_rng h67
  have e44 : yr (gI S 44) = t := by rw [g1]; exact yr_eq (by omega) (by omega)
  have k5 := ykr5i _ h67
  have hin : (37 ≤ ykR (gT G t).1 ∧ ykR (gT G t).1 ≤ 42) = (37 ≤ (gT G t).1 ∧ (gT G t).1 ≤ 42) := by
    unfold ykR
    apply propext
    split
    · omega
    · split <;> omega
  have i1 : Y q d 221 0 [vr 129, vi 8] [] S js = yret q (vi (yb ((gT G t).1 = 8))) S js := q221 hG h (kd := 8) (by omega)
  have i2 : Y q d 221 0 [vr 129, vi 9] [] S js = yret q (vi (yb ((gT G t).1 = 9))) S js := q221 hG h (kd := 9) (by omega)
  rw [w238_0, e44, if_pos (by omega), Int.toNat_natCast, g7, r191i (l := 37) (u := 42) (by decide) (by decide) (by omega) (by omega) (by omega), YB_ret, w238_19, i1, YB_ret, w238_28, i2, YB_ret, w238_37]
  simp only [yr_yb, yb_eq0, hin, yz0, yz1, if_true]
  by_cases z1 : 37 ≤ (gT G t).1 ∧ (gT G t).1 ≤ 42
  · rw [if_neg (fun n => n z1), yb_t (k5.mpr (by omega))]
  · rw [if_pos z1]
    by_cases z2 : (gT G t).1 = 8
    · rw [if_neg (fun n => n z2), yb_t (k5.mpr (by omega))]
    · rw [if_pos z2]
      by_cases z3 : (gT G t).1 = 9
      · rw [if_neg (fun n => n z3), yb_t (k5.mpr (by omega))]
      · rw [if_pos z3, yb_f (fun v => by have := k5.mp v; omega)]
theorem sbx_r : ∀ kd : Nat, kd < 67 → (sbx kd = true ↔ kd = 63 ∨ kd = 64 ∨ kd = 62 ∨ kd = 46 ∨ kd = 52 ∨ kd = 36 ∨ ((43 : Int) ≤ ykR kd ∧ ykR kd ≤ 45) ∨ yKr kd = 5) := by decide
theorem q251 (hG : gOk G) (h : rS G sc c S t dp κ) : Y q (d + 2) 251 0 [vr 129] [] S js = yret q (vi (yb (sbx (gT G t).1 = true))) S js := by
  obtain ⟨g1, g2, g3, g4, g5, g6, g7, g8, h67, _⟩ := rS_t hG h
  have e44 : yr (gI S 44) = t := by rw [g1]; exact yr_eq (by omega) (by omega)
  have n1 : ¬ yr 1 = 0 := by decide
  have y1 : yr 1 = 0 ∨ yr 1 = 1 := by decide
  have y0 : yr 0 = 0 ∨ yr 0 = 1 := by decide
  have kx := sbx_r _ h67
  have i1 : Y q (d + 1) 221 0 [vr 129, vi 201] [] S js = yret q (vi (yb ((gT G t).1 = 63))) S js := q221 hG h (kd := 63) (by omega)
  have i2 : Y q (d + 1) 221 0 [vr 129, vi 202] [] S js = yret q (vi (yb ((gT G t).1 = 64))) S js := q221 hG h (kd := 64) (by omega)
  have i3 : Y q (d + 1) 221 0 [vr 129, vi 200] [] S js = yret q (vi (yb ((gT G t).1 = 62))) S js := q221 hG h (kd := 62) (by omega)
  have i4 : Y q (d + 1) 221 0 [vr 129, vi 100] [] S js = yret q (vi (yb ((gT G t).1 = 46))) S js := q221 hG h (kd := 46) (by omega)
  have i5 : Y q (d + 1) 221 0 [vr 129, vi 106] [] S js = yret q (vi (yb ((gT G t).1 = 52))) S js := q221 hG h (kd := 52) (by omega)
  have i6 : Y q (d + 1) 221 0 [vr 129, vi 36] [] S js = yret q (vi (yb ((gT G t).1 = 36))) S js := q221 hG h (kd := 36) (by omega)
  have i7 : Y q (d + 1) 191 0 [vj (yi2l (gA S 39 t)), vu, vj 43, vu, vj 45, vu] [] S js = yret q (vi (yb ((43 : Int) ≤ ykR (gT G t).1 ∧ ykR (gT G t).1 ≤ 45))) S js := q191 (lo := 43) (hi := 45) hG h (by decide) (by decide) (by omega) (by omega)
  rw [w251_0, i1, YB_ret, w251_7]
  by_cases z1 : (gT G t).1 = 63
  · rw [yb, if_pos z1, if_neg n1, if_pos y1, yb, if_pos (kx.mpr (by omega))]
  rw [yb, if_neg z1, if_pos yr_0, i2, YB_ret, w251_17]
  by_cases z2 : (gT G t).1 = 64
  · rw [yb, if_pos z2, if_neg n1, if_pos y1, yb, if_pos (kx.mpr (by omega))]
  rw [yb, if_neg z2, if_pos yr_0, i3, YB_ret, w251_27]
  by_cases z3 : (gT G t).1 = 62
  · rw [yb, if_pos z3, if_neg n1, if_pos y1, yb, if_pos (kx.mpr (by omega))]
  rw [yb, if_neg z3, if_pos yr_0, i4, YB_ret, w251_36]
  by_cases z4 : (gT G t).1 = 46
  · rw [yb, if_pos z4, if_neg n1, if_pos y1, yb, if_pos (kx.mpr (by omega))]
  rw [yb, if_neg z4, if_pos yr_0, i5, YB_ret, w251_45]
  by_cases z5 : (gT G t).1 = 52
  · rw [yb, if_pos z5, if_neg n1, if_pos y1, yb, if_pos (kx.mpr (by omega))]
  rw [yb, if_neg z5, if_pos yr_0, i6, YB_ret, w251_54]
  by_cases z6 : (gT G t).1 = 36
  · rw [yb, if_pos z6, if_neg n1, if_pos y1, yb, if_pos (kx.mpr (by omega))]
  rw [yb, if_neg z6, if_pos yr_0, e44, if_pos (by omega), Int.toNat_natCast, i7, YB_ret, w251_76]
  by_cases z7 : (43 : Int) ≤ ykR (gT G t).1 ∧ ykR (gT G t).1 ≤ 45
  · rw [yb, if_pos z7, if_neg n1, if_pos y1, yb, if_pos (kx.mpr (by omega))]
  rw [yb, if_neg z7, if_pos yr_0, q238 hG h, YB_ret, w251_83]
  by_cases z8 : yKr (gT G t).1 = 5
  · rw [yb, if_pos z8, if_neg n1, if_pos y1, yb, if_pos (kx.mpr (by omega))]
  rw [yb, if_neg z8, if_pos yr_0, if_pos y0, yb, if_neg]
  intro y
  have := kx.mp y
  omega
end YRZL
end YRZ
