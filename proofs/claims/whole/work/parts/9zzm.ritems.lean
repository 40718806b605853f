/-! THE REFERENCE READS A PROGRAM: items -/
section YSE
section YSEL
variable {q : yQ} {d : Nat} {js : List xO} {G : yGx} {σ σ1 : yPS} {S S1 S' : yS} {sc c c' w fx : Int} {dp dp' t : Nat} {b : Bool} {o : Option xRes} {B B1 B2 : yS → Option xRes → Prop} {κ κ1 : yKp} {g : yPS → yPS}
theorem sStr_pw {F : yPS → yPS → yPS} (hF : ∀ x, sStr (F x)) (hg : sStr g) : sStr fun s => F s (g s) := by
  refine ⟨fun p => ?_, fun t e => ?_⟩
  · show F _ (g (.inl p)) = _
    rw [hg.1, (hF _).1]
  · show (∃ p, F _ (g (.inr (t, .inl e))) = _) ∨ ∃ t', F _ (g (.inr (t, .inl e))) = _
    rcases hg.2 t e with ⟨p, h⟩ | ⟨t', h⟩
    · exact Or.inl ⟨p, by rw [h, (hF _).1]⟩
    · rw [h]
      exact (hF _).2 t' e
theorem sPr_pw {F : yPS → yPS → yPS} (hs : ∀ x, sStr (F x)) (hF : ∀ x, sPr G (F x)) (hg : sPr G g) : sPr G fun s => F s (g s) := fun t κ t1 κ1 h e => by
  have e : F _ (g (.inr (t, κ))) = .inr (t1, κ1) := e
  rcases hx : g (.inr (t, κ)) with p | ⟨t2, κ2⟩
  · rw [hx, (hs _).1] at e
    nomatch e
  · obtain ⟨a1, a2⟩ := hg t κ t2 κ2 h hx
    rw [hx] at e
    obtain ⟨b1, b2⟩ := hF _ t2 κ2 t1 κ1 a2 e
    exact ⟨by omega, b2⟩
theorem sStr_lin : sStr (slin G dp) := sStr_mp (f := fun s V => saP (sln (fun V => (zP V).length) s) ((zP V).length + 1) (slyP (3, 0, 0, 0) V)) (sStr_co (sStr_lp sStr_pc 2000) (sStr_mp (f := fun _ => slyP (0, 0, 0, 0)) sStr_nx))
theorem sStr_sk {i kd : Nat} : sStr (ssk G i kd) := sStr_mp (f := fun s V => slyP (kd - 20, sfv G (snx s), 0, 0) (snI i (sfv G (snx s)) V)) (sStr_co (sStr_num (hi := fun _ => 40)) sStr_nx)
theorem sStr_kp {a : Nat} (hg : sStr g) : sStr (skp G a g) := sStr_co (f := sxp G 21) sStr_xp (sStr_mp (f := fun _ V => saP a (zP V).length (slyP (8, 0, 0, 0) V)) (sStr_co (f := g) hg (sStr_mp (f := fun _ => slyP (7, 0, 0, 0)) sStr_nx)))
theorem sStr_ch {i a pl : Nat} (hg : sStr g) : sStr (sch G dp i a pl g) := sStr_co (f := fun s => sxp G 21 (tc8 G dp i a pl g s)) (sStr_co (f := sxp G 21) sStr_xp (sStr_8 hg)) sStr_nx
theorem sStr_itw {body : Bool} {sub : Option (yPS → yPS)} {kd i a pl : Nat} (hg : ∀ g, sub = some g → sStr g) : sStr (sitw G body dp sub kd i a pl) := by
  unfold sitw
  by_cases z22 : kd = 22
  · simp only [z22, if_true]
    exact sStr_lin
  simp only [z22, if_false]
  by_cases z24 : kd = 24 ∨ kd = 25
  · simp only [z24, if_true]
    exact sStr_sk
  simp only [z24, if_false]
  by_cases z27 : kd = 27
  · simp only [z27, if_true]
    rcases sub with _ | g
    · exact sStr_rf
    · exact sStr_kp (hg g rfl)
  simp only [z27, if_false]
  by_cases z28 : kd = 28
  · simp only [z28, if_true]
    rcases sub with _ | g
    · exact sStr_rf
    · exact sStr_ch (hg g rfl)
  simp only [z28, if_false]
  exact sStr_mp (f := fun _ => slyP (6, 0, 0, 0)) sStr_nx
theorem sitm_e {body : Bool} {sub : Option (yPS → yPS)} : sitm G body dp sub σ = smp (seI (sln (fun V => (zI V).length) (sitm0 G body σ))) (sitw G body dp sub (skd G σ) (sln (fun V => (zI V).length) (sitm0 G body σ)) (sln (fun V => (zP V).length) (sitm0 G body σ)) (spl G σ) (smp (sadI (skd G σ) 0 0) (sitm0 G body σ))) := rfl
theorem sStr_itm {body : Bool} {sub : Option (yPS → yPS)} (hg : ∀ g, sub = some g → sStr g) : sStr (sitm G body dp sub) := by
  have h0 : sStr (sitm0 G body) := sStr_gd (f := fun s _ => decide (body = true ∨ skd G s = 22 ∨ skd G s = 24)) (n := fun _ => 6) (p := fun s => spl G s) sStr_id
  exact sStr_pw (F := fun x s => smp (seI (sln (fun V => (zI V).length) (sitm0 G body x))) (sitw G body dp sub (skd G x) (sln (fun V => (zI V).length) (sitm0 G body x)) (sln (fun V => (zP V).length) (sitm0 G body x)) (spl G x) (smp (sadI (skd G x) 0 0) s))) (fun x => sStr_mp (f := fun _ => seI (sln (fun V => (zI V).length) (sitm0 G body x))) (sStr_co (sStr_itw hg) (sStr_mp (f := fun _ => sadI (skd G x) 0 0) sStr_id))) h0
theorem sStr_its {body : Bool} : ∀ rd, sStr (sits G body rd)
  | 0 => sStr_lp (sStr_itm fun g e => by cases e) 2000
  | rd + 1 => sStr_lp (sStr_itm fun g e => by
      injection e with e
      rw [← e]
      exact sStr_its rd) 2000
/-- how far an item goes -/
theorem sitw_lt {body : Bool} {sub : Option (yPS → yPS)} {kd i a pl t1 : Nat} (hG : gOk G) (hs : ∀ g, sub = some g → sStr g) (hg : ∀ g, sub = some g → sPr G g) (ht : t < gN G) (hk : (gT G t).1 ≤ 64) (e : sitw G body dp sub kd i a pl (.inr (t, κ)) = .inr (t1, κ1)) : t < t1 ∧ t1 < gN G := by
  have hN := yTo_t hG.1 ht hk
  have go : ∀ F : yPS → yPS, sPr G F → F (.inr (t + 1, κ)) = .inr (t1, κ1) → t < t1 ∧ t1 < gN G := fun F hF e => sPr_1 hG hF ht hk e
  have pc : sPr G (slp G sisP (spc G dp) 2000) := by
    have : ∀ n, sPr G (slp G sisP (spc G dp) n) := fun n => by
      induction n with
      | zero => exact sPr_id
      | succ n ih =>
        intro t κ t1 κ1 h e
        have e : (if sisP (gT G t).1 = true then slp G sisP (spc G dp) n (spc G dp (.inr (t, κ))) else .inr (t, κ)) = .inr (t1, κ1) := e
        split at e
        · rename_i z
          rcases hx : spc G dp (.inr (t, κ)) with p | ⟨t2, κ2⟩
          · rw [hx, (sStr_lp sStr_pc n).1] at e
            nomatch e
          · obtain ⟨a1, a2⟩ := spc_lt hG h z hx
            rw [hx] at e
            obtain ⟨b1, b2⟩ := ih t2 κ2 t1 κ1 a2 e
            exact ⟨by omega, b2⟩
        · exact sPr_id (G := G) t κ t1 κ1 h e
    exact this 2000
  unfold sitw at e
  by_cases z22 : kd = 22
  · rw [if_pos z22] at e
    obtain ⟨κ0, e⟩ := smp_t e
    have e : slp G sisP (spc G dp) 2000 (smp (slyP (0, 0, 0, 0)) (.inr (t + 1, κ))) = .inr (t1, κ0) := e
    rw [smp_k] at e
    obtain ⟨b1, b2⟩ := pc (t + 1) _ t1 κ0 hN e
    exact ⟨by omega, b2⟩
  rw [if_neg z22] at e
  by_cases z24 : kd = 24 ∨ kd = 25
  · rw [if_pos z24] at e
    obtain ⟨κ0, e⟩ := smp_t e
    obtain ⟨b1, b2⟩ := sPr_num hG (lo := 1) (hi := fun _ => 40) (t + 1) κ t1 κ0 hN e
    exact ⟨by omega, b2⟩
  rw [if_neg z24] at e
  by_cases z27 : kd = 27
  · rw [if_pos z27] at e
    rcases sub with _ | g
    · nomatch e
    · exact go (fun s => sxp G 21 (smp (fun V => saP a (zP V).length (slyP (8, 0, 0, 0) V)) (g (smp (slyP (7, 0, 0, 0)) s)))) (sPr_co sStr_xp (sPr_xp hG (by omega)) (sPr_mp (f := fun _ V => saP a (zP V).length (slyP (8, 0, 0, 0) V)) (sPr_co (f := g) (hs g rfl) (hg g rfl) (sPr_mp (f := fun _ => slyP (7, 0, 0, 0)) sPr_id)))) e
  rw [if_neg z27] at e
  by_cases z28 : kd = 28
  · rw [if_pos z28] at e
    rcases sub with _ | g
    · nomatch e
    · exact go (fun s => sxp G 21 (tc8 G dp i a pl g s)) (sPr_co sStr_xp (sPr_xp hG (by omega)) (sPr_8 hG (hs g rfl) (hg g rfl))) e
  rw [if_neg z28] at e
  obtain ⟨κ0, e⟩ := smp_t e
  injection e with e
  injection e with e _
  omega
theorem sitm_lt {body : Bool} {sub : Option (yPS → yPS)} {t1 : Nat} (hG : gOk G) (hs : ∀ g, sub = some g → sStr g) (hg : ∀ g, sub = some g → sPr G g) (ht : t < gN G) (h0 : sisI (gT G t).1 = true) (e : sitm G body dp sub (.inr (t, κ)) = .inr (t1, κ1)) : t < t1 ∧ t1 < gN G := by
  rw [sitm_e] at e
  obtain ⟨κ0, e⟩ := smp_t e
  have hk : (gT G t).1 ≤ 64 := by
    unfold sisI at h0
    have := of_decide_eq_true h0
    omega
  rcases hx : sitm0 G body (.inr (t, κ)) with p | ⟨t2, κ2⟩
  · rw [hx] at e
    have : ∀ kd i a pl, sitw G body dp sub kd i a pl (.inl p) = .inl p := fun kd i a pl => (sStr_itw hs).1 p
    have e2 : ∀ f : yPV → yPV, smp f (.inl p) = .inl p := fun _ => rfl
    rw [e2, this] at e
    nomatch e
  · obtain ⟨κ3, e3⟩ := sgd_t' hx
    injection e3 with e3
    injection e3 with e3 _
    subst e3
    rw [hx, smp_k] at e
    exact sitw_lt hG hs hg ht hk e
theorem sPr_its {body : Bool} (hG : gOk G) : ∀ rd, sPr G (sits G body rd) := by
  have lp : ∀ (dp : Nat) (sub : Option (yPS → yPS)), (∀ g, sub = some g → sStr g) → (∀ g, sub = some g → sPr G g) → ∀ n, sPr G (slp G sisI (sitm G body dp sub) n) := by
    intro dp sub hs hg n
    induction n with
    | zero => exact sPr_id
    | succ n ih =>
      intro t κ t1 κ1 h e
      have e : (if sisI (gT G t).1 = true then slp G sisI (sitm G body dp sub) n (sitm G body dp sub (.inr (t, κ))) else .inr (t, κ)) = .inr (t1, κ1) := e
      split at e
      · rename_i z
        rcases hx : sitm G body dp sub (.inr (t, κ)) with p | ⟨t2, κ2⟩
        · rw [hx, (sStr_lp (sStr_itm hs) n).1] at e
          nomatch e
        · obtain ⟨a1, a2⟩ := sitm_lt hG hs hg h z hx
          rw [hx] at e
          obtain ⟨b1, b2⟩ := ih t2 κ2 t1 κ1 a2 e
          exact ⟨by omega, b2⟩
      · exact sPr_id (G := G) t κ t1 κ1 h e
  intro rd
  induction rd with
  | zero => exact lp 12 none (fun g e => by cases e) (fun g e => by cases e) 2000
  | succ rd ih =>
    exact lp (11 - rd) (some (sits G body rd)) (fun g e => by
      injection e with e
      rw [← e]
      exact sStr_its rd) (fun g e => by
      injection e with e
      rw [← e]
      exact ih) 2000
/-- what is the class's alone does not change how a call comes out -/
theorem rO_I {f : yPV → yPV} (hf : ∀ V, ∃ l, f V = zsI V l) (h : rO q js G sc c S dp b o σ B) : rO q js G sc c S dp b o (smp f σ) B := by
  match σ, h with
  | .inl p, h => exact h
  | .inr (t, .inl e), h => exact h
  | .inr (t, .inr V), h =>
    obtain ⟨h0, S', h1, h2, h3⟩ := h
    exact ⟨h0, S', h1, h2, rS_I (κ := .inr V) hf h3⟩
end YSEL
end YSE
