/-! THE REFERENCE READS A PROGRAM: lines -/
section YSB
section YSBL
variable {q : yQ} {d : Nat} {js : List xO} {G : yGx} {σ σ1 : yPS} {S S1 S' : yS} {sc c c' w : Int} {dp dp' t : Nat} {b : Bool} {o : Option xRes} {B B1 B2 : yS → Option xRes → Prop} {κ κ1 : yKp}
theorem rPl_a {l : List yIe} {i n : Nat} (h : rPl S l) : rPl (sA S 53 i n) (l.set i ((l.getD i dIe).1, n, (l.getD i dIe).2.2.1, (l.getD i dIe).2.2.2)) := by
  refine yLs_set h (fun hlt => ?_) fun j y hj hy => ?_
  · have := yLs_D h dIe hlt
    show gA S 52 i = _ ∧ gA (sA S 53 i n) 53 i = _ ∧ gA S 54 i = _ ∧ gA S 55 i = _
    rw [gA_self, if_pos rfl]
    exact ⟨this.1, rfl, this.2.2.1, this.2.2.2⟩
  · show gA S 52 j = (y.1 : Int) ∧ gA (sA S 53 i n) 53 j = (y.2.1 : Int) ∧ gA S 54 j = (y.2.2.1 : Int) ∧ gA S 55 j = (y.2.2.2 : Int)
    rw [gA_self, if_neg hj]
    exact hy
theorem rPl_b {l : List yIe} {i n : Nat} (h : rPl S l) : rPl (sA S 54 i n) (l.set i ((l.getD i dIe).1, (l.getD i dIe).2.1, n, (l.getD i dIe).2.2.2)) := by
  refine yLs_set h (fun hlt => ?_) fun j y hj hy => ?_
  · have := yLs_D h dIe hlt
    show gA S 52 i = _ ∧ gA S 53 i = _ ∧ gA (sA S 54 i n) 54 i = _ ∧ gA S 55 i = _
    rw [gA_self, if_pos rfl]
    exact ⟨this.1, this.2.1, rfl, this.2.2.2⟩
  · show gA S 52 j = (y.1 : Int) ∧ gA S 53 j = (y.2.1 : Int) ∧ gA (sA S 54 i n) 54 j = (y.2.2.1 : Int) ∧ gA S 55 j = (y.2.2.2 : Int)
    rw [gA_self, if_neg hj]
    exact hy
theorem rS_a {V : yPV} {i n : Nat} (h : rS G sc c S t dp (.inr V)) : yFr yWQ S (sA S 53 i n) ∧ rS G sc c (sA S 53 i n) t dp (.inr (saP i n V)) := by
  have fr : yFr yWQ S (sA S 53 i n) := yFr_A rfl
  refine ⟨fr, rS_Q (κ := .inr V) (f := saP i n) h fr (fun e z => nomatch z) fun V' z v o => ?_⟩
  injection z with z
  subst z
  refine ⟨⟨rfl, rfl⟩, ⟨v.1, v.2.1, v.2.2.1, v.2.2.2.1, v.2.2.2.2.1, rPl_a v.2.2.2.2.2.1, v.2.2.2.2.2.2⟩, o.1, ?_, o.2.2⟩
  show (((zP V).set i _).length : Int) ≤ _
  rw [List.length_set]
  exact o.2.1
theorem rS_b {V : yPV} {i n : Nat} (h : rS G sc c S t dp (.inr V)) : yFr yWQ S (sA S 54 i n) ∧ rS G sc c (sA S 54 i n) t dp (.inr (sbP i n V)) := by
  have fr : yFr yWQ S (sA S 54 i n) := yFr_A rfl
  refine ⟨fr, rS_Q (κ := .inr V) (f := sbP i n) h fr (fun e z => nomatch z) fun V' z v o => ?_⟩
  injection z with z
  subst z
  refine ⟨⟨rfl, rfl⟩, ⟨v.1, v.2.1, v.2.2.1, v.2.2.2.1, v.2.2.2.2.1, rPl_b v.2.2.2.2.2.1, v.2.2.2.2.2.2⟩, o.1, ?_, o.2.2⟩
  show (((zP V).set i _).length : Int) ≤ _
  rw [List.length_set]
  exact o.2.1
theorem sStr_fld {j st : yPS → Nat} {g : yPS → yPS} (hg : sStr g) : sStr fun s => sfld G (j s) (st s) (g s) := by
  have one : ∀ j st : Nat, sStr (sfld G j st) := fun j st => sStr_if (C := fun s => skd G s = 49) (sStr_if (C := fun s => sisS (skd G (sfld1 G j s)) = true) (sStr_mp (sStr_co (f := snx) sStr_nx (sStr_mp (sStr_mp (sStr_co (sStr_num (hi := fun _ => 60)) sStr_nx))))) (sStr_mp (sStr_mp (sStr_co (sStr_num (hi := fun _ => 60)) sStr_nx)))) (sStr_mp sStr_id)
  refine ⟨fun p => ?_, fun t e => ?_⟩
  · show sfld G _ _ (g (.inl p)) = _
    rw [hg.1, (one _ _).1]
  · show (∃ p, sfld G _ _ (g (.inr (t, .inl e))) = _) ∨ ∃ t', sfld G _ _ (g (.inr (t, .inl e))) = _
    rcases hg.2 t e with ⟨p, h⟩ | ⟨t', h⟩
    · exact Or.inl ⟨p, by rw [h, (one _ _).1]⟩
    · rw [h]
      exact (one _ _).2 t' e
theorem sStr_pc : sStr (spc G dp) := sStr_if (C := fun s => skd G s = 23) (sStr_mp (sStr_mp (sStr_co (f := fun s => snum G 1 (swd s) s) (sStr_num (hi := swd)) sStr_nx))) (sStr_fld (g := fun s => smp _ (sex G 2 dp s)) (sStr_mp (f := fun s => sadI (if sty G 2 dp s = 1 then 31 else 32) 0 (sln (fun V => (zC V).length) s)) sStr_ex))
theorem sPr_fld (hG : gOk G) {j st : yPS → Nat} {g : yPS → yPS} (hg : sPr G g) : sPr G fun s => sfld G (j s) (st s) (g s) := by
  have n1 : ∀ j : Nat, ∀ t κ t1 κ1, t < gN G → skd G (.inr (t, κ)) = 49 → sfld1 G j (.inr (t, κ)) = .inr (t1, κ1) → t ≤ t1 ∧ t1 < gN G := fun j t κ t1 κ1 h z e => by
    obtain ⟨κ0, e⟩ := smp_t e
    have z : (gT G t).1 = 49 := z
    have := sPr_num hG (lo := 1) (hi := fun _ => 60) (t + 1) κ t1 κ0 (yTo_t hG.1 h (by omega)) e
    omega
  have one : ∀ j st : Nat, sPr G (sfld G j st) := fun j st t κ t1 κ1 h e => by
    unfold sfld at e
    split at e
    · rename_i z
      split at e
      · rename_i z2
        obtain ⟨κ0, e⟩ := smp_t e
        rcases hx : sfld1 G j (.inr (t, κ)) with p | ⟨t2, κ2⟩
        · rw [hx] at e
          nomatch e
        · obtain ⟨a1, a2⟩ := n1 j t κ t2 κ2 h z hx
          rw [hx] at e z2
          have e : snx (smp (skI j (skd G (.inr (t2, κ2)))) (.inr (t2, κ2))) = .inr (t1, κ0) := e
          rw [smp_k] at e
          have e : (Sum.inr (t2 + 1, smk (skI j (skd G (.inr (t2, κ2)))) κ2) : yPS) = .inr (t1, κ0) := e
          injection e with e
          injection e with e _
          have z3 : sisS (gT G t2).1 = true := z2
          unfold sisS at z3
          have z3 := of_decide_eq_true z3
          have := yTo_t hG.1 a2 (by omega)
          omega
      · obtain ⟨κ0, e⟩ := smp_t e
        exact n1 j t κ t1 κ0 h z e
    · obtain ⟨κ0, e⟩ := smp_t e
      injection e with e
      injection e with e _
      omega
  intro t κ t1 κ1 h e
  have e : sfld G (j (.inr (t, κ))) (st (.inr (t, κ))) (g (.inr (t, κ))) = .inr (t1, κ1) := e
  rcases hx : g (.inr (t, κ)) with p | ⟨t2, κ2⟩
  · have : sfld G (j (.inr (t, κ))) (st (.inr (t, κ))) (.inl p) = .inl p := (sStr_fld (G := G) (j := fun _ => j (.inr (t, κ))) (st := fun _ => st (.inr (t, κ))) sStr_id).1 p
    rw [hx, this] at e
    nomatch e
  · obtain ⟨a1, a2⟩ := hg t κ t2 κ2 h hx
    rw [hx] at e
    obtain ⟨b1, b2⟩ := one _ _ t2 κ2 t1 κ1 a2 e
    exact ⟨by omega, b2⟩
theorem sisP_64 {kd : Nat} (h : kd < 67) (hp : sisP kd = true) : kd ≤ 64 := by
  revert h hp
  revert kd
  decide
theorem spc_lt {t1 : Nat} (hG : gOk G) (ht : t < gN G) (h0 : sisP (gT G t).1 = true) (e : spc G dp (.inr (t, κ)) = .inr (t1, κ1)) : t < t1 ∧ t1 < gN G := by
  unfold spc at e
  split at e
  · rename_i z
    have z : (gT G t).1 = 23 := z
    have hN := yTo_t hG.1 ht (by omega)
    obtain ⟨κ0, e⟩ := smp_t e
    obtain ⟨κ0, e⟩ := smp_t e
    have := sPr_num hG (lo := 1) (hi := swd) (t + 1) κ t1 κ0 hN e
    omega
  · have e : sfld G _ _ (smp (sadI (if sty G 2 dp (.inr (t, κ)) = 1 then 31 else 32) 0 (sln (fun V => (zC V).length) (.inr (t, κ)))) (sex G 2 dp (.inr (t, κ)))) = .inr (t1, κ1) := e
    rcases hx : sex G 2 dp (.inr (t, κ)) with p | ⟨t2, κ2⟩
    · rw [hx] at e
      have : ∀ j st, sfld G j st (.inl p) = .inl p := fun j st => (sStr_fld (G := G) (j := fun _ => j) (st := fun _ => st) sStr_id).1 p
      have e2 : ∀ f : yPV → yPV, smp f (.inl p) = .inl p := fun _ => rfl
      rw [e2, this] at e
      nomatch e
    · obtain ⟨a1, a2⟩ := sex_lt hG ht hx
      rw [hx, smp_k] at e
      obtain ⟨b1, b2⟩ := sPr_fld hG (G := G) (j := fun _ => sln (fun V => (zI V).length) (.inr (t2, κ2))) (st := fun _ => sln (fun V => (zC V).length) (.inr (t, κ))) (sPr_id (G := G)) t2 _ t1 κ1 a2 e
      exact ⟨by omega, b2⟩
end YSBL
end YSB
