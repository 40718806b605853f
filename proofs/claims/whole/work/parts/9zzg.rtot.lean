/-! THE REFERENCE READS A PROGRAM: group names, totals -/
section YRY
def tt4 (G : yGx) (s : yPS) : yPS := if sisT (skd G s) = true then snx s else srf G s
def ttg (G : yGx) (kd ty p : Nat) (s : yPS) : yPS := sgd (fun _ => decide (¬ (kd = 6 ∧ ty = 1))) 3 p s
def tt6 (G : yGx) (s : yPS) : yPS := ttg G (skd G s) (sty G 1 0 (tt4 G s)) (spl G s) (sex G 1 0 (tt4 G s))
def tt7 (G : yGx) (s : yPS) : yPS := if skd G s = 12 then sscp G (snx s) else s
def tts (G : yGx) (s : yPS) (V : yPV) : Int := if skd G s = 12 then (if skd G (snx s) = 0 then -1 else sgr G V (svl G (snx s))) else -2
def tt8 (G : yGx) (v : Int64) (kd ty st : Nat) (s : yPS) : yPS := smp (fun V => zsT V (zT V ++ [(v, if kd = 7 then 0 else ty, st, kd, tts G s V)])) (tt7 G s)
def tt9 (G : yGx) (v : Int64) (s : yPS) : yPS := tt8 G v (skd G s) (sty G 1 0 (tt4 G s)) (sln (fun V => (zC V).length) (tt4 G s)) (tt6 G s)
section YRYL
variable {q : yQ} {d : Nat} {js : List xO} {G : yGx} {σ σ1 : yPS} {S S1 S' : yS} {sc c c' w : Int} {dp dp' t : Nat} {b : Bool} {o : Option xRes} {B B1 B2 : yS → Option xRes → Prop} {κ κ1 : yKp}
theorem stot_9 : stot G σ = tt9 G (svl G (stot1 G σ)) (sxp G 50 (snew G (stot1 G σ))) := rfl
theorem sStr_t7 : sStr (tt7 G) := sStr_if (C := fun s => skd G s = 12) (sStr_co sStr_sc sStr_nx) sStr_id
theorem sStr_t8 {v : Int64} {kd ty st : Nat} : sStr (tt8 G v kd ty st) := sStr_mp sStr_t7
theorem sStr_t6 : sStr (tt6 G) := sStr_gd (n := fun _ => 3) (sStr_co sStr_ex (sStr_if (C := fun s => sisT (skd G s) = true) sStr_nx sStr_rf))
theorem sStr_t9 {v : Int64} : sStr (tt9 G v) := by
  refine ⟨fun p => ?_, fun t e => ?_⟩
  · show tt8 G v _ _ _ (tt6 G (.inl p)) = _
    rw [sStr_t6.1, sStr_t8.1]
  · show (∃ p, tt8 G v _ _ _ (tt6 G (.inr (t, .inl e))) = _) ∨ ∃ t', tt8 G v _ _ _ (tt6 G (.inr (t, .inl e))) = _
    rcases sStr_t6.2 t e with ⟨p, h⟩ | ⟨t', h⟩
    · exact Or.inl ⟨p, by rw [h, sStr_t8.1]⟩
    · rw [h]
      exact sStr_t8.2 t' e
/-- a group by its column's name -/
theorem q245l {x0 : Int} {V : yPV} (hn : (zG V).Nodup) (hg : rGs S (zG V)) (h8 : ∀ x, x ∈ zG V → x < 8) (hl : (zG V).length ≤ 3) (hx : -1 ≤ x0 ∧ x0 < 8) {Z : Int → Option xRes} (hZ : ∀ x1 : Int, Y q (d + 1) 245 40 [vr 129, vi x0, vi x1, vi ((zG V).length : Nat)] [] S js = Z x1) : ∀ (n i : Nat) (x1 : Int), i + n = (zG V).length → (x1 = -1 ∧ (∀ k, k < i → (((zG V).getD k 0 : Nat) : Int) ≠ x0) ∨ ∃ k, k < i ∧ x1 = (k : Nat) ∧ (((zG V).getD k 0 : Nat) : Int) = x0) → Y q (d + 1) 245 40 [vr 129, vi x0, vi x1, vi i] [] S js = Z (if x1 = -1 then yfg (fun i => (((zG V).getD i 0 : Nat) : Int)) x0 n i else x1) := by
  intro n
  induction n with
  | zero =>
    intro i x1 hi hx1
    have e : i = (zG V).length := by omega
    rw [e, hZ]
    rcases hx1 with ⟨h, _⟩ | ⟨k, h1, h2, _⟩
    · rw [if_pos h, h]
      rfl
    · rw [if_neg (by omega)]
  | succ n ih =>
    intro i x1 hi hx1
    have e57 : yr (gI S 57) = (zG V).length := by rw [hg.1]; exact yr_eq (by omega) (by omega)
    have ei : yr (i : Int) = i := yr_eq (by omega) (by omega)
    have ex : yr x0 = x0 := yr_eq (by omega) (by omega)
    have gi : gA S 50 i = (((zG V).getD i 0 : Nat) : Int) := yLs_D hg 0 (j := i) (by omega)
    have g8 := h8 ((zG V).getD i 0) (by
      rw [List.getD_eq_getElem?_getD, List.getElem?_eq_getElem (show i < (zG V).length by omega)]
      exact List.getElem_mem _)
    have eg : yr (gA S 50 i) = (((zG V).getD i 0 : Nat) : Int) := by rw [gi]; exact yr_eq (by omega) (by omega)
    rw [w245_40, e57, ei, if_pos (by omega), if_pos (by omega), Int.toNat_natCast, eg, ex]
    by_cases z : (((zG V).getD i 0 : Nat) : Int) = x0
    · have nx : x1 = -1 := by
        rcases hx1 with ⟨h, _⟩ | ⟨k, h1, h2, h3⟩
        · exact h
        · exfalso
          have hk : k < (zG V).length := by omega
          have hi2 : i < (zG V).length := by omega
          have e1 : (zG V)[k] = (zG V)[i] := by
            rw [List.getD_eq_getElem?_getD, List.getElem?_eq_getElem hk] at h3
            rw [List.getD_eq_getElem?_getD, List.getElem?_eq_getElem hi2] at z
            have h3 : (((zG V)[k] : Nat) : Int) = x0 := h3
            have z : (((zG V)[i] : Nat) : Int) = x0 := z
            omega
          have := List.pairwise_iff_getElem.mp hn k i hk hi2 h1
          exact this e1
      have := ih (i + 1) (i : Int) (by omega) (Or.inr ⟨i, by omega, rfl, z⟩)
      have this : Y q (d + 1) 245 40 [vr 129, vi x0, vi (i : Int), vi ((i : Int) + 1)] [] S js = _ := this
      rw [if_pos z, this, if_neg (by omega), if_pos nx]
      unfold yfg
      rw [if_pos z]
    · have := ih (i + 1) x1 (by omega) (by
        rcases hx1 with ⟨h, h2⟩ | ⟨k, h1, h2, h3⟩
        · refine Or.inl ⟨h, fun k hk => ?_⟩
          by_cases e : k = i
          · rw [e]
            exact z
          · exact h2 k (by omega)
        · exact Or.inr ⟨k, by omega, h2, h3⟩)
      have this : Y q (d + 1) 245 40 [vr 129, vi x0, vi x1, vi ((i : Int) + 1)] [] S js = _ := this
      rw [if_neg z, this]
      have ef : yfg (fun i => (((zG V).getD i 0 : Nat) : Int)) x0 (n + 1) i = yfg (fun i => (((zG V).getD i 0 : Nat) : Int)) x0 n (i + 1) := by
        show (if _ then _ else _) = _
        rw [if_neg z]
      rw [ef]
theorem q245 (hG : gOk G) (h : rS G sc c S t dp κ) : rO q js G sc (c - 2) S dp (sbk κ) (Y q (d + 2) 245 0 [vr 129, vu, vu, vu] [] S js) (sgn G (.inr (t, κ))) fun S' o => ∃ g : Int, o = yret q (vi g) S' js ∧ (-1 ≤ g ∧ g < 4) ∧ ∀ V, κ = .inr V → g = sgr G V (svl G (.inr (t, κ))) ∧ 0 ≤ g := by
  obtain ⟨g1, g2, g3, g4, g5, g6, g7, g8, g9, g10, _⟩ := rS_t hG h
  have e44 : yr (gI S 44) = t := by rw [g1]; exact yr_eq (by omega) (by omega)
  have ok : 0 ≤ (t : Int) ∧ (t : Int) < 2001 := by omega
  have n1 : ¬ yr 1 = 0 := by decide
  have em : yr (-1) = -1 := rfl
  have i1 : Y q (d + 1) 221 0 [vr 129, vi 200] [] S js = _ := q221 (kd := 62) hG h (by omega)
  rw [w245_0, i1, YB_ret, w245_7, e44]
  unfold sgn
  by_cases z : skd G (.inr (t, κ)) = 62
  · have hw := rS_w hG h (Or.inl z)
    have hcx := h.2.1
    have hcc := hG.2.2.2.2.2.1
    have e2 : yfind (gB S 11) (gT G t).2.2 (gI S 41).toNat 0 = sfc G (gT G t).2.2 := by
      unfold sfc
      rw [hcx.1, Int.toNat_natCast]
      exact yfind_cg fun k _ hk => (hcx.2 k (by omega)).1
    have hr := sfc_r hG (gT G t).2.2
    obtain ⟨x0, hx0⟩ : ∃ x0, x0 = sfc G (gT G t).2.2 := ⟨_, rfl⟩
    have ex : yr x0 = x0 := by rw [hx0]; exact yr_eq (by omega) (by omega)
    have e3 : sxp G 62 (.inr (t, κ)) = snx (.inr (t, κ)) := if_pos z
    rw [yb, if_pos z, if_neg n1, if_pos ok, Int.toNat_natCast, hw, r196 (by have := hcx.1; omega), YB_ret, e2, w245_35, ← hx0]
    -- what is found
    obtain ⟨x1, i, hx1, hloop⟩ : ∃ (x1 i : Int), (-1 ≤ x1 ∧ x1 < 4 ∧ ∀ V, κ = .inr V → x1 = sfg V x0) ∧ Y q (d + 2) 245 40 [vr 129, vi x0, vi (-1), vi 0] [] S js = YB q (Y q (d + 1) 219 0 [vr 129, vi (yb (¬ x0 = -1 ∧ ¬ x1 = -1)), vi 2, vi ((gT G t).2.1 : Nat)] [] S js) (d + 2) 245 92 [vr 129, vi x0, vi x1, vi i] [] := by
      have tail : ∀ (x1 i : Int), -1 ≤ x1 → x1 < 4 → ¬ yr i < yr (gI S 57) → Y q (d + 2) 245 40 [vr 129, vi x0, vi x1, vi i] [] S js = YB q (Y q (d + 1) 219 0 [vr 129, vi (yb (¬ x0 = -1 ∧ ¬ x1 = -1)), vi 2, vi ((gT G t).2.1 : Nat)] [] S js) (d + 2) 245 92 [vr 129, vi x0, vi x1, vi i] [] := by
        intro x1 i h1 h2 h3
        have ex1 : yr x1 = x1 := yr_eq (by omega) (by omega)
        rw [w245_40, if_neg h3, ex, em, e44, if_pos ok, if_pos ok, ex1, Int.toNat_natCast, g8]
        by_cases z1 : x0 = -1
        · rw [if_pos z1, yb, if_neg (fun y => y.1 z1)]
        · rw [if_neg z1]
          by_cases z2 : x1 = -1
          · rw [if_pos z2, yb, if_neg (fun y => y.2 z2)]
          · rw [if_neg z2, yb, if_pos ⟨z1, z2⟩]
      rcases κ with e | V
      · have h57 : gI S 57 = 0 := h.2.2.2.2.2.1
        exact ⟨-1, 0, ⟨by omega, by omega, fun V z => (nomatch z)⟩, tail (-1) 0 (by omega) (by omega) (by rw [h57]; omega)⟩
      · obtain ⟨vv, o⟩ := h.2.2
        have gs := vv.2.2.1
        have l3 := o.2.2.1.2.1
        have e57 : yr (gI S 57) = (zG V).length := by rw [gs.1]; exact yr_eq (by omega) (by omega)
        have rg := yfg_rng (g := fun i => (((zG V).getD i 0 : Nat) : Int)) (c := x0) (zG V).length 0
        have lp := q245l (q := q) (d := d + 1) (js := js) (S := S) (x0 := x0) o.2.2.2.1 gs o.2.2.2.2.2.2.2.2.1 l3 (by rw [hx0]; omega) (Z := fun x1 => Y q (d + 2) 245 40 [vr 129, vi x0, vi x1, vi ((zG V).length : Nat)] [] S js) (fun _ => rfl) (zG V).length 0 (-1) (by omega) (Or.inl ⟨rfl, fun k hk => by omega⟩)
        rw [if_pos rfl] at lp
        refine ⟨sfg V x0, ((zG V).length : Nat), ⟨?_, ?_, fun V' z => by injection z with z; rw [z]⟩, lp.trans (tail _ _ ?_ ?_ (by rw [e57, yr_eq (by omega) (by omega)]; omega))⟩
        · unfold sfg
          omega
        · unfold sfg
          omega
        · omega
        · omega
    rw [hloop, e3, sgd_nx]
    obtain ⟨x1a, x1b, x1c⟩ := hx1
    have gr : ∀ V, κ = .inr V → (0 ≤ sgr G V (gT G t).2.2 ↔ (¬ x0 = -1 ∧ ¬ x1 = -1)) ∧ ((¬ x0 = -1 ∧ ¬ x1 = -1) → sgr G V (gT G t).2.2 = x1) := fun V e => by
      unfold sgr
      rw [← hx0, ← x1c V e]
      by_cases y : x0 < 0
      · rw [if_pos y]
        omega
      · rw [if_neg y]
        omega
    refine q_gn (f := fun V => decide (0 ≤ sgr G V (svl G (.inr (t, κ))))) (n := 2) (p := (gT G t).2.1) (C := ¬ x0 = -1 ∧ ¬ x1 = -1) hG h (by have z : (gT G t).1 = 62 := z; omega) (fun V e => by rw [decide_eq_true_iff]; exact (gr V e).1) (fun V e => rfl) (fun a b S => t245 ..) (fun S' => by rw [YB_retv, w245_95]) (fun S' => by rw [YB_retv, w245_99]) fun hf S' => ⟨x1, rfl, ⟨x1a, x1b⟩, fun V e => ?_⟩
    have hc := (gr V e).1.mp (of_decide_eq_true (hf V e))
    exact ⟨((gr V e).2 hc).symm, by omega⟩
  · rw [yb, if_neg z, if_pos yr_0, sxp_no z]
    exact rO_thr (pc := 14) hG h (fun a b => a245_14 ..) (fun o js' => YB_ret ..) _ _
/-- one total more, in the second pass -/
theorem q244f {v : Int64} {kd ty st : Nat} {x0 x3 per scp : Int} {f : yPV → yPV} (h : rS G sc c S t dp κ) (hkd : kd < 300) (hty : ty ≤ 1) (hV : ∀ V, κ = .inr V → (zT V).length < 8 ∧ per = rsc scp ∧ f V = zsT V (zT V ++ [(v, if kd = 7 then 0 else ty, st, kd, scp)])) : rO q js G sc c S dp (sbk κ) (Y q d 244 154 [vr 129, vi x0, vj v, vu, vi (kd : Int), vi x3, vi (st : Int), vi (ty : Int), vi per] [] S js) (smp f (.inr (t, κ))) (rVo q js) := by
  have h45 := rS_45 h
  have n1 : ¬ yr 1 = 0 := by decide
  have ek : yr (kd : Int) = kd := yr_eq (by omega) (by omega)
  have e7 : yr 7 = 7 := rfl
  rw [w244_154, smp_k, ← sbk_k (κ := κ) (f := f)]
  rcases κ with e | V
  · have h45 : gI S 45 = 0 := h45
    rw [h45, if_pos yr_0]
    exact rO_ok (κ := .inl e) h rfl
  · have h45 : gI S 45 = 1 := h45
    obtain ⟨lt, hper, hf⟩ := hV V rfl
    have os := h.2.2.1.2.2.2.2.1
    have e52 : yr (gI S 52) = (zT V).length := by rw [os.1]; exact yr_eq (by omega) (by omega)
    have ok8 : 0 ≤ ((zT V).length : Int) ∧ ((zT V).length : Int) < 8 := by omega
    have key : ∀ tz : Nat, tz ≤ 1 → f V = zsT V (zT V ++ [(v, tz, st, kd, scp)]) → rO q js G sc c S dp (sbk (smk f (.inr V))) (yretv q (sI (sA (sA (sA (sA (sB S 15 (zT V).length v) 44 (zT V).length tz) 45 (zT V).length kd) 46 (zT V).length st) 47 (zT V).length per) 52 (gI S 52 + 1)) js) (.inr (t, smk f (.inr V))) (rVo q js) := by
      intro tz htz hf
      have fr : yFr yWQ S (sI (sA (sA (sA (sA (sB S 15 (zT V).length v) 44 (zT V).length tz) 45 (zT V).length kd) 46 (zT V).length st) 47 (zT V).length per) 52 (gI S 52 + 1)) := yFr_tr (yFr_B rfl) (yFr_tr (yFr_A rfl) (yFr_tr (yFr_A rfl) (yFr_tr (yFr_A rfl) (yFr_tr (yFr_A rfl) (yFr_I rfl)))))
      refine rO_tr (yWR_q fr) (rO_ok (rS_Q h fr (fun e z => (nomatch z)) fun V' z' v' o => ?_) rfl)
      injection z' with z'
      subst z'
      rw [hf]
      refine ⟨⟨rfl, rfl⟩, ⟨v'.1, v'.2.1, v'.2.2.1, v'.2.2.2.1, ?_, v'.2.2.2.2.2⟩, o.1, o.2.1, ⟨o.2.2.1.1, o.2.2.1.2.1, o.2.2.1.2.2.1, ?_⟩, o.2.2.2.1, o.2.2.2.2.1, fun y hy => ?_, o.2.2.2.2.2.2⟩
      · refine yLs_app os (by rw [gI_self, os.1]; rfl) ?_ fun j y hj hy => ?_
        · show gB (sB S 15 (zT V).length v) 15 (zT V).length = v ∧ gA (sA (sB S 15 (zT V).length v) 44 (zT V).length tz) 44 (zT V).length = (tz : Int) ∧ gA (sA (sA (sA (sB S 15 (zT V).length v) 44 (zT V).length tz) 45 (zT V).length kd) 46 (zT V).length st) 46 (zT V).length = (st : Int) ∧ gA (sA (sA (sB S 15 (zT V).length v) 44 (zT V).length tz) 45 (zT V).length kd) 45 (zT V).length = (kd : Int) ∧ gA (sA (sA (sA (sA (sB S 15 (zT V).length v) 44 (zT V).length tz) 45 (zT V).length kd) 46 (zT V).length st) 47 (zT V).length per) 47 (zT V).length = rsc scp
          rw [gB_self, gA_self, gA_self, gA_self, gA_self, if_pos rfl, if_pos rfl, if_pos rfl, if_pos rfl, if_pos rfl]
          exact ⟨rfl, rfl, rfl, rfl, hper⟩
        · show gB (sB S 15 (zT V).length v) 15 j = y.1 ∧ gA (sA (sB S 15 (zT V).length v) 44 (zT V).length tz) 44 j = (y.2.1 : Int) ∧ gA (sA (sA (sA (sB S 15 (zT V).length v) 44 (zT V).length tz) 45 (zT V).length kd) 46 (zT V).length st) 46 j = (y.2.2.1 : Int) ∧ gA (sA (sA (sB S 15 (zT V).length v) 44 (zT V).length tz) 45 (zT V).length kd) 45 j = (y.2.2.2.1 : Int) ∧ gA (sA (sA (sA (sA (sB S 15 (zT V).length v) 44 (zT V).length tz) 45 (zT V).length kd) 46 (zT V).length st) 47 (zT V).length per) 47 j = rsc y.2.2.2.2
          rw [gB_self, gA_self, gA_self, gA_self, gA_self, if_neg (by omega), if_neg (by omega), if_neg (by omega), if_neg (by omega), if_neg (by omega)]
          exact hy
      · show (zT V ++ [_]).length ≤ 8
        rw [List.length_append]
        show _ + 1 ≤ 8
        omega
      · have hy : y ∈ zT V ++ [(v, tz, st, kd, scp)] := hy
        rcases List.mem_append.mp hy with hy | hy
        · exact o.2.2.2.2.2.1 y hy
        · rw [List.mem_singleton.mp hy]
          exact htz
    rw [h45, if_neg n1, e52, if_pos ok8, ek, e7, if_pos ok8, if_pos ok8, if_pos ok8, if_pos ok8, if_pos ok8, if_pos ok8, if_pos ok8, if_pos ok8, Int.toNat_natCast]
    by_cases z : kd = 7
    · rw [if_pos (by omega)]
      exact key 0 (by omega) (by rw [hf, if_pos z])
    · rw [if_neg (by omega)]
      exact key ty hty (by rw [hf, if_neg z])
theorem ykR_t : ∀ kd : Nat, kd < 67 → ((6 : Int) ≤ ykR kd ∧ ykR kd ≤ 11 ↔ sisT kd = true) ∧ (sisT kd = true → ykR kd = kd ∧ kd ≤ 11) := by decide
theorem q244 (hG : gOk G) (h : rS G 0 c S t 0 κ) (h0 : (gT G t).1 = 5) (hd : 100 ≤ d) : rO q js G 0 (c - 2) S 0 (sbk κ) (Y q (d + 4) 216 0 [vr 129, vu, vu, vu, vu, vu, vu] [] S js) (stot G (.inr (t, κ))) (rVo q js) := by
  obtain ⟨g1, g2, g3, g4, g5, g6, g7, g8, g9, g10, _⟩ := rS_t hG h
  have e44 : yr (gI S 44) = t := by rw [g1]; exact yr_eq (by omega) (by omega)
  have ok : 0 ≤ (t : Int) ∧ (t : Int) < 2001 := by omega
  have y0 : ¬ yr (ykR 5) = 0 := by decide
  have y1 : ¬ yr (ykR 5) = yr 1 := by decide
  have y3 : ¬ yr (ykR 5) = yr 3 := by decide
  have y4 : ¬ yr (ykR 5) = yr 4 := by decide
  have n1 : ¬ yr 1 = 0 := by decide
  have e8 : yr 8 = 8 := rfl
  obtain ⟨pl, hpl⟩ : ∃ pl, pl = (gT G t).2.1 := ⟨_, rfl⟩
  obtain ⟨S1, e1, f1, h1⟩ := q217 (q := q) (d := d + 2) (js := js) hG h (by omega)
  have st : Y q (d + 4) 216 0 [vr 129, vu, vu, vu, vu, vu, vu] [] S js = YB q (Y q (d + 3) 244 0 [vr 129, vi pl, vu, vu, vu, vu, vu, vu, vu] [] S1 js) (d + 4) 216 382 [vr 129, vi (ykR 5), vi pl, vu, vu, vu, vu] [] := by
    rw [w216_0, e44, if_pos ok, if_pos ok, Int.toNat_natCast, g7, g8, h0, e1, YB_retv, w216_24, if_neg y0, if_neg y1, if_neg y3, if_neg y4, hpl]
  rw [st]
  refine rO_tr f1 (rO_map (B1 := rVo q js) (C := fun o => YB q o (d + 4) 216 382 [vr 129, vi (ykR 5), vi pl, vu, vu, vu, vu] []) (fun a b S => t216 ..) (fun S' o' e => by
    have e : o' = yretv q S' js := e
    show YB q o' _ _ _ _ _ = _
    rw [e, YB_retv, w216_385]) ?_)
  have sp : stot1 G (.inr (t, κ)) = sgd (fun V => decide ((zT V).length < 8)) 4 pl (.inr (t + 1, κ)) := by
    unfold stot1 shd
    rw [← sgd_nx, hpl]
    rfl
  have x0 : ∀ V, κ = .inr V → gI S1 52 = ((zT V).length : Nat) ∧ (zT V).length ≤ 8 := fun V e => by
    subst e
    exact ⟨h1.2.2.1.2.2.2.2.1.1, h1.2.2.2.2.2.1.2.2.2⟩
  have st2 : ∃ x : Int, Y q (d + 3) 244 0 [vr 129, vi pl, vu, vu, vu, vu, vu, vu, vu] [] S1 js = YB q (Y q (d + 2) 219 0 [vr 129, vi x, vi 4, vi pl] [] S1 js) (d + 3) 244 17 [vr 129, vi pl, vu, vu, vu, vu, vu, vu, vu] [] ∧ x = yb (yr (gI S1 52) < yr 8) := by
    rw [w244_0]
    by_cases z : yr (gI S1 52) < yr 8
    · rw [if_pos z]
      exact ⟨1, rfl, by rw [yb, if_pos z]⟩
    · rw [if_neg z]
      exact ⟨0, rfl, by rw [yb, if_neg z]⟩
  obtain ⟨x, st2, hx⟩ := st2
  rw [st2, stot_9, sp]
  have h219 : rO q js G 0 (c - 2) S1 0 (sbk κ) (Y q (d + 2) 219 0 [vr 129, vi x, vi 4, vi pl] [] S1 js) (sgd (fun V => decide ((zT V).length < 8)) 4 pl (.inr (t + 1, κ))) (rVo q js) := q219 (n := 4) (d := d + 1) h1 (C := yr (gI S1 52) < yr 8) (fun V e => by
    obtain ⟨x1, x2⟩ := x0 V e
    rw [decide_eq_true_iff, x1, yr_eq (by omega) (by omega), e8]
    omega) (fun V e => hx)
  refine rO_bind (F := fun s => tt9 G (svl G s) (sxp G 50 (snew G s))) (C := fun o => YB q o (d + 3) 244 17 [vr 129, vi pl, vu, vu, vu, vu, vu, vu, vu] []) (fun a b S => t244 ..) ?_ h219 fun S2 t2 κ2 o2 b1 b2 f2 h2 hB2 => ?_
  · have hs := sStr_co (f := sxp G 50) sStr_xp (sStr_new (G := G))
    refine ⟨fun p => ?_, fun t e => ?_⟩
    · show tt9 G _ (sxp G 50 (snew G (.inl p))) = _
      have := hs.1 p
      have this : sxp G 50 (snew G (.inl p)) = .inl p := this
      rw [this, sStr_t9.1]
    · show (∃ p, tt9 G _ (sxp G 50 (snew G (.inr (t, .inl e)))) = _) ∨ ∃ t', tt9 G _ (sxp G 50 (snew G (.inr (t, .inl e)))) = _
      rcases hs.2 t e with ⟨p, h⟩ | ⟨t', h⟩
      · have h : sxp G 50 (snew G (.inr (t, .inl e))) = .inl p := h
        exact Or.inl ⟨p, by rw [h, sStr_t9.1]⟩
      · have h : sxp G 50 (snew G (.inr (t, .inl e))) = .inr (t', .inl e) := h
        rw [h]
        exact sStr_t9.2 t' e
  obtain ⟨e3, e4, e5⟩ := sgd_k b1 b2
  subst e3 e4
  have hB2 : o2 = yretv q S2 js := hB2
  obtain ⟨v, hv⟩ : ∃ v, v = svl G (.inr (t + 1, κ2)) := ⟨_, rfl⟩
  show rO q js G 0 (c - 2) S2 0 (sbk κ2) (YB q o2 (d + 3) 244 17 [vr 129, vi pl, vu, vu, vu, vu, vu, vu, vu] []) (tt9 G (svl G (.inr (t + 1, κ2))) (sxp G 50 (snew G (.inr (t + 1, κ2))))) (rVo q js)
  rw [hB2, YB_retv, w244_20, ← hv]
  -- the name
  refine rO_bind (F := fun s => tt9 G v (sxp G 50 s)) (C := fun o => YB q o (d + 3) 244 21 [vr 129, vi pl, vu, vu, vu, vu, vu, vu, vu] []) (fun a b S => t244 ..) (sStr_co (f := tt9 G v) sStr_t9 sStr_xp) (rO_c (c' := c - 2) (by omega) (q223 (d := d) hG h2) hG) fun S4 t4 κ4 o4 b3 b4 f4 h4 hB4 => ?_
  obtain ⟨_, e6, _⟩ := sgx_k b3 b4
  subst e6
  have hB4 : o4 = yret q (vj v) S4 js := by rw [hv]; exact hB4
  show rO q js G 0 (c - 2) S4 0 (sbk κ4) (YB q o4 (d + 3) 244 21 [vr 129, vi pl, vu, vu, vu, vu, vu, vu, vu] []) (tt9 G v (sxp G 50 (.inr (t4, κ4)))) (rVo q js)
  have q50 : rO q js G 0 (c - 2) S4 0 (sbk κ4) (Y q (d + 2) 225 0 [vr 129, vi 104] [] S4 js) (sxp G 50 (.inr (t4, κ4))) (rVo q js) := rO_c (by omega) (q225 (d := d) (kd := 50) hG h4 (by omega)) hG
  rw [hB4, YB_ret, w244_24]
  refine rO_bind (F := tt9 G v) (C := fun o => YB q o (d + 3) 244 28 [vr 129, vi pl, vj v, vu, vu, vu, vu, vu, vu] []) (fun a b S => t244 ..) sStr_t9 q50 fun S5 t5 κ5 o5 b5 b6 f5 h5 hB5 => ?_
  obtain ⟨_, e9⟩ := sxp_k b5
  subst e9
  have hB5 : o5 = yretv q S5 js := hB5
  show rO q js G 0 (c - 2) S5 0 (sbk κ5) (YB q o5 (d + 3) 244 28 [vr 129, vi pl, vj v, vu, vu, vu, vu, vu, vu] []) (tt9 G v (.inr (t5, κ5))) (rVo q js)
  obtain ⟨a1, a2, a3, _, _, _, a7, a8, a9, _, a11⟩ := rS_t hG h5
  have e55 : yr (gI S5 44) = t5 := by rw [a1]; exact yr_eq (by omega) (by omega)
  have ok5 : 0 ≤ (t5 : Int) ∧ (t5 : Int) < 2001 := by omega
  have i5 : Y q (d + 2) 191 0 [vj (yi2l (gA S5 39 t5)), vu, vj 6, vu, vj 11, vu] [] S5 js = yret q (vi (yb ((6 : Int) ≤ ykR (gT G t5).1 ∧ ykR (gT G t5).1 ≤ 11))) S5 js := q191 (lo := 6) (hi := 11) hG h5 (by decide) (by decide) (by omega) (by omega)
  obtain ⟨kt1, kt2⟩ := ykR_t _ a9
  rw [hB5, YB_retv, w244_31, e55, if_pos ok5, Int.toNat_natCast, i5, YB_ret, w244_50, e55, if_pos ok5, if_pos ok5, Int.toNat_natCast, a7, a8]
  by_cases zt : sisT (gT G t5).1 = true
  · have yt := kt1.mpr zt
    obtain ⟨ek, ek2⟩ := kt2 zt
    obtain ⟨S6, c1, c2, c3⟩ := q217 (q := q) (d := d + 1) (js := js) hG h5 (by omega)
    have s4 : tt4 G (.inr (t5, κ5)) = .inr (t5 + 1, κ5) := if_pos zt
    have k139 : gK S6 2 = 139 := (rS_t hG c3).2.2.2.2.2.2.2.2.2.2
    obtain ⟨kd, hkd⟩ : ∃ kd, kd = (gT G t5).1 := ⟨_, rfl⟩
    obtain ⟨p5, hp5⟩ : ∃ p5, p5 = (gT G t5).2.1 := ⟨_, rfl⟩
    obtain ⟨stt, hst⟩ : ∃ st, st = sln (fun V => (zC V).length) (.inr (t5 + 1, κ5)) := ⟨_, rfl⟩
    obtain ⟨ty, hty⟩ : ∃ ty, ty = sty G 1 0 (.inr (t5 + 1, κ5)) := ⟨_, rfl⟩
    have s9 : tt9 G v (.inr (t5, κ5)) = tt8 G v kd ty stt (ttg G kd ty p5 (sex G 1 0 (.inr (t5 + 1, κ5)))) := by
      unfold tt9 tt6
      rw [s4, ← hst, ← hty]
      show tt8 G v (gT G t5).1 ty stt (ttg G (gT G t5).1 ty (gT G t5).2.1 _) = _
      rw [← hkd, ← hp5]
    rw [yb, if_pos yt, if_neg n1, c1, YB_retv, w244_84, if_pos k139, w244_88, rS_ln c3, ← hst, s9, ek, ← hkd, ← hp5]
    rw [← hkd] at ek2
    -- the expression
    refine rO_tr c2 (rO_bind (F := fun s => tt8 G v kd ty stt (ttg G kd ty p5 s)) (C := fun o => YB q o (d + 3) 244 94 [vr 129, vi pl, vj v, vu, vi (kd : Int), vi p5, vi (stt : Int), vu, vu] []) (fun a b S => t244 ..) (sStr_co (f := tt8 G v kd ty stt) sStr_t8 (sStr_gd (n := fun _ => 3) (p := fun _ => p5) sStr_id)) (rO_c (c' := c - 2) (by omega) (q226 (d := d + 1) hG c3 (Or.inl ⟨rfl, rfl⟩) (by omega)) hG) fun S7 t7 κ7 o7 b7 b8 f7 h7 hB7 => ?_)
    obtain ⟨r, hr1, hr2, hr3⟩ := hB7
    obtain ⟨k1, k2⟩ := sex_k b7 b8
    show rO q js G 0 (c - 2) S7 0 (sbk κ5) (YB q o7 (d + 3) 244 94 [vr 129, vi pl, vj v, vu, vi (kd : Int), vi p5, vi (stt : Int), vu, vu] []) (tt8 G v kd ty stt (ttg G kd ty p5 (.inr (t7, κ7)))) (rVo q js)
    have hr3 : ∀ V, κ7 = .inr V → r = ty ∧ (zT V).length < 8 := fun V z => by
      obtain ⟨V0, x, z1, z2, z3⟩ := k2 V z
      refine ⟨by rw [hr3 V0 z1, hty], ?_⟩
      rw [z2]
      exact of_decide_eq_true (e5 V0 z1)
    have ekd : yr (kd : Int) = kd := yr_eq (by omega) (by omega)
    have e6 : yr 6 = 6 := rfl
    have er : yr (r : Int) = r := yr_eq (by omega) (by omega)
    have st3 : ∃ x : Int, Y q (d + 3) 244 97 [vr 129, vi pl, vj v, vu, vi (kd : Int), vi p5, vi (stt : Int), vu, vu] [vi (r : Int)] S7 js = YB q (Y q (d + 2) 219 0 [vr 129, vi x, vi 3, vi p5] [] S7 js) (d + 3) 244 120 [vr 129, vi pl, vj v, vu, vi (kd : Int), vi p5, vi (stt : Int), vi (r : Int), vu] [] ∧ x = yb (¬ (kd = 6 ∧ r = 1)) := by
      rw [w244_97, ekd, e6, er]
      by_cases z : kd = 6
      · rw [if_pos (by omega)]
        by_cases z2 : r = 0
        · rw [if_pos (by omega)]
          exact ⟨1, rfl, by rw [yb, if_pos (by omega)]⟩
        · rw [if_neg (by omega)]
          exact ⟨0, rfl, by rw [yb, if_neg (by omega)]⟩
      · rw [if_neg (by omega)]
        exact ⟨1, rfl, by rw [yb, if_pos (by omega)]⟩
    obtain ⟨x3, st3, hx3⟩ := st3
    have h219b : rO q js G 0 (c - 2) S7 0 (sbk κ7) (Y q (d + 2) 219 0 [vr 129, vi x3, vi 3, vi p5] [] S7 js) (ttg G kd ty p5 (.inr (t7, κ7))) (rVo q js) := q219 (n := 3) (d := d + 1) h7 (C := ¬ (kd = 6 ∧ r = 1)) (fun V e => by rw [decide_eq_true_iff, (hr3 V e).1]) (fun V e => hx3)
    rw [b8, hr1, YB_ret, st3]
    refine rO_bind (F := tt8 G v kd ty stt) (C := fun o => YB q o (d + 3) 244 120 [vr 129, vi pl, vj v, vu, vi (kd : Int), vi p5, vi (stt : Int), vi (r : Int), vu] []) (fun a b S => t244 ..) sStr_t8 h219b fun S8 t8 κ8 o8 b9 b10 f8 h8 hB8 => ?_
    obtain ⟨q1, q2, q3⟩ := sgd_k b9 b10
    subst q1 q2
    have hB8 : o8 = yretv q S8 js := hB8
    have i8 : Y q (d + 2) 221 0 [vr 129, vi 12] [] S8 js = _ := q221 (kd := 12) hG h8 (by omega)
    have hty1 : ∀ V, κ8 = .inr V → ty = r := fun V z => (hr3 V z).1.symm
    -- what is put down at last
    have fin : ∀ (S9 : yS) (t9 : Nat) (per : Int) (sv : yPV → Int), rS G 0 (c - 2) S9 t9 0 κ8 → (∀ V, κ8 = .inr V → per = rsc (sv V)) → rO q js G 0 (c - 2) S9 0 (sbk κ8) (Y q (d + 3) 244 154 [vr 129, vi pl, vj v, vu, vi (kd : Int), vi p5, vi (stt : Int), vi (r : Int), vi per] [] S9 js) (smp (fun V => zsT V (zT V ++ [(v, if kd = 7 then 0 else ty, stt, kd, sv V)])) (.inr (t9, κ8))) (rVo q js) := by
      intro S9 t9 per sv hS hp
      rcases κ8 with e | V
      · exact q244f (f := fun V => zsT V (zT V ++ [(v, if kd = 7 then 0 else ty, stt, kd, sv V)])) (scp := 0) hS (by omega) hr2 (fun V z => (nomatch z))
      · refine q244f (scp := sv V) hS (by omega) hr2 (fun V' z => ?_)
        injection z with z
        subst z
        exact ⟨(hr3 V rfl).2, hp V rfl, by rw [hty1 V rfl]⟩
    show rO q js G 0 (c - 2) S8 0 (sbk κ8) (YB q o8 (d + 3) 244 120 [vr 129, vi pl, vj v, vu, vi (kd : Int), vi p5, vi (stt : Int), vi (r : Int), vu] []) (tt8 G v kd ty stt (.inr (t8, κ8))) (rVo q js)
    rw [hB8, YB_retv, w244_123, i8, YB_ret]
    by_cases z12 : skd G (.inr (t8, κ8)) = 12
    · obtain ⟨S9, d1, d2, d3⟩ := q217 (q := q) (d := d + 1) (js := js) hG h8 (by have z : (gT G t8).1 = 12 := z12; omega)
      have i9 : Y q (d + 2) 221 0 [vr 129, vi 0] [] S9 js = _ := q221 (kd := 0) hG d3 (by omega)
      have s8 : tt8 G v kd ty stt (.inr (t8, κ8)) = smp (fun V => zsT V (zT V ++ [(v, if kd = 7 then 0 else ty, stt, kd, if skd G (.inr (t8 + 1, κ8)) = 0 then -1 else sgr G V (svl G (.inr (t8 + 1, κ8))))])) (sscp G (.inr (t8 + 1, κ8))) := by
        unfold tt8 tt7 tts
        simp only [z12, if_true]
        rfl
      rw [yb, if_pos z12, w244_132, if_neg n1, d1, YB_retv, w244_139, i9, YB_ret, s8]
      refine rO_tr d2 ?_
      by_cases z0 : skd G (.inr (t8 + 1, κ8)) = 0
      · obtain ⟨S10, j1, j2, j3⟩ := q217 (q := q) (d := d + 1) (js := js) hG d3 (by have z : (gT G (t8 + 1)).1 = 0 := z0; omega)
        have sc0 : sscp G (.inr (t8 + 1, κ8)) = .inr (t8 + 1 + 1, κ8) := if_pos z0
        rw [yb, if_pos z0, w244_144, if_neg n1, j1, YB_retv, sc0]
        simp only [z0, if_true]
        exact rO_tr j2 (fin S10 (t8 + 1 + 1) 3 (fun _ => -1) (rS_c hG j3 (by omega)) (fun V _ => rfl))
      · have sc1 : sscp G (.inr (t8 + 1, κ8)) = sgn G (.inr (t8 + 1, κ8)) := if_neg z0
        rw [yb, if_neg z0, w244_144, if_pos yr_0, sc1]
        simp only [z0, if_false]
        refine rO_bind (F := fun s => smp (fun V => zsT V (zT V ++ [(v, if kd = 7 then 0 else ty, stt, kd, sgr G V (svl G (.inr (t8 + 1, κ8))))])) s) (C := fun o => YB q o (d + 3) 244 158 [vr 129, vi pl, vj v, vu, vi (kd : Int), vi p5, vi (stt : Int), vi (r : Int), vi (-1)] []) (fun a b S => t244 ..) (sStr_mp sStr_id) (rO_c (c' := c - 2) (by omega) (q245 (d := d) hG d3) hG) fun S10 t10 κ10 o10 j1 j2 j3 j4 j5 => ?_
        obtain ⟨_, u1, _⟩ := sgx_k j1 j2
        subst u1
        obtain ⟨g, u2, _, u3⟩ := j5
        have e161 : Y q (d + 3) 244 161 [vr 129, vi pl, vj v, vu, vi (kd : Int), vi p5, vi (stt : Int), vi (r : Int), vi (-1)] [vi g] S10 js = Y q (d + 3) 244 154 [vr 129, vi pl, vj v, vu, vi (kd : Int), vi p5, vi (stt : Int), vi (r : Int), vi g] [] S10 js := (w244_161 ..).trans (w244_154 ..).symm
        show rO q js G 0 (c - 2) S10 0 (sbk κ10) (YB q o10 (d + 3) 244 158 [vr 129, vi pl, vj v, vu, vi (kd : Int), vi p5, vi (stt : Int), vi (r : Int), vi (-1)] []) (smp _ (.inr (t10, κ10))) (rVo q js)
        rw [u2, YB_ret, e161]
        exact fin S10 t10 g (fun V => sgr G V (svl G (.inr (t8 + 1, κ10)))) j4 (fun V z => by
          obtain ⟨w1, w2⟩ := u3 V z
          unfold rsc
          rw [← w1, if_neg (by omega), if_neg (by omega)])
    · have e132 : Y q (d + 3) 244 132 [vr 129, vi pl, vj v, vu, vi (kd : Int), vi p5, vi (stt : Int), vi (r : Int), vi (-1)] [vi 0] S8 js = Y q (d + 3) 244 154 [vr 129, vi pl, vj v, vu, vi (kd : Int), vi p5, vi (stt : Int), vi (r : Int), vi (-1)] [] S8 js := by
        rw [w244_132, if_pos yr_0]
        exact (w244_154 ..).symm
      have s8 : tt8 G v kd ty stt (.inr (t8, κ8)) = smp (fun V => zsT V (zT V ++ [(v, if kd = 7 then 0 else ty, stt, kd, -2)])) (.inr (t8, κ8)) := by
        unfold tt8 tt7 tts
        simp only [z12, if_false]
      rw [yb, if_neg z12, e132, s8]
      exact fin S8 t8 (-1) (fun _ => -2) h8 (fun V _ => rfl)
  · have s9 : tt9 G v (.inr (t5, κ5)) = .inl (gT G t5).2.1 := by
      have s4 : tt4 G (.inr (t5, κ5)) = .inl (gT G t5).2.1 := if_neg zt
      have s6 : tt6 G (.inr (t5, κ5)) = .inl (gT G t5).2.1 := by
        unfold tt6
        rw [s4]
        rfl
      unfold tt9
      rw [s6, sStr_t8.1]
    rw [yb, if_neg (fun y => zt (kt1.mp y)), if_pos yr_0, s9]
    exact rO_thr (pc := 57) hG h5 (fun a b => a244_57 ..) (fun o js' => YB_ret ..) _ _
end YRYL
end YRY
