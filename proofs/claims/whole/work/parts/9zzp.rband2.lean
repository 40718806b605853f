/-! THE REFERENCE READS A PROGRAM: a band, whole -/
section YSH
section YSHL
variable {q : yQ} {d : Nat} {js : List xO} {G : yGx} {σ σ1 : yPS} {S S1 S' : yS} {sc c c' w fx : Int} {dp dp' t : Nat} {b : Bool} {o : Option xRes} {B B1 B2 : yS → Option xRes → Prop} {κ κ1 : yKp} {g : yPS → yPS}
theorem rO_get (h : rO q js G sc c S dp (sbk κ) o (.inr (t, κ)) B) : ∃ S', B S' o ∧ yFr yWR S S' ∧ rS G sc c S' t dp κ := by
  rcases κ with e | V
  · exact h.2 rfl
  · exact h.2
theorem yfg_lt {g : Nat → Int} {x : Int} : ∀ (n i : Nat), 0 ≤ yfg g x n i → yfg g x n i < i + n
  | 0, i, h => by
    have h : (0 : Int) ≤ -1 := h
    omega
  | n + 1, i, h => by
    unfold yfg at h ⊢
    by_cases z : g i = x
    · rw [if_pos z]
      omega
    · rw [if_neg z] at h ⊢
      have := yfg_lt n (i + 1) h
      omega
theorem ybd_k : ∀ kd : Nat, kd < 67 → (((14 : Int) ≤ ykR kd ∧ ykR kd ≤ 20) ↔ 0 ≤ ybd kd) ∧ (0 ≤ ybd kd → kd = 14 ∨ kd = 15 ∨ kd = 16 ∨ kd = 17 ∨ kd = 18 ∨ kd = 19 ∨ kd = 20) ∧ (0 ≤ ybd kd → ¬ (kd = 17 ∨ kd = 19) → (ybd kd).toNat < 11 ∧ sbw kd = (rbn (ybd kd).toNat : Nat)) := by decide
theorem sbnd_e : sbnd G σ = sbe G (sln (fun V => (zI V).length) σ) (sbod G σ) (sbf (sln (fun V => (zI V).length) σ) (sbnb G σ) (sgd (fun V => (zB V (sbnb G σ V)).isNone) 4 (spl G σ) (sbn3 G σ))) := rfl
theorem q246 (hG : gOk G) (hd : 141 ≤ d) (hc : c ≤ 0) (h : rS G 1 c S t 0 κ) (h0 : (gT G t).1 = 13) : rO q js G 1 c S 0 (sbk κ) (Y q (d + 3) 246 0 [vr 129, vu, vu, vu] [] S js) (sbnd G (.inr (t, κ))) (rVo q js) := by
  obtain ⟨g1, g2, g3, g4, g5, g6, g7, g8, g9, g10, g11⟩ := rS_t hG h
  have e44 : yr (gI S 44) = t := by rw [g1]; exact yr_eq (by omega) (by omega)
  have ok : 0 ≤ (t : Int) ∧ (t : Int) < 2001 := by omega
  have n1 : ¬ yr 1 = 0 := by decide
  have q13 := q225 (q := q) (js := js) (d := d) (kd := 13) hG h (by omega)
  have e13 : sxp G 13 (.inr (t, κ)) = .inr (t + 1, κ) := if_pos h0
  rw [e13] at q13
  obtain ⟨S1, a1, a2, a3⟩ := rO_get q13
  have a1 : Y q (d + 2) 225 0 [vr 129, vi 13] [] S js = yretv q S1 js := a1
  obtain ⟨κ2, hκ2⟩ : ∃ κ2, κ2 = smk (sadI 13 0 0) κ := ⟨_, rfl⟩
  have hb2 : sbk κ2 = sbk κ := by rw [hκ2, sbk_k]
  have h2 : rS G 1 (c - 2) S1 (t + 1) 0 κ2 := by rw [hκ2]; exact rS_I (fun V => ⟨_, rfl⟩) a3
  have es1 : sbn1 G (.inr (t, κ)) = .inr (t + 1, κ2) := by
    unfold sbn1
    rw [smp_k, hκ2]
    rfl
  obtain ⟨m1, m2, m3, m4, m5, m6, m7, m8, m9, m10, m11⟩ := rS_t hG h2
  have f44 : yr (gI S1 44) = ((t + 1 : Nat) : Int) := by rw [m1]; exact yr_eq (by omega) (by omega)
  have ok1 : 0 ≤ ((t + 1 : Nat) : Int) ∧ ((t + 1 : Nat) : Int) < 2001 := by omega
  obtain ⟨kd, hkd⟩ : ∃ kd, kd = (gT G (t + 1)).1 := ⟨_, rfl⟩
  have esk : skd G (sbn1 G (.inr (t, κ))) = kd := by rw [es1, hkd]; rfl
  have i1 : Y q (d + 2) 191 0 [vj (yi2l (gA S1 39 (t + 1))), vu, vj 14, vu, vj 20, vu] [] S1 js = yret q (vi (yb ((14 : Int) ≤ ykR kd ∧ ykR kd ≤ 20))) S1 js := by
    rw [hkd]
    exact q191 (lo := 14) (hi := 20) hG h2 (by decide) (by decide) (by omega) (by omega)
  rw [← hkd] at m7 m9
  obtain ⟨k1, k2, k3⟩ := ybd_k kd m9
  obtain ⟨pl, hpl⟩ : ∃ pl, pl = (gT G t).2.1 := ⟨_, rfl⟩
  obtain ⟨i0, hi0⟩ : ∃ i0, i0 = sln (fun V => (zI V).length) (.inr (t, κ)) := ⟨_, rfl⟩
  obtain ⟨body, hbody⟩ : ∃ body, body = sbod G (.inr (t, κ)) := ⟨_, rfl⟩
  have hbod : body = false ↔ kd = 15 ∨ kd = 16 := by
    rw [hbody]
    unfold sbod
    rw [esk, decide_eq_false_iff_not]
    omega
  obtain ⟨fb, hfb⟩ : ∃ fb : yPV → Nat, fb = sbnb G (.inr (t, κ)) := ⟨_, rfl⟩
  have eb : sbnd G (.inr (t, κ)) = sbe G i0 body (sbf i0 fb (sgd (fun V => (zB V (fb V)).isNone) 4 pl (sbn3 G (.inr (t, κ))))) := by
    rw [sbnd_e, ← hi0, ← hbody, ← hfb, hpl]
    rfl
  have hFs : sStr fun s => sbe G i0 body (sbf i0 fb (sgd (fun V => (zB V (fb V)).isNone) 4 pl s)) := sStr_co (f := sbe G i0 body) sStr_be (sStr_mp (f := fun _ V => zsB V fun j => if j = fb V then some (i0, (zP V).length) else zB V j) (sStr_gd (f := fun _ V => (zB V (fb V)).isNone) (n := fun _ => 4) (p := fun _ => pl) sStr_id))
  rw [w246_0, e44, if_pos ok, Int.toNat_natCast, g8, a1, YB_retv, w246_16, f44, if_pos ok1, Int.toNat_natCast, i1, YB_ret, w246_37, m7, ← hpl, eb]
  refine rO_tr a2 ?_
  by_cases z : (14 : Int) ≤ ykR kd ∧ ykR kd ≤ 20
  · have yk := k1.mp z
    have hk7 := k2 yk
    obtain ⟨S2, c1, c2, c3⟩ := q217 (q := q) (d := d + 1) (js := js) hG h2 (by omega)
    have es2 : sbn2 G (.inr (t, κ)) = .inr (t + 2, κ2) := by
      unfold sbn2
      rw [esk, if_pos yk, es1]
      rfl
    have c3 : rS G 1 (c - 2 - 2) S2 (t + 2) 0 κ2 := c3
    have es3 : sbn3 G (.inr (t, κ)) = if kd = 17 ∨ kd = 19 then sgn G (.inr (t + 2, κ2)) else .inr (t + 2, κ2) := by
      unfold sbn3
      rw [esk, es2]
    have tail : ∀ (S3 : yS) (t3 : Nat) (κ3 : yKp) (w : Int), 1 ≤ t3 → (-20 ≤ w ∧ w ≤ 20) → (w = 1 ∨ w = 2 ↔ body = false) → (∀ V, κ3 = .inr V → fb V < 11 ∧ w = (rbn (fb V) : Nat)) → rS G 1 (c - 4) S3 t3 0 κ3 → rO q js G 1 c S3 0 (sbk κ3) (u246 q (d + 2) S3 js pl (ykR kd) w) (sbe G i0 body (sbf i0 fb (sgd (fun V => (zB V (fb V)).isNone) 4 pl (.inr (t3, κ3))))) (rVo q js) := fun S3 t3 κ3 w h1 h2 h3 h4 h5 => rO_c (by omega) (q246t hG hd (by omega) h1 h2 h3 h4 h5) hG
    have c3 : rS G 1 (c - 4) S2 (t + 2) 0 κ2 := rS_c hG c3 (by omega)
    rw [yb, if_pos z, if_neg n1, c1, YB_retv, st246 hk7, es3, ← hb2]
    refine rO_tr c2 ?_
    by_cases y : kd = 17 ∨ kd = 19
    · rw [if_pos y, if_pos y]
      refine rO_bind (F := fun s => sbe G i0 body (sbf i0 fb (sgd (fun V => (zB V (fb V)).isNone) 4 pl s))) (C := fun o => YB q o (d + 3) 246 106 [vr 129, vi pl, vi (ykR kd), vi 4] [vi 2, vi 5]) (fun a b S => t246 ..) hFs (rO_c (c' := c - 4) (by omega) (q245 (d := d) hG c3) hG) fun S3 t3 κ3 o3 b1 b2 f3 h3 hB3 => ?_
      obtain ⟨e5, e6, _⟩ := sgx_k b1 b2
      subst e6
      obtain ⟨g, ho, ⟨gl, gu⟩, hg⟩ := hB3
      have hg3 : ∀ V, κ3 = .inr V → 0 ≤ g ∧ g < 3 ∧ fb V = (if kd = 17 then 5 + g else 10 - g).toNat := fun V e => by
        obtain ⟨w1, w2⟩ := hg V e
        have l3 : (zG V).length ≤ 3 := by
          subst e
          exact h3.2.2.2.2.2.1.2.1
        have w3 : g < 3 := by
          rw [w1] at w2 ⊢
          unfold sgr at w2 ⊢
          split
          · omega
          · rename_i nz
            rw [if_neg nz] at w2
            unfold sfg at w2 ⊢
            have := yfg_lt (zG V).length 0 w2
            omega
        refine ⟨w2, w3, ?_⟩
        rw [hfb]
        unfold sbnb
        rw [esk, es2, ← w1]
        by_cases z17 : kd = 17
        · rw [if_pos z17, if_pos z17]
        · rw [if_neg z17, if_neg z17, if_pos (by omega)]
      show rO q js G 1 c S3 0 (sbk κ3) (YB q o3 (d + 3) 246 106 [vr 129, vi pl, vi (ykR kd), vi 4] [vi 2, vi 5]) (sbe G i0 body (sbf i0 fb (sgd (fun V => (zB V (fb V)).isNone) 4 pl (.inr (t3, κ3))))) (rVo q js)
      have st : Y q (d + 3) 246 109 [vr 129, vi pl, vi (ykR kd), vi 4] [vi g, vi 2, vi 5] S3 js = u246 q (d + 2) S3 js pl (ykR kd) (if kd = 19 then (5 + (2 * g)) + 1 else (5 + (2 * g)) + 0) := by
        rw [w246_109]
        rcases y with rfl | rfl
        · have n : ¬ yr (ykR 17) = yr 19 := by decide
          rw [if_neg n, if_neg (show ¬ 17 = 19 by omega)]
          rfl
        · have n : yr (ykR 19) = yr 19 := by decide
          rw [if_pos n, if_pos rfl]
          rfl
      rw [ho, YB_ret, st]
      refine tail S3 t3 κ3 _ (by omega) ?_ ?_ (fun V e => ?_) h3
      · split <;> omega
      · rw [hbod]
        split <;> omega
      · obtain ⟨x1, x2, x3⟩ := hg3 V e
        rw [x3]
        have g012 : g = 0 ∨ g = 1 ∨ g = 2 := by omega
        rcases y with rfl | rfl
        · rcases g012 with rfl | rfl | rfl <;> decide
        · rcases g012 with rfl | rfl | rfl <;> decide
    · rw [if_neg y, if_neg y]
      obtain ⟨y1, y2⟩ := k3 yk y
      refine tail S2 (t + 2) κ2 (sbw kd) (by omega) ?_ ?_ (fun V e => ?_) c3
      · unfold sbw
        split
        · omega
        split
        · omega
        split
        · omega
        split <;> omega
      · rw [hbod]
        unfold sbw
        rcases hk7 with rfl | rfl | rfl | rfl | rfl | rfl | rfl <;> decide
      · have ef : fb V = (ybd kd).toNat := by
          rw [hfb]
          unfold sbnb
          rw [esk, if_neg (by omega), if_neg (by omega)]
        rw [ef]
        exact ⟨y1, y2⟩
  · have es2 : sbn2 G (.inr (t, κ)) = .inl (gT G (t + 1)).2.1 := by
      unfold sbn2
      rw [esk, if_neg (fun y => z (k1.mpr y)), es1]
      rfl
    have es3 : sbn3 G (.inr (t, κ)) = .inl (gT G (t + 1)).2.1 := by
      unfold sbn3
      rw [esk, es2]
      split
      · exact sStr_gn.1 _
      · rfl
    have ef : sbe G i0 body (sbf i0 fb (sgd (fun V => (zB V (fb V)).isNone) 4 pl (sbn3 G (.inr (t, κ))))) = .inl (gT G (t + 1)).2.1 := by
      rw [es3]
      exact hFs.1 _
    rw [yb, if_neg z, if_pos yr_0, ef, ← hb2]
    exact rO_thr (pc := 44) hG h2 (fun a b => a246_44 ..) (fun o js' => YB_ret ..) _ _
/-- how far a band goes -/
theorem sbnd_lt {t1 : Nat} (hG : gOk G) (ht : t < gN G) (h0 : (gT G t).1 = 13) (e : sbnd G (.inr (t, κ)) = .inr (t1, κ1)) : t < t1 ∧ t1 < gN G := by
  have hN := yTo_t hG.1 ht (by omega)
  rw [sbnd_e] at e
  have hF : sPr G fun s => sbe G (sln (fun V => (zI V).length) (.inr (t, κ))) (sbod G (.inr (t, κ))) (sbf (sln (fun V => (zI V).length) (.inr (t, κ))) (sbnb G (.inr (t, κ))) (sgd (fun V => (zB V (sbnb G (.inr (t, κ)) V)).isNone) 4 (spl G (.inr (t, κ))) s)) := sPr_co sStr_be (sPr_be hG) (sPr_mp (f := fun _ V => zsB V fun j => if j = sbnb G (.inr (t, κ)) V then some (sln (fun V => (zI V).length) (.inr (t, κ)), (zP V).length) else zB V j) (sPr_gd (f := fun _ V => (zB V (sbnb G (.inr (t, κ)) V)).isNone) (n := fun _ => 4) (p := fun _ => spl G (.inr (t, κ))) sPr_id))
  have hFs : sStr fun s => sbe G (sln (fun V => (zI V).length) (.inr (t, κ))) (sbod G (.inr (t, κ))) (sbf (sln (fun V => (zI V).length) (.inr (t, κ))) (sbnb G (.inr (t, κ))) (sgd (fun V => (zB V (sbnb G (.inr (t, κ)) V)).isNone) 4 (spl G (.inr (t, κ))) s)) := sStr_co (f := sbe G _ _) sStr_be (sStr_mp (f := fun _ V => zsB V fun j => if j = sbnb G (.inr (t, κ)) V then some (sln (fun V => (zI V).length) (.inr (t, κ)), (zP V).length) else zB V j) (sStr_gd (f := fun _ V => (zB V (sbnb G (.inr (t, κ)) V)).isNone) (n := fun _ => 4) (p := fun _ => spl G (.inr (t, κ))) sStr_id))
  have es1 : sbn1 G (.inr (t, κ)) = .inr (t + 1, smk (sadI 13 0 0) κ) := by
    unfold sbn1
    rw [smp_k]
    rfl
  rcases hx : sbn3 G (.inr (t, κ)) with p | ⟨t2, κ2⟩
  · rw [hx] at e
    have := hFs.1 p
    have this : sbe G _ _ (sbf _ _ (sgd _ 4 _ (.inl p))) = .inl p := this
    rw [this] at e
    nomatch e
  · have h3 : t + 1 ≤ t2 ∧ t2 < gN G := by
      have k67 := (hG.1.2.2.2.2 (t + 1) hN).2
      have p2 : ∀ t3 κ3, sbn2 G (.inr (t, κ)) = .inr (t3, κ3) → t + 1 ≤ t3 ∧ t3 < gN G := fun t3 κ3 e3 => by
        unfold sbn2 at e3
        rw [es1] at e3
        split at e3
        · rename_i y
          have y : 0 ≤ ybd (gT G (t + 1)).1 := y
          have := (ybd_r _ k67).2.2.1 y
          have hN2 := yTo_t hG.1 hN this
          have e3 : (Sum.inr (t + 1 + 1, smk (sadI 13 0 0) κ) : yPS) = .inr (t3, κ3) := e3
          injection e3 with e3
          injection e3 with e3 _
          omega
        · nomatch e3
      unfold sbn3 at hx
      split at hx
      · rcases hy : sbn2 G (.inr (t, κ)) with p | ⟨t3, κ3⟩
        · rw [hy] at hx
          have : sgn G (.inl p) = .inl p := sStr_gn.1 p
          rw [this] at hx
          nomatch hx
        · obtain ⟨b1, b2⟩ := p2 t3 κ3 hy
          rw [hy] at hx
          obtain ⟨b3, b4⟩ := sPr_gn hG t3 κ3 t2 κ2 b2 hx
          omega
      · exact p2 t2 κ2 hx
    rw [hx] at e
    obtain ⟨b1, b2⟩ := hF t2 κ2 t1 κ1 h3.2 e
    exact ⟨by omega, b2⟩
theorem sStr_bn : sStr (sbnd G) := by
  have h1 : sStr (sbn1 G) := sStr_co (f := snx) sStr_nx (sStr_mp (f := fun _ => sadI 13 0 0) sStr_id)
  have h2 : sStr (sbn2 G) := sStr_if (C := fun s => 0 ≤ ybd (skd G (sbn1 G s))) (sStr_co (f := snx) sStr_nx h1) (sStr_co (f := srf G) sStr_rf h1)
  have h3 : sStr (sbn3 G) := sStr_if (C := fun s => skd G (sbn1 G s) = 17 ∨ skd G (sbn1 G s) = 19) (sStr_co (f := sgn G) sStr_gn h2) h2
  exact sStr_pw (F := fun x s => sbe G (sln (fun V => (zI V).length) x) (sbod G x) (sbf (sln (fun V => (zI V).length) x) (sbnb G x) (sgd (fun V => (zB V (sbnb G x V)).isNone) 4 (spl G x) s))) (fun x => sStr_co (f := sbe G (sln (fun V => (zI V).length) x) (sbod G x)) sStr_be (sStr_mp (f := fun _ V => zsB V fun j => if j = sbnb G x V then some (sln (fun V => (zI V).length) x, (zP V).length) else zB V j) (sStr_gd (f := fun _ V => (zB V (sbnb G x V)).isNone) (n := fun _ => 4) (p := fun _ => spl G x) sStr_id))) h3
end YSHL
end YSH
