/-! taken from whole by wip/p27/slice2.py: 9zx.cband.lean.txt -/
section YCM
def sbn1 (G : yGx) (σ : yPS) : yPS := snx (smp (sadI 13 0 0) σ)
def sbn2 (G : yGx) (σ : yPS) : yPS := if 0 ≤ ybd (skd G (sbn1 G σ)) then snx (sbn1 G σ) else srf G (sbn1 G σ)
def sbn3 (G : yGx) (σ : yPS) : yPS := if skd G (sbn1 G σ) = 17 ∨ skd G (sbn1 G σ) = 19 then sgn G (sbn2 G σ) else sbn2 G σ
def sbnb (G : yGx) (σ : yPS) (V : yPV) : Nat := (if skd G (sbn1 G σ) = 17 then 5 + sgr G V (svl G (sbn2 G σ)) else if skd G (sbn1 G σ) = 19 then 10 - sgr G V (svl G (sbn2 G σ)) else ybd (skd G (sbn1 G σ))).toNat
def sbn4 (G : yGx) (σ : yPS) : yPS := sgd (fun V => (qzB V (sbnb G σ V)).isNone) 4 (spl G σ) (sbn3 G σ)
def sbn5 (G : yGx) (σ : yPS) : yPS := smp (fun V => zsB V fun j => if j = sbnb G σ V then some (sln (fun V => (qzI V).length) σ, (qzP V).length) else qzB V j) (sbn4 G σ)
def sbod (G : yGx) (σ : yPS) : Bool := decide (¬ skd G (sbn1 G σ) = 15 ∧ ¬ skd G (sbn1 G σ) = 16)
def sbnd (G : yGx) (σ : yPS) : yPS := smp (seI (sln (fun V => (qzI V).length) σ)) (sxp G 21 (smp (slyP (11, 0, 0, 0)) (sits G (sbod G σ) 12 (sbn5 G σ))))
section YCML
variable {q : yQ} {d : Nat} {js : List xO} {G : yGx} {σ σ' : yPS} {m : yMo} {S S' : yS} {a a' w : Int} {dp : Nat}
theorem ybd_r : ∀ kd : Nat, kd < 67 → -1 ≤ ybd kd ∧ ybd kd ≤ 10 ∧ (0 ≤ ybd kd → kd ≤ 64) ∧ (kd = 17 → ybd kd = 5) ∧ (kd = 19 → ybd kd = 10) ∧ (ybd kd = 1 ↔ kd = 15) ∧ (ybd kd = 2 ↔ kd = 16) := by decide
theorem sgd_na {c : yPV → Bool} {n p : Nat} (h : ¬ sAl σ) : sgd c n p σ = σ := sgd_t fun t V e => absurd ⟨t, V, e⟩ h
theorem smp_na {f : yPV → yPV} (h : ¬ sAl σ) : smp f σ = σ := by
  rcases σ with p | ⟨t, e | V⟩
  · rfl
  · rfl
  · exact absurd ⟨t, V, rfl⟩ h
theorem sbn5_al (h : sAl (sbn4 G σ)) : ∃ t V0 t3, σ = .inr (t, .inr V0) ∧ sbn3 G σ = .inr (t3, .inr (sadI 13 0 0 V0)) ∧ (qzB (sadI 13 0 0 V0) (sbnb G σ (sadI 13 0 0 V0))).isNone = true := by
  obtain ⟨t, V, e⟩ := h
  obtain ⟨e3, hb⟩ := sgd_al e
  have h2 : ∃ t2, sbn2 G σ = .inr (t2, .inr V) := by
    have e3' := e3
    unfold sbn3 at e3'
    split at e3'
    · obtain ⟨f1, _⟩ := sgd_al e3'
      obtain ⟨t2, f2, _⟩ := sxp_al f1
      exact ⟨t2, f2⟩
    · exact ⟨t, e3'⟩
  obtain ⟨t2, e2⟩ := h2
  unfold sbn2 at e2
  split at e2
  · obtain ⟨t1, e1, _⟩ := snx_al e2
    obtain ⟨t0, e0, _⟩ := snx_al e1
    obtain ⟨V0, e4, e5⟩ := smp_al e0
    subst e5
    exact ⟨t0, V0, t, e4, e3, hb⟩
  · exact (srf_al e2).elim
theorem k39 {it : Nat} (hG : gOk G) (h : cP G (a + 1) S (smp (sadI 13 0 0) σ)) (h0 : skd G σ = 13) (hit : it ≤ 2000) (hl : ∀ t V, σ = .inr (t, .inr V) → it = (qzI V).length) : ∃ (S' : yS) (b : Int), Y q (d + 4) 39 0 [vr 123, vi it, vu, vu, vu, vu] [] S js = yret q (vi b) S' js ∧ yFr yWD S S' ∧ cP G a S' (sbn5 G σ) ∧ -1 ≤ b ∧ b ≤ 10 ∧ (b = 1 ∨ b = 2 ↔ sbod G σ = false) := by
  have n1 : ¬ yr 1 = 0 := by decide
  have em : yr (-1) = -1 := rfl
  have sk0 : skd G (smp (sadI 13 0 0) σ) = 13 := (ssh_kd ssh_mp0).trans h0
  have sp0 : spl G (smp (sadI 13 0 0) σ) = spl G σ := by rcases σ with p | ⟨t, e | V⟩ <;> rfl
  obtain ⟨_, _, p2⟩ := cP_kd hG h
  rw [sp0] at p2
  obtain ⟨pl, hpl⟩ : ∃ pl, pl = spl G σ := ⟨_, rfl⟩
  rw [← hpl] at p2
  obtain ⟨S1, e1, f1, g1⟩ := k154 (q := q) (d := d + 3) (js := js) hG h (by omega)
  have g1 : cP G (a + 1 - 1) S1 (sbn1 G σ) := g1
  have g1 : cP G a S1 (sbn1 G σ) := cP_a hG g1 (by omega)
  obtain ⟨k0, k1, _⟩ := cP_kd hG g1
  obtain ⟨kd, hkd⟩ : ∃ kd, kd = skd G (sbn1 G σ) := ⟨_, rfl⟩
  rw [← hkd] at k0 k1
  obtain ⟨r1, r2, r3, r4, r5, r6, r7⟩ := ybd_r kd k1
  have eb : yr (ybd kd) = ybd kd := yr_eq (by omega) (by omega)
  have hbod : sbod G σ = false ↔ kd = 15 ∨ kd = 16 := by
    unfold sbod
    rw [← hkd, decide_eq_false_iff_not]
    omega
  have st : Y q (d + 4) 39 0 [vr 123, vi it, vu, vu, vu, vu] [] S js = if ybd kd < 0 then YB q (Y q (d + 3) 155 0 [vr 86] [] S1 js) (d + 4) 39 38 [vr 123, vi it, vi pl, vr kd, vi (ybd kd), vu] [] else YB q (Y q (d + 3) 154 0 [vr 86] [] S1 js) (d + 4) 39 47 [vr 123, vi it, vi pl, vr kd, vi (ybd kd), vu] [] := by
    rw [w39_0, e1, YB_retv, p2, w39_15, k0, c40 k1, YB_ret, w39_27, eb]
  rw [st]
  by_cases z : ybd kd < 0
  · obtain ⟨S2, e2, f2, g2⟩ := k155 (q := q) (d := d + 3) (js := js) hG g1
    have e3 : sbn5 G σ = srf G (sbn1 G σ) := by
      have na : ¬ sAl (srf G (sbn1 G σ)) := fun y => sAl_rf y
      have h2 : sbn2 G σ = srf G (sbn1 G σ) := if_neg (by rw [← hkd]; omega)
      have h3 : sbn3 G σ = srf G (sbn1 G σ) := by
        unfold sbn3
        rw [h2]
        split
        · rename_i y
          rw [← hkd] at y
          omega
        · rfl
      unfold sbn5 sbn4
      rw [h3, sgd_na na, smp_na na]
    rw [if_pos z, e2, YB_retv, w39_41, e3]
    exact ⟨S2, -1, rfl, yWD_k (yFr_tr f1 f2), g2 a, by omega, by omega, by rw [hbod]; omega⟩
  · obtain ⟨S2, e2, f2, g2⟩ := k154 (q := q) (d := d + 3) (js := js) hG g1 (by rw [← hkd]; exact r3 (by omega))
    have h2 : sbn2 G σ = snx (sbn1 G σ) := if_pos (by rw [← hkd]; omega)
    rw [← h2] at g2
    rw [if_neg z, e2, YB_retv]
    -- the band's place
    have place : ∀ (S3 : yS) (b : Int) (x4 : yV), 0 ≤ b → b ≤ 10 → (b = 1 ∨ b = 2 ↔ kd = 15 ∨ kd = 16) → yFr yWD S S3 → cP G a S3 (sbn3 G σ) → (∀ t V, sbn3 G σ = .inr (t, .inr V) → b = (sbnb G σ V : Nat)) → ∃ (S' : yS) (b' : Int), YB q (Y q (d + 3) 101 0 [vr 91, vi b] [] S3 js) (d + 4) 39 105 [vr 123, vi it, vi pl, vr kd, vi b, x4] [] = yret q (vi b') S' js ∧ yFr yWD S S' ∧ cP G a S' (sbn5 G σ) ∧ -1 ≤ b' ∧ b' ≤ 10 ∧ (b' = 1 ∨ b' = 2 ↔ sbod G σ = false) := by
      intro S3 b x4 hb0 hb10 hb12 f3 g3 hbV
      have hR := g3.2.1
      have h25 := hR.2.2.2.2.2.2.2.1
      have h26 := hR.2.2.2.2.2.2.2.2.1
      have y0 : yr 0 = 0 := rfl
      obtain ⟨S4, e4, f4, g4⟩ : ∃ S4 : yS, YB q (Y q (d + 3) 101 0 [vr 91, vi b] [] S3 js) (d + 4) 39 105 [vr 123, vi it, vi pl, vr kd, vi b, x4] [] = YB q (Y q (d + 3) 102 0 [vr 91, vi b, vi it] [] S4 js) (d + 4) 39 127 [vr 123, vi it, vi pl, vr kd, vi b, x4] [] ∧ yFr yWk S3 S4 ∧ cP G a S4 (sbn4 G σ) := by
        unfold sbn4
        rw [c101 (by omega) h25 h26, YB_ret, w39_108, ← hpl]
        rcases kgd (q := q) (d := d + 3) (js := js) (c := fun V => (qzB V (sbnb G σ V)).isNone) (C := ¬ yhb S3 b) (n := 4) (p := pl) hG g3 (by omega) (fun t V e => by
          have hv := g3.2.2.2 t V e
          have hbn := hv.1.2.2.2.2.2.2 (sbnb G σ V) (by have := hbV t V e; omega)
          have hb := hbV t V e
          have hlen := hv.1.2.2.2.2.2.1.1
          have hbt : b.toNat = sbnb G σ V := by omega
          unfold yhb
          rw [hbt]
          cases hz : qzB V (sbnb G σ V) with
          | none =>
            rw [hz] at hbn
            have hbn : gA S3 26 (sbnb G σ V) = -1 := hbn
            rw [hbn]
            exact ⟨fun _ y => absurd y.2.2.1 (by omega), fun _ => rfl⟩
          | some x =>
            rw [hz] at hbn
            have hbn : gA S3 26 (sbnb G σ V) = (x.1 : Int) := hbn
            have := hv.2.2.2.2.2.1 (sbnb G σ V) x.1 x.2 hz
            rw [hbn]
            exact ⟨fun y => (nomatch y), fun y => (y ⟨hb0, by omega, by omega, by omega⟩).elim⟩) with ⟨y, c⟩ | ⟨y, S4, x1, x2, x3⟩
        · rw [yb, if_neg y, if_pos y0]
          exact ⟨S3, rfl, yFr_rf _ _, c⟩
        · have y : yhb S3 b := by
            by_cases y2 : yhb S3 b
            · exact y2
            · exact absurd y2 y
          have x1 : Y q (d + 3) 153 0 [vr 86, vi 4, vi pl] [] S3 js = yretv q S4 js := x1
          rw [yb, if_pos y, if_neg n1, x1, YB_retv, w39_120]
          exact ⟨S4, rfl, x2, x3⟩
      have e5 := c102 (q := q) (d := d + 3) (js := js) (S := S4) (b := b) (v := it) (by omega)
      rw [if_pos (show 0 ≤ b ∧ b < 11 by omega)] at e5
      have f5 : yFr yWT S4 (sA S4 26 b.toNat it) := yFr_A rfl
      have g5 : cP G a (sA S4 26 b.toNat it) (sbn5 G σ) := by
        refine cP_T g4 f5 ?_ (fun _ _ _ => ⟨rfl, rfl⟩) fun t V e v o => ?_
        · have hR := g4.2.1
          unfold cRg cGr at hR ⊢
          refine ⟨hR.1, hR.2.1, hR.2.2.1, hR.2.2.2.1, hR.2.2.2.2.1, hR.2.2.2.2.2.1, hR.2.2.2.2.2.2.1, hR.2.2.2.2.2.2.2.1, fun j hj => ?_, hR.2.2.2.2.2.2.2.2.2⟩
          rw [gA_self]
          split
          · omega
          · exact hR.2.2.2.2.2.2.2.2.1 j hj
        · obtain ⟨t0, V0, t3, q1, q2, q3⟩ := sbn5_al ⟨t, V, e⟩
          obtain ⟨e3, _⟩ := sgd_al e
          have hVV : V = sadI 13 0 0 V0 := by
            rw [q2] at e3
            injection e3 with e3
            injection e3 with _ e3
            injection e3 with e3
            exact e3.symm
          have hb := hbV _ _ e3
          have hi0 := hl _ _ q1
          have es : sln (fun V => (qzI V).length) σ = it := by rw [q1, hi0]; rfl
          have hlt : it < (qzI V).length := by
            rw [hVV]
            show it < (qzI V0 ++ [_]).length
            rw [List.length_append, hi0]
            exact Nat.lt_succ_self _
          rw [es]
          refine ⟨⟨v.1, v.2.1, v.2.2.1, v.2.2.2.1, v.2.2.2.2.1, v.2.2.2.2.2.1, fun j hj => ?_⟩, o.1, o.2.1, o.2.2.1, o.2.2.2.1, fun j i c hc => ?_, o.2.2.2.2.2⟩
          · show gA (sA S4 26 b.toNat it) 26 j = match (if j = sbnb G σ V then some (it, (qzP V).length) else qzB V j) with
              | none => -1
              | some (i, _) => (i : Int)
            rw [gA_self]
            by_cases y : j = sbnb G σ V
            · rw [if_pos (by omega), if_pos y]
            · rw [if_neg (by omega), if_neg y]
              exact v.2.2.2.2.2.2 j hj
          · have hc : (if j = sbnb G σ V then some (it, (qzP V).length) else qzB V j) = some (i, c) := hc
            split at hc
            · injection hc with hc
              injection hc with hc _
              show i < (qzI V).length
              omega
            · exact o.2.2.2.2.1 j i c hc
      rw [e4, e5, YB_retv, w39_130]
      exact ⟨_, b, rfl, yFr_tr f3 (yFr_tr (yWD_k f4) (yWD_t f5)), g5, by omega, hb10, by rw [hbod]; exact hb12⟩
    by_cases y : kd = 17 ∨ kd = 19
    · obtain ⟨S3, g, e3, f3, g3, gr, hg⟩ := k38 (q := q) (d := d + 1) (js := js) hG g2
      have h3 : sbn3 G σ = sgn G (sbn2 G σ) := if_pos (by rw [← hkd]; exact y)
      have g3 : cP G a S3 (sbn3 G σ) := by rw [h3]; exact cP_a hG g3 (by omega)
      have eg : yr g = g := yr_eq (by omega) (by omega)
      have st2 : Y q (d + 4) 39 50 [vr 123, vi it, vi pl, vr kd, vi (ybd kd), vu] [] S2 js = Y q (d + 4) 39 68 [vr 123, vi it, vi pl, vr kd, vi (ybd kd), vu] [vi g] S3 js := by
        rw [w39_50, if_pos ⟨k1, by omega⟩]
        rcases y with y | y
        · rw [if_pos y, e3, YB_ret]
        · rw [if_neg (by omega), if_pos ⟨k1, by omega⟩, if_pos y, e3, YB_ret]
      have fr3 : yFr yWD S S3 := yWD_k (yFr_tr f1 (yFr_tr f2 f3))
      rw [st2, w39_68, eg]
      by_cases y2 : g < 0
      · have na : ¬ sAl (sbn3 G σ) := fun ⟨t, V, e⟩ => by
          rw [h3] at e
          have := (hg t V e).2
          omega
        have e5 : sbn5 G σ = sbn3 G σ := by
          unfold sbn5 sbn4
          rw [sgd_na na, smp_na na]
        rw [if_pos y2, e5]
        exact ⟨S3, -1, rfl, fr3, g3, by omega, by omega, by rw [hbod]; omega⟩
      · rw [if_neg y2, if_pos ⟨k1, by omega⟩]
        by_cases y3 : kd = 17
        · have e5 := r4 y3
          rw [if_pos y3, e5]
          refine place S3 (5 + g) (vi g) (by omega) (by omega) (by omega) fr3 g3 fun t V e => ?_
          unfold sbnb
          rw [← hkd, if_pos y3]
          rw [h3] at e
          rw [← (hg t V e).1]
          omega
        · have e5 := r5 (by omega)
          rw [if_neg y3, e5]
          refine place S3 (10 - g) (vi g) (by omega) (by omega) (by omega) fr3 g3 fun t V e => ?_
          unfold sbnb
          rw [← hkd, if_neg y3, if_pos (by omega)]
          rw [h3] at e
          rw [← (hg t V e).1]
          omega
    · have h3 : sbn3 G σ = sbn2 G σ := if_neg (by rw [← hkd]; exact y)
      rw [w39_50, if_pos ⟨k1, by omega⟩, if_neg (by omega), if_pos ⟨k1, by omega⟩, if_neg (by omega)]
      refine place S2 (ybd kd) vu (by omega) (by omega) (by omega) (yWD_k (yFr_tr f1 f2)) (by rw [h3]; exact cP_a hG g2 (by omega)) fun t V e => ?_
      unfold sbnb
      rw [← hkd, if_neg (by omega), if_neg (by omega)]
      omega
end YCML
end YCM
