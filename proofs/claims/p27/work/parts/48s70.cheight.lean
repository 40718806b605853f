/-! taken from whole by wip/p27/slice2.py: 9zy.cheight.lean.txt -/
section YCN
def shtl (I : List yIe) : Nat → Nat → Nat → Int → Int
  | 0, _, _, x => x
  | f + 1, it, en, x => if it < en ∧ it < I.length then shtl I f (I.getD it dIe).2.2.2 en (x + if (I.getD it dIe).1 = 24 then (((I.getD it dIe).2.1 : Nat) : Int) else 1) else x
def sht (V : yPV) (b : Nat) : Int := match qzB V b with
  | none => 0
  | some (i, _) => shtl (qzI V) 2000 (i + 1) ((qzI V).getD i dIe).2.2.2 0
def sbds (G : yGx) : Nat → yPS → yPS := slp G (fun kd => decide (kd = 13)) (sbnd G)
def send (G : yGx) (σ : yPS) : yPS := if skd G σ = 65 then σ else srf G σ
def sfin (n : Nat) (σ : yPS) : yPS := sgd (fun V => decide (yr (sht V 2 + sht V 1) < yr ((qzPg V).2.2 : Int))) 6 n σ
section YCNL
variable {q : yQ} {d : Nat} {js : List xO} {G : yGx} {σ σ' : yPS} {m : yMo} {S S' : yS} {a a' w : Int} {dp : Nat}
theorem yht_s {I : List yIe} (h : vIt S I) : ∀ (f it en : Nat) (x : Int), yht S f it en x = shtl I f it en x
  | 0, _, _, _ => rfl
  | f + 1, it, en, x => by
    have h25 := h.1
    unfold yht shtl
    by_cases z : it < en ∧ it < I.length
    · have e := yLs_D h dIe z.2
      rw [if_pos z, if_pos ⟨z.1, by omega⟩, e.1, e.2.1, e.2.2.2, Int.toNat_natCast]
      exact yht_s h f _ _ _
    · rw [if_neg z, if_neg (fun y => z ⟨y.1, by omega⟩)]
theorem k107 {b : Nat} (h : cP G a S σ) (hb : b < 11) : ∃ x : Int, Y q (d + 3) 107 0 [vr 91, vi b, vu, vu, vu, vu] [] S js = yret q (vi x) S js ∧ ∀ t V, σ = .inr (t, .inr V) → x = sht V b := by
  have hR := h.2.1
  have h25 := hR.2.2.2.2.2.2.2.1
  have h26 := hR.2.2.2.2.2.2.2.2.1
  have r26 := h26 b hb
  have e8 := c108 (q := q) (d := d + 1) (js := js) (S := S) (b := (b : Int)) (by omega) h25 h26
  have e9 := c109 (q := q) (d := d + 1) (js := js) (S := S) (b := (b : Int)) (by omega) h25 h26
  simp only [Int.toNat_natCast] at e8 e9
  have bits : ∃ fi en : Nat, fi ≤ 2000 ∧ en ≤ 2000 ∧ (if yhb S b then gA S 26 b + 1 else 0) = (fi : Int) ∧ (if yhb S b then gA S 29 (gA S 26 b).toNat else 0) = (en : Int) ∧ ∀ t V, σ = .inr (t, .inr V) → shtl (qzI V) 2000 fi en 0 = sht V b := by
    by_cases y : yhb S b
    · obtain ⟨y1, y2, y3, y4⟩ := id y
      rw [Int.toNat_natCast] at y3 y4
      have r29 := (hR.2.2.2.2.2.2.2.2.2 (gA S 26 b).toNat (by omega)).1
      refine ⟨(gA S 26 b).toNat + 1, (gA S 29 (gA S 26 b).toNat).toNat, by omega, by omega, by rw [if_pos y]; omega, by rw [if_pos y]; omega, fun t V e => ?_⟩
      have v := (h.2.2.2 t V e).1
      have vb := v.2.2.2.2.2.2 b hb
      unfold sht
      cases hz : qzB V b with
      | none =>
        rw [hz] at vb
        have vb : gA S 26 b = -1 := vb
        omega
      | some x =>
        rw [hz] at vb
        have vb : gA S 26 b = (x.1 : Int) := vb
        have hlen := v.2.2.2.2.2.1.1
        have e3 := (yLs_D v.2.2.2.2.2.1 dIe (j := x.1) (by omega)).2.2.2
        have e4 : (gA S 26 b).toNat = x.1 := by omega
        rw [e4, e3, Int.toNat_natCast]
    · refine ⟨0, 0, by omega, by omega, by rw [if_neg y]; rfl, by rw [if_neg y]; rfl, fun t V e => ?_⟩
      have v := (h.2.2.2 t V e).1
      have o := (h.2.2.2 t V e).2
      have vb := v.2.2.2.2.2.2 b hb
      unfold sht
      cases hz : qzB V b with
      | none => rfl
      | some x =>
        rw [hz] at vb
        have vb : gA S 26 b = (x.1 : Int) := vb
        have hlen := v.2.2.2.2.2.1.1
        have := o.2.2.2.2.1 b x.1 x.2 hz
        refine absurd ⟨by omega, by omega, ?_, ?_⟩ y
        · rw [Int.toNat_natCast]
          omega
        · rw [Int.toNat_natCast]
          omega
  obtain ⟨fi, en, h1, h2, h3, h4, h5⟩ := bits
  rw [h3] at e8
  rw [h4] at e9
  have lp := c107l (q := q) (d := d + 3) (js := js) (x0 := (b : Int)) (en := en) hR h2 2000 0 fi 0 (by omega) h1
  have lp : Y q (d + 3) 107 18 [vr 91, vi b, vi 0, vi fi, vi en, vi 0] [] S js = yret q (vi (yht S 2000 fi en 0)) S js := lp
  refine ⟨yht S 2000 fi en 0, ?_, fun t V e => ?_⟩
  · rw [w107_0, e8, YB_ret, w107_7, e9, YB_ret, w107_13, lp]
  · rw [yht_s (h.2.2.2 t V e).1.2.2.2.2.2.1, h5 t V e]
theorem sbod_b {b : Int} (h : b = 1 ∨ b = 2 ↔ sbod G σ = false) : yb1 (sbod G σ) = if b = 1 ∨ b = 2 then 0 else 1 := by
  by_cases z : b = 1 ∨ b = 2
  · rw [if_pos z, h.mp z]
    rfl
  · rw [if_neg z]
    cases hb : sbod G σ with
    | true => rfl
    | false => exact absurd (h.mpr hb) z
/-- the bands, and whatever stands behind them -/
theorem k26b (hG : gOk G) : ∀ (n i : Nat) (σ : yPS) (S : yS) (x1 x2 : yV), i + n = 2000 → cP G 0 S σ → ∃ (S' : yS) (y0 : Int) (y1 y2 : yV), Y q (d + 206) 26 50 [vr 123, vi i, x1, x2] [] S js = YB q (Y q (d + 205) 107 0 [vr 91, vi 1, vu, vu, vu, vu] [] S' js) (d + 206) 26 155 [vr 123, vi y0, y1, y2] [] ∧ yFr yWD S S' ∧ cP G 0 S' (send G (sbds G n σ)) ∧ ∀ p, send G (sbds G n σ) = .inl p → gI S' 17 = 1 := by
  have tail : ∀ (i : Nat) (σ : yPS) (S : yS) (x1 x2 : yV), cP G 0 S σ → ∃ (S' : yS) (y0 : Int) (y1 y2 : yV), (if gK S 0 < 67 ∧ 65 < 67 then (if gK S 0 = 65 then YB q (Y q (d + 205) 107 0 [vr 91, vi 1, vu, vu, vu, vu] [] S js) (d + 206) 26 155 [vr 123, vi i, x1, x2] [] else YB q (Y q (d + 205) 155 0 [vr 86] [] S js) (d + 206) 26 147 [vr 123, vi i, x1, x2] []) else Y q (d + 206) 26 140 [vr 123, vi i, x1, x2] [vr 65, vr (gK S 0)] S js) = YB q (Y q (d + 205) 107 0 [vr 91, vi 1, vu, vu, vu, vu] [] S' js) (d + 206) 26 155 [vr 123, vi y0, y1, y2] [] ∧ yFr yWD S S' ∧ cP G 0 S' (send G σ) ∧ ∀ p, send G σ = .inl p → gI S' 17 = 1 := by
    intro i σ S x1 x2 h
    obtain ⟨k0, k1, _⟩ := cP_kd hG h
    rw [k0, if_pos ⟨k1, by omega⟩]
    unfold send
    by_cases z : skd G σ = 65
    · rw [if_pos z, if_pos z]
      exact ⟨S, i, x1, x2, rfl, yFr_rf _ _, h, fun p e => by rw [e] at z; exact absurd (show 66 = 65 from z) (by decide)⟩
    · obtain ⟨⟨m, h1, h2⟩, _⟩ := id h
      obtain ⟨S1, e1, f1, g1, g17⟩ := nrefuse (q := q) (d := d + 205) (js := js) (Or.inl rfl) h2
      rw [if_neg z, if_neg z, e1, YB_retv, w26_150]
      exact ⟨S1, i, x1, x2, rfl, yWD_k f1, cP_k hG h f1 (sRl_rf h1) g1 fun t V e => (srf_al e).elim, fun p _ => g17⟩
  intro n
  induction n with
  | zero =>
    intro i σ S x1 x2 hi h
    have ei : yr (i : Int) = i := yr_eq (by omega) (by omega)
    have e2 : yr 2000 = 2000 := rfl
    rw [w26_50, ei, e2, if_neg (by omega)]
    exact tail i σ S x1 x2 h
  | succ n ih =>
    intro i σ S x1 x2 hi h
    have ei : yr (i : Int) = i := yr_eq (by omega) (by omega)
    have e2 : yr 2000 = 2000 := rfl
    obtain ⟨k0, k1, _⟩ := cP_kd hG h
    have es : sbds G (n + 1) σ = if skd G σ = 13 then sbds G n (sbnd G σ) else σ := by
      show (if decide (skd G σ = 13) = true then _ else _) = _
      by_cases z : skd G σ = 13
      · rw [if_pos (decide_eq_true z), if_pos z]
        rfl
      · rw [if_neg (fun y => z (of_decide_eq_true y)), if_neg z]
    rw [w26_50, ei, e2, if_pos (by omega), es]
    by_cases z : skd G σ = 13
    · obtain ⟨S1, it, e3, f3, g3, hit, hl⟩ := k100 (q := q) (d := d + 205) (js := js) (kd := 13) (n := 0) (c := 0) (na := 0) (nb := 0) h (by omega) (fun t V e => by
        have o := (h.2.2.2 t V e).2.2.1
        obtain ⟨⟨m, m1, _⟩, _⟩ := h
        have hN := sRl_t m1 e
        have e5 : skd G σ = (gT G t).1 := by rw [e]; rfl
        have := yTo_t hG.1 hN (by omega)
        have hN2 := hG.1.2.1
        exact ⟨by omega, rfl, rfl⟩)
      obtain ⟨S2, b, e4, f4, g4, hb1, hb2, hb3⟩ := k39 (q := q) (d := d + 201) (js := js) (a := 0) hG g3 z hit hl
      have eb : yr b = b := yr_eq (by omega) (by omega)
      have hbd := sbod_b hb3
      have y1 : yr 1 = 1 := rfl
      have y2 : yr 2 = 2 := rfl
      obtain ⟨S3, e6, f6, g6⟩ := k41 (q := q) (js := js) (body := sbod G σ) hG 12 (by omega) (d + 205) (by omega) S2 (sbn5 G σ) 0 (by omega) g4
      have st : Y q (d + 206) 26 88 [vr 123, vi i, vi it, x2] [vi b] S2 js = YB q (Y q (d + 205) 41 0 [vr 123, vi ((12 - 12 : Nat) : Int), vi (yb1 (sbod G σ)), vu, vu, vu] [] S2 js) (d + 206) 26 106 [vr 123, vi i, vi it, vi b] [] := by
        rw [w26_88, eb, y1, y2, hbd]
        by_cases z1 : b = 1
        · rw [if_pos z1, if_pos (Or.inl z1)]
          rfl
        · rw [if_neg z1]
          by_cases z2 : b = 2
          · rw [if_pos z2, if_pos (Or.inr z2)]
            rfl
          · rw [if_neg z2, if_neg (by omega)]
            rfl
      obtain ⟨S4, e7, f7, g7⟩ := k30 (q := q) (d := d + 204) (js := js) (kd := 21) hG (cP_P (f := slyP (11, 0, 0, 0)) g6 (slyP_P _)) (by omega)
      have hal : sAl (sxp G 21 (smp (slyP (11, 0, 0, 0)) (sits G (sbod G σ) 12 (sbn5 G σ)))) → it = sln (fun V => (qzI V).length) σ := fun y => by
        obtain ⟨t, V0, t3, q1, _⟩ := sbn5_al (sAl_mp (sAl_its 12 _ (sAl_mp (sAl_xp y))))
        rw [hl _ _ q1, q1]
        rfl
      obtain ⟨S5, e8, f8, g8⟩ := k106 (q := q) (d := d + 205) (js := js) (i := it) (i0 := sln (fun V => (qzI V).length) σ) g7 hit (fun t V e => hal ⟨t, V, e⟩)
      have g8 : cP G (0 - 1) S5 (sbnd G σ) := g8
      obtain ⟨S6, y0, z1, z2, e9, f9, g9⟩ := ih (i + 1) (sbnd G σ) S5 (vi it) (vi b) (by omega) (cP_a hG g8 (by omega))
      have e9 : Y q (d + 206) 26 50 [vr 123, vi ((i : Int) + 1), vi it, vi b] [] S5 js = _ := e9
      refine ⟨S6, y0, z1, z2, ?_, yFr_tr (yWD_t (yWT_i f3)) (yFr_tr f4 (yFr_tr f6 (yFr_tr (yWD_k f7) (yFr_tr (yWD_t (yWT_i f8)) f9)))), by rw [if_pos z]; exact g9⟩
      rw [k0, if_pos ⟨k1, by omega⟩, if_pos z, e3, YB_ret, w26_82, e4, YB_ret, st, e6, YB_retv, w26_109, e7, YB_retv, w26_116, e8, YB_retv, w26_124, e9]
    · rw [if_neg z]
      obtain ⟨S', y0, y1, y2, e3, f3, g3⟩ := tail i σ S x1 x2 h
      refine ⟨S', y0, y1, y2, ?_, f3, g3⟩
      rw [← e3]
      have k1' : gK S 0 < 67 := by rw [k0]; exact k1
      have z' : ¬ gK S 0 = 13 := by rw [k0]; exact z
      rw [if_pos (show gK S 0 < 67 ∧ 13 < 67 from ⟨k1', by omega⟩), if_neg z']
end YCNL
end YCN
