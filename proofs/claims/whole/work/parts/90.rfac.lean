/-! THE REFERENCE: a factor, and with it the whole expression -/
section YRF
theorem ykr6 : ∀ kd : Nat, kd < 67 → (yKr kd = 6 ↔ kd = 43 ∨ kd = 44 ∨ kd = 45) := by decide
theorem ykr5i : ∀ kd : Nat, kd < 67 → (yKr kd = 5 ↔ kd = 8 ∨ kd = 9 ∨ kd = 37 ∨ kd = 38 ∨ kd = 39 ∨ kd = 40 ∨ kd = 41 ∨ kd = 42) := by decide
theorem ykn6 : yKn 43 = 0 ∧ yKn 44 = 1 ∧ yKn 45 = 2 := by decide
section YRFL
variable {q : yQ} {d : Nat} {js : List xO} {S0 S S5 S1 : yS} {T : yTk} {N u : Nat} {sc : Int} {Rm : Nat → Nat → Nat} {Rx : Nat → Nat} {s dp t b : Nat} {tx : Nat → Nat → List Int} {O : yOp} {P : Nat → Nat → Nat → Nat → yPr} {k k' : yRk}
theorem r238 (hT : yTo T N) (h : rM T N u sc S t b dp k) : Y q (d + 1) 238 0 [vr 129] [] S js = yret q (vi (yb (yKr (T t).1 = 5))) S js := by
  obtain ⟨g1, g2, g3, g4, g5, g6, g7, g8⟩ := rM_t h
  have hN := hT.2.1
  have h67 := (hT.2.2.2.2 t g2).2
  have rng := ykR_rng h67
  have e44 : yr (gI S 44) = t := by rw [g1]; exact yr_eq (by omega) (by omega)
  have k5 := ykr5i _ h67
  have hin : (37 ≤ ykR (T t).1 ∧ ykR (T t).1 ≤ 42) = (37 ≤ (T t).1 ∧ (T t).1 ≤ 42) := by
    unfold ykR
    apply propext
    split
    · omega
    · split <;> omega
  have i1 : Y q d 221 0 [vr 129, vi 8] [] S js = yret q (vi (yb ((T t).1 = 8))) S js := rm_is hT h (kd := 8) (by omega)
  have i2 : Y q d 221 0 [vr 129, vi 9] [] S js = yret q (vi (yb ((T t).1 = 9))) S js := rm_is hT h (kd := 9) (by omega)
  rw [w238_0, e44, if_pos (by omega), Int.toNat_natCast, g7, r191i (l := 37) (u := 42) (by decide) (by decide) (by omega) (by omega) (by omega), YB_ret, w238_19, i1, YB_ret, w238_28, i2, YB_ret, w238_37]
  simp only [yr_yb, yb_eq0, hin, yz0, yz1, if_true]
  by_cases z1 : 37 ≤ (T t).1 ∧ (T t).1 ≤ 42
  · rw [if_neg (fun n => n z1), yb_t (k5.mpr (by omega))]
  · rw [if_pos z1]
    by_cases z2 : (T t).1 = 8
    · rw [if_neg (fun n => n z2), yb_t (k5.mpr (by omega))]
    · rw [if_pos z2]
      by_cases z3 : (T t).1 = 9
      · rw [if_neg (fun n => n z3), yb_t (k5.mpr (by omega))]
      · rw [if_pos z3, yb_f (fun v => by have := k5.mp v; omega)]
/-- where a factor goes -/
theorem v232 (hu : u = 0 ∨ u = 1) (hT : yTo T N) (h : rM T N u sc S t b dp k) : Y q (d + 1) 232 0 [vr 129, vu, vu, vu, vu, vu] [] S js = if (T t).1 = 63 then YB q (Y q d 217 0 [vr 129] [] (sI S 49 0) js) (d + 1) 232 52 [vr 129, vi (ykR (T t).1), vi (gI S (4 + u)), vi ((T t).2.1 : Nat), vj (T t).2.2, vu] [] else if (T t).1 = 64 then YB q (Y q d 235 0 [vr 129] [] (sI S 49 0) js) (d + 1) 232 72 [vr 129, vi (ykR (T t).1), vi (gI S (4 + u)), vi ((T t).2.1 : Nat), vu, vu] [] else if (T t).1 = 62 then YB q (Y q d 236 0 [vr 129, vu, vu, vu, vu, vu, vu] [] (sI S 49 0) js) (d + 1) 232 84 [vr 129, vi (ykR (T t).1), vi (gI S (4 + u)), vi ((T t).2.1 : Nat), vu, vu] [] else if yKr (T t).1 = 6 then YB q (Y q d 217 0 [vr 129] [] (sI S 49 0) js) (d + 1) 232 103 [vr 129, vi (ykR (T t).1), vi (gI S (4 + u)), vi ((T t).2.1 : Nat), vu, vu] [] else if (T t).1 = 46 then YB q (Y q d 237 0 [vr 129] [] (sI S 49 0) js) (d + 1) 232 150 [vr 129, vi (ykR (T t).1), vi (gI S (4 + u)), vi ((T t).2.1 : Nat), vu, vu] [] else if (T t).1 = 52 ∨ (T t).1 = 36 then YB q (Y q d 237 0 [vr 129] [] (sI S 49 0) js) (d + 1) 232 195 [vr 129, vi (ykR (T t).1), vi (gI S (4 + u)), vi ((T t).2.1 : Nat), vu, vu] [] else YB q (Y q d 238 0 [vr 129] [] (sI S 49 0) js) (d + 1) 232 299 [vr 129, vi (ykR (T t).1), vi (gI S (4 + u)), vi ((T t).2.1 : Nat), vu, vu] [] := by
  obtain ⟨g1, g2, g3, g4, g5, g6, g7, g8⟩ := rM_t h
  have hN := hT.2.1
  have h67 := (hT.2.2.2.2 t g2).2
  have rng := ykR_rng h67
  have hk := h.2.2.2.2.2.2.2.1
  have e44 : yr (gI S 44) = t := by rw [g1]; exact yr_eq (by omega) (by omega)
  have ok : 0 ≤ (t : Int) ∧ (t : Int) < 2001 := by omega
  have ek : yr (ykR (T t).1) = ykR (T t).1 := yr_eq (by omega) (by omega)
  have e201 : yr 201 = 201 := rfl
  have e202 : yr 202 = 202 := rfl
  have e200 : yr 200 = 200 := rfl
  have e100 : yr 100 = 100 := rfl
  have e106 : yr 106 = 106 := rfl
  have e36 : yr 36 = 36 := rfl
  have i63 : (ykR (T t).1 = 201) = ((T t).1 = 63) := propext (ykR_inj _ h67 63 (by omega))
  have i64 : (ykR (T t).1 = 202) = ((T t).1 = 64) := propext (ykR_inj _ h67 64 (by omega))
  have i62 : (ykR (T t).1 = 200) = ((T t).1 = 62) := propext (ykR_inj _ h67 62 (by omega))
  have i46 : (ykR (T t).1 = 100) = ((T t).1 = 46) := propext (ykR_inj _ h67 46 (by omega))
  have i52 : (ykR (T t).1 = 106) = ((T t).1 = 52) := propext (ykR_inj _ h67 52 (by omega))
  have i36 : (ykR (T t).1 = 36) = ((T t).1 = 36) := propext (ykR_inj _ h67 36 (by omega))
  have k6 := ykr6 _ h67
  have hin : (43 ≤ ykR (T t).1 ∧ ykR (T t).1 ≤ 45) = (yKr (T t).1 = 6) := by
    rw [k6]
    unfold ykR
    apply propext
    split
    · omega
    · split <;> omega
  have worth : (T t).1 = 63 → gB S 13 t = (T t).2.2 := fun z => (h.1 t g2).2.2.1 (Or.inr z)
  have main : ∀ st : Int, (if 0 ≤ yr (gI S 44) ∧ yr (gI S 44) < 2001 then if yr (ykR (T t).1) = yr 201 then if 0 ≤ yr (gI S 44) ∧ yr (gI S 44) < 2001 then YB q (Y q d 217 0 [vr 129] [] (sI S 49 0) js) (d + 1) 232 52 [vr 129, vi (ykR (T t).1), vi st, vi (gA S 40 (yr (gI S 44)).toNat), vj (gB S 13 (yr (gI S 44)).toNat), vu] [] else Y q (d + 1) 232 48 [vr 129, vi (ykR (T t).1), vi st, vi (gA S 40 (yr (gI S 44)).toNat), vu, vu] [vi (gI S 44), vr 137] (sI S 49 0) js else if yr (ykR (T t).1) = yr 202 then YB q (Y q d 235 0 [vr 129] [] (sI S 49 0) js) (d + 1) 232 72 [vr 129, vi (ykR (T t).1), vi st, vi (gA S 40 (yr (gI S 44)).toNat), vu, vu] [] else if yr (ykR (T t).1) = yr 200 then YB q (Y q d 236 0 [vr 129, vu, vu, vu, vu, vu, vu] [] (sI S 49 0) js) (d + 1) 232 84 [vr 129, vi (ykR (T t).1), vi st, vi (gA S 40 (yr (gI S 44)).toNat), vu, vu] [] else YB q (Y q d 191 0 [vj (yi2l (ykR (T t).1)), vu, vj 43, vu, vj 45, vu] [] (sI S 49 0) js) (d + 1) 232 96 [vr 129, vi (ykR (T t).1), vi st, vi (gA S 40 (yr (gI S 44)).toNat), vu, vu] [] else Y q (d + 1) 232 26 [vr 129, vi (ykR (T t).1), vi st, vu, vu, vu] [vi (gI S 44), vr 136] S js) = if (T t).1 = 63 then YB q (Y q d 217 0 [vr 129] [] (sI S 49 0) js) (d + 1) 232 52 [vr 129, vi (ykR (T t).1), vi st, vi ((T t).2.1 : Nat), vj (T t).2.2, vu] [] else if (T t).1 = 64 then YB q (Y q d 235 0 [vr 129] [] (sI S 49 0) js) (d + 1) 232 72 [vr 129, vi (ykR (T t).1), vi st, vi ((T t).2.1 : Nat), vu, vu] [] else if (T t).1 = 62 then YB q (Y q d 236 0 [vr 129, vu, vu, vu, vu, vu, vu] [] (sI S 49 0) js) (d + 1) 232 84 [vr 129, vi (ykR (T t).1), vi st, vi ((T t).2.1 : Nat), vu, vu] [] else if yKr (T t).1 = 6 then YB q (Y q d 217 0 [vr 129] [] (sI S 49 0) js) (d + 1) 232 103 [vr 129, vi (ykR (T t).1), vi st, vi ((T t).2.1 : Nat), vu, vu] [] else if (T t).1 = 46 then YB q (Y q d 237 0 [vr 129] [] (sI S 49 0) js) (d + 1) 232 150 [vr 129, vi (ykR (T t).1), vi st, vi ((T t).2.1 : Nat), vu, vu] [] else if (T t).1 = 52 ∨ (T t).1 = 36 then YB q (Y q d 237 0 [vr 129] [] (sI S 49 0) js) (d + 1) 232 195 [vr 129, vi (ykR (T t).1), vi st, vi ((T t).2.1 : Nat), vu, vu] [] else YB q (Y q d 238 0 [vr 129] [] (sI S 49 0) js) (d + 1) 232 299 [vr 129, vi (ykR (T t).1), vi st, vi ((T t).2.1 : Nat), vu, vu] [] := by
    intro st
    rw [e44, if_pos ok, if_pos ok, Int.toNat_natCast, g8, ek, e201, e202, e200]
    simp only [i63, i64, i62]
    by_cases z63 : (T t).1 = 63
    · rw [if_pos z63, if_pos z63, worth z63]
    · rw [if_neg z63, if_neg z63]
      by_cases z64 : (T t).1 = 64
      · rw [if_pos z64, if_pos z64]
      · rw [if_neg z64, if_neg z64]
        by_cases z62 : (T t).1 = 62
        · rw [if_pos z62, if_pos z62]
        · rw [if_neg z62, if_neg z62, r191i (l := 43) (u := 45) (by decide) (by decide) (by omega) (by omega) (by omega), YB_ret, w232_99, ek, e100, e106, e36]
          simp only [yr_yb, yb_eq0, hin, i46, i52, i36]
          by_cases z6 : yKr (T t).1 = 6
          · rw [if_neg (fun n => n z6), if_pos z6]
          · rw [if_pos z6, if_neg z6]
            by_cases z46 : (T t).1 = 46
            · rw [if_pos z46, if_pos z46]
            · rw [if_neg z46, if_neg z46]
              by_cases z52 : (T t).1 = 52
              · rw [if_pos z52, if_pos (Or.inl z52)]
              · rw [if_neg z52]
                by_cases z36 : (T t).1 = 36
                · rw [if_pos z36, if_pos (Or.inr z36)]
                · rw [if_neg z36, if_neg (fun v => v.elim z52 z36)]
  rcases hu with rfl | rfl
  · have hk : gK S 2 = 139 := hk
    rw [w232_0, e44, if_pos ok, if_pos hk, Int.toNat_natCast, g7, w232_14, main]
  · have hk : gK S 2 = 145 := hk
    rw [w232_0, e44, if_pos ok, if_neg (by omega), if_pos hk, Int.toNat_natCast, g7, w232_14x, main]
/-- what comes back is what a leaf gave -/
theorem rOut_map {o : Option xRes} {r : yPr} {C : Option xRes → Option xRes} (hC : ∀ (a p : Int32) (S' : yS), C (ythr q (ystp a p) S' js) = ythr q (ystp a p) S' js) (hr : ∀ (n : Int) (S' : yS), C (yret q (vi n) S' js) = yret q (vi n) S' js) (h : rOut q js T N u sc S dp k o r) : rOut q js T N u sc S dp k (C o) r := by
  match r, k, h with
  | .inl p, k, h =>
    intro e
    obtain ⟨S', h1, h2⟩ := h e
    exact ⟨S', by rw [h1, hC], h2⟩
  | .inr (t', b', m), none, h =>
    obtain ⟨S', n, h1, h2, h3⟩ := h
    exact ⟨S', n, by rw [h1, hr], h2, h3⟩
  | .inr (t', b', .inl (n, p)), some (L, X), h =>
    obtain ⟨S', h1, h2⟩ := h
    exact ⟨S', by rw [h1, hC], h2⟩
  | .inr (t', b', .inr x), some (L, X), h =>
    obtain ⟨S', h1, h2, h3⟩ := h
    exact ⟨S', by rw [h1, hr], h2, h3⟩
theorem r232 (hu : u = 0 ∨ u = 1) (hT : yTo T N) (hR : yRoom T N Rm Rx s) (hRx : ∀ t, t < N → Rx t ≤ 2000) (hsc : sc = 0 ∨ sc = 1 ∨ sc = 2) (hno : rNo S0) (hP : dp < 12 → yPok N Rm Rx s tx P ∧ yPok N Rm Rx s tx (yfrom T O P 0)) (hL : dp < 12 → yPlt P) (hs : dp < 12 → rSub q js S0 T N u sc Rm Rx (dp + 1) (fun S => Y q (d + 4) 232 0 [vr 129, vu, vu, vu, vu, vu] [] S js) P) (hs2 : dp < 12 → rSub q js S0 T N u sc Rm Rx (dp + 1) (fun S => Y q (d + 4) 227 0 [vr 129, vu, vu, vu, vu, vu] [] S js) (yfrom T O P 0) ∧ rSub q js S0 T N u sc Rm Rx (dp + 1) (fun S => Y q (d + 3) 227 0 [vr 129, vu, vu, vu, vu, vu] [] S js) (yfrom T O P 0)) : rSub q js S0 T N u sc Rm Rx dp (fun S => Y q (d + 5) 232 0 [vr 129, vu, vu, vu, vu, vu] [] S js) (yfcd T tx (ynmR S0 sc) (decide (sc = 0)) O dp P) := by
  intro S t b k hz h hc base tb hbs
  obtain ⟨g1, g2, g3, g4, g5, g6, g7, g8⟩ := rM_t h
  have hN := hT.2.1
  have h67 := (hT.2.2.2.2 t g2).2
  have rng := ykR_rng h67
  obtain ⟨fn, hn, pn⟩ := rm_no h hu
  have hst := rst_of h
  show rOut q js T N u sc S dp k (Y q (d + 5) 232 0 [vr 129, vu, vu, vu, vu, vu] [] S js) _
  rw [v232 hu hT h]
  obtain ⟨st, hst0⟩ : ∃ st, st = gI S (4 + u) := ⟨_, rfl⟩
  rw [← hst0] at hst ⊢
  have lcap : ∀ L X, k = some (L, X) → L.length < 8000 ∧ X.length < 2000 := fun L X e => by
    have := hc L X e
    have := hRx t g2
    omega
  unfold yfcd
  by_cases z63 : (T t).1 = 63
  · rw [if_pos z63, if_pos z63]
    unfold ynum
    by_cases hb : b = 0
    · subst hb
      rw [if_pos rfl]
      exact rOut_n fun hk => ⟨_, by rw [rm_take0 hT hn, t232], fn⟩
    · rw [if_neg hb]
      obtain ⟨S1, a1, f1, h1, _, _⟩ := rm_take (q := q) (d := d + 3) (js := js) hT hn (by omega) hb hu
      rw [a1, YB_retv, w232_55]
      match k, h1, hst, lcap with
      | none, h1, hst, lcap =>
        obtain ⟨S2, a2, f2, h2, _⟩ := rm_plain (q := q) (d := d + 3) (js := js) (n := 0) (st := st) (v := (T t).2.2) hu h1 (fun L X e => nomatch e)
        exact ⟨S2, 0, by rw [a2, YB_retv, w232_62]; rfl, yFr_tr fn (yFr_tr f1 f2), h2, by omega⟩
      | some (L, X), h1, hst, lcap =>
        obtain ⟨S2, a2, f2, h2, p2⟩ := rm_plain (q := q) (d := d + 3) (js := js) (n := L.length) (st := st) (v := (T t).2.2) hu h1 (fun L' X' e => by
          injection e with e
          injection e with q1 q2
          rw [← q1]
          exact ⟨hst L X rfl, Nat.le_refl _, (lcap L X rfl).1⟩)
        refine ⟨S2, by rw [a2, YB_retv, w232_62]; rfl, yFr_tr fn (yFr_tr f1 f2), ?_, p2⟩
        have h2 : rM T N u sc S2 (t + 1) (b - 1) dp (some (L.take L.length ++ [(0, (T t).2.2)], X)) := h2
        rw [List.take_length] at h2
        show rM T N u sc S2 (t + 1) (b - 1) dp (some (L ++ [(0, (T t).2.2)], X ++ []))
        rw [List.append_nil]
        exact h2
  · rw [if_neg z63, if_neg z63]
    by_cases z64 : (T t).1 = 64
    · rw [if_pos z64, if_pos z64]
      exact rOut_map (C := fun o => YB q o (d + 5) 232 72 [vr 129, vi (ykR (T t).1), vi st, vi ((T t).2.1 : Nat), vu, vu] []) (fun a p S' => t232 ..) (fun n S' => by show YB q (yret q (vi n) S' js) (d + 5) 232 72 _ [] = _; rw [YB_ret, w232_75]) (rOut_tr fn (r235 (d := d + 1) hu hT hn pn z64 (fun L X e => ⟨(lcap L X e).1, (lcap L X e).2, (hbs L X e).2⟩)))
    · rw [if_neg z64, if_neg z64]
      by_cases z62 : (T t).1 = 62
      · rw [if_pos z62, if_pos z62]
        exact rOut_map (C := fun o => YB q o (d + 5) 232 84 [vr 129, vi (ykR (T t).1), vi st, vi ((T t).2.1 : Nat), vu, vu] []) (fun a p S' => t232 ..) (fun n S' => by show YB q (yret q (vi n) S' js) (d + 5) 232 84 _ [] = _; rw [YB_ret, w232_87]) (rOut_tr fn (r236 (d := d + 1) hu hT hsc hno (yFr_tr hz fn) hn pn z62 (fun L X e => (lcap L X e).1)))
      · rw [if_neg z62, if_neg z62]
        by_cases z4 : (T t).1 = 52 ∨ (T t).1 = 36
        · have n6 : ¬ yKr (T t).1 = 6 := by have := ykr6 _ h67; omega
          rw [if_pos z4, if_neg n6, if_neg (by omega), if_pos z4]
          unfold yfrn
          by_cases zd : dp = 12
          · subst zd
            rw [if_pos (Or.inl (Nat.le_refl _))]
            exact rOut_n fun hk => ⟨_, by rw [rm_deep0 hT hn, t232], fn⟩
          · obtain ⟨S1, a1, f1, h1, _, _⟩ := rm_deep (q := q) (d := d + 3) (js := js) hn (by omega) hu
            rw [a1, YB_retv, w232_198]
            by_cases hb : b = 0
            · subst hb
              rw [if_pos (Or.inr rfl)]
              exact rOut_n fun hk => ⟨_, by rw [rm_take0 hT h1, t232], yFr_tr fn f1⟩
            · rw [if_neg (by omega)]
              obtain ⟨S2, a2, f2, h2, _, _⟩ := rm_take (q := q) (d := d + 3) (js := js) hT h1 (by omega) hb hu
              rw [a2, YB_retv, w232_202]
              have fz := yFr_tr fn (yFr_tr f1 f2)
              have ht := yTo_t hT g2 (by omega)
              have A := hR.2.2 t b ht (by omega)
              have A1 := A.1
              have A3 := (A.2.2 (by omega)).1
              have sub := hs (by omega) S2 (t + 1) (b - 1) k (yFr_tr hz fz) h2 (fun L X e => by have := hc L X e; omega) base tb hbs
              have sub : rOut q js T N u sc S2 (dp + 1) k (Y q (d + 4) 232 0 [vr 129, vu, vu, vu, vu, vu] [] S2 js) (P base tb (t + 1) (b - 1)) := sub
              match hp : P base tb (t + 1) (b - 1) with
              | .inl p =>
                rw [hp] at sub
                exact rOut_n fun hk => by
                  obtain ⟨S3, c1, c2⟩ := sub hk
                  exact ⟨S3, by rw [c1, t232], yFr_tr fz c2⟩
              | .inr (t1, b1, m) =>
                rw [hp] at sub
                have e106 : yr 106 = 106 := rfl
                have ek : yr (ykR (T t).1) = ykR (T t).1 := yr_eq (by omega) (by omega)
                have i52 : (ykR (T t).1 = 106) = ((T t).1 = 52) := propext (ykR_inj _ h67 52 (by omega))
                show rOut q js T N u sc S dp k _ (.inr (t1, b1, yfront O (if (T t).1 = 52 then 19 else 18) (T t).2.1 m))
                match k, sub, hst, hc with
                | none, sub, hst, hc =>
                  obtain ⟨S3, n, c1, c2, c3, c4⟩ := sub
                  obtain ⟨u1, u2⟩ := rm_up c3 hu
                  have m1 : ∀ c : Int, Y q (d + 4) 219 0 [vr 129, vi c, vi 3, vi ((T t).2.1 : Nat)] [] (sI S3 46 (gI S3 46 - 1)) js = yretv q (sI S3 46 (gI S3 46 - 1)) js := fun c => rm_mustn u2
                  have yif1 : ∀ (c : Prop) [Decidable c] (z : Option xRes), (if c then z else z) = z := fun c _ z => by split <;> rfl
                  have fzz := yFr_tr fz (yFr_tr c2 u1)
                  have a45 : gI (sI S3 46 (gI S3 46 - 1)) 45 = 0 := u2.2.2.2.2.2.2.2.2.2.1
                  have plain : ∀ v : Int64, ∃ (S4 : yS) (n : Nat), YB q (Y q (d + 4) 233 0 [vr 129, vi st, vj v, vu] [] (sI S3 46 (gI S3 46 - 1)) js) (d + 5) 232 271 [vr 129, vi (ykR (T t).1), vi st, vi ((T t).2.1 : Nat), vi n, vu] [] = yret q (vi ((0 : Nat) : Int)) S4 js ∧ yFr (yWv u) (sI S3 46 (gI S3 46 - 1)) S4 ∧ rM T N u sc S4 t1 b1 dp none ∧ 0 ≤ 1 := by
                    intro v
                    obtain ⟨S4, w1, w2, w3, _⟩ := rm_plain (q := q) (d := d + 3) (js := js) (n := 0) (st := st) (v := v) hu u2 (fun L X e => nomatch e)
                    exact ⟨S4, n, by rw [w1, YB_retv, w232_274]; rfl, w2, w3, by omega⟩
                  have plain2 : ∀ v : Int64, ∃ (S4 : yS), YB q (Y q (d + 4) 233 0 [vr 129, vi st, vj v, vu] [] (sI S3 46 (gI S3 46 - 1)) js) (d + 5) 232 271 [vr 129, vi (ykR (T t).1), vi st, vi ((T t).2.1 : Nat), vi n, vu] [] = yret q (vi ((0 : Nat) : Int)) S4 js ∧ yFr (yWv u) (sI S3 46 (gI S3 46 - 1)) S4 ∧ rM T N u sc S4 t1 b1 dp none := by
                    intro v
                    obtain ⟨S4, w1, w2, w3, _⟩ := rm_plain (q := q) (d := d + 3) (js := js) (n := 0) (st := st) (v := v) hu u2 (fun L X e => nomatch e)
                    exact ⟨S4, by rw [w1, YB_retv, w232_274]; rfl, w2, w3⟩
                  rw [c1, YB_ret, w232_206, m1, m1, yif1, YB_retv, w232_234]
                  split
                  · split
                    · exact ⟨_, 0, by rw [r234n a45, YB_ret, w232_295]; rfl, fzz, u2, by omega⟩
                    · exact ⟨_, 0, by rw [r234n a45, YB_ret, w232_295]; rfl, fzz, u2, by omega⟩
                  · split
                    · obtain ⟨S4, w1, w2, w3⟩ := plain2 (-(gJ (sI S3 46 (gI S3 46 - 1)) 1))
                      exact ⟨S4, 0, w1, yFr_tr fzz w2, w3, by omega⟩
                    · split
                      · obtain ⟨S4, w1, w2, w3⟩ := plain2 1
                        exact ⟨S4, 0, w1, yFr_tr fzz w2, w3, by omega⟩
                      · obtain ⟨S4, w1, w2, w3⟩ := plain2 0
                        exact ⟨S4, 0, w1, yFr_tr fzz w2, w3, by omega⟩
                | some (L, X), sub, hst, hc =>
                  match m, sub, hp with
                  | .inl (n, p), sub, hp =>
                    obtain ⟨S3, c1, c2⟩ := sub
                    exact ⟨S3, by rw [c1, t232], yFr_tr fz c2⟩
                  | .inr y, sub, hp =>
                    obtain ⟨S3, c1, c2, c3, c4⟩ := sub
                    obtain ⟨p1, p2, p3, p4, p5⟩ := (hP (by omega)).1 _ _ _ _ _ _ _ ht hp
                    obtain ⟨y1, y2, y3⟩ := p5 y rfl
                    obtain ⟨cc1, cc2⟩ := hc L X rfl
                    obtain ⟨u1, u2⟩ := rm_up c3 hu
                    have c4 : rP (sI S3 46 (gI S3 46 - 1)) y.2.1 := rP_same c4 rfl rfl
                    have fzz := yFr_tr fz (yFr_tr c2 u1)
                    have c1 : Y q (d + 4) 232 0 [vr 129, vu, vu, vu, vu, vu] [] S2 js = yret q (vi ((ytyn y : Nat) : Int)) S3 js := c1
                    rw [c1, YB_ret, w232_206, ytyn_r, yfront_r]
                    cases hy1 : y.1 with
                    | true =>
                      rw [if_pos rfl, ytyn_1 hy1, if_neg (by decide)]
                      have m0 : Y q (d + 4) 219 0 [vr 129, vi 0, vi 3, vi ((T t).2.1 : Nat)] [] (sI S3 46 (gI S3 46 - 1)) js = ythr q (ystp (Int32.ofInt (3 : Nat)) (Int32.ofInt ((T t).2.1 : Nat))) (sI S3 46 (gI S3 46 - 1)) js := rm_must0 u2
                      exact ⟨_, by rw [m0, t232], fzz⟩
                    | false =>
                      rw [if_neg (show ¬ false = true by decide), ytyn_0 hy1, if_pos (show ((0 : Nat) : Int) = 0 from rfl), rm_must1, YB_retv, w232_234, ek, e106]
                      simp only [i52]
                      match hyo : y.2.1, c4 with
                      | none, c4 =>
                        have c4 : gI (sI S3 46 (gI S3 46 - 1)) 49 = 0 := c4
                        rw [c4, if_pos yr_0]
                        have emit : ∀ op : Nat, ∃ S4 : yS, YB q (Y q (d + 4) 234 0 [vr 129, vi op, vj 0, vu] [] (sI S3 46 (gI S3 46 - 1)) js) (d + 5) 232 292 [vr 129, vi (ykR (T t).1), vi st, vi ((T t).2.1 : Nat), vi ((0 : Nat) : Int), vu] [] = yret q (vi ((0 : Nat) : Int)) S4 js ∧ yFr (yWv u) (sI S3 46 (gI S3 46 - 1)) S4 ∧ rM T N u sc S4 t1 b1 dp (some (L ++ (y.2.2.1 ++ [(op, 0)]), X ++ y.2.2.2.1)) ∧ rP S4 none := by
                          intro op
                          obtain ⟨S4, r4, w1, w2, w3, w4, w5, _⟩ := rm_emit (q := q) (d := d + 4) (js := js) hu u2 (fun L' X' e => by
                            injection e with e
                            injection e with q1 q2
                            rw [← q1, List.length_append]
                            omega) op 0
                          have w3 : rM T N u sc S4 t1 b1 dp (some ((L ++ y.2.2.1) ++ [(op, 0)], X ++ y.2.2.2.1)) := w3
                          rw [List.append_assoc] at w3
                          exact ⟨S4, by rw [w1, YB_ret, w232_295]; rfl, w2, w3, rP_same (S := sI S3 46 (gI S3 46 - 1)) c4 w4 w5⟩
                        by_cases z52 : (T t).1 = 52
                        · rw [if_pos z52, if_pos z52]
                          obtain ⟨S4, w1, w2, w3, w4⟩ := emit 19
                          exact ⟨S4, w1, yFr_tr fzz w2, w3, w4⟩
                        · rw [if_neg z52, if_neg z52]
                          obtain ⟨S4, w1, w2, w3, w4⟩ := emit 18
                          exact ⟨S4, w1, yFr_tr fzz w2, w3, w4⟩
                      | some v, c4 =>
                        obtain ⟨c4a, c4b⟩ := c4
                        obtain ⟨w1, w2, w3⟩ := y1 v hyo
                        rw [w2, w3] at u2
                        rw [c4a, if_neg (by decide), c4b]
                        have plain : ∀ v' : Int64, ∃ S4 : yS, YB q (Y q (d + 4) 233 0 [vr 129, vi st, vj v', vu] [] (sI S3 46 (gI S3 46 - 1)) js) (d + 5) 232 271 [vr 129, vi (ykR (T t).1), vi st, vi ((T t).2.1 : Nat), vi ((0 : Nat) : Int), vu] [] = yret q (vi ((0 : Nat) : Int)) S4 js ∧ yFr (yWv u) (sI S3 46 (gI S3 46 - 1)) S4 ∧ rM T N u sc S4 t1 b1 dp (some (L ++ [(0, v')], X ++ [])) ∧ rP S4 (some v') := by
                          intro v'
                          obtain ⟨S4, b1', b2', b3', b4'⟩ := rm_plain (q := q) (d := d + 3) (js := js) (n := L.length) (st := st) (v := v') hu u2 (fun L' X' e => by
                            injection e with e
                            injection e with q1 q2
                            rw [← q1, List.length_append]
                            exact ⟨hst L X rfl, by omega, by omega⟩)
                          have b3' : rM T N u sc S4 t1 b1 dp (some ((L ++ [(0, v)]).take L.length ++ [(0, v')], X ++ [])) := b3'
                          rw [List.take_append_of_le_length (Nat.le_refl _), List.take_length] at b3'
                          exact ⟨S4, by rw [b1', YB_retv, w232_274]; rfl, b2', b3', b4'⟩
                        by_cases z52 : (T t).1 = 52
                        · rw [if_pos z52, if_pos z52]
                          obtain ⟨S4, b1', b2', b3', b4'⟩ := plain (-v)
                          exact ⟨S4, b1', yFr_tr fzz b2', b3', b4'⟩
                        · rw [if_neg z52, if_neg z52, yr_lcmp]
                          by_cases zv : v = 0
                          · rw [if_pos ((ylcmp_eq _ _).mpr zv)]
                            obtain ⟨S4, b1', b2', b3', b4'⟩ := plain 1
                            have ev : ycal ((18 : Nat) : Int) v v = 1 := by
                              have : ycal ((18 : Nat) : Int) v v = if v = 0 then 1 else 0 := rfl
                              rw [this, if_pos zv]
                            refine ⟨S4, b1', yFr_tr fzz b2', ?_, ?_⟩
                            · show rM T N u sc S4 t1 b1 dp (some (L ++ [(0, ycal ((18 : Nat) : Int) v v)], X ++ []))
                              rw [ev]
                              exact b3'
                            · show rP S4 (some (ycal ((18 : Nat) : Int) v v))
                              rw [ev]
                              exact b4'
                          · rw [if_neg (fun w => zv ((ylcmp_eq _ _).mp w))]
                            obtain ⟨S4, b1', b2', b3', b4'⟩ := plain 0
                            have ev : ycal ((18 : Nat) : Int) v v = 0 := by
                              have : ycal ((18 : Nat) : Int) v v = if v = 0 then 1 else 0 := rfl
                              rw [this, if_neg zv]
                            refine ⟨S4, b1', yFr_tr fzz b2', ?_, ?_⟩
                            · show rM T N u sc S4 t1 b1 dp (some (L ++ [(0, ycal ((18 : Nat) : Int) v v)], X ++ []))
                              rw [ev]
                              exact b3'
                            · show rP S4 (some (ycal ((18 : Nat) : Int) v v))
                              rw [ev]
                              exact b4'
        · rw [if_neg z4, if_neg z4]
          by_cases z46 : (T t).1 = 46
          · have n6 : ¬ yKr (T t).1 = 6 := by have := ykr6 _ h67; omega
            rw [if_neg n6, if_pos z46, if_pos z46]
            unfold ypar
            by_cases zd : dp = 12
            · subst zd
              rw [if_pos (Or.inl (Nat.le_refl _))]
              exact rOut_n fun hk => ⟨_, by rw [rm_deep0 hT hn, t232], fn⟩
            · obtain ⟨S1, a1, f1, h1, _, _⟩ := rm_deep (q := q) (d := d + 3) (js := js) hn (by omega) hu
              rw [a1, YB_retv, w232_153]
              by_cases hb : b = 0
              · subst hb
                rw [if_pos (Or.inr rfl)]
                exact rOut_n fun hk => ⟨_, by rw [rm_take0 hT h1, t232], yFr_tr fn f1⟩
              · rw [if_neg (by omega)]
                obtain ⟨S2, a2, f2, h2, _, _⟩ := rm_take (q := q) (d := d + 3) (js := js) hT h1 (by omega) hb hu
                rw [a2, YB_retv, w232_157]
                have fz := yFr_tr fn (yFr_tr f1 f2)
                have ht := yTo_t hT g2 (by omega)
                have A := hR.2.2 t b ht (by omega)
                have A1 := A.1
                have A3 := (A.2.2 (by omega)).1
                have sub := (hs2 (by omega)).1 S2 (t + 1) (b - 1) k (yFr_tr hz fz) h2 (fun L X e => by have := hc L X e; omega) base tb hbs
                have sub : rOut q js T N u sc S2 (dp + 1) k (Y q (d + 4) 227 0 [vr 129, vu, vu, vu, vu, vu] [] S2 js) (yfrom T O P 0 base tb (t + 1) (b - 1)) := sub
                match hp : yfrom T O P 0 base tb (t + 1) (b - 1) with
                | .inl p =>
                  rw [hp] at sub
                  exact rOut_n fun hk => by
                    obtain ⟨S3, c1, c2⟩ := sub hk
                    exact ⟨S3, by rw [c1, t232], yFr_tr fz c2⟩
                | .inr (t1, b1, m) =>
                  rw [hp] at sub
                  show rOut q js T N u sc S dp k _ (yclo T t1 b1 m)
                  have close : ∀ (S3 : yS) (n : Int) (k3 : yRk), rM T N u sc S3 t1 b1 (dp + 1) k3 → ((T t1).1 = 47 ∧ b1 ≠ 0 → ∃ S4 : yS, YB q (yret q (vi n) S3 js) (d + 5) 232 158 [vr 129, vi (ykR (T t).1), vi st, vi ((T t).2.1 : Nat), vu, vu] [] = yret q (vi n) S4 js ∧ yFr (yWv u) S3 S4 ∧ rM T N u sc S4 (t1 + 1) (b1 - 1) dp k3 ∧ gI S4 49 = gI S3 49 ∧ gJ S4 1 = gJ S3 1) ∧ (¬ ((T t1).1 = 47 ∧ b1 ≠ 0) → YB q (yret q (vi n) S3 js) (d + 5) 232 158 [vr 129, vi (ykR (T t).1), vi st, vi ((T t).2.1 : Nat), vu, vu] [] = ythr q (ystp 1 (Int32.ofInt ((T t1).2.1 : Nat))) S3 js) := by
                    intro S3 n k3 h3
                    obtain ⟨y1, y2⟩ := rm_close (q := q) (d := d + 1) (js := js) hT h3 hu
                    rw [YB_ret, w232_161]
                    refine ⟨fun v => ?_, fun v => by rw [y2 v, t232]⟩
                    obtain ⟨S4, c1, c2, c3, c4, c5⟩ := y1 v
                    obtain ⟨u1, u2⟩ := rm_up c3 hu
                    exact ⟨_, by rw [c1, YB_retv, w232_169], yFr_tr c2 u1, u2, c4, c5⟩
                  unfold yclo
                  match k, sub with
                  | none, sub =>
                    obtain ⟨S3, n, c1, c2, c3, c4⟩ := sub
                    obtain ⟨y1, y2⟩ := close S3 n none c3
                    rw [c1]
                    by_cases z47 : (T t1).1 = 47
                    · rw [if_pos z47]
                      by_cases zb : b1 = 0
                      · rw [if_pos zb]
                        exact rOut_n fun hk => ⟨S3, y2 (fun v => v.2 zb), yFr_tr fz c2⟩
                      · rw [if_neg zb]
                        obtain ⟨S4, d1, d2, d3, _, _⟩ := y1 ⟨z47, zb⟩
                        exact ⟨S4, n, d1, yFr_tr fz (yFr_tr c2 d2), d3, c4⟩
                    · rw [if_neg z47]
                      exact rOut_n fun hk => ⟨S3, y2 (fun v => z47 v.1), yFr_tr fz c2⟩
                  | some (L, X), sub =>
                    by_cases z47 : (T t1).1 = 47
                    · rw [if_pos z47]
                      by_cases zb : b1 = 0
                      · rw [if_pos zb]
                        exact rOut_n fun hk => nomatch hk
                      · rw [if_neg zb]
                        match m, sub with
                        | .inl (n, p), sub =>
                          obtain ⟨S3, c1, c2⟩ := sub
                          exact ⟨S3, by rw [c1, t232], yFr_tr fz c2⟩
                        | .inr y, sub =>
                          obtain ⟨S3, c1, c2, c3, c4⟩ := sub
                          obtain ⟨y1, y2⟩ := close S3 _ _ c3
                          rw [c1]
                          obtain ⟨S4, d1, d2, d3, d4, d5⟩ := y1 ⟨z47, zb⟩
                          exact ⟨S4, d1, yFr_tr fz (yFr_tr c2 d2), d3, rP_same c4 d4 d5⟩
                    · rw [if_neg z47]
                      exact rOut_n fun hk => nomatch hk
          · rw [if_neg z46, if_neg z46]
            by_cases z5 : yKr (T t).1 = 5
            · have n6 : ¬ yKr (T t).1 = 6 := by omega
              have n46 : ¬ (T t).1 = 46 := z46
              rw [if_pos z5, if_neg n6]
              have i5 := r238 (q := q) (d := d + 3) (js := js) hT hn
              rw [i5, YB_ret, w232_302, yr_yb, yb_t z5, if_neg (by decide)]
              by_cases zd : dp < 12
              · exact rOut_map (C := fun o => YB q o (d + 5) 232 311 [vr 129, vi (ykR (T t).1), vi st, vi ((T t).2.1 : Nat), vu, vu] []) (fun a p S' => t232 ..) (fun n S' => by show YB q (yret q (vi n) S' js) (d + 5) 232 311 _ [] = _; rw [YB_ret, w232_314]) (rOut_tr fn (r239 (d := d) hu hT hR (hP zd).2 (yfrom_lt (hL zd)) (fun z => (hs2 z).2) (yFr_tr hz fn) hn hc hbs z5))
              · have ef : yfnc T O (yfrom T O P 0) dp base tb t b = yfnc T O (fun _ _ t _ => .inl (T t).2.1) dp base tb t b := by
                  unfold yfnc
                  by_cases hb : b = 0
                  · rw [if_pos hb, if_pos hb]
                  · rw [if_neg hb, if_neg hb, if_pos (Or.inr (Or.inl (by omega))), if_pos (Or.inr (Or.inl (by omega)))]
                rw [ef]
                exact rOut_map (C := fun o => YB q o (d + 5) 232 311 [vr 129, vi (ykR (T t).1), vi st, vi ((T t).2.1 : Nat), vu, vu] []) (fun a p S' => t232 ..) (fun n S' => by show YB q (yret q (vi n) S' js) (d + 5) 232 311 _ [] = _; rw [YB_ret, w232_314]) (rOut_tr fn (r239 (d := d) (s := s) (tx := tx) hu hT hR (fun _ _ _ _ _ _ _ _ hh => nomatch hh) (fun _ _ _ _ _ _ _ hh => nomatch hh) (fun z => absurd z zd) (yFr_tr hz fn) hn hc hbs z5))
            · rw [if_neg z5]
              by_cases z6 : yKr (T t).1 = 6
              · rw [if_pos z6, if_pos z6]
                unfold yspc
                have z6k := (ykr6 _ h67).mp z6
                by_cases hb : b = 0
                · subst hb
                  rw [if_pos rfl]
                  exact rOut_n fun hk => ⟨_, by rw [rm_take0 hT hn, t232], fn⟩
                · rw [if_neg hb]
                  obtain ⟨S1, a1, f1, h1, q1, q2⟩ := rm_take (q := q) (d := d + 3) (js := js) hT hn (by omega) hb hu
                  have esc : gI S1 50 = sc := h1.2.2.2.2.2.2.2.2.1
                  have esr : yr sc = sc := yr_eq (by omega) (by omega)
                  have e45 : yr 45 = 45 := rfl
                  have ek : yr (ykR (T t).1) = ykR (T t).1 := yr_eq (by omega) (by omega)
                  have i45 : (ykR (T t).1 = 45) = ((T t).1 = 45) := propext (ykR_inj _ h67 45 (by omega))
                  have ekn : yi2l (ykR (T t).1 - 43) = yi2l (yKn (T t).1) := by
                    obtain ⟨v1, v2, v3⟩ := ykn6
                    rcases z6k with e | e | e
                    · rw [e, v1]; rfl
                    · rw [e, v2]; rfl
                    · rw [e, v3]; rfl
                  have p1 : rP S1 none := rP_same pn q1 q2
                  -- the instruction
                  have emit : ∀ (hk : k = none ∨ ¬ (decide (sc = 0) = true ∧ (T t).1 ≠ 45)), rOut q js T N u sc S dp k (Y q (d + 5) 232 130 [vr 129, vi (ykR (T t).1), vi st, vi ((T t).2.1 : Nat), vu, vu] [] S1 js) (.inr (t + 1, b - 1, if decide (sc = 0) = true ∧ (T t).1 ≠ 45 then .inl (2, (T t).2.1) else .inr (false, none, [(5, yi2l (yKn (T t).1))], [], fun e => some (e 5 (yop (T t).1))))) := by
                    intro hk
                    obtain ⟨S2, r2, a2, f2, h2, w1, w2, _⟩ := rm_emit (q := q) (d := d + 4) (js := js) hu h1 (fun L X e => (lcap L X e).1) 5 (yi2l (yKn (T t).1))
                    have a2 : Y q (d + 4) 234 0 [vr 129, vi 5, vj (yi2l (yKn (T t).1)), vu] [] S1 js = yret q (vi r2) S2 js := a2
                    rw [w232_130, ekn, a2, YB_ret, w232_140]
                    match k, h2, hk with
                    | none, h2, hk => exact ⟨S2, 0, rfl, yFr_tr fn (yFr_tr f1 f2), h2, by omega⟩
                    | some (L, X), h2, hk =>
                      rw [if_neg (hk.resolve_left (fun z => nomatch z))]
                      refine ⟨S2, rfl, yFr_tr fn (yFr_tr f1 f2), ?_, rP_same p1 w1 w2⟩
                      have h2 : rM T N u sc S2 (t + 1) (b - 1) dp (some (L ++ [(5, yi2l (yKn (T t).1))], X)) := h2
                      show rM T N u sc S2 (t + 1) (b - 1) dp (some (L ++ [(5, yi2l (yKn (T t).1))], X ++ []))
                      rw [List.append_nil]
                      exact h2
                  rw [a1, YB_retv, w232_106, esc, esr, ek, e45]
                  simp only [i45]
                  by_cases zs : 0 < sc
                  · rw [if_pos zs, rm_must1, YB_retv]
                    exact emit (Or.inr (fun v => by have := of_decide_eq_true v.1; omega))
                  · rw [if_neg zs]
                    by_cases z45 : (T t).1 = 45
                    · rw [if_pos z45, rm_must1, YB_retv]
                      exact emit (Or.inr (fun v => v.2 z45))
                    · rw [if_neg z45]
                      match k, h1, emit with
                      | none, h1, emit =>
                        rw [rm_mustn h1, YB_retv]
                        exact emit (Or.inl rfl)
                      | some (L, X), h1, emit =>
                        rw [if_pos ⟨decide_eq_true (by omega), z45⟩]
                        have m0 : Y q (d + 4) 219 0 [vr 129, vi 0, vi 2, vi ((T t).2.1 : Nat)] [] S1 js = ythr q (ystp (Int32.ofInt (2 : Nat)) (Int32.ofInt ((T t).2.1 : Nat))) S1 js := rm_must0 h1
                        exact ⟨S1, by rw [m0, t232], yFr_tr fn f1⟩
              · rw [if_neg z6, if_neg z6]
                have i5 := r238 (q := q) (d := d + 3) (js := js) hT hn
                rw [i5, YB_ret, w232_302, yr_yb, yb_f z5, if_pos (by decide)]
                exact rOut_n fun hk => ⟨_, rm_bad hT hn rfl rfl, fn⟩
/-- a factor takes a token at least -/
theorem yfcd_lt {nm : Int64 → Option (Nat × Nat × Bool)} {decl : Bool} (hL : dp < 12 → yPlt P) : yPlt (yfcd T tx nm decl O dp P) := by
  have lop : ∀ f base tb t b (a : yAr) t' b' a', dp < 12 → yargs T (yfrom T O P 0) f base tb t b a = .inr (t', b', a') → b' ≤ b := by
    intro f base tb t b a t' b' a' hd
    have h := yfrom_lt (O := O) (T := T) (hL hd)
    induction f generalizing base tb t b a with
    | zero =>
      intro e
      injection e with e
      injection e with _ e
      injection e with e _
      omega
    | succ f ih =>
      intro e
      unfold yargs at e
      match hp : yfrom T O P 0 (base + yarl a) (tb + yart a) t b with
      | .inl p =>
        rw [hp] at e
        nomatch e
      | .inr (t1, b1, m) =>
        rw [hp] at e
        have h1 := h _ _ _ _ _ _ _ hp
        have e : (if (T t1).1 = 48 then (if b1 = 0 then (.inl (T t1).2.1 : Nat ⊕ (Nat × Nat × yAr)) else yargs T (yfrom T O P 0) f base tb (t1 + 1) (b1 - 1) (yapp a m)) else .inr (t1, b1, yapp a m)) = .inr (t', b', a') := e
        split at e
        · split at e
          · nomatch e
          · have := ih _ _ _ _ _ e
            omega
        · injection e with e
          injection e with _ e
          injection e with e _
          omega
  have clo : ∀ {t1 b1 t' b' : Nat} {m m' : yMn}, yclo T t1 b1 m = .inr (t', b', m') → b' < b1 ∨ b' ≤ b1 ∧ b1 = 0 := by
    intro t1 b1 t' b' m m' e
    unfold yclo at e
    split at e
    · split at e
      · nomatch e
      · have := (yinr e).2.1
        omega
    · nomatch e
  intro base tb t b t' b' m e
  unfold yfcd at e
  split at e
  · unfold ynum at e
    split at e
    · nomatch e
    · have := (yinr e).2.1
      omega
  · split at e
    · unfold ytxt at e
      split at e
      · nomatch e
      · have := (yinr e).2.1
        omega
    · split at e
      · unfold ynme at e
        split at e
        · nomatch e
        · have := (yinr e).2.1
          omega
      · split at e
        · unfold yfrn at e
          split at e
          · nomatch e
          · match hp : P base tb (t + 1) (b - 1) with
            | .inl p =>
              rw [hp] at e
              nomatch e
            | .inr (t1, b1, m1) =>
              rw [hp] at e
              have h1 := hL (by omega) _ _ _ _ _ _ _ hp
              have := (yinr (m := yfront O (if (T t).1 = 52 then 19 else 18) (T t).2.1 m1) e).2.1
              omega
        · split at e
          · unfold ypar at e
            split at e
            · nomatch e
            · match hp : yfrom T O P 0 base tb (t + 1) (b - 1) with
              | .inl p =>
                rw [hp] at e
                nomatch e
              | .inr (t1, b1, m1) =>
                rw [hp] at e
                have h1 := yfrom_lt (O := O) (T := T) (hL (by omega)) _ _ _ _ _ _ _ hp
                have := clo (m := m1) e
                omega
          · split at e
            · unfold yfnc at e
              split at e
              · nomatch e
              · split at e
                · nomatch e
                · match hp : yargs T (yfrom T O P 0) 100 base tb (t + 2) (b - 1 - 1) (.inr ([], [], [], fun _ => some [])) with
                  | .inl p =>
                    rw [hp] at e
                    nomatch e
                  | .inr (t1, b1, a) =>
                    rw [hp] at e
                    have h1 := lop _ _ _ _ _ _ _ _ _ (by omega) hp
                    have := clo (m := yfun O (T t).1 (T t).2.1 a) e
                    omega
            · split at e
              · unfold yspc at e
                split at e
                · nomatch e
                · have := (yinr e).2.1
                  omega
              · nomatch e
end YRFL
end YRF
