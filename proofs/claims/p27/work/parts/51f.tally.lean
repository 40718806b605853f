/-! TOTALS TAKE A ROW IN; GROUPS BREAK -/
section YTY
theorem cV_B {S : yS} {m t : Nat} {v : yVal} {x : Int64} (hm : m ≠ t) (h : cV S m v) : cV (sB S 9 t x) m v := by
  match v, h with
  | .inl y, h => exact ⟨h.1, by rw [gB_self, if_neg hm]; exact h.2.1, h.2.2⟩
  | .inr l, h => exact h
theorem cV_Bt {S : yS} {t : Nat} {y x : Int64} (h : cV S t (.inl y)) : cV (sB S 9 t x) t (.inl x) := ⟨h.1, by rw [gB_self, if_pos rfl], h.2.2⟩
theorem yk6 : yr ((xLf xSm (yr (yKo 6)).toNat).toInt) = 23 ∧ 0 ≤ yr (yKo 6) ∧ yr (yKo 6) < 67 := by decide
theorem yk7 : yr ((xLf xSm (yr (yKo 7)).toNat).toInt) = 24 ∧ 0 ≤ yr (yKo 7) ∧ yr (yKo 7) < 67 := by decide
section YTYL
variable {q : yQ} {d : Nat} {js : List xO} {S : yS} {h n np : Nat} {f : Nat → Int64} {o : Nat → Nat} {P k : Nat} {M : zSt}
/-- one total takes its value in -/
theorem tIn (hp : pIn h n f S) (g34 : gI S 34 = 0) {t : Nat} (ht : t < 3) {old v : Int64} (c1 : cV S 1 (.inl v)) (ct : cV S (16 + t) (.inl old)) : ∃ S' : yS, Y q (d + 3) 128 2 [vr 131, vi (t : Int)] [] S js = Y q (d + 3) 128 2 [vr 131, vi ((t : Int) + 1)] [] S' js ∧ yFr pW S S' ∧ (∀ i, gI S' i = gI S i) ∧ (gA S' 33 = gA S 33 ∧ gA S' 34 = gA S 34 ∧ gA S' 35 = gA S 35) ∧ (∀ (m : Nat) (w : yVal), m ≠ 16 + t → m ≠ 28 → cV S m w → cV S' m w) ∧ cV S' (16 + t) (.inl (if t = 2 then old + 1 else old + v)) := by
  have z0 : yr 0 = 0 := rfl
  have n1 : ¬ yr 1 = 0 := by decide
  have et := yrn (n := t) (by omega)
  have tc : t = 0 ∨ t = 1 ∨ t = 2 := by omega
  have g17 : gA S 17 t = ((2 * t : Nat) : Int) := by
    rw [hp.a17 t ht]
    rcases tc with rfl | rfl | rfl <;> rfl
  have ho : zA0.getD (2 * t) 0 = 2 ∧ zA0.getD (2 * t + 1) 0 = 30 ∧ zB0.getD (2 * t) 0 = 1 := by
    rcases tc with rfl | rfl | rfl <;> decide
  obtain ⟨S1, a75, f1, c28⟩ := q75 (q := q) (d := d) (js := js) (s := 2 * t) (fr := 1) (op := 2) (ar := 1) (v := .inl v) hp (by omega) ho.1 ho.2.1 ho.2.2 (Or.inl ⟨rfl, by decide⟩) (by omega) c1
  have ct1 : cV S1 (16 + t) (.inl old) := cV_fs f1 (by omega) ct
  have p1 := hp.fr (pW_s f1)
  have gc : gC S1 1 t = if t = 2 then 7 else 6 := by
    rw [p1.c1 t ht]
    rcases tc with rfl | rfl | rfl <;> rfl
  have e16 : yr (16 + (t : Int)) = ((16 + t : Nat) : Int) := by rw [yr_eq] <;> omega
  have e28 : (yr 28).toNat = 28 := rfl
  have k28 : 0 ≤ yr 28 ∧ yr 28 < 92 := by decide
  obtain ⟨x, hx⟩ : ∃ x : Int64, x = if t = 2 then old + 1 else old + v := ⟨_, rfl⟩
  have key : ∀ fl : Int, Y q (d + 2) 129 0 [vr 131, vr (gC S1 1 t), vi (16 + (t : Int)), vi fl, vu] [] S1 js = yretv q (sB S1 9 (16 + t) x) js := by
    intro fl
    rw [gc, hx]
    by_cases z : t = 2
    · rw [if_pos z, if_pos z, w129_0 (d := d + 1), if_pos (by decide), w318_0, if_pos (by decide), YB_ret, w129_7 (d := d + 1), if_pos yk7.2, yk7.1, if_neg (by decide), if_pos rfl, e16, if_pos (by omega), if_pos (by omega), Int.toNat_natCast, ct1.2.1]
    · rw [if_neg z, if_neg z, w129_0 (d := d + 1), if_pos (by decide), w318_0, if_pos (by decide), YB_ret, w129_7 (d := d + 1), if_pos yk6.2, yk6.1, if_pos rfl, e16, if_pos (by omega), if_pos k28, if_pos (by omega), Int.toNat_natCast, ct1.2.1, e28, c28.2.1]
  obtain ⟨S2, hS2⟩ : ∃ S2, S2 = sA (sB S1 9 (16 + t) x) 36 t (yi2z 1) := ⟨_, rfl⟩
  refine ⟨S2, ?_, ?_, fun i => ?_, ⟨?_, ?_, ?_⟩, fun m w h1 h2 hw => ?_, ?_⟩
  · have g67 : gC S1 1 t < 67 := by
      rw [gc]
      split <;> decide
    have fin : Y q (d + 3) 128 86 [vr 131, vi (t : Int)] [] (sB S1 9 (16 + t) x) js = Y q (d + 3) 128 2 [vr 131, vi ((t : Int) + 1)] [] S2 js := by
      rw [w128_86, et, if_pos (by omega), Int.toNat_natCast, hS2]
    rw [w128_2 (d := d + 2), et, hp.i9, if_pos (by show (t : Int) < 3; omega), g34, if_pos z0, if_pos (by omega), Int.toNat_natCast, g17, a75, YB_ret, w128_49 (d := d + 2), if_neg n1, et, Int.toNat_natCast, if_pos ⟨by omega, g67⟩, if_pos (by omega)]
    split
    · rw [key 1, YB_retv, fin]
    · rw [key 0, YB_retv, fin]
  · rw [hS2]
    exact yFr_tr (pW_s f1) (yFr_tr (yFr_B rfl) pW_36)
  · rw [hS2]
    exact f1.1.1 i (by simp [yWm])
  · rw [hS2]
    exact f1.1.2.2.2.1 33 rfl
  · rw [hS2]
    exact f1.1.2.2.2.1 34 rfl
  · rw [hS2]
    exact f1.1.2.2.2.1 35 rfl
  · rw [hS2]
    exact cV_36 (cV_B h1 (cV_fs f1 h2 hw))
  · rw [hS2, ← hx]
    exact cV_36 (cV_Bt ct1)
/-- all totals -/
theorem cIn (hs : wS h n np f o k M S) {v : Int} (hv : -1000 ≤ v ∧ v ≤ 1000) (hM : (-100000 ≤ M.2.1 ∧ M.2.1 ≤ 100000) ∧ (-100000 ≤ M.2.2.1 ∧ M.2.2.1 ≤ 100000) ∧ (-100000 ≤ M.2.2.2 ∧ M.2.2.2 ≤ 100000)) (c1 : cV S 1 (wI v)) : ∃ S' : yS, Y q (d + 3) 128 0 [vr 131, vu] [] S js = yretv q S' js ∧ wS h n np f o k (M.1, M.2.1 + v, M.2.2.1 + v, M.2.2.2 + 1) S' ∧ wK S S' := by
  obtain ⟨P, hP, ht0, hr⟩ := hs
  obtain ⟨hb, ⟨g35, g36, g38, g32, g33⟩, ⟨v16, v17, v18, v24, v25⟩, ho, hpap, hP30, hl1, hl2⟩ := id hr
  obtain ⟨S1, a1, f1, i1, ⟨A1, B1, C1⟩, k1, w1⟩ := tIn (q := q) (d := d) (js := js) hb.1 hb.2.1 (t := 0) (by omega) c1 v16
  obtain ⟨S2, a2, f2, i2, ⟨A2, B2, C2⟩, k2, w2⟩ := tIn (q := q) (d := d) (js := js) (hb.1.fr f1) ((i1 34).trans hb.2.1) (t := 1) (by omega) (k1 1 _ (by omega) (by omega) c1) (k1 17 _ (by omega) (by omega) v17)
  obtain ⟨S3, a3, f3, i3, ⟨A3, B3, C3⟩, k3, w3⟩ := tIn (q := q) (d := d) (js := js) ((hb.1.fr f1).fr f2) ((i2 34).trans ((i1 34).trans hb.2.1)) (t := 2) (by omega) (k2 1 _ (by omega) (by omega) (k1 1 _ (by omega) (by omega) c1)) (k2 18 _ (by omega) (by omega) (k1 18 _ (by omega) (by omega) v18))
  have f03 := yFr_tr f1 (yFr_tr f2 f3)
  have i03 : ∀ i, gI S3 i = gI S i := fun i => (i3 i).trans ((i2 i).trans (i1 i))
  have w1 : cV S1 16 (.inl (yi2l M.2.1 + yi2l v)) := w1
  have w2 : cV S2 17 (.inl (yi2l M.2.2.1 + yi2l v)) := w2
  have w3 : cV S3 18 (.inl (yi2l M.2.2.2 + 1)) := w3
  rw [yi2l_add (by omega) (by omega)] at w1 w2
  rw [yi2l_1, yi2l_add (by omega) (by omega)] at w3
  refine ⟨S3, ?_, ⟨P, hP, ht0, wR_mk hr f03 (fun i _ => i03 i) ((i03 32).trans g32) (A3.trans (A2.trans A1)) (B3.trans (B2.trans B1)) rfl (k3 _ _ (by omega) (by omega) (k2 _ _ (by omega) (by omega) w1)) (k3 _ _ (by omega) (by omega) w2) w3 (k3 _ _ (by omega) (by omega) (k2 _ _ (by omega) (by omega) (k1 _ _ (by omega) (by omega) v24))) (k3 _ _ (by omega) (by omega) (k2 _ _ (by omega) (by omega) (k1 _ _ (by omega) (by omega) v25)))⟩, i03 30, i03 31, C3.trans (C2.trans C1), B3.trans (B2.trans B1), fun m w hm hw => k3 m w (by omega) (by omega) (k2 m w (by omega) (by omega) (k1 m w (by omega) (by omega) hw))⟩
  have e1 : ((0 : Nat) : Int) = 0 := rfl
  have e2 : ((1 : Nat) : Int) = 0 + 1 := rfl
  have e3 : ((2 : Nat) : Int) = 0 + 1 + 1 := rfl
  rw [e1] at a1
  rw [e2] at a2
  rw [e3] at a3
  rw [w128_0, a1, a2, a3, w128_2 (d := d + 2), ((hb.1.fr f03)).i9, if_neg (by decide)]
/-- the groups that break ahead of a row -/
theorem cBreak (hs : wS h n np f o k M S) {p : Nat} (hp : p < n) (hn : n ≤ 23) (ho : ∀ i, i < n → o i < n) {G : Nat → Int} (hG : ∀ i, i < n → f (2 * o i) = yi2l (G i) ∧ 0 ≤ G i ∧ G i ≤ 3) : ∃ S' : yS, Y q (d + 2) 125 0 [vr 131, vi p, vu, vu] [] S js = yret q (vi ((if zNew G p = true then 0 else 1 : Nat) : Int)) S' js ∧ wS h n np f o k M S' ∧ gI S' 30 = gI S 30 ∧ gI S' 31 = gI S 31 ∧ gA S' 34 = gA S 34 ∧ gA S' 35 0 = gA S 35 0 + (if zNew G p = true then 1 else 0) := by
  obtain ⟨P, hP, ht0, hr⟩ := hs
  obtain ⟨hb, ⟨g35, g36, g38, g32, g33⟩, ⟨v16, v17, v18, v24, v25⟩, hO, hpap, hP30, hl1, hl2⟩ := id hr
  have hvG : vG S [0] := ⟨hb.1.i24, fun j x hj => by
    match j, hj with
    | 0, hj => cases hj; exact hb.1.a25 0 (by decide)
    | j + 1, hj => cases hj⟩
  have a := c125 (q := q) (d := d) (js := js) (S := S) (Gs := [0]) (p := p) (o := o) hvG (by decide) (fun x hx => by
    rw [hb.1.i10]
    simp at hx
    omega) (by rw [hb.1.i10]; decide) (by omega) (fun i hi => ⟨hO i (by omega), by have := ho i (by omega); omega⟩)
  have g20 : gA S 20 0 = 0 := hb.1.a20 0 (by decide)
  have cell : ∀ i, i < n → ycel S (o i) 0 = yi2l (G i) := fun i hi => by
    unfold ycel
    rw [hb.1.i10, hb.1.b7, ← (hG i hi).1]
    congr 1
    omega
  have eg : (if p = 0 then 0 else (ybr (ycc S (o (p - 1)) (o p)) (fun g => [0].getD g 0) [0].length 0).getD [0].length) = if zNew G p = true then 0 else 1 := by
    unfold zNew
    by_cases z : p = 0
    · rw [if_pos z, z]
      rfl
    · rw [if_neg z]
      have e1 : ycc S (o (p - 1)) (o p) 0 = ycmp (yi2l (G (p - 1))) (yi2l (G p)) := by
        unfold ycc
        rw [g20, if_pos (by rfl), cell _ (by omega), cell _ hp]
      have e2 : (ybr (ycc S (o (p - 1)) (o p)) (fun g => [0].getD g 0) [0].length 0).getD [0].length = if ycc S (o (p - 1)) (o p) 0 = 0 then 1 else 0 := by
        show (ybr (ycc S (o (p - 1)) (o p)) (fun g => [0].getD g 0) 1 0).getD 1 = _
        unfold ybr
        show (if ycc S (o (p - 1)) (o p) 0 = 0 then _ else _ : Option Nat).getD 1 = _
        split <;> rfl
      have e3 : (Nat.beq p 0 || !decide (G (p - 1) = G p)) = !decide (G (p - 1) = G p) := by
        cases e : Nat.beq p 0 with
        | false => rfl
        | true => exact absurd (Nat.eq_of_beq_eq_true e) z
      rw [e2, e1, e3]
      obtain ⟨-, x1, x2⟩ := hG (p - 1) (by omega)
      obtain ⟨-, y1, y2⟩ := hG p hp
      by_cases y : G (p - 1) = G p
      · rw [y, decide_eq_true rfl]
        have : ycmp (yi2l (G p)) (yi2l (G p)) = 0 := by
          unfold ycmp
          rw [if_neg (fun z => absurd z (by rw [Int64.lt_iff_toInt_lt]; omega)), if_pos rfl]
        rw [this]
        rfl
      · rw [decide_eq_false y]
        have ny : ¬ yi2l (G (p - 1)) = yi2l (G p) := fun e => y (yi2l_inj (by omega) (by omega) e)
        have : ¬ ycmp (yi2l (G (p - 1))) (yi2l (G p)) = 0 := by
          unfold ycmp
          by_cases w : yi2l (G (p - 1)) < yi2l (G p)
          · rw [if_pos w]
            decide
          · rw [if_neg w, if_neg ny]
            decide
        rw [if_neg this]
        rfl
  rw [eg] at a
  refine ⟨_, a, ⟨P, hP, ht0, wR_mk hr (yFr_mono (W := fun s k => s == 3 && k == 35) (fun s k hk => by
    cases e : (s == 3 && k == 35) with
    | false => rfl
    | true =>
      rw [Bool.and_eq_true, beq_iff_eq, beq_iff_eq] at e
      obtain ⟨rfl, rfl⟩ := e
      cases hk) ⟨fun _ _ => rfl, fun _ _ => rfl, fun _ _ => rfl, fun j hj => yup_ne _ _ (fun e => by rw [e] at hj; cases hj), fun _ _ => rfl, fun _ _ => rfl⟩) (fun _ _ => rfl) g32 rfl rfl rfl v16 v17 v18 v24 v25⟩, rfl, rfl, rfl, ?_⟩
  show yup S.2.2.2.1 35 (yinc _ _ (gA S 35)) 35 0 = _
  rw [yup_self]
  unfold yinc
  by_cases z : zNew G p = true
  · rw [if_pos z, if_pos (by decide), if_pos z]
  · rw [if_neg z, if_neg (by decide), if_neg z, Int.add_zero]
end YTYL
end YTY
