/-! THE REFERENCE COMPILES -/
section YSQ
def yWC (s k : Nat) : Bool := yWR2 s k || yWq 0 s k || (s == 0 && (k == 39 || k == 40 || k == 44 || k == 45 || k == 46 || k == 47 || k == 48 || k == 59 || k == 60 || k == 61 || k == 66 || k == 68)) || (s == 3 && k == 51)
/-- how the reference stands when it has read a program -/
def rFn (G : yGx) (S : yS) (code : Int) (σ : yPS) : Prop := match σ with
  | .inl p => code = 1 ∧ gI S 59 = yr (p : Int) ∧ gI S 48 = 0 ∧ gI S 4 = 0
  | .inr (_, .inl (n, p)) => code = yr (n : Int) ∧ gI S 59 = yr (p : Int) ∧ gI S 48 = 0 ∧ gI S 4 = 0
  | .inr (t, .inr V) => code = 0 ∧ gI S 59 = -1 ∧ gI S 48 = 1 ∧ rVl S V ∧ rOk G 0 t V ∧ rK S 0 (zC V) ∧ rX S 0 (zX V) ∧ vGd G V ∧ gI S 60 = sht V 1 ∧ gI S 61 = sht V 2
section YSQL
variable {q : yQ} {d : Nat} {js : List xO} {G : yGx} {V : yPV} {S S' S0 : yS} {t : Nat}
theorem yWC_r (h : yFr yWR2 S S') : yFr yWC S S' := yFr_mo h fun s k e => by
  unfold yWC at e
  simp only [Bool.or_eq_false_iff] at e
  exact e.1.1.1
theorem yWC_q (h : yFr (yWq 0) S S') : yFr yWC S S' := yFr_mo h fun s k e => by
  unfold yWC at e
  simp only [Bool.or_eq_false_iff] at e
  exact e.1.1.2
/-- heights -/
theorem r253l {I P : List yIe} {Gd : Nat → Nat → Prop} {sub : Nat → Nat → Nat → Nat → Prop} {x0 : Int} (hs : ∀ i j a b, sub i j a b → i ≤ j ∧ a ≤ b) (hP : rPl S P) (hl : P.length ≤ 4000) : ∀ (f i j a b : Nat) (x : Int), yIl (yIw I P Gd false sub) f i j a b → j ≤ I.length → b < P.length → Y q d 253 11 [vr 129, vi x0, vi x, vi a] [] S js = Y q d 253 11 [vr 129, vi x0, vi (shtl I f i j x), vi b] [] S js
  | 0, i, j, a, b, x, h, hj, hb => by
    obtain ⟨h1, h2⟩ := h
    rw [h2]
    rfl
  | f + 1, i, j, a, b, x, h, hj, hb => by
    rcases h with ⟨h1, h2⟩ | ⟨e, a', h1, h2, h3⟩
    · rw [h1, h2]
      unfold shtl
      rw [if_neg (by omega)]
    · have l1 := yIw_le hs _ _ _ _ h2
      have l2 := yIl_le (fun i e a a' h => (yIw_le hs i e a a' h).2) f e j a' b h3
      have ih := fun y => r253l (x0 := x0) hs hP hl f e j a' b y h3 hj hb
      obtain ⟨u, v, u1, u2, u3, u4, u5⟩ := h2
      have ea : yr (a : Int) = a := yr_eq (by omega) (by omega)
      have ok : 0 ≤ (a : Int) ∧ (a : Int) < 4000 := by omega
      obtain ⟨p1, p2, _⟩ := hP.2 a v u2
      have gu : I.getD i dIe = u := getD_of u1
      have z0 : yr 0 = 0 := rfl
      have z11 : yr 11 = 11 := rfl
      unfold shtl
      rw [if_pos (by omega), gu, u3]
      have hk : u.1 = 22 ∨ u.1 = 24 := by
        rcases u4 with u4 | u4 | u4
        · cases u4
        · exact Or.inl u4
        · exact Or.inr u4
      rcases u5 with ⟨k1, k2, k3, _⟩ | ⟨k1, k2, k3, _, _, k6, k7⟩ | ⟨k1, _⟩ | ⟨k1, _⟩ | ⟨k1, _⟩ | ⟨k1, _⟩
      · have g52 : yr (gA S 52 a) = 0 := by rw [p1, k2]; rfl
        have g53 : gA S 53 a = (a' : Int) := by rw [p2, k3]
        rw [w253_11, ea, if_pos ok, Int.toNat_natCast, g52, if_neg (by rw [z11]; omega), if_pos ok, if_pos rfl, if_pos ok, if_pos rfl, if_pos ok, g53, if_neg (by omega)]
        exact ih _
      · have g52 : yr (gA S 52 a) = 4 := by rw [p1, k2]; rfl
        have g53 : gA S 53 a = (u.2.1 : Int) := by rw [p2, k3]
        have e1 : (a : Int) + 1 = ((a' : Nat) : Int) := by omega
        rw [w253_11, ea, if_pos ok, Int.toNat_natCast, g52, if_neg (by rw [z11]; omega), if_pos ok, if_neg (by omega), if_pos ok, if_pos ok, if_neg (by omega), g53, e1, if_pos k1]
        exact ih _
      · omega
      · omega
      · omega
      · omega
theorem r253 {j : Nat} (hV : rVl S V) (hg : vGd G V) (hl : (zP V).length ≤ 4000) (hj : j = 1 ∨ j = 2) : Y q d 253 0 [vr 129, vi (gA S 51 j), vu, vu] [] S js = yret q (vi (sht V j)) S js := by
  have hb := hV.2.2.2.2.2.2 j (by omega)
  have er : rbn j = j := by rcases hj with rfl | rfl <;> rfl
  rw [er] at hb
  have em : yr (-1) = -1 := rfl
  unfold sht
  cases hz : zB V j with
  | none =>
    rw [hz] at hb
    have hb : gA S 51 j = -1 := hb
    rw [hb, w253_0, if_pos rfl]
  | some y =>
    obtain ⟨i, a⟩ := y
    rw [hz] at hb
    have hb : gA S 51 j = (a : Int) := hb
    obtain ⟨x, z, b, k1, k2, k3, k4, k5, k6⟩ := hg.2.2.2.2.2 j i a hz
    have bl := (List.getElem?_eq_some_iff.mp k5).1
    have al := (yIts_le 12 _ _ _ _ k4).2
    have ea : yr (a : Int) = a := yr_eq (by omega) (by omega)
    have eb : yr (b : Int) = b := yr_eq (by omega) (by omega)
    have ok : 0 ≤ (b : Int) ∧ (b : Int) < 4000 := by omega
    have bd : decide (j ≠ 1 ∧ j ≠ 2) = false := decide_eq_false (by omega)
    rw [bd] at k4
    have k4 : yIl (yIw (zI V) (zP V) (sGd G V) false (yIts (zI V) (zP V) (sGd G V) false 11)) 2000 (i + 1) x.2.2.2 a b := k4
    have lp := r253l (q := q) (d := d) (js := js) (x0 := (a : Int)) (yIts_le 11) hV.2.2.2.2.2.1 hl 2000 _ _ _ _ 0 k4 k3 bl
    have g52 : yr (gA S 52 b) = yr 11 := by rw [(hV.2.2.2.2.2.1.2 b z k5).1, k6]; rfl
    rw [hb, w253_0, ea, em, if_neg (by omega), lp, w253_11, eb, if_pos ok, Int.toNat_natCast, if_pos g52]
    show yret q (vi (shtl (zI V) 2000 (i + 1) x.2.2.2 0)) S js = yret q (vi (shtl (zI V) 2000 (i + 1) ((zI V).getD i dIe).2.2.2 0)) S js
    rw [getD_of k1]
/-- no band yet -/
theorem r205l : ∀ (m i : Nat) (S : yS), i + m = 11 → Y q (d + 1) 205 61 [vr 129, vi i, vu] [] S js = YB q (Y q d 214 0 [vr 129, vi 0] [] (sAr S 51 (fun j => if i ≤ j ∧ j < 11 then -1 else gA S 51 j)) js) (d + 1) 205 84 [vr 129, vi 0, vu] []
  | 0, i, S, h => by
    have e : (fun j => if i ≤ j ∧ j < 11 then (-1 : Int) else gA S 51 j) = gA S 51 := by
      funext j
      rw [if_neg (by omega)]
    rw [w205_61, if_neg (by rw [yr_eq, yr_eq] <;> omega), e, sAr_sf]
  | m + 1, i, S, h => by
    have ei : yr (i : Int) = i := yr_eq (by omega) (by omega)
    have e1 : (i : Int) + 1 = ((i + 1 : Nat) : Int) := by omega
    rw [w205_61, if_pos (by rw [yr_eq, yr_eq] <;> omega), ei, if_pos (by omega), Int.toNat_natCast, e1, r205l m (i + 1) _ (by omega), sAr_sA]
    congr 4
    funext j
    rw [gA_self]
    by_cases z : j = i
    · rw [if_neg (by omega), if_pos z, if_pos (by omega)]
    · rw [if_neg z]
      by_cases y : i ≤ j ∧ j < 11
      · rw [if_pos (by omega), if_pos y]
      · rw [if_neg (by omega), if_neg y]
/-- what was thrown is told -/
theorem r205c {x0 : Int} {a b : Int32} : Y q d 205 184 [vr 129, vi x0, vu] [vr (179 + js.length)] S (js ++ [ystp a b]) = yret q (vi a.toInt) (sI (sI (sI S 59 b.toInt) 4 0) 40 0) (js ++ [ystp a b]) := by
  rw [w205_184, j205_186, w205_189, j205_192, w205_195]
theorem h67_0 (h : sIn S0) (hl : (ytq (tb S0) (gI S0 12).toNat).length ≤ 2001) : ∀ t, (gT (sG0 S0) t).1 < 67 := fun t => by
  have hT := (gOk_0 h hl).1
  by_cases z : t < gN (sG0 S0)
  · exact (hT.2.2.2.2 t z).2
  · show ((ytq (tb S0) (gI S0 12).toNat)[t]?.getD (66, 0, 0)).1 < 67
    rw [List.getElem?_eq_none (by have z : ¬ t < (ytq (tb S0) (gI S0 12).toNat).length := z; omega)]
    decide
theorem rEm_V {S : yS} (h : rEm S) (h3 : gI S 53 = 0 ∧ gI S 54 = 40 ∧ gI S 55 = 20) : rVl S yV0 := by
  obtain ⟨h51, h52, h56, h57, h58, hA⟩ := h
  refine ⟨h3, ⟨h56, fun j x hj => (nomatch hj)⟩, ⟨h57, fun j x hj => (nomatch hj)⟩, ⟨h51, fun j x hj => (nomatch hj)⟩, ⟨h52, fun j x hj => (nomatch hj)⟩, ⟨h58, fun j x hj => (nomatch hj)⟩, fun j hj => ?_⟩
  show gA S 51 (rbn j) = -1
  refine hA _ ?_
  unfold rbn
  split
  · omega
  · split <;> omega
theorem r205 (h0 : sIn S0) (h40 : gI S 40 = gI S0 12) (hb : ∀ j, j < (gI S0 12).toNat → gA S 37 j = tb S0 j) (hk : ∀ j : Nat, j < 46 → gB S 10 j = yKw j) (hC : rCx (sG0 S0) S) : ∃ (S' : yS) (code : Int) (js' : List xO), Y q (d + 146) 205 0 [vr 129, vu, vu] [] S js = yret q (vi code) S' js' ∧ yFr yWC S S' ∧ gI S' 39 = 0 ∧ gI S' 40 = 0 ∧ gI S' 66 = 0 ∧ gI S' 68 = 0 ∧ js'.length ≤ js.length + 12 ∧ xsum js' ≤ xsum js + 120 ∧ rNz S' ∧ (∀ j, j < (gI S0 12).toNat → gA S' 8 j = tb S0 j) ∧ rFn (sG0 S0) S' code (sfin (gI S0 12).toNat (sprc (sG0 S0) (.inr (0, .inr yV0)))) := by
  have hl := sIn_len q h0
  have hG := gOk_0 h0 hl
  have h67 := h67_0 h0 hl
  have h12 := h0.1
  obtain ⟨n, hn⟩ : ∃ n, n = (gI S0 12).toNat := ⟨_, rfl⟩
  have o0 : yr 0 = 0 ∨ yr 0 = 1 := Or.inl yr_0
  have o1 : yr 1 = 0 ∨ yr 1 = 1 := Or.inr rfl
  obtain ⟨S1, hS1⟩ : ∃ S1, S1 = sI (sI (sI (sI (sI S 39 0) 48 0) 4 0) 66 0) 68 0 := ⟨_, rfl⟩
  have f1 : yFr yWC S S1 := by
    rw [hS1]
    exact yFr_tr (yFr_I rfl) (yFr_tr (yFr_I rfl) (yFr_tr (yFr_I rfl) (yFr_tr (yFr_I rfl) (yFr_I rfl))))
  obtain ⟨S2, a1, a2, a3, a4, a5, a6, a7, a8, a9⟩ := r206 (q := q) (d := d + 138) (js := js) (S := S1) (u := 0) (n := n) (b := tb S0) (Or.inl rfl) (by rw [show gI S1 40 = gI S 40 by rw [hS1]; rfl, h40]; omega) (by omega) (fun j hj => ⟨by
    have e37 : gA S1 37 = gA S 37 := by rw [hS1]; rfl
    rw [e37]
    exact hb j (by omega), tb_rng S0 j⟩) (fun j hj => by
    have e10 : gB S1 10 = gB S 10 := by rw [hS1]; rfl
    rw [e10]
    exact hk j hj)
  have a1 : Y q (d + 145) 206 0 [vr 129, vr 139, vu] [] S1 js = yretv q S2 js := a1
  have f2 : yFr yWC S S2 := yFr_tr f1 (yWC_q a2)
  have v2 : gI S2 39 = 0 ∧ gI S2 48 = 0 ∧ gI S2 66 = 0 ∧ gI S2 68 = 0 ∧ gI S2 4 = 0 ∧ gI S2 6 = 0 := by
    refine ⟨(a2.1 39 rfl).trans ?_, (a2.1 48 rfl).trans ?_, (a2.1 66 rfl).trans ?_, (a2.1 68 rfl).trans ?_, a4, a5⟩ <;> rw [hS1] <;> rfl
  -- before the first pass
  obtain ⟨S5, hS5⟩ : ∃ S5, S5 = sI (sI (sI (sI (sAr (sI (sI (sI (sI (sI (sI (sI (sI S2 53 0) 54 40) 55 20) 56 0) 57 0) 51 0) 52 0) 58 0) 51 (fun j => if 0 ≤ j ∧ j < 11 then -1 else gA S2 51 j)) 45 0) 44 0) 46 0) 47 (-1) := ⟨_, rfl⟩
  have f25 : yFr yWC S2 S5 := by
    rw [hS5]
    exact yFr_tr (yFr_I rfl) (yFr_tr (yFr_I rfl) (yFr_tr (yFr_I rfl) (yFr_tr (yFr_I rfl) (yFr_tr (yFr_I rfl) (yFr_tr (yFr_I rfl) (yFr_tr (yFr_I rfl) (yFr_tr (yFr_I rfl) (yFr_tr (yFr_Ar rfl) (yFr_tr (yFr_I rfl) (yFr_tr (yFr_I rfl) (yFr_tr (yFr_I rfl) (yFr_I rfl))))))))))))
  have st1 : Y q (d + 146) 205 0 [vr 129, vu, vu] [] S js = YB q (Y q (d + 145) 215 0 [vr 129] [] S5 js) (d + 146) 205 88 [vr 129, vi 0, vu] [] := by
    rw [w205_0, w197_0, YB_retv, w205_9, ← hS1, a1, YB_retv, w205_17]
    have lp := r205l (q := q) (d := d + 145) (js := js) 11 0 (sI (sI (sI (sI (sI (sI (sI (sI S2 53 0) 54 40) 55 20) 56 0) 57 0) 51 0) 52 0) 58 0) (by omega)
    have lp : Y q (d + 146) 205 61 [vr 129, vi 0, vu] [] _ js = _ := lp
    rw [lp, w214_0, if_pos o0, YB_retv, w205_87]
    rw [hS5]
    rfl
  have kT2 : rT S2 (gT (sG0 S0)) (gN (sG0 S0)) := by
    intro j hj
    have := a8 j _ (yTf_some (by rw [hn]; exact hj))
    rw [Nat.zero_add, hn] at this
    exact this
  have hN : 0 < gN (sG0 S0) := hG.1.1
  have hC5 : rCx (sG0 S0) S5 := by
    have f5 := yFr_tr f2 f25
    unfold rCx at hC ⊢
    rw [f5.1 41 rfl, f5.2.2.2.2.1 11 rfl, f5.2.2.2.1 38 rfl]
    exact hC
  have hS5r : rS (sG0 S0) (gI S5 50) 0 S5 0 0 (.inl (0, 0)) := by
    refine ⟨⟨?_, hN, ?_, ?_, ?_, by omega, ?_, rfl, ?_⟩, hC5, ?_⟩
    · rw [hS5]; exact kT2
    · rw [hS5]; rfl
    · rw [hS5]; rfl
    · rw [hS5]; rfl
    · rw [hS5]; exact a3
    · rw [hS5]; exact ⟨rfl, v2.2.2.2.2.1, v2.2.2.2.2.2⟩
    · show rEm S5
      rw [hS5]
      refine ⟨rfl, rfl, rfl, rfl, rfl, fun j hj => ?_⟩
      show (if 0 ≤ j ∧ j < 11 then (-1 : Int) else _) = -1
      rw [if_pos ⟨Nat.zero_le _, hj⟩]
  have z1 := q215 (q := q) (d := d + 140) (js := js) (sc := gI S5 50) (c := 0) hG (by omega) (by omega) hS5r
  have z1 : rZ q js (sG0 S0) S5 false (Y q (d + 145) 215 0 [vr 129] [] S5 js) (spro (sG0 S0) (.inr (0, .inl (0, 0)))) := z1
  have v5 : gI S5 39 = 0 ∧ gI S5 48 = 0 ∧ gI S5 66 = 0 ∧ gI S5 68 = 0 ∧ gI S5 59 = -1 ∧ gA S5 8 = gA S2 8 := by
    rw [hS5]
    exact ⟨v2.1, v2.2.1, v2.2.2.1, v2.2.2.2.1, a6, rfl⟩
  -- what both passes tell when they stop
  have tell : ∀ (S6 : yS) (m p : Nat), yFr yWC S2 S6 → gI S6 39 = 0 → gI S6 48 = 0 → gI S6 66 = 0 → gI S6 68 = 0 → gA S6 8 = gA S2 8 → rNz S6 → ∃ (S' : yS) (code : Int) (js' : List xO), Y q (d + 146) 205 184 [vr 129, vi 0, vu] [vr (179 + js.length)] S6 (js ++ [ystp (Int32.ofInt (m : Nat)) (Int32.ofInt (p : Nat))]) = yret q (vi code) S' js' ∧ yFr yWC S S' ∧ gI S' 39 = 0 ∧ gI S' 40 = 0 ∧ gI S' 66 = 0 ∧ gI S' 68 = 0 ∧ js'.length ≤ js.length + 12 ∧ xsum js' ≤ xsum js + 120 ∧ rNz S' ∧ (∀ j, j < (gI S0 12).toNat → gA S' 8 j = tb S0 j) ∧ code = yr (m : Int) ∧ gI S' 59 = yr (p : Int) ∧ gI S' 48 = 0 ∧ gI S' 4 = 0 := by
    intro S6 m p f h39 h48 h66 h68 h8 hz
    have hx := xsum_s js (Int32.ofInt (m : Nat)) (Int32.ofInt (p : Nat))
    rw [r205c]
    exact ⟨_, _, _, rfl, yFr_tr f2 (yFr_tr f (yFr_tr (yFr_I rfl) (yFr_tr (yFr_I rfl) (yFr_I rfl)))), h39, gI_self _ _ _, h66, h68, hx.2, hx.1, hz, fun j hj => by
      show gA S6 8 j = _
      rw [h8]
      exact a7 j (by omega), rfl, rfl, h48, rfl⟩
  rw [st1]
  obtain ⟨s1, s2⟩ := spro_1 (G := sG0 S0) (e := (0, 0)) (V := yV0) (t := 0)
  cases hσ : sprc (sG0 S0) (.inr (0, .inr yV0)) with
  | inl p =>
    rw [s1 p hσ] at z1
    obtain ⟨S6, t1, t2, t3⟩ := z1 rfl
    rw [t1, t205_88]
    obtain ⟨S', code, js', u1, u2, u3, u4, u5, u6, u7, u8, u9, u10, u11⟩ := tell S6 1 p (yFr_tr f25 (yWC_r t2)) ((t2.1 39 rfl).trans v5.1) ((t2.1 48 rfl).trans v5.2.1) ((t2.1 66 rfl).trans v5.2.2.1) ((t2.1 68 rfl).trans v5.2.2.2.1) ((t2.2.2.2.1 8 rfl).trans v5.2.2.2.2.2) t3
    exact ⟨S', code, js', u1, u2, u3, u4, u5, u6, u7, u8, u9, u10, u11⟩
  | inr y =>
    obtain ⟨t1, κ1⟩ := y
    obtain ⟨κ', hs⟩ := s2 t1 κ1 hσ
    rw [hs] at z1
    rcases κ' with e' | V'
    rotate_left
    · nomatch z1.1
    obtain ⟨S6, b1, b2, Sa, xa', b3, b4⟩ := z1.2 rfl
    obtain ⟨c1, c2, c3⟩ := b4
    have c3 : rEm Sa := c3
    obtain ⟨n1, n2, n3, n4, n5, n6, n7, n8, n9⟩ := c1
    have n9 : gI Sa 45 = 0 ∧ gI Sa 4 = 0 ∧ gI Sa 6 = 0 := n9
    have v6 : gI S6 39 = 0 ∧ gI S6 48 = 0 ∧ gI S6 66 = 0 ∧ gI S6 68 = 0 ∧ gI S6 59 = -1 ∧ gA S6 8 = gA S2 8 := ⟨(b2.1 39 rfl).trans v5.1, (b2.1 48 rfl).trans v5.2.1, (b2.1 66 rfl).trans v5.2.2.1, (b2.1 68 rfl).trans v5.2.2.2.1, (b2.1 59 rfl).trans v5.2.2.2.2.1, (b2.2.2.2.1 8 rfl).trans v5.2.2.2.2.2⟩
    obtain ⟨S7, hS7⟩ : ∃ S7, S7 = sI (sI (sI (sI (sI (sI (sI S6 53 0) 54 40) 55 20) 45 1) 44 0) 46 0) 47 (-1) := ⟨_, rfl⟩
    have f67 : yFr yWC S6 S7 := by
      rw [hS7]
      exact yFr_tr (yFr_I rfl) (yFr_tr (yFr_I rfl) (yFr_tr (yFr_I rfl) (yFr_tr (yFr_I rfl) (yFr_tr (yFr_I rfl) (yFr_tr (yFr_I rfl) (yFr_I rfl))))))
    have f57 : yFr yWC S2 S7 := yFr_tr f25 (yFr_tr (yWC_r b2) f67)
    have v7 : gI S7 39 = 0 ∧ gI S7 48 = 0 ∧ gI S7 66 = 0 ∧ gI S7 68 = 0 ∧ gI S7 59 = -1 ∧ gA S7 8 = gA S2 8 := by
      rw [hS7]
      exact v6
    have hS7r : rS (sG0 S0) 1 0 S7 0 0 (.inr yV0) := by
      refine ⟨⟨?_, hN, ?_, ?_, ?_, by omega, ?_, ?_, ?_⟩, ?_, ?_⟩
      · rw [hS7, b3]; exact n1
      · rw [hS7]; rfl
      · rw [hS7]; rfl
      · rw [hS7]; rfl
      · rw [hS7, b3]; exact n7
      · rw [hS7, b3]; exact n8
      · rw [hS7, b3]
        exact ⟨rfl, ⟨n9.2.1, fun j x hj => (nomatch hj)⟩, ⟨n9.2.2, fun j x hj => (nomatch hj)⟩⟩
      · rw [hS7, b3]; exact c2
      · refine ⟨rEm_V ?_ ?_, ⟨?_, Nat.zero_le _⟩, by show ((0 : Nat) : Int) ≤ _; omega, ⟨by decide, by decide, by decide, by decide⟩, List.nodup_nil, fun x y => (nomatch y), fun x y => (nomatch y), by decide, by decide, fun x y => (nomatch y), fun j i a y => (nomatch y)⟩
        · rw [hS7, b3]
          exact c3
        · rw [hS7]
          exact ⟨rfl, rfl, rfl⟩
        · show 0 + 2 * ((gI S0 12).toNat - _) ≤ 4000
          omega
    have z2 := q215 (q := q) (d := d + 140) (js := js) (sc := 1) (c := 0) hG (by omega) (by omega) hS7r
    have z2 : rZ q js (sG0 S0) S7 true (Y q (d + 145) 215 0 [vr 129] [] S7 js) (sprc (sG0 S0) (.inr (0, .inr yV0))) := z2
    rw [hσ] at z2
    rw [b1, YB_retv, w205_91, w214_0, if_pos o1, YB_retv, w205_113, ← hS7]
    rcases κ1 with ⟨m, p⟩ | V
    · obtain ⟨S8, t1, t2, t3⟩ := z2.1 rfl
      rw [t1, t205_114]
      exact tell S8 m p (yFr_tr f57 (yWC_r t2)) ((t2.1 39 rfl).trans v7.1) ((t2.1 48 rfl).trans v7.2.1) ((t2.1 66 rfl).trans v7.2.2.1) ((t2.1 68 rfl).trans v7.2.2.2.1) ((t2.2.2.2.1 8 rfl).trans v7.2.2.2.2.2) t3
    · obtain ⟨_, S8, d1, d2, Sb, xb, d3, d4⟩ := z2
      have hgd := spro_gd h67 vGd_0 hσ
      have nz := rS_nz d4
      obtain ⟨⟨m1, m2, m3, m4, m5, m6, m7, m8, m9⟩, _, mV, mO⟩ := d4
      obtain ⟨m45, mK, mX⟩ := m9
      have hlen : (zP V).length ≤ 4000 := by
        have h1 := mO.2.1
        have h2 := hG.1.2.1
        have h2 : gN (sG0 S0) ≤ 2001 := h2
        omega
      have V8 : rVl S8 V := by rw [d3]; exact mV
      have v8 : gI S8 39 = 0 ∧ gI S8 48 = 0 ∧ gI S8 66 = 0 ∧ gI S8 68 = 0 ∧ gI S8 59 = -1 ∧ gA S8 8 = gA S2 8 := ⟨(d2.1 39 rfl).trans v7.1, (d2.1 48 rfl).trans v7.2.1, (d2.1 66 rfl).trans v7.2.2.1, (d2.1 68 rfl).trans v7.2.2.2.1, (d2.1 59 rfl).trans v7.2.2.2.2.1, (d2.2.2.2.1 8 rfl).trans v7.2.2.2.2.2⟩
      have e1 : (yr 1).toNat = 1 := rfl
      have e2 : (yr 2).toNat = 2 := rfl
      have k1 : 0 ≤ yr 1 ∧ yr 1 < 11 := by decide
      have k2 : 0 ≤ yr 2 ∧ yr 2 < 11 := by decide
      have hh1 := r253 (q := q) (d := d + 145) (js := js) (j := 1) V8 hgd hlen (Or.inl rfl)
      have hh2 := r253 (q := q) (d := d + 145) (js := js) (S := sI S8 60 (sht V 1)) (j := 2) V8 hgd hlen (Or.inr rfl)
      have hh2 : Y q (d + 145) 253 0 [vr 129, vi (gA S8 51 2), vu, vu] [] (sI S8 60 (sht V 1)) js = _ := hh2
      obtain ⟨S9, hS9⟩ : ∃ S9, S9 = sI (sI S8 60 (sht V 1)) 61 (sht V 2) := ⟨_, rfl⟩
      have f9 : yFr yWC S2 S9 := by
        rw [hS9]
        exact yFr_tr f57 (yFr_tr (yWC_r d2) (yFr_tr (yFr_I rfl) (yFr_I rfl)))
      have v9 : gI S9 39 = 0 ∧ gI S9 48 = 0 ∧ gI S9 66 = 0 ∧ gI S9 68 = 0 ∧ gI S9 59 = -1 ∧ gA S9 8 = gA S2 8 := by
        rw [hS9]
        exact v8
      have h45 : gI S9 45 = 1 := by
        rw [hS9, d3]
        exact m45
      have h40' : gI S9 40 = ((gI S0 12).toNat : Int) := by
        have : gI S9 40 = gI S 40 := by
          rw [hS9]
          show gI S8 40 = _
          rw [d2.1 40 rfl, hS7]
          show gI S6 40 = _
          rw [b2.1 40 rfl, hS5]
          show gI S2 40 = _
          rw [a2.1 40 rfl, hS1]
          rfl
        rw [this, h40]
        omega
      have h55 : gI (sI S8 60 (sht V 1)) 55 = ((zPg V).2.2 : Int) := V8.1.2.2
      have h60 : gI (sI S8 60 (sht V 1)) 60 = sht V 1 := rfl
      have h40'' : gI (sI S8 60 (sht V 1)) 40 = ((gI S0 12).toNat : Int) := by rw [← h40', hS9]; rfl
      have es : sfin (gI S0 12).toNat (.inr (t1, .inr V)) = .inr (t1, if decide (yr (sht V 2 + sht V 1) < yr ((zPg V).2.2 : Int)) = true then .inr V else .inl (6, (gI S0 12).toNat)) := rfl
      rw [d1, YB_retv, w205_117, if_pos k1, e1, hh1, YB_ret, w205_128, if_pos k2, e2]
      rw [hh2, YB_ret, w205_142, h55, h60, h40'', es, Int.add_comm (sht V 1), ← hS9]
      have nz9 : rNz S9 := by
        rw [hS9, d3]
        exact nz
      by_cases z : yr (sht V 2 + sht V 1) < yr ((zPg V).2.2 : Int)
      · rw [if_pos z, if_pos (decide_eq_true z), r219n (Or.inr (by decide)), YB_retv, w205_176]
        refine ⟨_, _, _, rfl, yFr_tr f2 (yFr_tr f9 (yFr_tr (yFr_I rfl) (yFr_I rfl))), v9.1, gI_self _ _ _, v9.2.2.1, v9.2.2.2.1, by omega, by omega, nz9, fun j hj => ?_, rfl, v9.2.2.2.2.1, rfl, ?_, mO, ?_, ?_, hgd, by rw [hS9]; rfl, by rw [hS9]; rfl⟩
        · show gA S9 8 j = _
          rw [v9.2.2.2.2.2]
          exact a7 j (by omega)
        · rw [hS9]
          exact V8
        · rw [hS9, d3]
          exact mK
        · rw [hS9, d3]
          exact mX
      · rw [if_neg z, if_neg (fun y => z (of_decide_eq_true y)), r219t h45 (by decide)]
        have e6 : (6 : Int) = ((6 : Nat) : Int) := rfl
        rw [e6, t205_173]
        exact tell S9 6 (gI S0 12).toNat f9 v9.1 v9.2.1 v9.2.2.1 v9.2.2.2.1 v9.2.2.2.2.2 nz9
end YSQL
end YSQ
