/-! COMPILE OF THE LAW'S PROGRAM -/
section YCE
def zqok (h : Nat) : Bool := decide (zqn h ≤ 400) && (decide (yshr ((zqn h : Nat) : Int) 0 = ((zqn h : Nat) : Int)) && ((zqT h).all (fun c => decide (c < 128)) && (List.range 20).all fun m => decide (zbt (zcr (zqn h) (zqt h) (20 * m)) = (List.range 20).map (zcr (zqn h) (zqt h) (20 * m)))))
set_option maxRecDepth 100000 in
theorem zqok_5 : zqok 5 = true := by decide +kernel
set_option maxRecDepth 100000 in
theorem zqok_6 : zqok 6 = true := by decide +kernel
set_option maxRecDepth 100000 in
theorem zqok_7 : zqok 7 = true := by decide +kernel
set_option maxRecDepth 100000 in
theorem zqok_8 : zqok 8 = true := by decide +kernel
set_option maxRecDepth 100000 in
theorem zqok_9 : zqok 9 = true := by decide +kernel
set_option maxRecDepth 100000 in
theorem zqok_10 : zqok 10 = true := by decide +kernel
theorem zq_ok {h : Nat} (hh : 5 ≤ h ∧ h ≤ 10) : zqok h = true ∧ zqck h = true := by
  have : h = 5 ∨ h = 6 ∨ h = 7 ∨ h = 8 ∨ h = 9 ∨ h = 10 := by omega
  rcases this with rfl | rfl | rfl | rfl | rfl | rfl
  · exact ⟨zqok_5, zqck_5⟩
  · exact ⟨zqok_6, zqck_6⟩
  · exact ⟨zqok_7, zqck_7⟩
  · exact ⟨zqok_8, zqck_8⟩
  · exact ⟨zqok_9, zqck_9⟩
  · exact ⟨zqok_10, zqck_10⟩
theorem zc128 : ∀ c : Nat, c < 128 → zch (Int32.ofInt (c : Int)) = (c : Int) ∧ yand (c : Int) 255 = (c : Int) := by decide
theorem zqt_in {h : Nat} (hk : zqok h = true) {i : Nat} (hi : i < zqn h) : ∃ c : Nat, c < 128 ∧ zqt h i = (c : Int) := by
  unfold zqok at hk
  simp only [Bool.and_eq_true] at hk
  have h1 := List.all_eq_true.mp hk.2.2.1
  have hi : i < (zqT h).length := hi
  refine ⟨(zqT h).getD i 32, ?_, rfl⟩
  rw [List.getD_eq_getElem?_getD, List.getElem?_eq_getElem hi]
  exact of_decide_eq_true (h1 _ (List.getElem_mem hi))
theorem zqB_in {h : Nat} (hk : zqok h = true) (m : Nat) (hm : 20 * m < zqn h) : zbt (zcr (zqn h) (zqt h) (20 * m)) = (List.range 20).map (zcr (zqn h) (zqt h) (20 * m)) := by
  unfold zqok at hk
  simp only [Bool.and_eq_true] at hk
  have hn := of_decide_eq_true hk.1
  exact of_decide_eq_true (List.all_eq_true.mp hk.2.2.2 m (List.mem_range.mpr (by omega)))
/-- what a state's reading of the tape hangs on -/
theorem sG0_zq {S : yS} {h : Nat} (h12 : gI S 12 = ((zqn h : Nat) : Int)) (ht : ∀ j, j < zqn h → tb S j = zqt h j) (h10 : gI S 10 = 2) (n0 : gB S 6 0 = 103) (n1 : gB S 6 1 = 118) (c0 : gA S 20 0 = 0) (c1 : gA S 20 1 = 0) : sG0 S = zqG h := by
  have e1 : (gI S 12).toNat = zqn h := by omega
  have e2 : ytq (tb S) (zqn h) = ytq (zqt h) (zqn h) := ytoks_cg ht _ _
  have e10 : (gI S 10).toNat = 2 := by rw [h10]; rfl
  have e3 : ytxb S = zqX h := by
    funext p m
    unfold ytxb zqX
    apply List.map_congr_left
    intro i _
    unfold tbl
    rw [h12]
    by_cases z : (0 : Int) ≤ ((p + i : Nat) : Int) ∧ ((p + i : Nat) : Int) < ((zqn h : Nat) : Int)
    · rw [if_pos z, if_pos z, ht _ (by omega)]
    · rw [if_neg z, if_neg z]
  have e4 : (fun v => yfind (gB S 6) v 2 0) = zqF := by
    funext v
    refine yfind_cg fun k _ hk => ?_
    match k, hk with
    | 0, _ => exact n0
    | 1, _ => exact n1
  have e5 : (fun k => if k < 2 then gA S 20 k else 0) = fun _ => (0 : Int) := by
    funext k
    match k with
    | 0 => exact c0
    | 1 => exact c1
    | k + 2 => exact if_neg (by omega)
  have e6 : yRm0 (tb S) (zqn h) = yRm0 (zqt h) (zqn h) := by
    funext t x
    unfold yRm0
    rw [e2]
  have e7 : yRx (tb S) (zqn h) = yRx (zqt h) (zqn h) := by
    funext t
    unfold yRx
    rw [e2]
  unfold sG0 zqG
  rw [e1, e10, e2, e3, e4, e5, e6, e7]
/-- what compiling the tape changes -/
def yWG (s k : Nat) : Bool := yWF s k || (s == 0 && (k == 12 || (Nat.ble 29 k && Nat.ble k 34)))
theorem yWG_F {S S' : yS} (h : yFr yWF S S') : yFr yWG S S' := yFr_mono (fun s k e => by
  unfold yWG at e
  simp only [Bool.or_eq_false_iff] at e
  exact e.1) h
theorem yWG_I {S : yS} {k : Nat} {x : Int} (h : yWG 0 k = true) : yFr yWG S (sI S k x) := yFr_I h
section YCEL
variable {q : yQ} {d : Nat} {js : List xO} {S : yS}
theorem zq_in {h n : Nat} {f : Nat → Int64} {S1 : yS} {t : Nat} {V : yPV} (hk : zqk h V = true) (hf : cVl S1 V ∧ cK S1 0 (qzC V) ∧ cX S1 0 (yTexts (zqX h) (qzX V))) (h19 : gI S1 19 = 1) (h10 : gI S1 10 = 2) (h11 : gI S1 11 = ((2 * n : Nat) : Int)) (h12 : gI S1 12 = 0) (c0 : gA S1 20 0 = 0) (c1 : gA S1 20 1 = 0) (h7 : gB S1 7 = f) : pIn h n f S1 := by
  obtain ⟨⟨v1, v2, v3, v4, v5, v6, v7⟩, hK, hX⟩ := hf
  unfold zqk at hk
  simp only [Bool.and_eq_true] at hk
  obtain ⟨k1, k2, k3, k4, k5, k6, k7, k8, k9⟩ := hk
  rw [of_decide_eq_true k1] at v1
  rw [of_decide_eq_true k2] at v2
  rw [of_decide_eq_true k3] at v3
  rw [of_decide_eq_true k4] at v4
  rw [of_decide_eq_true k5] at v5
  rw [of_decide_eq_true k6] at hK
  rw [of_decide_eq_true k7] at hX
  rw [of_decide_eq_true k8] at v6
  have lk : ∀ j, j < 26 → gA S1 0 j = zA0.getD j 0 ∧ gB S1 0 j = zB0.getD j 0 := fun j hj => by
    have hj : j < zqC.length := hj
    have a := hK.2 j (zqC[j]) (List.getElem?_eq_getElem hj)
    have b : ∀ j (hj : j < zqC.length), ((zqC[j]).1 : Int) = zA0.getD j 0 ∧ (zqC[j]).2 = zB0.getD j 0 := by decide
    exact ⟨a.1.trans (b j hj).1, a.2.trans (b j hj).2⟩
  have lt : ∀ j, j < 3 → gA S1 15 j = zA15.getD j 0 ∧ gA S1 17 j = zA17.getD j 0 ∧ gA S1 19 j = zA19.getD j 0 ∧ gC S1 1 j = zC1.getD j 0 := fun j hj => by
    have hj : j < zqTo.length := hj
    have a := v5.2 j (zqTo[j]) (List.getElem?_eq_getElem hj)
    have b : ∀ j (hj : j < zqTo.length), ((zqTo[j]).2.1 : Int) = zA15.getD j 0 ∧ ((zqTo[j]).2.2.1 : Int) = zA17.getD j 0 ∧ (zqTo[j]).2.2.2.2 = zA19.getD j 0 ∧ (zqTo[j]).2.2.2.1 = zC1.getD j 0 := by decide
    obtain ⟨b1, b2, b3, b4⟩ := b j hj
    exact ⟨a.2.1.trans b1, a.2.2.1.trans b2, a.2.2.2.2.trans b3, a.2.2.2.1.trans b4⟩
  have li : ∀ j, j < 18 → gC S1 3 j = zC3.getD j 0 ∧ gA S1 27 j = zA27.getD j 0 ∧ gA S1 28 j = zA28.getD j 0 ∧ gA S1 29 j = zA29.getD j 0 := fun j hj => by
    have hj : j < zqI.length := hj
    have a := v6.2 j (zqI[j]) (List.getElem?_eq_getElem hj)
    have b : ∀ j (hj : j < zqI.length), (zqI[j]).1 = zC3.getD j 0 ∧ ((zqI[j]).2.1 : Int) = zA27.getD j 0 ∧ ((zqI[j]).2.2.1 : Int) = zA28.getD j 0 ∧ ((zqI[j]).2.2.2 : Int) = zA29.getD j 0 := by decide
    obtain ⟨b1, b2, b3, b4⟩ := b j hj
    exact ⟨a.1.trans b1, a.2.1.trans b2, a.2.2.1.trans b3, a.2.2.2.trans b4⟩
  have lb : ∀ j, j < 11 → gA S1 26 j = zA26.getD j 0 := fun j hj => by
    have a := v7 j hj
    have b := of_decide_eq_true (List.all_eq_true.mp k9 j (List.mem_range.mpr hj))
    exact a.trans b
  have o1 := v2.2 0 (0, 0) rfl
  have g1 := v3.2 0 0 rfl
  refine ⟨hK.1, hX.1, v4.1, v5.1, h10, h11, h12, h19, v1.2.1, v1.2.2, v2.1, v3.1, v6.1, fun j hj => (lk j hj).1, fun j hj => ?_, fun j hj => ?_, fun j hj => (lt j hj).1, fun j hj => (lt j hj).2.1, fun j hj => (lt j hj).2.2.1, fun j hj => ?_, fun j hj => ?_, fun j hj => ?_, fun j hj => ?_, lb, fun j hj => (li j hj).2.1, fun j hj => (li j hj).2.2.1, fun j hj => (li j hj).2.2.2, fun j hj => (lk j hj).2, h7, fun j hj => (lt j hj).2.2.2, fun j hj => (li j hj).1⟩
  · match j, hj with
    | 0, _ => exact hX.2.2 0 [61] 0 61 rfl rfl
    | 1, _ => exact hX.2.2 1 [43] 0 43 rfl rfl
  · match j, hj with
    | 0, _ => exact hX.2.1 0 (by decide)
    | 1, _ => exact hX.2.1 1 (by decide)
    | 2, _ => exact hX.2.1 2 (by decide)
  · match j, hj with
    | 0, _ => exact c0
    | 1, _ => exact c1
  · match j, hj with
    | 0, _ => exact o1.1
  · match j, hj with
    | 0, _ => exact o1.2
  · match j, hj with
    | 0, _ => exact g1
theorem c160 {h n : Nat} {f : Nat → Int64} (hh : 5 ≤ h ∧ h ≤ 10) (h12 : gI S 12 = ((zqn h : Nat) : Int)) (ht : ∀ j, j < zqn h → tb S j = zqt h j) (h10 : gI S 10 = 2) (h11 : gI S 11 = ((2 * n : Nat) : Int)) (n0 : gB S 6 0 = 103) (n1 : gB S 6 1 = 118) (c0 : gA S 20 0 = 0) (c1 : gA S 20 1 = 0) (h4 : gA S 4 0 = 0) (h7 : gB S 7 = f) : ∃ S' : yS, Y q (d + 207) 160 0 [vr 81] [] S js = yret q (vi 0) S' js ∧ pIn h n f S' ∧ yFr yWG S S' ∧ gI S' 29 = 0 ∧ gI S' 30 = 0 ∧ gI S' 31 = 0 ∧ gI S' 32 = 0 ∧ gI S' 33 = 0 ∧ gI S' 34 = 0 := by
  obtain ⟨k1, k2⟩ := zq_ok hh
  have hn : zqn h ≤ 400 := by
    unfold zqok at k1
    simp only [Bool.and_eq_true] at k1
    exact of_decide_eq_true k1.1
  obtain ⟨S0, hS0⟩ : ∃ S0, S0 = yforg S := ⟨_, rfl⟩
  have f0 : yFr yWG S S0 := by
    rw [hS0]
    exact yFr_tr (yWG_I rfl) (yFr_tr (yWG_I rfl) (yFr_tr (yWG_I rfl) (yFr_tr (yWG_I rfl) (yFr_tr (yWG_I rfl) (yWG_I rfl)))))
  have z0 : gI S0 29 = 0 ∧ gI S0 30 = 0 ∧ gI S0 31 = 0 ∧ gI S0 32 = 0 ∧ gI S0 33 = 0 ∧ gI S0 34 = 0 := by
    rw [hS0]
    exact ⟨rfl, rfl, rfl, rfl, rfl, rfl⟩
  have x10 : gI S0 10 = 2 := (f0.1 10 rfl).trans h10
  have x11 := (f0.1 11 rfl).trans h11
  have x12 : gI S0 12 = ((zqn h : Nat) : Int) := by
    rw [hS0]
    exact h12
  have xt : ∀ j, j < zqn h → tb S0 j = zqt h j := by
    rw [hS0]
    exact ht
  have x20 : gA S0 20 = gA S 20 := f0.2.2.2.1 20 rfl
  have hG : sG0 S0 = zqG h := sG0_zq x12 xt x10 (by rw [f0.2.2.2.2.1 6 rfl]; exact n0) (by rw [f0.2.2.2.2.1 6 rfl]; exact n1) (by rw [x20]; exact c0) (by rw [x20]; exact c1)
  have hin : sIn S0 := by
    refine ⟨by omega, by omega, fun i hi => ?_, ?_⟩
    · rw [x10] at hi
      have hi : i < 2 := hi
      rw [x20]
      match i, hi with
      | 0, _ => exact Or.inl c0
      | 1, _ => exact Or.inl c1
    · rw [hS0]
      exact h4
  obtain ⟨S1, a1, a2, a3, a4⟩ := k26 (q := q) (d := d) (js := js) hin
  rw [hG] at a4
  have e12 : (gI S0 12).toNat = zqn h := by omega
  rw [e12] at a4
  have a4 : cFin (zqG h) S1 (zqs h) := a4
  unfold zqck at k2
  have hc : Y q (d + 207) 160 0 [vr 81] [] S js = yret q (vi (gI S1 17)) (sI S1 12 0) js := by
    rw [w160_0, w111_0, YB_retv, w160_7]
    have e : sI (sI (sI (sI (sI (sI S 30 0) 31 0) 32 0) 33 0) 34 0) 29 0 = S0 := hS0.symm
    rw [e, a1, YB_retv, w160_14]
  revert a4 k2
  generalize zqs h = σ
  intro k2 a4
  match σ, a4, k2 with
  | .inr (t, .inr V), a4, k2 =>
    obtain ⟨a, b1, b2, b3, b4, b5, b6, b7, b8⟩ := a4
    have fz := yFr_tr f0 (yFr_tr (yWG_F a2) (yWG_I (S := S1) (k := 12) (x := 0) rfl))
    refine ⟨sI S1 12 0, by rw [hc, b2], zq_in (t := t) k2 ⟨b5, b7, b8⟩ b1 ((a2.1 10 rfl).trans x10) ((a2.1 11 rfl).trans x11) (gI_self _ _ _) ?_ ?_ ?_, fz, (a2.1 29 rfl).trans z0.1, (a2.1 30 rfl).trans z0.2.1, (a2.1 31 rfl).trans z0.2.2.1, (a2.1 32 rfl).trans z0.2.2.2.1, (a2.1 33 rfl).trans z0.2.2.2.2.1, (a2.1 34 rfl).trans z0.2.2.2.2.2⟩
    · show gA (sI S1 12 0) 20 0 = 0
      rw [fz.2.2.2.1 20 rfl]
      exact c0
    · rw [fz.2.2.2.1 20 rfl]
      exact c1
    · rw [fz.2.2.2.2.1 7 rfl]
      exact h7
/-- the law's compile -/
theorem c3 (hv : jV q.1) {a b h n : Nat} {g : Nat → Int32} {f : Nat → Int64} (hh : 5 ≤ h ∧ h ≤ 10) (hs : jStr js a b (zqn h) g) (hg : ∀ i, i < zqn h → g i = Int32.ofInt (zqt h i)) (h12 : gI S 12 = 0) (h10 : gI S 10 = 2) (h11 : gI S 11 = ((2 * n : Nat) : Int)) (n0 : gB S 6 0 = 103) (n1 : gB S 6 1 = 118) (c0 : gA S 20 0 = 0) (c1 : gA S 20 1 = 0) (h4 : gA S 4 0 = 0) (h7 : gB S 7 = f) : ∃ (S' : yS) (js' : List xO), Y q (d + 208) 3 0 [vr 81, vr (135 + a)] [] S js = yret q (vi 0) S' (js ++ js') ∧ pIn h n f S' ∧ (gI S' 29 = 0 ∧ gI S' 30 = 0 ∧ gI S' 31 = 0 ∧ gI S' 32 = 0 ∧ gI S' 33 = 0 ∧ gI S' 34 = 0) ∧ js'.length ≤ 100 ∧ xsum js' ≤ 500 := by
  obtain ⟨k1, k2⟩ := zq_ok hh
  have hn : zqn h ≤ 400 ∧ yshr ((zqn h : Nat) : Int) 0 = ((zqn h : Nat) : Int) := by
    have k3 := k1
    unfold zqok at k3
    simp only [Bool.and_eq_true] at k3
    exact ⟨of_decide_eq_true k3.1, of_decide_eq_true k3.2.1⟩
  obtain ⟨js', F, e1, e2, l1, l2⟩ := f5 (q := q) (d := d + 203) (S := S) (t := zqt h) hv (by omega) (fun i hi => by
    obtain ⟨c, c2, c3⟩ := zqt_in k1 hi
    rw [hg i hi, c3, (zc128 c c2).1]
    omega) (fun m hm => zqB_in k1 m hm) hn.2 h12 hs
  have e1 : Y q (d + 207) 5 0 [vr 81, vr (135 + a), vu, vu, vu, vu] [] S js = yretv q (sI (sAr S 21 F) 12 ((zqn h : Nat) : Int)) (js ++ js') := e1
  obtain ⟨S', b1, b2, b3, b4⟩ := c160 (q := q) (d := d) (js := js ++ js') (S := sI (sAr S 21 F) 12 ((zqn h : Nat) : Int)) (n := n) (f := f) hh (gI_self _ _ _) (fun j hj => by
    obtain ⟨c, x2, x3⟩ := zqt_in k1 hj
    have e : gA (sI (sAr S 21 F) 12 ((zqn h : Nat) : Int)) 21 j = F j := rfl
    unfold tb
    rw [e, e2 j hj, x3, (zc128 c x2).2]) h10 h11 n0 n1 c0 c1 h4 h7
  refine ⟨S', js', ?_, b2, b4, l1, l2⟩
  rw [w3_0, e1, YB_retv, w3_5, b1, YB_ret, w3_9]
end YCEL
end YCE
