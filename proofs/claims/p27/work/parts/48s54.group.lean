/-! taken from whole by wip/p27/slice2.py: 9zg.group.lean.txt -/
section YOH
def ygm (T : yTk) (f g : Int) (m : yMo) : yMo := if g < 0 then ycm T f m else ywr (ycm T f m) 5 (ypl T m)
section YOHL
variable {q : yQ} {d : Nat} {js : List xO} {S : yS} {T : yTk} {N : Nat}
theorem cGr_k {S' : yS} (h : cGr S) (hf : yFr yWk S S') : cGr S' := by
  unfold cGr at h ⊢
  rw [hf.1 24 rfl, hf.2.2.2.1 25 rfl]
  exact h
theorem c33 {m : yMo} {cnt kd : Nat} (hT : yTo T N) (h : cNd T N 0 S m) (hkd : kd ≤ 64) (h1 : ykm2 T m = kd) (h10 : 0 ≤ gI S 10 ∧ gI S 10 ≤ 8) (h24 : gI S 24 = cnt) (hG : cGr S) : ∃ (S' S2 : yS) (f g : Int), f = yfind (gB S 6) (yvl T S2 (yhd T (decide (cnt < 3)) m)) (gI S 10).toNat 0 ∧ g = yfg (gA S 25) f cnt 0 ∧ Y q (d + 3) 33 0 [vr 123, vu, vu] [] S js = yretv q S' js ∧ yFr yWo S S' ∧ cNd T N 0 S' (ygm T f g (yhd T (decide (cnt < 3)) m)) ∧ cGr S' ∧ gI S' 23 = gI S 23 ∧ gA S' 23 = gA S 23 ∧ gA S' 24 = gA S 24 ∧ (cnt < 3 → gI S' 24 = ((cnt + 1 : Nat) : Int) ∧ ∀ j, gA S' 25 j = if j = cnt then f else gA S 25 j) ∧ (¬ cnt < 3 → gI S' 24 = gI S 24 ∧ gA S' 25 = gA S 25) := by
  obtain ⟨v1, v2⟩ := cNd_v h
  have hc3 : cnt ≤ 3 := by have := hG.2.1; omega
  have e3 : yr 3 = 3 := rfl
  have ec : yr (cnt : Int) = cnt := yr_eq (by omega) (by omega)
  obtain ⟨Sa, a1, a2, a3⟩ : ∃ Sa : yS, Y q (d + 3) 33 0 [vr 123, vu, vu] [] S js = YB q (Y q (d + 2) 154 0 [vr 86] [] Sa js) (d + 3) 33 30 [vr 123, vu, vu] [] ∧ yFr yWk S Sa ∧ cNd T N 0 Sa (if decide (cnt < 3) = true then m else ywr m 4 (ypl T m)) := by
    rw [w33_0, h24, ec, e3]
    by_cases z : cnt < 3
    · rw [if_pos (by omega), if_pos (decide_eq_true z)]
      exact ⟨S, rfl, yFr_rf _ _, h⟩
    · obtain ⟨S1, e1, e2, e4⟩ := nwrong (q := q) (d := d + 2) (js := js) (n := 4) (p := ypl T m) (Or.inl rfl) h (by omega)
      have e1 : Y q (d + 2) 153 0 [vr 86, vi 4, vi (ypl T m)] [] S js = yretv q S1 js := e1
      rw [if_neg (by omega), if_neg (fun y => z (of_decide_eq_true y)), v2, e1, YB_retv, w33_26]
      exact ⟨S1, rfl, e2, e4⟩
  have ka : ykm2 T (if decide (cnt < 3) = true then m else ywr m 4 (ypl T m)) = kd := by
    split
    · exact h1
    · rw [ywr_kind, h1]
  obtain ⟨Sb, b1, b2, b3⟩ := nnext (q := q) (d := d + 2) (js := js) (Or.inl rfl) hT a3 (ykm2_le hkd ka)
  have b3 : cNd T N 0 Sb (yhd T (decide (cnt < 3)) m) := b3
  obtain ⟨u1, u2⟩ := cNd_v b3
  have fS : yFr yWk S Sb := yFr_tr a2 b2
  have s10 : gI Sb 10 = gI S 10 := fS.1 10 rfl
  have s6 : gB Sb 6 = gB S 6 := fS.2.2.2.2.1 6 rfl
  obtain ⟨Sd, d1, d2, d3⟩ := c32 (q := q) (d := d) (js := js) (Or.inl rfl) hT b3 (by rw [s10]; exact h10)
  rw [s6, s10] at d1 d3
  have fD : yFr yWk S Sd := yFr_tr fS d2
  have hfr := yfind_yr (f := gB S 6) (v := yvl T Sb (yhd T (decide (cnt < 3)) m)) (n := (gI S 10).toNat) (by omega)
  obtain ⟨f, hf⟩ : ∃ f, f = yfind (gB S 6) (yvl T Sb (yhd T (decide (cnt < 3)) m)) (gI S 10).toNat 0 := ⟨_, rfl⟩
  rw [← hf] at d1 d3 hfr
  have d3 : cNd T N 0 Sd (ycm T f (yhd T (decide (cnt < 3)) m)) := d3
  have h99 := c99 (q := q) (d := d + 2) (js := js) (S := Sd) (c := f) (cGr_k hG fD) ⟨hfr.2.1, hfr.2.2⟩
  have s24 : gI Sd 24 = cnt := (fD.1 24 rfl).trans h24
  rw [fD.2.2.2.1 25 rfl, s24, Int.toNat_natCast] at h99
  obtain ⟨g, hg⟩ : ∃ g, g = yfg (gA S 25) f cnt 0 := ⟨_, rfl⟩
  rw [← hg] at h99
  have hgr : -1 ≤ g ∧ g < 8 := by
    have := yfg_rng (g := gA S 25) (c := f) cnt 0
    rw [← hg] at this
    omega
  have eg : yr g = g := yr_eq (by omega) (by omega)
  have st : Y q (d + 3) 33 0 [vr 123, vu, vu] [] S js = Y q (d + 3) 33 54 [vr 123, vi (ypl T (yhd T (decide (cnt < 3)) m)), vi f] [vi g] Sd js := by
    rw [a1, b1, YB_retv, w33_33, u2, d1, YB_ret, w33_45, h99, YB_ret]
  -- the end: it is kept where there is room
  have fin : ∀ Se : yS, yFr yWk S Se → cNd T N 0 Se (ygm T f g (yhd T (decide (cnt < 3)) m)) → ∃ S' : yS, (if yr (gI Se 24) < yr 3 then if 0 ≤ yr (gI Se 24) ∧ yr (gI Se 24) < 3 then yretv q (sI (sA Se 25 ((yr (gI Se 24)).toNat) f) 24 ((gI Se 24) + 1)) js else Y q (d + 3) 33 92 [vr 123, vi (ypl T (yhd T (decide (cnt < 3)) m)), vi f] [vi f, vi (gI Se 24), vr 94] Se js else yretv q Se js) = yretv q S' js ∧ yFr yWo S S' ∧ cNd T N 0 S' (ygm T f g (yhd T (decide (cnt < 3)) m)) ∧ cGr S' ∧ gI S' 23 = gI S 23 ∧ gA S' 23 = gA S 23 ∧ gA S' 24 = gA S 24 ∧ (cnt < 3 → gI S' 24 = ((cnt + 1 : Nat) : Int) ∧ ∀ j, gA S' 25 j = if j = cnt then f else gA S 25 j) ∧ (¬ cnt < 3 → gI S' 24 = gI S 24 ∧ gA S' 25 = gA S 25) := by
    intro Se fe he
    have t24 : gI Se 24 = cnt := (fe.1 24 rfl).trans h24
    rw [t24, ec, e3]
    by_cases z : cnt < 3
    · have kc : 0 ≤ (cnt : Int) ∧ (cnt : Int) < 3 := by omega
      have g25 : ∀ j, gA (sI (sA Se 25 cnt f) 24 ((cnt : Int) + 1)) 25 j = if j = cnt then f else gA S 25 j := fun j => by
        show gA (sA Se 25 cnt f) 25 j = _
        rw [gA_self, fe.2.2.2.1 25 rfl]
      rw [if_pos kc.2, if_pos kc, Int.toNat_natCast]
      refine ⟨_, rfl, yFr_tr (yWo_k fe) (yFr_tr (yFr_A rfl) (yFr_I rfl)), he, ⟨by rw [gI_self]; omega, by rw [gI_self]; omega, fun i hi => ?_⟩, fe.1 23 rfl, fe.2.2.2.1 23 rfl, fe.2.2.2.1 24 rfl, fun _ => ⟨by rw [gI_self]; omega, g25⟩, fun y => absurd z y⟩
      rw [gI_self] at hi
      rw [g25]
      by_cases y : i = cnt
      · rw [if_pos y]
        exact hfr.2
      · rw [if_neg y]
        exact hG.2.2 i (by omega)
    · rw [if_neg (by omega)]
      exact ⟨Se, rfl, yWo_k fe, he, cGr_k hG fe, fe.1 23 rfl, fe.2.2.2.1 23 rfl, fe.2.2.2.1 24 rfl, fun y => absurd y z, fun _ => ⟨fe.1 24 rfl, fe.2.2.2.1 25 rfl⟩⟩
  rw [st, w33_54, eg]
  by_cases z : g < 0
  · have em : ygm T f g (yhd T (decide (cnt < 3)) m) = ycm T f (yhd T (decide (cnt < 3)) m) := if_pos z
    rw [if_pos z]
    obtain ⟨S', r⟩ := fin Sd fD (by rw [em]; exact d3)
    exact ⟨S', Sb, f, g, hf, hg, r⟩
  · have em : ygm T f g (yhd T (decide (cnt < 3)) m) = ywr (ycm T f (yhd T (decide (cnt < 3)) m)) 5 (ypl T (yhd T (decide (cnt < 3)) m)) := if_neg z
    obtain ⟨S1, x1, x2, x3⟩ := nwrong (q := q) (d := d + 2) (js := js) (n := 5) (p := ypl T (yhd T (decide (cnt < 3)) m)) (Or.inl rfl) d3 (by omega)
    have x1 : Y q (d + 2) 153 0 [vr 86, vi 5, vi (ypl T (yhd T (decide (cnt < 3)) m))] [] Sd js = yretv q S1 js := x1
    obtain ⟨S', r⟩ := fin S1 (yFr_tr fD x2) (by rw [em]; exact x3)
    rw [if_neg z, x1, YB_retv, w33_66]
    exact ⟨S', Sb, f, g, hf, hg, r⟩
end YOHL
end YOH
