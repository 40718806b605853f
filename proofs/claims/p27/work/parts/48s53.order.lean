/-! taken from whole by wip/p27/slice2.py: 9zf.order.lean.txt -/
section YOG
def yWo (s k : Nat) : Bool := yWk s k || (s == 0 && (k == 23 || k == 24)) || (s == 3 && (k == 23 || k == 24 || k == 25))
theorem yWo_k {S S' : yS} (h : yFr yWk S S') : yFr yWo S S' := yFr_mo h fun s k e => by
  unfold yWo at e
  simp only [Bool.or_eq_false_iff] at e
  exact e.1.1
/-- the first token is taken; too many are an error -/
def yhd (T : yTk) (c : Bool) (m : yMo) : yMo := ynx T (if c = true then m else ywr m 4 (ypl T m))
def ydw (T : yTk) (m : yMo) : yMo := if ykm2 T m = 2 then ynx T m else m
def ycm (T : yTk) (f : Int) (m : yMo) : yMo := if f < 0 then ywr (yxp T 62 m) 2 (ypl T m) else yxp T 62 m
section YOGL
variable {q : yQ} {d : Nat} {js : List xO} {S : yS} {T : yTk} {N : Nat}
theorem ywr_kind {m : yMo} {n p : Nat} : ykm2 T (ywr m n p) = ykm2 T m := by
  rcases m with p | ⟨t, b, k⟩ <;> rfl
theorem ykm2_le {m : yMo} {kd : Nat} (hkd : kd ≤ 64) (h : ykm2 T m = kd) : ∀ t b k, m = .inr (t, b, k) → (T t).1 ≤ 64 := by
  intro t b k hm
  subst hm
  have h : (T t).1 = kd := h
  omega
theorem c31 {m : yMo} {cnt : Nat} (hT : yTo T N) (h : cNd T N 0 S m) (h1 : ykm2 T m = 1) (h10 : 0 ≤ gI S 10 ∧ gI S 10 ≤ 8) (h23 : gI S 23 = cnt) (hc : cnt ≤ 4) : ∃ (S' S2 : yS) (f : Int), f = yfind (gB S 6) (yvl T S2 (ydw T (yhd T (decide (cnt < 4)) m))) (gI S 10).toNat 0 ∧ Y q (d + 3) 31 0 [vr 123, vu, vu] [] S js = yretv q S' js ∧ yFr yWo S S' ∧ cNd T N 0 S' (ycm T f (ydw T (yhd T (decide (cnt < 4)) m))) ∧ gI S' 24 = gI S 24 ∧ gA S' 25 = gA S 25 ∧ (cnt < 4 → gI S' 23 = ((cnt + 1 : Nat) : Int) ∧ (∀ j, gA S' 23 j = if j = cnt then f else gA S 23 j) ∧ ∀ j, gA S' 24 j = if j = cnt then (if ykm2 T (yhd T (decide (cnt < 4)) m) = 2 then 1 else 0) else gA S 24 j) ∧ (¬ cnt < 4 → gI S' 23 = gI S 23 ∧ gA S' 23 = gA S 23 ∧ gA S' 24 = gA S 24) := by
  obtain ⟨v1, v2⟩ := cNd_v h
  have n1 : ¬ yr 1 = 0 := by decide
  have e4 : yr 4 = 4 := rfl
  have ec : yr (cnt : Int) = cnt := yr_eq (by omega) (by omega)
  obtain ⟨Sa, a1, a2, a3⟩ : ∃ Sa : yS, Y q (d + 3) 31 0 [vr 123, vu, vu] [] S js = YB q (Y q (d + 2) 154 0 [vr 86] [] Sa js) (d + 3) 31 30 [vr 123, vu, vu] [] ∧ yFr yWk S Sa ∧ cNd T N 0 Sa (if decide (cnt < 4) = true then m else ywr m 4 (ypl T m)) := by
    rw [w31_0, h23, ec, e4]
    by_cases z : cnt < 4
    · rw [if_pos (by omega), if_pos (decide_eq_true z)]
      exact ⟨S, rfl, yFr_rf _ _, h⟩
    · obtain ⟨S1, e1, e2, e3⟩ := nwrong (q := q) (d := d + 2) (js := js) (n := 4) (p := ypl T m) (Or.inl rfl) h (by omega)
      have e1 : Y q (d + 2) 153 0 [vr 86, vi 4, vi (ypl T m)] [] S js = yretv q S1 js := e1
      rw [if_neg (by omega), if_neg (fun y => z (of_decide_eq_true y)), v2, e1, YB_retv, w31_26]
      exact ⟨S1, rfl, e2, e3⟩
  have ka : ykm2 T (if decide (cnt < 4) = true then m else ywr m 4 (ypl T m)) = 1 := by
    split
    · exact h1
    · rw [ywr_kind, h1]
  obtain ⟨Sb, b1, b2, b3⟩ := nnext (q := q) (d := d + 2) (js := js) (Or.inl rfl) hT a3 (ykm2_le (by omega) ka)
  have b3 : cNd T N 0 Sb (yhd T (decide (cnt < 4)) m) := b3
  obtain ⟨k1, k2⟩ := cNd_kind hT b3
  -- downwards?
  obtain ⟨Sc, c1, c2, c3⟩ : ∃ Sc : yS, Y q (d + 3) 31 33 [vr 123, vu, vu] [] Sb js = YB q (Y q (d + 2) 32 0 [vr 123, vu, vu] [] Sc js) (d + 3) 31 64 [vr 123, vi (if ykm2 T (yhd T (decide (cnt < 4)) m) = 2 then 1 else 0), vu] [] ∧ yFr yWk Sb Sc ∧ cNd T N 0 Sc (ydw T (yhd T (decide (cnt < 4)) m)) := by
    rw [w31_33, k1, if_pos ⟨k2, by omega⟩]
    unfold ydw
    by_cases z : ykm2 T (yhd T (decide (cnt < 4)) m) = 2
    · obtain ⟨S1, e1, e2, e3⟩ := nnext (q := q) (d := d + 2) (js := js) (Or.inl rfl) hT b3 (ykm2_le (by omega) z)
      rw [if_pos z, if_neg n1, if_pos z, if_pos z, e1, YB_retv, w31_63]
      exact ⟨S1, rfl, e2, e3⟩
    · rw [if_neg z, if_pos yr_0, if_neg z, if_neg z]
      exact ⟨Sb, rfl, yFr_rf _ _, b3⟩
  have fS : yFr yWk S Sc := yFr_tr a2 (yFr_tr b2 c2)
  have s10 : gI Sc 10 = gI S 10 := fS.1 10 rfl
  have s6 : gB Sc 6 = gB S 6 := fS.2.2.2.2.1 6 rfl
  obtain ⟨Sd, d1, d2, d3⟩ := c32 (q := q) (d := d) (js := js) (Or.inl rfl) hT c3 (by rw [s10]; exact h10)
  rw [s6, s10] at d1 d3
  have fD : yFr yWk S Sd := yFr_tr fS d2
  have s23 : gI Sd 23 = cnt := (fD.1 23 rfl).trans h23
  obtain ⟨f, hf⟩ : ∃ f, f = yfind (gB S 6) (yvl T Sc (ydw T (yhd T (decide (cnt < 4)) m))) (gI S 10).toNat 0 := ⟨_, rfl⟩
  rw [← hf] at d1 d3
  have st : Y q (d + 3) 31 0 [vr 123, vu, vu] [] S js = Y q (d + 3) 31 67 [vr 123, vi (if ykm2 T (yhd T (decide (cnt < 4)) m) = 2 then 1 else 0), vu] [vi f] Sd js := by
    rw [a1, b1, YB_retv, c1, d1, YB_ret]
  have ez : yi2z (if ykm2 T (yhd T (decide (cnt < 4)) m) = 2 then 1 else 0) = if ykm2 T (yhd T (decide (cnt < 4)) m) = 2 then 1 else 0 := by
    split <;> decide
  rw [st, w31_67, s23, ec, e4, ez]
  by_cases z : cnt < 4
  · have kc : 0 ≤ (cnt : Int) ∧ (cnt : Int) < 4 := by omega
    rw [if_pos kc.2, if_pos kc, if_pos kc, Int.toNat_natCast]
    refine ⟨_, Sc, f, hf, rfl, yFr_tr (yWo_k fD) (yFr_tr (yFr_A rfl) (yFr_tr (yFr_A rfl) (yFr_I rfl))), d3, fD.1 24 rfl, fD.2.2.2.1 25 rfl, fun _ => ⟨by rw [gI_self]; omega, fun j => ?_, fun j => ?_⟩, fun y => absurd z y⟩
    · show gA (sA Sd 23 cnt f) 23 j = _
      rw [gA_self, fD.2.2.2.1 23 rfl]
    · show gA (sA (sA Sd 23 cnt f) 24 cnt _) 24 j = _
      rw [gA_self]
      show (if j = cnt then _ else gA Sd 24 j) = _
      rw [fD.2.2.2.1 24 rfl]
  · rw [if_neg (by omega)]
    exact ⟨Sd, Sc, f, hf, rfl, yWo_k fD, d3, fD.1 24 rfl, fD.2.2.2.1 25 rfl, fun y => absurd y z, fun _ => ⟨fD.1 23 rfl, fD.2.2.2.1 23 rfl, fD.2.2.2.1 24 rfl⟩⟩
end YOGL
end YOG
