/-! RUN: a line, on both sides -/
section YTX
section YTXL
variable {q : yQ} {d d' : Nat} {js ks : List xO} {S0 : yS} {t : Nat} {V : yPV} {a : Int} {n : Nat} {B C S T : yS} {e : yEnv}
theorem k118_at {x0 x1 x2 x3 x4 x5 x7 : Int} {en p : Nat} (h34 : gI S 34 = 0) (hp : p < en) (hen : en ≤ 2000) (hk : gC S 3 p = 23) : Y q (d + 1) 118 51 [vr 125, vi x0, vi x1, vi x2, vi x3, vi x4, vi x5, vi en, vi x7, vi p] [] S js = Y q (d + 1) 118 51 [vr 125, vi x0, vi x1, vi x2, vi x3, vi x4, vi x5, vi en, vi (gA S 27 p), vi ((p + 1 : Nat) : Int)] [] S js := by
  have ep : yr (p : Int) = p := yr_eq (by omega) (by omega)
  have ee : yr (en : Int) = en := yr_eq (by omega) (by omega)
  have e1 : (p : Int) + 1 = ((p + 1 : Nat) : Int) := by omega
  rw [w118_51, ee, ep, if_pos (by omega), h34, if_pos yr_0, Int.toNat_natCast, hk, if_pos (show (0 ≤ (p : Int) ∧ (p : Int) < 2000) ∧ 23 < 67 by omega), if_pos (show 23 < 67 ∧ 23 < 67 by omega), if_pos (show 23 = 23 from rfl), if_pos (show 0 ≤ (p : Int) ∧ (p : Int) < 2000 by omega), e1]
theorem k118_pc {x0 x1 x2 x3 x4 x5 x7 : Int} {en p kd : Nat} (h34 : gI S 34 = 0) (hp : p < en) (hen : en ≤ 2000) (hk : gC S 3 p = kd) (h67 : kd < 67) (h23 : kd ≠ 23) : Y q (d + 1) 118 51 [vr 125, vi x0, vi x1, vi x2, vi x3, vi x4, vi x5, vi en, vi x7, vi p] [] S js = YB q (Y q d 75 0 [vr 118, vr 101, vi (gA S 28 p), vu, vu, vu, vu, vu, vu] [] S js) (d + 1) 118 117 [vr 125, vi x0, vi x1, vi x2, vi x3, vi x4, vi x5, vi en, vi x7, vi p] [] := by
  have ep : yr (p : Int) = p := yr_eq (by omega) (by omega)
  have ee : yr (en : Int) = en := yr_eq (by omega) (by omega)
  rw [w118_51, ee, ep, if_pos (by omega), h34, if_pos yr_0, Int.toNat_natCast, hk, if_pos (show (0 ≤ (p : Int) ∧ (p : Int) < 2000) ∧ kd < 67 by omega), if_pos (show kd < 67 ∧ 23 < 67 by omega), if_neg h23, if_pos (show 0 ≤ (p : Int) ∧ (p : Int) < 2000 by omega)]
/-- a line's end -/
theorem k118_end {x0 x1 x2 x3 x5 x7 : Int} {it en : Nat} (h34 : gI S 34 = 0) (hit : it < 2000) (hen : en ≤ 2000) (hk : gC S 3 it = 22) : Y q (d + 1) 118 51 [vr 125, vi x0, vi x1, vi x2, vi x3, vi it, vi x5, vi en, vi x7, vi en] [] S js = Y q (d + 1) 118 9 [vr 125, vi x0, vi x1, vi x2, vi (x3 + 1), vi en, vi (x5 + 1), vi en, vi x7, vi 1] [] (sI S 33 (gI S 33 + 1)) js := by
  have ei : yr (it : Int) = it := yr_eq (by omega) (by omega)
  have ee : yr (en : Int) = en := yr_eq (by omega) (by omega)
  have n1 : ¬ yr 1 = 0 := by decide
  rw [w118_51, ee, ei, if_neg (show ¬ (en : Int) < en by omega), Int.toNat_natCast, hk, if_pos (show (0 ≤ (it : Int) ∧ (it : Int) < 2000) ∧ 22 < 67 by omega), if_pos (show 22 < 67 ∧ 22 < 67 by omega), if_pos (show 22 = 22 from rfl), if_neg n1, h34, if_pos yr_0, if_neg n1]
/-- lines are left empty -/
theorem k118_skip {x0 x1 x2 x3 x5 x7 : Int} {it en : Nat} (hit : it < 2000) (hen : en ≤ 2000) (hk : gC S 3 it = 24) : Y q (d + 1) 118 51 [vr 125, vi x0, vi x1, vi x2, vi x3, vi it, vi x5, vi en, vi x7, vi en] [] S js = Y q (d + 1) 118 9 [vr 125, vi x0, vi x1, vi x2, vi (x3 + gA S 27 it), vi en, vi (x5 + 1), vi en, vi x7, vi 0] [] (sI S 33 (gI S 33 + 0)) js := by
  have ei : yr (it : Int) = it := yr_eq (by omega) (by omega)
  have ee : yr (en : Int) = en := yr_eq (by omega) (by omega)
  rw [w118_51, ee, ei, if_neg (show ¬ (en : Int) < en by omega), Int.toNat_natCast, hk, if_pos (show (0 ≤ (it : Int) ∧ (it : Int) < 2000) ∧ 24 < 67 by omega), if_pos (show 24 < 67 ∧ 22 < 67 by omega), if_neg (show ¬ 24 = 22 by omega), if_pos yr_0, if_pos yr_0, if_pos (show 0 ≤ (it : Int) ∧ (it : Int) < 2000 by omega)]
/-- after an error the class does nothing more -/
theorem k118_x {x0 x1 x2 x3 x4 x5 : Int} {x6 x7 x8 : yV} (h34 : ¬ yr (gI S 34) = 0) : Y q (d + 1) 118 9 [vr 125, vi x0, vi x1, vi x2, vi x3, vi x4, vi x5, x6, x7, x8] [] S js = yretv q S js := by
  rw [w118_9, if_neg h34, ite_self, ite_self]
theorem k118_er {x0 x1 x2 x3 x5 x7 x8 : Int} {it en : Nat} (h34 : ¬ yr (gI S 34) = 0) (hit : it < 2000) (hen : en ≤ 2000) (hk : gC S 3 it = 22) : Y q (d + 1) 118 51 [vr 125, vi x0, vi x1, vi x2, vi x3, vi it, vi x5, vi en, vi x7, vi x8] [] S js = yretv q (sI S 33 (gI S 33 + 0)) js := by
  have ei : yr (it : Int) = it := yr_eq (by omega) (by omega)
  have n1 : ¬ yr 1 = 0 := by decide
  have kk : (0 ≤ (it : Int) ∧ (it : Int) < 2000) ∧ 22 < 67 := by omega
  rw [w118_51, ei, Int.toNat_natCast, hk]
  by_cases z : yr x8 < yr (en : Int)
  · rw [if_pos z, if_neg h34, if_pos kk, if_pos (show 22 < 67 ∧ 22 < 67 by omega), if_pos (show 22 = 22 from rfl), if_neg n1, if_neg h34, if_neg n1, k118_x]
    exact h34
  · rw [if_neg z, if_pos kk, if_pos (show 22 < 67 ∧ 22 < 67 by omega), if_pos (show 22 = 22 from rfl), if_neg n1, if_neg h34, if_neg n1, k118_x]
    exact h34
theorem k118_9 {x0 x2 x3 : Int} {it to m : Nat} {x6 x7 x8 : yV} (h34 : gI S 34 = 0) (hm : m < 2000) (hit : it < to) (hto : to ≤ 2000) : Y q (d + 1) 118 9 [vr 125, vi x0, vi to, vi x2, vi x3, vi it, vi m, x6, x7, x8] [] S js = Y q (d + 1) 118 51 [vr 125, vi x0, vi to, vi x2, vi x3, vi it, vi m, vi (gA S 29 it), vi 1, vi ((it + 1 : Nat) : Int)] [] S js := by
  have ei : yr (it : Int) = it := yr_eq (by omega) (by omega)
  have em : yr (m : Int) = m := yr_eq (by omega) (by omega)
  have et : yr (to : Int) = to := yr_eq (by omega) (by omega)
  have e2 : yr 2000 = 2000 := rfl
  have e1 : (it : Int) + 1 = ((it + 1 : Nat) : Int) := by omega
  rw [w118_9, ei, em, et, e2, if_pos (by omega), if_pos (by omega), h34, if_pos yr_0, if_pos (by omega), Int.toNat_natCast, e1]
theorem k118_to {x0 x2 x3 x5 : Int} {to : Nat} {x6 x7 x8 : yV} : Y q (d + 1) 118 9 [vr 125, vi x0, vi to, vi x2, vi x3, vi to, vi x5, x6, x7, x8] [] S js = yretv q S js := by
  rw [w118_9, if_neg (show ¬ yr (to : Int) < yr (to : Int) by omega), ite_self]
/-- the reference's line -/
theorem q287_at {x0 x1 x2 : Int} {p : Nat} (hp : p < 4000) (hk : gA S 52 p = 1) : Y q (d + 1) 287 7 [vr 129, vi x0, vi x1, vi x2, vi p] [] S js = Y q (d + 1) 287 7 [vr 129, vi x0, vi x1, vi (gA S 53 p - 1), vi ((p + 1 : Nat) : Int)] [] S js := by
  have ep : yr (p : Int) = p := yr_eq (by omega) (by omega)
  have e1 : (p : Int) + 1 = ((p + 1 : Nat) : Int) := by omega
  have kk : 0 ≤ (p : Int) ∧ (p : Int) < 4000 := by omega
  rw [w287_7, ep, if_pos kk, Int.toNat_natCast, hk, if_neg (show ¬ yr 1 = yr 3 by decide), if_pos kk, if_pos (show yr 1 = yr 1 from rfl), if_pos kk, e1]
theorem q287_pc {x0 x1 x2 : Int} {p : Nat} (hp : p < 4000) (hk : gA S 52 p = 2) : Y q (d + 1) 287 7 [vr 129, vi x0, vi x1, vi x2, vi p] [] S js = YB q (Y q d 258 0 [vr 129, vr 139, vi (gA S 53 p), vu, vu, vu, vu] [] S js) (d + 1) 287 54 [vr 129, vi x0, vi x1, vi x2, vi p] [] := by
  have ep : yr (p : Int) = p := yr_eq (by omega) (by omega)
  have kk : 0 ≤ (p : Int) ∧ (p : Int) < 4000 := by omega
  rw [w287_7, ep, if_pos kk, Int.toNat_natCast, hk, if_neg (show ¬ yr 2 = yr 3 by decide), if_pos kk, if_neg (show ¬ yr 2 = yr 1 by decide), if_pos kk]
theorem q287_end {x0 x1 x2 : Int} {p : Nat} (hp : p < 4000) (hk : gA S 52 p = 3) : Y q (d + 1) 287 7 [vr 129, vi x0, vi x1, vi x2, vi p] [] S js = yretv q (sI S 70 (gI S 70 + 1)) js := by
  have ep : yr (p : Int) = p := yr_eq (by omega) (by omega)
  have kk : 0 ≤ (p : Int) ∧ (p : Int) < 4000 := by omega
  rw [w287_7, ep, if_pos kk, Int.toNat_natCast, hk, if_pos (show yr 3 = yr 3 from rfl)]
theorem ywl_eq {B W k0 : Nat} {bf : Nat → Int} {N : Int} : ∀ (m i : Nat) (f g : Nat → Int), (∀ j : Nat, (j : Int) < N → g j = f j) → ∀ j : Nat, (j : Int) < N → ywl B W k0 bf m i g j = ywl B W k0 bf m i f j
  | 0, i, f, g, h => h
  | m + 1, i, f, g, h => by
    unfold ywl
    refine ywl_eq m (i + 1) _ _ fun j hj => ?_
    unfold yw1
    by_cases z : k0 + i < W
    · rw [if_pos z, if_pos z, yup_eq, yup_eq, h j hj]
    · rw [if_neg z, if_neg z, h j hj]
theorem cRp_28 {S' : yS} (h : yFs 28 S S') : cRp S S' [] := ⟨h.1, fun m hm => h.2.1 m (by omega), fun j hj => h.2.2 j (by omega), fun i v hi => nomatch hi⟩
/-- the page's shape -/
theorem yCx_p (hx : yCx S0 t V a n B C) (h : yOb B C S T) : ((zPg V).2.1 ≤ 60 ∧ (zPg V).2.2 ≤ 40) ∧ gI S 27 = (zPg V).2.1 ∧ gI S 28 = (zPg V).2.2 ∧ gI S 35 = sht V 1 ∧ gI S 36 = (zPg V).2.2 - sht V 1 - sht V 2 ∧ gI S 37 = sht V 1 + ((zPg V).2.2 - sht V 1 - sht V 2) + 1 ∧ gI T 54 = (zPg V).2.1 ∧ gI T 55 = (zPg V).2.2 ∧ gI T 60 = sht V 1 ∧ gI T 61 = sht V 2 := by
  obtain ⟨⟨g1, g2, g3, g4⟩, _⟩ := yCx_g hx
  obtain ⟨⟨_, _, hC⟩, _, ⟨s1, s2, s3, s4, s5, s6⟩, _, _⟩ := hx
  obtain ⟨⟨f1, f2⟩, _⟩ := h
  obtain ⟨_, p2, p3⟩ := hC.2.2.2.1.1.1
  have p60 := hC.2.2.2.1.2.2.2.2.1
  have p61 := hC.2.2.2.1.2.2.2.2.2
  refine ⟨⟨g2.2, g4⟩, (f1.1 27 rfl).trans s1, (f1.1 28 rfl).trans s2, (f1.1 35 rfl).trans s3, (f1.1 36 rfl).trans s4, (f1.1 37 rfl).trans s5, (f2.1 54 rfl).trans p2, (f2.1 55 rfl).trans p3, (f2.1 60 rfl).trans p60, (f2.1 61 rfl).trans p61⟩
end YTXL
end YTX
