/-! RUN: one item, pieces of it -/
section YUE
section YUEL
variable {q : yQ} {d d' : Nat} {js ks : List xO} {S0 : yS} {t : Nat} {V : yPV} {a : Int} {n : Nat} {B C S T : yS} {e : yEnv}
/-- a line is printed -/
theorem ypl1 (hx : yCx S0 t V a n B C) (h : yRl V n B C e S T) {sub : Nat → Nat → Nat → Nat → Prop} {bd : Bool} {i en a0 a1 line : Nat} {u : yIe} (hu : (zI V)[i]? = some u) (hk : u.1 = 22) (hl : line < (zPg V).2.2) (hen : en ≤ 2000) (hw : yIw (zI V) (zP V) (sGd (sG0 S0) V) bd sub i en a0 a1) : yGo q ks V n B C (fun S' => gI S' 29 = gI S 29 ∧ gI S' 38 = gI S 38) (Y q (d + 3) 118 0 [vr 125, vi i, vi en, vi ((line : Int) + 1), vu, vu, vu, vu, vu, vu] [] S js) (Y q (d' + 5) 287 0 [vr 129, vi a0, vi line, vu, vu] [] T ks) (fun S' c => c = yretv q S' js) (fun T' r => r = yretv q T' ks) (fun S' c => c = yretv q S' js) := by
  have h34 : gI S 34 = 0 := h.1.2.1
  obtain ⟨u', v, u1, u2, u3, u4, u5⟩ := hw
  have eu : u' = u := Option.some.inj (u1.symm.trans hu)
  subst eu
  obtain ⟨⟨i1, i2, i3⟩, j1, j2, j3, j4⟩ := cit (iPq_cw hx.1.2.1 h.1.1.1.1) u1
  rcases u5 with ⟨k1, k2, k3, k4, k5, k6, k7⟩ | ⟨k1, _⟩ | ⟨k1, _⟩ | ⟨k1, _⟩ | ⟨k1, _⟩ | ⟨k1, _⟩
  · obtain ⟨zz, kz1, kz2⟩ := k4
    have pcs := ypcs (q := q) (d := d) (d' := d') (js := js) (ks := ks) (x0 := (i : Int)) (x1 := (en : Int)) (x2 := (line : Int) + 1) (y0 := (a0 : Int)) (x5 := 0) (it := i) (en := en) (at0 := a0) (line := line) (N := en - (i + 1)) hx (by omega) (fun S' hf => by rw [(cit (iPq_cw hx.1.2.1 hf) u1).2.1, k1]) (by omega) hen hl k7 ⟨zz, by rw [show a0 + 1 + (en - (i + 1)) = a1 - 1 by omega]; exact kz1, kz2⟩ (en - (i + 1)) 0 0 e S T (by omega) (by omega) h
    have c9 := k118_9 (q := q) (d := d + 2) (js := js) (x0 := (i : Int)) (x2 := (line : Int) + 1) (x3 := (line : Int) + 1) (m := 0) (x6 := vu) (x7 := vu) (x8 := vu) (it := i) (to := en) h34 (by omega) (by omega) hen
    rw [j4, u3] at c9
    have c0 : Y q (d + 3) 118 0 [vr 125, vi i, vi en, vi ((line : Int) + 1), vu, vu, vu, vu, vu, vu] [] S js = Y q (d + 3) 118 51 [vr 125, vi (i : Int), vi (en : Int), vi ((line : Int) + 1), vi ((line : Int) + 1), vi i, vi ((0 : Nat) : Int), vi en, vi (((0 : Nat) : Int) + 1), vi ((i + 1 + 0 : Nat) : Int)] [] S js := by
      rw [w118_0]
      exact c9
    have e1 : (a0 : Int) + 1 = ((a0 + 1 + 0 : Nat) : Int) := by omega
    have r0 : Y q (d' + 5) 287 0 [vr 129, vi a0, vi line, vu, vu] [] T ks = Y q (d' + 5) 287 7 [vr 129, vi (a0 : Int), vi line, vi ((0 : Nat) : Int), vi ((a0 + 1 + 0 : Nat) : Int)] [] T ks := by
      rw [w287_0, e1]
      rfl
    rw [c0, r0]
    rcases pcs with ⟨e1, S1, T1, r1, kk, ⟨z7, c1⟩, f1⟩ | ⟨x, o, S1, T1, hxo, r1, c1, f1⟩
    · refine Or.inl ⟨e1, S1, T1, r1, kk, ?_, f1⟩
      show _ = _
      rw [c1, k118_to]
    · exact Or.inr ⟨x, o, S1, T1, hxo, r1, c1, f1⟩
  · omega
  · omega
  · omega
  · omega
  · omega
theorem k121_x {x0 x1 x2 x3 x4 : Int} {x5 x6 x7 x8 x9 : yV} (h34 : ¬ yr (gI S 34) = 0) : Y q (d + 1) 121 6 [vr 125, vi x0, vi x1, vi x2, vi x3, vi x4, x5, x6, x7, x8, x9] [] S js = yretv q S js := by
  rw [w121_6, if_neg h34, ite_self, ite_self, ite_self]
theorem k121_to {x0 x2 x4 : Int} {to : Nat} {x5 x6 x7 x8 x9 : yV} : Y q (d + 1) 121 6 [vr 125, vi x0, vi to, vi x2, vi to, vi x4, x5, x6, x7, x8, x9] [] S js = yretv q S js := by
  rw [w121_6, if_neg (show ¬ yr (to : Int) < yr (to : Int) by omega), ite_self, ite_self]
theorem k121_it {x0 : Int} {it to m dp kd : Nat} {x5 x6 x7 x8 x9 : yV} (h34 : gI S 34 = 0) (hm : m < 2000) (hdp : dp ≤ 12) (hit : it < to) (hto : to ≤ 2000) (hk : gC S 3 it = kd) (h67 : kd < 67) (h27 : kd ≠ 27) : Y q (d + 1) 121 6 [vr 125, vi x0, vi to, vi dp, vi it, vi m, x5, x6, x7, x8, x9] [] S js = YB q (Y q d 124 0 [vr 125, vr kd, vi (gA S 27 it), vu] [] S js) (d + 1) 121 109 [vr 125, vi x0, vi to, vi dp, vi it, vi m, vi (gA S 29 it), vi (gA S 27 it), vr kd, vi (gA S 27 it), x9] [] := by
  have ei : yr (it : Int) = it := yr_eq (by omega) (by omega)
  have em : yr (m : Int) = m := yr_eq (by omega) (by omega)
  have et : yr (to : Int) = to := yr_eq (by omega) (by omega)
  have ed : yr (dp : Int) = dp := yr_eq (by omega) (by omega)
  have e2 : yr 2000 = 2000 := rfl
  have e12 : yr 12 = 12 := rfl
  have ki : 0 ≤ (it : Int) ∧ (it : Int) < 2000 := by omega
  rw [w121_6, ei, em, et, ed, e2, e12, if_pos (show (m : Int) < 2000 by omega), if_neg (show ¬ (12 : Int) < dp by omega), if_pos (show (it : Int) < to by omega), h34, if_pos yr_0, if_pos ki, if_pos ki, Int.toNat_natCast, hk, if_pos (show (0 ≤ (it : Int) ∧ (it : Int) < 2000) ∧ kd < 67 from ⟨ki, h67⟩), if_pos (show kd < 67 ∧ 27 < 67 by omega), if_neg h27, if_pos yr_0]
theorem k121_kp {x0 : Int} {it to m dp : Nat} {x5 x6 x7 x8 x9 : yV} (h34 : gI S 34 = 0) (hm : m < 2000) (hdp : dp ≤ 12) (hit : it < to) (hto : to ≤ 2000) (hk : gC S 3 it = 27) : Y q (d + 1) 121 6 [vr 125, vi x0, vi to, vi dp, vi it, vi m, x5, x6, x7, x8, x9] [] S js = YB q (Y q d 122 0 [vr 125, vi ((it + 1 : Nat) : Int), vi (gA S 29 it), vi ((dp + 1 : Nat) : Int), vu, vu, vu, vu, vu, vu] [] S js) (d + 1) 121 87 [vr 125, vi x0, vi to, vi dp, vi it, vi m, vi (gA S 29 it), vi (gA S 27 it), vr 27, x8, x9] [] := by
  have ei : yr (it : Int) = it := yr_eq (by omega) (by omega)
  have em : yr (m : Int) = m := yr_eq (by omega) (by omega)
  have et : yr (to : Int) = to := yr_eq (by omega) (by omega)
  have ed : yr (dp : Int) = dp := yr_eq (by omega) (by omega)
  have e2 : yr 2000 = 2000 := rfl
  have e12 : yr 12 = 12 := rfl
  have i1 : (it : Int) + 1 = ((it + 1 : Nat) : Int) := by omega
  have d1 : (dp : Int) + 1 = ((dp + 1 : Nat) : Int) := by omega
  have ki : 0 ≤ (it : Int) ∧ (it : Int) < 2000 := by omega
  rw [w121_6, ei, em, et, ed, e2, e12, if_pos (show (m : Int) < 2000 by omega), if_neg (show ¬ (12 : Int) < dp by omega), if_pos (show (it : Int) < to by omega), h34, if_pos yr_0, if_pos ki, if_pos ki, Int.toNat_natCast, hk, if_pos (show (0 ≤ (it : Int) ∧ (it : Int) < 2000) ∧ 27 < 67 from ⟨ki, by omega⟩), if_pos (show 27 < 67 ∧ 27 < 67 by omega), if_pos (show 27 = 27 from rfl), i1, d1]
theorem k121_119 {x0 x1 x2 x3 x4 x5 x6 x8 : Int} {kd : Nat} {x9 : yV} (h67 : kd < 67) : Y q (d + 1) 121 119 [vr 125, vi x0, vi x1, vi x2, vi x3, vi x4, vi x5, vi x6, vr kd, vi x8, x9] [] S js = Y q (d + 1) 121 127 [vr 125, vi x0, vi x1, vi x2, vi x3, vi x4, vi x5, vi x6, vr kd, vi x8, x9] [vi (yKo kd), vr 68] S js := by
  rw [w121_119, if_pos h67, w318_0, if_pos h67, YB_ret]
theorem k121_b {x0 x1 x2 x3 x4 x5 x6 l : Int} {kd : Nat} {x9 : yV} (h : kd = 22 ∨ kd = 24 ∨ kd = 25 ∨ kd = 26 ∨ kd = 27 ∨ kd = 28) : YB q (Y q (d + 1) 124 0 [vr 125, vr kd, vi l, vu] [] S js) (d + 2) 121 109 [vr 125, vi x0, vi x1, vi x2, vi x3, vi x4, vi x5, vi x6, vr kd, vi l, x9] [] = if ywb kd l S = true then YB q (Y q (d + 1) 117 0 [vr 125, vu] [] S js) (d + 2) 121 116 [vr 125, vi x0, vi x1, vi x2, vi x3, vi x4, vi x5, vi x6, vr kd, vi l, x9] [] else Y q (d + 2) 121 127 [vr 125, vi x0, vi x1, vi x2, vi x3, vi x4, vi x5, vi x6, vr kd, vi l, x9] [vi (yKo kd), vr 68] S js := by
  have h67 : kd < 67 := by omega
  have n1 : ¬ yr (yb1 true) = 0 := by decide
  have n0 : yr (yb1 false) = 0 := by decide
  rw [k124 h, YB_ret, w121_112]
  cases ywb kd l S with
  | true => rw [if_neg n1, if_pos rfl]
  | false => rw [if_pos n0, if_pos h67, w318_0, if_pos h67, YB_ret, if_neg (fun v => Bool.noConfusion v)]
/-- after an error an item comes to nothing -/
theorem k121_e {x0 x1 x2 x3 x4 x5 x6 l : Int} {kd : Nat} {x9 : yV} (h : kd = 22 ∨ kd = 25 ∨ kd = 26 ∨ kd = 27) (h34 : ¬ yr (gI S 34) = 0) : ∃ S', (S' = S ∨ ∃ y, S' = sI S 38 y) ∧ Y q (d + 2) 121 127 [vr 125, vi x0, vi x1, vi x2, vi x3, vi x4, vi x5, vi x6, vr kd, vi l, x9] [vi (yKo kd), vr 68] S js = yretv q S' js := by
  rcases h with rfl | rfl | rfl | rfl
  · refine ⟨sI S 38 (gI S 38 + 1), Or.inr ⟨_, rfl⟩, ?_⟩
    have h34' : ¬ yr (gI (sI S 38 (gI S 38 + 1)) 34) = 0 := h34
    rw [w121_127, if_pos (show 0 ≤ yr (yKo 22) ∧ yr (yKo 22) < 67 by decide), if_pos (show yr ((xLf xSm (yr (yKo 22)).toNat).toInt) = 18 by decide), w118_0, k118_x h34, YB_retv, w121_183, k121_x h34']
  · refine ⟨S, Or.inl rfl, ?_⟩
    rw [w121_127, if_pos (show 0 ≤ yr (yKo 25) ∧ yr (yKo 25) < 67 by decide), if_neg (show ¬ yr ((xLf xSm (yr (yKo 25)).toNat).toInt) = 18 by decide), if_neg (show ¬ yr ((xLf xSm (yr (yKo 25)).toNat).toInt) = 19 by decide), if_pos (show yr ((xLf xSm (yr (yKo 25)).toNat).toInt) = 20 by decide), k121_x h34]
  · refine ⟨S, Or.inl rfl, ?_⟩
    rw [w121_127, if_pos (show 0 ≤ yr (yKo 26) ∧ yr (yKo 26) < 67 by decide), if_neg (show ¬ yr ((xLf xSm (yr (yKo 26)).toNat).toInt) = 18 by decide), if_neg (show ¬ yr ((xLf xSm (yr (yKo 26)).toNat).toInt) = 19 by decide), if_neg (show ¬ yr ((xLf xSm (yr (yKo 26)).toNat).toInt) = 20 by decide), if_neg (show ¬ yr ((xLf xSm (yr (yKo 26)).toNat).toInt) = 21 by decide), if_neg (show ¬ yr ((xLf xSm (yr (yKo 26)).toNat).toInt) = 22 by decide), k121_x h34]
  · refine ⟨S, Or.inl rfl, ?_⟩
    rw [w121_127, if_pos (show 0 ≤ yr (yKo 27) ∧ yr (yKo 27) < 67 by decide), if_neg (show ¬ yr ((xLf xSm (yr (yKo 27)).toNat).toInt) = 18 by decide), if_neg (show ¬ yr ((xLf xSm (yr (yKo 27)).toNat).toInt) = 19 by decide), if_neg (show ¬ yr ((xLf xSm (yr (yKo 27)).toNat).toInt) = 20 by decide), if_pos (show yr ((xLf xSm (yr (yKo 27)).toNat).toInt) = 21 by decide), w121_0, k121_x h34, YB_retv, w121_235, k121_x h34]
theorem yEr_e {x : Int} {S' : yS} (h : yEr V B C x S T) (h' : S' = S ∨ ∃ y, S' = sI S 38 y) : yEr V B C x S' T := by
  rcases h' with rfl | ⟨y, rfl⟩
  · exact h
  · exact yEr_us h
/-- the lines that are left -/
theorem r291 (hx : yCx S0 t V a n B C) (h : yRl V n B C e S T) : Y q (d + 1) 291 0 [vr 129] [] T ks = yret q (vi (gI S 36 - gI S 38)) T ks := by
  obtain ⟨_, _, _, _, p36, _, _, p55, p60, p61⟩ := yCx_p hx h.1.1
  rw [w291_0, w292_0, YB_ret, w291_4, p55, p60, p61, p36, h.2.1.1]
theorem ymin_b {x y : Int} (hx : 0 ≤ x ∧ x ≤ 100) (hy : 0 ≤ y ∧ y ≤ 100) : 0 ≤ ymin x y ∧ ymin x y ≤ y := by
  unfold ymin
  rw [yr_eq (x := x) (by omega) (by omega), yr_eq (x := y) (by omega) (by omega)]
  split <;> omega
end YUEL
end YUE
