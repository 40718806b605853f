/-! RUN: an if's condition; the lines that items would take; on both sides -/
section YUC
section YUCL
variable {q : yQ} {d d' : Nat} {js ks : List xO} {S0 : yS} {t : Nat} {V : yPV} {a : Int} {n : Nat} {B C S T : yS} {e : yEnv}
theorem yhol (hx : yCx S0 t V a n B C) (h : yRl V n B C e S T) {i a0 : Nat} {x y : yIe} (hi : (zI V)[i]? = some x) (ha : (zP V)[a0]? = some y) (k2 : y.1 = 9) (k3 : y.2.1 = x.2.2.1) (hg : sGd (sG0 S0) V x.2.2.1 0) : (∃ (S' T' : yS) (b : Bool), yRl V n B C e S' T' ∧ yFr yWm S S' ∧ Y q (d + 3) 123 0 [vr 125, vi i] [] S js = yret q (vi (yb1 b)) S' js ∧ Y q (d' + 5) 296 0 [vr 129, vi a0] [] T ks = yret q (vi (if b = true then ((a0 + 1 : Nat) : Int) else (y.2.2.1 : Nat))) T' ks) ∨ ∃ (S' T' : yS), yEr V B C 2 S' T' ∧ Y q (d + 3) 123 0 [vr 125, vi i] [] S js = yret q (vi 0) S' js ∧ Y q (d' + 5) 296 0 [vr 129, vi a0] [] T ks = ythr q (ystp 2 (Int32.ofInt (-1))) T' ks := by
  obtain ⟨⟨i1, i2, i3⟩, j1, j2, j3, j4⟩ := cit (iPq_cw hx.1.2.1 h.1.1.1.1) hi
  obtain ⟨u1, u2, u3, u4, u5⟩ := rit (iPq_rw hx.1.2.2 h.1.1.1.2) hx.1.1 ha
  have ei : yr (i : Int) = i := yr_eq (by omega) (by omega)
  have ki : 0 ≤ (i : Int) ∧ (i : Int) < 2000 := by omega
  have ea : yr (a0 : Int) = a0 := yr_eq (by omega) (by omega)
  have ka : 0 ≤ (a0 : Int) ∧ (a0 : Int) < 4000 := by omega
  have n1 : ¬ yr 1 = 0 := by decide
  have n2 : ¬ yr 2 = 0 := by decide
  have o0 : yr 0 = 0 ∨ yr 0 = 1 := by decide
  have o1 : yr 1 = 0 ∨ yr 1 = 1 := by decide
  have e28 : (yr 28).toNat = 28 := rfl
  have k28 : 0 ≤ yr 28 ∧ yr 28 < 92 := by decide
  have e00 : (yr 0).toNat = 0 := rfl
  have k128 : 0 ≤ yr 0 ∧ yr 0 < 128 := by decide
  have c0 : Y q (d + 3) 123 0 [vr 125, vi i] [] S js = YB q (Y q (d + 2) 75 0 [vr 118, vr 101, vi (x.2.2.1 : Nat), vu, vu, vu, vu, vu, vu] [] S js) (d + 3) 123 20 [vr 125, vi i] [] := by
    rw [w123_0, ei, if_pos ki, Int.toNat_natCast, j3]
  have r0 : Y q (d' + 5) 296 0 [vr 129, vi a0] [] T ks = YB q (Y q (d' + 4) 258 0 [vr 129, vr 139, vi (x.2.2.1 : Nat), vu, vu, vu, vu] [] T ks) (d' + 5) 296 29 [vr 129, vi a0] [] := by
    rw [w296_0, ea, if_pos ka, Int.toNat_natCast, u2, k2, if_neg (show ¬ yr ((9 : Nat) : Int) = yr 10 by decide), if_pos ka, u3, k3]
  rcases yrk (q := q) (d := d) (d' := d') (js := js) (ks := ks) hx h sAw_id hg with ⟨S1, T1, r1, ⟨f1, f2⟩, ⟨v, v1, a1, a2, b1, b2⟩ | ⟨a1, b1⟩⟩
  · have h34 : gI S1 34 = 0 := r1.1.2.1
    match v, v1, a2, b2 with
    | .inr l, v1, _, _ => exact absurd v1.1 (by decide)
    | .inl z, _, a2, b2 =>
      have g9 : gB S1 9 28 = z := a2.2.1
      have g16 : gB T1 16 0 = z := b2.2
      obtain ⟨_, _, _, s4, _⟩ := rit (iPq_rw hx.1.2.2 r1.1.1.1.2) hx.1.1 ha
      have ez : (yr (ylcmp z 0) = 0) = (z = 0) := by
        rw [yr_lcmp]
        exact propext (ylcmp_eq _ _)
      refine Or.inl ⟨S1, T1, decide (¬ z = 0), r1, f1, ?_, ?_⟩
      · rw [c0, a1, YB_ret, w123_23, if_neg n1, h34, if_pos yr_0, if_pos k28, e28, g9]
        simp only [ez]
        by_cases w : z = 0
        · rw [if_pos w, if_pos o0, decide_eq_false (fun v => v w)]
          rfl
        · rw [if_neg w, if_pos o1, decide_eq_true w]
          rfl
      · rw [r0, b1, YB_retv, w296_32, if_pos k128, e00, g16]
        simp only [ez]
        by_cases w : z = 0
        · rw [if_pos w, ea, if_pos ka, Int.toNat_natCast, s4, decide_eq_false (fun v => v w), if_neg (fun v => Bool.noConfusion v)]
        · have e1 : (a0 : Int) + 1 = ((a0 + 1 : Nat) : Int) := by omega
          rw [if_neg w, decide_eq_true w, if_pos rfl, e1]
  · refine Or.inr ⟨sI S1 34 2, T1, yRl_er r1, ?_, ?_⟩
    · rw [c0, a1, YB_ret, w123_23, if_pos yr_0, if_neg n2, if_pos o0]
    · rw [r0, b1, t296]
/-- how many lines: both sides -/
def yLi (q : yQ) (js ks : List xO) (V : yPV) (n : Nat) (B C : yS) (e : yEnv) (S : yS) (c0 l0 : Int) (b : Nat) (D' : Nat) (y0 bn : Int) (cl rf : Option xRes) : Prop := (∃ (S' T' : yS) (l : Int) (w4 w5 : yV), yRl V n B C e S' T' ∧ yFr yWm S S' ∧ cl = yret q (vi (c0 + l)) S' js ∧ rf = Y q D' 295 5 [vr 129, vi y0, vi bn, vi (l0 + l), vi b, w4, w5] [] T' ks) ∨ ∃ (S' T' : yS) (l : Int), yEr V B C 2 S' T' ∧ cl = yret q (vi l) S' js ∧ rf = ythr q (ystp 2 (Int32.ofInt (-1))) T' ks
def yLs0 (q : yQ) (js ks : List xO) (V : yPV) (n : Nat) (B C : yS) (D D' dp : Nat) (sub : Nat → Nat → Nat → Nat → Prop) : Prop := ∀ i j a0 b, sub i j a0 b → j ≤ 2000 → ∀ (e : yEnv) (S T : yS) (y0 l0 : Int) (bn : Nat) (w4 w5 : yV), b ≤ bn → bn ≤ 4000 → yRl V n B C e S T → yLi q js ks V n B C e S 0 l0 b D' y0 bn (Y q D 122 0 [vr 125, vi i, vi j, vi dp, vu, vu, vu, vu, vu, vu] [] S js) (Y q D' 295 5 [vr 129, vi y0, vi bn, vi l0, vi a0, w4, w5] [] T ks)
theorem k122_x {x0 x1 x2 x3 x4 x5 : Int} {x6 x7 x8 : yV} (h34 : ¬ yr (gI S 34) = 0) : Y q (d + 1) 122 9 [vr 125, vi x0, vi x1, vi x2, vi x3, vi x4, vi x5, x6, x7, x8] [] S js = yret q (vi x3) S js := by
  rw [w122_9, if_neg h34, ite_self, ite_self, ite_self]
theorem k122_to {x0 x2 x3 x5 : Int} {to : Nat} {x6 x7 x8 : yV} : Y q (d + 1) 122 9 [vr 125, vi x0, vi to, vi x2, vi x3, vi to, vi x5, x6, x7, x8] [] S js = yret q (vi x3) S js := by
  rw [w122_9, if_neg (show ¬ yr (to : Int) < yr (to : Int) by omega), ite_self, ite_self]
theorem k122_it {x0 x3 : Int} {it to m dp kd : Nat} {x6 x7 x8 : yV} (h34 : gI S 34 = 0) (hm : m < 2000) (hdp : dp ≤ 12) (hit : it < to) (hto : to ≤ 2000) (hk : gC S 3 it = kd) (h67 : kd < 67) (hb : 0 ≤ yr (yKo kd) ∧ yr (yKo kd) < 67) : Y q (d + 1) 122 9 [vr 125, vi x0, vi to, vi dp, vi x3, vi it, vi m, x6, x7, x8] [] S js = if yswv kd = 18 then Y q (d + 1) 122 9 [vr 125, vi x0, vi to, vi dp, vi (x3 + 1), vi (gA S 29 it), vi ((m : Int) + 1), vi (gA S 29 it), vi (gA S 27 it), x8] [] S js else if yswv kd = 19 then Y q (d + 1) 122 9 [vr 125, vi x0, vi to, vi dp, vi (x3 + gA S 27 it), vi (gA S 29 it), vi ((m : Int) + 1), vi (gA S 29 it), vi (gA S 27 it), x8] [] S js else if yswv kd = 20 then Y q (d + 1) 122 9 [vr 125, vi x0, vi to, vi dp, vi x3, vi (gA S 29 it), vi ((m : Int) + 1), vi (gA S 29 it), vi (gA S 27 it), x8] [] S js else if yswv kd = 21 then YB q (Y q d 122 0 [vr 125, vi ((it : Int) + 1), vi (gA S 29 it), vi ((dp : Int) + 1), vu, vu, vu, vu, vu, vu] [] S js) (d + 1) 122 140 [vr 125, vi x0, vi to, vi dp, vi x3, vi it, vi m, vi (gA S 29 it), vi (gA S 27 it), x8] [vi x3] else if yswv kd = 22 then YB q (Y q d 123 0 [vr 125, vi it] [] S js) (d + 1) 122 152 [vr 125, vi x0, vi to, vi dp, vi x3, vi it, vi m, vi (gA S 29 it), vi (gA S 27 it), x8] [] else Y q (d + 1) 122 9 [vr 125, vi x0, vi to, vi dp, vi x3, vi (gA S 29 it), vi ((m : Int) + 1), vi (gA S 29 it), vi (gA S 27 it), x8] [] S js := by
  have ei : yr (it : Int) = it := yr_eq (by omega) (by omega)
  have em : yr (m : Int) = m := yr_eq (by omega) (by omega)
  have et : yr (to : Int) = to := yr_eq (by omega) (by omega)
  have ed : yr (dp : Int) = dp := yr_eq (by omega) (by omega)
  have e2 : yr 2000 = 2000 := rfl
  have e12 : yr 12 = 12 := rfl
  have ki : 0 ≤ (it : Int) ∧ (it : Int) < 2000 := by omega
  rw [w122_9, ei, em, et, ed, e2, e12, if_pos (show (m : Int) < 2000 by omega), if_neg (show ¬ (12 : Int) < dp by omega), if_pos (show (it : Int) < to by omega), h34, if_pos yr_0, if_pos ki, if_pos ki, Int.toNat_natCast, hk, if_pos (show (0 ≤ (it : Int) ∧ (it : Int) < 2000) ∧ kd < 67 from ⟨ki, h67⟩), if_pos h67, w318_0, if_pos h67, YB_ret, w122_76, if_pos hb]
  rfl
end YUCL
end YUC
