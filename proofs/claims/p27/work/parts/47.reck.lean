/-! RECKON AND PIECES, for this program -/
section YRK
variable {q : yQ} {d : Nat} {js : List xO} {S : yS} {h n : Nat} {f : Nat → Int64}
theorem q75e (hp : pIn h n f S) {s : Nat} {op : Int} {ar : Int64} (hs : s + 1 < 26) (hd : zA0.getD (s + 1) 0 = 30) : Y q (d + 1) 75 9 [vr 124, vr 107, vi s, vi ((s : Int) + 1), vi ((28 : Nat) : Int), vi (0 + 1), vi op, vj ar, vu] [] S js = yret q (vi 1) S js := by
  have es1 : yr ((s : Int) + 1) = ((s + 1 : Nat) : Int) := by rw [yr_eq] <;> omega
  have e26 : yr 26 = 26 := rfl
  have e1 : gA S 0 (s + 1) = 30 := (hp.a0 (s + 1) hs).trans hd
  rw [w75b_9, if_pos (by decide), es1, if_neg (by omega), hp.i0, e26, if_pos (by omega), if_pos (by omega), if_pos (by omega), Int.toNat_natCast, e1, if_pos rfl, if_pos (by decide)]
theorem q75s (hp : pIn h n f S) {s : Nat} {op : Int} {ar : Int64} (hs : s + 1 < 26) (ho : zA0.getD s 0 = op) (ha : zB0.getD s 0 = ar) (hop : op = 1 ∨ op = 2 ∨ op = 4 ∨ op = 5) : Y q (d + 2) 75 0 [vr 124, vr 107, vi s, vu, vu, vu, vu, vu, vu] [] S js = YB q (Y q (d + 1) 76 0 [vr 124, vr 107, vi op, vj ar, vu, vi ((28 : Nat) : Int), vu] [] S js) (d + 2) 75 135 [vr 124, vr 107, vi s, vi ((s : Int) + 1), vi ((28 : Nat) : Int), vi 0, vi op, vj ar, vu] [] := by
  have es : yr (s : Int) = s := yr_eq (by omega) (by omega)
  have e26 : yr 26 = 26 := rfl
  have e0 : gA S 0 s = op := (hp.a0 s (by omega)).trans ho
  have b0 : gB S 0 s = ar := (hp.b0 s (by omega)).trans ha
  have n1 : ¬ yr op = yr 30 := by rcases hop with rfl | rfl | rfl | rfl <;> decide
  have n2 : ¬ yr op = yr 28 := by rcases hop with rfl | rfl | rfl | rfl <;> decide
  have n3 : ¬ yr op = yr 29 := by rcases hop with rfl | rfl | rfl | rfl <;> decide
  have n4 : ¬ yr 5 < yr op := by rcases hop with rfl | rfl | rfl | rfl <;> decide
  rw [w75b_0, w75b_9, if_pos (by decide), es, if_neg (by omega), hp.i0, e26, if_pos (by omega), if_pos (by omega), if_pos (by omega), Int.toNat_natCast, e0, b0, if_neg n1, if_neg (by decide), if_pos (by decide), if_neg n2, if_neg n3, if_neg n4]
  rfl
/-- a value is fetched -/
theorem q75 (hp : pIn h n f S) {s fr : Nat} {op : Int} {ar : Int64} {v : yVal} (hs : s + 1 < 26) (ho : zA0.getD s 0 = op) (hd : zA0.getD (s + 1) 0 = 30) (ha : zB0.getD s 0 = ar) (hop : (op = 2 ∧ 0 + yl2i ar = (fr : Int)) ∨ (op = 4 ∧ 16 + yl2i ar = (fr : Int)) ∨ (op = 5 ∧ 24 + yl2i ar = (fr : Int))) (hf : fr < 28) (hv : cV S fr v) : ∃ S' : yS, Y q (d + 2) 75 0 [vr 124, vr 107, vi s, vu, vu, vu, vu, vu, vu] [] S js = yret q (vi 1) S' js ∧ yFs 28 S S' ∧ cV S' 28 v := by
  obtain ⟨S', a1, a2, a3⟩ := c78 (q := q) (d := d) (js := js) (f := fr) (t := 28) (by omega) (by omega) (by omega) hv
  have ld : Y q (d + 1) 76 0 [vr 124, vr 107, vi op, vj ar, vu, vi ((28 : Nat) : Int), vu] [] S js = yretv q S' js := by
    rcases hop with ⟨rfl, hfr⟩ | ⟨rfl, hfr⟩ | ⟨rfl, hfr⟩
    · rw [w76b_0, if_neg (by decide), if_neg (by decide), if_pos (by decide), hfr, a1, YB_retv, w76b_72]
    · rw [w76b_0, if_neg (by decide), if_neg (by decide), if_neg (by decide), if_neg (by decide), if_pos (by decide), hfr, a1, YB_retv, w76b_100]
    · rw [w76b_0, if_neg (by decide), if_neg (by decide), if_neg (by decide), if_neg (by decide), if_neg (by decide), hfr, a1, YB_retv, w76b_114]
  refine ⟨S', ?_, a2, a3⟩
  rw [q75s hp hs ho ha (by rcases hop with ⟨rfl, -⟩ | ⟨rfl, -⟩ | ⟨rfl, -⟩ <;> decide), ld, YB_retv, w75b_138]
  exact q75e (hp.fr (pW_s a2)) hs hd
/-- a text is fetched -/
theorem q75t (hp : pIn h n f S) {s k : Nat} {ar : Int64} (hs : s + 1 < 26) (ho : zA0.getD s 0 = 1) (hd : zA0.getD (s + 1) 0 = 30) (ha : zB0.getD s 0 = ar) (hk : k < 2) (har : yl2i ar = (k : Int)) : ∃ S' : yS, Y q (d + 2) 75 0 [vr 124, vr 107, vi s, vu, vu, vu, vu, vu, vu] [] S js = yret q (vi 1) S' js ∧ yFs 28 S S' ∧ cV S' 28 (.inr [if k = 0 then 61 else 43]) := by
  have hX : cX S 0 [[61], [43]] := by
    refine ⟨hp.i2, fun k hk => ?_, fun k l i y hl hi => ?_⟩
    · have hk : k ≤ 2 := hk
      match k, hk with
      | 0, _ => exact hp.a4 0 (by decide)
      | 1, _ => exact hp.a4 1 (by decide)
      | 2, _ => exact hp.a4 2 (by decide)
    · match k, hl with
      | 0, hl =>
        cases hl
        match i, hi with
        | 0, hi => cases hi; exact hp.a2 0 (by decide)
        | i + 1, hi => cases hi
      | 1, hl =>
        cases hl
        match i, hi with
        | 0, hi => cases hi; exact hp.a2 1 (by decide)
        | i + 1, hi => cases hi
      | k + 2, hl => cases hl
  obtain ⟨S', a1, a2, a3⟩ := c77 (q := q) (d := d) (js := js) (u := 0) (n := 28) (X := [[61], [43]]) (k := k) (l := [if k = 0 then 61 else 43]) rfl (by omega) hX ⟨by decide, by decide⟩ (by match k, hk with | 0, _ => rfl | 1, _ => rfl) ⟨by show (1 : Nat) ≤ 60; omega, fun y hy => by
    have : y = if k = 0 then 61 else 43 := by simpa using hy
    rw [this]
    split <;> decide⟩
  have ld : Y q (d + 1) 76 0 [vr 124, vr 107, vi 1, vj ar, vu, vi ((28 : Nat) : Int), vu] [] S js = yretv q S' js := by
    have a1' : Y q d 77 0 [vr 124, vi ((28 : Nat) : Int), vr 107, vi k, vu, vu, vu] [] S js = yretv q S' js := a1
    rw [w76b_0, if_neg (by decide), if_pos (by decide), har, a1', YB_retv, w76b_59]
  refine ⟨S', ?_, a2, a3⟩
  rw [q75s hp hs ho ha (Or.inl rfl), ld, YB_retv, w75b_138]
  exact q75e (hp.fr (pW_s a2)) hs hd
/-- a piece of a line: what it makes of the paper -/
def wPc (B k0 : Nat) (v : yVal) (w side : Nat) (F : Nat → Int) : Nat → Int := ywl B 24 k0 (ypbt (yisn v) (yptx v) (ywid w (yptx v).length) (yah side (ywid w (yptx v).length) (yptx v).length)) (ywid w (yptx v).length) 0 F
theorem q118p (hp : pIn h n f S) {P line k0 i w side s : Nat} {v : yVal} {x0 x1 x2 x4 x5 x6 : Int} (hP : 1 ≤ P ∧ P ≤ 30) (hh : h ≤ 40) (hl : line < h) (hk : k0 ≤ 100) (g34 : gI S 34 = 0) (g29 : gI S 29 = P) (g28 : gI S 28 = h) (g27 : gI S 27 = 24) (hi : i < 18) (h6 : (i : Int) < x6 ∧ x6 < 2000) (hk3 : zC3.getD i 0 = side) (hsd : side = 31 ∨ side = 32) (hk27 : zA27.getD i 0 = w) (hw : w ≤ 60) (hk28 : zA28.getD i 0 = s)
    (hr : ∃ S1 : yS, Y q (d + 2) 75 0 [vr 124, vr 107, vi s, vu, vu, vu, vu, vu, vu] [] S js = yret q (vi 1) S1 js ∧ yFs 28 S S1 ∧ cV S1 28 v) : ∃ S2 : yS, Y q (d + 3) 118 51 [vr 131, vi x0, vi x1, vi x2, vi ((line : Int) + 1), vi x4, vi x5, vi x6, vi ((k0 : Int) + 1), vi i] [] S js = Y q (d + 3) 118 51 [vr 131, vi x0, vi x1, vi x2, vi ((line : Int) + 1), vi x4, vi x5, vi x6, vi (((k0 + ywid w (yptx v).length : Nat) : Int) + 1), vi ((i + 1 : Nat) : Int)] [] (sAr S2 33 (wPc (((P - 1) * h + line) * 24) k0 v w side (gA S 33))) js ∧ yFs 28 S S2 := by
  have ei : yr (i : Int) = i := yr_eq (by omega) (by omega)
  have e6 : yr x6 = x6 := yr_eq (by omega) (by omega)
  have ek : gC S 3 i = side := (hp.c3 i hi).trans hk3
  have e28 : gA S 28 i = s := (hp.a28 i hi).trans hk28
  have hs67 : side < 67 := by rcases hsd with rfl | rfl <;> decide
  have hs23 : ¬ side = 23 := by rcases hsd with rfl | rfl <;> decide
  obtain ⟨S1, r1, r2, r3⟩ := hr
  have p1 := hp.fr (pW_s r2)
  obtain ⟨S2, b1, b2, b3⟩ := c119 (q := q) (d := d) (js := js) (S := S1) (P := P) (h := h) (w := 24) (line := line) (k0 := k0) (i := i) (w0 := w) (side := side) (v := v) hP hh (by omega) hl (by omega) hw (by omega) (by omega) ((r2.1.1 29 rfl).trans g29) ((r2.1.1 28 rfl).trans g28) ((r2.1.1 27 rfl).trans g27) ((p1.a27 i hi).trans hk27) ((p1.c3 i hi).trans hk3) r3
  have e33 : gA S1 33 = gA S 33 := r2.1.2.2.2.1 33 rfl
  rw [e33] at b1
  refine ⟨S2, ?_, yFs_tr r2 b2⟩
  rw [w118_51, ei, e6, if_pos h6.1, g34, if_pos (show yr 0 = 0 from rfl), Int.toNat_natCast, ek, if_pos ⟨by omega, hs67⟩, if_pos ⟨hs67, by decide⟩, if_neg hs23, if_pos (by omega), e28, r1, YB_ret, w118_120, if_neg (by decide), b1, YB_ret, w118_133]
  have c1 : (k0 : Int) + 1 + (ywid w (yptx v).length : Nat) = ((k0 + ywid w (yptx v).length : Nat) : Int) + 1 := by omega
  rw [c1]
  rfl
end YRK
