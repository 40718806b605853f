/-! taken from whole by wip/p27/slice.py: 49f.digest.lean.txt -/
section YDG
def yfl (f : Nat → Int64) : Nat → Nat → Int64 → Int64
  | _, 0, s => s
  | i, n + 1, s => yfl f (i + 1) n (s * 31 + f i)
def yfc (o : Nat → Int) (a : Nat → Int64) : Nat → Nat → Int64 → Int64
  | _, 0, s => s
  | i, n + 1, s => yfc o a (i + 1) n ((s * 31 + yi2l (o i)) * 31 + a i)
def ylin (f : Nat → Int) (w L : Nat) : Int64 := yls f (L * w) w 0
def ytd (a b c e g : Int) (s : Int64) : Int64 := ((((s * 31 + yi2l a) * 31 + yi2l b) * 31 + yi2l c) * 31 + yi2l e) * 31 + yi2l g
/-- the digest, of what it is made -/
def ydg (C R T : Int) (cells : Nat → Int64) (RC : Nat) (N : Int) (o : Nat → Int) (a : Nat → Int64) (n : Nat) (td : Int64 → Int64) (f : Nat → Int) (w Ph : Nat) : Int64 := yfl (ylin f w) 0 Ph (td (yfc o a 0 n (yfl cells 0 RC (((257 * 31 + yi2l C) * 31 + yi2l R) * 31 + yi2l T) * 31 + yi2l N)))
section YDGL
variable {q : yQ} {d : Nat} {js : List xO} {S : yS}
theorem c134 {x y : Int} (hx : 0 ≤ x ∧ x < 40) (hy : 0 ≤ y ∧ y < gI S 10) (h1 : gI S 10 ≤ 8) : Y q d 134 0 [vr 82, vi x, vi y] [] S js = yret q (vj (gB S 7 (x * gI S 10 + y).toNat)) S js := by
  have h9 := cell_rng (x := x) (y := y) (c := gI S 10) hx hy h1
  rw [w134_0]
  simp (disch := omega) only [yr_eq]
  rw [if_neg (by omega), if_pos (by omega), if_neg (by omega), if_pos (by omega), if_pos (by omega)]
/-- the pages: P of them, h lines of w -/
theorem c165p {P h w : Nat} (hP : gI S 29 = P) (hh : gI S 28 = h) (hw : gI S 27 = w) (bP : P ≤ 30) (bh : h ≤ 40) (bw : 1 ≤ w ∧ w ≤ 60) : ∀ (n p : Nat) (s : Int64) (x : yV), p + n = P → Y q (d + 3) 165 262 [vr 81, vj s, vu, vi (p + 1), x] [] S js = yret q (vj (yfl (ylin (gA S 33) w) (p * h) (n * h) s)) S js
  | 0, p, s, x, e => by
    rw [w165_262, if_pos (by rw [yr_eq, yr_eq] <;> omega), Nat.zero_mul]
    rfl
  | n + 1, p, s, x, e => by
    have inner : ∀ (m l : Nat) (s : Int64), l + m = h → Y q (d + 3) 165 276 [vr 81, vj s, vu, vi (p + 1), vi (l + 1)] [] S js = yret q (vj (yfl (ylin (gA S 33) w) (p * h + l) (m + n * h) s)) S js := by
      intro m
      induction m with
      | zero =>
        intro l s el
        rw [w165_276, if_pos (by rw [yr_eq, yr_eq] <;> omega)]
        have e1 : ((p : Int) + 1 + 1) = ((p + 1 : Nat) : Int) + 1 := by omega
        rw [e1, c165p hP hh hw bP bh bw n (p + 1) s _ (by omega)]
        have e2 : (p + 1) * h = p * h + l := by rw [Nat.add_mul, Nat.one_mul]; omega
        rw [e2, Nat.zero_add]
      | succ m ih =>
        intro l s el
        have hi := idx_rng (p := (p : Int) + 1) (l := (l : Int) + 1) (k := 1) (P := P) (h := h) (w := w) (by omega) (by omega) (by omega) (by omega) (by omega) (by omega)
        have e0 : ((p : Int) + 1 - 1) * h + ((l : Int) + 1) - 1 = ((p * h + l : Nat) : Int) := by
          rw [Int.add_sub_cancel, Int.natCast_add, Int.natCast_mul]
          omega
        have e1 : (((p : Int) + 1 - 1) * gI S 28 + ((l : Int) + 1) - 1) * gI S 27 = (((p * h + l) * w : Nat) : Int) := by rw [hh, hw, e0, Int.natCast_mul]
        rw [e0] at hi
        rw [w165_276, if_neg (by rw [yr_eq, yr_eq] <;> omega), c90 (B := (((p * h + l) * w : Nat) : Int)) e1.symm (by omega) (by omega) (by rw [Int.natCast_mul, hw]; omega), YB_ret, w165_303]
        have e2 : ((l : Int) + 1 + 1) = ((l + 1 : Nat) : Int) + 1 := by omega
        rw [e2, ih (l + 1) _ (by omega), hw, Int.toNat_natCast, Int.toNat_natCast]
        have e3 : m + 1 + n * h = (m + n * h) + 1 := by omega
        rw [e3]
        rfl
    rw [w165_262, if_neg (by rw [yr_eq, yr_eq] <;> omega)]
    have := inner h 0 s (by omega)
    rw [Nat.add_mul, Nat.one_mul, Nat.add_comm (n * h) h]
    exact this
/-- what the pages make of a sum: nothing, where there are none -/
theorem c165q {P h w : Nat} (hP : gI S 29 = P) (hh : 0 < P → gI S 28 = h) (hw : 0 < P → gI S 27 = w) (bP : P ≤ 30) (bh : h ≤ 40) (bw : 1 ≤ w ∧ w ≤ 60) (s : Int64) (x : yV) : Y q (d + 3) 165 262 [vr 81, vj s, vu, vi 1, x] [] S js = yret q (vj (yfl (ylin (gA S 33) w) 0 (P * h) s)) S js := by
  by_cases z : P = 0
  · subst z
    rw [w165_262, if_pos (by rw [yr_eq, yr_eq] <;> omega), Nat.zero_mul]
    rfl
  · have := c165p (q := q) (d := d) (js := js) hP (hh (by omega)) (hw (by omega)) bP bh bw P 0 s x (by omega)
    rw [Nat.zero_mul] at this
    exact this
theorem c165c {F : Int64 → Int64} {N : Nat} (hN : gI S 0 = N) (bN : N ≤ 4000) (hF : ∀ (s : Int64) (x : yV), Y q (d + 3) 165 262 [vr 81, vj s, vu, vi 1, x] [] S js = yret q (vj (F s)) S js) : ∀ (n i : Nat) (s : Int64) (x : yV), i + n = N → Y q (d + 3) 165 126 [vr 81, vj s, vu, vi i, x] [] S js = yret q (vj (F (ytd (gI S 31) (gI S 29) (gI S 32) (gI S 33) (gI S 34) (yfc (gA S 0) (gB S 0) i n s)))) S js
  | 0, i, s, x, e => by
    rw [w165_126, if_neg (by rw [yr_eq, yr_eq] <;> omega), hF]
    rfl
  | n + 1, i, s, x, e => by
    have ei : yr (i : Int) = i := yr_eq (by omega) (by omega)
    have e1 : (i : Int) + 1 = ((i + 1 : Nat) : Int) := by omega
    rw [w165_126, if_pos (by rw [yr_eq, yr_eq] <;> omega), ei, if_pos (by omega), if_pos (by omega), e1, c165c hN bN hF n (i + 1) _ x (by omega), Int.toNat_natCast]
    rfl
/-- the cells: R rows of C -/
theorem c165r {F : Int64 → Int64} {R C : Nat} (hC : gI S 10 = C) (bC : C ≤ 8) (hn : 0 ≤ gI S 11 ∧ gI S 11 ≤ 40 * gI S 10) (hR : nrow (gI S 10) (gI S 11) = R) (bR : R ≤ 40) (hF : ∀ (s : Int64) (x : yV), Y q (d + 3) 165 126 [vr 81, vj (s * 31 + yi2l (gI S 0)), vu, vi 0, x] [] S js = yret q (vj (F s)) S js) : ∀ (n r : Nat) (s : Int64) (x : yV), r + n = R → Y q (d + 3) 165 51 [vr 81, vj s, vu, vi r, x] [] S js = yret q (vj (F (yfl (gB S 7) (r * C) (n * C) s))) S js
  | 0, r, s, x, e => by
    rw [w165_51, c131 (by omega) (by omega), YB_ret, w165_59, if_neg (by rw [yr_eq, yr_eq] <;> omega), hF, Nat.zero_mul]
    rfl
  | n + 1, r, s, x, e => by
    have inner : ∀ (m c : Nat) (s : Int64), c + m = C → Y q (d + 3) 165 65 [vr 81, vj s, vu, vi r, vi c] [] S js = yret q (vj (F (yfl (gB S 7) (r * C + c) (m + n * C) s))) S js := by
      intro m
      induction m with
      | zero =>
        intro c s ec
        have e1 : (r : Int) + 1 = ((r + 1 : Nat) : Int) := by omega
        rw [w165_65, if_neg (by rw [yr_eq, yr_eq] <;> omega), e1, c165r hC bC hn hR bR hF n (r + 1) s _ (by omega)]
        have e2 : (r + 1) * C = r * C + c := by rw [Nat.add_mul, Nat.one_mul]; omega
        rw [e2, Nat.zero_add]
      | succ m ih =>
        intro c s ec
        have e1 : (c : Int) + 1 = ((c + 1 : Nat) : Int) := by omega
        rw [w165_65, if_pos (by rw [yr_eq, yr_eq] <;> omega), c134 (by omega) (by omega) (by omega), YB_ret, w165_92, e1, ih (c + 1) _ (by omega)]
        have e3 : m + 1 + n * C = (m + n * C) + 1 := by omega
        have e4 : ((r : Int) * gI S 10 + c).toNat = r * C + c := by rw [hC, ← Int.natCast_mul, ← Int.natCast_add]; rfl
        rw [e3, e4]
        rfl
    rw [w165_51, c131 (by omega) (by omega), YB_ret, w165_59, if_pos (by rw [yr_eq, yr_eq] <;> omega)]
    have := inner C 0 s (by omega)
    rw [Nat.add_mul, Nat.one_mul, Nat.add_comm (n * C) C]
    exact this
theorem c165w {P h w R C N : Nat} (hC : gI S 10 = C) (bC : C ≤ 8) (hn : 0 ≤ gI S 11 ∧ gI S 11 ≤ 40 * gI S 10) (hR : nrow (gI S 10) (gI S 11) = R) (bR : R ≤ 40) (hN : gI S 0 = N) (bN : N ≤ 4000) (hP : gI S 29 = P) (hh : 0 < P → gI S 28 = h) (hw : 0 < P → gI S 27 = w) (bP : P ≤ 30) (bh : h ≤ 40) (bw : 1 ≤ w ∧ w ≤ 60) : Y q (d + 3) 165 0 [vr 81, vu, vu, vu, vu] [] S js = yret q (vj (ydg (gI S 10) R (gI S 12) (gB S 7) (R * C) (gI S 0) (gA S 0) (gB S 0) N (ytd (gI S 31) (gI S 29) (gI S 32) (gI S 33) (gI S 34)) (gA S 33) w (P * h))) S js := by
  rw [w165_0, c131 (by omega) (by omega), YB_ret, w165_31, hR]
  have z1 : ∀ (s : Int64) (x : yV), Y q (d + 3) 165 262 [vr 81, vj s, vu, vi 1, x] [] S js = yret q (vj ((fun s => yfl (ylin (gA S 33) w) 0 (P * h) s) s)) S js := fun s x => c165q hP hh hw bP bh bw s x
  have z2 : ∀ (s : Int64) (x : yV), Y q (d + 3) 165 126 [vr 81, vj (s * 31 + yi2l (gI S 0)), vu, vi 0, x] [] S js = yret q (vj ((fun s => yfl (ylin (gA S 33) w) 0 (P * h) (ytd (gI S 31) (gI S 29) (gI S 32) (gI S 33) (gI S 34) (yfc (gA S 0) (gB S 0) 0 N (s * 31 + yi2l (gI S 0))))) s)) S js := fun s x => c165c (F := fun s => yfl (ylin (gA S 33) w) 0 (P * h) s) hN bN z1 N 0 (s * 31 + yi2l (gI S 0)) x (by omega)
  have z3 := c165r (F := fun s => yfl (ylin (gA S 33) w) 0 (P * h) (ytd (gI S 31) (gI S 29) (gI S 32) (gI S 33) (gI S 34) (yfc (gA S 0) (gB S 0) 0 N (s * 31 + yi2l (gI S 0))))) hC bC hn hR bR z2 R 0 (((257 * 31 + yi2l (gI S 10)) * 31 + yi2l R) * 31 + yi2l (gI S 12)) vu (by omega)
  rw [Nat.zero_mul] at z3
  exact z3
end YDGL
end YDG
