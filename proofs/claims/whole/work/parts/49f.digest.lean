/-! DIGEST -/
section YDG
def yfl (f : Nat → Int64) : Nat → Nat → Int64 → Int64
  | _, 0, s => s
  | i, n + 1, s => yfl f (i + 1) n (s * 31 + f i)
def yfc (o : Nat → Int) (a : Nat → Int64) : Nat → Nat → Int64 → Int64
  | _, 0, s => s
  | i, n + 1, s => yfc o a (i + 1) n ((s * 31 + yi2l (o i)) * 31 + a i)
def ylin (f : Nat → Int) (w L : Nat) : Int64 := yls f (L * w) w 0
def ytd (a b c e g : Int) (s : Int64) : Int64 := ((((s * 31 + yi2l a) * 31 + yi2l b) * 31 + yi2l c) * 31 + yi2l e) * 31 + yi2l g
theorem yfl_add (f : Nat → Int64) : ∀ (a b i : Nat) (s : Int64), yfl f i (a + b) s = yfl f (i + a) b (yfl f i a s)
  | 0, b, i, s => by rw [Nat.zero_add]; rfl
  | a + 1, b, i, s => by
    have e : a + 1 + b = (a + b) + 1 := by omega
    rw [e]
    show yfl f (i + 1) (a + b) _ = yfl f (i + (a + 1)) b (yfl f (i + 1) a _)
    rw [yfl_add f a b (i + 1)]
    have e2 : i + 1 + a = i + (a + 1) := by omega
    rw [e2]
theorem yfl_cg {f g : Nat → Int64} : ∀ {n i : Nat} {s : Int64}, (∀ k, i ≤ k → k < i + n → f k = g k) → yfl f i n s = yfl g i n s
  | 0, i, s, _ => rfl
  | n + 1, i, s, h => by
    unfold yfl
    rw [h i (Nat.le_refl i) (by omega)]
    exact yfl_cg (n := n) (i := i + 1) fun k h1 h2 => h k (by omega) (by omega)
theorem yfc_cg {o o' : Nat → Int} {a a' : Nat → Int64} : ∀ {n i : Nat} {s : Int64}, (∀ k, i ≤ k → k < i + n → o k = o' k ∧ a k = a' k) → yfc o a i n s = yfc o' a' i n s
  | 0, i, s, _ => rfl
  | n + 1, i, s, h => by
    unfold yfc
    rw [(h i (Nat.le_refl i) (by omega)).1, (h i (Nat.le_refl i) (by omega)).2]
    exact yfc_cg (n := n) (i := i + 1) fun k h1 h2 => h k (by omega) (by omega)
/-- the digest, of what it is made -/
def ydg (C R T : Int) (cells : Nat → Int64) (RC : Nat) (N : Int) (o : Nat → Int) (a : Nat → Int64) (n : Nat) (td : Int64 → Int64) (f : Nat → Int) (w Ph : Nat) : Int64 := yfl (ylin f w) 0 Ph (td (yfc o a 0 n (yfl cells 0 RC (((257 * 31 + yi2l C) * 31 + yi2l R) * 31 + yi2l T) * 31 + yi2l N)))
section YDGL
variable {q : yQ} {d : Nat} {js : List xO} {S : yS}
theorem c134 {x y : Int} (hx : 0 ≤ x ∧ x < 40) (hy : 0 ≤ y ∧ y < gI S 10) (h1 : gI S 10 ≤ 8) : Y q d 134 0 [vr 76, vi x, vi y] [] S js = yret q (vj (gB S 7 (x * gI S 10 + y).toNat)) S js := by
  have h9 := cell_rng (x := x) (y := y) (c := gI S 10) hx hy h1
  rw [w134_0]
  simp (disch := omega) only [yr_eq]
  rw [if_neg (by omega), if_pos (by omega), if_neg (by omega), if_pos (by omega), if_pos (by omega)]
/-- the pages: P of them, h lines of w -/
theorem c165p {P h w : Nat} (hP : gI S 29 = P) (hh : gI S 28 = h) (hw : gI S 27 = w) (bP : P ≤ 30) (bh : h ≤ 40) (bw : 1 ≤ w ∧ w ≤ 60) : ∀ (n p : Nat) (s : Int64) (x : yV), p + n = P → Y q (d + 3) 165 262 [vr 75, vj s, vu, vi (p + 1), x] [] S js = yret q (vj (yfl (ylin (gA S 33) w) (p * h) (n * h) s)) S js
  | 0, p, s, x, e => by
    rw [w165_262, if_pos (by rw [yr_eq, yr_eq] <;> omega), Nat.zero_mul]
    rfl
  | n + 1, p, s, x, e => by
    have inner : ∀ (m l : Nat) (s : Int64), l + m = h → Y q (d + 3) 165 276 [vr 75, vj s, vu, vi (p + 1), vi (l + 1)] [] S js = yret q (vj (yfl (ylin (gA S 33) w) (p * h + l) (m + n * h) s)) S js := by
      intro m
      induction m with
      | zero =>
        intro l s el
        rw [w165_276, if_pos (by rw [yr_eq, yr_eq] <;> omega)]
        have e1 : ((p : Int) + 1 + 1) = ((p + 1 : Nat) : Int) + 1 := by omega
        rw [e1, c165p hP hh hw bP bh bw n (p + 1) s _ (by omega)]
        have e2 : (p + 1) * h = p * h + l := by rw [Nat.add_mul, Nat.one_mul]; omega
        rw [e2, Nat.zero_add]
      | succ m ih =>
        intro l s el
        have hi := idx_rng (p := (p : Int) + 1) (l := (l : Int) + 1) (k := 1) (P := P) (h := h) (w := w) (by omega) (by omega) (by omega) (by omega) (by omega) (by omega)
        have e0 : ((p : Int) + 1 - 1) * h + ((l : Int) + 1) - 1 = ((p * h + l : Nat) : Int) := by
          rw [Int.add_sub_cancel, Int.natCast_add, Int.natCast_mul]
          omega
        have e1 : (((p : Int) + 1 - 1) * gI S 28 + ((l : Int) + 1) - 1) * gI S 27 = (((p * h + l) * w : Nat) : Int) := by rw [hh, hw, e0, Int.natCast_mul]
        rw [e0] at hi
        rw [w165_276, if_neg (by rw [yr_eq, yr_eq] <;> omega), c90 (B := (((p * h + l) * w : Nat) : Int)) e1.symm (by omega) (by omega) (by rw [Int.natCast_mul, hw]; omega), YB_ret, w165_303]
        have e2 : ((l : Int) + 1 + 1) = ((l + 1 : Nat) : Int) + 1 := by omega
        rw [e2, ih (l + 1) _ (by omega), hw, Int.toNat_natCast, Int.toNat_natCast]
        have e3 : m + 1 + n * h = (m + n * h) + 1 := by omega
        rw [e3]
        rfl
    rw [w165_262, if_neg (by rw [yr_eq, yr_eq] <;> omega)]
    have := inner h 0 s (by omega)
    rw [Nat.add_mul, Nat.one_mul, Nat.add_comm (n * h) h]
    exact this
theorem r313p {P h w : Nat} (hR : 0 < gI S 66 ∧ gI S 66 ≤ 4) (hP : gI S 68 = P) (hh : gI S 55 = h) (hw : gI S 54 = w) (bP : P ≤ 30) (bh : h ≤ 40) (bw : 1 ≤ w ∧ w ≤ 60) : ∀ (n p : Nat) (s : Int64) (x : yV), p + n = P → Y q (d + 2) 313 162 [vr 129, vj s, vu, vi (p + 1), x] [] S js = yret q (vj (yfl (ylin (gA S 64) w) (p * h) (n * h) s)) S js
  | 0, p, s, x, e => by
    rw [w313_162, if_pos (by rw [yr_eq] <;> omega), if_pos (by rw [yr_eq, yr_eq] <;> omega), Nat.zero_mul]
    rfl
  | n + 1, p, s, x, e => by
    have inner : ∀ (m l : Nat) (s : Int64), l + m = h → Y q (d + 2) 313 180 [vr 129, vj s, vu, vi (p + 1), vi (l + 1)] [] S js = yret q (vj (yfl (ylin (gA S 64) w) (p * h + l) (m + n * h) s)) S js := by
      intro m
      induction m with
      | zero =>
        intro l s el
        rw [w313_180, if_pos (by rw [yr_eq, yr_eq] <;> omega)]
        have e1 : ((p : Int) + 1 + 1) = ((p + 1 : Nat) : Int) + 1 := by omega
        rw [e1, r313p hR hP hh hw bP bh bw n (p + 1) s _ (by omega)]
        have e2 : (p + 1) * h = p * h + l := by rw [Nat.add_mul, Nat.one_mul]; omega
        rw [e2, Nat.zero_add]
      | succ m ih =>
        intro l s el
        have hi := idx_rng (p := (p : Int) + 1) (l := (l : Int) + 1) (k := 1) (P := P) (h := h) (w := w) (by omega) (by omega) (by omega) (by omega) (by omega) (by omega)
        have e0 : ((p : Int) + 1 - 1) * h + ((l : Int) + 1) - 1 = ((p * h + l : Nat) : Int) := by
          rw [Int.add_sub_cancel, Int.natCast_add, Int.natCast_mul]
          omega
        have e1 : (((p : Int) + 1 - 1) * gI S 55 + ((l : Int) + 1) - 1) * gI S 54 = (((p * h + l) * w : Nat) : Int) := by rw [hh, hw, e0, Int.natCast_mul]
        rw [e0] at hi
        rw [w313_180, if_neg (by rw [yr_eq, yr_eq] <;> omega), r308 (B := (((p * h + l) * w : Nat) : Int)) e1.symm (by omega) (by omega) (by rw [Int.natCast_mul, hw]; omega), YB_ret, w313_201]
        have e2 : ((l : Int) + 1 + 1) = ((l + 1 : Nat) : Int) + 1 := by omega
        rw [e2, ih (l + 1) _ (by omega), hw, Int.toNat_natCast, Int.toNat_natCast]
        have e3 : m + 1 + n * h = (m + n * h) + 1 := by omega
        rw [e3]
        rfl
    rw [w313_162, if_pos (by rw [yr_eq] <;> omega), if_neg (by rw [yr_eq, yr_eq] <;> omega)]
    have := inner h 0 s (by omega)
    rw [Nat.add_mul, Nat.one_mul, Nat.add_comm (n * h) h]
    exact this
/-- what the pages make of a sum: nothing, where there are none -/
theorem c165q {P h w : Nat} (hP : gI S 29 = P) (hh : 0 < P → gI S 28 = h) (hw : 0 < P → gI S 27 = w) (bP : P ≤ 30) (bh : h ≤ 40) (bw : 1 ≤ w ∧ w ≤ 60) (s : Int64) (x : yV) : Y q (d + 3) 165 262 [vr 75, vj s, vu, vi 1, x] [] S js = yret q (vj (yfl (ylin (gA S 33) w) 0 (P * h) s)) S js := by
  by_cases z : P = 0
  · subst z
    rw [w165_262, if_pos (by rw [yr_eq, yr_eq] <;> omega), Nat.zero_mul]
    rfl
  · have := c165p (q := q) (d := d) (js := js) hP (hh (by omega)) (hw (by omega)) bP bh bw P 0 s x (by omega)
    rw [Nat.zero_mul] at this
    exact this
theorem r313q {P h w : Nat} (hR : 0 ≤ gI S 66 ∧ gI S 66 ≤ 4) (h0 : gI S 66 = 0 → P = 0) (hP : 0 < gI S 66 → gI S 68 = P) (hh : 0 < gI S 66 → gI S 55 = h) (hw : 0 < gI S 66 → gI S 54 = w) (bP : P ≤ 30) (bh : h ≤ 40) (bw : 1 ≤ w ∧ w ≤ 60) (s : Int64) (x : yV) : Y q (d + 2) 313 162 [vr 129, vj s, vu, vi 1, x] [] S js = yret q (vj (yfl (ylin (gA S 64) w) 0 (P * h) s)) S js := by
  by_cases z : gI S 66 = 0
  · rw [w313_162, if_neg (by rw [yr_eq] <;> omega), h0 z, Nat.zero_mul]
    rfl
  · have z' : 0 < gI S 66 := by omega
    have := r313p (q := q) (d := d) (js := js) ⟨z', hR.2⟩ (hP z') (hh z') (hw z') bP bh bw P 0 s x (by omega)
    rw [Nat.zero_mul] at this
    exact this
theorem c165c {F : Int64 → Int64} {N : Nat} (hN : gI S 0 = N) (bN : N ≤ 4000) (hF : ∀ (s : Int64) (x : yV), Y q (d + 3) 165 262 [vr 75, vj s, vu, vi 1, x] [] S js = yret q (vj (F s)) S js) : ∀ (n i : Nat) (s : Int64) (x : yV), i + n = N → Y q (d + 3) 165 126 [vr 75, vj s, vu, vi i, x] [] S js = yret q (vj (F (ytd (gI S 31) (gI S 29) (gI S 32) (gI S 33) (gI S 34) (yfc (gA S 0) (gB S 0) i n s)))) S js
  | 0, i, s, x, e => by
    rw [w165_126, if_neg (by rw [yr_eq, yr_eq] <;> omega), hF]
    rfl
  | n + 1, i, s, x, e => by
    have ei : yr (i : Int) = i := yr_eq (by omega) (by omega)
    have e1 : (i : Int) + 1 = ((i + 1 : Nat) : Int) := by omega
    rw [w165_126, if_pos (by rw [yr_eq, yr_eq] <;> omega), ei, if_pos (by omega), if_pos (by omega), e1, c165c hN bN hF n (i + 1) _ x (by omega), Int.toNat_natCast]
    rfl
theorem r313t {F : Int64 → Int64} (hR : 0 ≤ gI S 66 ∧ gI S 66 ≤ 4) (hF : ∀ (s : Int64) (x : yV), Y q (d + 2) 313 162 [vr 129, vj s, vu, vi 1, x] [] S js = yret q (vj (F s)) S js) (s : Int64) : Y q (d + 2) 313 136 [vr 129, vj s, vu, vi 0, vu] [] S js = yret q (vj (F (if gI S 66 = 0 then ytd 0 0 0 0 0 s else ytd (gI S 67) (gI S 68) (gI S 69) (gI S 70) (gI S 71) s))) S js := by
  have st : ∀ (k : Int) (s : Int64), 0 ≤ k ∧ k < 5 → Y q (d + 2) 313 136 [vr 129, vj s, vu, vi k, vu] [] S js = Y q (d + 2) 313 136 [vr 129, vj (s * 31 + yi2l (if gI S 66 = 0 then 0 else if k = 0 then gI S 67 else if k = 1 then gI S 68 else if k = 2 then gI S 69 else if k = 3 then gI S 70 else gI S 71)), vu, vi (k + 1), vu] [] S js := by
    intro k s hk
    rw [w313_136, if_pos (by rw [yr_eq, yr_eq] <;> omega), r303 (by omega) hR, YB_ret, w313_151]
  rw [st 0 s (by omega), st (0 + 1) _ (by omega), st (0 + 1 + 1) _ (by omega), st (0 + 1 + 1 + 1) _ (by omega), st (0 + 1 + 1 + 1 + 1) _ (by omega), w313_136, if_neg (by decide), hF]
  split <;> rfl
theorem r313c {F : Int64 → Int64} {N : Nat} (hN : gI S 4 = N) (bN : N ≤ 4000) (hF : ∀ (s : Int64), Y q (d + 2) 313 136 [vr 129, vj s, vu, vi 0, vu] [] S js = yret q (vj (F s)) S js) : ∀ (n i : Nat) (s : Int64), i + n = N → Y q (d + 2) 313 86 [vr 129, vj s, vu, vi i, vu] [] S js = yret q (vj (F (yfc (gA S 6) (gB S 2) i n s))) S js
  | 0, i, s, e => by
    rw [w313_86, if_neg (by rw [yr_eq, yr_eq] <;> omega), hF]
    rfl
  | n + 1, i, s, e => by
    have ei : yr (i : Int) = i := yr_eq (by omega) (by omega)
    have e1 : (i : Int) + 1 = ((i + 1 : Nat) : Int) := by omega
    rw [w313_86, if_pos (by rw [yr_eq, yr_eq] <;> omega), ei, if_pos (by omega), if_pos (by omega), e1, r313c hN bN hF n (i + 1) _ (by omega), Int.toNat_natCast]
    rfl
/-- the cells: R rows of C -/
theorem c165r {F : Int64 → Int64} {R C : Nat} (hC : gI S 10 = C) (bC : C ≤ 8) (hn : 0 ≤ gI S 11 ∧ gI S 11 ≤ 40 * gI S 10) (hR : nrow (gI S 10) (gI S 11) = R) (bR : R ≤ 40) (hF : ∀ (s : Int64) (x : yV), Y q (d + 3) 165 126 [vr 75, vj (s * 31 + yi2l (gI S 0)), vu, vi 0, x] [] S js = yret q (vj (F s)) S js) : ∀ (n r : Nat) (s : Int64) (x : yV), r + n = R → Y q (d + 3) 165 51 [vr 75, vj s, vu, vi r, x] [] S js = yret q (vj (F (yfl (gB S 7) (r * C) (n * C) s))) S js
  | 0, r, s, x, e => by
    rw [w165_51, c131 (by omega) (by omega), YB_ret, w165_59, if_neg (by rw [yr_eq, yr_eq] <;> omega), hF, Nat.zero_mul]
    rfl
  | n + 1, r, s, x, e => by
    have inner : ∀ (m c : Nat) (s : Int64), c + m = C → Y q (d + 3) 165 65 [vr 75, vj s, vu, vi r, vi c] [] S js = yret q (vj (F (yfl (gB S 7) (r * C + c) (m + n * C) s))) S js := by
      intro m
      induction m with
      | zero =>
        intro c s ec
        have e1 : (r : Int) + 1 = ((r + 1 : Nat) : Int) := by omega
        rw [w165_65, if_neg (by rw [yr_eq, yr_eq] <;> omega), e1, c165r hC bC hn hR bR hF n (r + 1) s _ (by omega)]
        have e2 : (r + 1) * C = r * C + c := by rw [Nat.add_mul, Nat.one_mul]; omega
        rw [e2, Nat.zero_add]
      | succ m ih =>
        intro c s ec
        have e1 : (c : Int) + 1 = ((c + 1 : Nat) : Int) := by omega
        rw [w165_65, if_pos (by rw [yr_eq, yr_eq] <;> omega), c134 (by omega) (by omega) (by omega), YB_ret, w165_92, e1, ih (c + 1) _ (by omega)]
        have e3 : m + 1 + n * C = (m + n * C) + 1 := by omega
        have e4 : ((r : Int) * gI S 10 + c).toNat = r * C + c := by rw [hC, ← Int.natCast_mul, ← Int.natCast_add]; rfl
        rw [e3, e4]
        rfl
    rw [w165_51, c131 (by omega) (by omega), YB_ret, w165_59, if_pos (by rw [yr_eq, yr_eq] <;> omega)]
    have := inner C 0 s (by omega)
    rw [Nat.add_mul, Nat.one_mul, Nat.add_comm (n * C) C]
    exact this
theorem r313r {F : Int64 → Int64} {R C : Nat} (hC : gI S 41 = C) (bC : C ≤ 8) (hn : 0 ≤ gI S 42 ∧ gI S 42 ≤ 40 * gI S 41) (hR : nrow (gI S 41) (gI S 42) = R) (bR : R ≤ 40) (hF : ∀ (s : Int64), Y q (d + 2) 313 86 [vr 129, vj (s * 31 + yi2l (gI S 4)), vu, vi 0, vu] [] S js = yret q (vj (F s)) S js) : ∀ (n i : Nat) (s : Int64), i + n = R * C → Y q (d + 2) 313 37 [vr 129, vj s, vu, vi i, vu] [] S js = yret q (vj (F (yfl (gB S 12) i n s))) S js
  | 0, i, s, e => by
    have b : R * C ≤ 40 * 8 := Nat.mul_le_mul bR bC
    have e9 : (R : Int) * C = ((R * C : Nat) : Int) := by rw [Int.natCast_mul]
    rw [w313_37, r199 (by omega) (by omega), YB_ret, w313_42, hR, hC, e9, if_neg (by rw [yr_eq, yr_eq] <;> omega), hF]
    rfl
  | n + 1, i, s, e => by
    have b : R * C ≤ 40 * 8 := Nat.mul_le_mul bR bC
    have e9 : (R : Int) * C = ((R * C : Nat) : Int) := by rw [Int.natCast_mul]
    have ei : yr (i : Int) = i := yr_eq (by omega) (by omega)
    have e1 : (i : Int) + 1 = ((i + 1 : Nat) : Int) := by omega
    rw [w313_37, r199 (by omega) (by omega), YB_ret, w313_42, hR, hC, e9, if_pos (by rw [yr_eq, yr_eq] <;> omega), ei, if_pos (by omega), e1, r313r hC bC hn hR bR hF n (i + 1) _ (by omega), Int.toNat_natCast]
    rfl
theorem c165w {P h w R C N : Nat} (hC : gI S 10 = C) (bC : C ≤ 8) (hn : 0 ≤ gI S 11 ∧ gI S 11 ≤ 40 * gI S 10) (hR : nrow (gI S 10) (gI S 11) = R) (bR : R ≤ 40) (hN : gI S 0 = N) (bN : N ≤ 4000) (hP : gI S 29 = P) (hh : 0 < P → gI S 28 = h) (hw : 0 < P → gI S 27 = w) (bP : P ≤ 30) (bh : h ≤ 40) (bw : 1 ≤ w ∧ w ≤ 60) : Y q (d + 3) 165 0 [vr 75, vu, vu, vu, vu] [] S js = yret q (vj (ydg (gI S 10) R (gI S 12) (gB S 7) (R * C) (gI S 0) (gA S 0) (gB S 0) N (ytd (gI S 31) (gI S 29) (gI S 32) (gI S 33) (gI S 34)) (gA S 33) w (P * h))) S js := by
  rw [w165_0, c131 (by omega) (by omega), YB_ret, w165_31, hR]
  have z1 : ∀ (s : Int64) (x : yV), Y q (d + 3) 165 262 [vr 75, vj s, vu, vi 1, x] [] S js = yret q (vj ((fun s => yfl (ylin (gA S 33) w) 0 (P * h) s) s)) S js := fun s x => c165q hP hh hw bP bh bw s x
  have z2 : ∀ (s : Int64) (x : yV), Y q (d + 3) 165 126 [vr 75, vj (s * 31 + yi2l (gI S 0)), vu, vi 0, x] [] S js = yret q (vj ((fun s => yfl (ylin (gA S 33) w) 0 (P * h) (ytd (gI S 31) (gI S 29) (gI S 32) (gI S 33) (gI S 34) (yfc (gA S 0) (gB S 0) 0 N (s * 31 + yi2l (gI S 0))))) s)) S js := fun s x => c165c (F := fun s => yfl (ylin (gA S 33) w) 0 (P * h) s) hN bN z1 N 0 (s * 31 + yi2l (gI S 0)) x (by omega)
  have z3 := c165r (F := fun s => yfl (ylin (gA S 33) w) 0 (P * h) (ytd (gI S 31) (gI S 29) (gI S 32) (gI S 33) (gI S 34) (yfc (gA S 0) (gB S 0) 0 N (s * 31 + yi2l (gI S 0))))) hC bC hn hR bR z2 R 0 (((257 * 31 + yi2l (gI S 10)) * 31 + yi2l R) * 31 + yi2l (gI S 12)) vu (by omega)
  rw [Nat.zero_mul] at z3
  exact z3
theorem r313w {P h w R C N : Nat} (hC : gI S 41 = C) (bC : C ≤ 8) (hn : 0 ≤ gI S 42 ∧ gI S 42 ≤ 40 * gI S 41) (hR : nrow (gI S 41) (gI S 42) = R) (bR : R ≤ 40) (hN : gI S 4 = N) (bN : N ≤ 4000) (h66 : 0 ≤ gI S 66 ∧ gI S 66 ≤ 4) (h0 : gI S 66 = 0 → P = 0) (hP : 0 < gI S 66 → gI S 68 = P) (hh : 0 < gI S 66 → gI S 55 = h) (hw : 0 < gI S 66 → gI S 54 = w) (bP : P ≤ 30) (bh : h ≤ 40) (bw : 1 ≤ w ∧ w ≤ 60) : Y q (d + 2) 313 11 [vr 129, vj 257, vu, vi 0, vu] [] S js = yret q (vj (ydg (gI S 41) R (gI S 40) (gB S 12) (R * C) (gI S 4) (gA S 6) (gB S 2) N (fun s => if gI S 66 = 0 then ytd 0 0 0 0 0 s else ytd (gI S 67) (gI S 68) (gI S 69) (gI S 70) (gI S 71) s) (gA S 64) w (P * h))) S js := by
  have st : ∀ (k : Int) (s : Int64), 0 ≤ k ∧ k < 3 → Y q (d + 2) 313 11 [vr 129, vj s, vu, vi k, vu] [] S js = Y q (d + 2) 313 11 [vr 129, vj (s * 31 + yi2l (if k = 0 then gI S 41 else if k = 1 then nrow (gI S 41) (gI S 42) else gI S 40)), vu, vi (k + 1), vu] [] S js := by
    intro k s hk
    rw [w313_11, if_pos (by rw [yr_eq, yr_eq] <;> omega), r202 (by omega) (by omega) (by omega), YB_ite, YB_ite, YB_ret, YB_ret, YB_ret, w313_26, w313_26, w313_26]
    by_cases z1 : k = 0
    · rw [if_pos z1, if_pos z1]
    · rw [if_neg z1, if_neg z1]
      by_cases z2 : k = 1
      · rw [if_pos z2, if_pos z2]
      · rw [if_neg z2, if_neg z2]
  rw [st 0 _ (by omega), st (0 + 1) _ (by omega), st (0 + 1 + 1) _ (by omega), w313_11, if_neg (by decide)]
  have z1 : ∀ (s : Int64) (x : yV), Y q (d + 2) 313 162 [vr 129, vj s, vu, vi 1, x] [] S js = yret q (vj ((fun s => yfl (ylin (gA S 64) w) 0 (P * h) s) s)) S js := fun s x => r313q h66 h0 hP hh hw bP bh bw s x
  have z2 := fun s => r313t (F := fun s => yfl (ylin (gA S 64) w) 0 (P * h) s) h66 z1 s
  have z3 := fun (s : Int64) => r313c (F := fun s => (fun s => yfl (ylin (gA S 64) w) 0 (P * h) s) (if gI S 66 = 0 then ytd 0 0 0 0 0 s else ytd (gI S 67) (gI S 68) (gI S 69) (gI S 70) (gI S 71) s)) hN bN z2 N 0 (s * 31 + yi2l (gI S 4)) (by omega)
  have z4 := r313r (F := fun s => yfl (ylin (gA S 64) w) 0 (P * h) (if gI S 66 = 0 then ytd 0 0 0 0 0 (yfc (gA S 6) (gB S 2) 0 N (s * 31 + yi2l (gI S 4))) else ytd (gI S 67) (gI S 68) (gI S 69) (gI S 70) (gI S 71) (yfc (gA S 6) (gB S 2) 0 N (s * 31 + yi2l (gI S 4))))) hC bC hn hR bR z3 (R * C) 0 (((257 * 31 + yi2l (gI S 41)) * 31 + yi2l (nrow (gI S 41) (gI S 42))) * 31 + yi2l (gI S 40)) (by omega)
  rw [hR] at z4
  rw [hR]
  exact z4
end YDGL
theorem op23 : yCall yI 23 := by
  intro q S js x0 d y1 y2 y3 y4 hL h0 h6 hop hI
  obtain ⟨hTp, hTb, hCd, hPg, hRs, hRn⟩ := id hI
  obtain ⟨p1, p2, p3, p4⟩ := id hTp
  obtain ⟨t1, t2, t3, t4, t5, t6, t7, t8, t9⟩ := id hTb
  obtain ⟨u1, u2, u3, u4⟩ := id hCd
  obtain ⟨n1, n2, n3, n4, n5⟩ := id hRn.1
  have hnr := nrow_le (c := gI S 10) (n := gI S 11) ⟨t2, t3⟩ ⟨t5, t6⟩
  -- the sizes
  obtain ⟨P, hP⟩ : ∃ P : Nat, gI S 29 = P := ⟨(gI S 29).toNat, by by_cases z : gI S 30 = 0; · have := n4 z; omega
                                                                  · have := n5 (by omega); omega⟩
  obtain ⟨h, hh⟩ : ∃ h : Nat, h ≤ 40 ∧ (0 < gI S 30 → gI S 28 = h) := ⟨if gI S 30 = 0 then 0 else (gI S 28).toNat, by
    by_cases z : gI S 30 = 0
    · rw [if_pos z]; exact ⟨by omega, fun z' => by omega⟩
    · have h5 := n5 (by omega); have h9 := hPg.2.2.2 h5.1; rw [if_neg z]; exact ⟨by omega, fun _ => by omega⟩⟩
  obtain ⟨w, hw⟩ : ∃ w : Nat, (1 ≤ w ∧ w ≤ 60) ∧ (0 < gI S 30 → gI S 27 = w) := ⟨if gI S 30 = 0 then 1 else (gI S 27).toNat, by
    by_cases z : gI S 30 = 0
    · rw [if_pos z]; exact ⟨by omega, fun z' => by omega⟩
    · have h5 := n5 (by omega); have h9 := hPg.2.2.2 h5.1; rw [if_neg z]; exact ⟨by omega, fun _ => by omega⟩⟩
  obtain ⟨C, hC⟩ : ∃ C : Nat, gI S 10 = C := ⟨(gI S 10).toNat, by omega⟩
  obtain ⟨N, hN⟩ : ∃ N : Nat, gI S 0 = N := ⟨(gI S 0).toNat, by omega⟩
  obtain ⟨R, hR⟩ : ∃ R : Nat, nrow (gI S 10) (gI S 11) = R := ⟨(nrow (gI S 10) (gI S 11)).toNat, by omega⟩
  have bP : P ≤ 30 ∧ (0 < P → 0 < gI S 30) := by
    by_cases z : gI S 30 = 0
    · have := n4 z; omega
    · have := n5 (by omega); omega
  have bRC : R * C ≤ (gI S 11).toNat := by
    have := nrow_mul (c := gI S 10) (n := gI S 11) t2 t5
    rw [hR, hC, ← Int.natCast_mul] at this
    omega
  have hc := c165w (q := q) (d := d + 396) (js := js) hC (by omega) ⟨t5, t6⟩ hR (by omega) hN (by omega) hP (fun z => hh.2 (bP.2 z)) (fun z => hw.2 (bP.2 z)) bP.1 hh.1 hw.1
  have hm : Y q (d + 399) 313 0 [vr 129, vu, vu, vu, vu] [] S js = _ := (w313_0 q (d + 399) js S).trans (r313w (q := q) (d := d + 397) (js := js) (S := sI S 39 0) (P := P) (h := h) (w := w) (R := R) (C := C) (N := N) (show gI S 41 = C by omega) (by omega) (show 0 ≤ gI S 42 ∧ gI S 42 ≤ 40 * gI S 41 by omega) (show nrow (gI S 41) (gI S 42) = R by rw [t1, t4]; exact hR) (by omega) (show gI S 4 = N by omega) (by omega) (show 0 ≤ gI S 66 ∧ gI S 66 ≤ 4 by omega) (fun z => by have z : gI S 66 = 0 := z; have := n4 (by omega); omega) (fun z => by have z : 0 < gI S 66 := z; have := n5 (by omega); show gI S 68 = P; omega) (fun z => by have z : 0 < gI S 66 := z; have h5 := n5 (by omega); have h9 := hPg.2.2.2 h5.1; have := hh.2 (by omega); show gI S 55 = h; omega) (fun z => by have z : 0 < gI S 66 := z; have h5 := n5 (by omega); have h9 := hPg.2.2.2 h5.1; have := hw.2 (by omega); show gI S 54 = w; omega) bP.1 hh.1 hw.1)
  refine k23_ok hL h0 h6 hop hc hm ?_ (yI_thr hI) (by omega) (by omega)
  show ydg (gI S 41) R (gI S 40) (gB S 12) (R * C) (gI S 4) (gA S 6) (gB S 2) N (fun s => if gI S 66 = 0 then ytd 0 0 0 0 0 s else ytd (gI S 67) (gI S 68) (gI S 69) (gI S 70) (gI S 71) s) (gA S 64) w (P * h) = _
  unfold ydg
  rw [t1, p1, u1]
  have e1 : ∀ s, yfl (gB S 12) 0 (R * C) s = yfl (gB S 7) 0 (R * C) s := fun s => yfl_cg fun k k1 k2 => t8 k (by omega)
  have e2 : ∀ s, yfc (gA S 6) (gB S 2) 0 N s = yfc (gA S 0) (gB S 0) 0 N s := fun s => yfc_cg fun k k1 k2 => u4 k (by omega)
  have e3 : ∀ s, (if gI S 66 = 0 then ytd 0 0 0 0 0 s else ytd (gI S 67) (gI S 68) (gI S 69) (gI S 70) (gI S 71) s) = ytd (gI S 31) (gI S 29) (gI S 32) (gI S 33) (gI S 34) s := by
    intro s
    rw [n1]
    by_cases z : gI S 30 = 0
    · obtain ⟨z1, z2, z3, z4, z5⟩ := n4 z
      rw [if_pos z, z1, z2, z3, z4, z5]
    · obtain ⟨-, z1, z2, z3, z4, z5, -⟩ := n5 (by omega)
      rw [if_neg z, z1, z2, z3, z4, z5]
  rw [e1, e2]
  simp only [e3]
  refine yfl_cg fun L l1 l2 => ?_
  unfold ylin
  refine yls_cg fun k k1 k2 => ?_
  have hp0 : 0 < P := by
    by_cases z : P = 0
    · rw [z, Nat.zero_mul] at l2; omega
    · omega
  obtain ⟨-, -, -, -, -, -, -, -, -, -, -, -, -, -, -, -, -, -, hpp, -⟩ := n5 (bP.2 hp0)
  refine hpp k ?_
  rw [hP, hh.2 (bP.2 hp0), hw.2 (bP.2 hp0), ← Int.natCast_mul, ← Int.natCast_mul]
  have l3 : L + 1 ≤ P * h := by omega
  have l4 : (L + 1) * w ≤ P * h * w := Nat.mul_le_mul_right w l3
  rw [Nat.add_mul, Nat.one_mul] at l4
  omega
end YDG
