/-! THE LAW PUTS ITS ROWS -/
section YRW
/-- a number of the script, or one made up -/
def lC (q : yQ) (j : Nat) : Int := if j < q.2.1 then (q.2.2 j).toInt else 790386105 * ((j : Int) + 3)
def lX (q : yQ) (i : Nat) : Int := yshr (lC q (1 + i % 12)) (((i / 12 : Nat) : Int) * 9)
def lG (q : yQ) (i : Nat) : Int := yand (lX q i) 2147483647 % 4
def lV (q : yQ) (i : Nat) : Int := yand (yshr (lX q i) 3) 2147483647 % 199 - 99
def lNn (q : yQ) : Nat := (yand (lC q 0) 2147483647 % 24).toNat
def lH (q : yQ) : Nat := 5 + (yand (lC q 13) 2147483647 % 6).toNat
/-- the sum of all numbers so far -/
def lA (q : yQ) : Nat → Int64
  | 0 => 0
  | k + 1 => lA q k + yi2l (lV q k)
theorem yand_max (x : Int) : 0 ≤ yand x 2147483647 ∧ yand x 2147483647 < 2147483648 := by
  unfold yand
  have h : (Int32.ofInt x &&& Int32.ofInt 2147483647).toUInt32 ≤ 2147483647 := by
    show (Int32.ofInt x).toUInt32 &&& (Int32.ofInt 2147483647).toUInt32 ≤ 2147483647
    have e : (Int32.ofInt 2147483647).toUInt32 = 2147483647 := by decide
    rw [e]
    rw [UInt32.le_iff_toNat_le, UInt32.toNat_and]
    exact Nat.and_le_right
  have h2 : (Int32.ofInt x &&& Int32.ofInt 2147483647).toUInt32.toNat ≤ 2147483647 := UInt32.le_iff_toNat_le.mp h
  generalize Int32.ofInt x &&& Int32.ofInt 2147483647 = z at *
  have h4 : z.toBitVec.toNat ≤ 2147483647 := h2
  have h3 : z.toInt = (z.toBitVec.toNat : Int) := BitVec.toInt_eq_toNat_of_lt (by omega)
  rw [h3]
  omega
theorem lG_rng (q : yQ) (i : Nat) : 0 ≤ lG q i ∧ lG q i ≤ 3 := by
  unfold lG
  omega
theorem lV_rng (q : yQ) (i : Nat) : -99 ≤ lV q i ∧ lV q i ≤ 99 := by
  unfold lV
  omega
theorem lNn_rng (q : yQ) : lNn q ≤ 23 := by
  unfold lNn
  omega
theorem lH_rng (q : yQ) : 5 ≤ lH q ∧ lH q ≤ 10 := by
  unfold lH
  omega
theorem lbel (x : Int) {n : Int} (hn : 0 < n ∧ n < 1000) : yirem (yand x 2147483647) n = yand x 2147483647 % n := yirem_eq (yand_max x) (by omega)
theorem ldiv12 : ∀ i : Nat, i < 24 → yidiv (i : Int) 12 = ((i / 12 : Nat) : Int) := by decide
/-- what putting rows changes -/
def yWP (s k : Nat) : Bool := (s == 0 && k == 11) || (s == 4 && k == 7)
/-- k rows are put -/
def lRw (q : yQ) (k : Nat) (S S' : yS) : Prop := yFr yWP S S' ∧ gI S' 11 = ((2 * k : Nat) : Int) ∧ ∀ i, i < k → gB S' 7 (2 * i) = yi2l (lG q i) ∧ gB S' 7 (2 * i + 1) = yi2l (lV q i)
section YRWL
variable {q : yQ} {d : Nat} {S : yS} {js : List xO}
theorem c2 (hL : q.2.1 ≤ 260) {j : Nat} (hj : j ≤ 13) : Y q d 2 0 [vr 79, vi j] [] S js = yret q (vi (lC q j)) S js := by
  rw [w2bn_0, yrn (n := j) (by omega), yrn (n := q.2.1) (by omega), Int.toNat_natCast]
  unfold lC
  by_cases z : j < q.2.1
  · rw [if_pos (by omega), if_pos (by omega), if_pos z]
  · rw [if_neg (by omega), if_neg z]
theorem c1 {x n : Int} (hn : 0 < n ∧ n < 1000) : Y q d 1 0 [vi x, vi n] [] S js = yret q (vi (yand x 2147483647 % n)) S js := by
  rw [w1bn_0, yr_eq (x := n) (by omega) (by omega), if_neg (by omega), lbel x hn]
theorem cput {c : Int64} {m : Nat} (h10 : gI S 10 = 2) (h11 : gI S 11 = (m : Int)) (hm : m < 80) (c0 : gA S 20 0 = 0) (c1 : gA S 20 1 = 0) : ∃ r : Int, Y q (d + 2) 169 0 [vr 81, vj c, vu] [] S js = yret q (vi r) (sI (sB S 7 m c) 11 ((m + 1 : Nat) : Int)) js := by
  have e20 : gA S 20 (gI S 11 % gI S 10).toNat = 0 := by
    rw [h11, h10]
    have : ((m : Int) % 2).toNat = 0 ∨ ((m : Int) % 2).toNat = 1 := by omega
    rcases this with e | e <;> rw [e]
    · exact c0
    · exact c1
  have em : (gI S 11).toNat = m := by omega
  have e1 : gI S 11 + 1 = ((m + 1 : Nat) : Int) := by omega
  have k := c169 (q := q) (d := d) (js := js) (S := S) (c := c) (by omega) (by omega) (fun _ => Or.inl e20)
  rw [if_neg (by omega), e20, if_pos (fun z => by cases z), if_neg (by decide), em, e1] at k
  exact ⟨_, k⟩
theorem lput {k : Nat} {S0 : yS} (h10 : gI S0 10 = 2) (c0 : gA S0 20 0 = 0) (c1 : gA S0 20 1 = 0) (h : lRw q k S0 S) (hk : k < 24) : ∃ (S1 S2 : yS) (r1 r2 : Int), (∀ d, Y q (d + 2) 169 0 [vr 81, vj (yi2l (lG q k)), vu] [] S js = yret q (vi r1) S1 js) ∧ (∀ d, Y q (d + 2) 169 0 [vr 81, vj (yi2l (lV q k)), vu] [] S1 js = yret q (vi r2) S2 js) ∧ lRw q (k + 1) S0 S2 := by
  obtain ⟨f1, f2, f3⟩ := h
  have a10 : gI S 10 = 2 := (f1.1 10 rfl).trans h10
  have a20 : gA S 20 = gA S0 20 := f1.2.2.2.1 20 rfl
  obtain ⟨r1, e1⟩ := cput (q := q) (d := 0) (js := js) (c := yi2l (lG q k)) a10 f2 (by omega) (by rw [a20]; exact c0) (by rw [a20]; exact c1)
  obtain ⟨S1, hS1⟩ : ∃ S1, S1 = sI (sB S 7 (2 * k) (yi2l (lG q k))) 11 ((2 * k + 1 : Nat) : Int) := ⟨_, rfl⟩
  obtain ⟨r2, e2⟩ := cput (q := q) (d := 0) (js := js) (S := S1) (m := 2 * k + 1) (c := yi2l (lV q k)) (by rw [hS1]; exact a10) (by rw [hS1]; rfl) (by omega) (by rw [hS1]; show gA S 20 0 = 0; rw [a20]; exact c0) (by rw [hS1]; show gA S 20 1 = 0; rw [a20]; exact c1)
  have up : ∀ {y vs S S' r} (d : Nat), Y q (0 + 2) y 0 vs [] S js = yret q r S' js → Y q (d + 2) y 0 vs [] S js = yret q r S' js := fun d h => yD_up h (by omega)
  rw [← hS1] at e1
  refine ⟨S1, sI (sB S1 7 (2 * k + 1) (yi2l (lV q k))) 11 ((2 * k + 1 + 1 : Nat) : Int), r1, r2, fun d => up d e1, fun d => up d e2, ?_, gI_self _ _ _, fun i hi => ?_⟩
  · refine yFr_tr f1 ?_
    rw [hS1]
    exact yFr_tr (yFr_tr (yFr_B rfl) (yFr_I rfl)) (yFr_tr (yFr_B rfl) (yFr_I rfl))
  · have b1 : ∀ j, gB (sI (sB S1 7 (2 * k + 1) (yi2l (lV q k))) 11 ((2 * k + 1 + 1 : Nat) : Int)) 7 j = if j = 2 * k + 1 then yi2l (lV q k) else if j = 2 * k then yi2l (lG q k) else gB S 7 j := by
      intro j
      rw [hS1]
      show yup (yup (S.2.2.2.2.1) 7 (yup (S.2.2.2.2.1 7) (2 * k) (yi2l (lG q k)))) 7 (yup (yup (S.2.2.2.2.1) 7 (yup (S.2.2.2.2.1 7) (2 * k) (yi2l (lG q k))) 7) (2 * k + 1) (yi2l (lV q k))) 7 j = _
      rw [yup_self, yup_eq, yup_self, yup_eq]
      rfl
    rw [b1, b1]
    by_cases z : i = k
    · subst z
      rw [if_neg (by omega), if_pos rfl, if_pos rfl]
      exact ⟨rfl, rfl⟩
    · rw [if_neg (by omega), if_neg (by omega), if_neg (by omega), if_neg (by omega)]
      exact f3 i (by omega)
/-- the law's frame while it puts rows -/
def lL (n : Nat) (a : Int64) (k : Int) (x3 x4 : yV) : List yV := [vr 79, vr 81, vi n, vj a, vu, vi k, x3, x4, vu, vu, vu, vu, vu, vu, vu, vu, vu, vu, vu, vu, vu, vu, vu, vu, vu]
theorem lrow (hL : q.2.1 ≤ 260) {k n : Nat} {S0 : yS} (h10 : gI S0 10 = 2) (c0 : gA S0 20 0 = 0) (c1' : gA S0 20 1 = 0) (h : lRw q k S0 S) (hk : k < n) (hn : n ≤ 23) (x3 x4 : yV) : ∃ (S' : yS) (x3' x4' : yV), Y q (d + 3) 0 40 (lL n (lA q k) k x3 x4) [] S js = Y q (d + 3) 0 40 (lL n (lA q (k + 1)) ((k + 1 : Nat) : Int) x3' x4') [] S' js ∧ lRw q (k + 1) S0 S' := by
  obtain ⟨S1, S2, r1, r2, e1, e2, e3⟩ := lput (js := js) h10 c0 c1' h (by omega)
  have e12 : ¬ yr 12 = 0 := by decide
  have er : 1 + yirem (k : Int) 12 = ((1 + k % 12 : Nat) : Int) := by
    rw [yirem_eq (by omega) (by omega)]
    omega
  have ek : ((k + 1 : Nat) : Int) = (k : Int) + 1 := by omega
  have eA : lA q (k + 1) = lA q k + yi2l (lV q k) := rfl
  refine ⟨S2, vi (lX q k), vi (lV q k), ?_, e3⟩
  unfold lL
  rw [w0_40 (d := d + 2), yrn (n := k) (by omega), yrn (n := n) (by omega), if_pos (by omega), if_neg e12, er, c2 hL (by omega), YB_ret, w0_57 (d := d + 2), if_neg e12, ldiv12 k (by omega)]
  have x1 : yshr (lC q (1 + k % 12)) (((k / 12 : Nat) : Int) * 9) = lX q k := rfl
  rw [x1, c1 (by decide), YB_ret, w0_78 (d := d + 2)]
  have x2 : yand (yshr (lX q k) 3) 2147483647 % 199 - 99 = lV q k := rfl
  rw [x2, ← eA, c1 (by decide), YB_ret]
  have x3 : yand (lX q k) 2147483647 % 4 = lG q k := rfl
  rw [x3, w0_96 (d := d + 2), e1 d, YB_ret, w0_100 (d := d + 2), e2 d, YB_ret, w0_108, ek]
theorem lrows (hL : q.2.1 ≤ 260) {n : Nat} {S0 : yS} (h10 : gI S0 10 = 2) (h11 : gI S0 11 = 0) (c0 : gA S0 20 0 = 0) (c1' : gA S0 20 1 = 0) (hn : n ≤ 23) : ∀ k, k ≤ n → ∃ (S' : yS) (x3 x4 : yV), Y q (d + 3) 0 40 (lL n (lA q 0) ((0 : Nat) : Int) vu vu) [] S0 js = Y q (d + 3) 0 40 (lL n (lA q k) k x3 x4) [] S' js ∧ lRw q k S0 S'
  | 0, _ => ⟨S0, vu, vu, rfl, yFr_rf _ _, h11, fun i hi => absurd hi (Nat.not_lt_zero i)⟩
  | k + 1, hk => by
    obtain ⟨S1, x3, x4, e1, r1⟩ := lrows hL h10 h11 c0 c1' hn k (by omega)
    obtain ⟨S2, y3, y4, e2, r2⟩ := lrow (d := d) (js := js) hL h10 c0 c1' r1 (by omega) hn x3 x4
    exact ⟨S2, y3, y4, e1.trans e2, r2⟩
/-- from 24 to the text -/
theorem lput_all (hL : q.2.1 ≤ 260) {S0 : yS} (h10 : gI S0 10 = 2) (h11 : gI S0 11 = 0) (c0 : gA S0 20 0 = 0) (c1' : gA S0 20 1 = 0) : ∃ (S' : yS) (x3 x4 : yV), Y q (d + 3) 0 24 yL0 [] S0 js = Y q (d + 3) 0 130 (lL (lNn q) (lA q (lNn q)) ((lH q : Nat) : Int) x3 x4) [] S' js ∧ lRw q (lNn q) S0 S' := by
  have hn := lNn_rng q
  obtain ⟨S', x3, x4, e1, r1⟩ := lrows (d := d) (js := js) hL h10 h11 c0 c1' hn (lNn q) (Nat.le_refl _)
  refine ⟨S', x3, x4, ?_, r1⟩
  have z0 : ((0 : Nat) : Int) = 0 := rfl
  have k0 := c2 (q := q) (d := d + 2) (S := S0) (js := js) hL (j := 0) (by omega)
  have k13 := c2 (q := q) (d := d + 2) (S := S') (js := js) hL (j := 13) (by omega)
  have z13 : ((13 : Nat) : Int) = 13 := rfl
  rw [z0] at k0
  rw [z13] at k13
  have en : yand (lC q 0) 2147483647 % 24 = ((lNn q : Nat) : Int) := by
    unfold lNn
    have := yand_max (lC q 0)
    omega
  have eh : (5 : Int) + yand (lC q 13) 2147483647 % 6 = ((lH q : Nat) : Int) := by
    unfold lH
    have := yand_max (lC q 13)
    omega
  have start : Y q (d + 3) 0 24 yL0 [] S0 js = Y q (d + 3) 0 40 (lL (lNn q) (lA q 0) ((0 : Nat) : Int) vu vu) [] S0 js := by
    show Y q (d + 3) 0 24 [vr 79, vr 81, vu, vu, vu, vu, vu, vu, vu, vu, vu, vu, vu, vu, vu, vu, vu, vu, vu, vu, vu, vu, vu, vu, vu] [] S0 js = _
    rw [w0_24 (d := d + 2), k0, YB_ret, w0_29 (d := d + 2), c1 (by decide), YB_ret, w0_34, en]
    rfl
  rw [start, e1]
  unfold lL
  rw [w0_40 (d := d + 2), yrn (n := lNn q) (by omega), if_neg (by omega), k13, YB_ret, w0_122 (d := d + 2), c1 (by decide), YB_ret, w0_127, eh]
end YRWL
end YRW
