/-! ALL TOKENS: the reference -/
section YRT
theorem yre_all {p : Int → Bool} {b : Nat → Int} : ∀ {m k : Nat} (i : Nat), k ≤ i → i < yre p b m k → p (b i) = true
  | 0, k, i, h1, h2 => by
    have : yre p b 0 k = k := rfl
    omega
  | m + 1, k, i, h1, h2 => by
    unfold yre at h2
    split at h2
    · rename_i hp
      by_cases e : i = k
      · rw [e]; exact hp
      · exact yre_all i (by omega) h2
    · omega
theorem yKf_le (w : Int64) : yKf w ≤ 62 := by
  have h0 : ∀ k, k < 4 → yKw (63 + k) = yKw 62 := by decide +kernel
  unfold yKf
  have e : yfind yKw w 67 0 = if yfind yKw w 63 0 = -1 then yfind yKw w 4 (0 + 63) else yfind yKw w 63 0 := yfind_add 63 4 0
  rw [e]
  rcases yfind_none (f := yKw) (w := w) (n := 63) (i := 0) with z | ⟨k, k1, k2, k3, k4⟩
  · rw [if_pos z]
    have : yfind yKw w 4 (0 + 63) = -1 := yfind_no fun k k1 k2 e => by
      have h1 := h0 (k - 63) (by omega)
      have e2 : 63 + (k - 63) = k := by omega
      rw [e2, e] at h1
      rcases yfind_none (f := yKw) (w := w) (n := 63) (i := 0) with y | ⟨j, j1, j2, j3, j4⟩
      · have e3 : yfind yKw w 63 0 = if yfind yKw w 62 0 = -1 then yfind yKw w 1 (0 + 62) else yfind yKw w 62 0 := yfind_add 62 1 0
        have e4 : yfind yKw w 1 (0 + 62) = 62 := by
          rw [yfind_s, if_pos h1.symm]
          rfl
        rw [e4] at e3
        by_cases u : yfind yKw w 62 0 = -1
        · rw [if_pos u] at e3; omega
        · rw [if_neg u] at e3; omega
      · omega
    rw [this, if_pos rfl]
    omega
  · rw [k3, if_neg (by omega), if_neg (by omega)]
    omega
/-- a kind's number in the reference -/
def ykR (k : Nat) : Int := if k < 46 then k else if k < 62 then k + 54 else k + 138
def yatR (S : yS) (kd st : Int) (v : Int64) (z : Int) : yS := sI (sA (sB (sA (sA S 39 (gI S 43).toNat kd) 40 (gI S 43).toNat st) 13 (gI S 43).toNat v) 41 (gI S 43).toNat z) 43 (gI S 43 + 1)
def yWr (s k : Nat) : Bool := (s == 0 && k == 43) || (s == 3 && (k == 39 || k == 40 || k == 41)) || (s == 4 && k == 13)
theorem yatR_fr (S : yS) (kd st : Int) (v : Int64) (z : Int) : yFr yWr S (yatR S kd st v z) := yFr_tr (yFr_A rfl) (yFr_tr (yFr_A rfl) (yFr_tr (yFr_B rfl) (yFr_tr (yFr_A rfl) (yFr_I rfl))))
theorem yatR_43 (S : yS) (kd st : Int) (v : Int64) (z : Int) : gI (yatR S kd st v z) 43 = gI S 43 + 1 := gI_self _ _ _
/-- the first of n places with an int, or -1 -/
def yfi (f : Nat → Int) (w : Int) : Nat → Nat → Int
  | 0, _ => -1
  | n + 1, i => if f i = w then (i : Int) else yfi f w n (i + 1)
def ySyl (j : Nat) : Int := (xLf xTx1 j).toInt
theorem ySg : ∀ c : Nat, c < 256 → (yfi ySyl (yi2b c) 13 0 = -1 ∧ yKf (yi2l c) = 62) ∨ (0 ≤ yfi ySyl (yi2b c) 13 0 ∧ yfi ySyl (yi2b c) 13 0 < 13 ∧ (yKf (yi2l c) : Int) = 46 + yfi ySyl (yi2b c) 13 0) := by decide +kernel
theorem ySp : ∀ x : Nat, x < 256 → yKf ((ylshl (yi2l 60) 8) ||| yi2l x) = (if x = 61 then 59 else if x = 62 then 61 else 62) ∧ yKf ((ylshl (yi2l 62) 8) ||| yi2l x) = (if x = 61 then 60 else 62) := by decide +kernel
section YRTL
variable {q : yQ} {d : Nat} {js : List xO} {S : yS}
theorem r209 {kd st z : Int} {v : Int64} (h1 : 0 ≤ gI S 43 ∧ gI S 43 ≤ 2000) : Y q d 209 0 [vr 129, vi kd, vi st, vj v, vu, vi z] [] S js = yretv q (yatR S kd st v z) js := by
  have e : yr (gI S 43) = gI S 43 := yr_eq (by omega) (by omega)
  have h : 0 ≤ gI S 43 ∧ gI S 43 < 2001 := by omega
  rw [w209_0, e]
  simp only [h, and_self, if_true]
  rfl
/-- a byte of the tape, -1 beyond it -/
theorem r208 {n k : Nat} {b : Nat → Int} (hn : gI S 40 = n) (hn2 : n ≤ 2000) (hb : ∀ i, i < n → gA S 37 i = b i) (hk : k ≤ 4000) : Y q d 208 0 [vr 129, vi k] [] S js = yret q (vi (if k < n then b k else -1)) S js := by
  have e : yr (k : Int) = k := yr_eq (by omega) (by omega)
  rw [w208_0, hn, e, yr_eq (x := (n : Int)) (by omega) (by omega)]
  by_cases z : k < n
  · rw [if_pos (by omega), if_pos (by omega), if_pos z, Int.toNat_natCast, hb k z]
  · rw [if_neg (by omega), if_neg z]
theorem r331a {w : Int} (hw : -128 ≤ w ∧ w < 128) (x0 x1 : Int) : ∀ (n i : Nat), i + n = 13 → Y q d 331 7 [vr 72, vi x0, vi x1, vi 13, vi w, vi i] [] S js = yret q (vi (yfi ySyl w n i)) S js
  | 0, i, h => by
    rw [w331_7, if_neg (by rw [yr_eq, yr_eq] <;> omega)]
    rfl
  | n + 1, i, h => by
    have e : yr (i : Int) = i := yr_eq (by omega) (by omega)
    have e1 : (i : Int) + 1 = ((i + 1 : Nat) : Int) := by omega
    have e2 : yr ((xLf xTx1 i).toInt) = ySyl i := yr_of _
    rw [w331_7, if_pos (by rw [yr_eq, yr_eq] <;> omega), e, if_pos (by omega), Int.toNat_natCast, e2, yr_eq (x := w) (by omega) (by omega), e1, r331a hw x0 x1 n (i + 1) (by omega)]
    show _ = yret q (vi (if ySyl i = w then (i : Int) else yfi ySyl w n (i + 1))) S js
    split <;> rfl
theorem yi2b_rng (x : Int) : -128 ≤ yi2b x ∧ yi2b x < 128 := by
  unfold yi2b
  rw [Int8.toInt_toInt32]
  exact ⟨Int8.le_toInt _, Int8.toInt_lt _⟩
theorem r328 {c : Int} (hc : 0 ≤ c ∧ c ≤ 255) : Y q (d + 4) 328 0 [vr 71, vi c] [] S js = yret q (vi (yfi ySyl (yi2b c) 13 0)) S js := by
  have e22 : ∀ (d : Nat), Y q d 322 0 [vr 71] [] S js = yret q (vi 1) S js := by
    intro d
    have z1 : ¬ yr 1 = 0 := by decide
    have z0 : yr 0 = 0 := rfl
    rw [w322_0, if_neg z1, if_pos z0]
    simp only [yz1, if_true]
  have e24 : ∀ (d : Nat), Y q d 324 0 [vr 71] [] S js = yret q (vi 0) S js := by
    intro d
    have z1 : ¬ yr 1 = 0 := by decide
    rw [w324_0, if_neg z1, if_pos (by decide)]
  have e23 : ∀ (d : Nat), Y q (d + 1) 323 0 [vr 71] [] S js = yret q (vi 13) S js := by
    intro d
    rw [w323_0, e24, YB_ret, w323_9]
    have : yshr 13 0 = 13 := by decide
    rw [this]
  have e30 : Y q (d + 1) 330 0 [vi c] [] S js = yret q (vi 1) S js := by
    have e : yr c = c := yr_eq (by omega) (by omega)
    have e2 : yr 255 = 255 := rfl
    rw [w330_0, e, e2, if_neg (by omega), if_neg (by omega)]
    simp only [yz1, if_true]
  have m1 : ymax 0 0 = 0 := by decide
  have m2 : ymin 13 13 = 13 := by decide
  have z1 : ¬ yr 1 = 0 := by decide
  have hr := r331a (q := q) (d := d + 1) (S := S) (js := js) (yi2b_rng c) c 0 13 0 (by omega)
  rw [w328_0, w321_0, e22, YB_ret, w321_4, if_neg z1, e23, YB_ret, w321_17, w329_0, e30, YB_ret, w329_4, if_neg z1, m1, m2, if_pos (by decide), w331_0]
  rw [show ((0 : Nat) : Int) = 0 from rfl] at hr
  rw [hr, YB_ret, w329_36, YB_ret, w321_20, YB_ret, w328_6]
/-- a word -/
theorem r210a {n a : Nat} {b : Nat → Int} (hn : gI S 40 = n) (hn2 : n ≤ 2000) (hb : ∀ i, i < n → gA S 37 i = b i ∧ 0 ≤ b i ∧ b i ≤ 255) : ∀ (m k : Nat) (w : Int64), k + m = n → Y q (d + 2) 210 4 [vr 129, vi a, vi k, vj w, vu, vu] [] S js = YB q (yret q (vi (yfind (gB S 10) (ywd b k (yre pLD b m k - k) w) 46 0)) S js) (d + 2) 210 46 [vr 129, vi a, vi (yre pLD b m k), vj (ywd b k (yre pLD b m k - k) w), vu, vu] []
  | 0, k, w, h => by
    have hx := r208 (q := q) (d := d + 1) (js := js) hn hn2 (fun i hi => (hb i hi).1) (k := k) (by omega)
    rw [if_neg (by omega)] at hx
    rw [w210_4, hx, YB_ret, w210_9, r193 (by omega) (by omega), YB_ret, w210_12, hx, YB_ret, w210_20, r194 (by omega) (by omega), YB_ret, w210_23, r195]
    simp only [yr_yb, yb_eq0]
    rw [if_pos (by omega), if_pos (by omega)]
    show _ = YB q (yret q (vi (yfind (gB S 10) (ywd b k (k - k) w) 46 0)) S js) (d + 2) 210 46 [vr 129, vi a, vi k, vj (ywd b k (k - k) w), vu, vu] []
    rw [Nat.sub_self]
    rfl
  | m + 1, k, w, h => by
    obtain ⟨hk, hk1, hk2⟩ := hb k (by omega)
    have hx := r208 (q := q) (d := d + 1) (js := js) hn hn2 (fun i hi => (hb i hi).1) (k := k) (by omega)
    rw [if_pos (by omega)] at hx
    have e1 : (k : Int) + 1 = ((k + 1 : Nat) : Int) := by omega
    have ih := fun w => r210a (a := a) hn hn2 hb m (k + 1) w (by omega)
    rw [w210_4, hx, YB_ret, w210_9, r193 (by omega) (by omega), YB_ret, w210_12, hx, YB_ret, w210_20, r194 (by omega) (by omega), YB_ret, w210_23, r195]
    simp only [hx, YB_ret, Nat.reduceAdd, w210_35, yr_yb, yb_eq0, e1, ih]
    have zz : pLD (b k) = true ↔ (97 ≤ b k ∧ b k ≤ 122) ∨ (48 ≤ b k ∧ b k ≤ 57) := by unfold pLD; rw [decide_eq_true_eq]
    cases z : pLD (b k) with
    | true =>
      have ey : yre pLD b (m + 1) k = yre pLD b m (k + 1) := by
        conv => lhs; unfold yre
        rw [z]
      have hy := yre_rng (p := pLD) (b := b) (m := m) (k := k + 1)
      have e5 : yre pLD b m (k + 1) - k = (yre pLD b m (k + 1) - (k + 1)) + 1 := by omega
      have z' := zz.mp z
      rw [ey, e5]
      by_cases z1 : 97 ≤ b k ∧ b k ≤ 122
      · rw [if_neg (fun y => y z1)]
        rfl
      · rw [if_pos z1, if_neg (fun y => by rcases z' with u | u; exact z1 u; exact y u)]
        rfl
    | false =>
      have ey : yre pLD b (m + 1) k = k := by
        conv => lhs; unfold yre
        rw [z]
      have z' : ¬ ((97 ≤ b k ∧ b k ≤ 122) ∨ (48 ≤ b k ∧ b k ≤ 57)) := fun y => by rw [zz.mpr y] at z; cases z
      rw [ey, Nat.sub_self, if_pos (fun y => z' (Or.inl y)), if_pos (fun y => z' (Or.inr y))]
      rfl
/-- a number -/
theorem r211a {n a : Nat} {b : Nat → Int} (hn : gI S 40 = n) (hn2 : n ≤ 2000) (h43 : 0 ≤ gI S 43 ∧ gI S 43 ≤ 2000) (hb : ∀ i, i < n → gA S 37 i = b i ∧ 0 ≤ b i ∧ b i ≤ 255) : ∀ (m k : Nat) (w : Int64), k + m = n → a ≤ k → ∃ v, Y q (d + 2) 211 4 [vr 129, vi a, vi k, vj w, vu] [] S js = yret q (vi (yre pD b m k)) (yatR S (if 9 < yre pD b m k - a then 204 else 201) a v 0) js ∧ (yre pD b m k - a ≤ 9 → v = ynu b k (yre pD b m k - k) w) := by
  have stop : ∀ (k : Nat) (w : Int64), a ≤ k → k ≤ n → (if yr 9 < yr ((k : Int) - a) then YB q (Y q (d + 1) 209 0 [vr 129, vi 204, vi a, vj w, vu, vi 0] [] S js) (d + 2) 211 71 [vr 129, vi a, vi k, vj w, vu] [] else YB q (Y q (d + 1) 209 0 [vr 129, vi 201, vi a, vj w, vu, vi 0] [] S js) (d + 2) 211 71 [vr 129, vi a, vi k, vj w, vu] []) = yret q (vi k) (yatR S (if 9 < k - a then 204 else 201) a w 0) js := by
    intro k w h2 h3
    have e8 : yr 9 = 9 := rfl
    have e9 : yr ((k : Int) - a) = (k : Int) - a := yr_eq (by omega) (by omega)
    rw [e8, e9, r209 h43, YB_retv, w211_74, r209 h43, YB_retv, w211_74]
    by_cases z : 9 < k - a
    · rw [if_pos z, if_pos (by omega)]
    · rw [if_neg z, if_neg (by omega)]
  intro m
  induction m with
  | zero =>
    intro k w h ha
    have hx := r208 (q := q) (d := d + 1) (js := js) hn hn2 (fun i hi => (hb i hi).1) (k := k) (by omega)
    rw [if_neg (by omega)] at hx
    refine ⟨w, ?_, fun _ => ?_⟩
    · rw [w211_4, hx, YB_ret, w211_9, r194 (by omega) (by omega), YB_ret, w211_12, stop k w ha (by omega)]
      simp only [yr_yb, yb_eq0]
      rw [if_pos (by omega)]
      rfl
    · show w = ynu b k (k - k) w
      rw [Nat.sub_self]
      rfl
  | succ m ih =>
    intro k w h ha
    obtain ⟨hk, hk1, hk2⟩ := hb k (by omega)
    have hx := r208 (q := q) (d := d + 1) (js := js) hn hn2 (fun i hi => (hb i hi).1) (k := k) (by omega)
    rw [if_pos (by omega)] at hx
    have e1 : (k : Int) + 1 = ((k + 1 : Nat) : Int) := by omega
    have e8 : yr 9 = 9 := rfl
    have e9 : yr ((k : Int) - a) = (k : Int) - a := yr_eq (by omega) (by omega)
    have go : Y q (d + 2) 211 4 [vr 129, vi a, vi k, vj w, vu] [] S js = if pD (b k) = true then Y q (d + 2) 211 4 [vr 129, vi a, vi (k + 1 : Nat), vj (if k - a < 9 then w * 10 + yi2l (b k) - 48 else 0), vu] [] S js else yret q (vi k) (yatR S (if 9 < k - a then 204 else 201) a w 0) js := by
      rw [w211_4, hx, YB_ret, w211_9, r194 (by omega) (by omega), YB_ret, w211_12, stop k w ha (by omega), hx, YB_ret, w211_33, e1, e8, e9]
      simp only [yr_yb, yb_eq0]
      unfold pD
      by_cases z : 48 ≤ b k ∧ b k ≤ 57
      · rw [if_neg (fun y => y z), if_pos (decide_eq_true z)]
        by_cases u : k - a < 9
        · rw [if_pos (by omega), if_pos u, Int64.mul_comm]
        · rw [if_neg (by omega), if_neg u]
      · have zz : ¬ decide (48 ≤ b k ∧ b k ≤ 57) = true := fun y => z (of_decide_eq_true y)
        rw [if_pos z, if_neg zz]
    cases z : pD (b k) with
    | true =>
      have ey : yre pD b (m + 1) k = yre pD b m (k + 1) := by
        conv => lhs; unfold yre
        rw [z]
      have hy := yre_rng (p := pD) (b := b) (m := m) (k := k + 1)
      obtain ⟨v, i1, i2⟩ := ih (k + 1) (if k - a < 9 then w * 10 + yi2l (b k) - 48 else 0) (by omega) (by omega)
      refine ⟨v, ?_, ?_⟩
      · rw [go, if_pos z, i1, ey]
      · rw [ey]
        intro u
        have e5 : yre pD b m (k + 1) - k = (yre pD b m (k + 1) - (k + 1)) + 1 := by omega
        rw [i2 u, e5, if_pos (by omega)]
        rfl
    | false =>
      have ey : yre pD b (m + 1) k = k := by
        conv => lhs; unfold yre
        rw [z]
      refine ⟨w, ?_, ?_⟩
      · rw [go, if_neg (by rw [z]; decide), ey]
      · rw [ey, Nat.sub_self]
        intro _
        rfl
end YRTL
end YRT
