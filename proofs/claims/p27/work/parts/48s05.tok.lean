/-! taken from whole by wip/p27/slice2.py: 51.tok.lean.txt -/
section YTK
theorem yFr_J {W : Nat → Nat → Bool} {S : yS} {k : Nat} {x : Int64} (h : W 1 k = true) : yFr W S (sJ S k x) := ⟨fun _ _ => rfl, fun j hj => gJ_ne S k x (fun e => by rw [e, h] at hj; cases hj), fun _ _ => rfl, fun _ _ => rfl, fun _ _ => rfl, fun _ _ => rfl⟩
theorem yFr_K {W : Nat → Nat → Bool} {S : yS} {k x : Nat} (h : W 2 k = true) : yFr W S (sK S k x) := ⟨fun _ _ => rfl, fun _ _ => rfl, fun j hj => gK_ne S k x (fun e => by rw [e, h] at hj; cases hj), fun _ _ => rfl, fun _ _ => rfl, fun _ _ => rfl⟩
/-- where a run of bytes ends -/
def yre (p : Int → Bool) (b : Nat → Int) : Nat → Nat → Nat
  | 0, k => k
  | m + 1, k => match p (b k) with
    | true => yre p b m (k + 1)
    | false => k
theorem yre_rng {p : Int → Bool} {b : Nat → Int} : ∀ {m k : Nat}, k ≤ yre p b m k ∧ yre p b m k ≤ k + m
  | 0, k => ⟨Nat.le_refl k, Nat.le_refl k⟩
  | m + 1, k => by
    unfold yre
    split
    · have := yre_rng (p := p) (b := b) (m := m) (k := k + 1)
      omega
    · omega
def pLD (c : Int) : Bool := decide (yLD c)
def pD (c : Int) : Bool := decide (48 ≤ c ∧ c ≤ 57)
def pQ (c : Int) : Bool := decide (32 ≤ c ∧ c ≤ 126 ∧ c ≠ 34)
/-- a number's worth -/
def ynu (b : Nat → Int) : Nat → Nat → Int64 → Int64
  | _, 0, w => w
  | i, n + 1, w => ynu b (i + 1) n (w * 10 + yi2l (b i) - 48)
/-- the token at a place that is no blank: kind, worth, where it goes on -/
def ytk1 (b : Nat → Int) (n k : Nat) : Nat × Int64 × Nat :=
  if yL (b k) then (if 8 < yre pLD b (n - k) k - k then (66, 0, n) else (yKf (ywd b k (yre pLD b (n - k) k - k) 0), ywd b k (yre pLD b (n - k) k - k) 0, yre pLD b (n - k) k))
  else if 48 ≤ b k ∧ b k ≤ 57 then (if 9 < yre pD b (n - k) k - k then (66, 0, n) else (63, ynu b k (yre pD b (n - k) k - k) 0, yre pD b (n - k) k))
  else if b k = 34 then (if (yre pQ b (n - (k + 1)) (k + 1) < n ∧ b (yre pQ b (n - (k + 1)) (k + 1)) = 34) ∧ yre pQ b (n - (k + 1)) (k + 1) - k - 1 ≤ 20 then (64, yi2l ((yre pQ b (n - (k + 1)) (k + 1) : Nat) - k - 1), yre pQ b (n - (k + 1)) (k + 1) + 1) else (66, 0, n))
  else if (b k = 60 ∨ b k = 62) ∧ yKf ((ylshl (yi2l (b k)) 8) ||| yi2l (if k + 1 < n then b (k + 1) else 0)) ≠ 62 then (yKf ((ylshl (yi2l (b k)) 8) ||| yi2l (if k + 1 < n then b (k + 1) else 0)), 0, k + 2)
  else if yKf (yi2l (b k)) = 62 then (66, 0, n) else (yKf (yi2l (b k)), 0, k + 1)
/-- a token is put behind the others -/
def yat (S : yS) (kd : Nat) (st : Int) (v : Int64) : yS := sI (sB (sA (sC S 2 (gI S 13).toNat kd) 22 (gI S 13).toNat st) 8 (gI S 13).toNat v) 13 (gI S 13 + 1)
def yWt (s k : Nat) : Bool := (s == 0 && k == 13) || (s == 5 && k == 2) || (s == 3 && k == 22) || (s == 4 && k == 8)
theorem yat_fr (S : yS) (kd : Nat) (st : Int) (v : Int64) : yFr yWt S (yat S kd st v) := yFr_tr (yFr_C rfl) (yFr_tr (yFr_A rfl) (yFr_tr (yFr_B rfl) (yFr_I rfl)))
theorem yat_13 (S : yS) (kd : Nat) (st : Int) (v : Int64) : gI (yat S kd st v) 13 = gI S 13 + 1 := gI_self _ _ _
section YTKL
variable {q : yQ} {d : Nat} {js : List xO} {S : yS}
theorem yKf_lt (w : Int64) : yKf w < 67 := by
  unfold yKf
  split
  · omega
  · rcases yfind_none (f := yKw) (w := w) (n := 67) (i := 0) with z | ⟨k, k1, k2, k3, k4⟩
    · rw [z]; decide
    · rw [k3]; omega
theorem c149 {kd : Nat} {st : Int} {v : Int64} (h1 : 0 ≤ gI S 13 ∧ gI S 13 ≤ 2000) (hk : kd < 67) : Y q d 149 0 [vr 86, vr kd, vi st, vj v, vu] [] S js = yretv q (yat S kd st v) js := by
  have e : yr (gI S 13) = gI S 13 := yr_eq (by omega) (by omega)
  have e2 : yr 2001 = 2001 := rfl
  have h : 0 ≤ gI S 13 ∧ gI S 13 < 2001 := by omega
  rw [w149_0, e, e2]
  simp only [h, and_self, if_true, hk]
  rfl
theorem c148 {st : Int} (h1 : 0 ≤ gI S 13 ∧ gI S 13 ≤ 2000) : Y q (d + 1) 148 0 [vr 86, vi st] [] S js = yret q (vi (gI S 12)) (yat S 66 st 0) js := by
  rw [w148_0, c149 h1 (by omega), YB_retv, w148_9]
  rfl
theorem tb_in {k n : Nat} (hn : gI S 12 = n) (hk : k < n) : tbl S k = tb S k := tbl_in (by omega)
/-- a word -/
theorem c146a {a n : Nat} (hn : gI S 12 = n) (hn2 : n ≤ 2000) (h1 : 0 ≤ gI S 13 ∧ gI S 13 ≤ 2000) (ha : a ≤ n) : ∀ (m k : Nat) (w : Int64), k + m = n → a ≤ k → Y q (d + 2) 146 5 [vr 86, vi a, vj w, vu, vi k] [] S js = if 8 < yre pLD (tb S) m k - a then yret q (vi n) (yat S 66 a 0) js else yret q (vi (yre pLD (tb S) m k)) (yat S (yKf (ywd (tb S) k (yre pLD (tb S) m k - k) w)) a (ywd (tb S) k (yre pLD (tb S) m k - k) w)) js := by
  have stop : ∀ (k : Nat) (w : Int64), a ≤ k → k ≤ n → (if yr 8 < yr ((k : Int) - a) then YB q (Y q (d + 1) 148 0 [vr 86, vi a] [] S js) (d + 2) 146 68 [vr 86, vi a, vj w, vu, vi k] [] else YB q (Y q (d + 1) 315 0 [vj w, vu, vu, vu, vu, vu] [] S js) (d + 2) 146 74 [vr 86, vi a, vj w, vu, vi k] [vr 86]) = if 8 < k - a then yret q (vi n) (yat S 66 a 0) js else yret q (vi k) (yat S (yKf w) a w) js := by
    intro k w h2 h3
    have e8 : yr 8 = 8 := rfl
    have e9 : yr ((k : Int) - a) = (k : Int) - a := yr_eq (by omega) (by omega)
    rw [e8, e9, c148 h1, YB_ret, w146_71, hn, c315, YB_ret, w146_77, c149 h1 (yKf_lt w), YB_retv, w146_82]
    by_cases z : 8 < k - a
    · rw [if_pos z, if_pos (by omega)]
    · rw [if_neg z, if_neg (by omega)]
  intro m
  induction m with
  | zero =>
    intro k w h ha
    rw [w146_5, if_neg (by rw [yr_eq, yr_eq] <;> omega), stop k w ha (by omega)]
    show _ = if 8 < k - a then _ else yret q (vi k) (yat S (yKf (ywd (tb S) k (k - k) w)) a (ywd (tb S) k (k - k) w)) js
    rw [Nat.sub_self]
    rfl
  | succ m ih =>
    intro k w h ha
    have hb := tb_rng S k
    have e1 : (k : Int) + 1 = ((k + 1 : Nat) : Int) := by omega
    have hl : Y q (d + 1) 143 0 [vr 86, vi (k : Int)] [] S js = yret q (vi (tb S k)) S js := by rw [c143 (by omega) (by omega) (by omega), tb_in hn (by omega)]
    have go : Y q (d + 2) 146 5 [vr 86, vi a, vj w, vu, vi k] [] S js = if pLD (tb S k) = true then Y q (d + 2) 146 5 [vr 86, vi a, vj ((ylshl w 8) ||| (yi2l (tb S k))), vu, vi (k + 1 : Nat)] [] S js else (if 8 < k - a then yret q (vi n) (yat S 66 a 0) js else yret q (vi k) (yat S (yKf w) a w) js) := by
      rw [w146_5, if_pos (by rw [yr_eq, yr_eq] <;> omega), hl, YB_ret, w146_20, c145 (by omega) (by omega), YB_ret, w146_23, hl, YB_ret, w146_32, c147 (by omega) (by omega), YB_ret, w146_35, YB_ret, w146_48, hl, YB_ret, w146_48, stop k w ha (by omega)]
      simp only [yr_yb, yb_eq0]
      rw [← e1]
      unfold pLD
      by_cases z1 : 97 ≤ tb S k ∧ tb S k ≤ 122
      · rw [if_neg (fun y => y z1), if_pos (decide_eq_true (Or.inl z1))]
      · rw [if_pos z1]
        by_cases z2 : 48 ≤ tb S k ∧ tb S k ≤ 57
        · rw [if_neg (fun y => y z2), if_pos (decide_eq_true (Or.inr z2))]
        · have zz : ¬ decide (yLD (tb S k)) = true := fun y => (of_decide_eq_true y).elim z1 z2
          rw [if_pos z2, if_neg zz]
    rw [go]
    cases z : pLD (tb S k) with
    | true =>
      have ey : yre pLD (tb S) (m + 1) k = yre pLD (tb S) m (k + 1) := by
        conv => lhs; unfold yre
        rw [z]
      have hy := yre_rng (p := pLD) (b := tb S) (m := m) (k := k + 1)
      have e5 : yre pLD (tb S) m (k + 1) - k = (yre pLD (tb S) m (k + 1) - (k + 1)) + 1 := by omega
      rw [if_pos rfl, ih (k + 1) _ (by omega) (by omega), ey, e5]
      rfl
    | false =>
      have ey : yre pLD (tb S) (m + 1) k = k := by
        conv => lhs; unfold yre
        rw [z]
      rw [if_neg (by decide), ey, Nat.sub_self]
      rfl
/-- a number -/
theorem c150a {a n : Nat} (hn : gI S 12 = n) (hn2 : n ≤ 2000) (h1 : 0 ≤ gI S 13 ∧ gI S 13 ≤ 2000) (ha : a ≤ n) : ∀ (m k : Nat) (w : Int64), k + m = n → a ≤ k → Y q (d + 2) 150 5 [vr 86, vi a, vj w, vu, vi k] [] S js = if 9 < yre pD (tb S) m k - a then yret q (vi n) (yat S 66 a 0) js else yret q (vi (yre pD (tb S) m k)) (yat S 63 a (ynu (tb S) k (yre pD (tb S) m k - k) w)) js := by
  have stop : ∀ (k : Nat) (w : Int64), a ≤ k → k ≤ n → (if yr 9 < yr ((k : Int) - a) then YB q (Y q (d + 1) 148 0 [vr 86, vi a] [] S js) (d + 2) 150 61 [vr 86, vi a, vj w, vu, vi k] [] else YB q (Y q (d + 1) 149 0 [vr 86, vr 63, vi a, vj w, vu] [] S js) (d + 2) 150 71 [vr 86, vi a, vj w, vu, vi k] []) = if 9 < k - a then yret q (vi n) (yat S 66 a 0) js else yret q (vi k) (yat S 63 a w) js := by
    intro k w h2 h3
    have e8 : yr 9 = 9 := rfl
    have e9 : yr ((k : Int) - a) = (k : Int) - a := yr_eq (by omega) (by omega)
    rw [e8, e9, c148 h1, YB_ret, w150_64, hn, c149 h1 (by omega), YB_retv, w150_74]
    by_cases z : 9 < k - a
    · rw [if_pos z, if_pos (by omega)]
    · rw [if_neg z, if_neg (by omega)]
  intro m
  induction m with
  | zero =>
    intro k w h ha
    rw [w150_5, if_neg (by rw [yr_eq, yr_eq] <;> omega), stop k w ha (by omega)]
    show _ = if 9 < k - a then _ else yret q (vi k) (yat S 63 a (ynu (tb S) k (k - k) w)) js
    rw [Nat.sub_self]
    rfl
  | succ m ih =>
    intro k w h ha
    have hb := tb_rng S k
    have e1 : (k : Int) + 1 = ((k + 1 : Nat) : Int) := by omega
    have hl : Y q (d + 1) 143 0 [vr 86, vi (k : Int)] [] S js = yret q (vi (tb S k)) S js := by rw [c143 (by omega) (by omega) (by omega), tb_in hn (by omega)]
    have go : Y q (d + 2) 150 5 [vr 86, vi a, vj w, vu, vi k] [] S js = if pD (tb S k) = true then Y q (d + 2) 150 5 [vr 86, vi a, vj (w * 10 + yi2l (tb S k) - 48), vu, vi (k + 1 : Nat)] [] S js else (if 9 < k - a then yret q (vi n) (yat S 66 a 0) js else yret q (vi k) (yat S 63 a w) js) := by
      rw [w150_5, if_pos (by rw [yr_eq, yr_eq] <;> omega), hl, YB_ret, w150_20, c147 (by omega) (by omega), YB_ret, w150_23, hl, YB_ret, w150_37, stop k w ha (by omega)]
      simp only [yr_yb, yb_eq0]
      rw [← e1]
      unfold pD
      by_cases z2 : 48 ≤ tb S k ∧ tb S k ≤ 57
      · rw [if_neg (fun y => y z2), if_pos (decide_eq_true z2)]
      · have zz : ¬ decide (48 ≤ tb S k ∧ tb S k ≤ 57) = true := fun y => z2 (of_decide_eq_true y)
        rw [if_pos z2, if_neg zz]
    rw [go]
    cases z : pD (tb S k) with
    | true =>
      have ey : yre pD (tb S) (m + 1) k = yre pD (tb S) m (k + 1) := by
        conv => lhs; unfold yre
        rw [z]
      have hy := yre_rng (p := pD) (b := tb S) (m := m) (k := k + 1)
      have e5 : yre pD (tb S) m (k + 1) - k = (yre pD (tb S) m (k + 1) - (k + 1)) + 1 := by omega
      rw [if_pos rfl, ih (k + 1) _ (by omega) (by omega), ey, e5]
      rfl
    | false =>
      have ey : yre pD (tb S) (m + 1) k = k := by
        conv => lhs; unfold yre
        rw [z]
      rw [if_neg (by decide), ey, Nat.sub_self]
      rfl
/-- a text -/
theorem c151a {a n : Nat} (hn : gI S 12 = n) (hn2 : n ≤ 2000) (h1 : 0 ≤ gI S 13 ∧ gI S 13 ≤ 2000) (ha : a < n) : ∀ (m k : Nat), k + m = n → a + 1 ≤ k → k - a - 1 ≤ 20 → Y q (d + 2) 151 4 [vr 86, vi a, vi k] [] S js = if (yre pQ (tb S) m k < n ∧ tb S (yre pQ (tb S) m k) = 34) ∧ yre pQ (tb S) m k - a - 1 ≤ 20 then yret q (vi (yre pQ (tb S) m k + 1 : Nat)) (yat S 64 a (yi2l ((yre pQ (tb S) m k : Nat) - a - 1))) js else yret q (vi n) (yat S 66 a 0) js := by
  have stop : ∀ k : Nat, a + 1 ≤ k → k ≤ n → k - a - 1 ≤ 20 → YB q (Y q (d + 1) 143 0 [vr 86, vi k] [] S js) (d + 2) 151 64 [vr 86, vi a, vi k] [] = if (k < n ∧ tb S k = 34) ∧ k - a - 1 ≤ 20 then yret q (vi (k + 1 : Nat)) (yat S 64 a (yi2l ((k : Int) - a - 1))) js else yret q (vi n) (yat S 66 a 0) js := by
    intro k h2 h3 h4
    have e34 : yr 34 = 34 := rfl
    have hb := tb_rng S k
    rw [c143 (by omega) (by omega) (by omega), YB_ret, w151_67, e34, c149 h1 (by omega), YB_retv, w151_92, c148 h1, YB_ret, w151_77, hn]
    by_cases z : k < n
    · rw [tb_in hn z, yr_eq (by omega) (by omega)]
      by_cases z2 : tb S k = 34
      · rw [if_pos z2, if_pos ⟨⟨z, z2⟩, h4⟩]
        rfl
      · rw [if_neg z2, if_neg (fun y => z2 y.1.2)]
    · have e : tbl S (k : Int) = 0 := if_neg (by omega)
      rw [e, if_neg (by decide), if_neg (fun y => z y.1.1)]
  intro m
  induction m with
  | zero =>
    intro k h ha hk
    rw [w151_4, if_neg (by rw [yr_eq, yr_eq] <;> omega), stop k ha (by omega) hk]
    rfl
  | succ m ih =>
    intro k h ha hk
    have hb := tb_rng S k
    have e1 : (k : Int) + 1 = ((k + 1 : Nat) : Int) := by omega
    have hl : Y q (d + 1) 143 0 [vr 86, vi (k : Int)] [] S js = yret q (vi (tb S k)) S js := by rw [c143 (by omega) (by omega) (by omega), tb_in hn (by omega)]
    have hs := stop k ha (by omega) hk
    have e34 : yr 34 = 34 := rfl
    have e32 : yr 32 = 32 := rfl
    have e126 : yr 126 = 126 := rfl
    have e20 : yr 20 = 20 := rfl
    have eb : yr (tb S k) = tb S k := yr_eq (by omega) (by omega)
    have ek : yr ((k : Int) - a) = (k : Int) - a := yr_eq (by omega) (by omega)
    rw [w151_4, if_pos (by rw [yr_eq, yr_eq] <;> omega)]
    rw [hl, YB_ret] at hs
    rw [hl, YB_ret, w151_17, eb, e32, hl, YB_ret, YB_ret, w151_27, eb, e126, hl, YB_ret, YB_ret, w151_37, eb, e34, hl, YB_ret, hs, e20, ek, c148 h1, YB_ret, w151_55, hn]
    cases z : pQ (tb S k) with
    | true =>
      have zp : 32 ≤ tb S k ∧ tb S k ≤ 126 ∧ tb S k ≠ 34 := of_decide_eq_true z
      have ey : yre pQ (tb S) (m + 1) k = yre pQ (tb S) m (k + 1) := by
        conv => lhs; unfold yre
        rw [z]
      have hy := yre_rng (p := pQ) (b := tb S) (m := m) (k := k + 1)
      rw [if_neg (by omega), if_neg (by omega), if_neg zp.2.2, ey]
      by_cases y : 20 < (k : Int) - a
      · rw [if_pos y, if_neg (by omega)]
      · rw [if_neg y, e1, ih (k + 1) (by omega) (by omega) (by omega)]
    | false =>
      have ey : yre pQ (tb S) (m + 1) k = k := by
        conv => lhs; unfold yre
        rw [z]
      have zp : ¬ (32 ≤ tb S k ∧ tb S k ≤ 126 ∧ tb S k ≠ 34) := of_decide_eq_false z
      rw [ey]
      by_cases y1 : tb S k < 32
      · rw [if_pos y1]
      · rw [if_neg y1]
        by_cases y2 : 126 < tb S k
        · rw [if_pos y2]
        · rw [if_neg y2, if_pos (by omega)]
/-- a symbol -/
theorem c152 {a n : Nat} (hn : gI S 12 = n) (hn2 : n ≤ 2000) (h1 : 0 ≤ gI S 13 ∧ gI S 13 ≤ 2000) (ha : a < n) : Y q (d + 2) 152 0 [vr 86, vi a, vi (tb S a), vu] [] S js = if (tb S a = 60 ∨ tb S a = 62) ∧ yKf ((ylshl (yi2l (tb S a)) 8) ||| yi2l (if a + 1 < n then tb S (a + 1) else 0)) ≠ 62 then yret q (vi (a + 2 : Nat)) (yat S (yKf ((ylshl (yi2l (tb S a)) 8) ||| yi2l (if a + 1 < n then tb S (a + 1) else 0))) a 0) js else if yKf (yi2l (tb S a)) = 62 then yret q (vi n) (yat S 66 a 0) js else yret q (vi (a + 1 : Nat)) (yat S (yKf (yi2l (tb S a))) a 0) js := by
  have hb := tb_rng S a
  have e60 : yr 60 = 60 := rfl
  have e62 : yr 62 = 62 := rfl
  have eb : yr (tb S a) = tb S a := yr_eq (by omega) (by omega)
  have single : ∀ x : yV, YB q (Y q (d + 1) 315 0 [vj (yi2l (tb S a)), vu, vu, vu, vu, vu] [] S js) (d + 2) 152 50 [vr 86, vi a, vi (tb S a), x] [] = if yKf (yi2l (tb S a)) = 62 then yret q (vi n) (yat S 66 a 0) js else yret q (vi (a + 1 : Nat)) (yat S (yKf (yi2l (tb S a))) a 0) js := by
    intro x
    have hk := yKf_lt (yi2l (tb S a))
    have hk2 : yKf (yi2l (tb S a)) < 67 ∧ 62 < 67 := ⟨hk, by omega⟩
    rw [c315, YB_ret, w152_53, if_pos hk2, c148 h1, YB_ret, w152_66, hn, c149 h1 hk, YB_retv, w152_74]
    rfl
  have pair : YB q (Y q (d + 1) 143 0 [vr 86, vi ((a : Int) + 1)] [] S js) (d + 2) 152 21 [vr 86, vi a, vi (tb S a), vu] [vj (ylshl (yi2l (tb S a)) 8)] = if yKf ((ylshl (yi2l (tb S a)) 8) ||| yi2l (if a + 1 < n then tb S (a + 1) else 0)) ≠ 62 then yret q (vi (a + 2 : Nat)) (yat S (yKf ((ylshl (yi2l (tb S a)) 8) ||| yi2l (if a + 1 < n then tb S (a + 1) else 0))) a 0) js else if yKf (yi2l (tb S a)) = 62 then yret q (vi n) (yat S 66 a 0) js else yret q (vi (a + 1 : Nat)) (yat S (yKf (yi2l (tb S a))) a 0) js := by
    have e1 : (a : Int) + 1 = ((a + 1 : Nat) : Int) := by omega
    have el : tbl S ((a + 1 : Nat) : Int) = if a + 1 < n then tb S (a + 1) else 0 := by
      by_cases z : a + 1 < n
      · rw [if_pos z, tb_in hn z]
      · rw [if_neg z]
        exact if_neg (by omega)
    rw [e1, c143 (by omega) (by omega) (by omega), YB_ret, w152_24, el]
    generalize (if a + 1 < n then tb S (a + 1) else 0) = nx
    have hk := yKf_lt ((ylshl (yi2l (tb S a)) 8) ||| yi2l nx)
    have hk2 : yKf ((ylshl (yi2l (tb S a)) 8) ||| yi2l nx) < 67 ∧ 62 < 67 := ⟨hk, by omega⟩
    rw [c315, YB_ret, w152_29, if_pos hk2, single, c149 h1 hk, YB_retv, w152_44]
    by_cases z : yKf ((ylshl (yi2l (tb S a)) 8) ||| yi2l nx) = 62
    · have zz : ¬ (yKf ((ylshl (yi2l (tb S a)) 8) ||| yi2l nx) ≠ 62) := fun y => y z
      rw [if_pos z, if_neg zz]
    · rw [if_neg z, if_pos z]
      rfl
  rw [w152_0, eb, e60, e62, pair, single]
  by_cases z1 : tb S a = 60 ∨ tb S a = 62
  · have z2 : ((tb S a = 60 ∨ tb S a = 62) ∧ yKf ((ylshl (yi2l (tb S a)) 8) ||| yi2l (if a + 1 < n then tb S (a + 1) else 0)) ≠ 62) = (yKf ((ylshl (yi2l (tb S a)) 8) ||| yi2l (if a + 1 < n then tb S (a + 1) else 0)) ≠ 62) := propext ⟨fun y => y.2, fun y => ⟨z1, y⟩⟩
    simp only [z2]
    rcases z1 with z1 | z1
    · rw [if_pos z1]
    · rw [if_neg (by omega), if_pos z1]
  · have zz : ¬ ((tb S a = 60 ∨ tb S a = 62) ∧ yKf ((ylshl (yi2l (tb S a)) 8) ||| yi2l (if a + 1 < n then tb S (a + 1) else 0)) ≠ 62) := fun y => z1 y.1
    rw [if_neg (fun y => z1 (Or.inl y)), if_neg (fun y => z1 (Or.inr y)), if_neg zz]
/-- a token -/
theorem c144 {a n : Nat} (hn : gI S 12 = n) (hn2 : n ≤ 2000) (h1 : 0 ≤ gI S 13 ∧ gI S 13 ≤ 2000) (ha : a < n) : Y q (d + 3) 144 0 [vr 86, vi a, vi (tb S a)] [] S js = yret q (vi (ytk1 (tb S) n a).2.2) (yat S (ytk1 (tb S) n a).1 a (ytk1 (tb S) n a).2.1) js := by
  have hb := tb_rng S a
  have e34 : yr 34 = 34 := rfl
  have eb : yr (tb S a) = tb S a := yr_eq (by omega) (by omega)
  have e1 : (a : Int) + 1 = ((a + 1 : Nat) : Int) := by omega
  have q1 := c146a (q := q) (d := d) (js := js) hn hn2 h1 (Nat.le_of_lt ha) (n - a) a 0 (by omega) (Nat.le_refl a)
  have q2 := c150a (q := q) (d := d) (js := js) hn hn2 h1 (Nat.le_of_lt ha) (n - a) a 0 (by omega) (Nat.le_refl a)
  have q3 := c151a (q := q) (d := d) (js := js) hn hn2 h1 ha (n - (a + 1)) (a + 1) (by omega) (by omega) (by omega)
  rw [w144_0, c145 (by omega) (by omega), YB_ret, w144_4, c147 (by omega) (by omega), YB_ret, w144_17, w146_0, q1, w150_0, q2, w151_0, e1, q3, c152 hn hn2 h1 ha, eb, e34]
  simp only [yr_yb, yb_eq0]
  unfold ytk1
  by_cases z1 : 97 ≤ tb S a ∧ tb S a ≤ 122
  · rw [if_neg (fun y => y z1), if_pos (show yL (tb S a) from z1), YB_ite, YB_ret, YB_ret, w144_12, w144_12]
    split <;> rfl
  · rw [if_pos z1, if_neg (show ¬ yL (tb S a) from z1)]
    by_cases z2 : 48 ≤ tb S a ∧ tb S a ≤ 57
    · rw [if_neg (fun y => y z2), if_pos z2, YB_ite, YB_ret, YB_ret, w144_25, w144_25]
      split <;> rfl
    · rw [if_pos z2, if_neg z2]
      by_cases z3 : tb S a = 34
      · rw [if_pos z3, if_pos z3, YB_ite, YB_ret, YB_ret, w144_37, w144_37]
        split <;> rfl
      · rw [if_neg z3, if_neg z3, YB_ite, YB_ite, YB_ret, YB_ret, YB_ret, w144_46, w144_46, w144_46]
        generalize (if a + 1 < n then tb S (a + 1) else 0) = nx
        by_cases z4 : (tb S a = 60 ∨ tb S a = 62) ∧ yKf ((ylshl (yi2l (tb S a)) 8) ||| yi2l nx) ≠ 62
        · rw [if_pos z4, if_pos z4]
        · rw [if_neg z4, if_neg z4]
          by_cases z5 : yKf (yi2l (tb S a)) = 62
          · rw [if_pos z5, if_pos z5]
          · rw [if_neg z5, if_neg z5]
end YTKL
end YTK
