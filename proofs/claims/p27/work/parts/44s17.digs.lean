/-! taken from whole by wip/p27/slice.py: 98.digs.lean.txt -/
section YDG
/-- how many digits -/
def ycnt : Nat → Nat → Nat
  | 0, _ => 0
  | f + 1, n => if n < 10 then 1 else ycnt f (n / 10) + 1
/-- the lowest k digits, from the highest on -/
def ydl (n : Nat) : Nat → List Int
  | 0 => []
  | k + 1 => (48 + ((n / 10 ^ k % 10 : Nat) : Int)) :: ydl n k
theorem ydl_len (n : Nat) : ∀ k, (ydl n k).length = k
  | 0 => rfl
  | k + 1 => by show (ydl n k).length + 1 = k + 1; rw [ydl_len n k]
theorem ydl_s (n : Nat) : ∀ k, ydl n (k + 1) = ydl (n / 10) k ++ [48 + ((n % 10 : Nat) : Int)]
  | 0 => by
    show [48 + ((n / 10 ^ 0 % 10 : Nat) : Int)] = [48 + ((n % 10 : Nat) : Int)]
    rw [Nat.pow_zero, Nat.div_one]
  | k + 1 => by
    show (48 + ((n / 10 ^ (k + 1) % 10 : Nat) : Int)) :: ydl n (k + 1) = (48 + ((n / 10 / 10 ^ k % 10 : Nat) : Int)) :: (ydl (n / 10) k ++ [48 + ((n % 10 : Nat) : Int)])
    rw [ydl_s n k, Nat.div_div_eq_div_mul, Nat.pow_succ, Nat.mul_comm 10 (10 ^ k)]
theorem ydgs_e : ∀ (f n : Nat) (acc : List Int), n < 10 ^ f → ydgs f n acc = ydl n (ycnt f n) ++ acc
  | 0, n, acc, h => rfl
  | f + 1, n, acc, h => by
    unfold ydgs ycnt
    by_cases z : n < 10
    · rw [if_pos z, if_pos z]
      show _ = (48 + ((n / 10 ^ 0 % 10 : Nat) : Int)) :: ([] ++ acc)
      rw [Nat.pow_zero, Nat.div_one, Nat.mod_eq_of_lt z]
      rfl
    · rw [if_neg z, if_neg z, ydgs_e f (n / 10) _ (by rw [Nat.pow_succ] at h; omega), ydl_s, List.append_assoc]
      rfl
theorem ycnt_1 : ∀ (f n : Nat), 1 ≤ ycnt (f + 1) n := by
  intro f n
  unfold ycnt
  split <;> omega
theorem ycnt_le : ∀ (f n k : Nat), n < 10 ^ k → 1 ≤ k → ycnt f n ≤ k
  | 0, n, k, h, hk => Nat.zero_le _
  | f + 1, n, k, h, hk => by
    unfold ycnt
    split
    · exact hk
    · rename_i z
      obtain ⟨k', rfl⟩ : ∃ k', k = k' + 1 := ⟨k - 1, by omega⟩
      rw [Nat.pow_succ] at h
      have hk' : 1 ≤ k' := by
        by_cases y : k' = 0
        · subst y
          rw [Nat.pow_zero] at h
          omega
        · omega
      have := ycnt_le f (n / 10) k' (by omega) hk'
      omega
theorem ydl_rng (n : Nat) : ∀ (k i : Nat) (y : Int), (ydl n k)[i]? = some y → 48 ≤ y ∧ y ≤ 57
  | 0, i, y, h => nomatch h
  | k + 1, 0, y, h => by
    have h : some (48 + ((n / 10 ^ k % 10 : Nat) : Int)) = some y := h
    injection h with h
    omega
  | k + 1, i + 1, y, h => ydl_rng n k i y h
/-- negative numbers divided by ten -/
theorem ydiv10 {x : Int64} {n : Nat} (h : x.toInt = -(n : Int)) (hn : n ≤ 9223372036854775808) : (x / 10).toInt = -((n / 10 : Nat) : Int) := by
  have e10 : (10 : Int64).toInt = 10 := by decide
  have e : (-(n : Int)).tdiv 10 = -((n / 10 : Nat) : Int) := by
    rw [Int.neg_tdiv]
    rfl
  rw [Int64.toInt_div, h, e10, e, Int.bmod_eq_of_le (by omega) (by omega)]
theorem yrem10 {x : Int64} {n : Nat} (h : x.toInt = -(n : Int)) (hn : n ≤ 9223372036854775808) : (ylrem x 10).toInt = -((n % 10 : Nat) : Int) := by
  have e10 : (10 : Int64).toInt = 10 := by decide
  unfold ylrem
  rw [Int64.toInt_sub, Int64.toInt_mul, ydiv10 h hn, h, e10]
  rw [Int.bmod_eq_of_le (n := -((n / 10 : Nat) : Int) * 10) (by omega) (by omega)]
  have e : -(n : Int) - -((n / 10 : Nat) : Int) * 10 = -((n % 10 : Nat) : Int) := by omega
  rw [e, Int.bmod_eq_of_le (by omega) (by omega)]
theorem ydig {x : Int64} {n : Nat} (h : x.toInt = -(n : Int)) (hn : n ≤ 9223372036854775808) : yi2b (yi2b (yl2i (48 - ylrem x 10))) = 48 + ((n % 10 : Nat) : Int) := by
  have e48 : (48 : Int64).toInt = 48 := by decide
  have e1 : (48 - ylrem x 10 : Int64).toInt = 48 + ((n % 10 : Nat) : Int) := by
    rw [Int64.toInt_sub, yrem10 h hn, e48, Int.bmod_eq_of_le (by omega) (by omega)]
    omega
  have e2 : yl2i (48 - ylrem x 10) = 48 + ((n % 10 : Nat) : Int) := by
    unfold yl2i
    rw [Int64.toInt_toInt32, e1, Int.bmod_eq_of_le (by omega) (by omega)]
  have r : -128 ≤ 48 + ((n % 10 : Nat) : Int) ∧ 48 + ((n % 10 : Nat) : Int) ≤ 127 := by omega
  rw [e2, yi2b_eq r, yi2b_eq r]
section YDGL
variable {q : yQ} {d : Nat} {js : List xO} {S : yS} {n : Nat}
/-- counting digits -/
theorem c84c {mo : Nat} {x2 x3 : Int64} (hmo : mo ≤ 1) : ∀ (f m c : Nat) (x5 : Int64), x5.toInt = -((m / 10 : Nat) : Int) → m ≤ 9223372036854775808 → m < 10 ^ f → 1 ≤ f → c + f ≤ 20 → 1 ≤ c → ∃ x5' : Int64, Y q d 84 32 [vr 124, vi n, vi mo, vj x2, vu, vj x3, vu, vi c, vj x5, vu, vu, vu] [] S js = Y q d 84 32 [vr 124, vi n, vi mo, vj x2, vu, vj x3, vu, vi ((c - 1 + ycnt f m : Nat) : Int), vj x5', vu, vu, vu] [] S js ∧ x5' = 0
  | 0, m, c, x5, h, hm, hf, hf1, hc, hc1 => by omega
  | f + 1, m, c, x5, h, hm, hf, hf1, hc, hc1 => by
    by_cases z : m < 10
    · have hx : x5 = 0 := by
        have : x5.toInt = (0 : Int64).toInt := by
          rw [h, Nat.div_eq_of_lt z]
          decide
        exact Int64.toInt_inj.mp this
      refine ⟨x5, ?_, hx⟩
      unfold ycnt
      rw [if_pos z, show c - 1 + 1 = c by omega]
    · have hm0 : m / 10 ≠ 0 := by omega
      have hx : ¬ x5 = 0 := by
        intro e
        rw [e] at h
        have : (0 : Int64).toInt = 0 := by decide
        omega
      have n10 : ¬ (10 : Int64) = 0 := by decide
      have e20 : yr 20 = 20 := rfl
      have ec : yr (c : Int) = c := yr_eq (by omega) (by omega)
      have hd := ydiv10 (n := m / 10) h (by omega)
      obtain ⟨x5', a1, a2⟩ := c84c hmo f (m / 10) (c + 1) (x5 / 10) hd (by omega) (by rw [Nat.pow_succ] at hf; omega) (by
        by_cases y : f = 0
        · subst y
          rw [Nat.pow_succ, Nat.pow_zero] at hf
          omega
        · omega) (by omega) (by omega)
      refine ⟨x5', ?_, a2⟩
      rw [w84_32, if_neg (fun v => hx ((ylcmp_eq _ _).mp (by rw [← yr_lcmp]; exact v))), ec, e20, if_pos (by omega), if_neg n10]
      have ep : (c : Int) + 1 = ((c + 1 : Nat) : Int) := by omega
      rw [ep, a1]
      have eu : ycnt (f + 1) m = ycnt f (m / 10) + 1 := if_neg z
      rw [eu, show c + 1 - 1 + ycnt f (m / 10) = c - 1 + (ycnt f (m / 10) + 1) by omega]
/-- digits are written, from the lowest on -/
theorem c84w {mo sg len c : Nat} {x2 : Int64} (hn : n < 92) (hmo : mo ≤ 1) (hsg : sg ≤ 1) (hlen : len ≤ 60) : ∀ (f m p : Nat) (acc : List Int) (x3 : Int64) (S : yS), x3.toInt = -(m : Int) → m ≤ 9223372036854775808 → m < 10 ^ f → p = sg + ycnt f m → 1 ≤ f → p + acc.length = len → (mo = 1 → p + 3 ≤ len) → (∀ (i : Nat) (y : Int), acc[i]? = some y → gA S 32 (60 * n + p + i) = y) → ∃ (S' : yS) (x3' : Int64), Y q d 84 115 [vr 124, vi n, vi mo, vj x2, vu, vj x3, vu, vi c, vi sg, vi len, vi ((60 * n : Nat) : Int), vi ((p : Int) - 1)] [] S js = Y q d 84 115 [vr 124, vi n, vi mo, vj x2, vu, vj x3', vu, vi c, vi sg, vi len, vi ((60 * n : Nat) : Int), vi ((sg : Int) - 1)] [] S' js ∧ yFs n S S' ∧ gA S' 30 = gA S 30 ∧ gA S' 31 = gA S 31 ∧ ∀ (i : Nat) (y : Int), (ydl m (ycnt f m) ++ acc)[i]? = some y → gA S' 32 (60 * n + sg + i) = y
  | 0, m, p, acc, x3, S, h, hm, hf, hp, hf1, hl, hmo3, hacc => by omega
  | f + 1, m, p, acc, x3, S, h, hm, hf, hp, hf1, hl, hmo3, hacc => by
    have hc1 := ycnt_1 f m
    have n10 : ¬ (10 : Int64) = 0 := by decide
    have ep : yr ((p : Int) - 1) = (p : Int) - 1 := yr_eq (by omega) (by omega)
    have es : yr (sg : Int) = sg := yr_eq (by omega) (by omega)
    have em : yr (mo : Int) = mo := yr_eq (by omega) (by omega)
    have el : yr ((len : Int) - 3) = (len : Int) - 3 := yr_eq (by omega) (by omega)
    have ex : yr (((60 * n : Nat) : Int) + ((p : Int) - 1)) = ((60 * n + (p - 1) : Nat) : Int) := by rw [yr_eq] <;> omega
    have e2 : (p : Int) - 1 + (-1) = ((p - 1 : Nat) : Int) - 1 := by omega
    -- one digit
    obtain ⟨S1, hS1⟩ : ∃ S1, S1 = sA S 32 (60 * n + (p - 1)) (48 + ((m % 10 : Nat) : Int)) := ⟨_, rfl⟩
    have g32 : ∀ j, gA S1 32 j = if j = 60 * n + (p - 1) then 48 + ((m % 10 : Nat) : Int) else gA S 32 j := fun j => by
      rw [hS1]
      exact gA_self S 32 _ _ j
    have g30 : gA S1 30 = gA S 30 := by rw [hS1]; rfl
    have g31 : gA S1 31 = gA S 31 := by rw [hS1]; rfl
    have fr : yFs n S S1 := by
      rw [hS1]
      exact yFs_32 (by omega)
    have st : Y q d 84 115 [vr 124, vi n, vi mo, vj x2, vu, vj x3, vu, vi c, vi sg, vi len, vi ((60 * n : Nat) : Int), vi ((p : Int) - 1)] [] S js = Y q d 84 115 [vr 124, vi n, vi mo, vj x2, vu, vj (x3 / 10), vu, vi c, vi sg, vi len, vi ((60 * n : Nat) : Int), vi (((p - 1 : Nat) : Int) - 1)] [] S1 js := by
      rw [w84_115, ep, es, if_neg (by omega), em, el, ex, ydig h hm, e2, Int.toNat_natCast, ← hS1]
      have ok : 0 ≤ ((60 * n + (p - 1) : Nat) : Int) ∧ ((60 * n + (p - 1) : Nat) : Int) < 5520 := by omega
      by_cases zm : mo = 0
      · rw [if_pos (show (mo : Int) = 0 by omega), if_neg n10, if_pos ok, if_neg n10]
      · rw [if_neg (show ¬ (mo : Int) = 0 by omega), if_neg (show ¬ (p : Int) - 1 = (len : Int) - 3 by have := hmo3 (by omega); omega), if_neg n10, if_pos ok, if_neg n10]
    have hd := ydiv10 h hm
    have accn : ∀ (i : Nat) (y : Int), ((48 + ((m % 10 : Nat) : Int)) :: acc)[i]? = some y → gA S1 32 (60 * n + (p - 1) + i) = y := by
      intro i y hi
      match i, hi with
      | 0, hi =>
        have hi : some (48 + ((m % 10 : Nat) : Int)) = some y := hi
        injection hi with hi
        rw [g32, if_pos (Nat.add_zero _)]
        exact hi
      | i + 1, hi =>
        have hi : acc[i]? = some y := hi
        rw [g32, if_neg (by omega), show 60 * n + (p - 1) + (i + 1) = 60 * n + p + i by omega]
        exact hacc i y hi
    by_cases z : m < 10
    · have hc : ycnt (f + 1) m = 1 := by
        unfold ycnt
        rw [if_pos z]
      rw [hc] at hp ⊢
      refine ⟨S1, x3 / 10, ?_, fr, g30, g31, fun i y hi => ?_⟩
      · rw [st, show p - 1 = sg by omega]
      · have e0 : ydl m 1 ++ acc = (48 + ((m % 10 : Nat) : Int)) :: acc := by
          show (48 + ((m / 10 ^ 0 % 10 : Nat) : Int)) :: ([] ++ acc) = _
          rw [Nat.pow_zero, Nat.div_one]
          rfl
        rw [e0] at hi
        have := accn i y hi
        rw [show p - 1 = sg by omega] at this
        exact this
    · have hc : ycnt (f + 1) m = ycnt f (m / 10) + 1 := by
        show (if m < 10 then 1 else ycnt f (m / 10) + 1) = _
        rw [if_neg z]
      have hf2 : 1 ≤ f := by
        by_cases y : f = 0
        · subst y
          rw [Nat.pow_succ, Nat.pow_zero] at hf
          omega
        · omega
      rw [hc] at hp ⊢
      obtain ⟨S', x3', a1, a2, a3, a4, a5⟩ := c84w hn hmo hsg hlen f (m / 10) (p - 1) ((48 + ((m % 10 : Nat) : Int)) :: acc) (x3 / 10) S1 hd (by omega) (by rw [Nat.pow_succ] at hf; omega) (by omega) hf2 (by rw [List.length_cons]; omega) (fun z => by have := hmo3 z; omega) accn
      refine ⟨S', x3', by rw [st, a1], yFs_tr fr a2, a3.trans g30, a4.trans g31, fun i y hi => a5 i y ?_⟩
      rw [ydl_s, List.append_assoc] at hi
      exact hi
end YDGL
end YDG
