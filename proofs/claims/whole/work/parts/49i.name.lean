/-! COLUMN: the tape's sole name -/
section YNA
/-- letters and digits from i on -/
def yald (b : Nat → Int) : Nat → Nat → Bool
  | _, 0 => true
  | i, n + 1 => decide (yLD (b i)) && yald b (i + 1) n
theorem yald_cg {f g : Nat → Int} : ∀ {n i : Nat}, (∀ k, i ≤ k → k < i + n → f k = g k) → yald f i n = yald g i n
  | 0, i, _ => rfl
  | n + 1, i, h => by
    unfold yald
    rw [h i (Nat.le_refl i) (by omega), yald_cg (n := n) (i := i + 1) fun k h1 h2 => h k (by omega) (by omega)]
theorem yald_at {b : Nat → Int} : ∀ {n i : Nat}, yald b i n = true → ∀ k, i ≤ k → k < i + n → yLD (b k)
  | 0, i, _, k, h1, h2 => by omega
  | n + 1, i, h, k, h1, h2 => by
    unfold yald at h
    rw [Bool.and_eq_true, decide_eq_true_eq] at h
    by_cases e : k = i
    · rw [e]; exact h.1
    · exact yald_at h.2 k (by omega) (by omega)
/-- a name that is no keyword: n bytes of b -/
def yname (b : Nat → Int) (n : Int) : Prop := (1 ≤ n ∧ n ≤ 8) ∧ yL (b 0) ∧ yald b 0 n.toNat = true ∧ yfind yKw (ywd b 0 n.toNat 0) 46 0 = -1
section YNAL
variable {q : yQ} {d : Nat} {js : List xO} {S : yS}
theorem tb_rng (S : yS) (i : Nat) : 0 ≤ tb S i ∧ tb S i ≤ 255 := yand_255 _
theorem tbl_in {i : Nat} (h : (i : Int) < gI S 12) : tbl S i = tb S i := by
  unfold tbl
  rw [if_pos (by omega), Int.toNat_natCast]
theorem c157a (h1 : 0 ≤ gI S 12 ∧ gI S 12 ≤ 2000) : ∀ (n i : Nat) (w : Int64) (x : yV), (i : Int) + n = gI S 12 → Y q (d + 1) 157 28 [vr 80, vj w, vu, vi i, x] [] S js = yret q (vj (if yald (tb S) i n = true ∧ yKf (ywd (tb S) i n w) = 62 then ywd (tb S) i n w else -1)) S js
  | 0, i, w, x, h => by
    rw [w157_28, if_neg (by rw [yr_eq, yr_eq] <;> omega), c315, YB_ret, w157_82]
    have hk : yKf w < 67 := by
      unfold yKf
      split
      · omega
      · rcases yfind_none (f := yKw) (w := w) (n := 67) (i := 0) with z | ⟨k, k1, k2, k3, k4⟩
        · rw [z]; decide
        · rw [k3]; omega
    rw [if_pos ⟨hk, by omega⟩]
    by_cases z : yKf w = 62
    · rw [if_pos z, if_pos ⟨rfl, z⟩]
      rfl
    · rw [if_neg z, if_neg (fun y => z y.2)]
  | n + 1, i, w, x, h => by
    have hb := tb_rng S i
    have e1 : (i : Int) + 1 = ((i + 1 : Nat) : Int) := by omega
    have ih := fun w x => c157a h1 n (i + 1) w x (by omega)
    rw [w157_28, if_pos (by rw [yr_eq, yr_eq] <;> omega), c143 (by omega) (by omega) h1, YB_ret, tbl_in (by omega), w157_41, c145 (by omega) (by omega), YB_ret, w157_48, c147 (by omega) (by omega), YB_ret, w157_56]
    simp only [yr_yb, yb_eq0]
    rw [e1, ih, yald, ywd]
    by_cases a : 97 ≤ tb S i ∧ tb S i ≤ 122
    · rw [if_neg (fun y => y a), decide_eq_true (show yLD (tb S i) from Or.inl a), Bool.true_and]
    · rw [if_pos a]
      by_cases b : 48 ≤ tb S i ∧ tb S i ≤ 57
      · rw [if_neg (fun y => y b), decide_eq_true (show yLD (tb S i) from Or.inr b), Bool.true_and]
      · rw [if_pos b, decide_eq_false (show ¬ yLD (tb S i) from fun y => y.elim a b), Bool.false_and, if_neg (fun y => Bool.noConfusion y.1)]
/-- the word of a name -/
theorem yname_word {b : Nat → Int} {n : Nat} (h1 : 1 ≤ n ∧ n ≤ 8) (h2 : yald b 0 n = true) : 0 ≤ (ywd b 0 n 0).toInt ∧ yKf (ywd b 0 n 0) = if yfind yKw (ywd b 0 n 0) 46 0 = -1 then 62 else (yfind yKw (ywd b 0 n 0) 46 0).toNat := by
  obtain ⟨m, rfl⟩ : ∃ m, n = m + 1 := ⟨n - 1, by omega⟩
  have hb : ∀ k, 0 ≤ k → k < 0 + (m + 1) → 0 ≤ b k ∧ b k ≤ 127 := fun k k1 k2 => by
    have := yald_at h2 k k1 k2
    rcases this with z | z <;> omega
  have r := ywd_one (b := b) (n := m) (i := 0) (by omega) hb
  have l := ywd_low (b := b) (n := m) (i := 0) (by omega) hb
  refine ⟨r.1, yKf_word r.1 ?_⟩
  rw [l]
  exact yald_at h2 (0 + m) (by omega) (by omega)
theorem yKf_62 {w : Int64} (h : yKf w = if yfind yKw w 46 0 = -1 then 62 else (yfind yKw w 46 0).toNat) : yKf w = 62 ↔ yfind yKw w 46 0 = -1 := by
  rw [h]
  rcases yfind_none (f := yKw) (w := w) (n := 46) (i := 0) with z | ⟨k, k1, k2, k3, k4⟩
  · rw [z]; simp
  · rw [if_neg (by omega)]
    constructor
    · intro e; omega
    · intro e; omega
theorem c157 (h1 : 0 ≤ gI S 12 ∧ gI S 12 ≤ 2000) : ∃ w : Int64, Y q (d + 1) 157 0 [vr 80, vu, vu, vu, vu] [] S js = yret q (vj w) S js ∧ (yname (tb S) (gI S 12) → w = ywd (tb S) 0 (gI S 12).toNat 0 ∧ 0 ≤ w.toInt) ∧ (¬ yname (tb S) (gI S 12) → w = -1) := by
  have e8 : yr 8 = 8 := rfl
  by_cases a : gI S 12 ≤ 8
  · have hb0 : 0 ≤ tbl S 0 ∧ tbl S 0 ≤ 255 := by
      unfold tbl
      split
      · exact tb_rng S _
      · omega
    have st : Y q (d + 1) 157 0 [vr 80, vu, vu, vu, vu] [] S js = if ¬ (97 ≤ tbl S 0 ∧ tbl S 0 ≤ 122) then yret q (vj (-1)) S js else Y q (d + 1) 157 28 [vr 80, vj 0, vu, vi (0 : Nat), vu] [] S js := by
      rw [w157_0, e8, if_neg (by rw [yr_eq] <;> omega), c143 (by omega) (by omega) h1, YB_ret, w157_14, c145 (by omega) (by omega), YB_ret, w157_17]
      simp only [yr_yb, yb_eq0]
      rfl
    rw [st]
    by_cases b : 97 ≤ tbl S 0 ∧ tbl S 0 ≤ 122
    · have n1 : 1 ≤ gI S 12 := by
        by_cases z : 1 ≤ gI S 12
        · exact z
        · unfold tbl at b
          rw [if_neg (by omega)] at b
          omega
      have b' : yL (tb S 0) := by
        unfold tbl at b
        rw [if_pos (by omega)] at b
        exact b
      rw [if_neg (fun y => y b), c157a h1 (gI S 12).toNat 0 0 vu (by omega)]
      by_cases c : yald (tb S) 0 (gI S 12).toNat = true
      · obtain ⟨w0, wk⟩ := yname_word (b := tb S) (n := (gI S 12).toNat) (by omega) c
        have hk := yKf_62 wk
        by_cases e : yfind yKw (ywd (tb S) 0 (gI S 12).toNat 0) 46 0 = -1
        · rw [if_pos ⟨c, hk.mpr e⟩]
          exact ⟨_, rfl, fun _ => ⟨rfl, w0⟩, fun y => (y ⟨⟨n1, a⟩, b', c, e⟩).elim⟩
        · rw [if_neg (fun y => e (hk.mp y.2))]
          exact ⟨_, rfl, fun y => (e y.2.2.2).elim, fun _ => rfl⟩
      · rw [if_neg (fun y => c y.1)]
        exact ⟨_, rfl, fun y => (c y.2.2.1).elim, fun _ => rfl⟩
    · rw [if_pos b]
      refine ⟨_, rfl, fun y => (b ?_).elim, fun _ => rfl⟩
      unfold tbl
      have := y.1.1
      rw [if_pos (by omega)]
      exact y.2.1
  · rw [w157_0, e8, if_pos (by rw [yr_eq] <;> omega)]
    exact ⟨_, rfl, fun y => (a y.1.2).elim, fun _ => rfl⟩
/-- the reference's reading of the name: from 43 on, the flag up -/
theorem r192a {c : Int} {b : Nat → Int} (h1 : 0 ≤ gI S 40 ∧ gI S 40 ≤ 2000) (hb : ∀ i : Nat, (i : Int) < gI S 40 → gA S 37 i = b i ∧ 0 ≤ b i ∧ b i ≤ 255) : ∀ (n i : Nat) (w : Int64), (i : Int) + n = gI S 40 → Y q (d + 2) 192 43 [vr 129, vi c, vi 1, vj w, vu, vi i] [] S js = if yald b i n = true then YB q (yret q (vi (yfind (gB S 10) (ywd b i n w) 46 0)) S js) (d + 2) 192 114 [vr 129, vi c, vi 1, vj (ywd b i n w), vu, vi (gI S 40)] [] else yret q (vi 0) (sI S 39 1) js
  | 0, i, w, h => by
    have e1 : (i : Int) = gI S 40 := by omega
    rw [w192_43, if_neg (by rw [yr_eq, yr_eq] <;> omega), if_neg (by decide), r195, if_pos (show yald b i 0 = true from rfl), e1]
    rfl
  | n + 1, i, w, h => by
    obtain ⟨hi, hr1, hr2⟩ := hb i (by omega)
    have e1 : (i : Int) + 1 = ((i + 1 : Nat) : Int) := by omega
    have ei : yr (i : Int) = i := yr_eq (by omega) (by omega)
    have ih := fun w => r192a (c := c) h1 hb n (i + 1) w (by omega)
    have z1 : ¬ yr 1 = 0 := by decide
    have hin : 0 ≤ (i : Int) ∧ (i : Int) < 2000 := by omega
    rw [w192_43, if_pos (by rw [yr_eq, yr_eq] <;> omega), if_neg z1, ei, if_pos hin, Int.toNat_natCast, hi, r193 (by omega) (by omega), YB_ret, w192_66, ei]
    simp only [hin, and_self, if_true, Int.toNat_natCast, hi]
    rw [r194 (by omega) (by omega), YB_ret, w192_79, ei]
    simp only [hin, and_self, if_true, Int.toNat_natCast, hi, yr_yb, yb_eq0]
    rw [e1, ih, yald, ywd]
    by_cases a : 97 ≤ b i ∧ b i ≤ 122
    · rw [if_neg (fun y => y a), decide_eq_true (show yLD (b i) from Or.inl a), Bool.true_and]
    · rw [if_pos a]
      by_cases e : 48 ≤ b i ∧ b i ≤ 57
      · rw [if_neg (fun y => y e), decide_eq_true (show yLD (b i) from Or.inr e), Bool.true_and]
      · have z0 : yr 0 = 0 := rfl
        rw [if_pos e, decide_eq_false (show ¬ yLD (b i) from fun y => y.elim a e), Bool.false_and, if_neg (fun y => Bool.noConfusion y), w192_43]
        simp only [z0, if_true]
        rw [ite_self, w188_0, YB_ret, w192_126]
/-- writing a row over what was written -/
theorem sAr_sA (S : yS) (k i : Nat) (x : Int) (f : Nat → Int) : sAr (sA S k i x) k f = sAr S k f := by
  show (S.1, S.2.1, S.2.2.1, yup (yup S.2.2.2.1 k _) k f, S.2.2.2.2) = _
  rw [yup_up]
  rfl
theorem sAr_sf (S : yS) (k : Nat) : sAr S k (gA S k) = S := by
  show (S.1, S.2.1, S.2.2.1, yup S.2.2.2.1 k (S.2.2.2.1 k), S.2.2.2.2) = _
  rw [yup_sf]
theorem c98a : ∀ (n i : Nat) (S : yS), i + n = 11 → Y q d 98 62 [vr 85, vi i] [] S js = yretv q (sAr S 26 (fun j => if i ≤ j ∧ j < 11 then -1 else gA S 26 j)) js
  | 0, i, S, h => by
    rw [w98_62, if_neg (by rw [yr_eq, yr_eq] <;> omega)]
    have e : (fun j => if i ≤ j ∧ j < 11 then (-1 : Int) else gA S 26 j) = gA S 26 := by
      funext j
      rw [if_neg (by omega)]
    rw [e, sAr_sf]
  | n + 1, i, S, h => by
    have ei : yr (i : Int) = i := yr_eq (by omega) (by omega)
    have e1 : (i : Int) + 1 = ((i + 1 : Nat) : Int) := by omega
    rw [w98_62, if_pos (by rw [yr_eq, yr_eq] <;> omega), ei, if_pos (by omega), Int.toNat_natCast, e1, c98a n (i + 1) _ (by omega), sAr_sA]
    congr 2
    funext j
    rw [gA_self]
    by_cases z : j = i
    · rw [if_neg (by omega), if_pos z, if_pos (by omega)]
    · rw [if_neg z]
      by_cases y : i ≤ j ∧ j < 11
      · rw [if_pos (by omega), if_pos y]
      · rw [if_neg (by omega), if_neg y]
/-- an empty program -/
def yemp (S : yS) : yS := sAr (sI (sI (sI (sI (sI (sI (sI (sI (sI (sI (sI S 19 0) 20 0) 21 40) 22 20) 23 0) 24 0) 8 0) 9 0) 0 0) 2 0) 25 0) 26 (fun j => if j < 11 then -1 else gA S 26 j)
theorem c98 : Y q (d + 1) 98 0 [vr 85, vu] [] S js = yretv q (yemp S) js := by
  rw [w98_0, w19b_0, YB_retv, w98_55, show (0 : Int) = ((0 : Nat) : Int) from rfl, c98a 11 0 _ (by omega)]
  unfold yemp
  congr 2
  funext j
  simp only [Nat.zero_le, true_and]
  rfl
def yforg (S : yS) : yS := sI (sI (sI (sI (sI (sI S 30 0) 31 0) 32 0) 33 0) 34 0) 29 0
def ydrop (S : yS) : yS := sI (sI (sI (sI S 48 0) 4 0) 66 0) 68 0
/-- the class adds a column -/
theorem c135 {w : Int64} {c : Int} (hc : c = 0 ∨ c = 1) (h1 : 0 ≤ gI S 10 ∧ gI S 10 < 8) : Y q d 135 0 [vr 76, vj w, vu, vi c] [] S js = yretv q (sI (sA (sB S 6 (gI S 10).toNat w) 20 (gI S 10).toNat c) 10 (gI S 10 + 1)) js := by
  have e8 : yr 8 = 8 := rfl
  have ez : yi2z c = c := by rcases hc with rfl | rfl <;> decide
  rw [w135_0, yr_eq (x := gI S 10) (by omega) (by omega), e8, if_pos (by omega), if_pos (by omega), if_pos (by omega), ez]
def ycolC (S : yS) (w : Int64) (c : Int) : yS := sI (yforg (yemp (sI (sA (sB S 6 (gI S 10).toNat w) 20 (gI S 10).toNat c) 10 (gI S 10 + 1)))) 12 0
def ycolM (S : yS) (w : Int64) (c : Int) : yS := ydrop (sI (sI (sA (sB S 11 (gI S 41).toNat w) 38 (gI S 41).toNat c) 41 (gI S 41 + 1)) 40 0)
theorem c168 {c : Int} (hc : c = 0 ∨ c = 1) (h1 : 0 ≤ gI S 12 ∧ gI S 12 ≤ 2000) (h2 : 0 ≤ gI S 10 ∧ gI S 10 ≤ 8) (h3 : 0 ≤ gI S 11 ∧ gI S 11 ≤ 320) : (¬ yname (tb S) (gI S 12) → Y q (d + 2) 168 0 [vr 75, vi c, vu, vu] [] S js = ythr q (yexc 15) S js) ∧ (yname (tb S) (gI S 12) → Y q (d + 2) 168 0 [vr 75, vi c, vu, vu] [] S js = if gI S 10 = 8 ∨ ¬ yfind (gB S 6) (ywd (tb S) 0 (gI S 12).toNat 0) (gI S 10).toNat 0 = -1 ∨ 0 < gI S 11 then ythr q (yexc 14) S js else yret q (vi (gI S 10)) (ycolC S (ywd (tb S) 0 (gI S 12).toNat 0) c) js) := by
  obtain ⟨w, hw, hy, hn⟩ := c157 (q := q) (d := d) (js := js) (S := S) h1
  have z0 : (0 : Int64).toInt = 0 := rfl
  constructor
  · intro z
    have e : w = -1 := hn z
    rw [w168_0, hw, YB_ret, w168_7, yr_lcmp, if_pos ((ylcmp_lt _ _).mpr (by rw [e]; decide))]
  · intro z
    obtain ⟨e, ew⟩ := hy z
    have e8 : yr 8 = 8 := rfl
    rw [w168_0, hw, YB_ret, w168_7, yr_lcmp, if_neg (fun y => by have := Int64.lt_iff_toInt_lt.mp ((ylcmp_lt _ _).mp y); omega), yr_eq (x := gI S 10) (by omega) (by omega), e8, c132 h2, YB_ret, w168_42, e]
    by_cases a : gI S 10 = 8
    · rw [if_neg (by omega), if_pos (Or.inl a)]
    · rw [if_pos (by omega)]
      rcases yfind_none (f := gB S 6) (w := ywd (tb S) 0 (gI S 12).toNat 0) (n := (gI S 10).toNat) (i := 0) with y | ⟨k, k1, k2, k3, k4⟩
      · rw [y, if_pos (by decide), yr_eq (x := gI S 11) (by omega) (by omega)]
        by_cases b : 0 < gI S 11
        · rw [if_pos b, if_pos (Or.inr (Or.inr b))]
        · rw [if_neg b, if_neg (show ¬ (gI S 10 = 8 ∨ ¬ (-1 : Int) = -1 ∨ 0 < gI S 11) by omega), c135 hc (by omega), YB_retv, w168_72, c98, YB_retv, w168_79, w111_0, YB_retv, w168_86]
          have e9 : (gI S 10 + 1) - 1 = gI S 10 := by omega
          show yret q (vi ((gI S 10 + 1) - 1)) _ js = _
          rw [e9]
          rfl
      · rw [k3, if_neg (by rw [yr_eq] <;> omega), if_pos (Or.inr (Or.inl (by omega)))]
end YNAL
end YNA
