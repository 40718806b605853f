/-! taken from whole by wip/p27/slice.py: 98b.digs.lean.txt -/
section YDH
theorem ycnt_st {n : Nat} : ∀ (f : Nat), n < 10 ^ f → 1 ≤ f → ∀ k, ycnt (f + k) n = ycnt f n := by
  intro f
  induction f generalizing n with
  | zero => intro _ h; omega
  | succ f ih =>
    intro h hf k
    have e : f + 1 + k = f + k + 1 := by omega
    rw [e]
    show (if n < 10 then 1 else ycnt (f + k) (n / 10) + 1) = (if n < 10 then 1 else ycnt f (n / 10) + 1)
    by_cases z : n < 10
    · rw [if_pos z, if_pos z]
    · rw [if_neg z, if_neg z]
      have h2 : n / 10 < 10 ^ f := by rw [Nat.pow_succ] at h; omega
      have hf2 : 1 ≤ f := by
        by_cases y : f = 0
        · subst y
          rw [Nat.pow_zero] at h2
          omega
        · omega
      rw [ih h2 hf2 k]
section YDHL
variable {q : yQ} {d : Nat} {js : List xO} {S : yS} {n : Nat}
theorem c84s {mo sg len c i m : Nat} {x2 x3 : Int64} (hn : n < 92) (hmo : mo ≤ 1) (hsg : sg ≤ 1) (hlen : len ≤ 60) (h : x3.toInt = -(m : Int)) (hm : m ≤ 9223372036854775808) (hi : sg ≤ i) (hi2 : i < len) (hne : mo = 1 → i + 3 ≠ len) : Y q d 84 115 [vr 124, vi n, vi mo, vj x2, vu, vj x3, vu, vi c, vi sg, vi len, vi ((60 * n : Nat) : Int), vi (i : Int)] [] S js = Y q d 84 115 [vr 124, vi n, vi mo, vj x2, vu, vj (x3 / 10), vu, vi c, vi sg, vi len, vi ((60 * n : Nat) : Int), vi ((i : Int) - 1)] [] (sA S 32 (60 * n + i) (48 + ((m % 10 : Nat) : Int))) js := by
  have n10 : ¬ (10 : Int64) = 0 := by decide
  have ep : yr (i : Int) = (i : Int) := yr_eq (by omega) (by omega)
  have es : yr (sg : Int) = sg := yr_eq (by omega) (by omega)
  have em : yr (mo : Int) = mo := yr_eq (by omega) (by omega)
  have el : yr ((len : Int) - 3) = (len : Int) - 3 := yr_eq (by omega) (by omega)
  have ex : yr (((60 * n : Nat) : Int) + (i : Int)) = ((60 * n + i : Nat) : Int) := by rw [yr_eq] <;> omega
  have e2 : (i : Int) + (-1) = (i : Int) - 1 := by omega
  have ok : 0 ≤ ((60 * n + i : Nat) : Int) ∧ ((60 * n + i : Nat) : Int) < 5520 := by omega
  rw [w84_115, ep, es, if_neg (by omega), em, el, ex, ydig h hm, e2, Int.toNat_natCast]
  by_cases zm : mo = 0
  · rw [if_pos (show (mo : Int) = 0 by omega), if_neg n10, if_pos ok, if_neg n10]
  · rw [if_neg (show ¬ (mo : Int) = 0 by omega), if_neg (show ¬ (i : Int) = (len : Int) - 3 by have := hne (by omega); omega), if_neg n10, if_pos ok, if_neg n10]
theorem c84p {sg len c i : Nat} {x2 x3 : Int64} (hn : n < 92) (hsg : sg ≤ 1) (hlen : len ≤ 60) (hi : sg ≤ i) (hi2 : i < len) (he : i + 3 = len) : Y q d 84 115 [vr 124, vi n, vi ((1 : Nat) : Int), vj x2, vu, vj x3, vu, vi c, vi sg, vi len, vi ((60 * n : Nat) : Int), vi (i : Int)] [] S js = Y q d 84 115 [vr 124, vi n, vi ((1 : Nat) : Int), vj x2, vu, vj x3, vu, vi c, vi sg, vi len, vi ((60 * n : Nat) : Int), vi ((i : Int) - 1)] [] (sA S 32 (60 * n + i) 46) js := by
  have ep : yr (i : Int) = (i : Int) := yr_eq (by omega) (by omega)
  have es : yr (sg : Int) = sg := yr_eq (by omega) (by omega)
  have em : yr ((1 : Nat) : Int) = 1 := rfl
  have el : yr ((len : Int) - 3) = (len : Int) - 3 := yr_eq (by omega) (by omega)
  have ex : yr (((60 * n : Nat) : Int) + (i : Int)) = ((60 * n + i : Nat) : Int) := by rw [yr_eq] <;> omega
  have e2 : (i : Int) + (-1) = (i : Int) - 1 := by omega
  have ok : 0 ≤ ((60 * n + i : Nat) : Int) ∧ ((60 * n + i : Nat) : Int) < 5520 := by omega
  have e46 : yi2b 46 = 46 := by decide
  have n1 : ¬ (1 : Int) = 0 := by decide
  rw [w84_115, ep, es, if_neg (by omega), em, el, ex, e2, Int.toNat_natCast, if_neg n1, if_pos (show (i : Int) = (len : Int) - 3 by omega), if_pos ok, e46]
/-- the end: the sign, and that it is a text -/
theorem c84e {mo sg len c : Nat} {x2 x3 : Int64} (hn : n < 92) (hsg : sg ≤ 1) : ∃ S' : yS, Y q d 84 115 [vr 124, vi n, vi mo, vj x2, vu, vj x3, vu, vi c, vi sg, vi len, vi ((60 * n : Nat) : Int), vi ((sg : Int) - 1)] [] S js = yretv q S' js ∧ yFs n S S' ∧ gA S' 30 n = 1 ∧ gA S' 31 n = len ∧ ∀ j, gA S' 32 j = if sg = 1 ∧ j = 60 * n then 45 else gA S 32 j := by
  have e1 : yr ((sg : Int) - 1) = (sg : Int) - 1 := yr_eq (by omega) (by omega)
  have es : yr (sg : Int) = sg := yr_eq (by omega) (by omega)
  have eo : yr 1 = 1 := rfl
  have en : yr (n : Int) = n := yr_eq (by omega) (by omega)
  have ex : yr ((60 * n : Nat) : Int) = ((60 * n : Nat) : Int) := yr_eq (by omega) (by omega)
  have ok : 0 ≤ ((60 * n : Nat) : Int) ∧ ((60 * n : Nat) : Int) < 5520 := by omega
  have h92 : 0 ≤ (n : Int) ∧ (n : Int) < 92 := by omega
  have e45 : yi2b 45 = 45 := by decide
  rw [w84_115, e1, es, if_pos (by omega), eo, ex, en, Int.toNat_natCast, Int.toNat_natCast, yi2z_1, e45]
  by_cases z : sg = 1
  · rw [if_pos (by omega), if_pos ok, if_pos h92, if_pos h92]
    refine ⟨_, rfl, yFs_tr (yFs_32 (by omega)) (yFs_tr yFs_30 yFs_31), ?_, ?_, fun j => ?_⟩
    · show gA (sA (sA S 32 (60 * n) 45) 30 n 1) 30 n = 1
      rw [gA_self, if_pos rfl]
    · rw [gA_self, if_pos rfl]
    · show gA (sA S 32 (60 * n) 45) 32 j = _
      rw [gA_self]
      by_cases zj : j = 60 * n
      · rw [if_pos zj, if_pos ⟨z, zj⟩]
      · rw [if_neg zj, if_neg (fun v => zj v.2)]
  · rw [if_neg (by omega), if_pos h92, if_pos h92]
    refine ⟨_, rfl, yFs_tr yFs_30 yFs_31, ?_, ?_, fun j => ?_⟩
    · show gA (sA S 30 n 1) 30 n = 1
      rw [gA_self, if_pos rfl]
    · rw [gA_self, if_pos rfl]
    · rw [if_neg (fun v => z v.1)]
      rfl
/-- behind the counting: how many digits are written, the sign, how long it is -/
theorem c84m {mo sg D : Nat} {x r : Int64} (hmo : mo ≤ 1) (hsg : sg ≤ 1) (hs : (yr (ylcmp x 0) < 0) ↔ sg = 1) (hD : D ≤ 19) : Y q d 84 32 [vr 124, vi n, vi mo, vj x, vu, vj r, vu, vi D, vj 0, vu, vu, vu] [] S js = Y q d 84 115 [vr 124, vi n, vi mo, vj x, vu, vj r, vu, vi ((if mo = 0 then D else if D < 3 then 3 else D : Nat) : Int), vi sg, vi ((sg + (if mo = 0 then D else if D < 3 then 3 else D) + mo : Nat) : Int), vi ((60 * n : Nat) : Int), vi (((sg + (if mo = 0 then D else if D < 3 then 3 else D) + mo : Nat) : Int) - 1)] [] S js := by
  have y00 : yr (ylcmp 0 0) = 0 := by decide
  have e60 : (n : Int) * 60 = ((60 * n : Nat) : Int) := by omega
  have em : yr (mo : Int) = mo := yr_eq (by omega) (by omega)
  have e3 : yr 3 = 3 := rfl
  have eD : yr (D : Int) = D := yr_eq (by omega) (by omega)
  rw [w84_32, if_pos y00, em, e60, e3, eD]
  by_cases zm : mo = 0
  · have m0 : (mo : Int) = 0 := by omega
    rw [if_pos m0, if_pos zm]
    by_cases z : sg = 1
    · rw [if_pos (hs.mpr z), if_pos m0, show (1 : Int) + (D : Int) + 0 = ((sg + D + mo : Nat) : Int) by omega, show (sg : Int) = 1 by omega]
    · rw [if_neg (fun v => z (hs.mp v)), if_pos m0, show (0 : Int) + (D : Int) + 0 = ((sg + D + mo : Nat) : Int) by omega, show (sg : Int) = 0 by omega]
  · have m0 : ¬ (mo : Int) = 0 := by omega
    rw [if_neg m0, if_neg zm]
    by_cases h3 : D < 3
    · rw [if_pos (show (D : Int) < 3 by omega), if_pos h3]
      by_cases z : sg = 1
      · rw [if_pos (hs.mpr z), if_neg m0, show (1 : Int) + 3 + 1 = ((sg + 3 + mo : Nat) : Int) by omega, show (sg : Int) = 1 by omega]
        rfl
      · rw [if_neg (fun v => z (hs.mp v)), if_neg m0, show (0 : Int) + 3 + 1 = ((sg + 3 + mo : Nat) : Int) by omega, show (sg : Int) = 0 by omega]
        rfl
    · rw [if_neg (show ¬ (D : Int) < 3 by omega), if_neg h3]
      by_cases z : sg = 1
      · rw [if_pos (hs.mpr z), if_neg m0, show (1 : Int) + (D : Int) + 1 = ((sg + D + mo : Nat) : Int) by omega, show (sg : Int) = 1 by omega]
      · rw [if_neg (fun v => z (hs.mp v)), if_neg m0, show (0 : Int) + (D : Int) + 1 = ((sg + D + mo : Nat) : Int) by omega, show (sg : Int) = 0 by omega]
theorem c84 {mo : Nat} {x : Int64} (hn : n < 92) (hmo : mo ≤ 1) (hv : cV S n (.inl x)) : ∃ S' : yS, Y q d 84 0 [vr 124, vi n, vi mo, vu, vu, vu, vu, vu, vu, vu, vu, vu] [] S js = yretv q S' js ∧ yFs n S S' ∧ cV S' n (.inr (if mo = 0 then ydgt x else ymny x)) := by
  obtain ⟨v1, v2, v3⟩ := hv
  have en : yr (n : Int) = n := yr_eq (by omega) (by omega)
  have h92 : 0 ≤ (n : Int) ∧ (n : Int) < 92 := by omega
  have n10 : ¬ (10 : Int64) = 0 := by decide
  have r1 := Int64.le_toInt x
  have r2 := Int64.toInt_lt x
  have z0 : (0 : Int64).toInt = 0 := by decide
  obtain ⟨N, hN⟩ : ∃ N, N = x.toInt.natAbs := ⟨_, rfl⟩
  -- the number below 0
  have rest : ∃ r : Int64, r.toInt = -(N : Int) ∧ Y q d 84 0 [vr 124, vi n, vi mo, vu, vu, vu, vu, vu, vu, vu, vu, vu] [] S js = Y q d 84 32 [vr 124, vi n, vi mo, vj x, vu, vj r, vu, vi ((1 : Nat) : Int), vj (r / 10), vu, vu, vu] [] S js := by
    rw [w84_0, en, if_pos h92, Int.toNat_natCast, v2, yr_lcmp]
    by_cases z : 0 < x
    · have zz := Int64.lt_iff_toInt_lt.mp z
      refine ⟨-x, ?_, ?_⟩
      · rw [Int64.toInt_neg, Int.bmod_eq_of_le (by omega) (by omega)]
        omega
      · rw [if_pos ((ylcmp_gt _ _).mpr z), if_neg n10]
        rfl
    · have zz : ¬ (0 : Int64).toInt < x.toInt := fun v => z (Int64.lt_iff_toInt_lt.mpr v)
      refine ⟨x, by omega, ?_⟩
      rw [if_neg (fun v => z ((ylcmp_gt _ _).mp v)), if_neg n10]
      rfl
  obtain ⟨r, hr, st⟩ := rest
  have hN2 : N ≤ 9223372036854775808 := by omega
  have p19 : (10 : Nat) ^ 19 = 10000000000000000000 := by decide
  have p17 : (10 : Nat) ^ 17 = 100000000000000000 := by decide
  obtain ⟨x5, c1, c2⟩ := c84c (q := q) (d := d) (js := js) (S := S) (n := n) (x2 := x) (x3 := r) hmo 19 N 1 (r / 10) (ydiv10 hr hN2) hN2 (by rw [p19]; omega) (by omega) (by omega) (Nat.le_refl 1)
  subst c2
  have hD1 := ycnt_1 18 N
  have hD2 := ycnt_le 19 N 19 (by rw [p19]; omega) (by omega)
  obtain ⟨D, hD⟩ : ∃ D, D = ycnt 19 N := ⟨_, rfl⟩
  rw [← hD] at hD1 hD2 c1
  have eD : 1 - 1 + D = D := by omega
  rw [eD] at c1
  rw [st, c1]
  obtain ⟨sg, hsg, hsgx⟩ : ∃ sg : Nat, sg ≤ 1 ∧ (sg = 1 ↔ x.toInt < 0) := by
    by_cases z : x.toInt < 0
    · exact ⟨1, by omega, fun _ => z, fun _ => rfl⟩
    · exact ⟨0, by omega, fun v => by omega, fun v => (z v).elim⟩
  have hlt : (yr (ylcmp x 0) < 0) ↔ sg = 1 := by
    rw [yr_lcmp, ylcmp_lt, Int64.lt_iff_toInt_lt, z0, hsgx]
  rw [c84m hmo hsg hlt hD2]
  obtain ⟨E, hE⟩ : ∃ E, E = (if mo = 0 then D else if D < 3 then 3 else D) := ⟨_, rfl⟩
  rw [← hE]
  have sign : (if x.toInt < 0 then [45] else [] : List Int).length = sg := by
    by_cases z : sg = 1
    · rw [if_pos (hsgx.mp z), z]
      rfl
    · rw [if_neg (fun v => z (hsgx.mpr v))]
      show 0 = sg
      omega
  -- what is left to see at the end
  have fin : ∀ (S1 : yS) (len : Nat) (body : List Int) (x3 : Int64), len = sg + body.length → len ≤ 60 → yFs n S S1 → (∀ (i : Nat) (y : Int), body[i]? = some y → gA S1 32 (60 * n + sg + i) = y) → (∀ (i : Nat) (y : Int), body[i]? = some y → 0 ≤ y ∧ y ≤ 127) → ∃ S' : yS, Y q d 84 115 [vr 124, vi n, vi mo, vj x, vu, vj x3, vu, vi E, vi sg, vi len, vi ((60 * n : Nat) : Int), vi ((sg : Int) - 1)] [] S1 js = yretv q S' js ∧ yFs n S S' ∧ cV S' n (.inr ((if x.toInt < 0 then [45] else []) ++ body)) := by
    intro S1 len body x3 hlen hlen2 f1 hb hr
    obtain ⟨S', a1, a2, a3, a4, a5⟩ := c84e (q := q) (d := d) (js := js) (S := S1) (mo := mo) (sg := sg) (len := len) (c := E) (x2 := x) (x3 := x3) hn hsg
    refine ⟨S', a1, yFs_tr f1 a2, a3, ?_, ?_, fun i y hi => ?_⟩
    · rw [a4, List.length_append, sign, hlen]
    · rw [List.length_append, sign]
      omega
    · rw [a5]
      by_cases z : i < sg
      · have hs1 : sg = 1 := by omega
        have hi0 : i = 0 := by omega
        subst hi0
        rw [if_pos (hsgx.mp hs1)] at hi
        have hi : some (45 : Int) = some y := hi
        injection hi with hi
        rw [if_pos ⟨hs1, Nat.add_zero _⟩, ← hi]
        omega
      · rw [List.getElem?_append_right (by rw [sign]; omega), sign] at hi
        rw [if_neg (by omega)]
        have := hb _ y hi
        rw [show 60 * n + sg + (i - sg) = 60 * n + i by omega] at this
        exact ⟨this, hr _ y hi⟩
  by_cases zm : mo = 0
  · subst zm
    have hE0 : E = D := by rw [hE, if_pos rfl]
    rw [show sg + E + 0 = sg + D by omega]
    obtain ⟨S1, x3', a1, a2, a3, a4, a5⟩ := c84w (q := q) (d := d) (js := js) (n := n) (mo := 0) (sg := sg) (len := sg + D) (c := E) (x2 := x) hn (by omega) hsg (by omega) 19 N (sg + D) [] r S hr hN2 (by rw [p19]; omega) (by rw [hD]) (by omega) rfl (fun z => by omega) (fun i y hi => nomatch hi)
    rw [a1]
    have e30 : ydgs 30 N [] = ydl N D := by
      rw [ydgs_e 30 N [] (Nat.lt_of_lt_of_le (show N < 10 ^ 19 by rw [p19]; omega) (Nat.pow_le_pow_right (by omega) (by omega))), show (30 : Nat) = 19 + 11 from rfl, ycnt_st 19 (by rw [p19]; omega) (by omega) 11, ← hD, List.append_nil]
    obtain ⟨S', b1, b2, b3⟩ := fin S1 (sg + D) (ydl N D) x3' (by rw [ydl_len]) (by omega) a2 (fun i y hi => a5 i y (by rw [← hD, List.append_nil]; exact hi)) (fun i y hi => by have := ydl_rng N D i y hi; omega)
    refine ⟨S', b1, b2, ?_⟩
    unfold ydgt
    rw [← hN, e30]
    exact b3
  · have hmo1 : mo = 1 := by omega
    subst hmo1
    -- digits of the hundreds
    obtain ⟨M, hM⟩ : ∃ M, M = ycnt 17 (N / 100) := ⟨_, rfl⟩
    have hMD : E = M + 2 := by
      have hc : ycnt 19 N = if N < 10 then 1 else ycnt 18 (N / 10) + 1 := rfl
      have hc2 : ycnt 18 (N / 10) = if N / 10 < 10 then 1 else ycnt 17 (N / 10 / 10) + 1 := rfl
      have hc3 : 1 ≤ M := by rw [hM]; exact ycnt_1 16 _
      have hc4 : N / 10 / 10 = N / 100 := by omega
      have hc5 : N / 100 < 10 → M = 1 := fun v => by rw [hM]; exact if_pos v
      rw [hE, if_neg zm]
      by_cases z1 : N < 10
      · rw [if_pos z1] at hc
        have := hc5 (by omega)
        rw [if_pos (by omega)]
        omega
      · rw [if_neg z1] at hc
        by_cases z2 : N / 10 < 10
        · rw [if_pos z2] at hc2
          have := hc5 (by omega)
          rw [if_pos (by omega)]
          omega
        · rw [if_neg z2, hc4, ← hM] at hc2
          split <;> omega
    have hM1 := ycnt_1 16 (N / 100)
    rw [← hM] at hM1
    have hM2 := ycnt_le 17 (N / 100) 17 (by rw [p17]; omega) (by omega)
    rw [← hM] at hM2
    rw [show sg + E + 1 = sg + M + 3 by omega, show ((sg + M + 3 : Nat) : Int) - 1 = ((sg + M + 2 : Nat) : Int) by omega]
    have s1 := c84s (q := q) (d := d) (js := js) (S := S) (mo := 1) (sg := sg) (len := sg + M + 3) (c := E) (i := sg + M + 2) (x2 := x) hn (by omega) hsg (by omega) hr hN2 (by omega) (by omega) (fun _ => by omega)
    rw [s1, show ((sg + M + 2 : Nat) : Int) - 1 = ((sg + M + 1 : Nat) : Int) by omega]
    have hr1 := ydiv10 hr hN2
    have s2 := c84s (q := q) (d := d) (js := js) (S := sA S 32 (60 * n + (sg + M + 2)) (48 + ((N % 10 : Nat) : Int))) (mo := 1) (sg := sg) (len := sg + M + 3) (c := E) (i := sg + M + 1) (x2 := x) hn (by omega) hsg (by omega) hr1 (by omega) (by omega) (by omega) (fun _ => by omega)
    rw [s2, show ((sg + M + 1 : Nat) : Int) - 1 = ((sg + M : Nat) : Int) by omega]
    have hr2 := ydiv10 hr1 (by omega)
    have s3 := c84p (q := q) (d := d) (js := js) (S := sA (sA S 32 (60 * n + (sg + M + 2)) (48 + ((N % 10 : Nat) : Int))) 32 (60 * n + (sg + M + 1)) (48 + ((N / 10 % 10 : Nat) : Int))) (sg := sg) (len := sg + M + 3) (c := E) (i := sg + M) (x2 := x) (x3 := r / 10 / 10) hn hsg (by omega) (by omega) (by omega) (by omega)
    rw [s3]
    obtain ⟨S3, hS3⟩ : ∃ S3, S3 = sA (sA (sA S 32 (60 * n + (sg + M + 2)) (48 + ((N % 10 : Nat) : Int))) 32 (60 * n + (sg + M + 1)) (48 + ((N / 10 % 10 : Nat) : Int))) 32 (60 * n + (sg + M)) 46 := ⟨_, rfl⟩
    rw [← hS3]
    have g32 : ∀ j, gA S3 32 j = if j = 60 * n + (sg + M) then 46 else if j = 60 * n + (sg + M + 1) then 48 + ((N / 10 % 10 : Nat) : Int) else if j = 60 * n + (sg + M + 2) then 48 + ((N % 10 : Nat) : Int) else gA S 32 j := fun j => by
      rw [hS3, gA_self, gA_self, gA_self]
    have fr : yFs n S S3 := by
      rw [hS3]
      exact yFs_tr (yFs_32 (by omega)) (yFs_tr (yFs_32 (by omega)) (yFs_32 (by omega)))
    have e100 : N / 10 / 10 = N / 100 := by omega
    rw [e100] at hr2
    have tail : ∀ (i : Nat) (y : Int), ([46, 48 + ((N % 100 / 10 : Nat) : Int), 48 + ((N % 10 : Nat) : Int)] : List Int)[i]? = some y → gA S3 32 (60 * n + (sg + M) + i) = y ∧ 0 ≤ y ∧ y ≤ 127 := by
      intro i y hi
      match i, hi with
      | 0, hi =>
        have hi : some (46 : Int) = some y := hi
        injection hi with hi
        rw [g32, if_pos (Nat.add_zero _), ← hi]
        omega
      | 1, hi =>
        have hi : some (48 + ((N % 100 / 10 : Nat) : Int)) = some y := hi
        injection hi with hi
        rw [g32, if_neg (by omega), if_pos (by omega), ← hi, show N / 10 % 10 = N % 100 / 10 by omega]
        omega
      | 2, hi =>
        have hi : some (48 + ((N % 10 : Nat) : Int)) = some y := hi
        injection hi with hi
        rw [g32, if_neg (by omega), if_neg (by omega), if_pos (by omega), ← hi]
        omega
      | i + 3, hi => nomatch hi
    obtain ⟨S1, x3', a1, a2, a3, a4, a5⟩ := c84w (q := q) (d := d) (js := js) (n := n) (mo := 1) (sg := sg) (len := sg + M + 3) (c := E) (x2 := x) hn (by omega) hsg (by omega) 17 (N / 100) (sg + M) [46, 48 + ((N % 100 / 10 : Nat) : Int), 48 + ((N % 10 : Nat) : Int)] (r / 10 / 10) S3 hr2 (by omega) (by rw [p17]; omega) (by rw [hM]) (by omega) rfl (fun z => by omega) (fun i y hi => (tail i y hi).1)
    rw [a1]
    have e30 : ydgs 30 (N / 100) [] = ydl (N / 100) M := by
      rw [ydgs_e 30 (N / 100) [] (Nat.lt_of_lt_of_le (show N / 100 < 10 ^ 17 by rw [p17]; omega) (Nat.pow_le_pow_right (by omega) (by omega))), show (30 : Nat) = 17 + 13 from rfl, ycnt_st 17 (by rw [p17]; omega) (by omega) 13, ← hM, List.append_nil]
    obtain ⟨S', b1, b2, b3⟩ := fin S1 (sg + M + 3) (ydl (N / 100) M ++ [46, 48 + ((N % 100 / 10 : Nat) : Int), 48 + ((N % 10 : Nat) : Int)]) x3' (by rw [List.length_append, ydl_len]; rfl) (by omega) (yFs_tr fr a2) (fun i y hi => a5 i y (by rw [← hM]; exact hi)) (fun i y hi => by
      by_cases z : i < M
      · rw [List.getElem?_append_left (by rw [ydl_len]; exact z)] at hi
        have := ydl_rng _ _ i y hi
        omega
      · rw [List.getElem?_append_right (by rw [ydl_len]; omega)] at hi
        exact (tail _ y hi).2)
    refine ⟨S', b1, b2, ?_⟩
    unfold ymny
    rw [← hN, e30, List.append_assoc]
    exact b3
end YDHL
end YDH
