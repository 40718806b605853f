/-! taken from whole by wip/p27/slice2.py: 76.name.lean.txt -/
section YNA
/-- what a name means, where an expression stands -/
def ynmS (S : yS) (w : Int) (v : Int64) : Option (Nat × Nat × Bool) :=
  if 0 ≤ yfind (gB S 6) v (gI S 10).toNat 0 then some (2, (yfind (gB S 6) v (gI S 10).toNat 0).toNat, decide (¬ yr (gA S 20 (yfind (gB S 6) v (gI S 10).toNat 0).toNat) = 0))
  else if w ≠ 0 ∧ 0 ≤ yfind (gB S 4) v (gI S 8).toNat 0 then some (3, (yfind (gB S 4) v (gI S 8).toNat 0).toNat, decide (¬ yr (gA S 14 (yfind (gB S 4) v (gI S 8).toNat 0).toNat) = 0))
  else if w = 2 ∧ 0 ≤ yfind (gB S 5) v (gI S 9).toNat 0 then some (4, (yfind (gB S 5) v (gI S 9).toNat 0).toNat, decide (¬ yr (gA S 15 (yfind (gB S 5) v (gI S 9).toNat 0).toNat) = 0))
  else none
def yntp (o : Option (Nat × Nat × Bool)) : Nat := match o with
  | some (_, _, true) => 1
  | _ => 0
def ynmm (u : Nat) (m : yMo) (o : Option (Nat × Nat × Bool)) (pl : Nat) : yMo := match o with
  | none => ywr m 2 pl
  | some x => yadm u m x.1 (ya64 x.2.1)
def ynme (T : yTk) (nm : Int64 → Option (Nat × Nat × Bool)) (t b : Nat) : yPr := if b = 0 then .inl (T t).2.1 else .inr (t + 1, b - 1, match nm (T t).2.2 with
  | none => .inl (2, (T t).2.1)
  | some (op, i, x) => .inr (x, none, [(op, ya64 i)], [], fun e => some (e op i)))
section YNAL
variable {q : yQ} {d : Nat} {js : List xO} {S0 S : yS} {T : yTk} {N u : Nat} {w : Int} {Rm : Nat → Nat → Nat} {Rx : Nat → Nat} {s : Nat} {tx : Nat → Nat → List Int}
theorem c48a {w : Int64} (h1 : 0 ≤ gI S 8 ∧ gI S 8 ≤ 8) : ∀ (n i : Nat), gI S 8 = i + n → Y q d 48 2 [vr 95, vj w, vu, vi i] [] S js = yret q (vi (yfind (gB S 4) w n i)) S js
  | 0, i, h => by
    rw [w48_2]
    simp (disch := omega) only [yr_eq]
    rw [if_neg (by omega)]
    rfl
  | n + 1, i, h => by
    rw [w48_2]
    have ih := c48a (w := w) h1 n (i + 1) (by omega)
    simp (disch := omega) only [yr_eq, yr_lcmp, ylcmp_eq, Int.toNat_natCast]
    rw [if_pos (by omega), if_pos (by omega)]
    unfold yfind
    split
    · rfl
    · rw [← ih]
      rfl
theorem c48 {w : Int64} (h1 : 0 ≤ gI S 8 ∧ gI S 8 ≤ 8) : Y q d 48 0 [vr 95, vj w, vu, vu] [] S js = yret q (vi (yfind (gB S 4) w (gI S 8).toNat 0)) S js := by
  rw [w48_0]
  exact c48a h1 (gI S 8).toNat 0 (by omega)
theorem c48xa {w : Int64} (h1 : 0 ≤ gI S 9 ∧ gI S 9 ≤ 8) : ∀ (n i : Nat), gI S 9 = i + n → Y q d 48 2 [vr 101, vj w, vu, vi i] [] S js = yret q (vi (yfind (gB S 5) w n i)) S js
  | 0, i, h => by
    rw [w48b_2]
    simp (disch := omega) only [yr_eq]
    rw [if_neg (by omega)]
    rfl
  | n + 1, i, h => by
    rw [w48b_2]
    have ih := c48xa (w := w) h1 n (i + 1) (by omega)
    simp (disch := omega) only [yr_eq, yr_lcmp, ylcmp_eq, Int.toNat_natCast]
    rw [if_pos (by omega), if_pos (by omega)]
    unfold yfind
    split
    · rfl
    · rw [← ih]
      rfl
theorem c48x {w : Int64} (h1 : 0 ≤ gI S 9 ∧ gI S 9 ≤ 8) : Y q d 48 0 [vr 101, vj w, vu, vu] [] S js = yret q (vi (yfind (gB S 5) w (gI S 9).toNat 0)) S js := by
  rw [w48b_0]
  exact c48xa h1 (gI S 9).toNat 0 (by omega)
theorem ypick {F : Nat → Option xRes} {Z : Option xRes} (hu : u = 0 ∨ u = 1) (hk : gK S 1 = cu u) : (if gK S 1 = 107 then F 107 else if gK S 1 = 117 then F 117 else Z) = F (cu u) := by
  rcases hu with rfl | rfl
  · have hk : gK S 1 = 107 := hk
    rw [if_pos hk]
    rfl
  · have hk : gK S 1 = 117 := hk
    rw [if_neg (by omega), if_pos hk]
    rfl
theorem v54_19 {x0 : Int64} {x1 x2 : Int} (hu : u = 0 ∨ u = 1) : Y q (d + 1) 54 19 [vr 122, vj x0, vu, vi x1, vi x2, vu, vu] [vr (cu u)] S js = YB q (Y q d 20 0 [vr (cu u), vi 2, vj (yi2l x2), vu, vu] [] S js) (d + 1) 54 23 [vr 122, vj x0, vu, vi x1, vi x2, vu, vu] [] := by
  rcases hu with rfl | rfl
  · exact w54_19 ..
  · exact w54_19x ..
theorem v54_78 {x0 : Int64} {x1 x2 x3 : Int} (hu : u = 0 ∨ u = 1) : Y q (d + 1) 54 78 [vr 122, vj x0, vu, vi x1, vi x2, vi x3, vu] [vr (cu u)] S js = YB q (Y q d 20 0 [vr (cu u), vi 3, vj (yi2l x3), vu, vu] [] S js) (d + 1) 54 82 [vr 122, vj x0, vu, vi x1, vi x2, vi x3, vu] [] := by
  rcases hu with rfl | rfl
  · exact w54_78 ..
  · exact w54_78x ..
theorem v54_142 {x0 : Int64} {x1 x2 x3 x4 : Int} (hu : u = 0 ∨ u = 1) : Y q (d + 1) 54 142 [vr 122, vj x0, vu, vi x1, vi x2, vi x3, vi x4] [vr (cu u)] S js = YB q (Y q d 20 0 [vr (cu u), vi 4, vj (yi2l x4), vu, vu] [] S js) (d + 1) 54 146 [vr 122, vj x0, vu, vi x1, vi x2, vi x3, vi x4] [] := by
  rcases hu with rfl | rfl
  · exact w54_142 ..
  · exact w54_142x ..
theorem yfind_c {f : Nat → Int64} {v : Int64} {n : Nat} (hn : n ≤ 8) : yfind f v n 0 = -1 ∨ ∃ k : Nat, k < n ∧ yfind f v n 0 = k := by
  rcases yfind_none (f := f) (w := v) (n := n) (i := 0) with h | ⟨k, h1, h2, h3, h4⟩
  · exact Or.inl h
  · exact Or.inr ⟨k, by omega, h3⟩
theorem yntp_d {o i : Nat} {c : Prop} [Decidable c] : yntp (some (o, i, decide (¬ c))) = if c then 0 else 1 := by
  by_cases z : c
  · rw [if_pos z, decide_eq_false (fun n => n z)]
    rfl
  · rw [if_neg z, decide_eq_true z]
    rfl
theorem m54 {m : yMo} {v : Int64} {pl : Nat} (hu : u = 0 ∨ u = 1) (h : cM T N u w S m) (hw : w = 0 ∨ w = 1 ∨ w = 2) (h10 : 0 ≤ gI S 10 ∧ gI S 10 ≤ 8) (h8 : 0 ≤ gI S 8 ∧ gI S 8 ≤ 8) (h9 : 0 ≤ gI S 9 ∧ gI S 9 ≤ 8) : ∃ S' : yS, Y q (d + 1) 54 0 [vr 122, vj v, vu, vi pl, vu, vu, vu] [] S js = yret q (vi (yntp (ynmS S w v) : Nat)) S' js ∧ yFr (yWx u) S S' ∧ cM T N u w S' (ynmm u m (ynmS S w v) pl) := by
  have g26 : gI S 26 = w := h.2.2.2.1
  have e1 : yr (-1) = -1 := rfl
  have e2 : yr 2 = 2 := rfl
  have e0 : yr 0 = 0 := rfl
  have ew : yr w = w := yr_eq (by omega) (by omega)
  rw [w54_0, c132 h10, YB_ret, w54_8, g26, e1, e2, ew]
  rcases yfind_c (f := gB S 6) (v := v) (n := (gI S 10).toNat) (by omega) with hf | ⟨k, hk, hf⟩
  · rw [hf, e1, if_pos (by omega)]
    have hA : ¬ 0 ≤ yfind (gB S 6) v (gI S 10).toNat 0 := by omega
    -- a total, or none
    have tot : ∀ L1 : Int, (w = 1 ∨ w = 2 → L1 = -1) → (w = 0 ∨ yfind (gB S 4) v (gI S 8).toNat 0 = -1) → (w = 0 → L1 = -1) → ∃ S' : yS, (if w = 2 then YB q (Y q d 48 0 [vr 101, vj v, vu, vu] [] S js) (d + 1) 54 124 [vr 122, vj v, vu, vi pl, vi (-1), vi L1, vu] [] else YB q (Y q d 153 0 [vr 86, vi 2, vi pl] [] S js) (d + 1) 54 178 [vr 122, vj v, vu, vi pl, vi (-1), vi L1, vi (-1)] []) = yret q (vi (yntp (ynmS S w v) : Nat)) S' js ∧ yFr (yWx u) S S' ∧ cM T N u w S' (ynmm u m (ynmS S w v) pl) := by
      intro L1 _ hl _
      have hB : ¬ (w ≠ 0 ∧ 0 ≤ yfind (gB S 4) v (gI S 8).toNat 0) := by omega
      have none_ : ¬ (w = 2 ∧ 0 ≤ yfind (gB S 5) v (gI S 9).toNat 0) → ∀ x : Int, ∃ S' : yS, YB q (Y q d 153 0 [vr 86, vi 2, vi pl] [] S js) (d + 1) 54 178 [vr 122, vj v, vu, vi pl, vi (-1), vi L1, vi x] [] = yret q (vi (yntp (ynmS S w v) : Nat)) S' js ∧ yFr (yWx u) S S' ∧ cM T N u w S' (ynmm u m (ynmS S w v) pl) := by
        intro hC x
        have e : ynmS S w v = none := by unfold ynmS; rw [if_neg hA, if_neg hB, if_neg hC]
        obtain ⟨S1, a1, a2, a3⟩ := mwrong (q := q) (d := d) (js := js) (n := 2) (p := pl) hu h (by omega)
        have a1 : Y q d 153 0 [vr 86, vi 2, vi pl] [] S js = yretv q S1 js := a1
        rw [e, a1, YB_retv, w54_181]
        exact ⟨S1, rfl, yWk_x a2, a3⟩
      by_cases z : w = 2
      · rw [if_pos z, c48x h9, YB_ret, w54_127]
        rcases yfind_c (f := gB S 5) (v := v) (n := (gI S 9).toNat) (by omega) with hf2 | ⟨k, hk, hf2⟩
        · rw [hf2, e1, if_pos (by omega)]
          exact none_ (by omega) (-1)
        · have e : ynmS S w v = some (4, k, decide (¬ yr (gA S 15 k) = 0)) := by
            unfold ynmS
            rw [if_neg hA, if_neg hB, hf2, if_pos ⟨z, by omega⟩]
            rfl
          obtain ⟨S2, r2, a1, a2, a3, a4, a5⟩ := madd (q := q) (d := d) (js := js) hu h 4 (yi2l (k : Int))
          have a1 : Y q d 20 0 [vr (cu u), vi 4, vj (yi2l (k : Int)), vu, vu] [] S js = yret q (vi r2) S2 js := a1
          have g15 : gA S2 15 = gA S 15 := a2.2.2.2.1 15 (by rcases hu with rfl | rfl <;> rfl)
          have ek : yr (k : Int) = k := yr_eq (by omega) (by omega)
          rw [hf2, ek, if_neg (by omega), ypick (F := fun n => Y q (d + 1) 54 142 [vr 122, vj v, vu, vi pl, vi (-1), vi L1, vi k] [vr n] S js) hu h.2.2.1, v54_142 hu, a1, YB_ret, w54_149, ek, if_pos (by omega), Int.toNat_natCast, g15, e, yntp_d]
          refine ⟨S2, ?_, a2, a4⟩
          split <;> rfl
      · rw [if_neg z]
        exact none_ (by omega) (-1)
    by_cases z : w = 0
    · rw [if_pos z, if_pos (by omega)]
      obtain ⟨S', t1, t2⟩ := tot (-1) (fun _ => rfl) (Or.inl z) (fun _ => rfl)
      rw [if_neg (by omega)] at t1
      rw [if_neg (by omega), if_pos (by omega)]
      exact ⟨S', t1, t2⟩
    · rw [if_neg z, c48 h8, YB_ret, w54_67, g26, e1, e2, ew]
      rcases yfind_c (f := gB S 4) (v := v) (n := (gI S 8).toNat) (by omega) with hf2 | ⟨k, hk, hf2⟩
      · rw [hf2, e1, if_pos (by omega), if_pos (by omega : (-1 : Int) < 0)]
        exact tot (-1) (fun _ => rfl) (Or.inr hf2) (fun _ => rfl)
      · have e : ynmS S w v = some (3, k, decide (¬ yr (gA S 14 k) = 0)) := by
          unfold ynmS
          rw [if_neg hA, hf2, if_pos ⟨z, by omega⟩]
          rfl
        obtain ⟨S2, r2, a1, a2, a3, a4, a5⟩ := madd (q := q) (d := d) (js := js) hu h 3 (yi2l (k : Int))
        have a1 : Y q d 20 0 [vr (cu u), vi 3, vj (yi2l (k : Int)), vu, vu] [] S js = yret q (vi r2) S2 js := a1
        have g14 : gA S2 14 = gA S 14 := a2.2.2.2.1 14 (by rcases hu with rfl | rfl <;> rfl)
        have ek : yr (k : Int) = k := yr_eq (by omega) (by omega)
        rw [hf2, ek, if_neg (by omega), ypick (F := fun n => Y q (d + 1) 54 78 [vr 122, vj v, vu, vi pl, vi (-1), vi k, vu] [vr n] S js) hu h.2.2.1, v54_78 hu, a1, YB_ret, w54_85, ek, if_pos (by omega), Int.toNat_natCast, g14, e, yntp_d]
        refine ⟨S2, ?_, a2, a4⟩
        split <;> rfl
  · have e : ynmS S w v = some (2, k, decide (¬ yr (gA S 20 k) = 0)) := by
      unfold ynmS
      rw [hf, if_pos (by omega)]
      rfl
    obtain ⟨S2, r2, a1, a2, a3, a4, a5⟩ := madd (q := q) (d := d) (js := js) hu h 2 (yi2l (k : Int))
    have a1 : Y q d 20 0 [vr (cu u), vi 2, vj (yi2l (k : Int)), vu, vu] [] S js = yret q (vi r2) S2 js := a1
    have g20 : gA S2 20 = gA S 20 := a2.2.2.2.1 20 (by rcases hu with rfl | rfl <;> rfl)
    have g10 : gI S2 10 = gI S 10 := a2.1 10 (by rcases hu with rfl | rfl <;> rfl)
    have ek : yr (k : Int) = k := yr_eq (by omega) (by omega)
    rw [hf, ek, if_neg (by omega), ypick (F := fun n => Y q (d + 1) 54 19 [vr 122, vj v, vu, vi pl, vi k, vu, vu] [vr n] S js) hu h.2.2.1, v54_19 hu, a1, YB_ret, w54_26, c133 (by omega) (by omega), YB_ret, w54_36, g20, e, yntp_d]
    refine ⟨S2, ?_, a2, a4⟩
    split <;> first | rfl | (rw [if_pos rfl]; rfl) | (rw [if_neg (by decide)]; rfl)
theorem ynmS_fr (hu : u = 0 ∨ u = 1) (hz : yFr (yWx u) S0 S) (v : Int64) : ynmS S w v = ynmS S0 w v := by
  have b6 : gB S 6 = gB S0 6 := hz.2.2.2.2.1 6 (by rcases hu with rfl | rfl <;> rfl)
  have b4 : gB S 4 = gB S0 4 := hz.2.2.2.2.1 4 (by rcases hu with rfl | rfl <;> rfl)
  have b5 : gB S 5 = gB S0 5 := hz.2.2.2.2.1 5 (by rcases hu with rfl | rfl <;> rfl)
  have a20 : gA S 20 = gA S0 20 := hz.2.2.2.1 20 (by rcases hu with rfl | rfl <;> rfl)
  have a14 : gA S 14 = gA S0 14 := hz.2.2.2.1 14 (by rcases hu with rfl | rfl <;> rfl)
  have a15 : gA S 15 = gA S0 15 := hz.2.2.2.1 15 (by rcases hu with rfl | rfl <;> rfl)
  have i10 : gI S 10 = gI S0 10 := hz.1 10 (by rcases hu with rfl | rfl <;> rfl)
  have i8 : gI S 8 = gI S0 8 := hz.1 8 (by rcases hu with rfl | rfl <;> rfl)
  have i9 : gI S 9 = gI S0 9 := hz.1 9 (by rcases hu with rfl | rfl <;> rfl)
  unfold ynmS
  rw [b6, b4, b5, a20, a14, a15, i10, i8, i9]
theorem ysw_62 : 0 ≤ yr (yKo 62) ∧ yr (yKo 62) < 67 ∧ yr ((xLf xSm (yr (yKo 62)).toNat).toInt) = 3 := by decide
theorem m53m {base tb t b dp : Nat} {k : yK9} (hu : u = 0 ∨ u = 1) (hT : yTo T N) (hR : yRoom T N Rm Rx s) (hw : w = 0 ∨ w = 1 ∨ w = 2) (h10 : 0 ≤ gI S0 10 ∧ gI S0 10 ≤ 8) (h8 : 0 ≤ gI S0 8 ∧ gI S0 8 ≤ 8) (h9 : 0 ≤ gI S0 9 ∧ gI S0 9 ≤ 8) (h : cM T N u w S (.inr (t, b, k))) (hz : yFr (yWx u) S0 S) (h62 : (T t).1 = 62) (hb : ybs u Rm Rx base tb t b k) : ∃ (S' : yS) (r : Nat), Y q (d + 2) 53 0 [vr 122, vi dp, vu, vu, vu] [] S js = yret q (vi r) S' js ∧ yFr (yWx u) S S' ∧ r ≤ 2 ∧ cM T N u w S' (ymode k tx (ynme T (ynmS S0 w) t b)) ∧ ∀ L X, k = .inr (L, X) → ∀ t' b' x, ynme T (ynmS S0 w) t b = .inr (t', b', .inr x) → r = yty x := by
  obtain ⟨k1, k2, k3⟩ := cM_kd h
  have kj : gJ S 0 = (T t).2.2 := (cM_A h).1.2.2.2.2.2.2.2
  have ht := yTo_t hT k3 (by omega)
  obtain ⟨S1, a1, a2, a3⟩ := mnext (q := q) (d := d + 1) (js := js) hu hT h (fun t' b' k' e => by
    injection e with e
    injection e with e _
    rw [← e]
    omega)
  have hz1 : yFr (yWx u) S0 S1 := yFr_tr hz (yWk_x a2)
  have i10 : gI S1 10 = gI S0 10 := hz1.1 10 (by rcases hu with rfl | rfl <;> rfl)
  have i8 : gI S1 8 = gI S0 8 := hz1.1 8 (by rcases hu with rfl | rfl <;> rfl)
  have i9 : gI S1 9 = gI S0 9 := hz1.1 9 (by rcases hu with rfl | rfl <;> rfl)
  obtain ⟨S2, c1, c2, c3⟩ := m54 (q := q) (d := d) (js := js) (v := (T t).2.2) (pl := (T t).2.1) hu a3 hw (by omega) (by omega) (by omega)
  rw [ynmS_fr hu hz1] at c1 c3
  obtain ⟨w1, w2, w3⟩ := ysw_62
  have e1 : yr 1 = 1 := rfl
  refine ⟨S2, yntp (ynmS S0 w (T t).2.2), ?_, yFr_tr (yWk_x a2) c2, ?_, ?_, ?_⟩
  · rw [w53_0, k1, h62, if_pos (by omega), w318_0, if_pos (by omega), YB_ret, w53_29, if_pos ⟨w1, w2⟩, w3, if_neg (by decide), if_neg (by decide), if_pos rfl, a1, YB_retv, kj, k2, w53_128, c1, YB_ret, w53_134]
  · unfold yntp
    split <;> omega
  · have e : ynmm u (ynx T (.inr (t, b, k))) (ynmS S0 w (T t).2.2) (T t).2.1 = ymode k tx (ynme T (ynmS S0 w) t b) := by
      unfold ynme
      by_cases hb0 : b = 0
      · subst hb0
        match ynmS S0 w (T t).2.2 with
        | none => rfl
        | some x => rfl
      · rw [if_neg hb0, ysn T _ hb0]
        match ynmS S0 w (T t).2.2 with
        | none =>
          match k with
          | .inl e => rfl
          | .inr (L, X) => rfl
        | some (op, i, x) =>
          match k, hb with
          | .inl e, _ => rfl
          | .inr (L, X), hb =>
            obtain ⟨h1, h2, h3, h4⟩ := hb L X rfl
            obtain ⟨s1, s2, hR⟩ := hR
            obtain ⟨R1, R2, R3⟩ := hR t b ht (by omega)
            obtain ⟨R3, R4⟩ := R3 (by omega)
            show yadm u (.inr (t + 1, b - 1, .inr (L, X))) op (ya64 i) = _
            rw [yadm_in (by omega)]
            show _ = (Sum.inr (t + 1, b - 1, Sum.inr (L ++ _, X ++ [])) : yMo)
            rw [List.append_nil]
    rw [← e]
    exact c3
  · intro L X hk t' b' x hx
    unfold ynme at hx
    split at hx
    · nomatch hx
    · have hx := (yinr hx).2.2
      match hn : ynmS S0 w (T t).2.2 with
      | none =>
        rw [hn] at hx
        nomatch hx
      | some (op, i, c) =>
        rw [hn] at hx
        injection hx with hx
        subst hx
        match c with
        | true => rfl
        | false => rfl
theorem ynme_ok {nm : Int64 → Option (Nat × Nat × Bool)} {t b t' b' : Nat} {m : yMn} (hT : yTo T N) (hR : yRoom T N Rm Rx s) (ht : t < N) (h64 : (T t).1 ≤ 64) (h : ynme T nm t b = .inr (t', b', m)) : t' < N ∧ b' ≤ b ∧ Rm t' b' ≤ Rm t b ∧ Rx t ≤ Rx t' ∧ ∀ x, m = .inr x → yWf x ∧ x.2.2.1.length + s + Rm t' b' ≤ Rm t b ∧ ytl tx x.2.2.2.1 + Rx t ≤ Rx t' := by
  unfold ynme at h
  by_cases hb : b = 0
  · rw [if_pos hb] at h
    nomatch h
  · rw [if_neg hb] at h
    refine yleaf_ok hT hR ht h64 hb h fun x hx => ?_
    have R1 := (hR.2.2 t b (yTo_t hT ht h64) h64).1
    split at hx
    · nomatch hx
    · injection hx with hx
      subst hx
      refine ⟨(fun v hv => nomatch hv), Nat.le_refl 1, ?_⟩
      show 0 + Rx t ≤ Rx (t + 1)
      omega
end YNAL
end YNA
