/-! taken from whole by wip/p27/slice2.py: 64.lev.lean.txt -/
section YLV
theorem ykr5 : ∀ kd : Nat, kd < 67 → (yKr kd = 0 → kd = 34) ∧ (yKr kd = 1 → kd = 35) ∧ (kd = 56 → yKr kd = 3 ∨ yKr kd = 2 ∨ yKr kd = 4) ∧ -100 ≤ yKr kd ∧ yKr kd ≤ 100 := by decide
theorem ykr66 : ¬ (0 ≤ yKr 66 ∧ yKr 66 ≤ 4) := by decide
/-- what an operator's result holds -/
theorem ycomb_ok {O : yOp} {base kd pl : Nat} {tx : Nat → Nat → List Int} {x y z : yX} (hx : yWf x) (hy : yWf y) (h : ycomb O base kd pl (.inr x) (.inr y) = .inr z) : yWf z ∧ (kd = 34 ∨ kd = 35 → z.2.2.1.length ≤ x.2.2.1.length + y.2.2.1.length + 5) ∧ (¬ (kd = 34 ∨ kd = 35) → z.2.2.1.length ≤ x.2.2.1.length + y.2.2.1.length + 3) ∧ ytl tx z.2.2.2.1 ≤ ytl tx x.2.2.2.1 + ytl tx y.2.2.2.1 := by
  have hs : ∀ x : yX, (ystr O x).1.length ≤ x.2.2.1.length + 1 := by
    intro x
    unfold ystr
    split
    · exact Nat.le_succ _
    · rw [List.length_append]
      exact Nat.le_refl _
  by_cases h34 : kd = 34
  · subst h34
    have h : (if (x.1 || y.1) = true then (.inl (3, pl) : yMn) else .inr (false, none, x.2.2.1 ++ [(29, ya64 (base + x.2.2.1.length + 3)), (0, 1), (28, ya64 (base + x.2.2.1.length + 3 + y.2.2.1.length + 2))] ++ y.2.2.1 ++ [(18, 0), (18, 0)], x.2.2.2.1 ++ y.2.2.2.1, ydor x.2.2.2.2 y.2.2.2.2)) = .inr z := h
    split at h
    · nomatch h
    · injection h with h
      subst h
      refine ⟨fun v hv => (nomatch hv), fun _ => ?_, fun n => (n (Or.inl rfl)).elim, Nat.le_of_eq (ytl_app _ _ _)⟩
      simp only [List.length_append, List.length_cons, List.length_nil]
      omega
  · by_cases h35 : kd = 35
    · subst h35
      have h : (if (x.1 || y.1) = true then (.inl (3, pl) : yMn) else .inr (false, none, x.2.2.1 ++ [(29, ya64 (base + x.2.2.1.length + 1 + y.2.2.1.length + 3))] ++ y.2.2.1 ++ [(29, ya64 (base + x.2.2.1.length + 1 + y.2.2.1.length + 3)), (0, 1), (28, ya64 (base + x.2.2.1.length + 1 + y.2.2.1.length + 4)), (0, 0)], x.2.2.2.1 ++ y.2.2.2.1, ydand x.2.2.2.2 y.2.2.2.2)) = .inr z := h
      split at h
      · nomatch h
      · injection h with h
        subst h
        refine ⟨fun v hv => (nomatch hv), fun _ => ?_, fun n => (n (Or.inr rfl)).elim, Nat.le_of_eq (ytl_app _ _ _)⟩
        simp only [List.length_append, List.length_cons, List.length_nil]
        omega
    · by_cases h56 : kd = 56
      · subst h56
        have h : (.inr (true, none, (ystr O x).1 ++ (ystr O y).1 ++ [(11, 0)], x.2.2.2.1 ++ y.2.2.2.1, yd2 O 11 (ystr O x).2 (ystr O y).2) : yMn) = .inr z := h
        injection h with h
        subst h
        refine ⟨fun v hv => (nomatch hv), fun n => by omega, fun _ => ?_, Nat.le_of_eq (ytl_app _ _ _)⟩
        have h1 := hs x
        have h2 := hs y
        simp only [List.length_append, List.length_cons, List.length_nil]
        omega
      · rw [ycomb_op h34 h35 h56] at h
        have pl : ∀ f, z = (false, none, x.2.2.1 ++ y.2.2.1 ++ [(yop kd, 0)], x.2.2.2.1 ++ y.2.2.2.1, f) → yWf z ∧ (kd = 34 ∨ kd = 35 → z.2.2.1.length ≤ x.2.2.1.length + y.2.2.1.length + 5) ∧ (¬ (kd = 34 ∨ kd = 35) → z.2.2.1.length ≤ x.2.2.1.length + y.2.2.1.length + 3) ∧ ytl tx z.2.2.2.1 ≤ ytl tx x.2.2.2.1 + ytl tx y.2.2.2.1 := by
          intro f hz
          subst hz
          refine ⟨fun v hv => (nomatch hv), fun n => by omega, fun _ => ?_, Nat.le_of_eq (ytl_app _ _ _)⟩
          simp only [List.length_append, List.length_cons, List.length_nil]
          omega
        generalize (if yKr kd = 2 then x.1 != y.1 else x.1 || y.1) = g at h
        cases g with
        | true => nomatch h
        | false =>
          match hx1 : x.2.1, hy1 : y.2.1 with
          | some a, some c =>
            rw [hx1, hy1] at h
            have h : (if (yop kd = 9 ∨ yop kd = 10) ∧ c = 0 then (.inr (false, none, x.2.2.1 ++ y.2.2.1 ++ [(yop kd, 0)], x.2.2.2.1 ++ y.2.2.2.1, yd2 O (yop kd) x.2.2.2.2 y.2.2.2.2) : yMn) else .inr (ycn (ycal (yop kd) a c))) = .inr z := h
            split at h
            · injection h with h
              exact pl _ h.symm
            · injection h with h
              subst h
              refine ⟨fun v hv => ?_, fun n => by omega, fun _ => ?_, Nat.zero_le _⟩
              · have hv : some (ycal (yop kd) a c) = some v := hv
                injection hv with hv
                subst hv
                exact ⟨rfl, rfl, rfl⟩
              · show 1 ≤ _
                omega
          | none, _ =>
            rw [hx1] at h
            injection h with h
            exact pl _ h.symm
          | some a, none =>
            rw [hx1, hy1] at h
            injection h with h
            exact pl _ h.symm
theorem ylop_s {T : yTk} {O : yOp} {lv : Int} {sub : Nat → Nat → Nat → Nat → yPr} {f base tb t b : Nat} {l : yMn} (h : yKr (T t).1 = lv) : ylop T O lv sub (f + 1) base tb t b l = match yvsp T O sub base tb t b l with
    | .inl p => .inl p
    | .inr (t2, b2, l') => ylop T O lv sub f base tb t2 b2 l' := by
  show (if yKr (T t).1 = lv then _ else _) = _
  rw [if_pos h]
  by_cases hb : b = 0
  · subst hb
    rfl
  · rw [ysp_s hb]
    show (if b = 0 then _ else _) = _
    rw [if_neg hb]
    match sub (yrbs base (T t).1 l) (yrtx tb l) (t + 1) (b - 1) with
    | .inl p => rfl
    | .inr (t2, b2, r) => rfl
/-- how far a mode is from the one before the operator -/
def ymx (t b n : Nat) (k1 : yK9) (m : yMo) : Prop := ∀ t' b' k, m = .inr (t', b', k) → b ≠ 0 ∧ t' = t + 1 ∧ b' = b - 1 ∧ ∀ L X, k = .inr (L, X) → ∃ L1, k1 = .inr (L1, X) ∧ L.length ≤ L1.length + n
theorem ymx_n (T : yTk) (t b : Nat) (k1 : yK9) : ymx t b 0 k1 (ynx T (.inr (t, b, k1))) := by
  intro t' b' k h
  by_cases hb : b = 0
  · subst hb
    nomatch h
  · rw [ysn T _ hb] at h
    injection h with h
    injection h with h1 h
    injection h with h2 h3
    exact ⟨hb, h1.symm, h2.symm, fun L X hk => ⟨L, h3.trans hk, Nat.le_refl _⟩⟩
theorem ymx_a {u t b n : Nat} {k1 : yK9} {m : yMo} (h : ymx t b n k1 m) (op : Nat) (a : Int64) : ymx t b (n + 1) k1 (yadm u m op a) := by
  intro t' b' k hm
  match m, h, hm with
  | .inl p, h, hm => nomatch hm
  | .inr (t1, b1, .inl e), h, hm =>
    obtain ⟨h1, h2, h3, h4⟩ := h t1 b1 (.inl e) rfl
    have hm : (Sum.inr (t1, b1, Sum.inl e) : yMo) = .inr (t', b', k) := hm
    injection hm with hm
    injection hm with e1 hm
    injection hm with e2 e3
    subst e1
    subst e2
    subst e3
    exact ⟨h1, h2, h3, fun L X hk => nomatch hk⟩
  | .inr (t1, b1, .inr (L0, X0)), h, hm =>
    obtain ⟨h1, h2, h3, h4⟩ := h t1 b1 (.inr (L0, X0)) rfl
    obtain ⟨L1, h4, h5⟩ := h4 L0 X0 rfl
    by_cases z : (L0.length : Int) < capu u
    · rw [yadm_in z] at hm
      injection hm with hm
      injection hm with e1 hm
      injection hm with e2 e3
      subst e1
      subst e2
      subst e3
      refine ⟨h1, h2, h3, fun L X hk => ?_⟩
      injection hk with hk
      injection hk with f1 f2
      subst f1
      subst f2
      exact ⟨L1, h4, by rw [List.length_append]; exact Nat.succ_le_succ h5⟩
    · rw [yadm_no z] at hm
      injection hm with hm
      injection hm with e1 hm
      injection hm with e2 e3
      subst e1
      subst e2
      subst e3
      refine ⟨h1, h2, h3, fun L X hk => ?_⟩
      injection hk with hk
      injection hk with f1 f2
      subst f1
      subst f2
      exact ⟨L1, h4, by omega⟩
theorem yset_ln (i : Nat) (L : yCo) : (yset i L).length = L.length := by
  unfold yset
  split
  · rw [List.length_set]
  · rfl
theorem ymx_s {t b n : Nat} {k1 : yK9} {m : yMo} (h : ymx t b n k1 m) (i : Nat) : ymx t b n k1 (ycode m (yset i)) := by
  intro t' b' k hm
  match m, h, hm with
  | .inl p, h, hm => nomatch hm
  | .inr (t1, b1, .inl e), h, hm => exact h t' b' k hm
  | .inr (t1, b1, .inr (L0, X0)), h, hm =>
    obtain ⟨h1, h2, h3, h4⟩ := h t1 b1 (.inr (L0, X0)) rfl
    obtain ⟨L1, h4, h5⟩ := h4 L0 X0 rfl
    have hm : (Sum.inr (t1, b1, Sum.inr (yset i L0, X0)) : yMo) = .inr (t', b', k) := hm
    injection hm with hm
    injection hm with e1 hm
    injection hm with e2 e3
    subst e1
    subst e2
    subst e3
    refine ⟨h1, h2, h3, fun L X hk => ?_⟩
    injection hk with hk
    injection hk with f1 f2
    subst f1
    subst f2
    exact ⟨L1, h4, by rw [yset_ln]; exact h5⟩
section YLVL
variable {q : yQ} {d : Nat} {js : List xO} {S0 S : yS} {T : yTk} {N u : Nat} {w : Int} {Rm : Nat → Nat → Nat} {Rx : Nat → Nat} {s : Nat} {tx : Nat → Nat → List Int} {O : yOp} {P : Nat → Nat → Nat → Nat → yPr}
/-- sizes after one operator -/
theorem yspok {base tb t b t' b' a A B : Nat} {l m : yMn} (hR : yRoom T N Rm Rx s) (hP : yPok N Rm Rx s tx P) (ht : t + 1 < N) (h64 : (T t).1 ≤ 64) (hl : ∀ x, l = .inr x → yWf x ∧ a + x.2.2.1.length + s + Rm t b ≤ A ∧ B + ytl tx x.2.2.2.1 ≤ Rx t) (h : yvsp T O P base tb t b l = .inr (t', b', m)) : t' < N ∧ b' ≤ b ∧ Rm t' b' ≤ Rm t b ∧ Rx t ≤ Rx t' ∧ ∀ z, m = .inr z → yWf z ∧ a + z.2.2.1.length + s + Rm t' b' ≤ A ∧ B + ytl tx z.2.2.2.1 ≤ Rx t' := by
  obtain ⟨s1, s2, hR⟩ := hR
  obtain ⟨R1, R2, R3⟩ := hR t b ht h64
  by_cases hb : b = 0
  · subst hb
    nomatch h
  · obtain ⟨R3, R4⟩ := R3 (by omega)
    rw [ysp_s hb] at h
    match hp : P (yrbs base (T t).1 l) (yrtx tb l) (t + 1) (b - 1) with
    | .inl p =>
      rw [hp] at h
      nomatch h
    | .inr (t2, b2, r) =>
      rw [hp] at h
      obtain ⟨h1, h2, h3⟩ := yinr (m := ycomb O base (T t).1 (T t).2.1 l r) h
      obtain ⟨p1, p2, p3, p4, p5⟩ := hP _ _ _ _ _ _ _ ht hp
      rw [← h1, ← h2]
      refine ⟨p1, by omega, by omega, by omega, fun z hz => ?_⟩
      match l, r, hl, p5 with
      | .inl e, r, _, _ => rw [← h3] at hz; nomatch hz
      | .inr x, .inl e, _, _ => rw [← h3] at hz; nomatch hz
      | .inr x, .inr y, hl, p5 =>
        rw [← h3] at hz
        obtain ⟨l1, l2, l3⟩ := hl x rfl
        obtain ⟨y1, y2, y3⟩ := p5 y rfl
        obtain ⟨c1, c2, c3, c4⟩ := ycomb_ok (tx := tx) l1 y1 hz
        refine ⟨c1, ?_, by omega⟩
        by_cases z : (T t).1 = 34 ∨ (T t).1 = 35
        · have := c2 z
          have := R4 z
          omega
        · have := c3 z
          omega
/-- there is room for the right operand -/
theorem ybx {base tb t b r n : Nat} {k : yK9} {l : yMn} {m : yMo} (hR : yRoom T N Rm Rx s) (hI : yvst u Rm Rx s tx base tb k l t b r) (ht : t + 1 < N) (h64 : (T t).1 ≤ 64) (hn : n ≤ 1 ∨ n ≤ 3 ∧ ((T t).1 = 34 ∨ (T t).1 = 35)) (hm : ymx t b n (ykm k tx l) m) : ∀ t' b' k', m = .inr (t', b', k') → ∃ base tb, ybs u Rm Rx base tb t' b' k' := by
  intro t' b' k' h
  obtain ⟨h1, h2, h3, h4⟩ := hm t' b' k' h
  obtain ⟨s1, s2, hR⟩ := hR
  obtain ⟨R1, R2, R3⟩ := hR t b ht h64
  obtain ⟨R3, R4⟩ := R3 (by omega)
  match k', h4 with
  | .inl e, _ => exact ⟨0, 0, fun L X hk => nomatch hk⟩
  | .inr (L', X'), h4 =>
    obtain ⟨L1, e1, e2⟩ := h4 L' X' rfl
    refine ⟨L'.length, X'.length, fun L X hk => ?_⟩
    injection hk with hk
    injection hk with f1 f2
    subst f1
    subst f2
    subst h2
    subst h3
    match k, l, e1, hI with
    | .inr (L, X), .inr x, e1, hI =>
      injection e1 with e1
      injection e1 with g1 g2
      obtain ⟨b1, b2, b3⟩ := hI L X rfl
      obtain ⟨b3, b4, b5, b6⟩ := b3 x rfl
      have l1 : L1.length = L.length + x.2.2.1.length := by rw [← g1, List.length_append]
      refine ⟨rfl, rfl, ?_, ?_⟩
      · rcases hn with hn | ⟨hn, hk⟩
        · omega
        · have := R4 hk
          omega
      · rw [ysl_all, ← g2, List.map_append, List.sum_append, List.length_append, ytx_len]
        unfold ytl at b5
        omega
/-- one operator of a level, in the loop -/
theorem m52s {base tb t b r i lim rd lv : Nat} {k : yK9} {l : yMn} (hu : u = 0 ∨ u = 1) (hT : yTo T N) (hR : yRoom T N Rm Rx s) (hP : yPok N Rm Rx s tx P) (hI : yvst u Rm Rx s tx base tb k l t b r) (h : cM T N u w S (.inr (t, b, ykm k tx l))) (hz : yFr (yWx u) S0 S) (hlv : yKr (T t).1 = lv) (hl4 : lv ≤ 4) (hr : r ≤ 2) (hi : i < lim) (hlim : lim ≤ 100) (hs : cSub q js S0 T N u w Rm Rx tx (fun S => Y q (d + 1) 52 0 [vr 122, vi ((lv : Int) + 1), vi rd, vu, vu, vu] [] S js) P) : ∃ (S' : yS) (r' : Nat), Y q (d + 3) 52 36 [vr 122, vi lv, vi rd, vi r, vi lim, vi i] [] S js = Y q (d + 3) 52 36 [vr 122, vi lv, vi rd, vi r', vi lim, vi ((i + 1 : Nat) : Int)] [] S' js ∧ yFr (yWx u) S S' ∧ r' ≤ 2 ∧ cM T N u w S' (ymode k tx (yvsp T O P base tb t b l)) ∧ ∀ L X, k = .inr (L, X) → ∀ t' b' x, yvsp T O P base tb t b l = .inr (t', b', .inr x) → r' = yty x := by
  obtain ⟨k1, k2, k3⟩ := cM_kd h
  have h67 := (hT.2.2.2.2 t k3).2
  have h64 := yk64 _ h67 (by omega)
  have ht : t + 1 < N := by
    by_cases z : t + 1 < N
    · exact z
    · have : t = N - 1 := by omega
      have := hT.2.2.1
      subst t
      omega
  have ei : yr (i : Int) = i := yr_eq (by omega) (by omega)
  have em : yr (lim : Int) = lim := yr_eq (by omega) (by omega)
  have el : yr (lv : Int) = lv := yr_eq (by omega) (by omega)
  have e1 : yr 1 = 1 := rfl
  obtain ⟨k5, k6, k7, k8, k9⟩ := ykr5 _ h67
  have ek : yr (yKr (T t).1) = yKr (T t).1 := yr_eq (by omega) (by omega)
  have st : Y q (d + 3) 52 36 [vr 122, vi lv, vi rd, vi r, vi lim, vi i] [] S js = if (lv : Int) = 0 then YB q (Y q (d + 2) 63 0 [vr 122, vi r, vi rd, vu, vu, vu, vu] [] S js) (d + 3) 52 64 [vr 122, vi lv, vi rd, vi r, vi lim, vi i] [] else if (lv : Int) = 1 then YB q (Y q (d + 2) 64 0 [vr 122, vi r, vi rd, vu, vu, vu, vu, vu] [] S js) (d + 3) 52 79 [vr 122, vi lv, vi rd, vi r, vi lim, vi i] [] else YB q (Y q (d + 2) 65 0 [vr 122, vi lv, vi r, vi rd, vu, vu, vu] [] S js) (d + 3) 52 90 [vr 122, vi lv, vi rd, vi r, vi lim, vi i] [] := by
    rw [w52_36, ei, em, if_pos (by omega), k1, if_pos h67, ek, el, if_pos hlv, e1]
  rw [st]
  have hkk : ∀ t' b' k', (Sum.inr (t, b, ykm k tx l) : yMo) = .inr (t', b', k') → (T t').1 ≤ 64 := fun t' b' k' e => by
    injection e with e
    injection e with e _
    rw [← e]
    exact h64
  by_cases l0 : lv = 0
  · subst l0
    rw [if_pos (show ((0 : Nat) : Int) = 0 from rfl)]
    obtain ⟨S', r1, r4, r6, pl, m6, a1, a2, a3, a4, a5, a6, a7⟩ := m63 (q := q) (d := d) (js := js) (x := r) (rd := rd) (P := P) hu hT h hz hkk hr hs (fun r1 _ => ybx hR hI ht h64 (n := 3) (Or.inr ⟨by omega, Or.inl (k5 hlv)⟩) (ymx_s (ymx_a (ymx_a (ymx_a (ymx_n T t b _) 29 0) 0 1) 28 0) r1))
    obtain ⟨g1, g2⟩ := sOr (O := O) hR hP hI ht (k5 hlv) (a4 _ _ _ rfl) a5 a6 a7
    refine ⟨S', 0, ?_, a2, by omega, by rw [← g1]; exact a3, g2⟩
    rw [a1, YB_ret, w52_67]
    rfl
  · rw [if_neg (by omega)]
    by_cases l1 : lv = 1
    · subst l1
      rw [if_pos (show ((1 : Nat) : Int) = 1 from rfl)]
      obtain ⟨S', r1, r3, r5, r6, pl, m6, a1, a2, a3, a4, a5, a6, a7, a8⟩ := m64 (q := q) (d := d) (js := js) (x := r) (rd := rd) (P := P) hu hT h hz hkk hr hs (ybx hR hI ht h64 (n := 1) (Or.inl (by omega)) (ymx_a (ymx_n T t b _) 29 0))
      obtain ⟨g1, g2⟩ := sAnd (O := O) hR hP hI ht (k6 hlv) (a4 _ _ _ rfl) a5 a6 a7 a8
      refine ⟨S', 0, ?_, a2, by omega, by rw [← g1]; exact a3, g2⟩
      rw [a1, YB_ret, w52_82]
      rfl
    · rw [if_neg (by omega)]
      by_cases h56 : (T t).1 = 56
      · obtain ⟨S', r6, m6, a1, a2, a3, a4⟩ := m65a (q := q) (d := d) (js := js) (x := r) (rd := rd) (lv := lv) (P := P) hu hT h hz h56 hr hs (fun t' b' k' => by
          by_cases z : r = 1
          · rw [if_pos z]
            exact ybx hR hI ht h64 (n := 0) (Or.inl (by omega)) (ymx_n T t b _) t' b' k'
          · rw [if_neg z]
            exact ybx hR hI ht h64 (n := 1) (Or.inl (by omega)) (ymx_a (ymx_n T t b _) 23 0) t' b' k')
        obtain ⟨g1, g2⟩ := sCat (O := O) hR hP hI ht h56 a4
        refine ⟨S', 1, ?_, a2, by omega, by rw [← g1]; exact a3, g2⟩
        rw [a1, YB_ret, w52_93]
        rfl
      · obtain ⟨S', rr, r6, m6, m7, m', a1, a2, a3, a4, a5, a6, a7, a8⟩ := m65b (q := q) (d := d) (js := js) (x := r) (rd := rd) (lv := lv) (P := P) hu hT h hz h56 hlv (by omega) hr hs (ybx hR hI ht h64 (n := 0) (Or.inl (by omega)) (ymx_n T t b _))
        obtain ⟨g1, g2⟩ := sOp (O := O) hR hP hI ht h67 hlv (by omega) h56 a5 a6 a7 a8
        refine ⟨S', rr, ?_, a2, a3, by rw [← g1]; exact a4, g2⟩
        rw [a1, YB_ret, w52_93]
        rfl
/-- the loop where nothing is read on -/
theorem m52d {p i lim rd lv r : Nat} (h : cM T N u w S (.inl p)) (hl4 : lv ≤ 4) (hi : i ≤ lim) (hlim : lim ≤ 100) : Y q (d + 1) 52 36 [vr 122, vi lv, vi rd, vi r, vi lim, vi i] [] S js = yret q (vi r) S js := by
  have k1 : gK S 0 = 66 := h.2.2.2.2.1
  have ei : yr (i : Int) = i := yr_eq (by omega) (by omega)
  have em : yr (lim : Int) = lim := yr_eq (by omega) (by omega)
  have el : yr (lv : Int) = lv := yr_eq (by omega) (by omega)
  have ek : yr (yKr 66) = yKr 66 := by decide
  have n66 := ykr66
  rw [w52_36, ei, em, k1]
  split
  · rw [if_pos (by omega), ek, el, if_neg (by omega)]
  · rfl
/-- the loop -/
theorem m52l {lim rd lv : Nat} {k : yK9} (hu : u = 0 ∨ u = 1) (hT : yTo T N) (hR : yRoom T N Rm Rx s) (hP : yPok N Rm Rx s tx P) (hl4 : lv ≤ 4) (hlim : lim ≤ 100) (hs : cSub q js S0 T N u w Rm Rx tx (fun S => Y q (d + 1) 52 0 [vr 122, vi ((lv : Int) + 1), vi rd, vu, vu, vu] [] S js) P) {base tb : Nat} (f : Nat) : ∀ (i t b r : Nat) (l : yMn) (S : yS), i + f = lim → yvst u Rm Rx s tx base tb k l t b r → cM T N u w S (.inr (t, b, ykm k tx l)) → yFr (yWx u) S0 S → r ≤ 2 → ∃ (S' : yS) (r' : Nat), Y q (d + 3) 52 36 [vr 122, vi lv, vi rd, vi r, vi lim, vi i] [] S js = yret q (vi r') S' js ∧ yFr (yWx u) S S' ∧ r' ≤ 2 ∧ cM T N u w S' (ymode k tx (ylop T O lv P f base tb t b l)) ∧ ∀ L X, k = .inr (L, X) → ∀ t' b' x, ylop T O lv P f base tb t b l = .inr (t', b', .inr x) → r' = yty x := by
  induction f with
  | zero =>
    intro i t b r l S hi hI h hz hr
    have ei : yr (i : Int) = i := yr_eq (by omega) (by omega)
    have em : yr (lim : Int) = lim := yr_eq (by omega) (by omega)
    refine ⟨S, r, ?_, yFr_rf _ _, hr, h, fun L X hk t' b' x hx => ?_⟩
    · rw [w52_36, ei, em, if_neg (by omega)]
    · have hx := (yinr (m := l) hx).2.2
      exact ((hI L X hk).2.2 x hx).2.2.2
  | succ f ih =>
    intro i t b r l S hi hI h hz hr
    obtain ⟨k1, k2, k3⟩ := cM_kd h
    have h67 := (hT.2.2.2.2 t k3).2
    by_cases hlv : yKr (T t).1 = lv
    · have h64 := yk64 _ h67 (by omega)
      have ht : t + 1 < N := by
        by_cases z : t + 1 < N
        · exact z
        · have : t = N - 1 := by omega
          have := hT.2.2.1
          subst t
          omega
      obtain ⟨S1, r1, a1, a2, a3, a4, a5⟩ := m52s (q := q) (d := d) (js := js) (O := O) (i := i) (lim := lim) hu hT hR hP hI h hz hlv hl4 hr (by omega) hlim hs
      rw [a1, ylop_s hlv]
      match hv : yvsp T O P base tb t b l with
      | .inl p =>
        rw [hv] at a4
        refine ⟨S1, r1, m52d (d := d + 2) a4 hl4 (by omega) hlim, a2, a3, a4, fun L X hk t' b' x hx => nomatch hx⟩
      | .inr (t2, b2, l') =>
        rw [hv] at a4 a5
        have hI' : yvst u Rm Rx s tx base tb k l' t2 b2 r1 := by
          intro L X hk
          obtain ⟨b1, b2', b3⟩ := hI L X hk
          refine ⟨b1, b2', fun x hx => ?_⟩
          have hc : ((capu u).toNat : Int) = capu u := by rcases hu with rfl | rfl <;> decide
          obtain ⟨z1, z2, z3, z4, z5⟩ := yspok (a := L.length) (A := (capu u).toNat) (B := (X.map List.length).sum + 2 * X.length) hR hP ht h64 (fun x hx => by
            obtain ⟨y1, y2, y3, y4⟩ := b3 x hx
            exact ⟨y1, by omega, y3⟩) hv
          obtain ⟨v5, v6, v7⟩ := z5 x hx
          subst hx
          exact ⟨v5, by omega, v7, a5 L X hk t2 b2 x rfl⟩
        obtain ⟨S2, r2, c1, c2, c3, c4, c5⟩ := ih (i + 1) t2 b2 r1 l' S1 (by omega) hI' a4 (yFr_tr hz a2) a3
        exact ⟨S2, r2, c1, yFr_tr a2 c2, c3, c4, c5⟩
    · have ek : yr (yKr (T t).1) = yKr (T t).1 := by have := (ykr5 _ h67).2.2.2; exact yr_eq (by omega) (by omega)
      have el : yr (lv : Int) = lv := yr_eq (by omega) (by omega)
      have ei : yr (i : Int) = i := yr_eq (by omega) (by omega)
      have em : yr (lim : Int) = lim := yr_eq (by omega) (by omega)
      have e : ylop T O lv P (f + 1) base tb t b l = .inr (t, b, l) := by
        show (if yKr (T t).1 = lv then _ else _) = _
        rw [if_neg hlv]
      rw [e]
      refine ⟨S, r, ?_, yFr_rf _ _, hr, h, fun L X hk t' b' x hx => ?_⟩
      · rw [w52_36, ei, em, if_pos (by omega), k1, if_pos h67, ek, el, if_neg hlv]
      · have hx := (yinr (m := l) hx).2.2
        exact ((hI L X hk).2.2 x hx).2.2.2
end YLVL
end YLV
