/-! THE REFERENCE: relations, sums, products -/
section YRA
def ycmp (a c : Int64) : Int := if a < c then -1 else if a = c then 0 else 1
theorem ykop2 : ∀ kd : Nat, kd < 67 → (yKr kd = 2 ↔ kd = 50 ∨ kd = 61 ∨ kd = 57 ∨ kd = 58 ∨ kd = 59 ∨ kd = 60) ∧ (yKr kd = 3 ↔ kd = 51 ∨ kd = 52 ∨ kd = 56) ∧ (yKr kd = 4 ↔ kd = 53 ∨ kd = 54 ∨ kd = 55) := by decide
theorem yop_v : yop 50 = 12 ∧ yop 61 = 13 ∧ yop 57 = 14 ∧ yop 58 = 15 ∧ yop 59 = 16 ∧ yop 60 = 17 ∧ yop 51 = 6 ∧ yop 52 = 7 ∧ yop 53 = 8 ∧ yop 54 = 9 ∧ yop 55 = 10 := by decide
/-- how a known number stands in locals -/
def rLo (x2 : Int) (x3 : Int64) (o : Option Int64) : Prop := match o with
  | none => x2 = 0
  | some v => x2 = 1 ∧ x3 = v
theorem rP_lo {S : yS} {o : Option Int64} (h : rP S o) : rLo (gI S 49) (gJ S 1) o := by
  match o, h with
  | none, h => exact h
  | some v, h => exact h
section YRAL
variable {q : yQ} {d : Nat} {js : List xO} {S0 S S5 : yS} {T : yTk} {N u : Nat} {sc : Int} {Rm : Nat → Nat → Nat} {Rx : Nat → Nat} {s dp t b : Nat} {tx : Nat → Nat → List Int} {O : yOp} {P : Nat → Nat → Nat → Nat → yPr} {k k' k5 : yRk}
theorem r241 {wh : Nat} {a c : Int64} (hw : wh ≤ 4) (hc : wh ≤ 2 ∨ c ≠ 0) : Y q d 241 0 [vi wh, vj a, vu, vj c, vu] [] S js = yret q (vj (ycal ((6 + wh : Nat) : Int) a c)) S js := by
  rw [w241_0]
  have e : wh = 0 ∨ wh = 1 ∨ wh = 2 ∨ wh = 3 ∨ wh = 4 := by omega
  rcases e with rfl | rfl | rfl | rfl | rfl
  · rfl
  · rfl
  · rfl
  · have hc : c ≠ 0 := hc.resolve_left (by omega)
    rw [if_neg (by decide), if_neg (by decide), if_neg (by decide), if_pos (by decide), if_neg hc]
    have : ycal ((6 + 3 : Nat) : Int) a c = if c = 0 then 0 else a / c := rfl
    rw [this, if_neg hc]
  · have hc : c ≠ 0 := hc.resolve_left (by omega)
    rw [if_neg (by decide), if_neg (by decide), if_neg (by decide), if_neg (by decide), if_neg hc]
    have : ycal ((6 + 4 : Nat) : Int) a c = if c = 0 then 0 else ylrem a c := rfl
    rw [this, if_neg hc]
theorem r319 (a c : Int64) : Y q d 319 0 [vj a, vu, vj c, vu] [] S js = yret q (vi (ycmp a c)) S js := by
  rw [w319_0]
  simp only [yr_lcmp, ylcmp_lt, ylcmp_eq]
  unfold ycmp
  repeat' split
  all_goals rfl
theorem r242 {wh : Nat} (a c : Int64) (hw : wh ≤ 5) : Y q d 242 0 [vi wh, vi (ycmp a c)] [] S js = yret q (vi (if ycal ((12 + wh : Nat) : Int) a c = 0 then 0 else 1)) S js := by
  rw [w242_0]
  simp only [yz0, yz1, if_true]
  have hlt : ∀ h : a < c, ¬ c < a ∧ ¬ a = c := fun h => ⟨fun h2 => by have := Int64.lt_iff_toInt_lt.mp h; have := Int64.lt_iff_toInt_lt.mp h2; omega, fun h2 => by subst h2; have := Int64.lt_iff_toInt_lt.mp h; omega⟩
  have hge : ¬ a < c → ¬ a = c → c < a := fun h1 h2 => by
    have h3 : ¬ a.toInt < c.toInt := fun z => h1 (Int64.lt_iff_toInt_lt.mpr z)
    have h4 : ¬ a.toInt = c.toInt := fun z => h2 (Int64.toInt_inj.mp z)
    exact Int64.lt_iff_toInt_lt.mpr (by omega)
  have heq : a = c → ¬ c < a := fun h h2 => by subst h; have := Int64.lt_iff_toInt_lt.mp h2; omega
  have n10 : ¬ (1 : Int64) = 0 := by decide
  have y1 : yr (-1) = -1 := rfl
  have y0 : yr 0 = 0 := rfl
  have y2 : yr 1 = 1 := rfl
  have e : wh = 0 ∨ wh = 1 ∨ wh = 2 ∨ wh = 3 ∨ wh = 4 ∨ wh = 5 := by omega
  unfold ycmp
  rcases e with rfl | rfl | rfl | rfl | rfl | rfl
  · have ec : ycal ((12 + 0 : Nat) : Int) a c = if a = c then 1 else 0 := rfl
    rw [ec, if_pos (by decide)]
    by_cases h1 : a < c
    · rw [if_pos h1, if_neg (by decide), if_neg (hlt h1).2, if_pos rfl]
    · rw [if_neg h1]
      by_cases h2 : a = c
      · rw [if_pos h2, if_pos (by decide), if_pos h2, if_neg n10]
      · rw [if_neg h2, if_neg (by decide), if_neg h2, if_pos rfl]
  · have ec : ycal ((12 + 1 : Nat) : Int) a c = if a = c then 0 else 1 := rfl
    rw [ec, if_neg (by decide), if_pos (by decide)]
    by_cases h1 : a < c
    · rw [if_pos h1, if_neg (by decide), if_neg (hlt h1).2, if_neg n10]
    · rw [if_neg h1]
      by_cases h2 : a = c
      · rw [if_pos h2, if_pos (by decide), if_pos h2, if_pos rfl]
      · rw [if_neg h2, if_neg (by decide), if_neg h2, if_neg n10]
  · have ec : ycal ((12 + 2 : Nat) : Int) a c = if a < c then 1 else 0 := rfl
    rw [ec, if_neg (by decide), if_neg (by decide), if_pos (by decide)]
    by_cases h1 : a < c
    · rw [if_pos h1, if_pos (by decide), if_pos h1, if_neg n10]
    · rw [if_neg h1, if_neg h1, if_pos rfl]
      by_cases h2 : a = c
      · rw [if_pos h2, if_neg (by decide)]
      · rw [if_neg h2, if_neg (by decide)]
  · have ec : ycal ((12 + 3 : Nat) : Int) a c = if c < a then 1 else 0 := rfl
    rw [ec, if_neg (by decide), if_neg (by decide), if_neg (by decide), if_pos (by decide)]
    by_cases h1 : a < c
    · rw [if_pos h1, if_neg (by decide), if_neg (hlt h1).1, if_pos rfl]
    · rw [if_neg h1]
      by_cases h2 : a = c
      · rw [if_pos h2, if_neg (by decide), if_neg (heq h2), if_pos rfl]
      · rw [if_neg h2, if_pos (by decide), if_pos (hge h1 h2), if_neg n10]
  · have ec : ycal ((12 + 4 : Nat) : Int) a c = if c < a then 0 else 1 := rfl
    rw [ec, if_neg (by decide), if_neg (by decide), if_neg (by decide), if_neg (by decide), if_pos (by decide)]
    by_cases h1 : a < c
    · rw [if_pos h1, if_neg (by decide), if_neg (hlt h1).1, if_neg n10]
    · rw [if_neg h1]
      by_cases h2 : a = c
      · rw [if_pos h2, if_neg (by decide), if_neg (heq h2), if_neg n10]
      · rw [if_neg h2, if_pos (by decide), if_pos (hge h1 h2), if_pos rfl]
  · have ec : ycal ((12 + 5 : Nat) : Int) a c = if a < c then 0 else 1 := rfl
    rw [ec, if_neg (by decide), if_neg (by decide), if_neg (by decide), if_neg (by decide), if_neg (by decide)]
    by_cases h1 : a < c
    · rw [if_pos h1, if_pos (by decide), if_pos h1, if_pos rfl]
    · rw [if_neg h1, if_neg h1, if_neg n10]
      by_cases h2 : a = c
      · rw [if_pos h2, if_neg (by decide)]
      · rw [if_neg h2, if_neg (by decide)]
theorem ycal_01 {wh : Nat} (a c : Int64) (hw : wh ≤ 5) : ycal ((12 + wh : Nat) : Int) a c = 0 ∨ ycal ((12 + wh : Nat) : Int) a c = 1 := by
  have e : wh = 0 ∨ wh = 1 ∨ wh = 2 ∨ wh = 3 ∨ wh = 4 ∨ wh = 5 := by omega
  rcases e with rfl | rfl | rfl | rfl | rfl | rfl
  · show (if a = c then (1 : Int64) else 0) = 0 ∨ (if a = c then (1 : Int64) else 0) = 1
    split; exact Or.inr rfl; exact Or.inl rfl
  · show (if a = c then (0 : Int64) else 1) = 0 ∨ (if a = c then (0 : Int64) else 1) = 1
    split; exact Or.inl rfl; exact Or.inr rfl
  · show (if a < c then (1 : Int64) else 0) = 0 ∨ (if a < c then (1 : Int64) else 0) = 1
    split; exact Or.inr rfl; exact Or.inl rfl
  · show (if c < a then (1 : Int64) else 0) = 0 ∨ (if c < a then (1 : Int64) else 0) = 1
    split; exact Or.inr rfl; exact Or.inl rfl
  · show (if c < a then (0 : Int64) else 1) = 0 ∨ (if c < a then (0 : Int64) else 1) = 1
    split; exact Or.inl rfl; exact Or.inr rfl
  · show (if a < c then (0 : Int64) else 1) = 0 ∨ (if a < c then (0 : Int64) else 1) = 1
    split; exact Or.inl rfl; exact Or.inr rfl
/-- an operator on two operands that fit: what it emits, in the second pass -/
theorem ycomb_nn {base kd pl : Nat} {x y : yX} (h34 : kd ≠ 34) (h35 : kd ≠ 35) (h56 : kd ≠ 56) (hg : (if yKr kd = 2 then x.1 != y.1 else x.1 || y.1) = false) : ycomb O base kd pl (.inr x) (.inr y) = match x.2.1, y.2.1 with
      | some a, some b => if (yop kd = 9 ∨ yop kd = 10) ∧ b = 0 then .inr (false, none, x.2.2.1 ++ y.2.2.1 ++ [(yop kd, 0)], x.2.2.2.1 ++ y.2.2.2.1, yd2 O (yop kd) x.2.2.2.2 y.2.2.2.2) else .inr (ycn (ycal (yop kd) a b))
      | _, _ => .inr (false, none, x.2.2.1 ++ y.2.2.1 ++ [(yop kd, 0)], x.2.2.2.1 ++ y.2.2.2.1, yd2 O (yop kd) x.2.2.2.2 y.2.2.2.2) := by
  rw [ycomb_op h34 h35 h56, hg]
  rfl
/-- emitting an operator -/
theorem rm_op {L : yCo} {X : List (Nat × Nat)} {x y : yX} {op : Nat} (hu : u = 0 ∨ u = 1) (hl : L.length + x.2.2.1.length + y.2.2.1.length ≤ 4000) (h : rM T N u sc S t b dp (some ((L ++ x.2.2.1 ++ []) ++ y.2.2.1, (X ++ x.2.2.2.1) ++ y.2.2.2.1))) : ∃ (S' : yS) (r : Nat), Y q d 234 0 [vr 129, vi op, vj 0, vu] [] S js = yret q (vi r) S' js ∧ yFr (yWv u) S S' ∧ rM T N u sc S' t b dp (some (L ++ (x.2.2.1 ++ y.2.2.1 ++ [(op, 0)]), X ++ (x.2.2.2.1 ++ y.2.2.2.1))) := by
  obtain ⟨S', r, a1, a2, a3, _, _, _⟩ := rm_emit (q := q) (d := d) (js := js) hu h (fun L' X' e => by
    injection e with e
    injection e with e1 e2
    rw [← e1]
    simp only [List.length_append, List.length_nil]
    omega) op 0
  refine ⟨S', r, a1, a2, ?_⟩
  have e : rkad (some ((L ++ x.2.2.1 ++ []) ++ y.2.2.1, (X ++ x.2.2.2.1) ++ y.2.2.2.1)) op 0 = some (L ++ (x.2.2.1 ++ y.2.2.1 ++ [(op, 0)]), X ++ (x.2.2.2.1 ++ y.2.2.2.1)) := by
    show some (((L ++ x.2.2.1 ++ []) ++ y.2.2.1) ++ [(op, 0)], _) = _
    rw [List.append_nil]
    simp only [List.append_assoc]
  rw [e] at a3
  exact a3
/-- a known number in the place of two -/
theorem rm_kn {L : yCo} {X : List (Nat × Nat)} {x y : yX} {v : Int64} (hu : u = 0 ∨ u = 1) (hl : L.length + x.2.2.1.length + y.2.2.1.length ≤ 4000) (hx : x.2.2.2.1 = []) (hy : y.2.2.2.1 = []) (h : rM T N u sc S t b dp (some ((L ++ x.2.2.1 ++ []) ++ y.2.2.1, (X ++ x.2.2.2.1) ++ y.2.2.2.1))) : ∃ S' : yS, Y q (d + 1) 233 0 [vr 129, vi (L.length : Nat), vj v, vu] [] S js = yretv q S' js ∧ yFr (yWv u) S S' ∧ rM T N u sc S' t b dp (some (L ++ [(0, v)], X ++ [])) ∧ rP S' (some v) := by
  obtain ⟨S', a1, a2, a3, a4⟩ := rm_plain (q := q) (d := d) (js := js) (n := L.length) (st := (L.length : Nat)) (v := v) hu h (fun L' X' e => by
    injection e with e
    injection e with e1 e2
    rw [← e1]
    simp only [List.length_append, List.length_nil]
    exact ⟨trivial, by omega, by omega⟩)
  refine ⟨S', a1, a2, ?_, a4⟩
  have e : rkcd (some ((L ++ x.2.2.1 ++ []) ++ y.2.2.1, (X ++ x.2.2.2.1) ++ y.2.2.2.1)) (fun L' => L'.take L.length ++ [(0, v)]) = some (L ++ [(0, v)], X ++ []) := by
    show some (((L ++ x.2.2.1 ++ []) ++ y.2.2.1).take L.length ++ [(0, v)], _) = _
    rw [hx, hy, List.append_nil, List.append_nil, List.append_nil, List.append_assoc, List.take_append_of_le_length (Nat.le_refl _), List.take_length]
  rw [e] at a3
  exact a3
/-- reckoning: the first pass -/
theorem r240n {wh : Nat} {st x2 : Int} {x3 : Int64} (hu : u = 0 ∨ u = 1) (hw : wh ≤ 4) (h : rM T N u sc S t b dp none) : ∃ S' : yS, Y q (d + 2) 240 0 [vr 129, vi st, vi wh, vi x2, vj x3, vu] [] S js = yretv q S' js ∧ yFr (yWv u) S S' ∧ rM T N u sc S' t b dp none := by
  have emit : ∃ S' : yS, YB q (Y q (d + 1) 234 0 [vr 129, vi (6 + (wh : Int)), vj 0, vu] [] S js) (d + 2) 240 49 [vr 129, vi st, vi wh, vi x2, vj x3, vu] [] = yretv q S' js ∧ yFr (yWv u) S S' ∧ rM T N u sc S' t b dp none := by
    obtain ⟨S1, r1, a1, a2, a3, _, _, _⟩ := rm_emit (q := q) (d := d + 1) (js := js) hu h (fun L X e => nomatch e) (6 + wh) 0
    have a1 : Y q (d + 1) 234 0 [vr 129, vi (6 + (wh : Int)), vj 0, vu] [] S js = yret q (vi r1) S1 js := a1
    obtain ⟨b1, b2, b3⟩ := rm_no a3 hu
    exact ⟨_, by rw [a1, YB_ret, w240_52], yFr_tr a2 b1, b2⟩
  have known : (wh ≤ 2 ∨ gJ S 1 ≠ 0) → ∃ S' : yS, YB q (Y q (d + 1) 241 0 [vi wh, vj x3, vu, vj (gJ S 1), vu] [] S js) (d + 2) 240 34 [vr 129, vi st, vi wh, vi x2, vj x3, vu] [vi st, vr 129] = yretv q S' js ∧ yFr (yWv u) S S' ∧ rM T N u sc S' t b dp none := by
    intro hc
    obtain ⟨S1, a1, a2, a3, a4⟩ := rm_plain (q := q) (d := d) (js := js) (n := 0) (st := st) (v := ycal ((6 + wh : Nat) : Int) x3 (gJ S 1)) hu h (fun L X e => nomatch e)
    exact ⟨S1, by rw [r241 hw hc, YB_ret, w240_37, a1, YB_retv, w240_40], a2, a3⟩
  have e2 : yr 2 = 2 := rfl
  have ew : yr (wh : Int) = wh := yr_eq (by omega) (by omega)
  rw [w240_0]
  split
  · exact emit
  · split
    · exact emit
    · rw [e2, ew]
      split
      · split
        · exact emit
        · rename_i z
          rw [yr_lcmp, ylcmp_eq] at z
          exact known (Or.inr z)
      · exact known (Or.inl (by omega))
/-- reckoning: the second pass -/
theorem r240s {L : yCo} {X : List (Nat × Nat)} {base kd pl : Nat} {x y : yX} {x2 : Int} {x3 : Int64} (hu : u = 0 ∨ u = 1) (hk : kd = 51 ∨ kd = 52 ∨ kd = 53 ∨ kd = 54 ∨ kd = 55) (hx1 : x.1 = false) (hy1 : y.1 = false) (hwx : yWf x) (hwy : yWf y) (hl : L.length + x.2.2.1.length + y.2.2.1.length ≤ 4000) (h : rM T N u sc S t b dp (some ((L ++ x.2.2.1 ++ []) ++ y.2.2.1, (X ++ x.2.2.2.1) ++ y.2.2.2.1))) (hp : rP S y.2.1) (ho : rLo x2 x3 x.2.1) : ∃ (S' : yS) (z : yX), ycomb O base kd pl (.inr x) (.inr y) = .inr z ∧ z.1 = false ∧ Y q (d + 2) 240 0 [vr 129, vi (L.length : Nat), vi ((kd - 51 : Nat) : Int), vi x2, vj x3, vu] [] S js = yretv q S' js ∧ yFr (yWv u) S S' ∧ rM T N u sc S' t b dp (some (L ++ z.2.2.1, X ++ z.2.2.2.1)) ∧ rP S' z.2.1 := by
  have hop : yop kd = 6 + (kd - 51) := by
    have := yop_v
    rcases hk with rfl | rfl | rfl | rfl | rfl <;> omega
  have hkr : ¬ yKr kd = 2 := by rcases hk with rfl | rfl | rfl | rfl | rfl <;> decide
  have hcomb := ycomb_nn (O := O) (base := base) (kd := kd) (pl := pl) (x := x) (y := y) (by omega) (by omega) (by omega) (by rw [if_neg hkr, hx1, hy1]; rfl)
  obtain ⟨wh, hwh⟩ : ∃ wh, wh = kd - 51 := ⟨_, rfl⟩
  rw [← hwh] at hop ⊢
  have e2 : yr 2 = 2 := rfl
  have ew : yr (wh : Int) = wh := yr_eq (by omega) (by omega)
  have emit : ∃ S' : yS, YB q (Y q (d + 1) 234 0 [vr 129, vi (6 + (wh : Int)), vj 0, vu] [] S js) (d + 2) 240 49 [vr 129, vi (L.length : Nat), vi wh, vi x2, vj x3, vu] [] = yretv q S' js ∧ yFr (yWv u) S S' ∧ rM T N u sc S' t b dp (some (L ++ (x.2.2.1 ++ y.2.2.1 ++ [(yop kd, 0)]), X ++ (x.2.2.2.1 ++ y.2.2.2.1))) ∧ rP S' none := by
    obtain ⟨S1, r1, a1, a2, a3⟩ := rm_op (q := q) (d := d + 1) (js := js) (op := yop kd) hu hl h
    have a1 : Y q (d + 1) 234 0 [vr 129, vi (6 + (wh : Int)), vj 0, vu] [] S js = yret q (vi r1) S1 js := by rw [hop] at a1; exact a1
    obtain ⟨b1, b2, b3⟩ := rm_no a3 hu
    exact ⟨_, by rw [a1, YB_ret, w240_52], yFr_tr a2 b1, b2, b3⟩
  rw [w240_0]
  match hxo : x.2.1, ho with
  | none, ho =>
    have ho : x2 = 0 := ho
    rw [hxo] at hcomb
    obtain ⟨S', c1, c2, c3, c4⟩ := emit
    refine ⟨S', _, hcomb, rfl, ?_, c2, c3, c4⟩
    rw [ho, if_pos yr_0]
    rw [ho] at c1
    exact c1
  | some a, ho =>
    obtain ⟨ho1, ho2⟩ := ho
    rw [ho1, if_neg (by decide)]
    match hyo : y.2.1, hp with
    | none, hp =>
      have hp : gI S 49 = 0 := hp
      rw [hxo, hyo] at hcomb
      obtain ⟨S', c1, c2, c3, c4⟩ := emit
      refine ⟨S', _, hcomb, rfl, ?_, c2, c3, c4⟩
      rw [hp, if_pos yr_0]
      rw [ho1] at c1
      exact c1
    | some c, hp =>
      obtain ⟨hp1, hp2⟩ := hp
      rw [hxo, hyo] at hcomb
      have hcomb : ycomb O base kd pl (.inr x) (.inr y) = if (yop kd = 9 ∨ yop kd = 10) ∧ c = 0 then .inr (false, none, x.2.2.1 ++ y.2.2.1 ++ [(yop kd, 0)], x.2.2.2.1 ++ y.2.2.2.1, yd2 O (yop kd) x.2.2.2.2 y.2.2.2.2) else .inr (ycn (ycal (yop kd) a c)) := hcomb
      rw [hp1, if_neg (by decide), e2, ew, hp2, ho2]
      simp only [yr_lcmp, ylcmp_eq]
      have known : (wh ≤ 2 ∨ c ≠ 0) → ∃ S' : yS, YB q (Y q (d + 1) 241 0 [vi wh, vj a, vu, vj c, vu] [] S js) (d + 2) 240 34 [vr 129, vi (L.length : Nat), vi wh, vi 1, vj a, vu] [vi (L.length : Nat), vr 129] = yretv q S' js ∧ yFr (yWv u) S S' ∧ rM T N u sc S' t b dp (some (L ++ [(0, ycal (yop kd) a c)], X ++ [])) ∧ rP S' (some (ycal (yop kd) a c)) := by
        intro hc
        obtain ⟨S1, a1, a2, a3, a4⟩ := rm_kn (q := q) (d := d) (js := js) (v := ycal (yop kd) a c) hu hl (hwx a hxo).2.2 (hwy c hyo).2.2 h
        refine ⟨S1, ?_, a2, a3, a4⟩
        rw [r241 (by omega) hc, YB_ret, w240_37, ← hop, a1, YB_retv, w240_40]
      by_cases hz : (yop kd = 9 ∨ yop kd = 10) ∧ c = 0
      · rw [if_pos hz] at hcomb
        obtain ⟨S', c1, c2, c3, c4⟩ := emit
        refine ⟨S', _, hcomb, rfl, ?_, c2, c3, c4⟩
        rw [if_pos (by omega), if_pos hz.2]
        rw [ho1, ho2] at c1
        exact c1
      · rw [if_neg hz] at hcomb
        obtain ⟨S', c1, c2, c3, c4⟩ := known (by
          by_cases z : c = 0
          · exact Or.inl (by have : ¬ (yop kd = 9 ∨ yop kd = 10) := fun v => hz ⟨v, z⟩; omega)
          · exact Or.inr z)
        refine ⟨S', _, hcomb, rfl, ?_, c2, c3, c4⟩
        by_cases z2 : (2 : Int) < wh
        · rw [if_pos z2, if_neg (fun z => hz ⟨by omega, z⟩)]
          exact c1
        · rw [if_neg z2]
          exact c1
end YRAL
end YRA
