/-! WHAT CODE COMES TO, for any machine that does one instruction after the other -/
section YMC
/-- how two texts are ordered -/
def ycmT : List Int → List Int → Int
  | a :: l, b :: r => if a = b then ycmT l r else a - b
  | l, r => (l.length : Int) - r.length
/-- digits, from the highest on -/
def ydgs : Nat → Nat → List Int → List Int
  | 0, _, acc => acc
  | f + 1, n, acc => if n < 10 then (48 + (n : Int)) :: acc else ydgs f (n / 10) ((48 + ((n % 10 : Nat) : Int)) :: acc)
def ydgt (n : Int64) : List Int := (if n.toInt < 0 then [45] else []) ++ ydgs 30 n.toInt.natAbs []
def ymny (n : Int64) : List Int := (if n.toInt < 0 then [45] else []) ++ ydgs 30 (n.toInt.natAbs / 100) [] ++ [46, 48 + ((n.toInt.natAbs % 100 / 10 : Nat) : Int), 48 + ((n.toInt.natAbs % 10 : Nat) : Int)]
def yupp (l : List Int) : List Int := l.map fun c => if 97 ≤ c ∧ c ≤ 122 then c - 32 else c
def yprt (l : List Int) (f n : Int64) : List Int := if f.toInt < 0 ∨ n.toInt < 0 then [] else (l.drop f.toInt.toNat).take n.toInt.toNat
def yO1 (op : Nat) (a : yVal) : yVal := match a with
  | .inl n => if op = 23 then .inr (ydgt n) else if op = 24 then .inr (ymny n) else .inl (ycal op n n)
  | .inr l => if op = 20 then .inl (yi2l l.length) else .inr (yupp l)
def yO2 (op : Nat) (a b : yVal) : Option yVal := match a, b with
  | .inl m, .inl n => if (op = 9 ∨ op = 10) ∧ n = 0 then none else some (.inl (ycal op m n))
  | .inr l, .inr r => if op = 11 then some (.inr ((l ++ r).take 60)) else some (.inl (ycal op (yi2l (ycmT l r)) 0))
  | _, _ => some (.inl 0)
def yO3 (a b c : yVal) : yVal := match a, b, c with
  | .inr l, .inl m, .inl n => .inr (yprt l m n)
  | _, _, _ => .inl 0
def yOO : yOp := fun op l => match l with
  | [a] => some (yO1 op a)
  | [a, b] => yO2 op a b
  | [a, b, c] => some (yO3 a b c)
  | _ => some (.inl 0)
theorem ydgs_len : ∀ (f n : Nat) (acc : List Int), (ydgs f n acc).length ≤ f + acc.length
  | 0, n, acc => by show acc.length ≤ 0 + acc.length; omega
  | f + 1, n, acc => by
    unfold ydgs
    split
    · rw [List.length_cons]; omega
    · have := ydgs_len f (n / 10) ((48 + ((n % 10 : Nat) : Int)) :: acc)
      rw [List.length_cons] at this
      omega
theorem ydgt_le (n : Int64) : (ydgt n).length ≤ 60 := by
  have := ydgs_len 30 n.toInt.natAbs []
  have e : ([] : List Int).length = 0 := rfl
  unfold ydgt
  rw [List.length_append]
  split
  · show 1 + _ ≤ 60
    omega
  · show 0 + _ ≤ 60
    omega
theorem ymny_le (n : Int64) : (ymny n).length ≤ 60 := by
  have := ydgs_len 30 (n.toInt.natAbs / 100) []
  have e : ([] : List Int).length = 0 := rfl
  unfold ymny
  rw [List.length_append, List.length_append]
  split
  · show 1 + _ + 3 ≤ 60
    omega
  · show 0 + _ + 3 ≤ 60
    omega
/-- a value of a type -/
def yvt (v : yVal) (x : Bool) : Prop := match v with
  | .inl _ => x = false
  | .inr l => x = true ∧ l.length ≤ 60
def yft1 (op : Nat) (a : yVal) : Prop := match a with
  | .inl _ => op = 18 ∨ op = 19 ∨ op = 23 ∨ op = 24 ∨ op = 25
  | .inr l => (op = 20 ∨ op = 21) ∧ l.length ≤ 60
def yft2 (op : Nat) (a b : yVal) : Prop := match a, b with
  | .inl _, .inl _ => (6 ≤ op ∧ op ≤ 10) ∨ (12 ≤ op ∧ op ≤ 17) ∨ op = 26 ∨ op = 27
  | .inr l, .inr r => 11 ≤ op ∧ op ≤ 17 ∧ l.length ≤ 60 ∧ r.length ≤ 60
  | _, _ => False
abbrev ySt : Type := Nat × List yVal
/-- a machine: what it does of one instruction each -/
def yMach (C : yCo) (X : List (Nat × Nat)) (tx : Nat → Nat → List Int) (Tk : Nat → Nat → Prop) (e : yEnv) (A : Nat → Nat → Prop) (R : ySt → ySt → Prop) (E : ySt → Prop) : Prop := (∀ a, R a a) ∧ (∀ a b c, R a b → R b c → R a c) ∧ (∀ a b, R a b → E b → E a) ∧ (∀ pc st v, C[pc]? = some (0, v) → st.length ≤ 61 → R (pc, st) (pc + 1, st ++ [.inl v])) ∧ (∀ pc st k p, C[pc]? = some (1, ya64 k) → X[k]? = some p → Tk p.1 p.2 → st.length ≤ 61 → R (pc, st) (pc + 1, st ++ [.inr (tx p.1 p.2)])) ∧ (∀ pc st op k, C[pc]? = some (op, ya64 k) → 2 ≤ op → op ≤ 5 → k < 8 → 8 * op + k < 43 → A op k → st.length ≤ 61 → R (pc, st) (pc + 1, st ++ [e op k])) ∧ (∀ pc st a, C[pc]? = some (28, ya64 a) → pc < a → a ≤ C.length → st.length ≤ 61 → R (pc, st) (a, st)) ∧ (∀ pc st n a, C[pc]? = some (29, ya64 a) → pc < a → a ≤ C.length → st.length ≤ 61 → R (pc, st ++ [.inl n]) (if n = 0 then a else pc + 1, st)) ∧ (∀ pc st op z v, C[pc]? = some (op, z) → st.length ≤ 61 → yft1 op v → R (pc, st ++ [v]) (pc + 1, st ++ [yO1 op v])) ∧ (∀ pc st op z v w, C[pc]? = some (op, z) → st.length ≤ 60 → yft2 op v w → match yO2 op v w with
    | some r => R (pc, st ++ [v, w]) (pc + 1, st ++ [r])
    | none => E (pc, st ++ [v, w])) ∧ (∀ pc st z l m n, C[pc]? = some (22, z) → st.length ≤ 59 → l.length ≤ 60 → R (pc, st ++ [.inr l, .inl m, .inl n]) (pc + 1, st ++ [.inr (yprt l m n)]))
def yEmb (C : yCo) (base : Nat) (seg : yCo) : Prop := ∀ (j : Nat) (i : Nat × Int64), seg[j]? = some i → C[base + j]? = some i
def yEmX (X : List (Nat × Nat)) (_ : Nat → Nat → List Int) (tb : Nat) (txs : List (Nat × Nat)) : Prop := ∀ (j : Nat) (p : Nat × Nat), txs[j]? = some p → X[tb + j]? = some p
theorem yEmb_app {C : yCo} {base : Nat} {a b : yCo} (h : yEmb C base (a ++ b)) : yEmb C base a ∧ yEmb C (base + a.length) b := by
  refine ⟨fun j i hj => h j i ?_, fun j i hj => ?_⟩
  · rw [List.getElem?_append_left (List.getElem?_eq_some_iff.mp hj).1]
    exact hj
  · have := h (a.length + j) i (by rw [List.getElem?_append_right (by omega)]; rw [show a.length + j - a.length = j by omega]; exact hj)
    rw [← Nat.add_assoc] at this
    exact this
theorem yEmX_app {X : List (Nat × Nat)} {tx : Nat → Nat → List Int} {tb : Nat} {a b : List (Nat × Nat)} (h : yEmX X tx tb (a ++ b)) : yEmX X tx tb a ∧ yEmX X tx (tb + a.length) b := by
  refine ⟨fun j i hj => h j i ?_, fun j i hj => ?_⟩
  · rw [List.getElem?_append_left (List.getElem?_eq_some_iff.mp hj).1]
    exact hj
  · have := h (a.length + j) i (by rw [List.getElem?_append_right (by omega)]; rw [show a.length + j - a.length = j by omega]; exact hj)
    rw [← Nat.add_assoc] at this
    exact this
theorem yEmb_1 {C : yCo} {base : Nat} {i : Nat × Int64} {r : yCo} (h : yEmb C base (i :: r)) : C[base]? = some i ∧ yEmb C (base + 1) r := by
  refine ⟨h 0 i rfl, fun j x hj => ?_⟩
  have := h (j + 1) x hj
  rw [show base + 1 + j = base + (j + 1) by omega]
  exact this
theorem yEmb_len {C : yCo} {base : Nat} {seg : yCo} (h : yEmb C base seg) (hs : seg ≠ []) : base + seg.length ≤ C.length := by
  have hl : 0 < seg.length := List.length_pos_iff.mpr hs
  have := h (seg.length - 1) seg[seg.length - 1] (List.getElem?_eq_getElem (by omega))
  have := (List.getElem?_eq_some_iff.mp this).1
  omega
theorem yEmb_str {C : yCo} {base : Nat} {y : yX} (h : yEmb C base (ystr yOO y).1) : yEmb C base y.2.2.1 := by
  unfold ystr at h
  split at h
  · exact h
  · exact (yEmb_app h).1
section YMCL
variable {C : yCo} {X : List (Nat × Nat)} {Tk : Nat → Nat → Prop} {e : yEnv} {A : Nat → Nat → Prop} {R : ySt → ySt → Prop} {E : ySt → Prop} {T : yTk} {N : Nat} {tx : Nat → Nat → List Int} {P : Nat → Nat → Nat → Nat → yPr} {nm : Int64 → Option (Nat × Nat × Bool)}
/-- an expression's code runs, with so many tokens' room on the pile -/
def yRun (e : yEnv) (R : ySt → ySt → Prop) (E : ySt → Prop) (base b b' : Nat) (x : yX) : Prop := ∀ st : List yVal, 2 * st.length + (b - b') ≤ 124 → match x.2.2.2.2 e with
  | some v => yvt v x.1 ∧ R (base, st) (base + x.2.2.1.length, st ++ [v])
  | none => E (base, st)
def yQx (C : yCo) (X : List (Nat × Nat)) (tx : Nat → Nat → List Int) (e : yEnv) (R : ySt → ySt → Prop) (E : ySt → Prop) (base tb b b' : Nat) (x : yX) : Prop := yEmb C base x.2.2.1 → yEmX X tx tb x.2.2.2.1 → yRun e R E base b b' x
def yGd (C : yCo) (X : List (Nat × Nat)) (tx : Nat → Nat → List Int) (e : yEnv) (R : ySt → ySt → Prop) (E : ySt → Prop) (P : Nat → Nat → Nat → Nat → yPr) : Prop := ∀ base tb t b t' b' x, P base tb t b = .inr (t', b', .inr x) → yQx C X tx e R E base tb b b' x
theorem yvt_n {n : Int64} : yvt (.inl n) false := rfl
theorem yQ_cn (hM : yMach C X tx Tk e A R E) {base tb b b' : Nat} {v : Int64} (hb : b' < b) : yQx C X tx e R E base tb b b' (ycn v) := by
  obtain ⟨_, _, _, m0, _⟩ := hM
  intro h1 h2 st hst
  have h1 : yEmb C base [(0, v)] := h1
  exact ⟨rfl, m0 base st v (yEmb_1 h1).1 (by omega)⟩
/-- a number as text, where it stands -/
theorem yQ_str (hM : yMach C X tx Tk e A R E) {base b b' : Nat} {x : yX} (hr : yRun e R E base b b' x) (h : yEmb C base (ystr yOO x).1) (hb : b' < b) : ∀ st : List yVal, 2 * st.length + (b - b') ≤ 124 → match (ystr yOO x).2 e with
    | some v => yvt v true ∧ R (base, st) (base + (ystr yOO x).1.length, st ++ [v])
    | none => E (base, st) := by
  obtain ⟨mr, mt, me, m0, m1, m2, m28, m29, mo1, mo2, mo3⟩ := hM
  intro st hst
  have hr := hr st hst
  unfold ystr at h ⊢
  cases hx : x.1 with
  | true =>
    rw [if_pos rfl]
    rw [hx] at hr
    exact hr
  | false =>
    rw [hx] at h hr
    rw [if_neg (by decide)] at h ⊢
    have h : yEmb C base (x.2.2.1 ++ [(23, 0)]) := h
    obtain ⟨h1, h2⟩ := yEmb_app h
    show match yd1 yOO 23 x.2.2.2.2 e with
      | some v => yvt v true ∧ R (base, st) (base + (x.2.2.1 ++ [((23 : Nat), (0 : Int64))]).length, st ++ [v])
      | none => E (base, st)
    unfold yd1
    match hd : x.2.2.2.2 e with
    | none =>
      rw [hd] at hr
      exact hr
    | some (.inr l) =>
      rw [hd] at hr
      nomatch hr.1.1
    | some (.inl n) =>
      rw [hd] at hr
      have s := mo1 _ st 23 0 (.inl n) (yEmb_1 h2).1 (by omega) (Or.inr (Or.inr (Or.inl rfl)))
      refine ⟨⟨rfl, ydgt_le n⟩, mt _ _ _ hr.2 ?_⟩
      rw [List.length_append]
      exact s
theorem yQ_comb (hM : yMach C X tx Tk e A R E) {base tb b0 b1 b2 kd pl : Nat} {x y z : yX} (hb1 : b1 < b0) (hb2 : b2 < b1 - 1) (hkd : kd < 67) (hkr : 0 ≤ yKr kd ∧ yKr kd ≤ 4) (hx : yQx C X tx e R E base tb b0 b1 x) (hy : yQx C X tx e R E (yrbs base kd (.inr x)) (yrtx tb (.inr x)) (b1 - 1) b2 y) (h : ycomb yOO base kd pl (.inr x) (.inr y) = .inr z) : yQx C X tx e R E base tb b0 b2 z := by
  have hM' := hM
  obtain ⟨mr, mt, me, m0, m1, m2, m28, m29, mo1, mo2, mo3⟩ := hM
  by_cases k34 : kd = 34
  · subst k34
    have h : (if (x.1 || y.1) = true then (.inl (3, pl) : yMn) else .inr (false, none, x.2.2.1 ++ [(29, ya64 (base + x.2.2.1.length + 3)), (0, 1), (28, ya64 (base + x.2.2.1.length + 3 + y.2.2.1.length + 2))] ++ y.2.2.1 ++ [(18, 0), (18, 0)], x.2.2.2.1 ++ y.2.2.2.1, ydor x.2.2.2.2 y.2.2.2.2)) = .inr z := h
    split at h
    · nomatch h
    · rename_i hxy
      have hx1 : x.1 = false := by cases q : x.1; rfl; rw [q] at hxy; exact (hxy rfl).elim
      have hy1 : y.1 = false := by cases q : y.1; rfl; rw [hx1, q] at hxy; exact (hxy rfl).elim
      injection h with h
      subst h
      intro h1 h2 st hst
      have h1 : yEmb C base (x.2.2.1 ++ [(29, ya64 (base + x.2.2.1.length + 3)), (0, 1), (28, ya64 (base + x.2.2.1.length + 3 + y.2.2.1.length + 2))] ++ y.2.2.1 ++ [(18, 0), (18, 0)]) := h1
      have hend := yEmb_len h1 (by simp)
      obtain ⟨a1, a2⟩ := yEmb_app h1
      obtain ⟨a3, a4⟩ := yEmb_app a1
      obtain ⟨a5, a6⟩ := yEmb_app a3
      obtain ⟨t1, t2⟩ := yEmX_app h2
      have l1 : (x.2.2.1 ++ [((29 : Nat), ya64 (base + x.2.2.1.length + 3)), ((0 : Nat), (1 : Int64)), ((28 : Nat), ya64 (base + x.2.2.1.length + 3 + y.2.2.1.length + 2))]).length = x.2.2.1.length + 3 := by rw [List.length_append]; rfl
      have l2 : (x.2.2.1 ++ [((29 : Nat), ya64 (base + x.2.2.1.length + 3)), ((0 : Nat), (1 : Int64)), ((28 : Nat), ya64 (base + x.2.2.1.length + 3 + y.2.2.1.length + 2))] ++ y.2.2.1).length = x.2.2.1.length + 3 + y.2.2.1.length := by rw [List.length_append, l1]
      have l3 : (x.2.2.1 ++ [((29 : Nat), ya64 (base + x.2.2.1.length + 3)), ((0 : Nat), (1 : Int64)), ((28 : Nat), ya64 (base + x.2.2.1.length + 3 + y.2.2.1.length + 2))] ++ y.2.2.1 ++ [((18 : Nat), (0 : Int64)), (18, 0)]).length = x.2.2.1.length + 3 + y.2.2.1.length + 2 := by rw [List.length_append, l2]; rfl
      rw [l3] at hend
      rw [l1] at a4
      rw [l2] at a2
      obtain ⟨i1, a7⟩ := yEmb_1 a6
      obtain ⟨i2, a8⟩ := yEmb_1 a7
      obtain ⟨i3, _⟩ := yEmb_1 a8
      obtain ⟨i4, a9⟩ := yEmb_1 a2
      obtain ⟨i5, _⟩ := yEmb_1 a9
      have rx := hx a5 t1 st (by omega)
      have ey : yrbs base 34 (.inr x) = base + (x.2.2.1.length + 3) := by show base + x.2.2.1.length + 3 = _; omega
      rw [ey] at hy
      have ry := hy a4 t2 st (by omega)
      show match ydor x.2.2.2.2 y.2.2.2.2 e with
        | some v => yvt v false ∧ R (base, st) (base + (x.2.2.1 ++ [((29 : Nat), ya64 (base + x.2.2.1.length + 3)), ((0 : Nat), (1 : Int64)), ((28 : Nat), ya64 (base + x.2.2.1.length + 3 + y.2.2.1.length + 2))] ++ y.2.2.1 ++ [((18 : Nat), (0 : Int64)), (18, 0)]).length, st ++ [v])
        | none => E (base, st)
      rw [l3]
      unfold ydor
      match hdx : x.2.2.2.2 e with
      | none => rw [hdx] at rx; exact rx
      | some (.inr l) =>
        rw [hdx] at rx
        have := rx.1.1
        rw [hx1] at this
        nomatch this
      | some (.inl n) =>
        rw [hdx] at rx
        have sk := m29 _ st n _ i1 (by omega) (by omega) (by omega)
        show match (if ynz (.inl n) then some (ybv true) else (match y.2.2.2.2 e with | some b => some (ybv (ynz b)) | none => none)) with
          | some v => yvt v false ∧ R (base, st) (base + (x.2.2.1.length + 3 + y.2.2.1.length + 2), st ++ [v])
          | none => E (base, st)
        have hnz : ynz (.inl n) = decide (n ≠ 0) := rfl
        by_cases zn : n = 0
        · rw [if_pos zn] at sk
          rw [hnz, decide_eq_false (fun v => v zn), if_neg (by decide)]
          have e3 : base + x.2.2.1.length + 3 = base + (x.2.2.1.length + 3) := by omega
          rw [e3] at sk
          match hdy : y.2.2.2.2 e with
          | none =>
            rw [hdy] at ry
            exact me _ _ (mt _ _ _ rx.2 sk) ry
          | some (.inr l) =>
            rw [hdy] at ry
            have := ry.1.1
            rw [hy1] at this
            nomatch this
          | some (.inl m) =>
            rw [hdy] at ry
            have n1 := mo1 _ st 18 0 (.inl m) i4 (by omega) (Or.inl rfl)
            have n2 := mo1 _ st 18 0 (yO1 18 (.inl m)) i5 (by omega) (Or.inl rfl)
            have ev : yO1 18 (yO1 18 (.inl m)) = ybv (ynz (.inl m)) := by
              have u1 : ∀ m : Int64, yO1 18 (.inl m) = .inl (if m = 0 then 1 else 0) := fun m => rfl
              rw [u1, u1]
              show _ = (.inl (if decide (m ≠ 0) = true then 1 else 0) : yVal)
              by_cases zm : m = 0
              · rw [if_pos zm, if_neg (by decide), decide_eq_false (fun v => v zm)]
                rfl
              · rw [if_neg zm, if_pos rfl, decide_eq_true zm]
                rfl
            refine ⟨rfl, ?_⟩
            rw [← ev]
            have ep : base + (x.2.2.1.length + 3) + y.2.2.1.length = base + (x.2.2.1.length + 3 + y.2.2.1.length) := by omega
            have r2 := ry.2
            rw [ep] at r2
            have ef : base + (x.2.2.1.length + 3 + y.2.2.1.length + 2) = base + (x.2.2.1.length + 3 + y.2.2.1.length) + 1 + 1 := by omega
            rw [ef]
            exact mt _ _ _ rx.2 (mt _ _ _ sk (mt _ _ _ r2 (mt _ _ _ n1 n2)))
        · rw [if_neg zn] at sk
          rw [hnz, decide_eq_true zn, if_pos rfl]
          have p1 := m0 _ st 1 i2 (by omega)
          have p2 := m28 _ (st ++ [.inl 1]) _ i3 (by omega) (by omega) (by rw [List.length_append]; show _ + 1 ≤ 61; omega)
          refine ⟨rfl, ?_⟩
          have ef : base + (x.2.2.1.length + 3 + y.2.2.1.length + 2) = base + x.2.2.1.length + 3 + y.2.2.1.length + 2 := by omega
          rw [ef]
          exact mt _ _ _ rx.2 (mt _ _ _ sk (mt _ _ _ p1 p2))
  · by_cases k35 : kd = 35
    · subst k35
      have h : (if (x.1 || y.1) = true then (.inl (3, pl) : yMn) else .inr (false, none, x.2.2.1 ++ [(29, ya64 (base + x.2.2.1.length + 1 + y.2.2.1.length + 3))] ++ y.2.2.1 ++ [(29, ya64 (base + x.2.2.1.length + 1 + y.2.2.1.length + 3)), (0, 1), (28, ya64 (base + x.2.2.1.length + 1 + y.2.2.1.length + 4)), (0, 0)], x.2.2.2.1 ++ y.2.2.2.1, ydand x.2.2.2.2 y.2.2.2.2)) = .inr z := h
      split at h
      · nomatch h
      · rename_i hxy
        have hx1 : x.1 = false := by cases q : x.1; rfl; rw [q] at hxy; exact (hxy rfl).elim
        have hy1 : y.1 = false := by cases q : y.1; rfl; rw [hx1, q] at hxy; exact (hxy rfl).elim
        injection h with h
        subst h
        intro h1 h2 st hst
        have h1 : yEmb C base (x.2.2.1 ++ [(29, ya64 (base + x.2.2.1.length + 1 + y.2.2.1.length + 3))] ++ y.2.2.1 ++ [(29, ya64 (base + x.2.2.1.length + 1 + y.2.2.1.length + 3)), (0, 1), (28, ya64 (base + x.2.2.1.length + 1 + y.2.2.1.length + 4)), (0, 0)]) := h1
        have hend := yEmb_len h1 (by simp)
        obtain ⟨a1, a2⟩ := yEmb_app h1
        obtain ⟨a3, a4⟩ := yEmb_app a1
        obtain ⟨a5, a6⟩ := yEmb_app a3
        obtain ⟨t1, t2⟩ := yEmX_app h2
        have l1 : (x.2.2.1 ++ [((29 : Nat), ya64 (base + x.2.2.1.length + 1 + y.2.2.1.length + 3))]).length = x.2.2.1.length + 1 := by rw [List.length_append]; rfl
        have l2 : (x.2.2.1 ++ [((29 : Nat), ya64 (base + x.2.2.1.length + 1 + y.2.2.1.length + 3))] ++ y.2.2.1).length = x.2.2.1.length + 1 + y.2.2.1.length := by rw [List.length_append, l1]
        have l3 : (x.2.2.1 ++ [((29 : Nat), ya64 (base + x.2.2.1.length + 1 + y.2.2.1.length + 3))] ++ y.2.2.1 ++ [((29 : Nat), ya64 (base + x.2.2.1.length + 1 + y.2.2.1.length + 3)), ((0 : Nat), (1 : Int64)), ((28 : Nat), ya64 (base + x.2.2.1.length + 1 + y.2.2.1.length + 4)), ((0 : Nat), (0 : Int64))]).length = x.2.2.1.length + 1 + y.2.2.1.length + 4 := by rw [List.length_append, l2]; rfl
        rw [l3] at hend
        rw [l1] at a4
        rw [l2] at a2
        obtain ⟨i1, _⟩ := yEmb_1 a6
        obtain ⟨i2, a7⟩ := yEmb_1 a2
        obtain ⟨i3, a8⟩ := yEmb_1 a7
        obtain ⟨i4, a9⟩ := yEmb_1 a8
        obtain ⟨i5, _⟩ := yEmb_1 a9
        have rx := hx a5 t1 st (by omega)
        have ey : yrbs base 35 (.inr x) = base + (x.2.2.1.length + 1) := by show base + x.2.2.1.length + 1 = _; omega
        rw [ey] at hy
        have ry := hy a4 t2 st (by omega)
        show match ydand x.2.2.2.2 y.2.2.2.2 e with
          | some v => yvt v false ∧ R (base, st) (base + (x.2.2.1 ++ [((29 : Nat), ya64 (base + x.2.2.1.length + 1 + y.2.2.1.length + 3))] ++ y.2.2.1 ++ [((29 : Nat), ya64 (base + x.2.2.1.length + 1 + y.2.2.1.length + 3)), ((0 : Nat), (1 : Int64)), ((28 : Nat), ya64 (base + x.2.2.1.length + 1 + y.2.2.1.length + 4)), ((0 : Nat), (0 : Int64))]).length, st ++ [v])
          | none => E (base, st)
        rw [l3]
        have zero := m0 _ st 0 i5 (by omega)
        have ez : base + (x.2.2.1.length + 1 + y.2.2.1.length) + 1 + 1 + 1 = base + x.2.2.1.length + 1 + y.2.2.1.length + 3 := by omega
        have ef : base + (x.2.2.1.length + 1 + y.2.2.1.length + 4) = base + x.2.2.1.length + 1 + y.2.2.1.length + 3 + 1 := by omega
        rw [ez] at zero
        rw [ef]
        unfold ydand
        match hdx : x.2.2.2.2 e with
        | none => rw [hdx] at rx; exact rx
        | some (.inr l) =>
          rw [hdx] at rx
          have := rx.1.1
          rw [hx1] at this
          nomatch this
        | some (.inl n) =>
          rw [hdx] at rx
          have sk := m29 _ st n _ i1 (by omega) (by omega) (by omega)
          show match (if ynz (.inl n) then (match y.2.2.2.2 e with | some b => some (ybv (ynz b)) | none => none) else some (ybv false)) with
            | some v => yvt v false ∧ R (base, st) (base + x.2.2.1.length + 1 + y.2.2.1.length + 3 + 1, st ++ [v])
            | none => E (base, st)
          have hnz : ynz (.inl n) = decide (n ≠ 0) := rfl
          by_cases zn : n = 0
          · rw [if_pos zn] at sk
            rw [hnz, decide_eq_false (fun v => v zn), if_neg (by decide)]
            exact ⟨rfl, mt _ _ _ rx.2 (mt _ _ _ sk zero)⟩
          · rw [if_neg zn] at sk
            rw [hnz, decide_eq_true zn, if_pos rfl]
            have e3 : base + x.2.2.1.length + 1 = base + (x.2.2.1.length + 1) := by omega
            rw [e3] at sk
            match hdy : y.2.2.2.2 e with
            | none =>
              rw [hdy] at ry
              exact me _ _ (mt _ _ _ rx.2 sk) ry
            | some (.inr l) =>
              rw [hdy] at ry
              have := ry.1.1
              rw [hy1] at this
              nomatch this
            | some (.inl m) =>
              rw [hdy] at ry
              have r2 := ry.2
              have ep : base + (x.2.2.1.length + 1) + y.2.2.1.length = base + (x.2.2.1.length + 1 + y.2.2.1.length) := by omega
              rw [ep] at r2
              have sk2 := m29 _ st m _ i2 (by omega) (by omega) (by omega)
              have hmz : ynz (.inl m) = decide (m ≠ 0) := rfl
              show yvt (ybv (ynz (.inl m))) false ∧ R (base, st) (base + x.2.2.1.length + 1 + y.2.2.1.length + 3 + 1, st ++ [ybv (ynz (.inl m))])
              refine ⟨rfl, ?_⟩
              by_cases zm : m = 0
              · rw [if_pos zm] at sk2
                rw [hmz, decide_eq_false (fun v => v zm)]
                exact mt _ _ _ rx.2 (mt _ _ _ sk (mt _ _ _ r2 (mt _ _ _ sk2 zero)))
              · rw [if_neg zm] at sk2
                rw [hmz, decide_eq_true zm]
                have p1 := m0 _ st 1 i3 (by omega)
                have p2 := m28 _ (st ++ [.inl 1]) _ i4 (by omega) (by omega) (by rw [List.length_append]; show _ + 1 ≤ 61; omega)
                exact mt _ _ _ rx.2 (mt _ _ _ sk (mt _ _ _ r2 (mt _ _ _ sk2 (mt _ _ _ p1 p2))))
    · by_cases k56 : kd = 56
      · subst k56
        have h : (.inr (true, none, (ystr yOO x).1 ++ (ystr yOO y).1 ++ [(11, 0)], x.2.2.2.1 ++ y.2.2.2.1, yd2 yOO 11 (ystr yOO x).2 (ystr yOO y).2) : yMn) = .inr z := h
        injection h with h
        subst h
        intro h1 h2 st hst
        have h1 : yEmb C base ((ystr yOO x).1 ++ (ystr yOO y).1 ++ [(11, 0)]) := h1
        obtain ⟨a1, a2⟩ := yEmb_app h1
        obtain ⟨a3, a4⟩ := yEmb_app a1
        obtain ⟨t1, t2⟩ := yEmX_app h2
        have ex : yEmb C base x.2.2.1 := by
          unfold ystr at a3
          split at a3
          · exact a3
          · exact (yEmb_app a3).1
        have lx : yrbs base 56 (.inr x) = base + (ystr yOO x).1.length := by
          show base + x.2.2.1.length + (if (56 : Nat) = 34 then 3 else if (56 : Nat) = 35 then 1 else if (56 : Nat) = 56 ∧ x.1 = false then 1 else 0) = _
          rw [if_neg (by decide), if_neg (by decide)]
          unfold ystr
          cases x.1 with
          | true => rw [if_neg (fun v => nomatch v.2), if_pos rfl]; rfl
          | false =>
            rw [if_pos ⟨rfl, rfl⟩, if_neg (by decide)]
            show _ = base + (x.2.2.1 ++ [((23 : Nat), (0 : Int64))]).length
            rw [List.length_append]
            show base + x.2.2.1.length + 1 = base + (x.2.2.1.length + 1)
            omega
        rw [lx] at hy
        have ey : yEmb C (base + (ystr yOO x).1.length) y.2.2.1 := yEmb_str a4
        have rx := yQ_str hM' (hx ex t1) a3 hb1 st (by omega)
        have l2 : ((ystr yOO x).1 ++ (ystr yOO y).1).length = (ystr yOO x).1.length + (ystr yOO y).1.length := List.length_append
        rw [l2] at a2
        show match yd2 yOO 11 (ystr yOO x).2 (ystr yOO y).2 e with
          | some v => yvt v true ∧ R (base, st) (base + ((ystr yOO x).1 ++ (ystr yOO y).1 ++ [((11 : Nat), (0 : Int64))]).length, st ++ [v])
          | none => E (base, st)
        unfold yd2
        match hdx : (ystr yOO x).2 e with
        | none => rw [hdx] at rx; exact rx
        | some (.inl n) => rw [hdx] at rx; nomatch rx.1
        | some (.inr l) =>
          rw [hdx] at rx
          have ry := yQ_str hM' (hy ey t2) a4 hb2 (st ++ [.inr l]) (by rw [List.length_append]; show 2 * (_ + 1) + _ ≤ 124; omega)
          match hdy : (ystr yOO y).2 e with
          | none =>
            rw [hdy] at ry
            exact me _ _ rx.2 ry
          | some (.inl n) => rw [hdy] at ry; nomatch ry.1
          | some (.inr r) =>
            rw [hdy] at ry
            have op := mo2 _ st 11 0 (.inr l) (.inr r) (yEmb_1 a2).1 (by omega) ⟨by omega, by omega, rx.1.2, ry.1.2⟩
            have op : R (base + ((ystr yOO x).1.length + (ystr yOO y).1.length), st ++ [.inr l, .inr r]) (base + ((ystr yOO x).1.length + (ystr yOO y).1.length) + 1, st ++ [.inr ((l ++ r).take 60)]) := op
            refine ⟨⟨rfl, by rw [List.length_take]; omega⟩, ?_⟩
            rw [List.length_append, l2]
            have r2 := ry.2
            rw [List.append_assoc] at r2
            have ep : base + (ystr yOO x).1.length + (ystr yOO y).1.length = base + ((ystr yOO x).1.length + (ystr yOO y).1.length) := by omega
            rw [ep] at r2
            exact mt _ _ _ rx.2 (mt _ _ _ r2 op)
      · rw [ycomb_op k34 k35 k56] at h
        obtain ⟨o1, o2, o3, o4⟩ := ykop kd hkd (by
          have := ykr_eq0 kd hkd
          have n0 : ¬ yKr kd = 0 := fun v => k34 (this.1.mp v)
          have n1 : ¬ yKr kd = 1 := fun v => k35 (this.2.mp v)
          omega) k56
        have lx : yrbs base kd (.inr x) = base + x.2.2.1.length := by
          show base + x.2.2.1.length + (if kd = 34 then 3 else if kd = 35 then 1 else if kd = 56 ∧ x.1 = false then 1 else 0) = _
          rw [if_neg k34, if_neg k35, if_neg (fun v => k56 v.1)]
          rfl
        rw [lx] at hy
        have fit : ∀ (v w : yVal), (if yKr kd = 2 then x.1 != y.1 else x.1 || y.1) = false → yvt v x.1 → yvt w y.1 → yft2 (yop kd) v w := by
          intro v w hg hv hw
          have v2 := yop_v
          have k2 := ykop2 kd hkd
          have nk0 : ¬ yKr kd = 0 := fun v => k34 ((ykr_eq0 kd hkd).1.mp v)
          have nk1 : ¬ yKr kd = 1 := fun v => k35 ((ykr_eq0 kd hkd).2.mp v)
          have ranges : (yKr kd = 2 → 12 ≤ yop kd ∧ yop kd ≤ 17) ∧ (¬ yKr kd = 2 → 6 ≤ yop kd ∧ yop kd ≤ 10) := by
            refine ⟨fun z => ?_, fun z => ?_⟩
            · rcases k2.1.mp z with e | e | e | e | e | e <;> rw [e] <;> omega
            · have : yKr kd = 3 ∨ yKr kd = 4 := by omega
              rcases this with z3 | z4
              · rcases k2.2.1.mp z3 with e | e | e
                · rw [e]; omega
                · rw [e]; omega
                · exact (k56 e).elim
              · rcases k2.2.2.mp z4 with e | e | e <;> rw [e] <;> omega
          match v, w, hv, hw with
          | .inl n, .inl m, hv, hw =>
            by_cases z : yKr kd = 2
            · exact Or.inr (Or.inl (ranges.1 z))
            · exact Or.inl (ranges.2 z)
          | .inl n, .inr m, hv, hw =>
            have hv : x.1 = false := hv
            have hw1 := hw.1
            rw [hv, hw1] at hg
            split at hg <;> nomatch hg
          | .inr n, .inl m, hv, hw =>
            have hw : y.1 = false := hw
            have hv1 := hv.1
            rw [hv1, hw] at hg
            split at hg <;> nomatch hg
          | .inr n, .inr m, hv, hw =>
            by_cases z : yKr kd = 2
            · have := ranges.1 z
              exact ⟨by omega, by omega, hv.2, hw.2⟩
            · rw [if_neg z, hv.1] at hg
              nomatch hg
        have plain : (if yKr kd = 2 then x.1 != y.1 else x.1 || y.1) = false → z = (false, none, x.2.2.1 ++ y.2.2.1 ++ [(yop kd, 0)], x.2.2.2.1 ++ y.2.2.2.1, yd2 yOO (yop kd) x.2.2.2.2 y.2.2.2.2) → yQx C X tx e R E base tb b0 b2 z := by
          intro hg hz
          subst hz
          intro h1 h2 st hst
          have h1 : yEmb C base (x.2.2.1 ++ y.2.2.1 ++ [(yop kd, 0)]) := h1
          obtain ⟨a1, a2⟩ := yEmb_app h1
          obtain ⟨a3, a4⟩ := yEmb_app a1
          obtain ⟨t1, t2⟩ := yEmX_app h2
          have l2 : (x.2.2.1 ++ y.2.2.1).length = x.2.2.1.length + y.2.2.1.length := List.length_append
          rw [l2] at a2
          have rx := hx a3 t1 st (by omega)
          show match yd2 yOO (yop kd) x.2.2.2.2 y.2.2.2.2 e with
            | some v => yvt v false ∧ R (base, st) (base + (x.2.2.1 ++ y.2.2.1 ++ [((yop kd : Nat), (0 : Int64))]).length, st ++ [v])
            | none => E (base, st)
          unfold yd2
          match hdx : x.2.2.2.2 e with
          | none => rw [hdx] at rx; exact rx
          | some v =>
            rw [hdx] at rx
            have ry := hy a4 t2 (st ++ [v]) (by rw [List.length_append]; show 2 * (_ + 1) + _ ≤ 124; omega)
            match hdy : y.2.2.2.2 e with
            | none =>
              rw [hdy] at ry
              exact me _ _ rx.2 ry
            | some w =>
              rw [hdy] at ry
              have hf := fit v w hg rx.1 ry.1
              have op := mo2 _ st (yop kd) 0 v w (yEmb_1 a2).1 (by omega) hf
              have r2 := ry.2
              rw [List.append_assoc] at r2
              have ep : base + x.2.2.1.length + y.2.2.1.length = base + (x.2.2.1.length + y.2.2.1.length) := by omega
              rw [ep] at r2
              have eo : yOO (yop kd) [v, w] = yO2 (yop kd) v w := rfl
              show match yOO (yop kd) [v, w] with
                | some v => yvt v false ∧ R (base, st) (base + (x.2.2.1 ++ y.2.2.1 ++ [((yop kd : Nat), (0 : Int64))]).length, st ++ [v])
                | none => E (base, st)
              rw [eo]
              match ho : yO2 (yop kd) v w with
              | none =>
                rw [ho] at op
                exact me _ _ (mt _ _ _ rx.2 r2) op
              | some r =>
                rw [ho] at op
                refine ⟨?_, ?_⟩
                · match v, w, hf, ho with
                  | .inl m, .inl n, hf, ho =>
                    have ho : (if (yop kd = 9 ∨ yop kd = 10) ∧ n = 0 then none else some (.inl (ycal (yop kd) m n)) : Option yVal) = some r := ho
                    split at ho
                    · nomatch ho
                    · injection ho with ho
                      subst ho
                      rfl
                  | .inr l, .inr r', hf, ho =>
                    have ho : (if yop kd = 11 then some (.inr ((l ++ r').take 60)) else some (.inl (ycal (yop kd) (yi2l (ycmT l r')) 0)) : Option yVal) = some r := ho
                    rw [if_neg o3] at ho
                    injection ho with ho
                    subst ho
                    rfl
                · rw [List.length_append, l2]
                  exact mt _ _ _ rx.2 (mt _ _ _ r2 op)
        generalize hg : (if yKr kd = 2 then x.1 != y.1 else x.1 || y.1) = g at h plain
        cases g with
        | true => nomatch h
        | false =>
          match hx1 : x.2.1, hy1 : y.2.1 with
          | some a, some c =>
            rw [hx1, hy1] at h
            have h : (if (yop kd = 9 ∨ yop kd = 10) ∧ c = 0 then (.inr (false, none, x.2.2.1 ++ y.2.2.1 ++ [(yop kd, 0)], x.2.2.2.1 ++ y.2.2.2.1, yd2 yOO (yop kd) x.2.2.2.2 y.2.2.2.2) : yMn) else .inr (ycn (ycal (yop kd) a c))) = .inr z := h
            split at h
            · injection h with h
              exact plain rfl h.symm
            · injection h with h
              subst h
              exact yQ_cn hM' (by omega)
          | none, _ =>
            rw [hx1] at h
            injection h with h
            exact plain rfl h.symm
          | some a, none =>
            rw [hx1, hy1] at h
            injection h with h
            exact plain rfl h.symm
end YMCL
end YMC
