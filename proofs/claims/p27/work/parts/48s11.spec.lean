/-! taken from whole by wip/p27/slice2.py: 57.spec.lean.txt -/
section YPM
abbrev yEnv : Type := Nat → Nat → yVal
abbrev yX : Type := Bool × Option Int64 × List (Nat × Int64) × List (Nat × Nat) × (yEnv → Option yVal)
abbrev yMn : Type := (Nat × Nat) ⊕ yX
abbrev yPr : Type := Nat ⊕ (Nat × Nat × yMn)
abbrev yAr : Type := (Nat × Nat) ⊕ (List Bool × List (Nat × Int64) × List (Nat × Nat) × (yEnv → Option (List yVal)))
abbrev yOp : Type := Nat → List yVal → Option yVal
abbrev yTk : Type := Nat → Nat × Nat × Int64
def ynz (v : yVal) : Bool := match v with
  | .inl n => decide (n ≠ 0)
  | .inr _ => true
def ybv (b : Bool) : yVal := .inl (if b then 1 else 0)
def yd1 (O : yOp) (op : Nat) (f : yEnv → Option yVal) : yEnv → Option yVal := fun e => match f e with
  | some a => O op [a]
  | none => none
def yd2 (O : yOp) (op : Nat) (f g : yEnv → Option yVal) : yEnv → Option yVal := fun e => match f e, g e with
  | some a, some b => O op [a, b]
  | _, _ => none
def ydor (f g : yEnv → Option yVal) : yEnv → Option yVal := fun e => match f e with
  | some a => if ynz a then some (ybv true) else (match g e with | some b => some (ybv (ynz b)) | none => none)
  | none => none
def ydand (f g : yEnv → Option yVal) : yEnv → Option yVal := fun e => match f e with
  | some a => if ynz a then (match g e with | some b => some (ybv (ynz b)) | none => none) else some (ybv false)
  | none => none
/-- one number -/
def ycn (v : Int64) : yX := (false, some v, [(0, v)], [], fun _ => some (.inl v))
def ya64 (n : Nat) : Int64 := yi2l (n : Int)
/-- a number as text, where & wants one -/
def ystr (O : yOp) (x : yX) : List (Nat × Int64) × (yEnv → Option yVal) := if x.1 then (x.2.2.1, x.2.2.2.2) else (x.2.2.1 ++ [(23, 0)], yd1 O 23 x.2.2.2.2)
def yop (kd : Nat) : Nat := (yKn kd).toNat
/-- two operands and what stands between them, at a place -/
def ycomb (O : yOp) (base kd pl : Nat) (l r : yMn) : yMn := match l, r with
  | .inl e, _ => .inl e
  | .inr _, .inl e => .inl e
  | .inr x, .inr y =>
    if kd = 34 then (if x.1 || y.1 then .inl (3, pl) else .inr (false, none, x.2.2.1 ++ [(29, ya64 (base + x.2.2.1.length + 3)), (0, 1), (28, ya64 (base + x.2.2.1.length + 3 + y.2.2.1.length + 2))] ++ y.2.2.1 ++ [(18, 0), (18, 0)], x.2.2.2.1 ++ y.2.2.2.1, ydor x.2.2.2.2 y.2.2.2.2))
    else if kd = 35 then (if x.1 || y.1 then .inl (3, pl) else .inr (false, none, x.2.2.1 ++ [(29, ya64 (base + x.2.2.1.length + 1 + y.2.2.1.length + 3))] ++ y.2.2.1 ++ [(29, ya64 (base + x.2.2.1.length + 1 + y.2.2.1.length + 3)), (0, 1), (28, ya64 (base + x.2.2.1.length + 1 + y.2.2.1.length + 4)), (0, 0)], x.2.2.2.1 ++ y.2.2.2.1, ydand x.2.2.2.2 y.2.2.2.2))
    else if kd = 56 then .inr (true, none, (ystr O x).1 ++ (ystr O y).1 ++ [(11, 0)], x.2.2.2.1 ++ y.2.2.2.1, yd2 O 11 (ystr O x).2 (ystr O y).2)
    else if (if yKr kd = 2 then x.1 != y.1 else x.1 || y.1) then .inl (3, pl)
    else match x.2.1, y.2.1 with
      | some a, some b => if (yop kd = 9 ∨ yop kd = 10) ∧ b = 0 then .inr (false, none, x.2.2.1 ++ y.2.2.1 ++ [(yop kd, 0)], x.2.2.2.1 ++ y.2.2.2.1, yd2 O (yop kd) x.2.2.2.2 y.2.2.2.2) else .inr (ycn (ycal (yop kd) a b))
      | _, _ => .inr (false, none, x.2.2.1 ++ y.2.2.1 ++ [(yop kd, 0)], x.2.2.2.1 ++ y.2.2.2.1, yd2 O (yop kd) x.2.2.2.2 y.2.2.2.2)
/-- where the right operand's instructions, its texts begin -/
def yrbs (base kd : Nat) (l : yMn) : Nat := match l with
  | .inl _ => base
  | .inr x => base + x.2.2.1.length + (if kd = 34 then 3 else if kd = 35 then 1 else if kd = 56 ∧ x.1 = false then 1 else 0)
def yrtx (tb : Nat) (l : yMn) : Nat := match l with
  | .inl _ => tb
  | .inr x => tb + x.2.2.2.1.length
def ylop (T : yTk) (O : yOp) (lv : Int) (sub : Nat → Nat → Nat → Nat → yPr) : Nat → Nat → Nat → Nat → Nat → yMn → yPr
  | 0, _, _, t, b, l => .inr (t, b, l)
  | f + 1, base, tb, t, b, l => if yKr (T t).1 = lv then (if b = 0 then .inl (T t).2.1 else match sub (yrbs base (T t).1 l) (yrtx tb l) (t + 1) (b - 1) with
    | .inl p => .inl p
    | .inr (t2, b2, r) => ylop T O lv sub f base tb t2 b2 (ycomb O base (T t).1 (T t).2.1 l r)) else .inr (t, b, l)
def ylev (T : yTk) (O : yOp) (lv : Int) (sub : Nat → Nat → Nat → Nat → yPr) (base tb t b : Nat) : yPr := match sub base tb t b with
  | .inl p => .inl p
  | .inr (t1, b1, l) => ylop T O lv sub (if lv = 2 then 1 else 100) base tb t1 b1 l
/-- from a level down -/
def yfrom (T : yTk) (O : yOp) (fac : Nat → Nat → Nat → Nat → yPr) (lv : Nat) : Nat → Nat → Nat → Nat → yPr := match lv with
  | 0 => ylev T O 0 (ylev T O 1 (ylev T O 2 (ylev T O 3 (ylev T O 4 fac))))
  | 1 => ylev T O 1 (ylev T O 2 (ylev T O 3 (ylev T O 4 fac)))
  | 2 => ylev T O 2 (ylev T O 3 (ylev T O 4 fac))
  | 3 => ylev T O 3 (ylev T O 4 fac)
  | 4 => ylev T O 4 fac
  | _ => fac
/-- an argument more -/
def yapp (a : yAr) (m : yMn) : yAr := match a, m with
  | .inl e, _ => .inl e
  | .inr _, .inl e => .inl e
  | .inr (ts, seg, txs, f), .inr x => .inr (ts ++ [x.1], seg ++ x.2.2.1, txs ++ x.2.2.2.1, fun e => match f e, x.2.2.2.2 e with
    | some l, some v => some (l ++ [v])
    | _, _ => none)
def yarl (a : yAr) : Nat := match a with
  | .inl _ => 0
  | .inr x => x.2.1.length
def yart (a : yAr) : Nat := match a with
  | .inl _ => 0
  | .inr x => x.2.2.1.length
def yargs (T : yTk) (E : Nat → Nat → Nat → Nat → yPr) : Nat → Nat → Nat → Nat → Nat → yAr → Nat ⊕ (Nat × Nat × yAr)
  | 0, _, _, t, b, a => .inr (t, b, a)
  | f + 1, base, tb, t, b, a => match E (base + yarl a) (tb + yart a) t b with
    | .inl p => .inl p
    | .inr (t1, b1, m) => if (T t1).1 = 48 then (if b1 = 0 then .inl (T t1).2.1 else yargs T E f base tb (t1 + 1) (b1 - 1) (yapp a m)) else .inr (t1, b1, yapp a m)
/-- a parenthesis that closes -/
def yclo (T : yTk) (t b : Nat) (m : yMn) : yPr := if (T t).1 = 47 then (if b = 0 then .inl (T t).2.1 else .inr (t + 1, b - 1, m)) else .inl (T t).2.1
def yarity (kd : Nat) : Nat := if kd = 39 then 3 else if kd = 8 ∨ kd = 9 then 2 else 1
def ytakes (kd : Nat) : Bool := decide (kd = 37 ∨ kd = 38 ∨ kd = 39)
def ymakes (kd : Nat) : Bool := decide (kd = 38 ∨ kd = 39 ∨ kd = 40 ∨ kd = 41)
def yfun (O : yOp) (kd pl : Nat) (a : yAr) : yMn := match a with
  | .inl e => .inl e
  | .inr (ts, seg, txs, f) => if ts = ytakes kd :: List.replicate (yarity kd - 1) false then .inr (ymakes kd, none, seg ++ [(yop kd, 0)], txs, fun e => match f e with
    | some l => O (yop kd) l
    | none => none) else .inl (3, pl)
/-- an operator in front: NEG or NOT -/
def yfront (O : yOp) (op pl : Nat) (m : yMn) : yMn := match m with
  | .inl e => .inl e
  | .inr x => if x.1 then .inl (3, pl) else match x.2.1 with
    | some v => .inr (ycn (ycal op v v))
    | none => .inr (false, none, x.2.2.1 ++ [(op, 0)], x.2.2.2.1, yd1 O op x.2.2.2.2)
/-- a factor, with so much depth left -/
def yfac (T : yTk) (tx : Nat → Nat → List Int) (nm : Int64 → Option (Nat × Nat × Bool)) (decl : Bool) (O : yOp) : Nat → Nat → Nat → Nat → Nat → yPr
  | rd, base, tb, t, b =>
    if (T t).1 = 63 then (if b = 0 then .inl (T t).2.1 else .inr (t + 1, b - 1, .inr (ycn (T t).2.2)))
    else if (T t).1 = 64 then (if b = 0 then .inl (T t).2.1 else .inr (t + 1, b - 1, .inr (true, none, [(1, ya64 tb)], [((T t).2.1 + 1, (T t).2.2.toInt.toNat)], fun _ => some (.inr (tx ((T t).2.1 + 1) (T t).2.2.toInt.toNat)))))
    else if (T t).1 = 62 then (if b = 0 then .inl (T t).2.1 else .inr (t + 1, b - 1, match nm (T t).2.2 with
      | none => .inl (2, (T t).2.1)
      | some (op, i, x) => .inr (x, none, [(op, ya64 i)], [], fun e => some (e op i))))
    else if (T t).1 = 52 ∨ (T t).1 = 36 then (match rd with
      | 0 => .inl (T t).2.1
      | rd + 1 => if b = 0 then .inl (T t).2.1 else match yfac T tx nm decl O rd base tb (t + 1) (b - 1) with
        | .inl p => .inl p
        | .inr (t1, b1, m) => .inr (t1, b1, yfront O (if (T t).1 = 52 then 19 else 18) (T t).2.1 m))
    else if (T t).1 = 46 then (match rd with
      | 0 => .inl (T t).2.1
      | rd + 1 => if b = 0 then .inl (T t).2.1 else match yfrom T O (yfac T tx nm decl O rd) 0 base tb (t + 1) (b - 1) with
        | .inl p => .inl p
        | .inr (t1, b1, m) => yclo T t1 b1 m)
    else if yKr (T t).1 = 5 then (if b = 0 then .inl (T t).2.1 else if (T (t + 1)).1 ≠ 46 then .inl (T (t + 1)).2.1 else match rd with
      | 0 => .inl (T (t + 1)).2.1
      | rd + 1 => if b = 1 then .inl (T (t + 1)).2.1 else match yargs T (yfrom T O (yfac T tx nm decl O rd) 0) 100 base tb (t + 2) (b - 2) (.inr ([], [], [], fun _ => some [])) with
        | .inl p => .inl p
        | .inr (t1, b1, a) => yclo T t1 b1 (yfun O (T t).1 (T t).2.1 a))
    else if yKr (T t).1 = 6 then (if b = 0 then .inl (T t).2.1 else .inr (t + 1, b - 1, if decl = true ∧ (T t).1 ≠ 45 then .inl (2, (T t).2.1) else .inr (false, none, [(5, yi2l (yKn (T t).1))], [], fun e => some (e 5 (yop (T t).1)))))
    else .inl (T t).2.1
/-- an expression, with so much depth left -/
def yexp (T : yTk) (tx : Nat → Nat → List Int) (nm : Int64 → Option (Nat × Nat × Bool)) (decl : Bool) (O : yOp) (rd base tb t b : Nat) : yPr := yfrom T O (yfac T tx nm decl O rd) 0 base tb t b
end YPM
