/-! taken from whole by wip/p27/slice2.py: 95.mach.lean.txt -/
section YMC
/-- how two texts are ordered -/
def ycmT : List Int → List Int → Int
  | a :: l, b :: r => if a = b then ycmT l r else a - b
  | l, r => (l.length : Int) - r.length
def yupp (l : List Int) : List Int := l.map fun c => if 97 ≤ c ∧ c ≤ 122 then c - 32 else c
def yprt (l : List Int) (f n : Int64) : List Int := if f.toInt < 0 ∨ n.toInt < 0 then [] else (l.drop f.toInt.toNat).take n.toInt.toNat
def yO1 (op : Nat) (a : yVal) : yVal := match a with
  | .inl n => if op = 23 then .inr (ydgt n) else if op = 24 then .inr (ymny n) else .inl (ycal op n n)
  | .inr l => if op = 20 then .inl (yi2l l.length) else .inr (yupp l)
def yO2 (op : Nat) (a b : yVal) : Option yVal := match a, b with
  | .inl m, .inl n => if (op = 9 ∨ op = 10) ∧ n = 0 then none else some (.inl (ycal op m n))
  | .inr l, .inr r => if op = 11 then some (.inr ((l ++ r).take 60)) else some (.inl (ycal op (yi2l (ycmT l r)) 0))
  | _, _ => some (.inl 0)
def yO3 (a b c : yVal) : yVal := match a, b, c with
  | .inr l, .inl m, .inl n => .inr (yprt l m n)
  | _, _, _ => .inl 0
def yOO : yOp := fun op l => match l with
  | [a] => some (yO1 op a)
  | [a, b] => yO2 op a b
  | [a, b, c] => some (yO3 a b c)
  | _ => some (.inl 0)
section YMCL
variable {C : yCo} {X : List (Nat × Nat)} {Tk : Nat → Nat → Prop} {e : yEnv} {A : Nat → Nat → Prop} {T : yTk} {N : Nat} {tx : Nat → Nat → List Int} {P : Nat → Nat → Nat → Nat → yPr} {nm : Int64 → Option (Nat × Nat × Bool)}
end YMCL
end YMC
