/-! taken from whole by wip/p27/slice.py: 95.mach.lean.txt -/
section YMC
/-- digits, from the highest on -/
def ydgs : Nat → Nat → List Int → List Int
  | 0, _, acc => acc
  | f + 1, n, acc => if n < 10 then (48 + (n : Int)) :: acc else ydgs f (n / 10) ((48 + ((n % 10 : Nat) : Int)) :: acc)
def ydgt (n : Int64) : List Int := (if n.toInt < 0 then [45] else []) ++ ydgs 30 n.toInt.natAbs []
def ymny (n : Int64) : List Int := (if n.toInt < 0 then [45] else []) ++ ydgs 30 (n.toInt.natAbs / 100) [] ++ [46, 48 + ((n.toInt.natAbs % 100 / 10 : Nat) : Int), 48 + ((n.toInt.natAbs % 10 : Nat) : Int)]
section YMCL
variable {X : List (Nat × Nat)} {Tk : Nat → Nat → Prop} {A : Nat → Nat → Prop} {N : Nat} {tx : Nat → Nat → List Int} {nm : Int64 → Option (Nat × Nat × Bool)}
end YMCL
end YMC
