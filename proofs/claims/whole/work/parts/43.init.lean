/-! BEHIND THE CONSTRUCTORS: printed by wip/whole/y/gen43.py -/
section YN
def yI0 : List Int := [0, 0, 0, 0, 0, 0, 0, 0, 0, 0, 0, 0, 0, 0, 0, 0, 0, 0, -1, 0, 0, 0, 0, 0, 0, 0, 0, 0, 0, 0, 0, 0, 0, 0, 0, 0, 0, 0, 0, 0, 0, 0, 0, 0, 0, 0, 0, 0, 0, 0, 0, 0, 0, 0, 0, 0, 0, 0, 0, -1, 0, 0, -1, 0, -1, 0, 0, 0, 0, 0, 0, 0, 0]
def yJ0 : List Int64 := [0, 0, 0, 0]
def yK0s : List Nat := [65, 101, 139]
/-- what is known of the slots behind the constructors -/
def yfr (S : yS) : Bool := (List.range 73).all (fun s => decide (gI S s = yI0.getD s 0)) && (List.range 4).all (fun s => decide (gJ S s = yJ0.getD s 0)) && (List.range 3).all (fun s => decide (gK S s = yK0s.getD s 0)) && (List.range 46).all (fun j => decide (gB S 10 j = yKw j)) && decide (gA S 30 27 = 0) && decide (gB S 9 27 = 0) && decide (gA S 31 27 = 0) && decide (gA S 4 0 = 0) && decide (gA S 5 0 = 0)
def yh0 : List xO := (xB0 0 fun _ => 0).set 73 xUn
def ym1 (v : Value) : Option (List xO) := match xrun (xPrg v) 75 4000 30 158 0 (xentry [.ref 75] (xP_ml (xPrg v) 158)) [] (yh0 ++ [.inr (10, xP_fd (xPrg v) 10)]) with
  | some (.inl none, H) => some H
  | _ => none
def ym2 (v : Value) (H : List xO) : Option (List xO) := match xrun (xPrg v) 75 20000 30 184 0 (xentry [.ref 129] (xP_ml (xPrg v) 184)) [] (H ++ [.inr (12, xP_fd (xPrg v) 12)]) with
  | some (.inl none, H) => some H
  | _ => none
def yout : xO := .inl (1, 1, .inr (.inl fun _ => 0))
def yck (v : Value) : Bool := match ym1 v with
  | some H2 => Nat.beq H2.length 129 && (match ym2 v H2 with
    | some H4 => Nat.beq H4.length 178 && ycos 0 yT ((H4 ++ [yout]).drop 75) && yfr (yext (H4 ++ [yout]))
    | none => false)
  | none => false
set_option maxRecDepth 100000 in
theorem yck_n : yck .null = true := by decide +kernel
set_option maxRecDepth 100000 in
theorem yck_r : yck (.ref 74) = true := by decide +kernel
end YN
