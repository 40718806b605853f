/-! taken from whole by wip/p27/slice.py: 55.code.lean.txt -/
section YCU
/-- a unit's thing, its room -/
def cu (u : Nat) : Nat := match u with
  | 0 => 107
  | _ => 117
section YCUL
variable {q : yQ} {d : Nat} {js : List xO} {S : yS} {u : Nat}
end YCUL
end YCU
