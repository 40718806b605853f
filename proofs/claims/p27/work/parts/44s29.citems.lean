/-! taken from whole by wip/p27/slice.py: 9zw.citems.lean.txt -/
section YCK
section YCKL
variable {q : yQ} {d : Nat} {js : List xO} {S S' : yS} {a a' w : Int} {dp : Nat}
def yb1 (b : Bool) : Int := if b = true then 1 else 0
end YCKL
end YCK
