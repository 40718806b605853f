/-! THE LAW'S PROGRAM, AND WHAT ITS READING COMES TO: printed by wip/p27/gen49c.py -/
section YEV
def zqA : List Nat := [112, 97, 103, 101, 32, 50, 52, 32]
def zqB : List Nat := [32, 111, 114, 100, 101, 114, 32, 103, 32, 103, 114, 111, 117, 112, 32, 103, 32, 116, 111, 116, 97, 108, 32, 97, 32, 61, 32, 115, 117, 109, 32, 118, 32, 116, 111, 116, 97, 108, 32, 98, 32, 61, 32, 115, 117, 109, 32, 118, 32, 112, 101, 114, 32, 103, 32, 116, 111, 116, 97, 108, 32, 112, 32, 61, 32, 99, 111, 117, 110, 116, 32, 118, 32, 112, 101, 114, 32, 112, 97, 103, 101, 32, 98, 97, 110, 100, 32, 116, 111, 112, 32, 108, 105, 110, 101, 32, 112, 97, 103, 101, 110, 111, 32, 58, 32, 52, 32, 112, 97, 103, 101, 115, 32, 58, 32, 52, 32, 101, 110, 100, 32, 98, 97, 110, 100, 32, 114, 111, 119, 32, 108, 105, 110, 101, 32, 118, 32, 58, 32, 53, 32, 103, 32, 58, 32, 51, 32, 112, 32, 58, 32, 52, 32, 101, 110, 100, 32, 98, 97, 110, 100, 32, 97, 102, 116, 101, 114, 32, 103, 32, 108, 105, 110, 101, 32, 34, 61, 34, 32, 98, 32, 58, 32, 55, 32, 98, 32, 58, 32, 56, 32, 101, 110, 100, 32, 98, 97, 110, 100, 32, 115, 117, 109, 109, 97, 114, 121, 32, 108, 105, 110, 101, 32, 34, 43, 34, 32, 97, 32, 58, 32, 55, 32, 101, 110, 100]
/-- a height's digits -/
def zqD (h : Nat) : List Nat := if h < 10 then [48 + h] else [48 + h / 10, 48 + h % 10]
def zqT (h : Nat) : List Nat := zqA ++ zqD h ++ zqB
def zqn (h : Nat) : Nat := (zqT h).length
def zqt (h j : Nat) : Int := (((zqT h).getD j 32 : Nat) : Int)
/-- a text's bytes, as the class cuts them out -/
def zqX (h p m : Nat) : List Int := (List.range m).map fun i => yi2b (yi2b (if (0 : Int) ≤ ((p + i : Nat) : Int) ∧ ((p + i : Nat) : Int) < ((zqn h : Nat) : Int) then zqt h (((p + i : Nat) : Int).toNat) else 0))
/-- the columns -/
def zqF (v : Int64) : Int := yfind (fun k => if k = 0 then 103 else 118) v 2 0
def zqG (h : Nat) : yGx := (yTf (ytq (zqt h) (zqn h)), (ytq (zqt h) (zqn h)).length, zqX h, zqF, 2, (fun _ => 0), yRm0 (zqt h) (zqn h), yRx (zqt h) (zqn h))
def zqC : List (Nat × Int64) := [(2, 1), (30, 0), (2, 1), (30, 0), (2, 1), (30, 0), (5, 0), (30, 0), (5, 1), (30, 0), (2, 1), (30, 0), (2, 0), (30, 0), (4, 2), (30, 0), (1, 0), (30, 0), (4, 1), (30, 0), (4, 1), (30, 0), (1, 1), (30, 0), (4, 0), (30, 0)]
def zqI : List yIe := [(13, 0, 0, 4), (22, 0, 0, 4), (32, 4, 6, 3), (32, 4, 8, 4), (13, 0, 0, 9), (22, 0, 0, 9), (32, 5, 10, 7), (32, 3, 12, 8), (32, 4, 14, 9), (13, 0, 0, 14), (22, 0, 0, 14), (31, 0, 16, 12), (32, 7, 18, 13), (32, 8, 20, 14), (13, 0, 0, 18), (22, 0, 0, 18), (31, 0, 22, 17), (32, 7, 24, 18)]
def zqTo : List yDf := [(97, 0, 0, 6, -2), (98, 0, 2, 6, 0), (112, 0, 4, 7, -1)]
def zqBn (V : yPV) (j : Nat) : Int := match qzB V j with
  | none => -1
  | some (i, _) => (i : Int)
def zqk (h : Nat) (V : yPV) : Bool := decide (qzPg V = (1, 24, h)) && (decide (qzO V = [(0, 0)]) && (decide (qzG V = [0]) && (decide (qzL V = []) && (decide (qzT V = zqTo) && (decide (qzC V = zqC) && (decide (yTexts (zqX h) (qzX V) = [[61], [43]]) && (decide (qzI V = zqI) && (List.range 11).all fun j => decide (zqBn V j = zA26.getD j 0))))))))
def zqs (h : Nat) : yPS := sfin (zqn h) (sprc (zqG h) (.inr (0, .inr yV0)))
def zqck (h : Nat) : Bool := match zqs h with
  | .inr (_, .inr V) => zqk h V
  | _ => false
set_option maxRecDepth 100000 in
theorem zqck_5 : zqck 5 = true := by decide +kernel
set_option maxRecDepth 100000 in
theorem zqck_6 : zqck 6 = true := by decide +kernel
set_option maxRecDepth 100000 in
theorem zqck_7 : zqck 7 = true := by decide +kernel
set_option maxRecDepth 100000 in
theorem zqck_8 : zqck 8 = true := by decide +kernel
set_option maxRecDepth 100000 in
theorem zqck_9 : zqck 9 = true := by decide +kernel
set_option maxRecDepth 100000 in
theorem zqck_10 : zqck 10 = true := by decide +kernel
end YEV
