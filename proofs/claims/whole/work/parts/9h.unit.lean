/-! ROWS OF THE REFERENCE's MACHINE that name the unit; printed by wip/whole/z/gen9h.py -/
section YUR
/-- the rows of bytes that are pushed: of the program, of a formula, of values -/
def rth (u : Nat) : Nat := match u with
  | 0 => 142
  | 1 => 148
  | _ => 173
def rsl (u : Nat) : Nat := match u with
  | 0 => 8
  | 1 => 9
  | _ => 60
def rcp (u : Nat) : Int := match u with
  | 0 => 2000
  | 1 => 2000
  | _ => 960
variable {q : yQ} {d : Nat} {js : List xO} {S : yS} {u : Nat}
theorem u258_0 (hu : u = 0 ∨ u = 1) {x0 : Int} : Y q d 258 0 [vr 129, vr (ru u), vi x0, vu, vu, vu, vu] [] S js = Y q d 258 7 [vr 129, vr (ru u), vi x0, vi x0, vu, vu, vu] [] (sI S 63 0) js := by
  rcases hu with rfl | rfl
  · exact w258b_0 q d js S x0
  · exact w258_0 q d js S x0
theorem u258_7 (hu : u = 0 ∨ u = 1) {x0 : Int} {x1 : Int} {x2 : yV} {x3 : yV} : Y q (d + 1) 258 7 [vr 129, vr (ru u), vi x0, vi x1, x2, x3, vu] [] S js = if 0 ≤ yr x1 ∧ yr x1 < 8000 then if yr (gA S (6 + u) ((yr x1).toNat)) = yr 30 then yretv q S js else if 0 ≤ yr x1 ∧ yr x1 < 8000 then if 0 ≤ yr x1 ∧ yr x1 < 8000 then if yr (gA S (6 + u) ((yr x1).toNat)) = yr 28 then Y q (d + 1) 258 7 [vr 129, vr (ru u), vi x0, vi (yl2i (gB S (2 + u) ((yr x1).toNat))), vi (gA S (6 + u) ((yr x1).toNat)), vj (gB S (2 + u) ((yr x1).toNat)), vu] [] S js else if yr (gA S (6 + u) ((yr x1).toNat)) = yr 29 then if 0 ≤ yr ((gI S 63) - 1) ∧ yr ((gI S 63) - 1) < 128 then if yr (ylcmp (gB S 16 ((yr ((gI S 63) - 1)).toNat)) 0) = 0 then Y q (d + 1) 258 7 [vr 129, vr (ru u), vi x0, vi (yl2i (gB S (2 + u) ((yr x1).toNat))), vi (gA S (6 + u) ((yr x1).toNat)), vj (gB S (2 + u) ((yr x1).toNat)), vu] [] (sI S 63 ((gI S 63) - 1)) js else Y q (d + 1) 258 7 [vr 129, vr (ru u), vi x0, vi (x1 + 1), vi (gA S (6 + u) ((yr x1).toNat)), vj (gB S (2 + u) ((yr x1).toNat)), vu] [] (sI S 63 ((gI S 63) - 1)) js else Y q (d + 1) 258 76 [vr 129, vr (ru u), vi x0, vi (x1 + 1), vi (gA S (6 + u) ((yr x1).toNat)), vj (gB S (2 + u) ((yr x1).toNat)), vu] [vi ((gI S 63) - 1), vr 168] (sI S 63 ((gI S 63) - 1)) js else if yr 5 < yr (gA S (6 + u) ((yr x1).toNat)) then if yr (gA S (6 + u) ((yr x1).toNat)) < yr 11 then YB q (Y q d 267 0 [vr 129, vi (gA S (6 + u) ((yr x1).toNat)), vu, vu, vu, vu] [] S js) (d + 1) 258 131 [vr 129, vr (ru u), vi x0, vi (x1 + 1), vi (gA S (6 + u) ((yr x1).toNat)), vj (gB S (2 + u) ((yr x1).toNat)), vu] [] else if yr (gA S (6 + u) ((yr x1).toNat)) = yr 26 then YB q (Y q d 267 0 [vr 129, vi (gA S (6 + u) ((yr x1).toNat)), vu, vu, vu, vu] [] S js) (d + 1) 258 131 [vr 129, vr (ru u), vi x0, vi (x1 + 1), vi (gA S (6 + u) ((yr x1).toNat)), vj (gB S (2 + u) ((yr x1).toNat)), vu] [] else if yr (gA S (6 + u) ((yr x1).toNat)) = yr 27 then YB q (Y q d 267 0 [vr 129, vi (gA S (6 + u) ((yr x1).toNat)), vu, vu, vu, vu] [] S js) (d + 1) 258 131 [vr 129, vr (ru u), vi x0, vi (x1 + 1), vi (gA S (6 + u) ((yr x1).toNat)), vj (gB S (2 + u) ((yr x1).toNat)), vu] [] else if yr (gA S (6 + u) ((yr x1).toNat)) = yr 11 then YB q (Y q d 268 0 [vr 129, vu] [] S js) (d + 1) 258 145 [vr 129, vr (ru u), vi x0, vi (x1 + 1), vi (gA S (6 + u) ((yr x1).toNat)), vj (gB S (2 + u) ((yr x1).toNat)), vu] [] else if yr (gA S (6 + u) ((yr x1).toNat)) < yr 18 then YB q (Y q d 269 0 [vr 129, vi ((gA S (6 + u) ((yr x1).toNat)) - 12), vu] [] S js) (d + 1) 258 164 [vr 129, vr (ru u), vi x0, vi (x1 + 1), vi (gA S (6 + u) ((yr x1).toNat)), vj (gB S (2 + u) ((yr x1).toNat)), vu] [] else YB q (Y q d 271 0 [vr 129, vi (gA S (6 + u) ((yr x1).toNat)), vu, vu, vu, vu] [] S js) (d + 1) 258 173 [vr 129, vr (ru u), vi x0, vi (x1 + 1), vi (gA S (6 + u) ((yr x1).toNat)), vj (gB S (2 + u) ((yr x1).toNat)), vu] [] else YB q (Y q d 259 0 [vr 129, vr (ru u), vi (gA S (6 + u) ((yr x1).toNat)), vj (gB S (2 + u) ((yr x1).toNat)), vu, vu] [] S js) (d + 1) 258 101 [vr 129, vr (ru u), vi x0, vi (x1 + 1), vi (gA S (6 + u) ((yr x1).toNat)), vj (gB S (2 + u) ((yr x1).toNat)), vu] [] else Y q (d + 1) 258 31 [vr 129, vr (ru u), vi x0, vi x1, vi (gA S (6 + u) ((yr x1).toNat)), x3, vu] [vi x1, vr (ru u + 2)] S js else Y q (d + 1) 258 23 [vr 129, vr (ru u), vi x0, vi x1, x2, x3, vu] [vi x1, vr (ru u + 1)] S js else Y q (d + 1) 258 12 [vr 129, vr (ru u), vi x0, vi x1, x2, x3, vu] [vi x1, vr (ru u + 1)] S js := by
  rcases hu with rfl | rfl
  · exact w258b_7 q d js S x0 x1 x2 x3
  · exact w258_7 q d js S x0 x1 x2 x3
theorem u258_104 (hu : u = 0 ∨ u = 1) {x0 : Int} {x1 : Int} {x2 : Int} {x3 : Int64} : Y q d 258 104 [vr 129, vr (ru u), vi x0, vi x1, vi x2, vj x3, vu] [] S js = Y q d 258 7 [vr 129, vr (ru u), vi x0, vi x1, vi x2, vj x3, vu] [] S js := by
  rcases hu with rfl | rfl
  · exact w258b_104 q d js S x0 x1 x2 x3
  · exact w258_104 q d js S x0 x1 x2 x3
theorem u258_134 (hu : u = 0 ∨ u = 1) {x0 : Int} {x1 : Int} {x2 : Int} {x3 : Int64} : Y q d 258 134 [vr 129, vr (ru u), vi x0, vi x1, vi x2, vj x3, vu] [] S js = Y q d 258 7 [vr 129, vr (ru u), vi x0, vi x1, vi x2, vj x3, vu] [] S js := by
  rcases hu with rfl | rfl
  · exact w258b_134 q d js S x0 x1 x2 x3
  · exact w258_134 q d js S x0 x1 x2 x3
theorem u258_148 (hu : u = 0 ∨ u = 1) {x0 : Int} {x1 : Int} {x2 : Int} {x3 : Int64} : Y q d 258 148 [vr 129, vr (ru u), vi x0, vi x1, vi x2, vj x3, vu] [] S js = Y q d 258 7 [vr 129, vr (ru u), vi x0, vi x1, vi x2, vj x3, vu] [] S js := by
  rcases hu with rfl | rfl
  · exact w258b_148 q d js S x0 x1 x2 x3
  · exact w258_148 q d js S x0 x1 x2 x3
theorem u258_167 (hu : u = 0 ∨ u = 1) {x0 : Int} {x1 : Int} {x2 : Int} {x3 : Int64} : Y q d 258 167 [vr 129, vr (ru u), vi x0, vi x1, vi x2, vj x3, vu] [] S js = Y q d 258 7 [vr 129, vr (ru u), vi x0, vi x1, vi x2, vj x3, vu] [] S js := by
  rcases hu with rfl | rfl
  · exact w258b_167 q d js S x0 x1 x2 x3
  · exact w258_167 q d js S x0 x1 x2 x3
theorem u258_176 (hu : u = 0 ∨ u = 1) {x0 : Int} {x1 : Int} {x2 : Int} {x3 : Int64} : Y q d 258 176 [vr 129, vr (ru u), vi x0, vi x1, vi x2, vj x3, vu] [] S js = Y q d 258 7 [vr 129, vr (ru u), vi x0, vi x1, vi x2, vj x3, vu] [] S js := by
  rcases hu with rfl | rfl
  · exact w258b_176 q d js S x0 x1 x2 x3
  · exact w258_176 q d js S x0 x1 x2 x3
theorem u259_0 (hu : u = 0 ∨ u = 1) {x0 : Int} {x1 : Int64} : Y q (d + 1) 259 0 [vr 129, vr (ru u), vi x0, vj x1, vu, vu] [] S js = if yr x0 = 0 then YB q (Y q d 260 0 [vr 129, vj x1, vu] [] S js) (d + 1) 259 42 [vr 129, vr (ru u), vi x0, vj x1, vu, vi (yl2i x1)] [] else if yr x0 = 1 then if 0 ≤ yr (yl2i x1) ∧ yr (yl2i x1) < 2000 then if 0 ≤ yr (yl2i x1) ∧ yr (yl2i x1) < 2000 then YB q (Y q d 261 0 [vr 129, vr (rth u), vi (gA S (10 + u) ((yr (yl2i x1)).toNat)), vi (gA S (12 + u) ((yr (yl2i x1)).toNat)), vu] [] S js) (d + 1) 259 67 [vr 129, vr (ru u), vi x0, vj x1, vu, vi (yl2i x1)] [] else Y q (d + 1) 259 66 [vr 129, vr (ru u), vi x0, vj x1, vu, vi (yl2i x1)] [vi (yl2i x1), vr (ru u + 5), vi (gA S (10 + u) ((yr (yl2i x1)).toNat)), vr (rth u), vr 129] S js else Y q (d + 1) 259 59 [vr 129, vr (ru u), vi x0, vj x1, vu, vi (yl2i x1)] [vi (yl2i x1), vr (ru u + 4), vr (rth u), vr 129] S js else if yr x0 = 2 then YB q (Y q d 264 0 [vr 129, vi (yl2i x1), vu, vu, vu] [] S js) (d + 1) 259 76 [vr 129, vr (ru u), vi x0, vj x1, vu, vi (yl2i x1)] [] else if yr x0 = 3 then YB q (Y q d 265 0 [vr 129, vi (yl2i x1)] [] S js) (d + 1) 259 85 [vr 129, vr (ru u), vi x0, vj x1, vu, vi (yl2i x1)] [] else if yr x0 = 4 then YB q (Y q d 265 0 [vr 129, vi (8 + (yl2i x1))] [] S js) (d + 1) 259 97 [vr 129, vr (ru u), vi x0, vj x1, vu, vi (yl2i x1)] [] else YB q (Y q d 266 0 [vr 129, vi (yl2i x1)] [] S js) (d + 1) 259 107 [vr 129, vr (ru u), vi x0, vj x1, vu, vi (yl2i x1)] [vr 129] := by
  rcases hu with rfl | rfl
  · exact w259b_0 q d js S x0 x1
  · exact w259_0 q d js S x0 x1
theorem u259_45 (hu : u = 0 ∨ u = 1) {x0 : Int} {x1 : Int64} {x2 : Int} : Y q d 259 45 [vr 129, vr (ru u), vi x0, vj x1, vu, vi x2] [] S js = yretv q S js := by
  rcases hu with rfl | rfl
  · exact w259b_45 q d js S x0 x1 x2
  · exact w259_45 q d js S x0 x1 x2
theorem u259_70 (hu : u = 0 ∨ u = 1) {x0 : Int} {x1 : Int64} {x2 : Int} : Y q d 259 70 [vr 129, vr (ru u), vi x0, vj x1, vu, vi x2] [] S js = yretv q S js := by
  rcases hu with rfl | rfl
  · exact w259b_70 q d js S x0 x1 x2
  · exact w259_70 q d js S x0 x1 x2
theorem u259_79 (hu : u = 0 ∨ u = 1) {x0 : Int} {x1 : Int64} {x2 : Int} : Y q d 259 79 [vr 129, vr (ru u), vi x0, vj x1, vu, vi x2] [] S js = yretv q S js := by
  rcases hu with rfl | rfl
  · exact w259b_79 q d js S x0 x1 x2
  · exact w259_79 q d js S x0 x1 x2
theorem u259_88 (hu : u = 0 ∨ u = 1) {x0 : Int} {x1 : Int64} {x2 : Int} : Y q d 259 88 [vr 129, vr (ru u), vi x0, vj x1, vu, vi x2] [] S js = yretv q S js := by
  rcases hu with rfl | rfl
  · exact w259b_88 q d js S x0 x1 x2
  · exact w259_88 q d js S x0 x1 x2
theorem u259_100 (hu : u = 0 ∨ u = 1) {x0 : Int} {x1 : Int64} {x2 : Int} : Y q d 259 100 [vr 129, vr (ru u), vi x0, vj x1, vu, vi x2] [] S js = yretv q S js := by
  rcases hu with rfl | rfl
  · exact w259b_100 q d js S x0 x1 x2
  · exact w259_100 q d js S x0 x1 x2
theorem u259_110 (hu : u = 0 ∨ u = 1) {x0 : Int} {x1 : Int64} {x2 : Int} {x3 : Int64} : Y q (d + 1) 259 110 [vr 129, vr (ru u), vi x0, vj x1, vu, vi x2] [vj x3, vr 129] S js = YB q (Y q d 260 0 [vr 129, vj x3, vu] [] S js) (d + 1) 259 110 [vr 129, vr (ru u), vi x0, vj x1, vu, vi x2] [] := by
  rcases hu with rfl | rfl
  · exact w259b_110 q d js S x0 x1 x2 x3
  · exact w259_110 q d js S x0 x1 x2 x3
theorem u259_113 (hu : u = 0 ∨ u = 1) {x0 : Int} {x1 : Int64} {x2 : Int} : Y q d 259 113 [vr 129, vr (ru u), vi x0, vj x1, vu, vi x2] [] S js = yretv q S js := by
  rcases hu with rfl | rfl
  · exact w259b_113 q d js S x0 x1 x2
  · exact w259_113 q d js S x0 x1 x2
theorem u261_0 (hu : u = 0 ∨ u = 1 ∨ u = 2) {x0 : Int} {x1 : Int} : Y q (d + 1) 261 0 [vr 129, vr (rth u), vi x0, vi x1, vu] [] S js = YB q (Y q d 262 0 [vr 129, vi (gI S 63)] [] S js) (d + 1) 261 5 [vr 129, vr (rth u), vi x0, vi x1, vu] [] := by
  rcases hu with rfl | rfl | rfl
  · exact w261c_0 q d js S x0 x1
  · exact w261_0 q d js S x0 x1
  · exact w261b_0 q d js S x0 x1
theorem u261_8 (hu : u = 0 ∨ u = 1 ∨ u = 2) {x0 : Int} {x1 : Int} : Y q d 261 8 [vr 129, vr (rth u), vi x0, vi x1, vu] [] S js = Y q d 261 11 [vr 129, vr (rth u), vi x0, vi x1, vi 0] [] S js := by
  rcases hu with rfl | rfl | rfl
  · exact w261c_8 q d js S x0 x1
  · exact w261_8 q d js S x0 x1
  · exact w261b_8 q d js S x0 x1
theorem u261_11 (hu : u = 0 ∨ u = 1 ∨ u = 2) {x0 : Int} {x1 : Int} {x2 : Int} : Y q (d + 1) 261 11 [vr 129, vr (rth u), vi x0, vi x1, vi x2] [] S js = if yr x2 < yr x1 then if 0 ≤ yr (x0 + x2) ∧ yr (x0 + x2) < rcp u then YB q (Y q d 263 0 [vr 129, vi (gI S 63), vi (gA S (rsl u) ((yr (x0 + x2)).toNat))] [] S js) (d + 1) 261 28 [vr 129, vr (rth u), vi x0, vi x1, vi x2] [] else Y q (d + 1) 261 27 [vr 129, vr (rth u), vi x0, vi x1, vi x2] [vi (x0 + x2), vr (rth u), vi (gI S 63), vr 129] S js else yretv q (sI S 63 ((gI S 63) + 1)) js := by
  rcases hu with rfl | rfl | rfl
  · exact w261c_11 q d js S x0 x1 x2
  · exact w261_11 q d js S x0 x1 x2
  · exact w261b_11 q d js S x0 x1 x2
theorem u261_31 (hu : u = 0 ∨ u = 1 ∨ u = 2) {x0 : Int} {x1 : Int} {x2 : Int} : Y q d 261 31 [vr 129, vr (rth u), vi x0, vi x1, vi x2] [] S js = Y q d 261 11 [vr 129, vr (rth u), vi x0, vi x1, vi (x2 + 1)] [] S js := by
  rcases hu with rfl | rfl | rfl
  · exact w261c_31 q d js S x0 x1 x2
  · exact w261_31 q d js S x0 x1 x2
  · exact w261b_31 q d js S x0 x1 x2
end YUR
