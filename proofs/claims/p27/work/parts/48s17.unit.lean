/-! taken from whole by wip/p27/slice2.py: 62b.unit.lean.txt -/
section YUN
variable {q : yQ} {d : Nat} {js : List xO} {S : yS} {u : Nat}
theorem v63_15 {x0 : Int} {x1 : Int} {x2 : Int} (hu : u = 0 ∨ u = 1) (hk : gK S 1 = cu u) : Y q (d + 1) 63 15 [vr 122, vi x0, vi x1, vi x2, vu, vu, vu] [] S js = YB q (Y q d 20 0 [vr (cu u), vi 29, vj 0, vu, vu] [] S js) (d + 1) 63 22 [vr 122, vi x0, vi x1, vi x2, vu, vu, vu] [] := by
  rcases hu with rfl | rfl
  · have hk : gK S 1 = 107 := hk
    rw [w63_15, if_pos hk, w63_19]
    rfl
  · have hk : gK S 1 = 117 := hk
    rw [w63_15, if_neg (by omega), if_pos hk, w63_19x]
    rfl
theorem v63_25 {x0 : Int} {x1 : Int} {x2 : Int} {x3 : Int} (hu : u = 0 ∨ u = 1) (hk : gK S 1 = cu u) : Y q (d + 1) 63 25 [vr 122, vi x0, vi x1, vi x2, vu, vu, vu] [vi x3] S js = YB q (Y q d 20 0 [vr (cu u), vi 0, vj 1, vu, vu] [] S js) (d + 1) 63 33 [vr 122, vi x0, vi x1, vi x2, vi x3, vu, vu] [] := by
  rcases hu with rfl | rfl
  · have hk : gK S 1 = 107 := hk
    rw [w63_25, if_pos hk, w63_31]
    rfl
  · have hk : gK S 1 = 117 := hk
    rw [w63_25, if_neg (by omega), if_pos hk, w63_31x]
    rfl
theorem v63_36 {x0 : Int} {x1 : Int} {x2 : Int} {x3 : Int} {x4 : Int} (hu : u = 0 ∨ u = 1) (hk : gK S 1 = cu u) : Y q (d + 1) 63 36 [vr 122, vi x0, vi x1, vi x2, vi x3, vu, vu] [vi x4] S js = YB q (Y q d 20 0 [vr (cu u), vi 28, vj 0, vu, vu] [] S js) (d + 1) 63 44 [vr 122, vi x0, vi x1, vi x2, vi x3, vu, vu] [] := by
  rcases hu with rfl | rfl
  · have hk : gK S 1 = 107 := hk
    rw [w63_36, if_pos hk, w63_41]
    rfl
  · have hk : gK S 1 = 117 := hk
    rw [w63_36, if_neg (by omega), if_pos hk, w63_41x]
    rfl
theorem v63_47 {x0 : Int} {x1 : Int} {x2 : Int} {x3 : Int} {x4 : Int} (hu : u = 0 ∨ u = 1) (hk : gK S 1 = cu u) : Y q (d + 1) 63 47 [vr 122, vi x0, vi x1, vi x2, vi x3, vu, vu] [vi x4] S js = YB q (Y q d 24 0 [vr (cu u), vi x3] [] S js) (d + 1) 63 55 [vr 122, vi x0, vi x1, vi x2, vi x3, vi x4, vu] [] := by
  rcases hu with rfl | rfl
  · have hk : gK S 1 = 107 := hk
    rw [w63_47, if_pos hk, w63_53]
    rfl
  · have hk : gK S 1 = 117 := hk
    rw [w63_47, if_neg (by omega), if_pos hk, w63_53x]
    rfl
theorem v63_64 {x0 : Int} {x1 : Int} {x2 : Int} {x3 : Int} {x4 : Int} {x5 : Int} (hu : u = 0 ∨ u = 1) (hk : gK S 1 = cu u) : Y q (d + 1) 63 64 [vr 122, vi x0, vi x1, vi x2, vi x3, vi x4, vu] [vi x5] S js = YB q (Y q d 20 0 [vr (cu u), vi 18, vj 0, vu, vu] [] S js) (d + 1) 63 73 [vr 122, vi x0, vi x1, vi x2, vi x3, vi x4, vi x5] [] := by
  rcases hu with rfl | rfl
  · have hk : gK S 1 = 107 := hk
    rw [w63_64, if_pos hk, w63_70]
    rfl
  · have hk : gK S 1 = 117 := hk
    rw [w63_64, if_neg (by omega), if_pos hk, w63_70x]
    rfl
theorem v63_76 {x0 : Int} {x1 : Int} {x2 : Int} {x3 : Int} {x4 : Int} {x5 : Int} {x6 : Int} (hu : u = 0 ∨ u = 1) (hk : gK S 1 = cu u) : Y q (d + 1) 63 76 [vr 122, vi x0, vi x1, vi x2, vi x3, vi x4, vi x5] [vi x6] S js = YB q (Y q d 20 0 [vr (cu u), vi 18, vj 0, vu, vu] [] S js) (d + 1) 63 84 [vr 122, vi x0, vi x1, vi x2, vi x3, vi x4, vi x5] [] := by
  rcases hu with rfl | rfl
  · have hk : gK S 1 = 107 := hk
    rw [w63_76, if_pos hk, w63_81]
    rfl
  · have hk : gK S 1 = 117 := hk
    rw [w63_76, if_neg (by omega), if_pos hk, w63_81x]
    rfl
theorem v63_87 {x0 : Int} {x1 : Int} {x2 : Int} {x3 : Int} {x4 : Int} {x5 : Int} {x6 : Int} (hu : u = 0 ∨ u = 1) (hk : gK S 1 = cu u) : Y q (d + 1) 63 87 [vr 122, vi x0, vi x1, vi x2, vi x3, vi x4, vi x5] [vi x6] S js = YB q (Y q d 24 0 [vr (cu u), vi x4] [] S js) (d + 1) 63 94 [vr 122, vi x0, vi x1, vi x2, vi x3, vi x4, vi x5] [] := by
  rcases hu with rfl | rfl
  · have hk : gK S 1 = 107 := hk
    rw [w63_87, if_pos hk, w63_92]
    rfl
  · have hk : gK S 1 = 117 := hk
    rw [w63_87, if_neg (by omega), if_pos hk, w63_92x]
    rfl
theorem v64_15 {x0 : Int} {x1 : Int} {x2 : Int} (hu : u = 0 ∨ u = 1) (hk : gK S 1 = cu u) : Y q (d + 1) 64 15 [vr 122, vi x0, vi x1, vi x2, vu, vu, vu, vu] [] S js = YB q (Y q d 20 0 [vr (cu u), vi 29, vj 0, vu, vu] [] S js) (d + 1) 64 22 [vr 122, vi x0, vi x1, vi x2, vu, vu, vu, vu] [] := by
  rcases hu with rfl | rfl
  · have hk : gK S 1 = 107 := hk
    rw [w64_15, if_pos hk, w64_19]
    rfl
  · have hk : gK S 1 = 117 := hk
    rw [w64_15, if_neg (by omega), if_pos hk, w64_19x]
    rfl
theorem v64_33 {x0 : Int} {x1 : Int} {x2 : Int} {x3 : Int} {x4 : Int} (hu : u = 0 ∨ u = 1) (hk : gK S 1 = cu u) : Y q (d + 1) 64 33 [vr 122, vi x0, vi x1, vi x2, vi x3, vu, vu, vu] [vi x4] S js = YB q (Y q d 20 0 [vr (cu u), vi 29, vj 0, vu, vu] [] S js) (d + 1) 64 42 [vr 122, vi x0, vi x1, vi x2, vi x3, vi x4, vu, vu] [] := by
  rcases hu with rfl | rfl
  · have hk : gK S 1 = 107 := hk
    rw [w64_33, if_pos hk, w64_39]
    rfl
  · have hk : gK S 1 = 117 := hk
    rw [w64_33, if_neg (by omega), if_pos hk, w64_39x]
    rfl
theorem v64_45 {x0 : Int} {x1 : Int} {x2 : Int} {x3 : Int} {x4 : Int} {x5 : Int} (hu : u = 0 ∨ u = 1) (hk : gK S 1 = cu u) : Y q (d + 1) 64 45 [vr 122, vi x0, vi x1, vi x2, vi x3, vi x4, vu, vu] [vi x5] S js = YB q (Y q d 20 0 [vr (cu u), vi 0, vj 1, vu, vu] [] S js) (d + 1) 64 53 [vr 122, vi x0, vi x1, vi x2, vi x3, vi x4, vi x5, vu] [] := by
  rcases hu with rfl | rfl
  · have hk : gK S 1 = 107 := hk
    rw [w64_45, if_pos hk, w64_51]
    rfl
  · have hk : gK S 1 = 117 := hk
    rw [w64_45, if_neg (by omega), if_pos hk, w64_51x]
    rfl
theorem v64_56 {x0 : Int} {x1 : Int} {x2 : Int} {x3 : Int} {x4 : Int} {x5 : Int} {x6 : Int} (hu : u = 0 ∨ u = 1) (hk : gK S 1 = cu u) : Y q (d + 1) 64 56 [vr 122, vi x0, vi x1, vi x2, vi x3, vi x4, vi x5, vu] [vi x6] S js = YB q (Y q d 20 0 [vr (cu u), vi 28, vj 0, vu, vu] [] S js) (d + 1) 64 64 [vr 122, vi x0, vi x1, vi x2, vi x3, vi x4, vi x5, vu] [] := by
  rcases hu with rfl | rfl
  · have hk : gK S 1 = 107 := hk
    rw [w64_56, if_pos hk, w64_61]
    rfl
  · have hk : gK S 1 = 117 := hk
    rw [w64_56, if_neg (by omega), if_pos hk, w64_61x]
    rfl
theorem v64_67 {x0 : Int} {x1 : Int} {x2 : Int} {x3 : Int} {x4 : Int} {x5 : Int} {x6 : Int} (hu : u = 0 ∨ u = 1) (hk : gK S 1 = cu u) : Y q (d + 1) 64 67 [vr 122, vi x0, vi x1, vi x2, vi x3, vi x4, vi x5, vu] [vi x6] S js = YB q (Y q d 24 0 [vr (cu u), vi x3] [] S js) (d + 1) 64 75 [vr 122, vi x0, vi x1, vi x2, vi x3, vi x4, vi x5, vi x6] [] := by
  rcases hu with rfl | rfl
  · have hk : gK S 1 = 107 := hk
    rw [w64_67, if_pos hk, w64_73]
    rfl
  · have hk : gK S 1 = 117 := hk
    rw [w64_67, if_neg (by omega), if_pos hk, w64_73x]
    rfl
theorem v64_78 {x0 : Int} {x1 : Int} {x2 : Int} {x3 : Int} {x4 : Int} {x5 : Int} {x6 : Int} (hu : u = 0 ∨ u = 1) (hk : gK S 1 = cu u) : Y q (d + 1) 64 78 [vr 122, vi x0, vi x1, vi x2, vi x3, vi x4, vi x5, vi x6] [] S js = YB q (Y q d 24 0 [vr (cu u), vi x5] [] S js) (d + 1) 64 84 [vr 122, vi x0, vi x1, vi x2, vi x3, vi x4, vi x5, vi x6] [] := by
  rcases hu with rfl | rfl
  · have hk : gK S 1 = 107 := hk
    rw [w64_78, if_pos hk, w64_82]
    rfl
  · have hk : gK S 1 = 117 := hk
    rw [w64_78, if_neg (by omega), if_pos hk, w64_82x]
    rfl
theorem v64_87 {x0 : Int} {x1 : Int} {x2 : Int} {x3 : Int} {x4 : Int} {x5 : Int} {x6 : Int} (hu : u = 0 ∨ u = 1) (hk : gK S 1 = cu u) : Y q (d + 1) 64 87 [vr 122, vi x0, vi x1, vi x2, vi x3, vi x4, vi x5, vi x6] [] S js = YB q (Y q d 20 0 [vr (cu u), vi 0, vj 0, vu, vu] [] S js) (d + 1) 64 93 [vr 122, vi x0, vi x1, vi x2, vi x3, vi x4, vi x5, vi x6] [] := by
  rcases hu with rfl | rfl
  · have hk : gK S 1 = 107 := hk
    rw [w64_87, if_pos hk, w64_91]
    rfl
  · have hk : gK S 1 = 117 := hk
    rw [w64_87, if_neg (by omega), if_pos hk, w64_91x]
    rfl
theorem v64_96 {x0 : Int} {x1 : Int} {x2 : Int} {x3 : Int} {x4 : Int} {x5 : Int} {x6 : Int} {x7 : Int} (hu : u = 0 ∨ u = 1) (hk : gK S 1 = cu u) : Y q (d + 1) 64 96 [vr 122, vi x0, vi x1, vi x2, vi x3, vi x4, vi x5, vi x6] [vi x7] S js = YB q (Y q d 24 0 [vr (cu u), vi x6] [] S js) (d + 1) 64 103 [vr 122, vi x0, vi x1, vi x2, vi x3, vi x4, vi x5, vi x6] [] := by
  rcases hu with rfl | rfl
  · have hk : gK S 1 = 107 := hk
    rw [w64_96, if_pos hk, w64_101]
    rfl
  · have hk : gK S 1 = 117 := hk
    rw [w64_96, if_neg (by omega), if_pos hk, w64_101x]
    rfl
theorem v65_62 {x0 : Int} {x1 : Int} {x2 : Int} {x3 : Nat} {x4 : Int} {x5 : Int} (hu : u = 0 ∨ u = 1) (hk : gK S 1 = cu u) : Y q (d + 1) 65 62 [vr 122, vi x0, vi x1, vi x2, vr x3, vi x4, vi x5] [] S js = YB q (Y q d 20 0 [vr (cu u), vi 11, vj 0, vu, vu] [] S js) (d + 1) 65 69 [vr 122, vi x0, vi x1, vi x2, vr x3, vi x4, vi x5] [] := by
  rcases hu with rfl | rfl
  · have hk : gK S 1 = 107 := hk
    rw [w65_62, if_pos hk, w65_66]
    rfl
  · have hk : gK S 1 = 117 := hk
    rw [w65_62, if_neg (by omega), if_pos hk, w65_66x]
    rfl
theorem v62_37 {x0 : Nat} (hu : u = 0 ∨ u = 1) (hk : gK S 1 = cu u) : Y q (d + 1) 62 37 [vr 122, vr x0] [] S js = if x0 < 67 then YB q (Y q d 20 0 [vr (cu u), vi 5, vj (yi2l (yKn x0)), vu, vu] [] S js) (d + 1) 62 47 [vr 122, vr x0] [] else Y q (d + 1) 62 43 [vr 122, vr x0] [vr x0, vi 5, vr (cu u)] S js := by
  rcases hu with rfl | rfl
  · have hk : gK S 1 = 107 := hk
    rw [w62_37, if_pos hk, w62_41]
    rfl
  · have hk : gK S 1 = 117 := hk
    rw [w62_37, if_neg (by omega), if_pos hk, w62_41x]
    rfl
theorem v53_75 {x0 : Int} {x1 : Int} {x2 : Int64} (hu : u = 0 ∨ u = 1) (hk : gK S 1 = cu u) : Y q (d + 1) 53 75 [vr 122, vi x0, vi x1, vj x2, vu] [] S js = YB q (Y q d 20 0 [vr (cu u), vi 0, vj x2, vu, vu] [] S js) (d + 1) 53 81 [vr 122, vi x0, vi x1, vj x2, vu] [] := by
  rcases hu with rfl | rfl
  · have hk : gK S 1 = 107 := hk
    rw [w53_75, if_pos hk, w53_79]
    rfl
  · have hk : gK S 1 = 117 := hk
    rw [w53_75, if_neg (by omega), if_pos hk, w53_79x]
    rfl
theorem v60_218 {x0 : Int} {x1 : Nat} {x2 : Int} {x3 : Int} {x4 : Int} {x5 : Int} {x6 : Int} {x7 : yV} (hu : u = 0 ∨ u = 1) (hk : gK S 1 = cu u) : Y q (d + 1) 60 218 [vr 122, vi x0, vr x1, vi x2, vi x3, vi x4, vi x5, vi x6, x7] [] S js = if x1 < 67 then YB q (Y q d 20 0 [vr (cu u), vi (yKn x1), vj 0, vu, vu] [] S js) (d + 1) 60 227 [vr 122, vi x0, vr x1, vi x2, vi x3, vi x4, vi x5, vi x6, x7] [] else Y q (d + 1) 60 223 [vr 122, vi x0, vr x1, vi x2, vi x3, vi x4, vi x5, vi x6, x7] [vr x1, vr (cu u)] S js := by
  rcases hu with rfl | rfl
  · have hk : gK S 1 = 107 := hk
    rw [w60_218, if_pos hk, w60_222]
    rfl
  · have hk : gK S 1 = 117 := hk
    rw [w60_218, if_neg (by omega), if_pos hk, w60_222x]
    rfl
end YUN
