/-! taken from whole by wip/p27/slice.py: 9zzzza.turn.lean.txt -/
section YUB
section YUBL
variable {q : yQ} {d d' : Nat} {js ks : List xO} {S0 : yS} {t : Nat} {a : Int} {n : Nat} {B C S T : yS}
end YUBL
section YUBM
variable (q : yQ) (d : Nat) (js : List xO) (S : yS)
theorem w124_60 (x0 : Nat) (x1 : Int) (x2 : Int) : Y q d 124 60 [vr 131, vr x0, vi x1, vi x2] [] S js = if yr x2 = 0 then if yr 1 = 0 ∨ yr 1 = 1 then yret q (vi 1) S js else Y q d 124 69 [vr 131, vr x0, vi x1, vi x2] [vi 1] S js else if yr 0 = 0 ∨ yr 0 = 1 then yret q (vi 0) S js else Y q d 124 69 [vr 131, vr x0, vi x1, vi x2] [vi 0] S js := Y_xs [] [] 600
theorem w124_70 (x0 : Nat) (x1 : Int) (x2 : Int) : Y q d 124 70 [vr 131, vr x0, vi x1, vi x2] [] S js = if 0 < yr (gI S 38) then if yr x2 < yr x1 then if yr 1 = 0 ∨ yr 1 = 1 then yret q (vi 1) S js else Y q d 124 87 [vr 131, vr x0, vi x1, vi x2] [vi 1] S js else if yr 0 = 0 ∨ yr 0 = 1 then yret q (vi 0) S js else Y q d 124 87 [vr 131, vr x0, vi x1, vi x2] [vi 0] S js else if yr 0 = 0 ∨ yr 0 = 1 then yret q (vi 0) S js else Y q d 124 87 [vr 131, vr x0, vi x1, vi x2] [vi 0] S js := Y_xs [] [] 600
theorem w124_88 (x0 : Nat) (x1 : Int) (x2 : Int) : Y q d 124 88 [vr 131, vr x0, vi x1, vi x2] [] S js = if 0 < yr (gI S 38) then if yr 1 = 0 ∨ yr 1 = 1 then yret q (vi 1) S js else Y q d 124 100 [vr 131, vr x0, vi x1, vi x2] [vi 1] S js else if yr 0 = 0 ∨ yr 0 = 1 then yret q (vi 0) S js else Y q d 124 100 [vr 131, vr x0, vi x1, vi x2] [vi 0] S js := Y_xs [] [] 600
theorem w124_101 (x0 : Nat) (x1 : Int) (x2 : Int) : Y q d 124 101 [vr 131, vr x0, vi x1, vi x2] [] S js = if 0 < yr (gI S 38) then if yr x2 < yr x1 then if yr (gI S 36) < yr x1 then if yr 0 = 0 ∨ yr 0 = 1 then yret q (vi 0) S js else Y q d 124 126 [vr 131, vr x0, vi x1, vi x2] [vi 0] S js else if yr 1 = 0 ∨ yr 1 = 1 then yret q (vi 1) S js else Y q d 124 126 [vr 131, vr x0, vi x1, vi x2] [vi 1] S js else if yr 0 = 0 ∨ yr 0 = 1 then yret q (vi 0) S js else Y q d 124 126 [vr 131, vr x0, vi x1, vi x2] [vi 0] S js else if yr 0 = 0 ∨ yr 0 = 1 then yret q (vi 0) S js else Y q d 124 126 [vr 131, vr x0, vi x1, vi x2] [vi 0] S js := Y_xs [] [] 600
theorem w124_127 (x0 : Nat) (x1 : Int) (x2 : Int) : Y q d 124 127 [vr 131, vr x0, vi x1, vi x2] [] S js = if yr 0 = 0 ∨ yr 0 = 1 then yret q (vi 0) S js else Y q d 124 128 [vr 131, vr x0, vi x1, vi x2] [vi 0] S js := Y_xs [] [] 600
end YUBM
section YUBN
variable {q : yQ} {d : Nat} {js : List xO} {S : yS}
theorem k124_lk {L : List yV} {z : Int} {tgt : Nat} (hz : x_lsw 109 #[(18, 42), (20, 52), (21, 83), (28, 70)] 18 [.int (Int32.ofInt z)] = some (tgt, [])) : Y q d 124 18 L [vi z] S js = Y q d 124 tgt L [] S js := Y_ev1 (i := .lookupswitch 109 #[(18, 42), (20, 52), (21, 83), (28, 70)]) (n := 42) rfl ⟨rfl, fun _ _ _ => rfl, fun _ h => (nomatch h), (nomatch ·)⟩ (by
  show xr3 (L.map yval) (yH q S js) true (x_lsw 109 #[(18, 42), (20, 52), (21, 83), (28, 70)] 18 [.int (Int32.ofInt z)]) = _
  rw [hz]
  rfl)
/-- is there a break ahead of an item -/
def ywb (kd : Nat) (l : Int) (S : yS) : Bool := if kd = 22 then decide (yr (gI S 36 - gI S 38) = 0) else if kd = 25 then decide (0 < yr (gI S 38) ∧ yr (gI S 36 - gI S 38) < yr l) else if kd = 26 then decide (0 < yr (gI S 38)) else if kd = 27 then decide (0 < yr (gI S 38) ∧ yr (gI S 36 - gI S 38) < yr l ∧ ¬ yr (gI S 36) < yr l) else false
theorem ywb_22 {l : Int} : ywb 22 l S = decide (yr (gI S 36 - gI S 38) = 0) := rfl
theorem ywb_25 {l : Int} : ywb 25 l S = decide (0 < yr (gI S 38) ∧ yr (gI S 36 - gI S 38) < yr l) := rfl
theorem ywb_26 {l : Int} : ywb 26 l S = decide (0 < yr (gI S 38)) := rfl
theorem ywb_27 {l : Int} : ywb 27 l S = decide (0 < yr (gI S 38) ∧ yr (gI S 36 - gI S 38) < yr l ∧ ¬ yr (gI S 36) < yr l) := rfl
theorem k124_s {kd : Nat} {x1 : Int} (h : kd < 67) (hb : 0 ≤ yr (yKo kd) ∧ yr (yKo kd) < 67) {tgt : Nat} (hz : x_lsw 109 #[(18, 42), (20, 52), (21, 83), (28, 70)] 18 [.int (Int32.ofInt ((xLf xSm (yr (yKo kd)).toNat).toInt))] = some (tgt, [])) : Y q (d + 1) 124 0 [vr 131, vr kd, vi x1, vu] [] S js = Y q (d + 1) 124 tgt [vr 131, vr kd, vi x1, vi (gI S 36 - gI S 38)] [] S js := by
  rw [w124_0, if_pos h, w318_0, if_pos h, YB_ret, w124_17, if_pos hb, k124_lk hz]
theorem k124 {kd : Nat} {x1 : Int} (h : kd = 22 ∨ kd = 24 ∨ kd = 25 ∨ kd = 26 ∨ kd = 27 ∨ kd = 28) : Y q (d + 1) 124 0 [vr 131, vr kd, vi x1, vu] [] S js = yret q (vi (yb1 (ywb kd x1 S))) S js := by
  have o0 : yr 0 = 0 ∨ yr 0 = 1 := by decide
  have o1 : yr 1 = 0 ∨ yr 1 = 1 := by decide
  rcases h with rfl | rfl | rfl | rfl | rfl | rfl
  · rw [k124_s (tgt := 60) (by decide) (by decide) rfl, w124_60, ywb_22]
    by_cases z : yr (gI S 36 - gI S 38) = 0
    · rw [if_pos z, if_pos o1, decide_eq_true z]
      rfl
    · rw [if_neg z, if_pos o0, decide_eq_false z]
      rfl
  · rw [k124_s (tgt := 127) (by decide) (by decide) rfl, w124_127, if_pos o0]
    rfl
  · rw [k124_s (tgt := 70) (by decide) (by decide) rfl, w124_70, ywb_25]
    by_cases z : 0 < yr (gI S 38)
    · by_cases y : yr (gI S 36 - gI S 38) < yr x1
      · rw [if_pos z, if_pos y, if_pos o1, decide_eq_true ⟨z, y⟩]
        rfl
      · rw [if_pos z, if_neg y, if_pos o0, decide_eq_false (fun w => y w.2)]
        rfl
    · rw [if_neg z, if_pos o0, decide_eq_false (fun w => z w.1)]
      rfl
  · rw [k124_s (tgt := 88) (by decide) (by decide) rfl, w124_88, ywb_26]
    by_cases z : 0 < yr (gI S 38)
    · rw [if_pos z, if_pos o1, decide_eq_true z]
      rfl
    · rw [if_neg z, if_pos o0, decide_eq_false z]
      rfl
  · rw [k124_s (tgt := 101) (by decide) (by decide) rfl, w124_101, ywb_27]
    by_cases z : 0 < yr (gI S 38)
    · by_cases y : yr (gI S 36 - gI S 38) < yr x1
      · by_cases w : yr (gI S 36) < yr x1
        · rw [if_pos z, if_pos y, if_pos w, if_pos o0, decide_eq_false (fun v => v.2.2 w)]
          rfl
        · rw [if_pos z, if_pos y, if_neg w, if_pos o1, decide_eq_true ⟨z, y, w⟩]
          rfl
      · rw [if_pos z, if_neg y, if_pos o0, decide_eq_false (fun w => y w.2.1)]
        rfl
    · rw [if_neg z, if_pos o0, decide_eq_false (fun w => z w.1)]
      rfl
  · rw [k124_s (tgt := 127) (by decide) (by decide) rfl, w124_127, if_pos o0]
    rfl
end YUBN
end YUB
