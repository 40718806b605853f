/-! taken from whole by wip/p27/slice2.py: 9zj.bands.lean.txt -/
section YBD
/-- a kind's place in the switches -/
def yswv (kd : Nat) : Int := yr ((xLf xSm (yr (yKo kd)).toNat).toInt)
/-- which band a kind names, or -1 -/
def ybd (kd : Nat) : Int := if yswv kd = 11 then 0 else if yswv kd = 12 then 1 else if yswv kd = 13 then 2 else if yswv kd = 14 then 3 else if yswv kd = 15 then 4 else if yswv kd = 16 then 5 else if yswv kd = 17 then 10 else -1
theorem yKo_rng : ∀ kd : Nat, kd < 67 → 0 ≤ yr (yKo kd) ∧ yr (yKo kd) < 67 := by decide
section YBDL
variable {q : yQ} {d : Nat} {js : List xO} {S : yS}
theorem c40 {kd : Nat} (h : kd < 67) : Y q (d + 1) 40 0 [vr kd] [] S js = yret q (vi (ybd kd)) S js := by
  rw [w40_0, if_pos h, w318_0, if_pos h, YB_ret, w40_7, if_pos (yKo_rng kd h)]
  unfold ybd yswv
  repeat' split
  all_goals rfl
theorem c102 {b v : Int} (hb : -100 ≤ b ∧ b ≤ 100) : Y q d 102 0 [vr 91, vi b, vi v] [] S js = yretv q (if 0 ≤ b ∧ b < 11 then sA S 26 b.toNat v else S) js := by
  have eb : yr b = b := yr_eq (by omega) (by omega)
  have e11 : yr 11 = 11 := rfl
  rw [w102_0, eb, e11]
  by_cases z1 : b < 0
  · rw [if_pos z1, if_neg (by omega)]
  · rw [if_neg z1]
    by_cases z2 : b < 11
    · rw [if_pos z2, if_pos ⟨by omega, z2⟩, if_pos ⟨by omega, z2⟩]
    · rw [if_neg z2, if_neg (by omega)]
end YBDL
end YBD
