/-! taken from whole by wip/p27/slice.py: 9zy.cheight.lean.txt -/
section YCN
/-- lines from an item up to an end -/
def yht (S : yS) : Nat → Nat → Nat → Int → Int
  | 0, _, _, x => x
  | f + 1, it, en, x => if it < en ∧ (it : Int) < gI S 25 then yht S f (gA S 29 it).toNat en (x + if gC S 3 it = 24 then gA S 27 it else 1) else x
section YCNL
variable {q : yQ} {d : Nat} {js : List xO} {S S' : yS} {a a' w : Int} {dp : Nat}
theorem c107l {x0 : Int} {en : Nat} (hR : cRg S) (hen : en ≤ 2000) : ∀ (n i it : Nat) (x : Int), i + n = 2000 → it ≤ 2000 → Y q d 107 18 [vr 91, vi x0, vi x, vi it, vi en, vi i] [] S js = yret q (vi (yht S n it en x)) S js
  | 0, i, it, x, hi, hit => by
    have ei : yr (i : Int) = i := yr_eq (by omega) (by omega)
    have e2 : yr 2000 = 2000 := rfl
    rw [w107_18, ei, e2, if_neg (by omega)]
    rfl
  | n + 1, i, it, x, hi, hit => by
    have ei : yr (i : Int) = i := yr_eq (by omega) (by omega)
    have e2 : yr 2000 = 2000 := rfl
    have et : yr (it : Int) = it := yr_eq (by omega) (by omega)
    have ee : yr (en : Int) = en := yr_eq (by omega) (by omega)
    have h25 := hR.2.2.2.2.2.2.2.1
    have e25 : yr (gI S 25) = gI S 25 := yr_eq (by omega) (by omega)
    rw [w107_18, ei, e2, et, ee, e25, if_pos (by omega), Int.toNat_natCast]
    unfold yht
    by_cases z1 : it < en
    · by_cases z2 : (it : Int) < gI S 25
      · obtain ⟨r1, r2⟩ := hR.2.2.2.2.2.2.2.2.2 it z2
        have hb : 0 ≤ (it : Int) ∧ (it : Int) < 2000 := by omega
        have hn : ((gA S 29 it).toNat : Int) = gA S 29 it := by omega
        rw [if_pos (by omega), if_pos z2, if_pos (show (0 ≤ (it : Int) ∧ (it : Int) < 2000) ∧ gC S 3 it < 67 from ⟨hb, r2⟩), if_pos (show gC S 3 it < 67 ∧ 24 < 67 from ⟨r2, by omega⟩), if_pos (show it < en ∧ (it : Int) < gI S 25 from ⟨z1, z2⟩)]
        by_cases z3 : gC S 3 it = 24
        · have ih := c107l (x0 := x0) hR hen n (i + 1) (gA S 29 it).toNat (x + gA S 27 it) (by omega) (by omega)
          rw [hn] at ih
          rw [if_pos z3, if_pos hb, if_pos hb, if_pos z3]
          exact ih
        · have ih := c107l (x0 := x0) hR hen n (i + 1) (gA S 29 it).toNat (x + 1) (by omega) (by omega)
          rw [hn] at ih
          rw [if_neg z3, if_pos hb, if_neg z3]
          exact ih
      · rw [if_pos (by omega), if_neg z2, if_neg (fun y => z2 y.2)]
    · rw [if_neg (by omega), if_neg (fun y => z1 y.1)]
end YCNL
end YCN
