/-! THE REFERENCE's SMALL MEMBERS: taking tokens, emitting, stopping -/
section YRS
/-- a unit of the reference -/
def ru (u : Nat) : Nat := match u with
  | 0 => 139
  | _ => 145
def rem (S : yS) (u : Nat) (op : Int) (a : Int64) : yS := sI (sB (sA S (6 + u) (gI S (4 + u)).toNat op) (2 + u) (gI S (4 + u)).toNat a) (4 + u) (gI S (4 + u) + 1)
section YRSL
variable {q : yQ} {d : Nat} {js : List xO} {S : yS} {u : Nat}
theorem r234n {op : Int} {a : Int64} (hm : gI S 45 = 0) : Y q d 234 0 [vr 129, vi op, vj a, vu] [] S js = yret q (vi 0) S js := by
  have e : yr 0 = 0 := rfl
  rw [w234_0, hm, if_pos e]
theorem r234 {op : Int} {a : Int64} (hu : u = 0 ∨ u = 1) (hk : gK S 2 = ru u) (hm : gI S 45 = 1) (h : 0 ≤ gI S (4 + u) ∧ gI S (4 + u) < 8000) : Y q d 234 0 [vr 129, vi op, vj a, vu] [] S js = yret q (vi (gI S (4 + u))) (rem S u op a) js := by
  have z1 : ¬ yr 1 = 0 := by decide
  have em : yr (gI S 45) = 1 := by rw [hm]; rfl
  rcases hu with rfl | rfl
  · have hk : gK S 2 = 139 := hk
    have h : 0 ≤ gI S 4 ∧ gI S 4 < 8000 := h
    have e : yr (gI S 4) = gI S 4 := yr_eq (by omega) (by omega)
    have e9 : gI S 4 + 1 - 1 = gI S 4 := by omega
    rw [w234_0, em, if_neg (by omega)]
    simp only [hk, if_true, w234_13, w234_20, w234_29, w234_36, w234_45, w234_58, gK_sA, gK_sB, gK_sI, gI_sA, gI_sB, e, h, and_self, gI_self, e9]
    rfl
  · have hk : gK S 2 = 145 := hk
    have hk' : ¬ gK S 2 = 139 := by omega
    have h : 0 ≤ gI S 5 ∧ gI S 5 < 8000 := h
    have e : yr (gI S 5) = gI S 5 := yr_eq (by omega) (by omega)
    have e9 : gI S 5 + 1 - 1 = gI S 5 := by omega
    rw [w234_0, em, if_neg (by omega)]
    simp only [hk, if_true, Nat.reduceEqDiff, if_false, w234_13x, w234_20z, w234_29x, w234_36z, w234_45x, w234_58x, gK_sA, gK_sB, gK_sI, gI_sA, gI_sB, e, h, and_self, gI_self, e9]
    rfl
/-- an int's index in the tokens -/
theorem r221 {k : Int} (ht : 0 ≤ gI S 44 ∧ gI S 44 < 2001) (hk : -2147483648 ≤ k ∧ k < 2147483648) (h39 : -2147483648 ≤ gA S 39 (gI S 44).toNat ∧ gA S 39 (gI S 44).toNat < 2147483648) : Y q d 221 0 [vr 129, vi k] [] S js = yret q (vi (yb (gA S 39 (gI S 44).toNat = k))) S js := by
  have e : yr (gI S 44) = gI S 44 := yr_eq (by omega) (by omega)
  rw [w221_0, e, if_pos ht, yr_eq hk.1 hk.2, yr_eq h39.1 h39.2]
  simp only [yz0, yz1, if_true]
  unfold yb
  split <;> rfl
theorem r219n {c e p : Int} (h : yr (gI S 45) = 0 ∨ ¬ yr c = 0) : Y q d 219 0 [vr 129, vi c, vi e, vi p] [] S js = yretv q S js := by
  rw [w219_0]
  by_cases z : yr (gI S 45) = 0
  · rw [if_pos z]
  · rw [if_neg z]
    rcases h with h | h
    · exact (z h).elim
    · rw [if_neg h]
theorem r219t {c e p : Int} (hm : gI S 45 = 1) (hc : yr c = 0) : Y q (d + 1) 219 0 [vr 129, vi c, vi e, vi p] [] S js = ythr q (ystp (Int32.ofInt e) (Int32.ofInt p)) S js := by
  have z1 : ¬ yr (gI S 45) = 0 := by rw [hm]; decide
  rw [w219_0, if_neg z1, if_pos hc]
  refine (Y_mk (j := 261) (ic := 263) (pc' := 17) (L' := [vr 129, vi c, vi e, vi p]) (rr := [vr (179 + js.length)]) (a := Int32.ofInt e) (b := Int32.ofInt p) rfl rfl rfl (Nat.le_of_ble_eq_true rfl) ?_).trans (Y_athrow q 13 (d + 1) 219 20 _ _ [] S js rfl rfl rfl)
  generalize yH q S (js ++ [.inr (13, yfd3)]) = H
  generalize 179 + js.length = N
  refine (xpure_4 (f := 11) (i := .dup) (n := 1) (pc' := 15) (L' := [.ref 129, .int (Int32.ofInt c), .int (Int32.ofInt e), .int (Int32.ofInt p)]) (st' := [.ref N, .ref N]) rfl (fun _ h => (nomatch h)) (fun _ h => (nomatch h)) (nomatch ·) rfl).trans ?_
  refine (xpure_4 (f := 10) (i := .iload_n 2) (n := 1) (pc' := 16) (L' := [.ref 129, .int (Int32.ofInt c), .int (Int32.ofInt e), .int (Int32.ofInt p)]) (st' := [.int (Int32.ofInt e), .ref N, .ref N]) rfl (fun _ h => (nomatch h)) (fun _ h => (nomatch h)) (nomatch ·) rfl).trans ?_
  refine (xpure_4 (f := 9) (i := .iload_n 3) (n := 1) (pc' := 17) (L' := [.ref 129, .int (Int32.ofInt c), .int (Int32.ofInt e), .int (Int32.ofInt p)]) (st' := [.int (Int32.ofInt p), .int (Int32.ofInt e), .ref N, .ref N]) rfl (fun _ h => (nomatch h)) (fun _ h => (nomatch h)) (nomatch ·) rfl).trans ?_
  exact xpure_e (f := 8) rfl
/-- a division by 0; too many pages -/
theorem r267z {d : Nat} {x0 : Int} {a b : Int64} : Y q (d + 1) 267 52 [vr 129, vi x0, vj a, vu, vj b, vu] [] S js = ythr q (ystp 2 (Int32.ofInt (-1))) S js := by
  refine (Y_mk (j := 261) (ic := 263) (pc' := 58) (L' := [vr 129, vi x0, vj a, vu, vj b, vu]) (rr := [vr (179 + js.length)]) (a := 2) (b := Int32.ofInt (-1)) rfl rfl rfl (Nat.le_of_ble_eq_true rfl) ?_).trans (Y_athrow q 13 (d + 1) 267 61 _ _ [] S js rfl rfl rfl)
  generalize yH q S (js ++ [.inr (13, yfd3)]) = H
  generalize 179 + js.length = N
  refine (xpure_4 (f := 11) (i := .dup) (n := 1) (pc' := 56) (L' := [.ref 129, .int (Int32.ofInt x0), .long a, xU, .long b, xU]) (st' := [.ref N, .ref N]) rfl (fun _ h => (nomatch h)) (fun _ h => (nomatch h)) (nomatch ·) rfl).trans ?_
  refine (xpure_4 (f := 10) (i := .iconst 2) (n := 1) (pc' := 57) (L' := [.ref 129, .int (Int32.ofInt x0), .long a, xU, .long b, xU]) (st' := [.int (Int32.ofInt 2), .ref N, .ref N]) rfl (fun _ h => (nomatch h)) (fun _ h => (nomatch h)) (nomatch ·) rfl).trans ?_
  refine (xpure_4 (f := 9) (i := .iconst (-1)) (n := 1) (pc' := 58) (L' := [.ref 129, .int (Int32.ofInt x0), .long a, xU, .long b, xU]) (st' := [.int (Int32.ofInt (-1)), .int (Int32.ofInt 2), .ref N, .ref N]) rfl (fun _ h => (nomatch h)) (fun _ h => (nomatch h)) (nomatch ·) rfl).trans ?_
  exact xpure_e (f := 8) rfl
theorem r293z {d : Nat} : Y q (d + 1) 293 13 [vr 129] [] S js = ythr q (ystp 4 (Int32.ofInt (-1))) S js := by
  refine (Y_mk (j := 261) (ic := 263) (pc' := 19) (L' := [vr 129]) (rr := [vr (179 + js.length)]) (a := 4) (b := Int32.ofInt (-1)) rfl rfl rfl (Nat.le_of_ble_eq_true rfl) ?_).trans (Y_athrow q 13 (d + 1) 293 22 _ _ [] S js rfl rfl rfl)
  generalize yH q S (js ++ [.inr (13, yfd3)]) = H
  generalize 179 + js.length = N
  refine (xpure_4 (f := 11) (i := .dup) (n := 1) (pc' := 17) (L' := [.ref 129]) (st' := [.ref N, .ref N]) rfl (fun _ h => (nomatch h)) (fun _ h => (nomatch h)) (nomatch ·) rfl).trans ?_
  refine (xpure_4 (f := 10) (i := .iconst 4) (n := 1) (pc' := 18) (L' := [.ref 129]) (st' := [.int (Int32.ofInt 4), .ref N, .ref N]) rfl (fun _ h => (nomatch h)) (fun _ h => (nomatch h)) (nomatch ·) rfl).trans ?_
  refine (xpure_4 (f := 9) (i := .iconst (-1)) (n := 1) (pc' := 19) (L' := [.ref 129]) (st' := [.int (Int32.ofInt (-1)), .int (Int32.ofInt 4), .ref N, .ref N]) rfl (fun _ h => (nomatch h)) (fun _ h => (nomatch h)) (nomatch ·) rfl).trans ?_
  exact xpure_e (f := 8) rfl
/-- taking a token: the budget allows it, or it stops there -/
theorem r217 (hb : gI S 47 = -1 ∨ 0 < gI S 47) (hb2 : gI S 47 ≤ 100) : Y q (d + 1) 217 0 [vr 129] [] S js = yretv q (if 0 < gI S 47 then sI (sI S 47 (gI S 47 - 1)) 44 (gI S 44 + 1) else sI S 44 (gI S 44 + 1)) js := by
  have e : yr (gI S 47) = gI S 47 := yr_eq (by omega) (by omega)
  rw [w217_0, e, if_neg (by omega)]
  split <;> rfl
theorem r217t (hb : gI S 47 = 0) (ht : 0 ≤ gI S 44 ∧ gI S 44 < 2001) : Y q (d + 2) 217 0 [vr 129] [] S js = ythr q (ystp 1 (Int32.ofInt (gA S 40 (gI S 44).toNat))) S js := by
  have e : yr (gI S 47) = 0 := by rw [hb]; rfl
  have et : yr (gI S 44) = gI S 44 := yr_eq (by omega) (by omega)
  rw [w217_0, e, if_pos rfl, c218 q d js S (by rw [et]; exact ht), YB_ret, et]
  exact Y_athrow q 13 (d + 2) 217 11 _ _ [] S js rfl rfl rfl
/-- one deeper, or it stops there -/
theorem r237 (hd : 0 ≤ gI S 46 ∧ gI S 46 < 12) : Y q (d + 1) 237 0 [vr 129] [] S js = yretv q (sI S 46 (gI S 46 + 1)) js := by
  have e : yr (gI S 46) = gI S 46 := yr_eq (by omega) (by omega)
  have e2 : yr 12 = 12 := rfl
  rw [w237_0, e, e2, if_neg (by omega)]
theorem r237t (hd : gI S 46 = 12) (ht : 0 ≤ gI S 44 ∧ gI S 44 < 2001) : Y q (d + 2) 237 0 [vr 129] [] S js = ythr q (ystp 1 (Int32.ofInt (gA S 40 (gI S 44).toNat))) S js := by
  have e : yr (gI S 46) = yr 12 := by rw [hd]
  have et : yr (gI S 44) = gI S 44 := yr_eq (by omega) (by omega)
  rw [w237_0, if_pos e, c218 q d js S (by rw [et]; exact ht), YB_ret, et]
  exact Y_athrow q 13 (d + 2) 237 13 _ _ [] S js rfl rfl rfl
end YRSL
end YRS
