/-! every check of the tables holds -/
section XU1
set_option maxRecDepth 100000 in
theorem xaL_all {α : Type} {p : Nat → α → Bool} : ∀ {l : List (Nat × α)}, (l.all fun e => p e.1 e.2) = true → xaL (fun i a => p i a = true) l
  | [], _ => trivial
  | e :: r, h => by
    rw [List.all_cons, Bool.and_eq_true] at h
    exact ⟨h.1, xaL_all h.2⟩
set_option maxRecDepth 100000 in
theorem xband {a b : Bool} (ha : a = true) (hb : b = true) : (a && b) = true := by rw [ha, hb]; rfl
set_option maxRecDepth 100000 in
theorem xu_cs : xChkCs = true := by decide +kernel
set_option maxRecDepth 100000 in
theorem xu_ex : (List.range xNm).all (fun k => (xMt xMs k).isSome) = true := by decide +kernel
set_option maxRecDepth 100000 in
theorem xu_p0 : xChkPool (xPl xPs 0) := by repeat' (first | refine And.intro ?_ ?_ | exact trivial | rfl)
set_option maxRecDepth 100000 in
theorem xu_q0 : xChkPb (xPl xPs 0) = true := by decide +kernel
set_option maxRecDepth 100000 in
theorem xu_p1 : xChkPool (xPl xPs 1) := by repeat' (first | refine And.intro ?_ ?_ | exact trivial | rfl)
set_option maxRecDepth 100000 in
theorem xu_q1 : xChkPb (xPl xPs 1) = true := by decide +kernel
set_option maxRecDepth 100000 in
theorem xu_p2 : xChkPool (xPl xPs 2) := by repeat' (first | refine And.intro ?_ ?_ | exact trivial | rfl)
set_option maxRecDepth 100000 in
theorem xu_q2 : xChkPb (xPl xPs 2) = true := by decide +kernel
set_option maxRecDepth 100000 in
theorem xu_p3 : xChkPool (xPl xPs 3) := by repeat' (first | refine And.intro ?_ ?_ | exact trivial | rfl)
set_option maxRecDepth 100000 in
theorem xu_q3 : xChkPb (xPl xPs 3) = true := by decide +kernel
set_option maxRecDepth 100000 in
theorem xu_p4 : xChkPool (xPl xPs 4) := by repeat' (first | refine And.intro ?_ ?_ | exact trivial | rfl)
set_option maxRecDepth 100000 in
theorem xu_q4 : xChkPb (xPl xPs 4) = true := by decide +kernel
set_option maxRecDepth 100000 in
theorem xu_p5 : xChkPool (xPl xPs 5) := by repeat' (first | refine And.intro ?_ ?_ | exact trivial | rfl)
set_option maxRecDepth 100000 in
theorem xu_q5 : xChkPb (xPl xPs 5) = true := by decide +kernel
set_option maxRecDepth 100000 in
theorem xu_p6 : xChkPool (xPl xPs 6) := by repeat' (first | refine And.intro ?_ ?_ | exact trivial | rfl)
set_option maxRecDepth 100000 in
theorem xu_q6 : xChkPb (xPl xPs 6) = true := by decide +kernel
set_option maxRecDepth 100000 in
theorem xu_p7 : xChkPool (xPl xPs 7) := by repeat' (first | refine And.intro ?_ ?_ | exact trivial | rfl)
set_option maxRecDepth 100000 in
theorem xu_q7 : xChkPb (xPl xPs 7) = true := by decide +kernel
set_option maxRecDepth 100000 in
theorem xu_p8 : xChkPool (xPl xPs 8) := by repeat' (first | refine And.intro ?_ ?_ | exact trivial | rfl)
set_option maxRecDepth 100000 in
theorem xu_q8 : xChkPb (xPl xPs 8) = true := by decide +kernel
set_option maxRecDepth 100000 in
theorem xu_p9 : xChkPool (xPl xPs 9) := by repeat' (first | refine And.intro ?_ ?_ | exact trivial | rfl)
set_option maxRecDepth 100000 in
theorem xu_q9 : xChkPb (xPl xPs 9) = true := by decide +kernel
set_option maxRecDepth 100000 in
theorem xu_p10 : xChkPool (xPl xPs 10) := by repeat' (first | refine And.intro ?_ ?_ | exact trivial | rfl)
set_option maxRecDepth 100000 in
theorem xu_q10 : xChkPb (xPl xPs 10) = true := by decide +kernel
set_option maxRecDepth 100000 in
theorem xu_p11 : xChkPool (xPl xPs 11) := by repeat' (first | refine And.intro ?_ ?_ | exact trivial | rfl)
set_option maxRecDepth 100000 in
theorem xu_q11 : xChkPb (xPl xPs 11) = true := by decide +kernel
set_option maxRecDepth 100000 in
theorem xu_p12 : xChkPool (xPl xPs 12) := by repeat' (first | refine And.intro ?_ ?_ | exact trivial | rfl)
set_option maxRecDepth 100000 in
theorem xu_q12 : xChkPb (xPl xPs 12) = true := by decide +kernel
set_option maxRecDepth 100000 in
theorem xu_p13 : xChkPool (xPl xPs 13) := by repeat' (first | refine And.intro ?_ ?_ | exact trivial | rfl)
set_option maxRecDepth 100000 in
theorem xu_q13 : xChkPb (xPl xPs 13) = true := by decide +kernel
set_option maxRecDepth 100000 in
theorem xu_p14 : xChkPool (xPl xPs 14) := by repeat' (first | refine And.intro ?_ ?_ | exact trivial | rfl)
set_option maxRecDepth 100000 in
theorem xu_q14 : xChkPb (xPl xPs 14) = true := by decide +kernel
set_option maxRecDepth 100000 in
theorem xu_p15 : xChkPool (xPl xPs 15) := by repeat' (first | refine And.intro ?_ ?_ | exact trivial | rfl)
set_option maxRecDepth 100000 in
theorem xu_q15 : xChkPb (xPl xPs 15) = true := by decide +kernel
set_option maxRecDepth 100000 in
theorem xu_p16 : xChkPool (xPl xPs 16) := by repeat' (first | refine And.intro ?_ ?_ | exact trivial | rfl)
set_option maxRecDepth 100000 in
theorem xu_q16 : xChkPb (xPl xPs 16) = true := by decide +kernel
set_option maxRecDepth 100000 in
theorem xu_p17 : xChkPool (xPl xPs 17) := by repeat' (first | refine And.intro ?_ ?_ | exact trivial | rfl)
set_option maxRecDepth 100000 in
theorem xu_q17 : xChkPb (xPl xPs 17) = true := by decide +kernel
set_option maxRecDepth 100000 in
theorem xu_p18 : xChkPool (xPl xPs 18) := by repeat' (first | refine And.intro ?_ ?_ | exact trivial | rfl)
set_option maxRecDepth 100000 in
theorem xu_q18 : xChkPb (xPl xPs 18) = true := by decide +kernel
set_option maxRecDepth 100000 in
theorem xu_p19 : xChkPool (xPl xPs 19) := by repeat' (first | refine And.intro ?_ ?_ | exact trivial | rfl)
set_option maxRecDepth 100000 in
theorem xu_q19 : xChkPb (xPl xPs 19) = true := by decide +kernel
set_option maxRecDepth 100000 in
theorem xu_p20 : xChkPool (xPl xPs 20) := by repeat' (first | refine And.intro ?_ ?_ | exact trivial | rfl)
set_option maxRecDepth 100000 in
theorem xu_q20 : xChkPb (xPl xPs 20) = true := by decide +kernel
set_option maxRecDepth 100000 in
theorem xu_p21 : xChkPool (xPl xPs 21) := by repeat' (first | refine And.intro ?_ ?_ | exact trivial | rfl)
set_option maxRecDepth 100000 in
theorem xu_q21 : xChkPb (xPl xPs 21) = true := by decide +kernel
set_option maxRecDepth 100000 in
theorem xu_p22 : xChkPool (xPl xPs 22) := by repeat' (first | refine And.intro ?_ ?_ | exact trivial | rfl)
set_option maxRecDepth 100000 in
theorem xu_q22 : xChkPb (xPl xPs 22) = true := by decide +kernel
set_option maxRecDepth 100000 in
theorem xu_p23 : xChkPool (xPl xPs 23) := by repeat' (first | refine And.intro ?_ ?_ | exact trivial | rfl)
set_option maxRecDepth 100000 in
theorem xu_q23 : xChkPb (xPl xPs 23) = true := by decide +kernel
set_option maxRecDepth 100000 in
theorem xu_p24 : xChkPool (xPl xPs 24) := by repeat' (first | refine And.intro ?_ ?_ | exact trivial | rfl)
set_option maxRecDepth 100000 in
theorem xu_q24 : xChkPb (xPl xPs 24) = true := by decide +kernel
set_option maxRecDepth 100000 in
theorem xu_len : xPs.length = 25 := rfl
set_option maxRecDepth 100000 in
theorem xu_pools : ∀ q ∈ xPs, xChkPool q ∧ xChkPb q = true := by
  intro q hq
  obtain ⟨i, hi, rfl⟩ := List.mem_iff_getElem.mp hq
  have e : xPl xPs i = xPs[i] := by
    unfold xPl
    rw [List.getElem?_eq_getElem hi]
  rw [← e]
  rw [xu_len] at hi
  match i, hi with
  | 0, _ => exact ⟨xu_p0, xu_q0⟩
  | 1, _ => exact ⟨xu_p1, xu_q1⟩
  | 2, _ => exact ⟨xu_p2, xu_q2⟩
  | 3, _ => exact ⟨xu_p3, xu_q3⟩
  | 4, _ => exact ⟨xu_p4, xu_q4⟩
  | 5, _ => exact ⟨xu_p5, xu_q5⟩
  | 6, _ => exact ⟨xu_p6, xu_q6⟩
  | 7, _ => exact ⟨xu_p7, xu_q7⟩
  | 8, _ => exact ⟨xu_p8, xu_q8⟩
  | 9, _ => exact ⟨xu_p9, xu_q9⟩
  | 10, _ => exact ⟨xu_p10, xu_q10⟩
  | 11, _ => exact ⟨xu_p11, xu_q11⟩
  | 12, _ => exact ⟨xu_p12, xu_q12⟩
  | 13, _ => exact ⟨xu_p13, xu_q13⟩
  | 14, _ => exact ⟨xu_p14, xu_q14⟩
  | 15, _ => exact ⟨xu_p15, xu_q15⟩
  | 16, _ => exact ⟨xu_p16, xu_q16⟩
  | 17, _ => exact ⟨xu_p17, xu_q17⟩
  | 18, _ => exact ⟨xu_p18, xu_q18⟩
  | 19, _ => exact ⟨xu_p19, xu_q19⟩
  | 20, _ => exact ⟨xu_p20, xu_q20⟩
  | 21, _ => exact ⟨xu_p21, xu_q21⟩
  | 22, _ => exact ⟨xu_p22, xu_q22⟩
  | 23, _ => exact ⟨xu_p23, xu_q23⟩
  | 24, _ => exact ⟨xu_p24, xu_q24⟩
  | n + 25, h => omega
set_option maxRecDepth 100000 in
theorem xu_l0 : ((xk_0.getD 0 (0, [])).2.all fun e => xDec xm_0 e.1 e.2) = true := by decide +kernel
set_option maxRecDepth 100000 in
theorem xu_l1 : ((xk_0.getD 1 (0, [])).2.all fun e => xDec xm_0 e.1 e.2) = true := by decide +kernel
set_option maxRecDepth 100000 in
theorem xu_l2 : ((xk_0.getD 2 (0, [])).2.all fun e => xDec xm_0 e.1 e.2) = true := by decide +kernel
set_option maxRecDepth 100000 in
theorem xu_l3 : ((xk_0.getD 3 (0, [])).2.all fun e => xDec xm_0 e.1 e.2) = true := by decide +kernel
set_option maxRecDepth 100000 in
theorem xu_l4 : ((xk_0.getD 4 (0, [])).2.all fun e => xDec xm_0 e.1 e.2) = true := by decide +kernel
set_option maxRecDepth 100000 in
theorem xu_l5 : ((xk_0.getD 5 (0, [])).2.all fun e => xDec xm_0 e.1 e.2) = true := by decide +kernel
set_option maxRecDepth 100000 in
theorem xu_l6 : ((xk_0.getD 6 (0, [])).2.all fun e => xDec xm_0 e.1 e.2) = true := by decide +kernel
set_option maxRecDepth 100000 in
theorem xu_l7 : ((xk_0.getD 7 (0, [])).2.all fun e => xDec xm_0 e.1 e.2) = true := by decide +kernel
set_option maxRecDepth 100000 in
theorem xu_l8 : ((xk_0.getD 8 (0, [])).2.all fun e => xDec xm_0 e.1 e.2) = true := by decide +kernel
set_option maxRecDepth 100000 in
theorem xu_l9 : ((xk_0.getD 9 (0, [])).2.all fun e => xDec xm_0 e.1 e.2) = true := by decide +kernel
set_option maxRecDepth 100000 in
theorem xu_l10 : ((xk_0.getD 10 (0, [])).2.all fun e => xDec xm_0 e.1 e.2) = true := by decide +kernel
set_option maxRecDepth 100000 in
theorem xu_l11 : ((xk_0.getD 11 (0, [])).2.all fun e => xDec xm_0 e.1 e.2) = true := by decide +kernel
set_option maxRecDepth 100000 in
theorem xu_l12 : ((xk_0.getD 12 (0, [])).2.all fun e => xDec xm_0 e.1 e.2) = true := by decide +kernel
set_option maxRecDepth 100000 in
theorem xu_l13 : ((xk_0.getD 13 (0, [])).2.all fun e => xDec xm_0 e.1 e.2) = true := by decide +kernel
set_option maxRecDepth 100000 in
theorem xu_l14 : ((xk_0.getD 14 (0, [])).2.all fun e => xDec xm_0 e.1 e.2) = true := by decide +kernel
set_option maxRecDepth 100000 in
theorem xu_l15 : ((xk_0.getD 15 (0, [])).2.all fun e => xDec xm_0 e.1 e.2) = true := by decide +kernel
set_option maxRecDepth 100000 in
theorem xu_l16 : ((xk_0.getD 16 (0, [])).2.all fun e => xDec xm_0 e.1 e.2) = true := by decide +kernel
set_option maxRecDepth 100000 in
theorem xu_l17 : ((xk_0.getD 17 (0, [])).2.all fun e => xDec xm_0 e.1 e.2) = true := by decide +kernel
set_option maxRecDepth 100000 in
theorem xu_l18 : ((xk_0.getD 18 (0, [])).2.all fun e => xDec xm_0 e.1 e.2) = true := by decide +kernel
set_option maxRecDepth 100000 in
theorem xu_l : xk_0.length = 19 := rfl
set_option maxRecDepth 100000 in
theorem xu_law : xChkMb xm_0 = true := by
  show (xk_0.all fun c => c.2.all fun e => xDec xm_0 e.1 e.2) = true
  rw [List.all_eq_true]
  intro c hc
  obtain ⟨i, hi, rfl⟩ := List.mem_iff_getElem.mp hc
  have e : xk_0.getD i (0, []) = xk_0[i] := by
    rw [List.getD_eq_getElem?_getD, List.getElem?_eq_getElem hi]
    rfl
  rw [← e]
  rw [xu_l] at hi
  match i, hi with
  | 0, _ => exact xu_l0
  | 1, _ => exact xu_l1
  | 2, _ => exact xu_l2
  | 3, _ => exact xu_l3
  | 4, _ => exact xu_l4
  | 5, _ => exact xu_l5
  | 6, _ => exact xu_l6
  | 7, _ => exact xu_l7
  | 8, _ => exact xu_l8
  | 9, _ => exact xu_l9
  | 10, _ => exact xu_l10
  | 11, _ => exact xu_l11
  | 12, _ => exact xu_l12
  | 13, _ => exact xu_l13
  | 14, _ => exact xu_l14
  | 15, _ => exact xu_l15
  | 16, _ => exact xu_l16
  | 17, _ => exact xu_l17
  | 18, _ => exact xu_l18
  | n + 19, h => omega
set_option maxRecDepth 100000 in
theorem xu_m0 : xaL (fun _ q => xChkM q) (xMs.getD 0 (0, [])).2 := by repeat' (first | refine And.intro ?_ ?_ | exact trivial | rfl)
set_option maxRecDepth 100000 in
theorem xu_n0a : (((xMs.getD 0 (0, [])).2.tail).all fun e => xChkMb e.2) = true := by decide +kernel
set_option maxRecDepth 100000 in
theorem xu_n0 : xaL (fun _ q => xChkMb q = true) (xMs.getD 0 (0, [])).2 := ⟨xu_law, xaL_all (p := fun _ q => xChkMb q) xu_n0a⟩
set_option maxRecDepth 100000 in
theorem xu_m1 : xaL (fun _ q => xChkM q) (xMs.getD 1 (0, [])).2 := by repeat' (first | refine And.intro ?_ ?_ | exact trivial | rfl)
set_option maxRecDepth 100000 in
theorem xu_n1a : ((xMs.getD 1 (0, [])).2.all fun e => xChkMb e.2) = true := by decide +kernel
set_option maxRecDepth 100000 in
theorem xu_n1 : xaL (fun _ q => xChkMb q = true) (xMs.getD 1 (0, [])).2 := xaL_all (p := fun _ q => xChkMb q) xu_n1a
set_option maxRecDepth 100000 in
theorem xu_m2 : xaL (fun _ q => xChkM q) (xMs.getD 2 (0, [])).2 := by repeat' (first | refine And.intro ?_ ?_ | exact trivial | rfl)
set_option maxRecDepth 100000 in
theorem xu_n2a : ((xMs.getD 2 (0, [])).2.all fun e => xChkMb e.2) = true := by decide +kernel
set_option maxRecDepth 100000 in
theorem xu_n2 : xaL (fun _ q => xChkMb q = true) (xMs.getD 2 (0, [])).2 := xaL_all (p := fun _ q => xChkMb q) xu_n2a
set_option maxRecDepth 100000 in
theorem xu_m3 : xaL (fun _ q => xChkM q) (xMs.getD 3 (0, [])).2 := by repeat' (first | refine And.intro ?_ ?_ | exact trivial | rfl)
set_option maxRecDepth 100000 in
theorem xu_n3a : ((xMs.getD 3 (0, [])).2.all fun e => xChkMb e.2) = true := by decide +kernel
set_option maxRecDepth 100000 in
theorem xu_n3 : xaL (fun _ q => xChkMb q = true) (xMs.getD 3 (0, [])).2 := xaL_all (p := fun _ q => xChkMb q) xu_n3a
set_option maxRecDepth 100000 in
theorem xu_m4 : xaL (fun _ q => xChkM q) (xMs.getD 4 (0, [])).2 := by repeat' (first | refine And.intro ?_ ?_ | exact trivial | rfl)
set_option maxRecDepth 100000 in
theorem xu_n4a : ((xMs.getD 4 (0, [])).2.all fun e => xChkMb e.2) = true := by decide +kernel
set_option maxRecDepth 100000 in
theorem xu_n4 : xaL (fun _ q => xChkMb q = true) (xMs.getD 4 (0, [])).2 := xaL_all (p := fun _ q => xChkMb q) xu_n4a
set_option maxRecDepth 100000 in
theorem xu_m5 : xaL (fun _ q => xChkM q) (xMs.getD 5 (0, [])).2 := by repeat' (first | refine And.intro ?_ ?_ | exact trivial | rfl)
set_option maxRecDepth 100000 in
theorem xu_n5a : ((xMs.getD 5 (0, [])).2.all fun e => xChkMb e.2) = true := by decide +kernel
set_option maxRecDepth 100000 in
theorem xu_n5 : xaL (fun _ q => xChkMb q = true) (xMs.getD 5 (0, [])).2 := xaL_all (p := fun _ q => xChkMb q) xu_n5a
set_option maxRecDepth 100000 in
theorem xu_m6 : xaL (fun _ q => xChkM q) (xMs.getD 6 (0, [])).2 := by repeat' (first | refine And.intro ?_ ?_ | exact trivial | rfl)
set_option maxRecDepth 100000 in
theorem xu_n6a : ((xMs.getD 6 (0, [])).2.all fun e => xChkMb e.2) = true := by decide +kernel
set_option maxRecDepth 100000 in
theorem xu_n6 : xaL (fun _ q => xChkMb q = true) (xMs.getD 6 (0, [])).2 := xaL_all (p := fun _ q => xChkMb q) xu_n6a
set_option maxRecDepth 100000 in
theorem xu_m7 : xaL (fun _ q => xChkM q) (xMs.getD 7 (0, [])).2 := by repeat' (first | refine And.intro ?_ ?_ | exact trivial | rfl)
set_option maxRecDepth 100000 in
theorem xu_n7a : ((xMs.getD 7 (0, [])).2.all fun e => xChkMb e.2) = true := by decide +kernel
set_option maxRecDepth 100000 in
theorem xu_n7 : xaL (fun _ q => xChkMb q = true) (xMs.getD 7 (0, [])).2 := xaL_all (p := fun _ q => xChkMb q) xu_n7a
set_option maxRecDepth 100000 in
theorem xu_m8 : xaL (fun _ q => xChkM q) (xMs.getD 8 (0, [])).2 := by repeat' (first | refine And.intro ?_ ?_ | exact trivial | rfl)
set_option maxRecDepth 100000 in
theorem xu_n8a : ((xMs.getD 8 (0, [])).2.all fun e => xChkMb e.2) = true := by decide +kernel
set_option maxRecDepth 100000 in
theorem xu_n8 : xaL (fun _ q => xChkMb q = true) (xMs.getD 8 (0, [])).2 := xaL_all (p := fun _ q => xChkMb q) xu_n8a
set_option maxRecDepth 100000 in
theorem xu_m9 : xaL (fun _ q => xChkM q) (xMs.getD 9 (0, [])).2 := by repeat' (first | refine And.intro ?_ ?_ | exact trivial | rfl)
set_option maxRecDepth 100000 in
theorem xu_n9a : ((xMs.getD 9 (0, [])).2.all fun e => xChkMb e.2) = true := by decide +kernel
set_option maxRecDepth 100000 in
theorem xu_n9 : xaL (fun _ q => xChkMb q = true) (xMs.getD 9 (0, [])).2 := xaL_all (p := fun _ q => xChkMb q) xu_n9a
set_option maxRecDepth 100000 in
theorem xu_m10 : xaL (fun _ q => xChkM q) (xMs.getD 10 (0, [])).2 := by repeat' (first | refine And.intro ?_ ?_ | exact trivial | rfl)
set_option maxRecDepth 100000 in
theorem xu_n10a : ((xMs.getD 10 (0, [])).2.all fun e => xChkMb e.2) = true := by decide +kernel
set_option maxRecDepth 100000 in
theorem xu_n10 : xaL (fun _ q => xChkMb q = true) (xMs.getD 10 (0, [])).2 := xaL_all (p := fun _ q => xChkMb q) xu_n10a
set_option maxRecDepth 100000 in
theorem xu_m11 : xaL (fun _ q => xChkM q) (xMs.getD 11 (0, [])).2 := by repeat' (first | refine And.intro ?_ ?_ | exact trivial | rfl)
set_option maxRecDepth 100000 in
theorem xu_n11a : ((xMs.getD 11 (0, [])).2.all fun e => xChkMb e.2) = true := by decide +kernel
set_option maxRecDepth 100000 in
theorem xu_n11 : xaL (fun _ q => xChkMb q = true) (xMs.getD 11 (0, [])).2 := xaL_all (p := fun _ q => xChkMb q) xu_n11a
set_option maxRecDepth 100000 in
theorem xu_m12 : xaL (fun _ q => xChkM q) (xMs.getD 12 (0, [])).2 := by repeat' (first | refine And.intro ?_ ?_ | exact trivial | rfl)
set_option maxRecDepth 100000 in
theorem xu_n12a : ((xMs.getD 12 (0, [])).2.all fun e => xChkMb e.2) = true := by decide +kernel
set_option maxRecDepth 100000 in
theorem xu_n12 : xaL (fun _ q => xChkMb q = true) (xMs.getD 12 (0, [])).2 := xaL_all (p := fun _ q => xChkMb q) xu_n12a
set_option maxRecDepth 100000 in
theorem xu_m13 : xaL (fun _ q => xChkM q) (xMs.getD 13 (0, [])).2 := by repeat' (first | refine And.intro ?_ ?_ | exact trivial | rfl)
set_option maxRecDepth 100000 in
theorem xu_n13a : ((xMs.getD 13 (0, [])).2.all fun e => xChkMb e.2) = true := by decide +kernel
set_option maxRecDepth 100000 in
theorem xu_n13 : xaL (fun _ q => xChkMb q = true) (xMs.getD 13 (0, [])).2 := xaL_all (p := fun _ q => xChkMb q) xu_n13a
set_option maxRecDepth 100000 in
theorem xu_m14 : xaL (fun _ q => xChkM q) (xMs.getD 14 (0, [])).2 := by repeat' (first | refine And.intro ?_ ?_ | exact trivial | rfl)
set_option maxRecDepth 100000 in
theorem xu_n14a : ((xMs.getD 14 (0, [])).2.all fun e => xChkMb e.2) = true := by decide +kernel
set_option maxRecDepth 100000 in
theorem xu_n14 : xaL (fun _ q => xChkMb q = true) (xMs.getD 14 (0, [])).2 := xaL_all (p := fun _ q => xChkMb q) xu_n14a
set_option maxRecDepth 100000 in
theorem xu_m15 : xaL (fun _ q => xChkM q) (xMs.getD 15 (0, [])).2 := by repeat' (first | refine And.intro ?_ ?_ | exact trivial | rfl)
set_option maxRecDepth 100000 in
theorem xu_n15a : ((xMs.getD 15 (0, [])).2.all fun e => xChkMb e.2) = true := by decide +kernel
set_option maxRecDepth 100000 in
theorem xu_n15 : xaL (fun _ q => xChkMb q = true) (xMs.getD 15 (0, [])).2 := xaL_all (p := fun _ q => xChkMb q) xu_n15a
set_option maxRecDepth 100000 in
theorem xu_m16 : xaL (fun _ q => xChkM q) (xMs.getD 16 (0, [])).2 := by repeat' (first | refine And.intro ?_ ?_ | exact trivial | rfl)
set_option maxRecDepth 100000 in
theorem xu_n16a : ((xMs.getD 16 (0, [])).2.all fun e => xChkMb e.2) = true := by decide +kernel
set_option maxRecDepth 100000 in
theorem xu_n16 : xaL (fun _ q => xChkMb q = true) (xMs.getD 16 (0, [])).2 := xaL_all (p := fun _ q => xChkMb q) xu_n16a
set_option maxRecDepth 100000 in
theorem xu_m17 : xaL (fun _ q => xChkM q) (xMs.getD 17 (0, [])).2 := by repeat' (first | refine And.intro ?_ ?_ | exact trivial | rfl)
set_option maxRecDepth 100000 in
theorem xu_n17a : ((xMs.getD 17 (0, [])).2.all fun e => xChkMb e.2) = true := by decide +kernel
set_option maxRecDepth 100000 in
theorem xu_n17 : xaL (fun _ q => xChkMb q = true) (xMs.getD 17 (0, [])).2 := xaL_all (p := fun _ q => xChkMb q) xu_n17a
set_option maxRecDepth 100000 in
theorem xu_ms : xaP (fun _ q => xChkM q) xMs := ⟨xu_m0, xu_m1, xu_m2, xu_m3, xu_m4, xu_m5, xu_m6, xu_m7, xu_m8, xu_m9, xu_m10, xu_m11, xu_m12, xu_m13, xu_m14, xu_m15, xu_m16, xu_m17, trivial⟩
set_option maxRecDepth 100000 in
theorem xu_mb : xaP (fun _ q => xChkMb q = true) xMs := ⟨xu_n0, xu_n1, xu_n2, xu_n3, xu_n4, xu_n5, xu_n6, xu_n7, xu_n8, xu_n9, xu_n10, xu_n11, xu_n12, xu_n13, xu_n14, xu_n15, xu_n16, xu_n17, trivial⟩
set_option maxRecDepth 100000 in
theorem xu_all : xAll := ⟨xu_cs, xu_pools, ⟨xu_ms, xu_mb⟩, xu_ex⟩
end XU1
