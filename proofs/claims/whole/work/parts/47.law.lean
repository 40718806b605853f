/-! THE LAW: its helpers, its roads; printed by wip/whole/z/gen47.py -/
section YLW
abbrev xa (q : yQ) (i : Int) : Int := (q.2.2 i.toNat).toInt
abbrev xl (q : yQ) (i : Int) (j : Int) : Int64 := (ylshl (yi2l (xa q i)) 32) ||| ((yi2l (xa q j)) &&& 4294967295)
theorem yr_xs (x : Int32) : yr x.toInt = x.toInt := yr_of x
theorem ylc0 (x : Int64) : ylcmp x x = 0 := (ylcmp_eq x x).mpr rfl
theorem h1_ok {q : yQ} {d : Nat} {S S1 : yS} {js js1 : List xO} {x0 : Int} {x1 : Int} {x2 : Int} {x3 : Int} {x4 : Int} {a : Int} (h : Y q d 166 0 [vr 75, vi x0, vi x1, vi x2, vi x3, vi x4] [] S js = yret q (vi a) S1 js1) : Y q (d + 1) 1 0 [vr 75, vi x0, vi x1, vi x2, vi x3, vi x4, vr 178, vu] [] S js = yret q (vi 0) (sB S1 18 0 (yi2l a)) js1 := by
  rw [w1_0, h, YB_ret, w1_14, if_pos (by rw [yr_eq] <;> omega)]
  rfl
theorem h1_14 {q : yQ} {d : Nat} {S S1 : yS} {js js1 : List xO} {x0 : Int} {x1 : Int} {x2 : Int} {x3 : Int} {x4 : Int} (h : Y q d 166 0 [vr 75, vi x0, vi x1, vi x2, vi x3, vi x4] [] S js = ythr q (yexc 14) S1 js1) : Y q (d + 1) 1 0 [vr 75, vi x0, vi x1, vi x2, vi x3, vi x4, vr 178, vu] [] S js = yret q (vi 1) S1 (js1 ++ [yexc 14]) := by rw [w1_0, h, e1_11_14, w1_19]
theorem h2_ok {q : yQ} {d : Nat} {S S1 : yS} {js js1 : List xO} {x0 : Int} {a : Int} (h : Y q d 167 0 [vr 75, vi x0] [] S js = yret q (vi a) S1 js1) : Y q (d + 1) 2 0 [vr 75, vi x0, vr 178, vu] [] S js = yret q (vi 0) (sB S1 18 0 (yi2l a)) js1 := by
  rw [w2_0, h, YB_ret, w2_7, if_pos (by rw [yr_eq] <;> omega)]
  rfl
theorem h2_15 {q : yQ} {d : Nat} {S S1 : yS} {js js1 : List xO} {x0 : Int} (h : Y q d 167 0 [vr 75, vi x0] [] S js = ythr q (yexc 15) S1 js1) : Y q (d + 1) 2 0 [vr 75, vi x0, vr 178, vu] [] S js = yret q (vi 1) S1 (js1 ++ [yexc 15]) := by rw [w2_0, h, e2_4_15, w2_12]
theorem h3_ok {q : yQ} {d : Nat} {S S1 : yS} {js js1 : List xO} {x0 : Int} {a : Int} (h : Y q d 168 0 [vr 75, vi x0, vu, vu] [] S js = yret q (vi a) S1 js1) : Y q (d + 1) 3 0 [vr 75, vi x0, vr 178, vu] [] S js = yret q (vi 0) (sB S1 18 0 (yi2l a)) js1 := by
  rw [w3_0, h, YB_ret, w3_7, if_pos (by rw [yr_eq] <;> omega)]
  rfl
theorem h3_14 {q : yQ} {d : Nat} {S S1 : yS} {js js1 : List xO} {x0 : Int} (h : Y q d 168 0 [vr 75, vi x0, vu, vu] [] S js = ythr q (yexc 14) S1 js1) : Y q (d + 1) 3 0 [vr 75, vi x0, vr 178, vu] [] S js = yret q (vi 2) S1 (js1 ++ [yexc 14]) := by rw [w3_0, h, e3_4_14, w3_15]
theorem h3_15 {q : yQ} {d : Nat} {S S1 : yS} {js js1 : List xO} {x0 : Int} (h : Y q d 168 0 [vr 75, vi x0, vu, vu] [] S js = ythr q (yexc 15) S1 js1) : Y q (d + 1) 3 0 [vr 75, vi x0, vr 178, vu] [] S js = yret q (vi 1) S1 (js1 ++ [yexc 15]) := by rw [w3_0, h, e3_4_15, w3_12]
theorem h4_ok {q : yQ} {d : Nat} {S S1 : yS} {js js1 : List xO} {x0 : Int64} {a : Int} (h : Y q d 169 0 [vr 75, vj x0, vu] [] S js = yret q (vi a) S1 js1) : Y q (d + 1) 4 0 [vr 75, vj x0, vu, vr 178, vu] [] S js = yret q (vi 0) (sB S1 18 0 (yi2l a)) js1 := by
  rw [w4_0, h, YB_ret, w4_7, if_pos (by rw [yr_eq] <;> omega)]
  rfl
theorem h4_14 {q : yQ} {d : Nat} {S S1 : yS} {js js1 : List xO} {x0 : Int64} (h : Y q d 169 0 [vr 75, vj x0, vu] [] S js = ythr q (yexc 14) S1 js1) : Y q (d + 1) 4 0 [vr 75, vj x0, vu, vr 178, vu] [] S js = yret q (vi 1) S1 (js1 ++ [yexc 14]) := by rw [w4_0, h, e4_4_14, w4_12]
theorem h4_15 {q : yQ} {d : Nat} {S S1 : yS} {js js1 : List xO} {x0 : Int64} (h : Y q d 169 0 [vr 75, vj x0, vu] [] S js = ythr q (yexc 15) S1 js1) : Y q (d + 1) 4 0 [vr 75, vj x0, vu, vr 178, vu] [] S js = yret q (vi 2) S1 (js1 ++ [yexc 15]) := by rw [w4_0, h, e4_4_15, w4_16]
theorem h5_ok {q : yQ} {d : Nat} {S S1 : yS} {js js1 : List xO} {x0 : Int} {a : Int} (h : Y q d 170 0 [vr 75, vi x0] [] S js = yret q (vi a) S1 js1) : Y q (d + 1) 5 0 [vr 75, vi x0, vr 178, vu] [] S js = yret q (vi 0) (sB S1 18 0 (yi2l a)) js1 := by
  rw [w5_0, h, YB_ret, w5_7, if_pos (by rw [yr_eq] <;> omega)]
  rfl
theorem h5_16 {q : yQ} {d : Nat} {S S1 : yS} {js js1 : List xO} {x0 : Int} (h : Y q d 170 0 [vr 75, vi x0] [] S js = ythr q (yexc 16) S1 js1) : Y q (d + 1) 5 0 [vr 75, vi x0, vr 178, vu] [] S js = yret q (vi 1) S1 (js1 ++ [yexc 16]) := by rw [w5_0, h, e5_4_16, w5_12]
theorem h6_ok {q : yQ} {d : Nat} {S S1 : yS} {js js1 : List xO} {x0 : Int} {x1 : Int} {a : Int64} (h : Y q d 171 0 [vr 75, vi x0, vi x1] [] S js = yret q (vj a) S1 js1) : Y q (d + 1) 6 0 [vr 75, vi x0, vi x1, vr 178, vu] [] S js = yret q (vi 0) (sB S1 18 0 a) js1 := by
  rw [w6_0, h, YB_ret, w6_8, if_pos (by rw [yr_eq] <;> omega)]
  rfl
theorem h6_16 {q : yQ} {d : Nat} {S S1 : yS} {js js1 : List xO} {x0 : Int} {x1 : Int} (h : Y q d 171 0 [vr 75, vi x0, vi x1] [] S js = ythr q (yexc 16) S1 js1) : Y q (d + 1) 6 0 [vr 75, vi x0, vi x1, vr 178, vu] [] S js = yret q (vi 1) S1 (js1 ++ [yexc 16]) := by rw [w6_0, h, e6_5_16, w6_12]
theorem h7_ok {q : yQ} {d : Nat} {S S1 : yS} {js js1 : List xO} {x0 : Int} {x1 : Int} {a : Int64} (h : Y q d 172 0 [vr 75, vi x0, vi x1] [] S js = yret q (vj a) S1 js1) : Y q (d + 1) 7 0 [vr 75, vi x0, vi x1, vr 178, vu] [] S js = yret q (vi 0) (sB S1 18 0 a) js1 := by
  rw [w7_0, h, YB_ret, w7_8, if_pos (by rw [yr_eq] <;> omega)]
  rfl
theorem h7_16 {q : yQ} {d : Nat} {S S1 : yS} {js js1 : List xO} {x0 : Int} {x1 : Int} (h : Y q d 172 0 [vr 75, vi x0, vi x1] [] S js = ythr q (yexc 16) S1 js1) : Y q (d + 1) 7 0 [vr 75, vi x0, vi x1, vr 178, vu] [] S js = yret q (vi 1) S1 (js1 ++ [yexc 16]) := by rw [w7_0, h, e7_5_16, w7_12]
theorem h8_ok {q : yQ} {d : Nat} {S S1 : yS} {js js1 : List xO} {x0 : Int} {a : Int} (h : Y q d 173 0 [vr 75, vi x0] [] S js = yret q (vi a) S1 js1) : Y q (d + 1) 8 0 [vr 75, vi x0, vr 178, vu] [] S js = yret q (vi 0) (sB S1 18 0 (yi2l a)) js1 := by
  rw [w8_0, h, YB_ret, w8_7, if_pos (by rw [yr_eq] <;> omega)]
  rfl
theorem h8_16 {q : yQ} {d : Nat} {S S1 : yS} {js js1 : List xO} {x0 : Int} (h : Y q d 173 0 [vr 75, vi x0] [] S js = ythr q (yexc 16) S1 js1) : Y q (d + 1) 8 0 [vr 75, vi x0, vr 178, vu] [] S js = yret q (vi 1) S1 (js1 ++ [yexc 16]) := by rw [w8_0, h, e8_4_16, w8_12]
theorem h9_ok {q : yQ} {d : Nat} {S S1 : yS} {js js1 : List xO} {x0 : Int} {a : Int} (h : Y q d 174 0 [vr 75, vi x0] [] S js = yret q (vi a) S1 js1) : Y q (d + 1) 9 0 [vr 75, vi x0, vr 178, vu] [] S js = yret q (vi 0) (sB S1 18 0 (yi2l a)) js1 := by
  rw [w9_0, h, YB_ret, w9_7, if_pos (by rw [yr_eq] <;> omega)]
  rfl
theorem h9_16 {q : yQ} {d : Nat} {S S1 : yS} {js js1 : List xO} {x0 : Int} (h : Y q d 174 0 [vr 75, vi x0] [] S js = ythr q (yexc 16) S1 js1) : Y q (d + 1) 9 0 [vr 75, vi x0, vr 178, vu] [] S js = yret q (vi 1) S1 (js1 ++ [yexc 16]) := by rw [w9_0, h, e9_4_16, w9_12]
theorem h10_ok {q : yQ} {d : Nat} {S S1 : yS} {js js1 : List xO}  {a : Int} (h : Y q d 175 0 [vr 75] [] S js = yret q (vi a) S1 js1) : Y q (d + 1) 10 0 [vr 75, vr 178, vu] [] S js = yret q (vi 0) (sB S1 18 0 (yi2l a)) js1 := by
  rw [w10_0, h, YB_ret, w10_6, if_pos (by rw [yr_eq] <;> omega)]
  rfl
theorem h10_14 {q : yQ} {d : Nat} {S S1 : yS} {js js1 : List xO}  (h : Y q d 175 0 [vr 75] [] S js = ythr q (yexc 14) S1 js1) : Y q (d + 1) 10 0 [vr 75, vr 178, vu] [] S js = yret q (vi 1) S1 (js1 ++ [yexc 14]) := by rw [w10_0, h, e10_3_14, w10_11]
theorem h11_ok {q : yQ} {d : Nat} {S S1 : yS} {js js1 : List xO} {x0 : Int} {a : Int} (h : Y q d 176 0 [vr 75, vi x0] [] S js = yret q (vi a) S1 js1) : Y q (d + 1) 11 0 [vr 75, vi x0, vr 178, vu] [] S js = yret q (vi 0) (sB S1 18 0 (yi2l a)) js1 := by
  rw [w11_0, h, YB_ret, w11_7, if_pos (by rw [yr_eq] <;> omega)]
  rfl
theorem h11_16 {q : yQ} {d : Nat} {S S1 : yS} {js js1 : List xO} {x0 : Int} (h : Y q d 176 0 [vr 75, vi x0] [] S js = ythr q (yexc 16) S1 js1) : Y q (d + 1) 11 0 [vr 75, vi x0, vr 178, vu] [] S js = yret q (vi 1) S1 (js1 ++ [yexc 16]) := by rw [w11_0, h, e11_4_16, w11_12]
theorem h12_ok {q : yQ} {d : Nat} {S S1 : yS} {js js1 : List xO} {x0 : Int} {a : Int} (h : Y q d 177 0 [vr 75, vi x0] [] S js = yret q (vi a) S1 js1) : Y q (d + 1) 12 0 [vr 75, vi x0, vr 178, vu] [] S js = yret q (vi 0) (sB S1 18 0 (yi2l a)) js1 := by
  rw [w12_0, h, YB_ret, w12_7, if_pos (by rw [yr_eq] <;> omega)]
  rfl
theorem h12_14 {q : yQ} {d : Nat} {S S1 : yS} {js js1 : List xO} {x0 : Int} (h : Y q d 177 0 [vr 75, vi x0] [] S js = ythr q (yexc 14) S1 js1) : Y q (d + 1) 12 0 [vr 75, vi x0, vr 178, vu] [] S js = yret q (vi 1) S1 (js1 ++ [yexc 14]) := by rw [w12_0, h, e12_4_14, w12_12]
theorem h13_ok {q : yQ} {d : Nat} {S S1 : yS} {js js1 : List xO} {x0 : Int} {x1 : Int} {x2 : Int} {a : Int} (h : Y q d 178 0 [vr 75, vi x0, vi x1, vi x2] [] S js = yret q (vi a) S1 js1) : Y q (d + 1) 13 0 [vr 75, vi x0, vi x1, vi x2, vr 178, vu] [] S js = yret q (vi 0) (sB S1 18 0 (yi2l a)) js1 := by
  rw [w13_0, h, YB_ret, w13_10, if_pos (by rw [yr_eq] <;> omega)]
  rfl
theorem h13_16 {q : yQ} {d : Nat} {S S1 : yS} {js js1 : List xO} {x0 : Int} {x1 : Int} {x2 : Int} (h : Y q d 178 0 [vr 75, vi x0, vi x1, vi x2] [] S js = ythr q (yexc 16) S1 js1) : Y q (d + 1) 13 0 [vr 75, vi x0, vi x1, vi x2, vr 178, vu] [] S js = yret q (vi 1) S1 (js1 ++ [yexc 16]) := by rw [w13_0, h, e13_7_16, w13_15]
theorem h14_ok {q : yQ} {d : Nat} {S S1 : yS} {js js1 : List xO} {x0 : Int} {x1 : Int} {a : Int64} (h : Y q d 179 0 [vr 75, vi x0, vi x1] [] S js = yret q (vj a) S1 js1) : Y q (d + 1) 14 0 [vr 75, vi x0, vi x1, vr 178, vu] [] S js = yret q (vi 0) (sB S1 18 0 a) js1 := by
  rw [w14_0, h, YB_ret, w14_8, if_pos (by rw [yr_eq] <;> omega)]
  rfl
theorem h14_16 {q : yQ} {d : Nat} {S S1 : yS} {js js1 : List xO} {x0 : Int} {x1 : Int} (h : Y q d 179 0 [vr 75, vi x0, vi x1] [] S js = ythr q (yexc 16) S1 js1) : Y q (d + 1) 14 0 [vr 75, vi x0, vi x1, vr 178, vu] [] S js = yret q (vi 1) S1 (js1 ++ [yexc 16]) := by rw [w14_0, h, e14_5_16, w14_12]
theorem h15_ok {q : yQ} {d : Nat} {S S1 : yS} {js js1 : List xO} {x0 : Int} {a : Int} (h : Y q d 180 0 [vr 75, vi x0] [] S js = yret q (vi a) S1 js1) : Y q (d + 1) 15 0 [vr 75, vi x0, vr 178, vu] [] S js = yret q (vi 0) (sB S1 18 0 (yi2l a)) js1 := by
  rw [w15_0, h, YB_ret, w15_7, if_pos (by rw [yr_eq] <;> omega)]
  rfl
theorem h15_16 {q : yQ} {d : Nat} {S S1 : yS} {js js1 : List xO} {x0 : Int} (h : Y q d 180 0 [vr 75, vi x0] [] S js = ythr q (yexc 16) S1 js1) : Y q (d + 1) 15 0 [vr 75, vi x0, vr 178, vu] [] S js = yret q (vi 1) S1 (js1 ++ [yexc 16]) := by rw [w15_0, h, e15_4_16, w15_12]
theorem h16_ok {q : yQ} {d : Nat} {S S1 : yS} {js js1 : List xO} {x0 : Int} {a : Int64} (h : Y q d 181 0 [vr 75, vi x0] [] S js = yret q (vj a) S1 js1) : Y q (d + 1) 16 0 [vr 75, vi x0, vr 178, vu] [] S js = yret q (vi 0) (sB S1 18 0 a) js1 := by
  rw [w16_0, h, YB_ret, w16_7, if_pos (by rw [yr_eq] <;> omega)]
  rfl
theorem h16_16 {q : yQ} {d : Nat} {S S1 : yS} {js js1 : List xO} {x0 : Int} (h : Y q d 181 0 [vr 75, vi x0] [] S js = ythr q (yexc 16) S1 js1) : Y q (d + 1) 16 0 [vr 75, vi x0, vr 178, vu] [] S js = yret q (vi 1) S1 (js1 ++ [yexc 16]) := by rw [w16_0, h, e16_4_16, w16_11]
theorem h17_ok {q : yQ} {d : Nat} {S S1 : yS} {js js1 : List xO} {x0 : Int} {a : Int} (h : Y q d 182 0 [vr 75, vi x0] [] S js = yret q (vi a) S1 js1) : Y q (d + 1) 17 0 [vr 75, vi x0, vr 178, vu] [] S js = yret q (vi 0) (sB S1 18 0 (yi2l a)) js1 := by
  rw [w17_0, h, YB_ret, w17_7, if_pos (by rw [yr_eq] <;> omega)]
  rfl
theorem h17_16 {q : yQ} {d : Nat} {S S1 : yS} {js js1 : List xO} {x0 : Int} (h : Y q d 182 0 [vr 75, vi x0] [] S js = ythr q (yexc 16) S1 js1) : Y q (d + 1) 17 0 [vr 75, vi x0, vr 178, vu] [] S js = yret q (vi 1) S1 (js1 ++ [yexc 16]) := by rw [w17_0, h, e17_4_16, w17_12]
theorem lw0 {q : yQ} {d : Nat} {S S1 S2 : yS} {js js1 js2 : List xO} {x0 : Int} {y1 y2 y3 y4 : yV} (hL : q.2.1 ≤ 3072) (h0 : 0 ≤ x0) (h6 : x0 + 6 ≤ q.2.1) (hop : yand (xa q x0) 31 = 0) {kk : Int} {b : Int} (hc : Y q d 1 0 [vr 75, vi (xa q (x0 + 1)), vi (xa q (x0 + 2)), vi (xa q (x0 + 3)), vi (xa q (x0 + 4)), vi (xa q (x0 + 5)), vr 178, vu] [] S js = yret q (vi kk) S1 js1) (hm : Y q d 187 0 [vr 129, vi (xa q (x0 + 1)), vi (xa q (x0 + 2)), vi (xa q (x0 + 3)), vi (xa q (x0 + 4)), vi (xa q (x0 + 5))] [] S1 js1 = yret q (vi b) S2 js2) (hk : gI S2 39 = kk) (hkk : 0 ≤ kk ∧ kk ≤ 2) (hb : kk = 0 → gB S2 18 0 = yi2l b) : Y q (d + 1) 0 23 [vr 73, vr 75, vr 129, vr 178, vi x0, y1, y2, y3, y4] [] S js = Y q (d + 1) 0 23 [vr 73, vr 75, vr 129, vr 178, vi (x0 + 6), vi kk, vi b, y3, y4] [] S2 js2 := by
  rw [w0_23]
  simp (disch := omega) only [yr_eq, yr_and, yr_of, hop, Int.reduceEq, Int.reduceAdd, Int.reduceSub, Int.reduceLT, Int.reduceLE, Int.reduceToNat, ↓reduceIte, yP_lt, yN_lt, yP_le, yN_le, and_self, true_and, and_true, YB_ret, YB_ite, Nat.reduceAdd, w186_0, w0_187, w0_223, w0_229, hc, hm, hk]
  by_cases hk0 : kk = 0
  · have hb0 := hb hk0
    simp (disch := omega) only [hk0, hb0, ylc0, yr_eq, ↓reduceIte]
  · rw [if_neg hk0]
theorem lw1 {q : yQ} {d : Nat} {S S1 S2 : yS} {js js1 js2 : List xO} {x0 : Int} {y1 y2 y3 y4 : yV} (hL : q.2.1 ≤ 3072) (h0 : 0 ≤ x0) (h6 : x0 + 6 ≤ q.2.1) (hop : yand (xa q x0) 31 = 1) {kk : Int} {b : Int} (hc : Y q d 2 0 [vr 75, vi (xa q (x0 + 1)), vr 178, vu] [] S js = yret q (vi kk) S1 js1) (hm : Y q d 190 0 [vr 129, vi (xa q (x0 + 1))] [] S1 js1 = yret q (vi b) S2 js2) (hk : gI S2 39 = kk) (hkk : 0 ≤ kk ∧ kk ≤ 2) (hb : kk = 0 → gB S2 18 0 = yi2l b) : Y q (d + 1) 0 23 [vr 73, vr 75, vr 129, vr 178, vi x0, y1, y2, y3, y4] [] S js = Y q (d + 1) 0 23 [vr 73, vr 75, vr 129, vr 178, vi (x0 + 6), vi kk, vi b, y3, y4] [] S2 js2 := by
  rw [w0_23]
  simp (disch := omega) only [yr_eq, yr_and, yr_of, hop, Int.reduceEq, Int.reduceAdd, Int.reduceSub, Int.reduceLT, Int.reduceLE, Int.reduceToNat, ↓reduceIte, yP_lt, yN_lt, yP_le, yN_le, and_self, true_and, and_true, YB_ret, YB_ite, Nat.reduceAdd, w186_0, w0_267, w0_279, w0_285, hc, hm, hk]
  by_cases hk0 : kk = 0
  · have hb0 := hb hk0
    simp (disch := omega) only [hk0, hb0, ylc0, yr_eq, ↓reduceIte]
  · rw [if_neg hk0]
theorem lw2 {q : yQ} {d : Nat} {S S1 S2 : yS} {js js1 js2 : List xO} {x0 : Int} {y1 y2 y3 y4 : yV} (hL : q.2.1 ≤ 3072) (h0 : 0 ≤ x0) (h6 : x0 + 6 ≤ q.2.1) (hop : yand (xa q x0) 31 = 2) {kk : Int} {b : Int} (hc : Y q d 3 0 [vr 75, vi (yb (¬ xa q (x0 + 1) = 0)), vr 178, vu] [] S js = yret q (vi kk) S1 js1) (hm : Y q d 192 0 [vr 129, vi (yb (¬ xa q (x0 + 1) = 0)), vu, vu, vu, vu] [] S1 js1 = yret q (vi b) S2 js2) (hk : gI S2 39 = kk) (hkk : 0 ≤ kk ∧ kk ≤ 2) (hb : kk = 0 → gB S2 18 0 = yi2l b) : Y q (d + 1) 0 23 [vr 73, vr 75, vr 129, vr 178, vi x0, y1, y2, y3, y4] [] S js = Y q (d + 1) 0 23 [vr 73, vr 75, vr 129, vr 178, vi (x0 + 6), vi kk, vi b, y3, y4] [] S2 js2 := by
  by_cases hz : xa q (x0 + 1) = 0
  · have e1 : yb (¬ xa q (x0 + 1) = 0) = 0 := yb_f (fun z => z hz)
    rw [e1] at hc hm
    rw [w0_23]
    simp (disch := omega) only [hz, yb_t, yb_f, not_true_eq_false, not_false_eq_true, yr_eq, yr_and, yr_of, hop, Int.reduceEq, Int.reduceAdd, Int.reduceSub, Int.reduceLT, Int.reduceLE, Int.reduceToNat, ↓reduceIte, yP_lt, yN_lt, yP_le, yN_le, and_self, true_and, and_true, YB_ret, YB_ite, Nat.reduceAdd, w186_0, w0_331, w0_351, w0_357, hc, hm, hk]
    by_cases hk0 : kk = 0
    · have hb0 := hb hk0
      simp (disch := omega) only [hk0, hb0, ylc0, yr_eq, ↓reduceIte]
    · rw [if_neg hk0]
  · have e1 : yb (¬ xa q (x0 + 1) = 0) = 1 := yb_t hz
    rw [e1] at hc hm
    rw [w0_23]
    simp (disch := omega) only [hz, yb_t, yb_f, not_true_eq_false, not_false_eq_true, yr_eq, yr_and, yr_of, hop, Int.reduceEq, Int.reduceAdd, Int.reduceSub, Int.reduceLT, Int.reduceLE, Int.reduceToNat, ↓reduceIte, yP_lt, yN_lt, yP_le, yN_le, and_self, true_and, and_true, YB_ret, YB_ite, Nat.reduceAdd, w186_0, w0_331, w0_351, w0_357, hc, hm, hk]
    by_cases hk0 : kk = 0
    · have hb0 := hb hk0
      simp (disch := omega) only [hk0, hb0, ylc0, yr_eq, ↓reduceIte]
    · rw [if_neg hk0]
theorem lw3 {q : yQ} {d : Nat} {S S1 S2 : yS} {js js1 js2 : List xO} {x0 : Int} {y1 y2 y3 y4 : yV} (hL : q.2.1 ≤ 3072) (h0 : 0 ≤ x0) (h6 : x0 + 6 ≤ q.2.1) (hop : yand (xa q x0) 31 = 3) {kk : Int} {b : Int} (hc : Y q d 4 0 [vr 75, vj (xl q (x0 + 1) (x0 + 2)), vu, vr 178, vu] [] S js = yret q (vi kk) S1 js1) (hm : Y q d 198 0 [vr 129, vj (xl q (x0 + 1) (x0 + 2)), vu, vu, vu, vu, vu, vu] [] S1 js1 = yret q (vi b) S2 js2) (hk : gI S2 39 = kk) (hkk : 0 ≤ kk ∧ kk ≤ 2) (hb : kk = 0 → gB S2 18 0 = yi2l b) : Y q (d + 1) 0 23 [vr 73, vr 75, vr 129, vr 178, vi x0, y1, y2, y3, y4] [] S js = Y q (d + 1) 0 23 [vr 73, vr 75, vr 129, vr 178, vi (x0 + 6), vi kk, vi b, y3, y4] [] S2 js2 := by
  rw [w0_23]
  simp (disch := omega) only [yr_eq, yr_and, yr_of, hop, Int.reduceEq, Int.reduceAdd, Int.reduceSub, Int.reduceLT, Int.reduceLE, Int.reduceToNat, ↓reduceIte, yP_lt, yN_lt, yP_le, yN_le, and_self, true_and, and_true, YB_ret, YB_ite, Nat.reduceAdd, w186_0, w0_411, w0_439, w0_445, hc, hm, hk]
  by_cases hk0 : kk = 0
  · have hb0 := hb hk0
    simp (disch := omega) only [hk0, hb0, ylc0, yr_eq, ↓reduceIte]
  · rw [if_neg hk0]
theorem lw4 {q : yQ} {d : Nat} {S S1 S2 : yS} {js js1 js2 : List xO} {x0 : Int} {y1 y2 y3 y4 : yV} (hL : q.2.1 ≤ 3072) (h0 : 0 ≤ x0) (h6 : x0 + 6 ≤ q.2.1) (hop : yand (xa q x0) 31 = 4) {a b : Int} (hc : Y q d 159 0 [vr 75, vu] [] S js = yret q (vi a) S1 js1) (hm : Y q d 200 0 [vr 129, vu] [] S1 js1 = yret q (vi b) S2 js2) (hb : yr b = yr a) : Y q (d + 1) 0 23 [vr 73, vr 75, vr 129, vr 178, vi x0, y1, y2, y3, y4] [] S js = Y q (d + 1) 0 23 [vr 73, vr 75, vr 129, vr 178, vi (x0 + 6), y1, y2, y3, y4] [] S2 js2 := by
  rw [w0_23]
  simp (disch := omega) only [yr_eq, yr_and, yr_of, hop, Int.reduceEq, Int.reduceAdd, Int.reduceSub, Int.reduceLT, Int.reduceLE, Int.reduceToNat, ↓reduceIte, yP_lt, yN_lt, yP_le, yN_le, and_self, true_and, and_true, YB_ret, YB_ite, Nat.reduceAdd, w186_0, w0_476, w0_480, hc, hm, hb, ylc0]
theorem lw5 {q : yQ} {d : Nat} {S S1 S2 : yS} {js js1 js2 : List xO} {x0 : Int} {y1 y2 y3 y4 : yV} (hL : q.2.1 ≤ 3072) (h0 : 0 ≤ x0) (h6 : x0 + 6 ≤ q.2.1) (hop : yand (xa q x0) 31 = 5) {kk : Int} {b : Int} (hc : Y q d 5 0 [vr 75, vi (xa q (x0 + 1)), vr 178, vu] [] S js = yret q (vi kk) S1 js1) (hm : Y q d 201 0 [vr 129, vi (xa q (x0 + 1))] [] S1 js1 = yret q (vi b) S2 js2) (hk : gI S2 39 = kk) (hkk : 0 ≤ kk ∧ kk ≤ 2) (hb : kk = 0 → gB S2 18 0 = yi2l b) : Y q (d + 1) 0 23 [vr 73, vr 75, vr 129, vr 178, vi x0, y1, y2, y3, y4] [] S js = Y q (d + 1) 0 23 [vr 73, vr 75, vr 129, vr 178, vi (x0 + 6), vi kk, vi b, y3, y4] [] S2 js2 := by
  rw [w0_23]
  simp (disch := omega) only [yr_eq, yr_and, yr_of, hop, Int.reduceEq, Int.reduceAdd, Int.reduceSub, Int.reduceLT, Int.reduceLE, Int.reduceToNat, ↓reduceIte, yP_lt, yN_lt, yP_le, yN_le, and_self, true_and, and_true, YB_ret, YB_ite, Nat.reduceAdd, w186_0, w0_496, w0_508, w0_514, hc, hm, hk]
  by_cases hk0 : kk = 0
  · have hb0 := hb hk0
    simp (disch := omega) only [hk0, hb0, ylc0, yr_eq, ↓reduceIte]
  · rw [if_neg hk0]
theorem lw6 {q : yQ} {d : Nat} {S S1 S2 : yS} {js js1 js2 : List xO} {x0 : Int} {y1 y2 y3 y4 : yV} (hL : q.2.1 ≤ 3072) (h0 : 0 ≤ x0) (h6 : x0 + 6 ≤ q.2.1) (hop : yand (xa q x0) 31 = 6) {kk : Int} {b : Int64} (hc : Y q d 6 0 [vr 75, vi (xa q (x0 + 1)), vi (xa q (x0 + 2)), vr 178, vu] [] S js = yret q (vi kk) S1 js1) (hm : Y q d 203 0 [vr 129, vi (xa q (x0 + 1)), vi (xa q (x0 + 2))] [] S1 js1 = yret q (vj b) S2 js2) (hk : gI S2 39 = kk) (hkk : 0 ≤ kk ∧ kk ≤ 2) (hb : kk = 0 → gB S2 18 0 = b) : Y q (d + 1) 0 23 [vr 73, vr 75, vr 129, vr 178, vi x0, y1, y2, y3, y4] [] S js = Y q (d + 1) 0 23 [vr 73, vr 75, vr 129, vr 178, vi (x0 + 6), vi kk, vj b, vu, y4] [] S2 js2 := by
  rw [w0_23]
  simp (disch := omega) only [yr_eq, yr_and, yr_of, hop, Int.reduceEq, Int.reduceAdd, Int.reduceSub, Int.reduceLT, Int.reduceLE, Int.reduceToNat, ↓reduceIte, yP_lt, yN_lt, yP_le, yN_le, and_self, true_and, and_true, YB_ret, YB_ite, Nat.reduceAdd, w186_0, w0_558, w0_576, w0_582, hc, hm, hk]
  by_cases hk0 : kk = 0
  · have hb0 := hb hk0
    simp (disch := omega) only [hk0, hb0, ylc0, yr_eq, ↓reduceIte]
  · rw [if_neg hk0]
theorem lw7 {q : yQ} {d : Nat} {S S1 S2 : yS} {js js1 js2 : List xO} {x0 : Int} {y1 y2 y3 y4 : yV} (hL : q.2.1 ≤ 3072) (h0 : 0 ≤ x0) (h6 : x0 + 6 ≤ q.2.1) (hop : yand (xa q x0) 31 = 7) {a b : Int} (hc : Y q d 160 0 [vr 75] [] S js = yret q (vi a) S1 js1) (hm : Y q d 205 0 [vr 129, vu, vu] [] S1 js1 = yret q (vi b) S2 js2) (hb : yr b = yr a) : Y q (d + 1) 0 23 [vr 73, vr 75, vr 129, vr 178, vi x0, y1, y2, y3, y4] [] S js = Y q (d + 1) 0 23 [vr 73, vr 75, vr 129, vr 178, vi (x0 + 6), y1, y2, y3, y4] [] S2 js2 := by
  rw [w0_23]
  simp (disch := omega) only [yr_eq, yr_and, yr_of, hop, Int.reduceEq, Int.reduceAdd, Int.reduceSub, Int.reduceLT, Int.reduceLE, Int.reduceToNat, ↓reduceIte, yP_lt, yN_lt, yP_le, yN_le, and_self, true_and, and_true, YB_ret, YB_ite, Nat.reduceAdd, w186_0, w0_612, w0_616, hc, hm, hb, ylc0]
theorem lw8 {q : yQ} {d : Nat} {S S1 S2 : yS} {js js1 js2 : List xO} {x0 : Int} {y1 y2 y3 y4 : yV} (hL : q.2.1 ≤ 3072) (h0 : 0 ≤ x0) (h6 : x0 + 6 ≤ q.2.1) (hop : yand (xa q x0) 31 = 8) {a b : Int} (hc : Y q d 161 0 [vr 75] [] S js = yret q (vi a) S1 js1) (hm : Y q d 254 0 [vr 129] [] S1 js1 = yret q (vi b) S2 js2) (hb : yr b = yr a) : Y q (d + 1) 0 23 [vr 73, vr 75, vr 129, vr 178, vi x0, y1, y2, y3, y4] [] S js = Y q (d + 1) 0 23 [vr 73, vr 75, vr 129, vr 178, vi (x0 + 6), y1, y2, y3, y4] [] S2 js2 := by
  rw [w0_23]
  simp (disch := omega) only [yr_eq, yr_and, yr_of, hop, Int.reduceEq, Int.reduceAdd, Int.reduceSub, Int.reduceLT, Int.reduceLE, Int.reduceToNat, ↓reduceIte, yP_lt, yN_lt, yP_le, yN_le, and_self, true_and, and_true, YB_ret, YB_ite, Nat.reduceAdd, w186_0, w0_625, w0_629, hc, hm, hb, ylc0]
theorem lw9 {q : yQ} {d : Nat} {S S1 S2 : yS} {js js1 js2 : List xO} {x0 : Int} {y1 y2 y3 y4 : yV} (hL : q.2.1 ≤ 3072) (h0 : 0 ≤ x0) (h6 : x0 + 6 ≤ q.2.1) (hop : yand (xa q x0) 31 = 9) {a b : Int} (hc : Y q d 162 0 [vr 75] [] S js = yret q (vi a) S1 js1) (hm : Y q d 255 0 [vr 129] [] S1 js1 = yret q (vi b) S2 js2) (hb : yr b = yr a) : Y q (d + 1) 0 23 [vr 73, vr 75, vr 129, vr 178, vi x0, y1, y2, y3, y4] [] S js = Y q (d + 1) 0 23 [vr 73, vr 75, vr 129, vr 178, vi (x0 + 6), y1, y2, y3, y4] [] S2 js2 := by
  rw [w0_23]
  simp (disch := omega) only [yr_eq, yr_and, yr_of, hop, Int.reduceEq, Int.reduceAdd, Int.reduceSub, Int.reduceLT, Int.reduceLE, Int.reduceToNat, ↓reduceIte, yP_lt, yN_lt, yP_le, yN_le, and_self, true_and, and_true, YB_ret, YB_ite, Nat.reduceAdd, w186_0, w0_638, w0_642, hc, hm, hb, ylc0]
theorem lw10 {q : yQ} {d : Nat} {S S1 S2 : yS} {js js1 js2 : List xO} {x0 : Int} {y1 y2 y3 y4 : yV} (hL : q.2.1 ≤ 3072) (h0 : 0 ≤ x0) (h6 : x0 + 6 ≤ q.2.1) (hop : yand (xa q x0) 31 = 10) {kk : Int} {b : Int64} (hc : Y q d 7 0 [vr 75, vi (xa q (x0 + 1)), vi (yb (¬ xa q (x0 + 2) = 0)), vr 178, vu] [] S js = yret q (vi kk) S1 js1) (hm : Y q d 256 0 [vr 129, vi (xa q (x0 + 1)), vi (yb (¬ xa q (x0 + 2) = 0))] [] S1 js1 = yret q (vj b) S2 js2) (hk : gI S2 39 = kk) (hkk : 0 ≤ kk ∧ kk ≤ 2) (hb : kk = 0 → gB S2 18 0 = b) : Y q (d + 1) 0 23 [vr 73, vr 75, vr 129, vr 178, vi x0, y1, y2, y3, y4] [] S js = Y q (d + 1) 0 23 [vr 73, vr 75, vr 129, vr 178, vi (x0 + 6), vi kk, vj b, vu, y4] [] S2 js2 := by
  by_cases hz : xa q (x0 + 2) = 0
  · have e1 : yb (¬ xa q (x0 + 2) = 0) = 0 := yb_f (fun z => z hz)
    rw [e1] at hc hm
    rw [w0_23]
    simp (disch := omega) only [hz, yb_t, yb_f, not_true_eq_false, not_false_eq_true, yr_eq, yr_and, yr_of, hop, Int.reduceEq, Int.reduceAdd, Int.reduceSub, Int.reduceLT, Int.reduceLE, Int.reduceToNat, ↓reduceIte, yP_lt, yN_lt, yP_le, yN_le, and_self, true_and, and_true, YB_ret, YB_ite, Nat.reduceAdd, w186_0, w0_672, w0_698, w0_704, hc, hm, hk]
    by_cases hk0 : kk = 0
    · have hb0 := hb hk0
      simp (disch := omega) only [hk0, hb0, ylc0, yr_eq, ↓reduceIte]
    · rw [if_neg hk0]
  · have e1 : yb (¬ xa q (x0 + 2) = 0) = 1 := yb_t hz
    rw [e1] at hc hm
    rw [w0_23]
    simp (disch := omega) only [hz, yb_t, yb_f, not_true_eq_false, not_false_eq_true, yr_eq, yr_and, yr_of, hop, Int.reduceEq, Int.reduceAdd, Int.reduceSub, Int.reduceLT, Int.reduceLE, Int.reduceToNat, ↓reduceIte, yP_lt, yN_lt, yP_le, yN_le, and_self, true_and, and_true, YB_ret, YB_ite, Nat.reduceAdd, w186_0, w0_672, w0_698, w0_704, hc, hm, hk]
    by_cases hk0 : kk = 0
    · have hb0 := hb hk0
      simp (disch := omega) only [hk0, hb0, ylc0, yr_eq, ↓reduceIte]
    · rw [if_neg hk0]
theorem lw11 {q : yQ} {d : Nat} {S S1 S2 : yS} {js js1 js2 : List xO} {x0 : Int} {y1 y2 y3 y4 : yV} (hL : q.2.1 ≤ 3072) (h0 : 0 ≤ x0) (h6 : x0 + 6 ≤ q.2.1) (hop : yand (xa q x0) 31 = 11) {kk : Int} {b : Int} (hc : Y q d 8 0 [vr 75, vi (xa q (x0 + 1)), vr 178, vu] [] S js = yret q (vi kk) S1 js1) (hm : Y q d 257 0 [vr 129, vi (xa q (x0 + 1)), vu, vu] [] S1 js1 = yret q (vi b) S2 js2) (hk : gI S2 39 = kk) (hkk : 0 ≤ kk ∧ kk ≤ 2) (hb : kk = 0 → gB S2 18 0 = yi2l b) : Y q (d + 1) 0 23 [vr 73, vr 75, vr 129, vr 178, vi x0, y1, y2, y3, y4] [] S js = Y q (d + 1) 0 23 [vr 73, vr 75, vr 129, vr 178, vi (x0 + 6), vi kk, vi b, y3, y4] [] S2 js2 := by
  rw [w0_23]
  simp (disch := omega) only [yr_eq, yr_and, yr_of, hop, Int.reduceEq, Int.reduceAdd, Int.reduceSub, Int.reduceLT, Int.reduceLE, Int.reduceToNat, ↓reduceIte, yP_lt, yN_lt, yP_le, yN_le, and_self, true_and, and_true, YB_ret, YB_ite, Nat.reduceAdd, w186_0, w0_741, w0_753, w0_759, hc, hm, hk]
  by_cases hk0 : kk = 0
  · have hb0 := hb hk0
    simp (disch := omega) only [hk0, hb0, ylc0, yr_eq, ↓reduceIte]
  · rw [if_neg hk0]
theorem lw12 {q : yQ} {d : Nat} {S S1 S2 : yS} {js js1 js2 : List xO} {x0 : Int} {y1 y2 y3 y4 : yV} (hL : q.2.1 ≤ 3072) (h0 : 0 ≤ x0) (h6 : x0 + 6 ≤ q.2.1) (hop : yand (xa q x0) 31 = 12) {a b : Int64} (hc : Y q d 163 0 [vr 75] [] S js = yret q (vj a) S1 js1) (hm : Y q d 274 0 [vr 129] [] S1 js1 = yret q (vj b) S2 js2) (hb : b = a) : Y q (d + 1) 0 23 [vr 73, vr 75, vr 129, vr 178, vi x0, y1, y2, y3, y4] [] S js = Y q (d + 1) 0 23 [vr 73, vr 75, vr 129, vr 178, vi (x0 + 6), y1, y2, y3, y4] [] S2 js2 := by
  rw [w0_23]
  simp (disch := omega) only [yr_eq, yr_and, yr_of, hop, Int.reduceEq, Int.reduceAdd, Int.reduceSub, Int.reduceLT, Int.reduceLE, Int.reduceToNat, ↓reduceIte, yP_lt, yN_lt, yP_le, yN_le, and_self, true_and, and_true, YB_ret, YB_ite, Nat.reduceAdd, w186_0, w0_790, w0_794, hc, hm, hb, ylc0]
theorem lw13 {q : yQ} {d : Nat} {S S1 S2 : yS} {js js1 js2 : List xO} {x0 : Int} {y1 y2 y3 y4 : yV} (hL : q.2.1 ≤ 3072) (h0 : 0 ≤ x0) (h6 : x0 + 6 ≤ q.2.1) (hop : yand (xa q x0) 31 = 13) {kk : Int} {b : Int} (hc : Y q d 9 0 [vr 75, vi (xa q (x0 + 1)), vr 178, vu] [] S js = yret q (vi kk) S1 js1) (hm : Y q d 275 0 [vr 129, vi (xa q (x0 + 1))] [] S1 js1 = yret q (vi b) S2 js2) (hk : gI S2 39 = kk) (hkk : 0 ≤ kk ∧ kk ≤ 2) (hb : kk = 0 → gB S2 18 0 = yi2l b) : Y q (d + 1) 0 23 [vr 73, vr 75, vr 129, vr 178, vi x0, y1, y2, y3, y4] [] S js = Y q (d + 1) 0 23 [vr 73, vr 75, vr 129, vr 178, vi (x0 + 6), vi kk, vi b, y3, y4] [] S2 js2 := by
  rw [w0_23]
  simp (disch := omega) only [yr_eq, yr_and, yr_of, hop, Int.reduceEq, Int.reduceAdd, Int.reduceSub, Int.reduceLT, Int.reduceLE, Int.reduceToNat, ↓reduceIte, yP_lt, yN_lt, yP_le, yN_le, and_self, true_and, and_true, YB_ret, YB_ite, Nat.reduceAdd, w186_0, w0_811, w0_823, w0_829, hc, hm, hk]
  by_cases hk0 : kk = 0
  · have hb0 := hb hk0
    simp (disch := omega) only [hk0, hb0, ylc0, yr_eq, ↓reduceIte]
  · rw [if_neg hk0]
theorem lw14 {q : yQ} {d : Nat} {S S1 S2 : yS} {js js1 js2 : List xO} {x0 : Int} {y1 y2 y3 y4 : yV} (hL : q.2.1 ≤ 3072) (h0 : 0 ≤ x0) (h6 : x0 + 6 ≤ q.2.1) (hop : yand (xa q x0) 31 = 14) {kk : Int} {b : Int} (hc : Y q d 10 0 [vr 75, vr 178, vu] [] S js = yret q (vi kk) S1 js1) (hm : Y q d 276 0 [vr 129] [] S1 js1 = yret q (vi b) S2 js2) (hk : gI S2 39 = kk) (hkk : 0 ≤ kk ∧ kk ≤ 2) (hb : kk = 0 → gB S2 18 0 = yi2l b) : Y q (d + 1) 0 23 [vr 73, vr 75, vr 129, vr 178, vi x0, y1, y2, y3, y4] [] S js = Y q (d + 1) 0 23 [vr 73, vr 75, vr 129, vr 178, vi (x0 + 6), vi kk, vi b, y3, y4] [] S2 js2 := by
  rw [w0_23]
  simp (disch := omega) only [yr_eq, yr_and, yr_of, hop, Int.reduceEq, Int.reduceAdd, Int.reduceSub, Int.reduceLT, Int.reduceLE, Int.reduceToNat, ↓reduceIte, yP_lt, yN_lt, yP_le, yN_le, and_self, true_and, and_true, YB_ret, YB_ite, Nat.reduceAdd, w186_0, w0_861, w0_867, w0_873, hc, hm, hk]
  by_cases hk0 : kk = 0
  · have hb0 := hb hk0
    simp (disch := omega) only [hk0, hb0, ylc0, yr_eq, ↓reduceIte]
  · rw [if_neg hk0]
theorem lw15 {q : yQ} {d : Nat} {S S1 S2 : yS} {js js1 js2 : List xO} {x0 : Int} {y1 y2 y3 y4 : yV} (hL : q.2.1 ≤ 3072) (h0 : 0 ≤ x0) (h6 : x0 + 6 ≤ q.2.1) (hop : yand (xa q x0) 31 = 15) {kk : Int} {b : Int} (hc : Y q d 11 0 [vr 75, vi (xa q (x0 + 1)), vr 178, vu] [] S js = yret q (vi kk) S1 js1) (hm : Y q d 302 0 [vr 129, vi (xa q (x0 + 1))] [] S1 js1 = yret q (vi b) S2 js2) (hk : gI S2 39 = kk) (hkk : 0 ≤ kk ∧ kk ≤ 2) (hb : kk = 0 → gB S2 18 0 = yi2l b) : Y q (d + 1) 0 23 [vr 73, vr 75, vr 129, vr 178, vi x0, y1, y2, y3, y4] [] S js = Y q (d + 1) 0 23 [vr 73, vr 75, vr 129, vr 178, vi (x0 + 6), vi kk, vi b, y3, y4] [] S2 js2 := by
  rw [w0_23]
  simp (disch := omega) only [yr_eq, yr_and, yr_of, hop, Int.reduceEq, Int.reduceAdd, Int.reduceSub, Int.reduceLT, Int.reduceLE, Int.reduceToNat, ↓reduceIte, yP_lt, yN_lt, yP_le, yN_le, and_self, true_and, and_true, YB_ret, YB_ite, Nat.reduceAdd, w186_0, w0_911, w0_923, w0_929, hc, hm, hk]
  by_cases hk0 : kk = 0
  · have hb0 := hb hk0
    simp (disch := omega) only [hk0, hb0, ylc0, yr_eq, ↓reduceIte]
  · rw [if_neg hk0]
theorem lw16 {q : yQ} {d : Nat} {S S1 S2 : yS} {js js1 js2 : List xO} {x0 : Int} {y1 y2 y3 y4 : yV} (hL : q.2.1 ≤ 3072) (h0 : 0 ≤ x0) (h6 : x0 + 6 ≤ q.2.1) (hop : yand (xa q x0) 31 = 16) {kk : Int} {b : Int} (hc : Y q d 12 0 [vr 75, vi (yb (¬ xa q (x0 + 1) = 0)), vr 178, vu] [] S js = yret q (vi kk) S1 js1) (hm : Y q d 304 0 [vr 129, vi (yb (¬ xa q (x0 + 1) = 0))] [] S1 js1 = yret q (vi b) S2 js2) (hk : gI S2 39 = kk) (hkk : 0 ≤ kk ∧ kk ≤ 2) (hb : kk = 0 → gB S2 18 0 = yi2l b) : Y q (d + 1) 0 23 [vr 73, vr 75, vr 129, vr 178, vi x0, y1, y2, y3, y4] [] S js = Y q (d + 1) 0 23 [vr 73, vr 75, vr 129, vr 178, vi (x0 + 6), vi kk, vi b, y3, y4] [] S2 js2 := by
  by_cases hz : xa q (x0 + 1) = 0
  · have e1 : yb (¬ xa q (x0 + 1) = 0) = 0 := yb_f (fun z => z hz)
    rw [e1] at hc hm
    rw [w0_23]
    simp (disch := omega) only [hz, yb_t, yb_f, not_true_eq_false, not_false_eq_true, yr_eq, yr_and, yr_of, hop, Int.reduceEq, Int.reduceAdd, Int.reduceSub, Int.reduceLT, Int.reduceLE, Int.reduceToNat, ↓reduceIte, yP_lt, yN_lt, yP_le, yN_le, and_self, true_and, and_true, YB_ret, YB_ite, Nat.reduceAdd, w186_0, w0_975, w0_995, w0_1001, hc, hm, hk]
    by_cases hk0 : kk = 0
    · have hb0 := hb hk0
      simp (disch := omega) only [hk0, hb0, ylc0, yr_eq, ↓reduceIte]
    · rw [if_neg hk0]
  · have e1 : yb (¬ xa q (x0 + 1) = 0) = 1 := yb_t hz
    rw [e1] at hc hm
    rw [w0_23]
    simp (disch := omega) only [hz, yb_t, yb_f, not_true_eq_false, not_false_eq_true, yr_eq, yr_and, yr_of, hop, Int.reduceEq, Int.reduceAdd, Int.reduceSub, Int.reduceLT, Int.reduceLE, Int.reduceToNat, ↓reduceIte, yP_lt, yN_lt, yP_le, yN_le, and_self, true_and, and_true, YB_ret, YB_ite, Nat.reduceAdd, w186_0, w0_975, w0_995, w0_1001, hc, hm, hk]
    by_cases hk0 : kk = 0
    · have hb0 := hb hk0
      simp (disch := omega) only [hk0, hb0, ylc0, yr_eq, ↓reduceIte]
    · rw [if_neg hk0]
theorem lw17 {q : yQ} {d : Nat} {S S1 S2 : yS} {js js1 js2 : List xO} {x0 : Int} {y1 y2 y3 y4 : yV} (hL : q.2.1 ≤ 3072) (h0 : 0 ≤ x0) (h6 : x0 + 6 ≤ q.2.1) (hop : yand (xa q x0) 31 = 17) {kk : Int} {b : Int} (hc : Y q d 13 0 [vr 75, vi (xa q (x0 + 1)), vi (xa q (x0 + 2)), vi (xa q (x0 + 3)), vr 178, vu] [] S js = yret q (vi kk) S1 js1) (hm : Y q d 305 0 [vr 129, vi (xa q (x0 + 1)), vi (xa q (x0 + 2)), vi (xa q (x0 + 3))] [] S1 js1 = yret q (vi b) S2 js2) (hk : gI S2 39 = kk) (hkk : 0 ≤ kk ∧ kk ≤ 2) (hb : kk = 0 → gB S2 18 0 = yi2l b) : Y q (d + 1) 0 23 [vr 73, vr 75, vr 129, vr 178, vi x0, y1, y2, y3, y4] [] S js = Y q (d + 1) 0 23 [vr 73, vr 75, vr 129, vr 178, vi (x0 + 6), vi kk, vi b, y3, y4] [] S2 js2 := by
  rw [w0_23]
  simp (disch := omega) only [yr_eq, yr_and, yr_of, hop, Int.reduceEq, Int.reduceAdd, Int.reduceSub, Int.reduceLT, Int.reduceLE, Int.reduceToNat, ↓reduceIte, yP_lt, yN_lt, yP_le, yN_le, and_self, true_and, and_true, YB_ret, YB_ite, Nat.reduceAdd, w186_0, w0_1051, w0_1075, w0_1081, hc, hm, hk]
  by_cases hk0 : kk = 0
  · have hb0 := hb hk0
    simp (disch := omega) only [hk0, hb0, ylc0, yr_eq, ↓reduceIte]
  · rw [if_neg hk0]
theorem lw18 {q : yQ} {d : Nat} {S S1 S2 : yS} {js js1 js2 : List xO} {x0 : Int} {y1 y2 y3 y4 : yV} (hL : q.2.1 ≤ 3072) (h0 : 0 ≤ x0) (h6 : x0 + 6 ≤ q.2.1) (hop : yand (xa q x0) 31 = 18) {kk : Int} {b : Int64} (hc : Y q d 14 0 [vr 75, vi (xa q (x0 + 1)), vi (xa q (x0 + 2)), vr 178, vu] [] S js = yret q (vi kk) S1 js1) (hm : Y q d 307 0 [vr 129, vi (xa q (x0 + 1)), vi (xa q (x0 + 2))] [] S1 js1 = yret q (vj b) S2 js2) (hk : gI S2 39 = kk) (hkk : 0 ≤ kk ∧ kk ≤ 2) (hb : kk = 0 → gB S2 18 0 = b) : Y q (d + 1) 0 23 [vr 73, vr 75, vr 129, vr 178, vi x0, y1, y2, y3, y4] [] S js = Y q (d + 1) 0 23 [vr 73, vr 75, vr 129, vr 178, vi (x0 + 6), vi kk, vj b, vu, y4] [] S2 js2 := by
  rw [w0_23]
  simp (disch := omega) only [yr_eq, yr_and, yr_of, hop, Int.reduceEq, Int.reduceAdd, Int.reduceSub, Int.reduceLT, Int.reduceLE, Int.reduceToNat, ↓reduceIte, yP_lt, yN_lt, yP_le, yN_le, and_self, true_and, and_true, YB_ret, YB_ite, Nat.reduceAdd, w186_0, w0_1125, w0_1143, w0_1149, hc, hm, hk]
  by_cases hk0 : kk = 0
  · have hb0 := hb hk0
    simp (disch := omega) only [hk0, hb0, ylc0, yr_eq, ↓reduceIte]
  · rw [if_neg hk0]
theorem lw19 {q : yQ} {d : Nat} {S S1 S2 : yS} {js js1 js2 : List xO} {x0 : Int} {y1 y2 y3 y4 : yV} (hL : q.2.1 ≤ 3072) (h0 : 0 ≤ x0) (h6 : x0 + 6 ≤ q.2.1) (hop : yand (xa q x0) 31 = 19) {kk : Int} {b : Int} (hc : Y q d 15 0 [vr 75, vi (xa q (x0 + 1)), vr 178, vu] [] S js = yret q (vi kk) S1 js1) (hm : Y q d 309 0 [vr 129, vi (xa q (x0 + 1))] [] S1 js1 = yret q (vi b) S2 js2) (hk : gI S2 39 = kk) (hkk : 0 ≤ kk ∧ kk ≤ 2) (hb : kk = 0 → gB S2 18 0 = yi2l b) : Y q (d + 1) 0 23 [vr 73, vr 75, vr 129, vr 178, vi x0, y1, y2, y3, y4] [] S js = Y q (d + 1) 0 23 [vr 73, vr 75, vr 129, vr 178, vi (x0 + 6), vi kk, vi b, y3, y4] [] S2 js2 := by
  rw [w0_23]
  simp (disch := omega) only [yr_eq, yr_and, yr_of, hop, Int.reduceEq, Int.reduceAdd, Int.reduceSub, Int.reduceLT, Int.reduceLE, Int.reduceToNat, ↓reduceIte, yP_lt, yN_lt, yP_le, yN_le, and_self, true_and, and_true, YB_ret, YB_ite, Nat.reduceAdd, w186_0, w0_1186, w0_1198, w0_1204, hc, hm, hk]
  by_cases hk0 : kk = 0
  · have hb0 := hb hk0
    simp (disch := omega) only [hk0, hb0, ylc0, yr_eq, ↓reduceIte]
  · rw [if_neg hk0]
theorem lw20 {q : yQ} {d : Nat} {S S1 S2 : yS} {js js1 js2 : List xO} {x0 : Int} {y1 y2 y3 y4 : yV} (hL : q.2.1 ≤ 3072) (h0 : 0 ≤ x0) (h6 : x0 + 6 ≤ q.2.1) (hop : yand (xa q x0) 31 = 20) {kk : Int} {b : Int64} (hc : Y q d 16 0 [vr 75, vi (xa q (x0 + 1)), vr 178, vu] [] S js = yret q (vi kk) S1 js1) (hm : Y q d 310 0 [vr 129, vi (xa q (x0 + 1))] [] S1 js1 = yret q (vj b) S2 js2) (hk : gI S2 39 = kk) (hkk : 0 ≤ kk ∧ kk ≤ 2) (hb : kk = 0 → gB S2 18 0 = b) : Y q (d + 1) 0 23 [vr 73, vr 75, vr 129, vr 178, vi x0, y1, y2, y3, y4] [] S js = Y q (d + 1) 0 23 [vr 73, vr 75, vr 129, vr 178, vi (x0 + 6), vi kk, vj b, vu, y4] [] S2 js2 := by
  rw [w0_23]
  simp (disch := omega) only [yr_eq, yr_and, yr_of, hop, Int.reduceEq, Int.reduceAdd, Int.reduceSub, Int.reduceLT, Int.reduceLE, Int.reduceToNat, ↓reduceIte, yP_lt, yN_lt, yP_le, yN_le, and_self, true_and, and_true, YB_ret, YB_ite, Nat.reduceAdd, w186_0, w0_1242, w0_1254, w0_1260, hc, hm, hk]
  by_cases hk0 : kk = 0
  · have hb0 := hb hk0
    simp (disch := omega) only [hk0, hb0, ylc0, yr_eq, ↓reduceIte]
  · rw [if_neg hk0]
theorem lw21 {q : yQ} {d : Nat} {S S1 S2 : yS} {js js1 js2 : List xO} {x0 : Int} {y1 y2 y3 y4 : yV} (hL : q.2.1 ≤ 3072) (h0 : 0 ≤ x0) (h6 : x0 + 6 ≤ q.2.1) (hop : yand (xa q x0) 31 = 21) {kk : Int} {b : Int} (hc : Y q d 17 0 [vr 75, vi (xa q (x0 + 1)), vr 178, vu] [] S js = yret q (vi kk) S1 js1) (hm : Y q d 311 0 [vr 129, vi (xa q (x0 + 1))] [] S1 js1 = yret q (vi b) S2 js2) (hk : gI S2 39 = kk) (hkk : 0 ≤ kk ∧ kk ≤ 2) (hb : kk = 0 → gB S2 18 0 = yi2l b) : Y q (d + 1) 0 23 [vr 73, vr 75, vr 129, vr 178, vi x0, y1, y2, y3, y4] [] S js = Y q (d + 1) 0 23 [vr 73, vr 75, vr 129, vr 178, vi (x0 + 6), vi kk, vi b, y3, y4] [] S2 js2 := by
  rw [w0_23]
  simp (disch := omega) only [yr_eq, yr_and, yr_of, hop, Int.reduceEq, Int.reduceAdd, Int.reduceSub, Int.reduceLT, Int.reduceLE, Int.reduceToNat, ↓reduceIte, yP_lt, yN_lt, yP_le, yN_le, and_self, true_and, and_true, YB_ret, YB_ite, Nat.reduceAdd, w186_0, w0_1297, w0_1309, w0_1315, hc, hm, hk]
  by_cases hk0 : kk = 0
  · have hb0 := hb hk0
    simp (disch := omega) only [hk0, hb0, ylc0, yr_eq, ↓reduceIte]
  · rw [if_neg hk0]
theorem lw22 {q : yQ} {d : Nat} {S S1 S2 : yS} {js js1 js2 : List xO} {x0 : Int} {y1 y2 y3 y4 : yV} (hL : q.2.1 ≤ 3072) (h0 : 0 ≤ x0) (h6 : x0 + 6 ≤ q.2.1) (hop : yand (xa q x0) 31 = 22) {a b : UInt64} (hc : Y q d 164 0 [vr 75] [] S js = yret q (vd a) S1 js1) (hm : Y q d 312 0 [vr 129, vu, vu, vu] [] S1 js1 = yret q (vd b) S2 js2) (hb : a = b) : Y q (d + 1) 0 23 [vr 73, vr 75, vr 129, vr 178, vi x0, y1, y2, y3, y4] [] S js = Y q (d + 1) 0 23 [vr 73, vr 75, vr 129, vr 178, vi (x0 + 6), vd a, vu, vd b, vu] [] S2 js2 := by
  subst hb
  rw [w0_23]
  simp (disch := omega) only [yr_eq, yr_and, yr_of, hop, Int.reduceEq, Int.reduceAdd, Int.reduceSub, Int.reduceLT, Int.reduceLE, Int.reduceToNat, ↓reduceIte, yP_lt, yN_lt, yP_le, yN_le, and_self, true_and, and_true, YB_ret, YB_ite, Nat.reduceAdd, w186_0, w0_1346, w0_1352, hc, hm]
  split
  · rfl
  · rfl
theorem lw23 {q : yQ} {d : Nat} {S S1 S2 : yS} {js js1 js2 : List xO} {x0 : Int} {y1 y2 y3 y4 : yV} (hL : q.2.1 ≤ 3072) (h0 : 0 ≤ x0) (h6 : x0 + 6 ≤ q.2.1) (hop : yand (xa q x0) 31 = 23) {a b : Int64} (hc : Y q d 165 0 [vr 75, vu, vu, vu, vu] [] S js = yret q (vj a) S1 js1) (hm : Y q d 313 0 [vr 129, vu, vu, vu, vu] [] S1 js1 = yret q (vj b) S2 js2) (hb : b = a) : Y q (d + 1) 0 23 [vr 73, vr 75, vr 129, vr 178, vi x0, y1, y2, y3, y4] [] S js = Y q (d + 1) 0 23 [vr 73, vr 75, vr 129, vr 178, vi (x0 + 6), y1, y2, y3, y4] [] S2 js2 := by
  rw [w0_23]
  simp (disch := omega) only [yr_eq, yr_and, yr_of, hop, Int.reduceEq, Int.reduceAdd, Int.reduceSub, Int.reduceLT, Int.reduceLE, Int.reduceToNat, ↓reduceIte, yP_lt, yN_lt, yP_le, yN_le, and_self, true_and, and_true, YB_ret, YB_ite, Nat.reduceAdd, w186_0, w0_1387, w0_1391, hc, hm, hb, ylc0]
end YLW
