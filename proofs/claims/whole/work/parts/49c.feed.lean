/-! FEED; whole rows written -/
section YFD
/-- a row becomes another one -/
def sAr (S : yS) (k : Nat) (f : Nat → Int) : yS := (S.1, S.2.1, S.2.2.1, yup S.2.2.2.1 k f, S.2.2.2.2)
def sBr (S : yS) (k : Nat) (f : Nat → Int64) : yS := (S.1, S.2.1, S.2.2.1, S.2.2.2.1, yup S.2.2.2.2.1 k f, S.2.2.2.2.2)
theorem gI_sAr (S : yS) (k : Nat) (f : Nat → Int) : gI (sAr S k f) = gI S := rfl
theorem gJ_sAr (S : yS) (k : Nat) (f : Nat → Int) : gJ (sAr S k f) = gJ S := rfl
theorem gK_sAr (S : yS) (k : Nat) (f : Nat → Int) : gK (sAr S k f) = gK S := rfl
theorem gB_sAr (S : yS) (k : Nat) (f : Nat → Int) : gB (sAr S k f) = gB S := rfl
theorem gC_sAr (S : yS) (k : Nat) (f : Nat → Int) : gC (sAr S k f) = gC S := rfl
theorem gA_sAr (S : yS) (k : Nat) (f : Nat → Int) (l : Nat) : gA (sAr S k f) l = if l = k then f else gA S l := yup_eq _ _ _ _
theorem yup_up {α : Type} (f : Nat → α) (k : Nat) (x y : α) : yup (yup f k x) k y = yup f k y := by
  funext j
  rw [yup_eq, yup_eq, yup_eq]
  split <;> rfl
theorem yup_sf {α : Type} (f : Nat → α) (k : Nat) : yup f k (f k) = f := by
  funext j
  rw [yup_eq]
  split
  · rename_i h
    rw [h]
  · rfl
/-- a row with bytes behind its n first ones -/
def yrb0 (f : Nat → Int) (n : Nat) (l : List Int) (j : Nat) : Int := if j < n then f j else (l[j - n]?).getD (f j)
theorem yrb0_nil (f : Nat → Int) (n : Nat) : yrb0 f n [] = f := by
  funext j
  unfold yrb0
  split <;> rfl
theorem yrb0_cons (f : Nat → Int) (n : Nat) (b : Int) (l : List Int) : yrb0 (yup f n b) (n + 1) l = yrb0 f n (b :: l) := by
  funext j
  unfold yrb0
  rw [yup_eq]
  by_cases h1 : j = n
  · subst h1
    rw [if_pos (Nat.lt_succ_self j), if_pos rfl, if_neg (Nat.lt_irrefl j), Nat.sub_self]
    rfl
  · rw [if_neg h1]
    by_cases h2 : j < n
    · rw [if_pos h2, if_pos (by omega)]
    · rw [if_neg h2, if_neg (by omega)]
      have : j - n = (j - (n + 1)) + 1 := by omega
      rw [this, List.getElem?_cons_succ]
def pbs (S : yS) (l : List Int) : yS := l.foldl pb S
def prs (S : yS) (l : List Int) : yS := l.foldl pr S
theorem pbs_eq : ∀ (l : List Int) (S : yS), 0 ≤ gI S 12 → pbs S l = sI (sAr S 21 (yrb0 (gA S 21) (gI S 12).toNat l)) 12 (gI S 12 + l.length)
  | [], S, h => by
    show S = _
    have e : gI S 12 + (([] : List Int).length : Int) = S.1 12 := by show gI S 12 + 0 = gI S 12; omega
    rw [yrb0_nil, e]
    show S = (yup S.1 12 (S.1 12), S.2.1, S.2.2.1, yup S.2.2.2.1 21 (S.2.2.2.1 21), S.2.2.2.2)
    rw [yup_sf, yup_sf]
  | b :: l, S, h => by
    have ih := pbs_eq l (pb S b) (by rw [pb_12]; omega)
    show pbs (pb S b) l = _
    rw [ih, pb_12]
    have e1 : gA (pb S b) 21 = yup (gA S 21) (gI S 12).toNat b := yup_self S.2.2.2.1 21 (yup (S.2.2.2.1 21) (gI S 12).toNat b)
    have e2 : (gI S 12 + 1).toNat = (gI S 12).toNat + 1 := by omega
    rw [e1, e2, yrb0_cons, List.length_cons]
    have e3 : gI S 12 + 1 + (l.length : Int) = gI S 12 + ((l.length + 1 : Nat) : Int) := by omega
    rw [e3]
    show (yup (yup S.1 12 _) 12 _, S.2.1, S.2.2.1, yup (yup S.2.2.2.1 21 _) 21 _, S.2.2.2.2) = (yup S.1 12 _, S.2.1, S.2.2.1, yup S.2.2.2.1 21 _, S.2.2.2.2)
    rw [yup_up, yup_up]
theorem prs_eq : ∀ (l : List Int) (S : yS), 0 ≤ gI S 40 → prs S l = sI (sAr S 37 (yrb0 (gA S 37) (gI S 40).toNat l)) 40 (gI S 40 + l.length)
  | [], S, h => by
    show S = _
    have e : gI S 40 + (([] : List Int).length : Int) = S.1 40 := by show gI S 40 + 0 = gI S 40; omega
    rw [yrb0_nil, e]
    show S = (yup S.1 40 (S.1 40), S.2.1, S.2.2.1, yup S.2.2.2.1 37 (S.2.2.2.1 37), S.2.2.2.2)
    rw [yup_sf, yup_sf]
  | b :: l, S, h => by
    have ih := prs_eq l (pr S b) (by rw [pr_40]; omega)
    show prs (pr S b) l = _
    rw [ih, pr_40]
    have e1 : gA (pr S b) 37 = yup (gA S 37) (gI S 40).toNat b := yup_self S.2.2.2.1 37 (yup (S.2.2.2.1 37) (gI S 40).toNat b)
    have e2 : (gI S 40 + 1).toNat = (gI S 40).toNat + 1 := by omega
    rw [e1, e2, yrb0_cons, List.length_cons]
    have e3 : gI S 40 + 1 + (l.length : Int) = gI S 40 + ((l.length + 1 : Nat) : Int) := by omega
    rw [e3]
    show (yup (yup S.1 40 _) 40 _, S.2.1, S.2.2.1, yup (yup S.2.2.2.1 37 _) 37 _, S.2.2.2.2) = (yup S.1 40 _, S.2.1, S.2.2.1, yup S.2.2.2.1 37 _, S.2.2.2.2)
    rw [yup_up, yup_up]
def yfour (x : Int) : List Int := [yby x 24, yby x 16, yby x 8, yby x 0]
def yfouR (x : Int) : List Int := [yrb x 24, yrb x 16, yrb x 8, yrb x 0]
theorem pbs_app (S : yS) (a b : List Int) : pbs (pbs S a) b = pbs S (a ++ b) := (List.foldl_append ..).symm
theorem prs_app (S : yS) (a b : List Int) : prs (prs S a) b = prs S (a ++ b) := (List.foldl_append ..).symm
theorem pbs_12 (S : yS) (l : List Int) (h : 0 ≤ gI S 12) : gI (pbs S l) 12 = gI S 12 + l.length := by rw [pbs_eq l S h]; exact gI_self _ _ _
theorem prs_40 (S : yS) (l : List Int) (h : 0 ≤ gI S 40) : gI (prs S l) 40 = gI S 40 + l.length := by rw [prs_eq l S h]; exact gI_self _ _ _
section YFDL
variable {q : yQ} {d : Nat} {js : List xO} {S : yS}
theorem c156' {x : Int} (h3 : 0 ≤ gI S 12 ∧ gI S 12 + 4 ≤ 2000) : Y q d 156 0 [vr 80, vi x, vu] [] S js = yretv q (pbs S (yfour x)) js := c156 h3
theorem r189' {x : Int} (h3 : 0 ≤ gI S 40 ∧ gI S 40 + 4 ≤ 2000) : Y q d 189 0 [vr 129, vi x, vu] [] S js = yretv q (prs S (yfouR x)) js := r189 h3
theorem c166 {a b c e f : Int} (h1 : 0 ≤ gI S 12 ∧ gI S 12 ≤ 2000) : Y q (d + 1) 166 0 [vr 75, vi a, vi b, vi c, vi e, vi f] [] S js = if gI S 12 + 20 ≤ 2000 then yret q (vi (gI S 12 + 20)) (pbs S (yfour a ++ yfour b ++ yfour c ++ yfour e ++ yfour f)) js else ythr q (yexc 14) S js := by
  rw [w166_0]
  have e9 : yr (gI S 12 + 20) = gI S 12 + 20 := yr_eq (by omega) (by omega)
  have e8 : yr 2000 = 2000 := rfl
  have l4 : ∀ x, (yfour x).length = 4 := fun _ => rfl
  rw [e9, e8]
  by_cases h : gI S 12 + 20 ≤ 2000
  · have h0 := h1.1
    have q1 : gI (pbs S (yfour a)) 12 = gI S 12 + 4 := pbs_12 _ _ h0
    have q2 : gI (pbs S (yfour a ++ yfour b)) 12 = gI S 12 + 8 := pbs_12 _ _ h0
    have q3 : gI (pbs S (yfour a ++ yfour b ++ yfour c)) 12 = gI S 12 + 12 := pbs_12 _ _ h0
    have q4 : gI (pbs S (yfour a ++ yfour b ++ yfour c ++ yfour e)) 12 = gI S 12 + 16 := pbs_12 _ _ h0
    have q5 : gI (pbs S (yfour a ++ yfour b ++ yfour c ++ yfour e ++ yfour f)) 12 = gI S 12 + 20 := pbs_12 _ _ h0
    rw [if_neg (by omega), if_pos h, c156' (by omega), YB_retv, w166_32, c156' (by omega), YB_retv, pbs_app, w166_40, c156' (by omega), YB_retv, pbs_app, w166_48, c156' (by omega), YB_retv, pbs_app, w166_57, c156' (by omega), YB_retv, pbs_app, w166_66, q5]
  · rw [if_pos (by omega), if_neg h]
theorem r187 {a b c e f : Int} (h1 : 0 ≤ gI S 40 ∧ gI S 40 ≤ 2000) : Y q (d + 1) 187 0 [vr 129, vi a, vi b, vi c, vi e, vi f] [] S js = if gI S 40 + 20 ≤ 2000 then yret q (vi (gI S 40 + 20)) (prs (sI S 39 0) (yfouR a ++ yfouR b ++ yfouR c ++ yfouR e ++ yfouR f)) js else yret q (vi 0) (sI (sI S 39 0) 39 1) js := by
  rw [w187_0, w188_0, YB_ret, w187_23]
  have e9 : yr (gI S 40 + 20) = gI S 40 + 20 := yr_eq (by omega) (by omega)
  have e8 : yr 2000 = 2000 := rfl
  rw [e9, e8]
  have e7 : gI (sI S 39 0) 40 = gI S 40 := rfl
  by_cases h : gI S 40 + 20 ≤ 2000
  · have h0 : 0 ≤ gI (sI S 39 0) 40 := h1.1
    have q1 : gI (prs (sI S 39 0) (yfouR a)) 40 = gI S 40 + 4 := prs_40 _ _ h0
    have q2 : gI (prs (sI S 39 0) (yfouR a ++ yfouR b)) 40 = gI S 40 + 8 := prs_40 _ _ h0
    have q3 : gI (prs (sI S 39 0) (yfouR a ++ yfouR b ++ yfouR c)) 40 = gI S 40 + 12 := prs_40 _ _ h0
    have q4 : gI (prs (sI S 39 0) (yfouR a ++ yfouR b ++ yfouR c ++ yfouR e)) 40 = gI S 40 + 16 := prs_40 _ _ h0
    have q5 : gI (prs (sI S 39 0) (yfouR a ++ yfouR b ++ yfouR c ++ yfouR e ++ yfouR f)) 40 = gI S 40 + 20 := prs_40 _ _ h0
    rw [if_neg (by omega), if_pos h, r189' (by omega), YB_retv, w187_29, r189' (by omega), YB_retv, prs_app, w187_34, r189' (by omega), YB_retv, prs_app, w187_39, r189' (by omega), YB_retv, prs_app, w187_45, r189' (by omega), YB_retv, prs_app, w187_51, q5]
  · rw [if_pos (by omega), if_neg h]
end YFDL
/-- a byte is the same whether it was kept signed or not -/
theorem b255 (v : BitVec 32) : (v.setWidth 8).signExtend 32 &&& 255#32 = v &&& 255#32 := by
  apply BitVec.eq_of_getLsbD_eq
  intro i hi
  rw [BitVec.getLsbD_and, BitVec.getLsbD_and]
  by_cases h : i < 8
  · rw [BitVec.getLsbD_signExtend, BitVec.getLsbD_setWidth]
    simp [h, hi]
  · have : (255#32).getLsbD i = false := by
      rw [BitVec.getLsbD_ofNat]
      have e : (255 : Nat) = 2 ^ 8 - 1 := rfl
      rw [e, Nat.testBit_two_pow_sub_one]
      simp [h]
    rw [this, Bool.and_false, Bool.and_false]
theorem bsh (v : BitVec 32) {n : Nat} (hn : n ≤ 24) : v.sshiftRight n &&& 255#32 = v >>> n &&& 255#32 := by
  apply BitVec.eq_of_getLsbD_eq
  intro i hi
  rw [BitVec.getLsbD_and, BitVec.getLsbD_and]
  by_cases h : i < 8
  · rw [BitVec.getLsbD_sshiftRight, BitVec.getLsbD_ushiftRight]
    have h1 : n + i < 32 := by omega
    have h2 : ¬ 32 ≤ i := by omega
    simp [h1, hi, h2]
  · have : (255#32).getLsbD i = false := by
      rw [BitVec.getLsbD_ofNat]
      have e : (255 : Nat) = 2 ^ 8 - 1 := rfl
      rw [e, Nat.testBit_two_pow_sub_one]
      simp [h]
    rw [this, Bool.and_false, Bool.and_false]
theorem e255 : (Int32.ofInt 255).toBitVec = 255#32 := by decide
theorem yi2b_255 (x : Int) : yand (yi2b x) 255 = yand x 255 := by
  unfold yand yi2b
  rw [yofI]
  congr 1
  apply Int32.toBitVec_inj.mp
  rw [Int32.toBitVec_and, Int32.toBitVec_and, e255]
  have e : (Int32.ofInt x).toInt8.toInt32.toBitVec = ((Int32.ofInt x).toBitVec.signExtend 8).signExtend 32 := rfl
  have e8 : (Int32.ofInt x).toBitVec.signExtend 8 = (Int32.ofInt x).toBitVec.setWidth 8 := BitVec.signExtend_eq_setWidth_of_le _ (by omega)
  rw [e, e8]
  exact b255 (Int32.ofInt x).toBitVec
theorem yby_255 (x : Int) {n : Nat} (hn : n = 0 ∨ n = 8 ∨ n = 16 ∨ n = 24) : yand (yby x n) 255 = yrb x n := by
  unfold yby yrb
  rw [yi2b_255, yi2b_255]
  unfold yand yushr yshr
  rw [yofI, yofI]
  congr 1
  apply Int32.toBitVec_inj.mp
  rw [Int32.toBitVec_and, Int32.toBitVec_and, e255]
  rcases hn with rfl | rfl | rfl | rfl
  · exact (bsh (Int32.ofInt x).toBitVec (n := 0) (by omega)).symm
  · exact (bsh (Int32.ofInt x).toBitVec (n := 8) (by omega)).symm
  · exact (bsh (Int32.ofInt x).toBitVec (n := 16) (by omega)).symm
  · exact (bsh (Int32.ofInt x).toBitVec (n := 24) (by omega)).symm
theorem yfour_255 (x : Int) : (yfour x).map (fun b => yand b 255) = yfouR x := by
  have h0 : yand (yby x 0) 255 = yrb x 0 := yby_255 x (n := 0) (by omega)
  have h1 : yand (yby x 8) 255 = yrb x 8 := yby_255 x (n := 8) (by omega)
  have h2 : yand (yby x 16) 255 = yrb x 16 := yby_255 x (n := 16) (by omega)
  have h3 : yand (yby x 24) 255 = yrb x 24 := yby_255 x (n := 24) (by omega)
  show [yand (yby x 24) 255, yand (yby x 16) 255, yand (yby x 8) 255, yand (yby x 0) 255] = _
  unfold yfouR
  rw [h0, h1, h2, h3]
theorem op0 : yCall yI 0 := by
  intro q S js x0 d y1 y2 y3 y4 hL h0 h6 hop hI
  obtain ⟨hTp, hTb, hCd, hPg, hRs, hRn⟩ := id hI
  obtain ⟨p1, p2, p3, p4⟩ := id hTp
  show yEnd yI q S js x0 d y1 y2 y3 y4
  generalize hl : yfour (xa q (x0 + 1)) ++ yfour (xa q (x0 + 2)) ++ yfour (xa q (x0 + 3)) ++ yfour (xa q (x0 + 4)) ++ yfour (xa q (x0 + 5)) = l
  generalize hm : yfouR (xa q (x0 + 1)) ++ yfouR (xa q (x0 + 2)) ++ yfouR (xa q (x0 + 3)) ++ yfouR (xa q (x0 + 4)) ++ yfouR (xa q (x0 + 5)) = m
  have e1 : l.length = 20 := by rw [← hl]; rfl
  have e2 : m = l.map (fun b => yand b 255) := by rw [← hl, ← hm]; simp only [List.map_append, yfour_255]
  have hc := c166 (q := q) (d := d + 397) (js := js) (S := S) (a := xa q (x0 + 1)) (b := xa q (x0 + 2)) (c := xa q (x0 + 3)) (e := xa q (x0 + 4)) (f := xa q (x0 + 5)) ⟨p2, p3⟩
  by_cases a0 : gI S 12 + 20 ≤ 2000
  · rw [if_pos a0, hl, pbs_eq l S p2, e1] at hc
    have hr := (r187 (q := q) (d := d + 398) (js := js) (S := sB (sI (sAr S 21 (yrb0 (gA S 21) (gI S 12).toNat l)) 12 (gI S 12 + (20 : Nat))) 18 0 (yi2l (gI S 12 + 20))) (a := xa q (x0 + 1)) (b := xa q (x0 + 2)) (c := xa q (x0 + 3)) (e := xa q (x0 + 4)) (f := xa q (x0 + 5)) (show 0 ≤ gI S 40 ∧ gI S 40 ≤ 2000 by omega)).trans (if_pos (show gI S 40 + 20 ≤ 2000 by omega))
    have z := prs_eq m (sI (sB (sI (sAr S 21 (yrb0 (gA S 21) (gI S 12).toNat l)) 12 (gI S 12 + (20 : Nat))) 18 0 (yi2l (gI S 12 + 20))) 39 0) (show 0 ≤ gI S 40 by omega)
    rw [hm, z] at hr
    have e3 : m.length = 20 := by rw [e2, List.length_map, e1]
    refine k0_ok hL h0 h6 hop hc hr rfl (congrArg yi2l (show gI S 12 + 20 = gI S 40 + 20 by omega)) ⟨⟨?_, ?_, ?_, ?_⟩, hTb, hCd, hPg, hRs, hRn⟩ (by omega) (by omega)
    · show gI S 40 + (m.length : Int) = gI S 12 + (20 : Nat)
      omega
    · show 0 ≤ gI S 12 + ((20 : Nat) : Int)
      omega
    · show gI S 12 + ((20 : Nat) : Int) ≤ 2000
      omega
    · intro i hi
      have hi : (i : Int) < gI S 12 + ((20 : Nat) : Int) := hi
      show yrb0 (gA S 37) (gI S 40).toNat m i = yand (yrb0 (gA S 21) (gI S 12).toNat l i) 255
      unfold yrb0
      rw [p1]
      by_cases h : i < (gI S 12).toNat
      · rw [if_pos h, if_pos h]
        exact p4 i (by omega)
      · rw [if_neg h, if_neg h, e2, List.getElem?_map]
        have h9 : i - (gI S 12).toNat < l.length := by omega
        rw [List.getElem?_eq_getElem h9]
        rfl
  · rw [if_neg a0] at hc
    have hr := (r187 (q := q) (d := d + 398) (js := js ++ [yexc 14]) (S := S) (a := xa q (x0 + 1)) (b := xa q (x0 + 2)) (c := xa q (x0 + 3)) (e := xa q (x0 + 4)) (f := xa q (x0 + 5)) (show 0 ≤ gI S 40 ∧ gI S 40 ≤ 2000 by omega)).trans (if_neg (show ¬ gI S 40 + 20 ≤ 2000 by omega))
    exact k0_14 hL h0 h6 hop hc hr rfl (yI_thr (yI_thr hI)) (len_1 _ _) (xsum_1 _ _)
end YFD
