/-! WHAT AN INT IS; exceptions of our own -/
section YP
theorem yr_eq {x : Int} (h1 : -2147483648 ≤ x) (h2 : x < 2147483648) : yr x = x := Int32.toInt_ofInt_of_le (by omega) (by omega)
theorem yr_lo (x : Int) : -2147483648 ≤ yr x := Int32.le_toInt _
theorem yr_hi (x : Int) : yr x < 2147483648 := Int32.toInt_lt _
theorem yr_yr (x : Int) : yr (yr x) = yr x := yr_eq (yr_lo x) (yr_hi x)
theorem yr_of (x : Int32) : yr x.toInt = x.toInt := by unfold yr; rw [yofI]
theorem yr_cg {x y : Int} (h : Int32.ofInt x = Int32.ofInt y) : yr x = yr y := by unfold yr; rw [h]
theorem yr_add1 (x y : Int) : yr (yr x + y) = yr (x + y) := yr_cg (by rw [y_add, y_add]; unfold yr; rw [yofI])
theorem yr_add2 (x y : Int) : yr (x + yr y) = yr (x + y) := yr_cg (by rw [y_add, y_add]; unfold yr; rw [yofI])
theorem yr_and (x y : Int) : yr (yand x y) = yand x y := yr_of _
theorem yr_i2b (x : Int) : yr (yi2b x) = yi2b x := yr_of _
theorem yr_i2z (x : Int) : yr (yi2z x) = yi2z x := yr_of _
theorem yr_l2i (x : Int64) : yr (yl2i x) = yl2i x := yr_of _
theorem yr_idiv (x y : Int) : yr (yidiv x y) = yidiv x y := yr_of _
theorem yr_irem (x y : Int) : yr (yirem x y) = yirem x y := yr_of _
theorem yr_lcmp (x y : Int64) : yr (ylcmp x y) = ylcmp x y := yr_of _
/-- a long comparison -/
theorem ylcmp_lt (x y : Int64) : ylcmp x y < 0 ↔ x < y := by
  unfold ylcmp lg_cmp
  rcases Int.lt_trichotomy x.toInt y.toInt with h | h | h
  · have h1 : ¬ x > y := fun z => by have := Int64.lt_iff_toInt_lt.mp z; omega
    have h2 : ¬ x = y := fun z => by rw [z] at h; omega
    rw [if_neg h1, if_neg h2]
    exact ⟨fun _ => Int64.lt_iff_toInt_lt.mpr h, fun _ => by decide⟩
  · have e : x = y := Int64.toInt_inj.mp h
    have h1 : ¬ x > y := fun z => by have := Int64.lt_iff_toInt_lt.mp z; omega
    rw [if_neg h1, if_pos e]
    exact ⟨fun z => absurd z (by decide), fun z => by have := Int64.lt_iff_toInt_lt.mp z; omega⟩
  · have h1 : x > y := Int64.lt_iff_toInt_lt.mpr h
    rw [if_pos h1]
    exact ⟨fun z => absurd z (by decide), fun z => by have := Int64.lt_iff_toInt_lt.mp z; omega⟩
theorem ylcmp_eq (x y : Int64) : ylcmp x y = 0 ↔ x = y := by
  unfold ylcmp lg_cmp
  rcases Int.lt_trichotomy x.toInt y.toInt with h | h | h
  · have h1 : ¬ x > y := fun z => by have := Int64.lt_iff_toInt_lt.mp z; omega
    have h2 : ¬ x = y := fun z => by rw [z] at h; omega
    rw [if_neg h1, if_neg h2]
    exact ⟨fun z => absurd z (by decide), fun z => (h2 z).elim⟩
  · have e : x = y := Int64.toInt_inj.mp h
    have h1 : ¬ x > y := fun z => by have := Int64.lt_iff_toInt_lt.mp z; omega
    rw [if_neg h1, if_pos e]
    exact ⟨fun _ => e, fun _ => by decide⟩
  · have h1 : x > y := Int64.lt_iff_toInt_lt.mpr h
    have h2 : ¬ x = y := fun z => by rw [z] at h; omega
    rw [if_pos h1]
    exact ⟨fun z => absurd z (by decide), fun z => (h2 z).elim⟩
theorem ylcmp_gt (x y : Int64) : 0 < ylcmp x y ↔ y < x := by
  unfold ylcmp lg_cmp
  rcases Int.lt_trichotomy x.toInt y.toInt with h | h | h
  · have h1 : ¬ x > y := fun z => by have := Int64.lt_iff_toInt_lt.mp z; omega
    have h2 : ¬ x = y := fun z => by rw [z] at h; omega
    rw [if_neg h1, if_neg h2]
    exact ⟨fun z => absurd z (by decide), fun z => (h1 z).elim⟩
  · have e : x = y := Int64.toInt_inj.mp h
    have h1 : ¬ x > y := fun z => by have := Int64.lt_iff_toInt_lt.mp z; omega
    rw [if_neg h1, if_pos e]
    exact ⟨fun z => absurd z (by decide), fun z => (h1 z).elim⟩
  · have h1 : x > y := Int64.lt_iff_toInt_lt.mpr h
    rw [if_pos h1]
    exact ⟨fun _ => h1, fun _ => by decide⟩
theorem yi2l_inj (x y : Int) : yi2l x = yi2l y ↔ yr x = yr y := by
  unfold yi2l yr
  constructor
  · intro h
    have := congrArg Int64.toInt h
    rwa [Int32.toInt_toInt64, Int32.toInt_toInt64] at this
  · intro h
    rw [Int32.toInt.inj h]
/-! exceptions -/
def yExc (o : xO) : Bool := match o with
  | .inr (c, _) => !Nat.beq c 199
  | _ => false
/-- a thrown thing goes out of a frame that doesn't catch it -/
theorem Y_athrow (q : yQ) (c d k pc : Nat) (fs : List Value) (L rr : List yV) (S : yS) (js : List xO) (hc : xP_code (xPrg q.1) k pc = some (.athrow, 1)) (h9 : Nat.beq c 199 = false) (hh : xP_hn (xPrg q.1) k pc c = some none) : Y q d k pc L (vr (179 + js.length) :: rr) S (js ++ [.inr (c, fs)]) = ythr q (.inr (c, fs)) S js := yD_thro hc (ythr_cls h9) hh
/-- an exception of our own, behind its constructor -/
def yfd3 : List Value := [.int 0, .int 0, .null, .null, .null, .null, .null, .null]
def ystp (e p : Int32) : xO := .inr (13, [.int e, .int p, .null, .null, .null, .null, .null, .null])
theorem xput_new {v : Value} {ah : List xO} (h75 : 75 ≤ ah.length) {fs : List Value} {j f : Nat} (hf : xP_fp (xPrg v) (xP_pool (xPrg v) 314) j = some (13, f, true)) (hl : f < fs.length) {x : Int32} (hfit : xfit (xP_ft (xPrg v) 13 f) (.int x) = true) (r : List Value) : x_putf 75 (xP_fp (xPrg v) (xP_pool (xPrg v) 314)) (xP_ft (xPrg v)) (xP_ini (xPrg v) 314) (ah ++ [.inr (13, fs)]) j (.int x :: .ref ah.length :: r) = some (ah ++ [.inr (13, fs.set f (.int x))], r) := by
  have hg : (ah ++ [(.inr (13, fs) : xO)])[ah.length]? = some (.inr (13, fs)) := by
    rw [List.getElem?_append_right (Nat.le_refl _), Nat.sub_self]
    rfl
  simp only [x_putf, hf, hg]
  rw [if_pos ⟨trivial, hl, h75, hfit, fun _ => rfl⟩, List.set_append_right _ _ (Nat.le_refl _), Nat.sub_self]
  rfl
theorem y314 {v : Value} {ah : List xO} (h75 : 75 ≤ ah.length) (a b : Int32) (d : Nat) : yD v d 314 4 [.ref ah.length, .int a, .int b] [] (ah ++ [.inr (13, yfd3)]) = some (.inl none, ah ++ [ystp a b]) := by
  refine (yD_one (pc' := 5) (L' := [.ref ah.length, .int a, .int b]) (st' := [.ref ah.length]) (ah' := ah ++ [.inr (13, yfd3)]) rfl).trans ?_
  refine (yD_one (pc' := 6) (L' := [.ref ah.length, .int a, .int b]) (st' := [.int a, .ref ah.length]) (ah' := ah ++ [.inr (13, yfd3)]) rfl).trans ?_
  refine (yD_one (pc' := 9) (L' := [.ref ah.length, .int a, .int b]) (st' := []) (ah' := ah ++ [.inr (13, yfd3.set 0 (.int a))]) ?_).trans ?_
  · rw [xone_ev (i := .putfield 7) (n := 3) rfl ⟨rfl, fun _ _ _ => rfl, fun _ h => (nomatch h), (nomatch ·)⟩]
    unfold xstep
    simp only
    rw [xput_new h75 (f := 0) rfl (by decide) rfl []]
    rfl
  refine (yD_one (pc' := 10) (L' := [.ref ah.length, .int a, .int b]) (st' := [.ref ah.length]) (ah' := ah ++ [.inr (13, yfd3.set 0 (.int a))]) rfl).trans ?_
  refine (yD_one (pc' := 11) (L' := [.ref ah.length, .int a, .int b]) (st' := [.int b, .ref ah.length]) (ah' := ah ++ [.inr (13, yfd3.set 0 (.int a))]) rfl).trans ?_
  refine (yD_one (pc' := 14) (L' := [.ref ah.length, .int a, .int b]) (st' := []) (ah' := ah ++ [.inr (13, (yfd3.set 0 (.int a)).set 1 (.int b))]) ?_).trans ?_
  · rw [xone_ev (i := .putfield 13) (n := 3) rfl ⟨rfl, fun _ _ _ => rfl, fun _ h => (nomatch h), (nomatch ·)⟩]
    unfold xstep
    simp only
    rw [xput_new h75 (f := 1) rfl (by rw [List.length_set]; decide) rfl []]
    rfl
  exact yD_ret (i := .return_) (n := 1) rfl rfl rfl
theorem Y_mk {q : yQ} {d k pc pc' j ic : Nat} {L st L' rr : List yV} {S : yS} {js : List xO} {a b : Int32} (hc : xP_code (xPrg q.1) k pc = some (.new j, 3)) (hte : xP_te (xPrg q.1) (xP_pool (xPrg q.1) k) j = none) (hmk : xP_mk (xPrg q.1) (xP_pool (xPrg q.1) k) j = some (13, ic, 314)) (hrr : rr.length ≤ 12) (hp : xpure (xPrg q.1) k ic 12 (pc + 3) (L.map yval) (.ref (179 + js.length) :: st.map yval) (yH q S (js ++ [.inr (13, yfd3)])) = some (pc', L'.map yval, .int b :: .int a :: .ref (179 + js.length) :: rr.map yval)) : Y q (d + 1) k pc L st S js = Y q (d + 1) k (pc' + 3) L' rr S (js ++ [ystp a b]) := by
  unfold Y
  have hl := yH_len q S js
  rw [← yH_push, ← hl] at hp
  rw [← yH_push]
  exact yD_mk (ce := 13) (y := 314) hc hte hmk rfl hp (by
    unfold xtwo
    simp only
    rw [if_pos ⟨trivial, by rw [List.length_map]; exact hrr⟩]) (fun d => y314 (by rw [hl]; omega) a b d)
section YPA
variable {P : xPg} {k ic f pc pc' n : Nat} {L st L' st' : List Value} {ah : List xO} {i : Instr}
theorem xpure_4 (hc : xP_code P k pc = some (i, n)) (h1 : ∀ j, i ≠ .invokespecial j) (h2 : ∀ j, i ≠ .getfield j) (h3 : i ≠ .iaload) (h : xr4 pc n ah (xplain (xP_cs P (xP_pool P k)) i L st) = some (pc', L', st', ah)) : xpure P k ic (f + 1) pc L st ah = xpure P k ic f pc' L' st' ah := by
  conv => lhs; unfold xpure
  simp only [hc]
  simp only [h]
theorem xpure_g {j : Nat} (hc : xP_code P k pc = some (.getfield j, 3)) (h : x_getf (xP_fl P (xP_pool P k)) ah j st = some st') : xpure P k ic (f + 1) pc L st ah = xpure P k ic f (pc + 3) L st' ah := by
  conv => lhs; unfold xpure
  simp only [hc, h]
  rfl
theorem xpure_i (hc : xP_code P k pc = some (.iaload, 1)) (h : x_ald 0 ah st = some st') : xpure P k ic (f + 1) pc L st ah = xpure P k ic f (pc + 1) L st' ah := by
  conv => lhs; unfold xpure
  simp only [hc, h]
  rfl
theorem xpure_e (hc : xP_code P k pc = some (.invokespecial ic, 3)) : xpure P k ic (f + 1) pc L st ah = some (pc, L, st) := by
  conv => lhs; unfold xpure
  simp only [hc, and_self, if_true]
end YPA
/-- the reference's 'wrong' -/
theorem c218 (q : yQ) (d : Nat) (js : List xO) (S : yS) (h : 0 ≤ yr (gI S 44) ∧ yr (gI S 44) < 2001) : Y q (d + 1) 218 0 [vr 129] [] S js = yret q (vr (179 + js.length)) S (js ++ [ystp 1 (Int32.ofInt (gA S 40 (yr (gI S 44)).toNat))]) := by
  refine (Y_mk (j := 261) (ic := 263) (pc' := 14) (L' := [vr 129]) (rr := [vr (179 + js.length)]) (a := 1) (b := Int32.ofInt (gA S 40 (yr (gI S 44)).toNat)) rfl rfl rfl (Nat.le_of_ble_eq_true rfl) ?_).trans (w218_17 q (d + 1) _ S _)
  have h9 := yld_ok (q := q) (S := S) (js := js ++ [.inr (13, yfd3)]) (b := false) (a := 136) (n := 2001) (f := gA S 40) rfl h
  simp only at h9
  have g1 := fun r => ygf_ok (q := q) (S := S) (js := js ++ [.inr (13, yfd3)]) (ci := 12) (f := 11) (a := 129) (x := vr 136) rfl (fl := xP_fl (xPrg q.1) (xP_pool (xPrg q.1) 218)) (j := 35) rfl r
  have g2 := fun r => ygf_ok (q := q) (S := S) (js := js ++ [.inr (13, yfd3)]) (ci := 12) (f := 14) (a := 129) (x := vi (gI S 44)) rfl (fl := xP_fl (xPrg q.1) (xP_pool (xPrg q.1) 218)) (j := 258) rfl r
  generalize yH q S (js ++ [.inr (13, yfd3)]) = H at *
  generalize 179 + js.length = N at *
  refine (xpure_4 (f := 11) (i := .dup) (n := 1) (pc' := 4) (L' := [.ref 129]) (st' := [.ref N, .ref N]) rfl (fun _ h => (nomatch h)) (fun _ h => (nomatch h)) (nomatch ·) rfl).trans ?_
  refine (xpure_4 (f := 10) (i := .iconst 1) (n := 1) (pc' := 5) (L' := [.ref 129]) (st' := [.int (Int32.ofInt 1), .ref N, .ref N]) rfl (fun _ h => (nomatch h)) (fun _ h => (nomatch h)) (nomatch ·) rfl).trans ?_
  refine (xpure_4 (f := 9) (i := .aload_n 0) (n := 1) (pc' := 6) (L' := [.ref 129]) (st' := [.ref 129, .int (Int32.ofInt 1), .ref N, .ref N]) rfl (fun _ h => (nomatch h)) (fun _ h => (nomatch h)) (nomatch ·) rfl).trans ?_
  refine (xpure_g (f := 8) (j := 35) rfl (g1 _)).trans ?_
  refine (xpure_4 (f := 7) (i := .aload_n 0) (n := 1) (pc' := 10) (L' := [.ref 129]) (st' := [.ref 129, .ref 136, .int (Int32.ofInt 1), .ref N, .ref N]) rfl (fun _ h => (nomatch h)) (fun _ h => (nomatch h)) (nomatch ·) rfl).trans ?_
  refine (xpure_g (f := 6) (j := 258) rfl (g2 _)).trans ?_
  refine (xpure_i (f := 5) rfl (h9 _)).trans ?_
  exact xpure_e (f := 4) rfl
/-- an exception's fields -/
theorem Y_junk {q : yQ} {d k pc j c f : Nat} {L r : List yV} {S : yS} {js : List xO} {fs : List Value} {x : yV} (hc : xP_code (xPrg q.1) k pc = some (.getfield j, 3)) (hf : xP_fl (xPrg q.1) (xP_pool (xPrg q.1) k) j = some (c, f)) (hx : fs[f]? = some (yval x)) : Y q d k pc L (vr (179 + js.length) :: r) S (js ++ [.inr (c, fs)]) = Y q d k (pc + 3) L (x :: r) S (js ++ [.inr (c, fs)]) := by
  have hg : (yH q S (js ++ [.inr (c, fs)]))[179 + js.length]? = some (.inr (c, fs)) := by
    rw [yH_hi, List.getElem?_append_right (Nat.le_refl _), Nat.sub_self]
    rfl
  exact Y_ev1 hc ⟨rfl, fun _ _ _ => rfl, fun _ h => (nomatch h), (nomatch ·)⟩ (by simp only [xstep, x_getf, List.map_cons, yval, hf, hg, if_true, hx]; rfl)
end YP
