/-! STRINGS AND ROWS OF THE LAW'S OWN -/
section YJS
theorem yH_jset (q : yQ) (S : yS) (js : List xO) (a : Nat) (o : xO) : (yH q S js).set (135 + a) o = yH q S (js.set a o) := by
  unfold yH
  rw [List.set_append_right _ _ (by rw [xB0_len]; omega), List.set_append_right _ _ (by rw [xB0_len, List.length_map, yT_len]; omega), xB0_len, List.length_map, yT_len]
  have e : 135 + a - 81 - 54 = a := by omega
  rw [e]
section YJSL
variable {q : yQ} {d k pc : Nat} {L r : List yV} {S : yS} {js : List xO}
theorem Yj_ald {i : Int} {a n : Nat} {g : Nat → Int32} (hc : xP_code (xPrg q.1) k pc = some (.iaload, 1)) (hj : js[a]? = some (.inl (0, n, .inl g))) (hi : 0 ≤ yr i ∧ yr i < n) : Y q d k pc L (vi i :: vr (135 + a) :: r) S js = Y q d k (pc + 1) L (vi (g (yr i).toNat).toInt :: r) S js := by
  refine Y_ev1 hc ⟨rfl, fun _ _ _ => rfl, fun _ h => (nomatch h), (nomatch ·)⟩ ?_
  show xr1 true (pc + 1) (L.map yval) (yH q S js) (x_ald 0 (yH q S js) (.int (Int32.ofInt i) :: .ref (135 + a) :: r.map yval)) = some (pc + 1, L.map yval, .int (Int32.ofInt (g (yr i).toNat).toInt) :: r.map yval, yH q S js)
  rw [xald_go ((yH_hi q S js a).trans hj) (Or.inl rfl) hi, yofI]
  rfl
theorem Yj_bald {i : Int} {a n : Nat} {g : Nat → Int32} (hc : xP_code (xPrg q.1) k pc = some (.baload, 1)) (hj : js[a]? = some (.inl (2, n, .inl g))) (hi : 0 ≤ yr i ∧ yr i < n) : Y q d k pc L (vi i :: vr (135 + a) :: r) S js = Y q d k (pc + 1) L (vi (g (yr i).toNat).toInt :: r) S js := by
  refine Y_ev1 hc ⟨rfl, fun _ _ _ => rfl, fun _ h => (nomatch h), (nomatch ·)⟩ ?_
  show xr1 true (pc + 1) (L.map yval) (yH q S js) (x_bald (yH q S js) (.int (Int32.ofInt i) :: .ref (135 + a) :: r.map yval)) = some (pc + 1, L.map yval, .int (Int32.ofInt (g (yr i).toNat).toInt) :: r.map yval, yH q S js)
  have e : x_bald (yH q S js) (.int (Int32.ofInt i) :: .ref (135 + a) :: r.map yval) = some (.int (g (yr i).toNat) :: r.map yval) := xald_in true ((yH_hi q S js a).trans hj) (Or.inl rfl) hi _
  rw [e, yofI]
  rfl
theorem Yj_len {a t n : Nat} {g : Nat → Int32} (hc : xP_code (xPrg q.1) k pc = some (.arraylength, 1)) (hj : js[a]? = some (.inl (t, n, .inl g))) : Y q d k pc L (vr (135 + a) :: r) S js = Y q d k (pc + 1) L (vi n :: r) S js := by
  refine Y_ev1 hc ⟨rfl, fun _ _ _ => rfl, fun _ h => (nomatch h), (nomatch ·)⟩ ?_
  show xr1 true (pc + 1) (L.map yval) (yH q S js) (x_alen (yH q S js) (.ref (135 + a) :: r.map yval)) = some (pc + 1, L.map yval, .int (Int32.ofInt (n : Int)) :: r.map yval, yH q S js)
  have h1 := (yH_hi q S js a).trans hj
  simp only [x_alen, h1]
  rfl
theorem Yj_get {a j f : Nat} {fs : List Value} {w : yV} (hc : xP_code (xPrg q.1) k pc = some (.getfield j, 3)) (hf : xP_fl (xPrg q.1) (xP_pool (xPrg q.1) k) j = some (12, f)) (hj : js[a]? = some (.inr (12, fs))) (hv : fs[f]? = some (yval w)) : Y q d k pc L (vr (135 + a) :: r) S js = Y q d k (pc + 3) L (w :: r) S js := by
  refine Y_ev1 hc ⟨rfl, fun _ _ _ => rfl, fun _ h => (nomatch h), (nomatch ·)⟩ ?_
  show xr1 true (pc + 3) (L.map yval) (yH q S js) (x_getf (xP_fl (xPrg q.1) (xP_pool (xPrg q.1) k)) (yH q S js) j (.ref (135 + a) :: r.map yval)) = some (pc + 3, L.map yval, yval w :: r.map yval, yH q S js)
  have h1 := (yH_hi q S js a).trans hj
  simp only [x_getf, hf, h1, hv, if_true]
  rfl
theorem Yj_new (hc : xP_code (xPrg q.1) k pc = some (.newarray .int, 2)) : Y q d k pc L (vi 5 :: r) S js = Y q d k (pc + 2) L (vr (135 + js.length) :: r) S (js ++ [.inl (0, 5, .inl fun _ => 0)]) := by
  have h : xone (xPrg q.1) 81 k pc (L.map yval) (.int (Int32.ofInt 5) :: r.map yval) (yH q S js) = some (pc + 2, L.map yval, .ref (135 + js.length) :: r.map yval, yH q S (js ++ [.inl (0, 5, .inl fun _ => 0)])) := by
    rw [xone_ev hc ⟨rfl, fun _ _ _ => rfl, fun _ h => (nomatch h), (nomatch ·)⟩]
    show xr2 true (pc + 2) (L.map yval) (x_newarr .int (yH q S js) (.int (Int32.ofInt 5) :: r.map yval)) = _
    have e : x_newarr .int (yH q S js) (.int (Int32.ofInt 5) :: r.map yval) = some (yH q S js ++ [.inl (0, 5, .inl fun _ => 0)], .ref (yH q S js).length :: r.map yval) := by
      unfold x_newarr
      simp only
      rw [if_pos (by decide)]
      rfl
    rw [e, yH_push, yH_len]
    rfl
  exact yD_one h
theorem Yj_ast {x i : Int} {a n : Nat} {g : Nat → Int32} (hc : xP_code (xPrg q.1) k pc = some (.iastore, 1)) (hj : js[a]? = some (.inl (0, n, .inl g))) (hi : 0 ≤ yr i ∧ yr i < n) : Y q d k pc L (vi x :: vi i :: vr (135 + a) :: r) S js = Y q d k (pc + 1) L r S (js.set a (.inl (0, n, .inl (upd g (yr i).toNat (Int32.ofInt x))))) := by
  have h : xone (xPrg q.1) 81 k pc (L.map yval) (.int (Int32.ofInt x) :: .int (Int32.ofInt i) :: .ref (135 + a) :: r.map yval) (yH q S js) = some (pc + 1, L.map yval, r.map yval, yH q S (js.set a (.inl (0, n, .inl (upd g (yr i).toNat (Int32.ofInt x)))))) := by
    rw [xone_ev hc ⟨rfl, fun _ _ _ => rfl, fun _ h => (nomatch h), (nomatch ·)⟩]
    show xr2 true (pc + 1) (L.map yval) (x_iast 81 (yH q S js) (.int (Int32.ofInt x) :: .int (Int32.ofInt i) :: .ref (135 + a) :: r.map yval)) = _
    have h1 := (yH_hi q S js a).trans hj
    have e : x_iast 81 (yH q S js) (.int (Int32.ofInt x) :: .int (Int32.ofInt i) :: .ref (135 + a) :: r.map yval) = some ((yH q S js).set (135 + a) (.inl (0, n, .inl (upd g (yr i).toNat (Int32.ofInt x)))), r.map yval) := by
      simp only [x_iast, h1]
      rw [if_pos ⟨trivial, y_xin hi, by omega⟩]
      rfl
    rw [e, yH_jset]
    rfl
  exact yD_one h
/-- a call of a string's own -/
theorem Yj_call0 {a y j : Nat} {fs : List Value} (hc : xP_code (xPrg q.1) k pc = some (.invokevirtual j, 3)) (hca : xcaj (xPrg q.1) (xP_pool (xPrg q.1) k) 1 j = some (y, 0)) (hrc : ∀ (ah : List xO) (a : Nat) (l : List Value), xcls ah a = some 12 → xrecv (xPrg q.1) 1 y ah (.ref a :: l) = true) (hml : 1 ≤ xP_ml (xPrg q.1) y ∧ xP_ml (xPrg q.1) y ≤ 20) (hj : js[a]? = some (.inr (12, fs))) (hr : r.length ≤ 12) : Y q (d + 1) k pc L (vr (135 + a) :: r) S js = YB q (Y q d y 0 (yent [vr (135 + a)] (xP_ml (xPrg q.1) y)) [] S js) (d + 1) k pc L r := by
  have h1 := (yH_hi q S js a).trans hj
  have hcl : xcls (yH q S js) (135 + a) = some 12 := by
    unfold xcls
    rw [h1]
  have hx : xgo (xPrg q.1) k pc (.ref (135 + a) :: r.map yval) (yH q S js) = some (y, [.ref (135 + a)], r.map yval) := by
    have ht : xtake 1 (.ref (135 + a) :: r.map yval) = some ([.ref (135 + a)], r.map yval) := by
      unfold xtake
      rw [if_pos (by simp)]
      rfl
    have hi : xinv (.invokevirtual j) = some (1, j) := rfl
    unfold xgo
    simp only [hc, hi, if_true, hca, Nat.one_ne_zero, if_false, Nat.zero_add, Nat.reduceAdd, ht]
    rw [if_pos ⟨hrc _ _ _ hcl, by rw [List.length_map]; exact hr, hml.2, hml.1⟩]
  show yD q.1 (d + 1) k pc (L.map yval) (.ref (135 + a) :: r.map yval) (yH q S js) = yB q.1 (yD q.1 d y 0 ((yent [vr (135 + a)] (xP_ml (xPrg q.1) y)).map yval) [] (yH q S js)) (d + 1) k pc (L.map yval) (r.map yval)
  rw [yD_call hx, ← yent_ok]
  rfl
theorem Yj_call1 {a y j : Nat} {x : Int} {fs : List Value} (hc : xP_code (xPrg q.1) k pc = some (.invokevirtual j, 3)) (hca : xcaj (xPrg q.1) (xP_pool (xPrg q.1) k) 1 j = some (y, 1)) (hrc : ∀ (ah : List xO) (a : Nat) (l : List Value), xcls ah a = some 12 → xrecv (xPrg q.1) 1 y ah (.ref a :: l) = true) (hml : 2 ≤ xP_ml (xPrg q.1) y ∧ xP_ml (xPrg q.1) y ≤ 20) (hj : js[a]? = some (.inr (12, fs))) (hr : r.length ≤ 12) : Y q (d + 1) k pc L (vi x :: vr (135 + a) :: r) S js = YB q (Y q d y 0 (yent [vr (135 + a), vi x] (xP_ml (xPrg q.1) y)) [] S js) (d + 1) k pc L r := by
  have h1 := (yH_hi q S js a).trans hj
  have hcl : xcls (yH q S js) (135 + a) = some 12 := by
    unfold xcls
    rw [h1]
  have hx : xgo (xPrg q.1) k pc (.int (Int32.ofInt x) :: .ref (135 + a) :: r.map yval) (yH q S js) = some (y, [.ref (135 + a), .int (Int32.ofInt x)], r.map yval) := by
    have ht : xtake 2 (.int (Int32.ofInt x) :: .ref (135 + a) :: r.map yval) = some ([.ref (135 + a), .int (Int32.ofInt x)], r.map yval) := by
      unfold xtake
      rw [if_pos (by simp)]
      rfl
    have hi : xinv (.invokevirtual j) = some (1, j) := rfl
    unfold xgo
    simp only [hc, hi, if_true, hca, Nat.one_ne_zero, if_false, Nat.zero_add, Nat.reduceAdd, ht]
    rw [if_pos ⟨hrc _ _ _ hcl, by rw [List.length_map]; exact hr, hml.2, hml.1⟩]
  show yD q.1 (d + 1) k pc (L.map yval) (.int (Int32.ofInt x) :: .ref (135 + a) :: r.map yval) (yH q S js) = yB q.1 (yD q.1 d y 0 ((yent [vr (135 + a), vi x] (xP_ml (xPrg q.1) y)).map yval) [] (yH q S js)) (d + 1) k pc (L.map yval) (r.map yval)
  rw [yD_call hx, ← yent_ok]
  rfl
/-- a string in the list: where its bytes are -/
def jStr (js : List xO) (a b n : Nat) (g : Nat → Int32) : Prop := (∃ fs : List Value, js[a]? = some (.inr (12, fs)) ∧ fs[0]? = some (.ref (135 + b)) ∧ fs[1]? = some (.int 0)) ∧ js[b]? = some (.inl (2, n, .inl g))
theorem jStr_app {js js2 : List xO} {a b n : Nat} {g : Nat → Int32} (h : jStr js a b n g) : jStr (js ++ js2) a b n g := by
  obtain ⟨⟨fs, h1, h2⟩, h3⟩ := h
  have l1 := (List.getElem?_eq_some_iff.mp h1).1
  have l3 := (List.getElem?_eq_some_iff.mp h3).1
  exact ⟨⟨fs, by rw [List.getElem?_append_left l1]; exact h1, h2⟩, by rw [List.getElem?_append_left l3]; exact h3⟩
theorem c186 {a : Nat} {fs : List Value} (hj : js[a]? = some (.inr (12, fs))) (h1 : fs[1]? = some (.int 0)) : Y q d 186 0 [vr (135 + a)] [] S js = yret q (vi 0) S js := by
  rw [w186_0, if_neg (by decide), Yj_get (w := vi 0) rfl rfl hj h1, w186_10, if_pos (by decide)]
theorem c190 {a : Nat} {fs : List Value} (hj : js[a]? = some (.inr (12, fs))) (h1 : fs[1]? = some (.int 0)) : Y q d 190 0 [vr (135 + a)] [] S js = yret q (vi 1) S js := by
  rw [w190_0, if_neg (by decide), Yj_get (w := vi 0) rfl rfl hj h1, w190_10, if_pos (by decide), if_pos (by decide)]
theorem jrc (v : Value) (y : Nat) (h1 : xP_st (xPrg v) y = false) (h2 : xP_ini (xPrg v) y = false) (h3 : xP_mc (xPrg v) y = 12) (ah : List xO) (a : Nat) (l : List Value) (h : xcls ah a = some 12) : xrecv (xPrg v) 1 y ah (.ref a :: l) = true := by
  unfold xrecv
  simp only [h1, h2, h3, h]
  rfl
theorem c184 {a b n : Nat} {g : Nat → Int32} (h : jStr js a b n g) (hn : yshr (n : Int) 0 = n) : Y q (d + 1) 184 0 [vr (135 + a)] [] S js = yret q (vi n) S js := by
  obtain ⟨⟨fs, hj, h0, h1⟩, hb⟩ := h
  rw [w184_0, Yj_get (w := vr (135 + b)) rfl rfl hj h0, Yj_len rfl hb, w184_5, Yj_call0 (y := 186) (r := [vi (n : Int)]) rfl rfl (jrc _ _ rfl rfl rfl) (show (1 : Nat) ≤ 1 ∧ 1 ≤ 20 by decide) hj (show (1 : Nat) ≤ 12 by decide)]
  have e : yent [vr (135 + a)] (xP_ml (xPrg q.1) 186) = [vr (135 + a)] := rfl
  rw [e, c186 hj h1, YB_ret, w184_9, hn]
theorem c196 {v w : Value} {i n : Int32} {ah : List xO} (h0 : ¬ i < 0) (hn : i < n) : yD v d 196 0 [.int i, .int n, w] [] ah = some (.inl (some (.int i)), ah) := by
  refine (yD_one (pc' := 1) (L' := [.int i, .int n, w]) (st' := [.int i]) (ah' := ah) rfl).trans ?_
  refine (yD_one (pc' := 4) (L' := [.int i, .int n, w]) (st' := []) (ah' := ah) ?_).trans ?_
  · have hb : xcI .lt i 0 = false := decide_eq_false h0
    rw [xone_ev (i := .ifCond .lt 8) (n := 3) rfl ⟨rfl, fun _ _ _ => rfl, fun _ h => (nomatch h), (nomatch ·)⟩]
    show xr3 _ ah true (x_if .lt 8 1 [.int i]) = _
    unfold x_if
    simp only [hb]
    rfl
  refine (yD_one (pc' := 5) (L' := [.int i, .int n, w]) (st' := [.int i]) (ah' := ah) rfl).trans ?_
  refine (yD_one (pc' := 6) (L' := [.int i, .int n, w]) (st' := [.int n, .int i]) (ah' := ah) rfl).trans ?_
  refine (yD_one (pc' := 16) (L' := [.int i, .int n, w]) (st' := []) (ah' := ah) ?_).trans ?_
  · have hb : xcI .lt i n = true := decide_eq_true hn
    rw [xone_ev (i := .if_icmp .lt 10) (n := 3) rfl ⟨rfl, fun _ _ _ => rfl, fun _ h => (nomatch h), (nomatch ·)⟩]
    show xr3 _ ah true (x_icmp .lt 10 6 [.int n, .int i]) = _
    unfold x_icmp
    simp only [hb]
    rfl
  refine (yD_one (pc' := 17) (L' := [.int i, .int n, w]) (st' := [.int i]) (ah' := ah) rfl).trans ?_
  exact yD_ret (i := .ireturn) (n := 1) rfl rfl (show (if narrow .int (.int i) = .int i ∧ 1 = 1 then some (some (Value.int i)) else none) = _ from if_pos ⟨rfl, rfl⟩)
def jV (v : Value) : Prop := v = .null ∨ v = .ref 80
theorem c192 (hv : jV q.1) {i n : Int} (h0 : 0 ≤ yr i) (hn : yr i < yr n) : Y q (d + 1) 192 0 [vi i, vi n] [] S js = yretv q S js := by
  show yD q.1 (d + 1) 192 0 [.int (Int32.ofInt i), .int (Int32.ofInt n)] [] (yH q S js) = some (.inl none, yH q S js)
  generalize yH q S js = ah
  have hw : xP_sf (xPrg q.1) (xP_pool (xPrg q.1) 192) 1053 = some q.1 := rfl
  refine (yD_one (pc' := 1) (L' := [.int (Int32.ofInt i), .int (Int32.ofInt n)]) (st' := [.int (Int32.ofInt i)]) (ah' := ah) rfl).trans ?_
  refine (yD_one (pc' := 2) (L' := [.int (Int32.ofInt i), .int (Int32.ofInt n)]) (st' := [.int (Int32.ofInt n), .int (Int32.ofInt i)]) (ah' := ah) rfl).trans ?_
  refine (yD_one (pc' := 5) (L' := [.int (Int32.ofInt i), .int (Int32.ofInt n)]) (st' := [q.1, .int (Int32.ofInt n), .int (Int32.ofInt i)]) (ah' := ah) rfl).trans ?_
  have hx : xgo (xPrg q.1) 192 5 [q.1, .int (Int32.ofInt n), .int (Int32.ofInt i)] ah = some (196, [.int (Int32.ofInt i), .int (Int32.ofInt n), q.1], []) := by
    rcases hv with h | h <;> rw [h] <;> rfl
  rw [yD_call hx]
  have hy : xentry [.int (Int32.ofInt i), .int (Int32.ofInt n), q.1] (xP_ml (xPrg q.1) 196) = [.int (Int32.ofInt i), .int (Int32.ofInt n), q.1] := by
    rcases hv with h | h <;> rw [h] <;> rfl
  rw [hy, c196 (fun z => by rw [y_0, y_lt] at z; rw [yr_0] at z; omega) ((y_lt i n).mpr hn)]
  show yD q.1 (d + 1) 192 (5 + 3) _ [.int (Int32.ofInt i)] ah = _
  refine (yD_one (pc' := 9) (L' := [.int (Int32.ofInt i), .int (Int32.ofInt n)]) (st' := []) (ah' := ah) rfl).trans ?_
  exact yD_ret (i := .return_) (n := 1) rfl rfl rfl
/-- a byte as a character -/
def zch (x : Int32) : Int := yi2c (yand x.toInt 255)
theorem c195 (hv : jV q.1) {b n : Nat} {i : Int} {g : Nat → Int32} (hb : js[b]? = some (.inl (2, n, .inl g))) (h0 : 0 ≤ yr i) (hn : yr i < n) (hn2 : yr (n : Int) = n) (hz : 0 ≤ yr (zch (g (yr i).toNat)) ∧ yr (zch (g (yr i).toNat)) < 65536) : Y q (d + 2) 195 0 [vr (135 + b), vi i] [] S js = yret q (vi (zch (g (yr i).toNat))) S js := by
  rw [w195_0, Yj_len rfl hb, w195_3, c192 hv h0 (by rw [hn2]; exact hn), YB_retv, w195_6, Yj_bald rfl hb ⟨h0, hn⟩, w195_9]
  exact if_pos hz
theorem c188 (hv : jV q.1) {a b n : Nat} {i : Int} {g : Nat → Int32} (h : jStr js a b n g) (h0 : 0 ≤ yr i) (hn : yr i < n) (hn2 : yr (n : Int) = n) (hz : 0 ≤ yr (zch (g (yr i).toNat)) ∧ yr (zch (g (yr i).toNat)) < 65536) : Y q (d + 3) 188 0 [vr (135 + a), vi i] [] S js = yret q (vi (zch (g (yr i).toNat))) S js := by
  obtain ⟨⟨fs, hj, f0, f1⟩, hb⟩ := h
  rw [w188_0, Yj_call0 (y := 190) rfl rfl (jrc _ _ rfl rfl rfl) (show (1 : Nat) ≤ 1 ∧ 1 ≤ 20 by decide) hj (by decide)]
  have e : yent [vr (135 + a)] (xP_ml (xPrg q.1) 190) = [vr (135 + a)] := rfl
  rw [e, c190 hj f1, YB_ret, w188_4, if_neg (by decide), Yj_get (w := vr (135 + b)) rfl rfl hj f0, w188_11, c195 hv hb h0 hn hn2 hz, YB_ret, w188_15, if_pos hz]
end YJSL
end YJS
