/-! THE LAW'S FEED -/
section YFL
/-- five numbers after i characters -/
def zpk (c : Nat → Int) : Nat → Nat → Int32
  | 0 => fun _ => 0
  | i + 1 => upd (zpk c i) (i / 4) (Int32.ofInt (yor (yshl (zpk c i (i / 4)).toInt 8) (c i)))
/-- a text's characters, blanks behind -/
def zcr (n : Nat) (t : Nat → Int) (k i : Nat) : Int := if k + i < n then t (k + i) else 32
/-- twenty bytes of five numbers -/
def zbt (c : Nat → Int) : List Int := yfour (zpk c 20 0).toInt ++ yfour (zpk c 20 1).toInt ++ yfour (zpk c 20 2).toInt ++ yfour (zpk c 20 3).toInt ++ yfour (zpk c 20 4).toInt
theorem zrange (T : Nat → Int) (a : Nat) : ∀ b, (List.range (a + b)).map T = (List.range a).map T ++ (List.range b).map (fun i => T (a + i))
  | 0 => by simp
  | b + 1 => by
    rw [← Nat.add_assoc, List.range_succ, List.map_append, zrange T a b, List.range_succ, List.map_append, List.append_assoc]
    rfl
theorem zdiv4 : ∀ i : Nat, i < 20 → yidiv (i : Int) 4 = ((i / 4 : Nat) : Int) := by decide
theorem yrn {n : Nat} (h : n ≤ 1000000) : yr (n : Int) = n := yr_eq (by omega) (by omega)
section YFLL
variable {q : yQ} {d : Nat} {S : yS} {js : List xO} {a b n : Nat} {g : Nat → Int32} {t : Nat → Int}
theorem jlast (js : List xO) (o : xO) : (js ++ [o])[js.length]? = some o := by
  rw [List.getElem?_append_right (Nat.le_refl _), Nat.sub_self]
  rfl
theorem jlset (js : List xO) (o o' : xO) : (js ++ [o]).set js.length o' = js ++ [o'] := by
  rw [List.set_append_right _ _ (Nat.le_refl _), Nat.sub_self]
  rfl
theorem f5i (hv : jV q.1) (h : jStr js a b n g) (hn : n ≤ 2000) {k : Nat} (hk : k ≤ 2000) (ht : ∀ i : Nat, i < n → zch (g i) = t i ∧ 0 ≤ t i ∧ t i < 128) : ∀ i : Nat, i ≤ 20 → Y q (d + 4) 5 20 [vr 81, vr (135 + a), vi n, vi k, vr (135 + js.length), vi ((0 : Nat) : Int)] [] S (js ++ [.inl (0, 5, .inl fun _ => 0)]) = Y q (d + 4) 5 20 [vr 81, vr (135 + a), vi n, vi k, vr (135 + js.length), vi i] [] S (js ++ [.inl (0, 5, .inl (zpk (zcr n t k) i))])
  | 0, _ => rfl
  | i + 1, hi => by
    rw [f5i hv h hn hk ht i (by omega)]
    have hj := jlast js (.inl (0, 5, .inl (zpk (zcr n t k) i)))
    have ei := yrn (n := i) (by omega)
    have e20 : yr 20 = 20 := rfl
    have e4 : ¬ yr 4 = 0 := by decide
    have em := yrn (n := i / 4) (by omega)
    have hm : i / 4 < 5 := by omega
    have en := yrn (n := n) (by omega)
    have eki : yr ((k : Int) + (i : Int)) = ((k + i : Nat) : Int) := by
      rw [yr_eq] <;> omega
    have e1 : ((i + 1 : Nat) : Int) = (i : Int) + 1 := by omega
    have ez : zpk (zcr n t k) (i + 1) = upd (zpk (zcr n t k) i) (i / 4) (Int32.ofInt (yor (yshl (zpk (zcr n t k) i (i / 4)).toInt 8) (zcr n t k i))) := rfl
    rw [w5_20, ei, e20, if_pos (by omega), if_neg e4, if_neg e4, zdiv4 i (by omega), Yj_ald rfl hj (by rw [em]; omega), em, Int.toNat_natCast, w5_40, eki, en]
    by_cases z : k + i < n
    · obtain ⟨z1, z2, z3⟩ := ht (k + i) z
      have hs := jStr_app (js2 := [.inl (0, 5, .inl (zpk (zcr n t k) i))]) h
      obtain ⟨⟨fs, g1, g2, g3⟩, g4⟩ := id hs
      have et : yr (t (k + i)) = t (k + i) := yr_eq (by omega) (by omega)
      have hz : zcr n t k i = t (k + i) := if_pos z
      have hc : Y q (d + 3) 188 0 [vr (135 + a), vi ((k : Int) + (i : Int))] [] S (js ++ [.inl (0, 5, .inl (zpk (zcr n t k) i))]) = yret q (vi (t (k + i))) S (js ++ [.inl (0, 5, .inl (zpk (zcr n t k) i))]) := by
        have := c188 (q := q) (d := d) (S := S) hv hs (i := (k : Int) + (i : Int)) (by rw [eki]; omega) (by rw [eki]; omega) (yrn (by omega)) (by rw [eki, Int.toNat_natCast, z1, et]; omega)
        rw [eki, Int.toNat_natCast, z1] at this
        exact this
      have ey : ∀ x : Int, yent [vr (135 + a), vi x] (xP_ml (xPrg q.1) 188) = [vr (135 + a), vi x] := fun _ => rfl
      rw [if_pos (by omega), Yj_call1 (y := 188) (r := [vi (yshl (zpk (zcr n t k) i (i / 4)).toInt 8), vi ((i / 4 : Nat) : Int), vr (135 + js.length)]) rfl rfl (jrc _ _ rfl rfl rfl) (show (2 : Nat) ≤ 2 ∧ 2 ≤ 20 by decide) g1 (show (3 : Nat) ≤ 12 by decide), ey, hc, YB_ret, w5_59, Yj_ast rfl hj (by rw [em]; omega), em, Int.toNat_natCast, jlset, w5_66, ez, hz, e1]
    · have hz : zcr n t k i = 32 := if_neg z
      rw [if_neg (by omega), Yj_ast rfl hj (by rw [em]; omega), em, Int.toNat_natCast, jlset, w5_66, ez, hz, e1]
theorem f5c (hv : jV q.1) (h : jStr js a b n g) (hn : n ≤ 2000) {k : Nat} (hk : k < n) (ht : ∀ i : Nat, i < n → zch (g i) = t i ∧ 0 ≤ t i ∧ t i < 128) (h12 : 0 ≤ gI S 12 ∧ gI S 12 + 20 ≤ 2000) (x3 x4 : yV) : Y q (d + 4) 5 7 [vr 81, vr (135 + a), vi n, vi k, x3, x4] [] S js = Y q (d + 4) 5 7 [vr 81, vr (135 + a), vi n, vi ((k + 20 : Nat) : Int), vr (135 + js.length), vi ((20 : Nat) : Int)] [] (pbs S (zbt (zcr n t k))) (js ++ [.inl (0, 5, .inl (zpk (zcr n t k) 20))]) := by
  have hj := jlast js (.inl (0, 5, .inl (zpk (zcr n t k) 20)))
  have e20 : yr ((20 : Nat) : Int) = 20 := rfl
  have e20' : yr 20 = 20 := rfl
  have f0 : (yr 0).toNat = 0 := rfl
  have f1 : (yr 1).toNat = 1 := rfl
  have f2 : (yr 2).toNat = 2 := rfl
  have f3 : (yr 3).toNat = 3 := rfl
  have f4 : (yr 4).toNat = 4 := rfl
  have ek : ((k + 20 : Nat) : Int) = (k : Int) + 20 := by omega
  have i0 := f5i (q := q) (d := d) (S := S) hv h hn (k := k) (by omega) ht 20 (by omega)
  have z0 : ((0 : Nat) : Int) = 0 := rfl
  rw [z0] at i0
  rw [w5_7 (d := d + 3), yrn (n := n) (by omega), yrn (n := k) (by omega), if_pos (by omega), Yj_new rfl, w5_15, i0, w5_20, e20, e20', if_neg (by omega), Yj_ald rfl hj (by decide), f0, w5_77, Yj_ald rfl hj (by decide), f1, w5_81, Yj_ald rfl hj (by decide), f2, w5_85, Yj_ald rfl hj (by decide), f3, w5_89, Yj_ald rfl hj (by decide), f4, w5_93 (d := d + 3), c166 (d := d + 2) (by omega), if_pos h12.2, YB_ret, w5_96, ek]
  rfl
theorem f5a (hv : jV q.1) (hn : n ≤ 1900) (ht : ∀ i : Nat, i < n → zch (g i) = t i ∧ 0 ≤ t i ∧ t i < 128) (hB : ∀ m : Nat, 20 * m < n → zbt (zcr n t (20 * m)) = (List.range 20).map (zcr n t (20 * m))) (h12 : gI S 12 = 0) (h : jStr js a b n g) : ∀ m : Nat, 20 * m < n + 20 → ∃ (js' : List xO) (x3 x4 : yV), Y q (d + 4) 5 7 [vr 81, vr (135 + a), vi n, vi ((0 : Nat) : Int), vu, vu] [] S js = Y q (d + 4) 5 7 [vr 81, vr (135 + a), vi n, vi ((20 * m : Nat) : Int), x3, x4] [] (pbs S ((List.range (20 * m)).map (zcr n t 0))) (js ++ js') ∧ js'.length = m ∧ xsum js' = 5 * m
  | 0, _ => ⟨[], vu, vu, by rw [List.append_nil]; rfl, rfl, rfl⟩
  | m + 1, hm => by
    obtain ⟨js', x3, x4, e, l1, l2⟩ := f5a hv hn ht hB h12 h m (by omega)
    have hl : gI (pbs S ((List.range (20 * m)).map (zcr n t 0))) 12 = ((20 * m : Nat) : Int) := by
      rw [pbs_12 _ _ (by omega), h12, List.length_map, List.length_range, Int.zero_add]
    have e2 := f5c (q := q) (d := d) (S := pbs S ((List.range (20 * m)).map (zcr n t 0))) hv (jStr_app (js2 := js') h) (by omega) (k := 20 * m) (by omega) ht (by rw [hl]; omega) x3 x4
    have e3 : (List.range (20 * (m + 1))).map (zcr n t 0) = (List.range (20 * m)).map (zcr n t 0) ++ zbt (zcr n t (20 * m)) := by
      rw [show 20 * (m + 1) = 20 * m + 20 by omega, zrange, hB m (by omega)]
      congr 1
      apply List.map_congr_left
      intro i _
      unfold zcr
      rw [Nat.zero_add]
    refine ⟨js' ++ [.inl (0, 5, .inl (zpk (zcr n t (20 * m)) 20))], vr (135 + (js ++ js').length), vi ((20 : Nat) : Int), ?_, by rw [List.length_append, l1]; rfl, ?_⟩
    · rw [e, e2, pbs_app, e3, List.append_assoc]
      rfl
    · rw [xsum_push, l2]
      show 5 * m + 5 = 5 * (m + 1)
      omega
/-- a text is on the tape -/
theorem f5 (hv : jV q.1) (hn : n ≤ 1900) (ht : ∀ i : Nat, i < n → zch (g i) = t i ∧ 0 ≤ t i ∧ t i < 128) (hB : ∀ m : Nat, 20 * m < n → zbt (zcr n t (20 * m)) = (List.range 20).map (zcr n t (20 * m))) (hs0 : yshr (n : Int) 0 = n) (h12 : gI S 12 = 0) (h : jStr js a b n g) : ∃ (js' : List xO) (F : Nat → Int), Y q (d + 4) 5 0 [vr 81, vr (135 + a), vu, vu, vu, vu] [] S js = yretv q (sI (sAr S 21 F) 12 n) (js ++ js') ∧ (∀ j, j < n → F j = t j) ∧ js'.length ≤ 100 ∧ xsum js' ≤ 500 := by
  obtain ⟨⟨fs, g1, g2, g3⟩, g4⟩ := id h
  have e0 : yent [vr (135 + a)] (xP_ml (xPrg q.1) 184) = [vr (135 + a)] := rfl
  obtain ⟨m, hm⟩ : ∃ m, m = (n + 19) / 20 := ⟨_, rfl⟩
  obtain ⟨js', x3, x4, e, l1, l2⟩ := f5a (q := q) (d := d) hv hn ht hB h12 h m (by omega)
  have z0 : ((0 : Nat) : Int) = 0 := rfl
  rw [z0] at e
  have hl : gI (pbs S ((List.range (20 * m)).map (zcr n t 0))) 12 = ((20 * m : Nat) : Int) := by
    rw [pbs_12 _ _ (by omega), h12, List.length_map, List.length_range, Int.zero_add]
  have zr : yr 0 = 0 := rfl
  refine ⟨js', yrb0 (gA S 21) 0 ((List.range (20 * m)).map (zcr n t 0)), ?_, fun j hj => ?_, by omega, by omega⟩
  · rw [w5_0, Yj_call0 (y := 184) (r := []) rfl rfl (jrc _ _ rfl rfl rfl) (show (1 : Nat) ≤ 1 ∧ 1 ≤ 20 by decide) g1 (by decide), e0, c184 h hs0, YB_ret, w5_4, e, w5_7 (d := d + 3), yrn (n := n) (by omega), yrn (n := 20 * m) (by omega), if_neg (by omega), w167_0, hl, yrn (n := n) (by omega), yrn (n := 20 * m) (by omega), if_neg (by omega), if_neg (by omega), YB_ret, w5_108, pbs_eq _ _ (by omega), h12]
    congr 1
    show (yup (yup S.1 12 _) 12 _, S.2.1, S.2.2.1, _, S.2.2.2.2) = (yup S.1 12 _, S.2.1, S.2.2.1, _, S.2.2.2.2)
    rw [yup_up]
    rfl
  · unfold yrb0
    rw [if_neg (by omega), Nat.sub_zero, List.getElem?_map, List.getElem?_range (by omega)]
    show zcr n t 0 j = t j
    unfold zcr
    rw [Nat.zero_add, if_pos hj]
end YFLL
end YFL
