/-! BEHIND THE CONSTRUCTORS: the law stands at its loop, on the flat machine -/
section YO
theorem yext_set (H : List xO) (o : xO) : yext (H.set 73 o) = yext H := by
  have e : ∀ k, (H.set 73 o)[75 + k]? = H[75 + k]? := fun k => List.getElem?_set_ne (by omega)
  unfold yext yxI yxJ yxK yxA yxB yxC yxf
  simp only [e]
theorem yh0_set (L : Nat) (xs : Nat → Int32) : yh0.set 73 (.inl (10, L, .inl xs)) = xB0 L xs := rfl
theorem yh0_len : yh0.length = 75 := rfl
theorem y_start {v : Value} (L : Nat) (xs : Nat → Int32) (hv : v = .null ∨ v = .ref 74) : ∃ S0 : yS, yfr S0 = true ∧ yD v 900 0 0 [.ref 73, xU, xU, xU, xU, xU, xU, xU, xU] [] (xB0 L xs) = Y (v, L, xs) 900 0 23 [vr 73, vr 75, vr 129, vr 178, vi 0, vu, vu, vu, vu] [] S0 [] := by
  have hck : yck v = true := by
    rcases hv with rfl | rfl
    · exact yck_n
    · exact yck_r
  unfold yck at hck
  split at hck
  · rename_i H2 e2
    simp only [Bool.and_eq_true] at hck
    obtain ⟨hl2, hck⟩ := hck
    have hl2 := Nat.eq_of_beq_eq_true hl2
    split at hck
    · rename_i H4 e4
      simp only [Bool.and_eq_true] at hck
      obtain ⟨⟨hl4, hsh⟩, hfr⟩ := hck
      have hl4 := Nat.eq_of_beq_eq_true hl4
      have r1 : xrun (xPrg v) 75 4000 30 158 0 (xentry [.ref 75] (xP_ml (xPrg v) 158)) [] (yh0 ++ [.inr (10, xP_fd (xPrg v) 10)]) = some (.inl none, H2) := by
        unfold ym1 at e2
        split at e2
        · rename_i h
          cases e2
          exact h
        · cases e2
      have r2 : xrun (xPrg v) 75 20000 30 184 0 (xentry [.ref 129] (xP_ml (xPrg v) 184)) [] (H2 ++ [.inr (12, xP_fd (xPrg v) 12)]) = some (.inl none, H4) := by
        unfold ym2 at e4
        split at e4
        · rename_i h
          cases e4
          exact h
        · cases e4
      have hU0 : (yh0 ++ [.inr (10, xP_fd (xPrg v) 10)])[73]? = some xUn := rfl
      obtain ⟨t1, u2⟩ := xrun_hid (o := .inl (10, L, .inl xs)) rfl r1 hU0
      obtain ⟨t2, u4⟩ := xrun_hid (o := .inl (10, L, .inl xs)) rfl r2 (xpush_U u2 _)
      obtain ⟨l1, m2⟩ := xrun_low r1 (by rw [List.length_append, yh0_len]; omega)
      obtain ⟨l2, m4⟩ := xrun_low r2 (by rw [List.length_append]; omega)
      rw [← xpush_hid u2] at t2
      have t1' : xrun (xPrg v) 75 4000 30 158 0 (xentry [.ref 75] (xP_ml (xPrg v) 158)) [] (xB0 L xs ++ [.inr (10, xP_fd (xPrg v) 10)]) = some (.inl none, H2.set 73 (.inl (10, L, .inl xs))) := by
        rw [← yh0_set, List.set_append_left _ _ (by rw [yh0_len]; omega)] at *
        exact t1
      have y1 := yD_up (d1 := 899) (yD_iff.mpr ⟨4000, t1'⟩) (by omega)
      have y2 := yD_up (d1 := 899) (yD_iff.mpr ⟨20000, t2⟩) (by omega)
      clear t1 t1' t2
      have hR2 : (H2.set 73 (.inl (10, L, .inl xs))).length = 129 := by rw [List.length_set]; exact hl2
      have hR4 : (H4.set 73 (.inl (10, L, .inl xs))).length = 178 := by rw [List.length_set]; exact hl4
      have hHR : H4.set 73 (.inl (10, L, .inl xs)) ++ [yout] = xB0 L xs ++ (H4 ++ [yout]).drop 75 := by
        have h9 : (H4 ++ [yout]).take 75 = yh0 := by
          rw [List.take_append_of_le_length m4, l2, List.take_append_of_le_length m2, l1, List.take_append_of_le_length (by rw [yh0_len]; omega)]
          rfl
        rw [xpush_hid u4, ← yh0_set]
        conv => lhs; rw [← List.take_append_drop 75 (H4 ++ [yout])]
        rw [List.set_append_left _ _ (by rw [h9, yh0_len]; omega), h9]
      have hfin := yext_ok (q := (v, L, xs)) hHR hsh
      rw [xpush_hid u4, yext_set] at hfin
      refine ⟨yext (H4 ++ [yout]), hfr, ?_⟩
      generalize H2.set 73 (.inl (10, L, .inl xs)) = R2 at *
      refine (yD_one (v := v) (d := 900) (k := 0) (pc := 0) (pc' := 3) (ah := xB0 L xs) (L := [.ref 73, xU, xU, xU, xU, xU, xU, xU, xU]) (st := []) (L' := [.ref 73, xU, xU, xU, xU, xU, xU, xU, xU]) (st' := [.ref 75]) (ah' := xB0 L xs ++ [.inr (10, xP_fd (xPrg v) 10)]) rfl).trans ?_
      refine (yD_one (v := v) (d := 900) (k := 0) (pc := 3) (pc' := 4) (L := [.ref 73, xU, xU, xU, xU, xU, xU, xU, xU]) (st := [.ref 75]) (L' := [.ref 73, xU, xU, xU, xU, xU, xU, xU, xU]) (st' := [.ref 75, .ref 75]) (ah := xB0 L xs ++ [.inr (10, xP_fd (xPrg v) 10)]) (ah' := xB0 L xs ++ [.inr (10, xP_fd (xPrg v) 10)]) rfl).trans ?_
      refine (yD_call (v := v) (d := 899) (k := 0) (pc := 4) (y := 158) (vs := [.ref 75]) (rr := [.ref 75]) (st := [.ref 75, .ref 75]) (ah := xB0 L xs ++ [.inr (10, xP_fd (xPrg v) 10)]) rfl).trans ?_
      rw [y1]
      show yD v 900 0 7 [.ref 73, xU, xU, xU, xU, xU, xU, xU, xU] [.ref 75] R2 = _
      refine (yD_one (v := v) (d := 900) (k := 0) (pc := 7) (pc' := 8) (L := [.ref 73, xU, xU, xU, xU, xU, xU, xU, xU]) (st := [.ref 75]) (L' := [.ref 73, .ref 75, xU, xU, xU, xU, xU, xU, xU]) (st' := []) (ah := R2) (ah' := R2) rfl).trans ?_
      refine (yD_one (v := v) (d := 900) (k := 0) (pc := 8) (pc' := 11) (L := [.ref 73, .ref 75, xU, xU, xU, xU, xU, xU, xU]) (st := []) (L' := [.ref 73, .ref 75, xU, xU, xU, xU, xU, xU, xU]) (st' := [.ref R2.length]) (ah := R2) (ah' := R2 ++ [.inr (12, xP_fd (xPrg v) 12)]) rfl).trans ?_
      rw [hR2]
      refine (yD_one (v := v) (d := 900) (k := 0) (pc := 11) (pc' := 12) (L := [.ref 73, .ref 75, xU, xU, xU, xU, xU, xU, xU]) (st := [.ref 129]) (L' := [.ref 73, .ref 75, xU, xU, xU, xU, xU, xU, xU]) (st' := [.ref 129, .ref 129]) (ah := R2 ++ [.inr (12, xP_fd (xPrg v) 12)]) (ah' := R2 ++ [.inr (12, xP_fd (xPrg v) 12)]) rfl).trans ?_
      refine (yD_call (v := v) (d := 899) (k := 0) (pc := 12) (y := 184) (vs := [.ref 129]) (rr := [.ref 129]) (st := [.ref 129, .ref 129]) (ah := R2 ++ [.inr (12, xP_fd (xPrg v) 12)]) rfl).trans ?_
      rw [y2]
      generalize hH4 : H4.set 73 (.inl (10, L, .inl xs)) = R4 at *
      show yD v 900 0 15 [.ref 73, .ref 75, xU, xU, xU, xU, xU, xU, xU] [.ref 129] R4 = _
      refine (yD_one (v := v) (d := 900) (k := 0) (pc := 15) (pc' := 16) (L := [.ref 73, .ref 75, xU, xU, xU, xU, xU, xU, xU]) (st := [.ref 129]) (L' := [.ref 73, .ref 75, .ref 129, xU, xU, xU, xU, xU, xU]) (st' := []) (ah := R4) (ah' := R4) rfl).trans ?_
      refine (yD_one (v := v) (d := 900) (k := 0) (pc := 16) (pc' := 17) (L := [.ref 73, .ref 75, .ref 129, xU, xU, xU, xU, xU, xU]) (st := []) (L' := [.ref 73, .ref 75, .ref 129, xU, xU, xU, xU, xU, xU]) (st' := [.int (Int32.ofInt 1)]) (ah := R4) (ah' := R4) rfl).trans ?_
      refine (yD_one (v := v) (d := 900) (k := 0) (pc := 17) (pc' := 19) (L := [.ref 73, .ref 75, .ref 129, xU, xU, xU, xU, xU, xU]) (st := [.int (Int32.ofInt 1)]) (L' := [.ref 73, .ref 75, .ref 129, xU, xU, xU, xU, xU, xU]) (st' := [.ref R4.length]) (ah := R4) (ah' := R4 ++ [yout]) rfl).trans ?_
      rw [hR4]
      refine (yD_one (v := v) (d := 900) (k := 0) (pc := 19) (pc' := 20) (L := [.ref 73, .ref 75, .ref 129, xU, xU, xU, xU, xU, xU]) (st := [.ref 178]) (L' := [.ref 73, .ref 75, .ref 129, .ref 178, xU, xU, xU, xU, xU]) (st' := []) (ah := R4 ++ [yout]) (ah' := R4 ++ [yout]) rfl).trans ?_
      refine (yD_one (v := v) (d := 900) (k := 0) (pc := 20) (pc' := 21) (L := [.ref 73, .ref 75, .ref 129, .ref 178, xU, xU, xU, xU, xU]) (st := []) (L' := [.ref 73, .ref 75, .ref 129, .ref 178, xU, xU, xU, xU, xU]) (st' := [.int (Int32.ofInt 0)]) (ah := R4 ++ [yout]) (ah' := R4 ++ [yout]) rfl).trans ?_
      refine (yD_one (v := v) (d := 900) (k := 0) (pc := 21) (pc' := 23) (L := [.ref 73, .ref 75, .ref 129, .ref 178, xU, xU, xU, xU, xU]) (st := [.int (Int32.ofInt 0)]) (L' := [.ref 73, .ref 75, .ref 129, .ref 178, .int (Int32.ofInt 0), xU, xU, xU, xU]) (st' := []) (ah := R4 ++ [yout]) (ah' := R4 ++ [yout]) rfl).trans ?_
      have h9 : R4 ++ [yout] = yH (v, L, xs) (yext (H4 ++ [yout])) [] := by
        rw [← hfin, ← hH4]
        exact xpush_hid u4 _
      rw [h9]
      rfl
    · cases hck
  · cases hck
end YO
