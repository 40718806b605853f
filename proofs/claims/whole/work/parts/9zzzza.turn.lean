/-! RUN: a page is turned; is there a break ahead -/
section YUB
section YUBL
variable {q : yQ} {d d' : Nat} {js ks : List xO} {S0 : yS} {t : Nat} {V : yPV} {a : Int} {n : Nat} {B C S T : yS} {e : yEnv}
theorem yturn (hx : yCx S0 t V a n B C) (h : yRl V n B C e S T) : yGo q ks V n B C (fun S' => gI S' 38 = 0) (Y q (d + 4) 117 0 [vr 125, vu] [] S js) (Y q (d' + 8) 293 0 [vr 129] [] T ks) (fun S' c => c = yretv q S' js) (fun T' r => r = yretv q T' ks) (fun S' c => c = yretv q S' js) := by
  have hg := yCx_g hx
  obtain ⟨_, _, _, _, _, p37, _, p55, _, p61⟩ := yCx_p hx h.1.1
  have hb := hx.2.2.2.1
  have o29 := h.1.1.2.1
  have k1 := h.2.2.1
  obtain ⟨line, hline⟩ : ∃ line : Nat, (line : Int) = (zPg V).2.2 - sht V 2 := ⟨((zPg V).2.2 - sht V 2 : Int).toNat, by omega⟩
  have kb := kband (q := q) (js := js) (S := S) (d := d + 2) (iPq_cw hx.1.2.1 h.1.1.1.1) hg (j := 2) (by omega)
  have kb1 : Y q (d + 3) 108 0 [vr 85, vi 2] [] S js = _ := kb.1
  have kb2 : Y q (d + 3) 109 0 [vr 85, vi 2] [] S js = _ := kb.2
  have e37 : gI S 37 = (line : Int) + 1 := by rw [p37, hline]; omega
  have e55 : gI T 55 - gI T 61 = (line : Int) := by rw [p55, p61, hline]
  have er : yr (gI S 29) = gI S 29 := yr_eq (by omega) (by omega)
  have kk : 0 ≤ yr 2 ∧ yr 2 < 11 := by decide
  have e2 : (yr 2).toNat = 2 := rfl
  have cS : Y q (d + 4) 117 0 [vr 125, vu] [] S js = YB q (Y q (d + 3) 118 0 [vr 125, vi (cFb V 2 : Nat), vi (cEb V 2 : Nat), vi ((line : Int) + 1), vu, vu, vu, vu, vu, vu] [] S js) (d + 4) 117 31 [vr 125, vu] [] := by
    rw [w117_0, er, if_pos (show 0 < gI S 29 by omega), kb1, YB_ret, w117_19, kb2, YB_ret, w117_27, e37]
  have rS : Y q (d' + 8) 293 0 [vr 129] [] T ks = YB q (YB q (Y q (d' + 6) 286 0 [vr 129, vi (gA T 51 2), vi line, vu, vu] [] T ks) (d' + 7) 294 16 [vr 129] []) (d' + 8) 293 1 [vr 129] [] := by
    rw [w293_0, w294_0, if_pos kk, e2, e55]
  have b := yband (q := q) (d := d) (d' := d') (js := js) (ks := ks) hx h (j := 2) (line := line) (Or.inr rfl) (by omega)
  rw [cS, rS]
  rcases b with ⟨e1, S1, T1, r1, ⟨k29, _⟩, c1, f1⟩ | ⟨x, o, S1, T1, hxo, r1, c1, f1⟩
  · rw [c1, f1, YB_retv, YB_retv, w294_19, YB_retv]
    have h34 : gI S1 34 = 0 := r1.1.2.1
    have er1 : yr (gI S1 29) = gI S1 29 := by rw [k29]; exact er
    have e30 : yr 30 = 30 := rfl
    have e68 : gI T1 68 = gI S1 29 := r1.1.1.2.1.1
    by_cases z : gI S1 29 < 30
    · have cc : Y q (d + 4) 117 34 [vr 125, vu] [] S1 js = YB q (Y q (d + 3) 96 0 [vr 123, vu, vu, vu] [] S1 js) (d + 4) 117 70 [vr 125, vu] [] := by
        rw [w117_34, h34, if_pos yr_0, er1, e30, if_pos z, if_pos yr_0]
      have ff : Y q (d' + 8) 293 4 [vr 129] [] T1 ks = YB q (Y q (d' + 7) 284 0 [vr 129, vu] [] T1 ks) (d' + 8) 293 24 [vr 129] [] := by
        rw [w293_4, e68, er1, e30, if_neg (by omega)]
      have g := ybeg (q := q) (d := d) (d' := d') (js := js) (ks := ks) hx r1.1 z
      rw [cc, ff]
      rcases g with ⟨e2, S2, T2, r2, k2, c2, f2⟩ | ⟨x, o, S2, T2, hxo, r2, c2, f2⟩
      · refine Or.inl ⟨e2, S2, T2, r2, k2, c2, ?_⟩
        show _ = _
        rw [f2, YB_retv, w293_27]
      · refine Or.inr ⟨x, o, S2, T2, hxo, r2, c2, ?_⟩
        rw [f2]
        exact yEo_t hxo (fun a b => t293 q a b T2 ks _ _ _ _)
    · have z2 : gI S1 29 = 30 := by omega
      refine Or.inr ⟨4, _, sI S1 34 4, T1, Or.inr ⟨rfl, rfl⟩, yRl_er r1, ?_, ?_⟩
      · show _ = _
        rw [w117_34, h34, if_pos yr_0, er1, e30, if_neg z, if_neg (show ¬ yr 4 = 0 by decide)]
      · rw [w293_4, e68, er1, e30, if_pos z2]
        exact r293z
  · refine Or.inr ⟨x, o, S1, T1, hxo, r1, ?_, ?_⟩
    · show _ = _
      have h34 : ¬ yr (gI S1 34) = 0 := by rw [r1.2.1]; exact yEo_0 hxo
      rw [c1, YB_retv, w117_34, if_neg h34, if_neg h34]
    · rw [f1, yEo_t hxo (fun a b => t294 q a b T1 ks _ _ _ _)]
      exact yEo_t hxo (fun a b => t293 q a b T1 ks _ _ _ _)
end YUBL
section YUBM
variable (q : yQ) (d : Nat) (js : List xO) (S : yS)
theorem w124_60 (x0 : Nat) (x1 : Int) (x2 : Int) : Y q d 124 60 [vr 125, vr x0, vi x1, vi x2] [] S js = if yr x2 = 0 then if yr 1 = 0 ∨ yr 1 = 1 then yret q (vi 1) S js else Y q d 124 69 [vr 125, vr x0, vi x1, vi x2] [vi 1] S js else if yr 0 = 0 ∨ yr 0 = 1 then yret q (vi 0) S js else Y q d 124 69 [vr 125, vr x0, vi x1, vi x2] [vi 0] S js := Y_xs [] [] 600
theorem w124_70 (x0 : Nat) (x1 : Int) (x2 : Int) : Y q d 124 70 [vr 125, vr x0, vi x1, vi x2] [] S js = if 0 < yr (gI S 38) then if yr x2 < yr x1 then if yr 1 = 0 ∨ yr 1 = 1 then yret q (vi 1) S js else Y q d 124 87 [vr 125, vr x0, vi x1, vi x2] [vi 1] S js else if yr 0 = 0 ∨ yr 0 = 1 then yret q (vi 0) S js else Y q d 124 87 [vr 125, vr x0, vi x1, vi x2] [vi 0] S js else if yr 0 = 0 ∨ yr 0 = 1 then yret q (vi 0) S js else Y q d 124 87 [vr 125, vr x0, vi x1, vi x2] [vi 0] S js := Y_xs [] [] 600
theorem w124_88 (x0 : Nat) (x1 : Int) (x2 : Int) : Y q d 124 88 [vr 125, vr x0, vi x1, vi x2] [] S js = if 0 < yr (gI S 38) then if yr 1 = 0 ∨ yr 1 = 1 then yret q (vi 1) S js else Y q d 124 100 [vr 125, vr x0, vi x1, vi x2] [vi 1] S js else if yr 0 = 0 ∨ yr 0 = 1 then yret q (vi 0) S js else Y q d 124 100 [vr 125, vr x0, vi x1, vi x2] [vi 0] S js := Y_xs [] [] 600
theorem w124_101 (x0 : Nat) (x1 : Int) (x2 : Int) : Y q d 124 101 [vr 125, vr x0, vi x1, vi x2] [] S js = if 0 < yr (gI S 38) then if yr x2 < yr x1 then if yr (gI S 36) < yr x1 then if yr 0 = 0 ∨ yr 0 = 1 then yret q (vi 0) S js else Y q d 124 126 [vr 125, vr x0, vi x1, vi x2] [vi 0] S js else if yr 1 = 0 ∨ yr 1 = 1 then yret q (vi 1) S js else Y q d 124 126 [vr 125, vr x0, vi x1, vi x2] [vi 1] S js else if yr 0 = 0 ∨ yr 0 = 1 then yret q (vi 0) S js else Y q d 124 126 [vr 125, vr x0, vi x1, vi x2] [vi 0] S js else if yr 0 = 0 ∨ yr 0 = 1 then yret q (vi 0) S js else Y q d 124 126 [vr 125, vr x0, vi x1, vi x2] [vi 0] S js := Y_xs [] [] 600
theorem w124_127 (x0 : Nat) (x1 : Int) (x2 : Int) : Y q d 124 127 [vr 125, vr x0, vi x1, vi x2] [] S js = if yr 0 = 0 ∨ yr 0 = 1 then yret q (vi 0) S js else Y q d 124 128 [vr 125, vr x0, vi x1, vi x2] [vi 0] S js := Y_xs [] [] 600
end YUBM
section YUBN
variable {q : yQ} {d : Nat} {js : List xO} {S : yS}
theorem k124_lk {L : List yV} {z : Int} {tgt : Nat} (hz : x_lsw 109 #[(18, 42), (20, 52), (21, 83), (28, 70)] 18 [.int (Int32.ofInt z)] = some (tgt, [])) : Y q d 124 18 L [vi z] S js = Y q d 124 tgt L [] S js := Y_ev1 (i := .lookupswitch 109 #[(18, 42), (20, 52), (21, 83), (28, 70)]) (n := 42) rfl ⟨rfl, fun _ _ _ => rfl, fun _ h => (nomatch h), (nomatch ·)⟩ (by
  show xr3 (L.map yval) (yH q S js) true (x_lsw 109 #[(18, 42), (20, 52), (21, 83), (28, 70)] 18 [.int (Int32.ofInt z)]) = _
  rw [hz]
  rfl)
/-- is there a break ahead of an item -/
def ywb (kd : Nat) (l : Int) (S : yS) : Bool := if kd = 22 then decide (yr (gI S 36 - gI S 38) = 0) else if kd = 25 then decide (0 < yr (gI S 38) ∧ yr (gI S 36 - gI S 38) < yr l) else if kd = 26 then decide (0 < yr (gI S 38)) else if kd = 27 then decide (0 < yr (gI S 38) ∧ yr (gI S 36 - gI S 38) < yr l ∧ ¬ yr (gI S 36) < yr l) else false
theorem ywb_22 {l : Int} : ywb 22 l S = decide (yr (gI S 36 - gI S 38) = 0) := rfl
theorem ywb_25 {l : Int} : ywb 25 l S = decide (0 < yr (gI S 38) ∧ yr (gI S 36 - gI S 38) < yr l) := rfl
theorem ywb_26 {l : Int} : ywb 26 l S = decide (0 < yr (gI S 38)) := rfl
theorem ywb_27 {l : Int} : ywb 27 l S = decide (0 < yr (gI S 38) ∧ yr (gI S 36 - gI S 38) < yr l ∧ ¬ yr (gI S 36) < yr l) := rfl
theorem k124_s {kd : Nat} {x1 : Int} (h : kd < 67) (hb : 0 ≤ yr (yKo kd) ∧ yr (yKo kd) < 67) {tgt : Nat} (hz : x_lsw 109 #[(18, 42), (20, 52), (21, 83), (28, 70)] 18 [.int (Int32.ofInt ((xLf xSm (yr (yKo kd)).toNat).toInt))] = some (tgt, [])) : Y q (d + 1) 124 0 [vr 125, vr kd, vi x1, vu] [] S js = Y q (d + 1) 124 tgt [vr 125, vr kd, vi x1, vi (gI S 36 - gI S 38)] [] S js := by
  rw [w124_0, if_pos h, w318_0, if_pos h, YB_ret, w124_17, if_pos hb, k124_lk hz]
theorem k124 {kd : Nat} {x1 : Int} (h : kd = 22 ∨ kd = 24 ∨ kd = 25 ∨ kd = 26 ∨ kd = 27 ∨ kd = 28) : Y q (d + 1) 124 0 [vr 125, vr kd, vi x1, vu] [] S js = yret q (vi (yb1 (ywb kd x1 S))) S js := by
  have o0 : yr 0 = 0 ∨ yr 0 = 1 := by decide
  have o1 : yr 1 = 0 ∨ yr 1 = 1 := by decide
  rcases h with rfl | rfl | rfl | rfl | rfl | rfl
  · rw [k124_s (tgt := 60) (by decide) (by decide) rfl, w124_60, ywb_22]
    by_cases z : yr (gI S 36 - gI S 38) = 0
    · rw [if_pos z, if_pos o1, decide_eq_true z]
      rfl
    · rw [if_neg z, if_pos o0, decide_eq_false z]
      rfl
  · rw [k124_s (tgt := 127) (by decide) (by decide) rfl, w124_127, if_pos o0]
    rfl
  · rw [k124_s (tgt := 70) (by decide) (by decide) rfl, w124_70, ywb_25]
    by_cases z : 0 < yr (gI S 38)
    · by_cases y : yr (gI S 36 - gI S 38) < yr x1
      · rw [if_pos z, if_pos y, if_pos o1, decide_eq_true ⟨z, y⟩]
        rfl
      · rw [if_pos z, if_neg y, if_pos o0, decide_eq_false (fun w => y w.2)]
        rfl
    · rw [if_neg z, if_pos o0, decide_eq_false (fun w => z w.1)]
      rfl
  · rw [k124_s (tgt := 88) (by decide) (by decide) rfl, w124_88, ywb_26]
    by_cases z : 0 < yr (gI S 38)
    · rw [if_pos z, if_pos o1, decide_eq_true z]
      rfl
    · rw [if_neg z, if_pos o0, decide_eq_false z]
      rfl
  · rw [k124_s (tgt := 101) (by decide) (by decide) rfl, w124_101, ywb_27]
    by_cases z : 0 < yr (gI S 38)
    · by_cases y : yr (gI S 36 - gI S 38) < yr x1
      · by_cases w : yr (gI S 36) < yr x1
        · rw [if_pos z, if_pos y, if_pos w, if_pos o0, decide_eq_false (fun v => v.2.2 w)]
          rfl
        · rw [if_pos z, if_pos y, if_neg w, if_pos o1, decide_eq_true ⟨z, y, w⟩]
          rfl
      · rw [if_pos z, if_neg y, if_pos o0, decide_eq_false (fun w => y w.2.1)]
        rfl
    · rw [if_neg z, if_pos o0, decide_eq_false (fun w => z w.1)]
      rfl
  · rw [k124_s (tgt := 127) (by decide) (by decide) rfl, w124_127, if_pos o0]
    rfl
end YUBN
end YUB
