/-! RUN: the reference prints a piece, from a value on -/
section YTH
section YTHL
variable {q : yQ} {d : Nat} {js : List xO} {S : yS}
theorem yah_b (side w n : Nat) : (yah side w n = 0 ∨ yah side w n + n ≤ w) ∧ (w < n → yah side w n = 0) := by
  unfold yah
  by_cases z : w ≤ n
  · rw [if_pos z]
    exact ⟨Or.inl rfl, fun _ => rfl⟩
  · rw [if_neg z]
    refine ⟨?_, fun y => by omega⟩
    split
    · exact Or.inl rfl
    · split <;> exact Or.inr (by omega)
theorem ymin_e {a b : Nat} (ha : a ≤ 60) (hb : b ≤ 60) : ymin (a : Int) b = ((if b < a then b else a : Nat) : Int) := by
  unfold ymin
  rw [yr_eq (x := (b : Int)) (by omega) (by omega), yr_eq (x := (a : Int)) (by omega) (by omega)]
  by_cases z : b < a
  · rw [if_pos (by omega), if_pos z]
  · rw [if_neg (by omega), if_neg z]
theorem yid2 {m : Nat} (hm : m ≤ 60) : yidiv ((m : Nat) : Int) 2 = ((m / 2 : Nat) : Int) := by
  have key : ∀ m : Nat, m ≤ 60 → yidiv ((m : Nat) : Int) 2 = ((m / 2 : Nat) : Int) := by decide
  exact key m hm
theorem r288b {B w k0 w0 way : Nat} {num : Bool} {l : List Int} (hw : w ≤ 60) (hB : B + w ≤ 72000) (hk0 : k0 < 500000) (hw0 : w0 ≤ 60) (hway : way ≤ 3) (g54 : gI S 54 = w) (hv : rV S 0 (.inr l)) : Y q (d + 1) 288 39 [vr 129, vi B, vi k0, vi w0, vi way, vi (yb1 num), vu, vu, vu, vu, vu] [] S js = yret q (vi ((k0 : Int) + ywid w0 l.length)) (sAr S 64 (ywl B w k0 (ypbt num l (ywid w0 l.length) (yah (ysd way num) (ywid w0 l.length) l.length)) (ywid w0 l.length) 0 (gA S 64))) js := by
  obtain ⟨v1, v2, v3⟩ := hv
  have hT : yT127 l := ⟨v2, fun j hj => by
    have := v3 j _ (List.getElem?_eq_getElem hj)
    rw [List.getD_eq_getElem?_getD, List.getElem?_eq_getElem hj]
    exact this.2⟩
  have hb : ∀ j, j < l.length → gA S 58 j = l.getD j 0 := fun j hj => by
    have := (v3 j _ (List.getElem?_eq_getElem hj)).1
    rw [List.getD_eq_getElem?_getD, List.getElem?_eq_getElem hj]
    rw [Nat.mul_zero, Nat.zero_add] at this
    exact this
  have e0 : (yr 0).toNat = 0 := rfl
  have k0' : 0 ≤ yr 0 ∧ yr 0 < 128 := by decide
  have n2 : ¬ yr 2 = 0 := by decide
  have ew0 : yr (w0 : Int) = w0 := yr_eq (by omega) (by omega)
  have el : yr (l.length : Int) = l.length := yr_eq (by omega) (by omega)
  have ey : yr (way : Int) = way := yr_eq (by omega) (by omega)
  have y1 : yr 1 = 1 := rfl
  have y3 : yr 3 = 3 := rfl
  have em := ymin_e (a := l.length) (b := w0) v2 hw0
  rw [w288_39, if_pos k0', e0, v1, ew0, el, ey, y1, y3, em]
  by_cases z : w0 = 0
  · have ez : ywid w0 l.length = l.length := if_pos z
    have lp := r288s (q := q) (d := d) (js := js) (x2 := (w0 : Int)) (x3 := (way : Int)) (x4 := yb1 num) hw hB hk0 hT l.length 0 S (Nat.zero_add _) g54 hb
    rw [ez, if_pos (by omega)]
    refine lp.trans ?_
    rw [ywl_cg l.length 0 (gA S 64) (bg := ypbt num l l.length (yah (ysd way num) l.length l.length)) (fun j h1 h2 => ?_)]
    have ea : yah (ysd way num) l.length l.length = 0 := if_pos (Nat.le_refl _)
    unfold ypbt
    rw [ea, if_neg (by omega), if_neg (by omega), if_pos (by omega), Nat.sub_zero]
  · have ez : ywid w0 l.length = w0 := if_neg z
    obtain ⟨a1, a2⟩ := yah_b (ysd way num) w0 l.length
    rw [ez, if_neg (by omega)]
    have lp := fun (fl : Int) (hfl : fl = if w0 < l.length then 1 else 0) => r288f (q := q) (d := d) (js := js) (x3 := (way : Int)) (num := num) (sz := if w0 < l.length then w0 else l.length) (fl := fl) hw hB hk0 hT hw0 rfl a1 a2 hfl w0 0 S (Nat.zero_add _) g54 hb
    -- what stands ahead
    have hah : ∀ fl : Int, fl = (if w0 < l.length then 1 else 0) → (if (way : Int) = 1 then Y q (d + 1) 288 153 [vr 129, vi B, vi k0, vi w0, vi way, vi (yb1 num), vi (l.length : Int), vi fl, vi ((if w0 < l.length then w0 else l.length : Nat) : Int), vi 0, vi 0] [] S js else if (way : Int) = 0 then if yr (yb1 num) = 0 then Y q (d + 1) 288 153 [vr 129, vi B, vi k0, vi w0, vi way, vi (yb1 num), vi (l.length : Int), vi fl, vi ((if w0 < l.length then w0 else l.length : Nat) : Int), vi 0, vi 0] [] S js else if (way : Int) = 3 then if yr 2 = 0 then Y q (d + 1) 288 140 [vr 129, vi B, vi k0, vi w0, vi way, vi (yb1 num), vi (l.length : Int), vi fl, vi ((if w0 < l.length then w0 else l.length : Nat) : Int), vu, vu] [vi 2, vi ((w0 : Int) - ((if w0 < l.length then w0 else l.length : Nat) : Int))] S js else Y q (d + 1) 288 153 [vr 129, vi B, vi k0, vi w0, vi way, vi (yb1 num), vi (l.length : Int), vi fl, vi ((if w0 < l.length then w0 else l.length : Nat) : Int), vi (yidiv ((w0 : Int) - ((if w0 < l.length then w0 else l.length : Nat) : Int)) 2), vi 0] [] S js else Y q (d + 1) 288 153 [vr 129, vi B, vi k0, vi w0, vi way, vi (yb1 num), vi (l.length : Int), vi fl, vi ((if w0 < l.length then w0 else l.length : Nat) : Int), vi ((w0 : Int) - ((if w0 < l.length then w0 else l.length : Nat) : Int)), vi 0] [] S js else if (way : Int) = 3 then if yr 2 = 0 then Y q (d + 1) 288 140 [vr 129, vi B, vi k0, vi w0, vi way, vi (yb1 num), vi (l.length : Int), vi fl, vi ((if w0 < l.length then w0 else l.length : Nat) : Int), vu, vu] [vi 2, vi ((w0 : Int) - ((if w0 < l.length then w0 else l.length : Nat) : Int))] S js else Y q (d + 1) 288 153 [vr 129, vi B, vi k0, vi w0, vi way, vi (yb1 num), vi (l.length : Int), vi fl, vi ((if w0 < l.length then w0 else l.length : Nat) : Int), vi (yidiv ((w0 : Int) - ((if w0 < l.length then w0 else l.length : Nat) : Int)) 2), vi 0] [] S js else Y q (d + 1) 288 153 [vr 129, vi B, vi k0, vi w0, vi way, vi (yb1 num), vi (l.length : Int), vi fl, vi ((if w0 < l.length then w0 else l.length : Nat) : Int), vi ((w0 : Int) - ((if w0 < l.length then w0 else l.length : Nat) : Int)), vi 0] [] S js) = Y q (d + 1) 288 153 [vr 129, vi B, vi k0, vi w0, vi way, vi (yb1 num), vi (l.length : Int), vi fl, vi ((if w0 < l.length then w0 else l.length : Nat) : Int), vi ((yah (ysd way num) w0 l.length : Nat) : Int), vi 0] [] S js := by
      intro fl _
      have esub : (w0 : Int) - ((if w0 < l.length then w0 else l.length : Nat) : Int) = ((w0 - l.length : Nat) : Int) := by
        by_cases y : w0 < l.length
        · rw [if_pos y]
          omega
        · rw [if_neg y]
          omega
      have e2 := yid2 (m := w0 - l.length) (by omega)
      have ea : ∀ side, yah side w0 l.length = if side = 31 then 0 else if side = 32 then w0 - l.length else (w0 - l.length) / 2 := fun side => by
        unfold yah
        by_cases y : w0 ≤ l.length
        · have y0 : w0 - l.length = 0 := by omega
          rw [if_pos y, y0]
          split
          · rfl
          · split <;> rfl
        · rw [if_neg y]
      rw [esub, e2, ea]
      have b0 : yr (yb1 false) = 0 := rfl
      have b1 : ¬ yr (yb1 true) = 0 := by decide
      have hw4 : way = 0 ∨ way = 1 ∨ way = 2 ∨ way = 3 := by omega
      rcases hw4 with rfl | rfl | rfl | rfl
      · cases num with
        | false =>
          rw [if_neg (by omega), if_pos (by omega), if_pos b0]
          rfl
        | true =>
          rw [if_neg (by omega), if_pos (by omega), if_neg b1, if_neg (by omega)]
          rfl
      · rw [if_pos (by omega)]
        rfl
      · rw [if_neg (by omega), if_neg (by omega), if_neg (by omega)]
        rfl
      · rw [if_neg (by omega), if_neg (by omega), if_pos (by omega), if_neg n2]
        rfl
    by_cases z2 : w0 < l.length
    · have f1 : (1 : Int) = if w0 < l.length then 1 else 0 := by rw [if_pos z2]
      rw [if_pos (show (w0 : Int) < l.length by omega)]
      exact (hah 1 f1).trans (lp 1 f1)
    · have f0 : (0 : Int) = if w0 < l.length then 1 else 0 := by rw [if_neg z2]
      rw [if_neg (show ¬ (w0 : Int) < l.length by omega)]
      exact (hah 0 f0).trans (lp 0 f0)
theorem r288 {B w k0 w0 way : Nat} {v : yVal} (hw : w ≤ 60) (hB : B + w ≤ 72000) (hk0 : k0 < 500000) (hw0 : w0 ≤ 60) (hway : way ≤ 3) (g54 : gI S 54 = w) (hv : rV S 0 v) : ∃ S1 : yS, Y q (d + 2) 288 0 [vr 129, vi B, vi k0, vi w0, vi way, vu, vu, vu, vu, vu, vu] [] S js = yret q (vi ((k0 : Int) + ywid w0 (yptx v).length)) (sAr S1 64 (ywl B w k0 (ypbt (yisn v) (yptx v) (ywid w0 (yptx v).length) (yah (ysd way (yisn v)) (ywid w0 (yptx v).length) (yptx v).length)) (ywid w0 (yptx v).length) 0 (gA S 64))) js ∧ yFr yWp S S1 := by
  have e0 : (yr 0).toNat = 0 := rfl
  have k0' : 0 ≤ yr 0 ∧ yr 0 < 128 := by decide
  have n1 : ¬ yr 1 = 0 := by decide
  have em : yr (-1) = -1 := rfl
  match v, hv with
  | .inl x, hv =>
    obtain ⟨h1, h2⟩ := hv
    obtain ⟨S1, hS1⟩ : ∃ S1, S1 = sA S 57 0 0 := ⟨_, rfl⟩
    have a1 : Y q (d + 1) 262 0 [vr 129, vi 0] [] S js = yretv q S1 js := by rw [w262_0, if_pos k0', e0, hS1]
    have a5 : rV S1 0 (.inr []) := by
      rw [hS1]
      exact ⟨by rw [gA_self, if_pos rfl]; rfl, by show 0 ≤ 60; omega, fun i y h => nomatch h⟩
    have f1 : yFr yWp S S1 := by
      rw [hS1]
      exact yFr_A rfl
    obtain ⟨S2, c1, c2, c3, c4⟩ := r273 (q := q) (d := d) (js := js) (n := 0) (by omega) (lea := 1) (yabs_e x) (yabs_le x) (Or.inl rfl) a5
    have hl := ydgt_le x
    have c4 : rV S2 0 (.inr ((ydgt x).take 60)) := c4
    rw [List.take_of_length_le hl] at c4
    have f := yFr_tr f1 c2.1
    have c1 : Y q (d + 1) 273 0 [vr 129, vi 0, vj x, vu, vi 1, vu, vu, vu] [] S1 js = yretv q S2 js := c1
    have b := r288b (q := q) (d := d + 1) (js := js) (S := S2) (B := B) (k0 := k0) (way := way) (num := true) hw hB hk0 hw0 hway ((f.1 54 rfl).trans g54) c4
    have b : Y q (d + 2) 288 39 [vr 129, vi B, vi k0, vi w0, vi way, vi 1, vu, vu, vu, vu, vu] [] S2 js = _ := b
    have e16 : gB S1 16 0 = x := by
      rw [hS1]
      exact h2
    refine ⟨S2, ?_, f⟩
    rw [w288_0, if_pos k0', e0, em, if_pos (by rw [h1]; rfl), if_neg n1, a1, YB_retv, w288_27, if_pos k0', e0, e16, c1, YB_retv, b, f.2.2.2.1 64 rfl]
    rfl
  | .inr l, hv =>
    have b := r288b (q := q) (d := d + 1) (js := js) (S := S) (B := B) (k0 := k0) (way := way) (num := false) hw hB hk0 hw0 hway g54 hv
    have b : Y q (d + 2) 288 39 [vr 129, vi B, vi k0, vi w0, vi way, vi 0, vu, vu, vu, vu, vu] [] S js = _ := b
    refine ⟨S, ?_, yFr_rf _ _⟩
    have n0 : ¬ yr (gA S 57 0) = -1 := by
      have h1 := hv.1
      have h2 := hv.2.1
      rw [h1, yr_eq (by omega) (by omega)]
      omega
    have st : Y q (d + 2) 288 0 [vr 129, vi B, vi k0, vi w0, vi way, vu, vu, vu, vu, vu, vu] [] S js = Y q (d + 2) 288 39 [vr 129, vi B, vi k0, vi w0, vi way, vi 0, vu, vu, vu, vu, vu] [] S js := by
      rw [w288_0, if_pos k0', e0, em, if_neg n0, if_pos yr_0, w288_39, e0]
    rw [st, b]
    rfl
end YTHL
end YTH
