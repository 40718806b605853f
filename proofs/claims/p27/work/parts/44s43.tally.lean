/-! taken from whole by wip/p27/slice.py: 9zzzzf.tally.lean.txt -/
section YUG
def yvcm (v w : yVal) : Int := match v, w with
  | .inl a, .inl b => ycmp a b
  | .inr l, .inr r => ycmT l r
  | _, _ => 0
def yadd (v w : yVal) : yVal := match v, w with
  | .inl a, .inl b => .inl (a + b)
  | v, _ => v
def yinc1 (v : yVal) : yVal := match v with
  | .inl a => .inl (a + 1)
  | .inr l => .inr l
def ytal (kd : Nat) (first : Bool) (old v : yVal) : yVal := if kd = 6 then yadd old v else if kd = 7 then yinc1 old else if kd = 8 then (if first = true ∨ yvcm v old < 0 then v else old) else if kd = 9 then (if first = true ∨ 0 < yvcm v old then v else old) else if kd = 10 then (if first = true then v else old) else v
def ysame (v w : yVal) : Prop := (∃ a b, v = .inl a ∧ w = .inl b) ∨ ∃ l r, v = .inr l ∧ w = .inr r
section YUGL
variable {q : yQ} {d : Nat} {js : List xO} {S : yS}
theorem c85g {m : Nat} (hm : m < 92) {L R : List Int} (h1 : cV S 28 (.inr L)) (h2 : cV S m (.inr R)) : ∀ (l r : List Int) (i : Nat) (x3 : yV), (∀ j, l[j]? = L[i + j]?) → (∀ j, r[j]? = R[i + j]?) → i + l.length = L.length → i + r.length = R.length → Y q d 85 2 [vr 124, vi 28, vi m, vi i, x3] [] S js = yret q (vi (ycmT l r)) S js := by
  obtain ⟨v1, v2, v3, v4⟩ := h1
  obtain ⟨u1, u2, u3, u4⟩ := h2
  have en : yr 28 = ((28 : Nat) : Int) := rfl
  have en1 : yr (m : Int) = m := yr_eq (by omega) (by omega)
  have eL : yr (L.length : Int) = L.length := yr_eq (by omega) (by omega)
  have eR : yr (R.length : Int) = R.length := yr_eq (by omega) (by omega)
  have k1 : 0 ≤ ((28 : Nat) : Int) ∧ ((28 : Nat) : Int) < 92 := by omega
  have k2 : 0 ≤ (m : Int) ∧ (m : Int) < 92 := by omega
  intro l
  induction l with
  | nil =>
    intro r i x3 hl hr hl2 hr2
    have hl2 : i + 0 = L.length := hl2
    have ei : yr (i : Int) = i := yr_eq (by omega) (by omega)
    rw [w85_2, en, en1, if_pos k1, Int.toNat_natCast, v2, eL, ei, if_neg (by omega), if_pos k1, if_pos k2, Int.toNat_natCast, u2]
    show yret q (vi ((L.length : Int) - R.length)) S js = yret q (vi (((0 : Nat) : Int) - r.length)) S js
    rw [show (L.length : Int) - R.length = ((0 : Nat) : Int) - r.length by omega]
  | cons a l ih =>
    intro r i x3 hl hr hl2 hr2
    have hl2 : i + (l.length + 1) = L.length := hl2
    have ei : yr (i : Int) = i := yr_eq (by omega) (by omega)
    match r, hr, hr2 with
    | [], hr, hr2 =>
      have hr2 : i + 0 = R.length := hr2
      rw [w85_2, en, en1, if_pos k1, Int.toNat_natCast, v2, eL, ei, if_pos (by omega), if_pos k2, Int.toNat_natCast, u2, eR, if_neg (by omega), if_pos k1, if_pos k2]
      show yret q (vi ((L.length : Int) - R.length)) S js = yret q (vi (((l.length + 1 : Nat) : Int) - ((0 : Nat) : Int))) S js
      rw [show (L.length : Int) - R.length = ((l.length + 1 : Nat) : Int) - ((0 : Nat) : Int) by omega]
    | b :: r, hr, hr2 =>
      have hr2 : i + (r.length + 1) = R.length := hr2
      have ex : yr ((28 : Int) * 60 + i) = ((60 * 28 + i : Nat) : Int) := by rw [yr_eq] <;> omega
      have ey : yr ((m : Int) * 60 + i) = ((60 * m + i : Nat) : Int) := by rw [yr_eq] <;> omega
      obtain ⟨a1, a2, a3⟩ := v4 i a (by have := hl 0; rw [Nat.add_zero] at this; rw [← this]; rfl)
      obtain ⟨b1, b2, b3⟩ := u4 i b (by have := hr 0; rw [Nat.add_zero] at this; rw [← this]; rfl)
      have eab : yr (a - b) = a - b := yr_eq (by omega) (by omega)
      rw [w85_2, en, en1, if_pos k1, Int.toNat_natCast, v2, eL, ei, if_pos (by omega), if_pos k2, Int.toNat_natCast, u2, eR, if_pos (by omega), ex, ey, if_pos (by omega), if_pos (by omega), Int.toNat_natCast, Int.toNat_natCast, a1, b1, eab]
      show _ = yret q (vi (if a = b then ycmT l r else a - b)) S js
      by_cases z : a = b
      · rw [if_pos (by omega), if_pos z]
        have ep : (i : Int) + 1 = ((i + 1 : Nat) : Int) := by omega
        rw [ep]
        exact ih r (i + 1) _ (fun j => by have := hl (j + 1); rw [show i + 1 + j = i + (j + 1) by omega, ← this]; rfl) (fun j => by have := hr (j + 1); rw [show i + 1 + j = i + (j + 1) by omega, ← this]; rfl) (by omega) (by omega)
      · rw [if_neg (by omega), if_neg z]
theorem c87 {m : Nat} {v w : yVal} (hm : m < 92) (h1 : cV S 28 v) (h2 : cV S m w) (hs : ysame v w) : Y q (d + 1) 87 0 [vr 124, vi 28, vi m] [] S js = yret q (vi (yvcm v w)) S js := by
  have e28 : (yr 28).toNat = 28 := rfl
  have k28 : 0 ≤ yr 28 ∧ yr 28 < 92 := by decide
  have en1 : yr (m : Int) = m := yr_eq (by omega) (by omega)
  have k2 : 0 ≤ (m : Int) ∧ (m : Int) < 92 := by omega
  rcases hs with ⟨a, b, rfl, rfl⟩ | ⟨l, r, rfl, rfl⟩
  · rw [w87_0, if_pos k28, e28, if_pos (by rw [h1.1]; rfl), if_pos k28, en1, if_pos k2, Int.toNat_natCast, h1.2.1, h2.2.1, r319, YB_ret, w87_33]
    rfl
  · have c := c85g (q := q) (d := d) (js := js) hm h1 h2 l r 0 vu (fun j => by rw [Nat.zero_add]) (fun j => by rw [Nat.zero_add]) (Nat.zero_add _) (Nat.zero_add _)
    have c : Y q d 85 2 [vr 124, vi 28, vi m, vi 0, vu] [] S js = yret q (vi (ycmT l r)) S js := c
    rw [w87_0, if_pos k28, e28, if_neg (by rw [h1.1]; decide), w85_0, c, YB_ret, w87_15]
    rfl
theorem yvcm_r {S : yS} {m : Nat} {v w : yVal} (h1 : cV S 28 v) (h2 : cV S m w) : yr (yvcm v w) = yvcm v w := by
  match v, w, h1, h2 with
  | .inl a, .inl b, _, _ =>
    show yr (ycmp a b) = ycmp a b
    unfold ycmp
    split
    · rfl
    · split <;> rfl
  | .inr l, .inl b, _, _ => rfl
  | .inl a, .inr r, _, _ => rfl
  | .inr l, .inr r, h1, h2 =>
    show yr (ycmT l r) = ycmT l r
    have key : ∀ (l r : List Int), l.length ≤ 60 → r.length ≤ 60 → (∀ y, y ∈ l → 0 ≤ y ∧ y ≤ 127) → (∀ y, y ∈ r → 0 ≤ y ∧ y ≤ 127) → -200 ≤ ycmT l r ∧ ycmT l r ≤ 200 := by
      intro l
      induction l with
      | nil =>
        intro r h1 h2 _ _
        show -200 ≤ (((0 : Nat) : Int) - r.length) ∧ (((0 : Nat) : Int) - r.length) ≤ 200
        omega
      | cons a l ih =>
        intro r h1 h2 h3 h4
        have h1 : l.length + 1 ≤ 60 := h1
        match r, h2, h4 with
        | [], _, _ =>
          show -200 ≤ (((l.length + 1 : Nat) : Int) - ((0 : Nat) : Int)) ∧ (((l.length + 1 : Nat) : Int) - ((0 : Nat) : Int)) ≤ 200
          omega
        | b :: r, h2, h4 =>
          have h2 : r.length + 1 ≤ 60 := h2
          show -200 ≤ (if a = b then ycmT l r else a - b) ∧ (if a = b then ycmT l r else a - b) ≤ 200
          by_cases z : a = b
          · rw [if_pos z]
            exact ih r (by omega) (by omega) (fun y hy => h3 y (List.mem_cons_of_mem _ hy)) (fun y hy => h4 y (List.mem_cons_of_mem _ hy))
          · rw [if_neg z]
            have := h3 a (List.mem_cons_self ..)
            have := h4 b (List.mem_cons_self ..)
            omega
    have mem : ∀ {m : Nat} {l : List Int}, cV S m (.inr l) → ∀ y, y ∈ l → 0 ≤ y ∧ y ≤ 127 := fun hv y hy => by
      obtain ⟨i, hi, e⟩ := List.mem_iff_getElem.mp hy
      have := hv.2.2.2 i y (by rw [List.getElem?_eq_getElem hi, e])
      exact this.2
    have := key l r h1.2.2.1 h2.2.2.1 (mem h1) (mem h2)
    exact yr_eq (by omega) (by omega)
theorem c129 {m kd : Nat} {first : Bool} {old v : yVal} (hm : m < 28) (hkd : 6 ≤ kd ∧ kd ≤ 11) (h1 : cV S 28 v) (h2 : cV S m old) (hs : kd ≠ 7 → ysame v old) (h6 : kd = 6 ∨ kd = 7 → ∃ a, old = .inl a) : ∃ S' : yS, Y q (d + 2) 129 0 [vr 131, vr kd, vi m, vi (yb1 first), vu] [] S js = yretv q S' js ∧ yFs m S S' ∧ cV S' m (ytal kd first old v) := by
  have h67 : kd < 67 := by omega
  have em : yr (m : Int) = m := yr_eq (by omega) (by omega)
  have km : 0 ≤ (m : Int) ∧ (m : Int) < 92 := by omega
  have e28 : (yr 28).toNat = 28 := rfl
  have k28 : 0 ≤ yr 28 ∧ yr 28 < 92 := by decide
  have n1 : ¬ yr 1 = 0 := by decide
  have b0 : yr (yb1 false) = 0 := rfl
  have b1 : ¬ yr (yb1 true) = 0 := by decide
  obtain ⟨S2, p1, p2, p3⟩ := c78 (q := q) (d := d + 1) (js := js) (f := 28) (t := m) (by omega) (by omega) (by omega) h1
  have p1 : Y q (d + 1) 78 0 [vr 124, vi 28, vi m, vu] [] S js = yretv q S2 js := p1
  have hr := yvcm_r h1 h2
  have hc := fun h => c87 (q := q) (d := d) (js := js) (show m < 92 by omega) h1 h2 (hs h)
  have hk : kd = 6 ∨ kd = 7 ∨ kd = 8 ∨ kd = 9 ∨ kd = 10 ∨ kd = 11 := by omega
  rw [w129_0, if_pos h67, w318_0, if_pos h67, YB_ret]
  rcases hk with rfl | rfl | rfl | rfl | rfl | rfl
  · obtain ⟨x, rfl⟩ := h6 (Or.inl rfl)
    match v, h1, hs (by decide) with
    | .inr l, _, hs => rcases hs with ⟨_, _, z, _⟩ | ⟨_, _, _, z⟩ <;> cases z
    | .inl y, h1, _ =>
      rw [w129_7, if_pos (show 0 ≤ yr (yKo 6) ∧ yr (yKo 6) < 67 by decide), if_pos (show yr ((xLf xSm (yr (yKo 6)).toNat).toInt) = 23 by decide), em, if_pos km, if_pos k28, if_pos km, Int.toNat_natCast, e28, h2.2.1, h1.2.1]
      refine ⟨_, rfl, yFs_9, ?_⟩
      show cV _ m (.inl (x + y))
      exact ⟨h2.1, by rw [gB_self, if_pos rfl], h2.2.2⟩
  · obtain ⟨x, rfl⟩ := h6 (Or.inr rfl)
    rw [w129_7, if_pos (show 0 ≤ yr (yKo 7) ∧ yr (yKo 7) < 67 by decide), if_neg (show ¬ yr ((xLf xSm (yr (yKo 7)).toNat).toInt) = 23 by decide), if_pos (show yr ((xLf xSm (yr (yKo 7)).toNat).toInt) = 24 by decide), em, if_pos km, if_pos km, Int.toNat_natCast, h2.2.1]
    refine ⟨_, rfl, yFs_9, ?_⟩
    show cV _ m (.inl (x + 1))
    exact ⟨h2.1, by rw [gB_self, if_pos rfl], h2.2.2⟩
  · rw [w129_7, if_pos (show 0 ≤ yr (yKo 8) ∧ yr (yKo 8) < 67 by decide), if_neg (show ¬ yr ((xLf xSm (yr (yKo 8)).toNat).toInt) = 23 by decide), if_neg (show ¬ yr ((xLf xSm (yr (yKo 8)).toNat).toInt) = 24 by decide), if_pos (show yr ((xLf xSm (yr (yKo 8)).toNat).toInt) = 25 by decide)]
    show ∃ S' : yS, _ ∧ _ ∧ cV S' m (if first = true ∨ yvcm v old < 0 then v else old)
    cases first with
    | true =>
      rw [if_neg b1, if_neg n1, p1, YB_retv, w129_159, if_pos (Or.inl rfl)]
      exact ⟨S2, rfl, p2, p3⟩
    | false =>
      rw [if_pos b0, hc (by decide), YB_ret, w129_95, hr]
      by_cases z : yvcm v old < 0
      · rw [if_pos z, if_neg n1, p1, YB_retv, w129_159, if_pos (Or.inr z)]
        exact ⟨S2, rfl, p2, p3⟩
      · rw [if_neg z, if_pos yr_0, if_neg (fun w => w.elim (fun w => Bool.noConfusion w) z)]
        exact ⟨S, rfl, yFs_rf _ _, h2⟩
  · rw [w129_7, if_pos (show 0 ≤ yr (yKo 9) ∧ yr (yKo 9) < 67 by decide), if_neg (show ¬ yr ((xLf xSm (yr (yKo 9)).toNat).toInt) = 23 by decide), if_neg (show ¬ yr ((xLf xSm (yr (yKo 9)).toNat).toInt) = 24 by decide), if_neg (show ¬ yr ((xLf xSm (yr (yKo 9)).toNat).toInt) = 25 by decide), if_pos (show yr ((xLf xSm (yr (yKo 9)).toNat).toInt) = 26 by decide)]
    show ∃ S' : yS, _ ∧ _ ∧ cV S' m (if first = true ∨ 0 < yvcm v old then v else old)
    cases first with
    | true =>
      rw [if_neg b1, if_neg n1, p1, YB_retv, w129_159, if_pos (Or.inl rfl)]
      exact ⟨S2, rfl, p2, p3⟩
    | false =>
      rw [if_pos b0, hc (by decide), YB_ret, w129_122, hr]
      by_cases z : 0 < yvcm v old
      · rw [if_pos z, if_neg n1, p1, YB_retv, w129_159, if_pos (Or.inr z)]
        exact ⟨S2, rfl, p2, p3⟩
      · rw [if_neg z, if_pos yr_0, if_neg (fun w => w.elim (fun w => Bool.noConfusion w) z)]
        exact ⟨S, rfl, yFs_rf _ _, h2⟩
  · rw [w129_7, if_pos (show 0 ≤ yr (yKo 10) ∧ yr (yKo 10) < 67 by decide), if_neg (show ¬ yr ((xLf xSm (yr (yKo 10)).toNat).toInt) = 23 by decide), if_neg (show ¬ yr ((xLf xSm (yr (yKo 10)).toNat).toInt) = 24 by decide), if_neg (show ¬ yr ((xLf xSm (yr (yKo 10)).toNat).toInt) = 25 by decide), if_neg (show ¬ yr ((xLf xSm (yr (yKo 10)).toNat).toInt) = 26 by decide), if_pos (show yr ((xLf xSm (yr (yKo 10)).toNat).toInt) = 27 by decide)]
    show ∃ S' : yS, _ ∧ _ ∧ cV S' m (if first = true then v else old)
    cases first with
    | true =>
      rw [if_neg b1, p1, YB_retv, w129_159, if_pos rfl]
      exact ⟨S2, rfl, p2, p3⟩
    | false =>
      rw [if_pos b0, if_neg (fun w => Bool.noConfusion w)]
      exact ⟨S, rfl, yFs_rf _ _, h2⟩
  · rw [w129_7, if_pos (show 0 ≤ yr (yKo 11) ∧ yr (yKo 11) < 67 by decide), if_neg (show ¬ yr ((xLf xSm (yr (yKo 11)).toNat).toInt) = 23 by decide), if_neg (show ¬ yr ((xLf xSm (yr (yKo 11)).toNat).toInt) = 24 by decide), if_neg (show ¬ yr ((xLf xSm (yr (yKo 11)).toNat).toInt) = 25 by decide), if_neg (show ¬ yr ((xLf xSm (yr (yKo 11)).toNat).toInt) = 26 by decide), if_neg (show ¬ yr ((xLf xSm (yr (yKo 11)).toNat).toInt) = 27 by decide), if_neg n1, p1, YB_retv, w129_159]
    exact ⟨S2, rfl, p2, p3⟩
end YUGL
end YUG
