/-! THE REFERENCE's MACHINE: two operands -/
section YRO
section YROL
variable {q : yQ} {d : Nat} {js : List xO} {S : yS} {n : Nat}
theorem rV_dec {m : Nat} {x : Int} {v : yVal} (hv : rV S m v) : rV (sI S 63 x) m v := rV_63 hv
theorem ycal_mm (a b : Int64) : ycal 26 a b = yminl a b ∧ ycal 27 a b = ymaxl a b := by
  refine ⟨?_, ?_⟩
  · show (if a < b then a else b) = if b < a then b else a
    by_cases h1 : a < b
    · rw [if_pos h1, if_neg (fun h2 => by have := Int64.lt_iff_toInt_lt.mp h1; have := Int64.lt_iff_toInt_lt.mp h2; omega)]
    · rw [if_neg h1]
      by_cases h2 : b < a
      · rw [if_pos h2]
      · rw [if_neg h2]
        refine Int64.toInt_inj.mp ?_
        have h3 : ¬ a.toInt < b.toInt := fun z => h1 (Int64.lt_iff_toInt_lt.mpr z)
        have h4 : ¬ b.toInt < a.toInt := fun z => h2 (Int64.lt_iff_toInt_lt.mpr z)
        omega
  · rfl
/-- two numbers -/
theorem r267 {op : Nat} {a b : Int64} (hop : (6 ≤ op ∧ op ≤ 10) ∨ op = 26 ∨ op = 27) (hn : n + 2 < 128) (hp : gI S 63 = ((n + 2 : Nat) : Int)) (h1 : rV S n (.inl a)) (h2 : rV S (n + 1) (.inl b)) (h0 : op = 9 ∨ op = 10 → b ≠ 0) : ∃ S' : yS, Y q (d + 1) 267 0 [vr 129, vi op, vu, vu, vu, vu] [] S js = yretv q S' js ∧ rPs n S S' (.inl (ycal op a b)) := by
  have e1 : ((n + 2 : Nat) : Int) - 1 = ((n + 1 : Nat) : Int) := by omega
  have e2 : ((n + 1 : Nat) : Int) - 1 = (n : Int) := by omega
  have en : yr (n : Int) = n := yr_eq (by omega) (by omega)
  have en1 : yr ((n + 1 : Nat) : Int) = ((n + 1 : Nat) : Int) := yr_eq (by omega) (by omega)
  have eo : yr (op : Int) = op := yr_eq (by omega) (by omega)
  have e8 : yr 8 = 8 := rfl
  have e11 : yr 11 = 11 := rfl
  have e26 : yr 26 = 26 := rfl
  have e27 : yr 27 = 27 := rfl
  have k1 : 0 ≤ (n : Int) ∧ (n : Int) < 128 := by omega
  have k2 : 0 ≤ ((n + 1 : Nat) : Int) ∧ ((n + 1 : Nat) : Int) < 128 := by omega
  obtain ⟨S1, hS1⟩ : ∃ S1, S1 = sI S 63 ((n + 1 : Nat) : Int) := ⟨_, rfl⟩
  -- the result is written
  have fin : ∀ r : Int64, r = ycal op a b → rPs n S (sB S1 16 n r) (.inl (ycal op a b)) := by
    intro r hr
    subst hS1
    refine ⟨rFs_tr rFs_63 rFs_16, rfl, ?_, ?_⟩
    · exact h1.1
    · rw [gB_self, if_pos rfl, hr]
  have arith : (6 ≤ op ∧ op ≤ 10) → YB q (Y q d 241 0 [vi ((op : Int) - 6), vj a, vu, vj b, vu] [] S1 js) (d + 1) 267 109 [vr 129, vi op, vj a, vu, vj b, vu] [vi (n : Int), vr 168] = yretv q (sB S1 16 n (ycal op a b)) js := by
    intro h
    have eo6 : (op : Int) - 6 = ((op - 6 : Nat) : Int) := by omega
    have hc : op - 6 ≤ 2 ∨ b ≠ 0 := by
      by_cases z : op - 6 ≤ 2
      · exact Or.inl z
      · exact Or.inr (h0 (by omega))
    rw [eo6, r241 (wh := op - 6) (by omega) hc, YB_ret, w267_112, en, if_pos k1, Int.toNat_natCast, show 6 + (op - 6) = op by omega]
  rw [w267_0, hp, e1, e2, en, en1, if_pos k1, if_pos k2, if_pos k1, Int.toNat_natCast, Int.toNat_natCast, h1.2, h2.2, eo, e8, e11, e26, e27, ← hS1]
  simp only [yr_lcmp, ylcmp_eq]
  by_cases z : 6 ≤ op ∧ op ≤ 10
  · have n26 : ¬ (op : Int) = 26 := by omega
    have n27 : ¬ (op : Int) = 27 := by omega
    refine ⟨_, ?_, fin _ rfl⟩
    simp only [n26, n27, if_false]
    by_cases z8 : 8 < (op : Int)
    · have hb := h0 (by omega)
      rw [if_pos z8, if_pos (by omega), if_neg hb]
      exact arith z
    · rw [if_neg z8]
      exact arith z
  · have n8 : 8 < (op : Int) := by omega
    have n11 : ¬ (op : Int) < 11 := by omega
    rw [if_pos n8, if_neg n11]
    by_cases z26 : op = 26
    · subst z26
      rw [if_pos (show ((26 : Nat) : Int) = 26 from rfl)]
      exact ⟨_, rfl, fin _ (ycal_mm a b).1.symm⟩
    · have z27 : op = 27 := by omega
      subst z27
      rw [if_neg (by omega), if_pos (show ((27 : Nat) : Int) = 27 from rfl), if_pos k1]
      exact ⟨_, rfl, fin _ (ycal_mm a b).2.symm⟩
/-- a division by zero -/
theorem r267_0 {op : Nat} {a : Int64} (hop : op = 9 ∨ op = 10) (hn : n + 2 < 128) (hp : gI S 63 = ((n + 2 : Nat) : Int)) (h1 : rV S n (.inl a)) (h2 : rV S (n + 1) (.inl 0)) : Y q (d + 1) 267 0 [vr 129, vi op, vu, vu, vu, vu] [] S js = ythr q (ystp 2 (Int32.ofInt (-1))) (sI S 63 ((n + 1 : Nat) : Int)) js := by
  have e1 : ((n + 2 : Nat) : Int) - 1 = ((n + 1 : Nat) : Int) := by omega
  have e2 : ((n + 1 : Nat) : Int) - 1 = (n : Int) := by omega
  have en : yr (n : Int) = n := yr_eq (by omega) (by omega)
  have en1 : yr ((n + 1 : Nat) : Int) = ((n + 1 : Nat) : Int) := yr_eq (by omega) (by omega)
  have eo : yr (op : Int) = op := yr_eq (by omega) (by omega)
  have e8 : yr 8 = 8 := rfl
  have e11 : yr 11 = 11 := rfl
  have k1 : 0 ≤ (n : Int) ∧ (n : Int) < 128 := by omega
  have k2 : 0 ≤ ((n + 1 : Nat) : Int) ∧ ((n + 1 : Nat) : Int) < 128 := by omega
  have n8 : 8 < (op : Int) := by omega
  have n11 : (op : Int) < 11 := by omega
  rw [w267_0, hp, e1, e2, en, en1, if_pos k1, if_pos k2, Int.toNat_natCast, Int.toNat_natCast, h1.2, h2.2, eo, e8, e11, if_pos n8, if_pos n11, if_pos (show yr (ylcmp 0 0) = 0 by rw [yr_lcmp, ylcmp_eq]), r267z]
/-- two texts, one behind the other -/
theorem r268l (hn : n + 2 < 128) {R : List Int} : ∀ (m i : Nat) (l : List Int) (S : yS), gI S 63 = ((n + 1 : Nat) : Int) → rV S n (.inr l) → rV S (n + 1) (.inr R) → i + m = R.length → ∃ S' : yS, Y q (d + 1) 268 12 [vr 129, vi i] [] S js = yretv q S' js ∧ rPs n S S' (.inr ((l ++ R.drop i).take 60))
  | 0, i, l, S, hp, hv, hR, hi => by
    have en1 : yr ((n + 1 : Nat) : Int) = ((n + 1 : Nat) : Int) := yr_eq (by omega) (by omega)
    have := hR.2.1
    have ei : yr (i : Int) = i := yr_eq (by omega) (by omega)
    have eR : yr (R.length : Int) = R.length := yr_eq (by omega) (by omega)
    rw [w268_12, hp, en1, if_pos (by omega), Int.toNat_natCast, hR.1, ei, eR, if_neg (by omega)]
    refine ⟨S, rfl, rFs_rf _ _, hp, ?_⟩
    rw [List.drop_eq_nil_of_le (by omega), List.append_nil, List.take_of_length_le hv.2.1]
    exact hv
  | m + 1, i, l, S, hp, hv, hR, hi => by
    have en1 : yr ((n + 1 : Nat) : Int) = ((n + 1 : Nat) : Int) := yr_eq (by omega) (by omega)
    have hRl := hR.2.1
    have ei : yr (i : Int) = i := yr_eq (by omega) (by omega)
    have eR : yr (R.length : Int) = R.length := yr_eq (by omega) (by omega)
    have ex : yr (60 * ((n + 1 : Nat) : Int) + i) = ((60 * (n + 1) + i : Nat) : Int) := by rw [yr_eq] <;> omega
    have hlt : i < R.length := by omega
    obtain ⟨b1, b2⟩ := hR.2.2 i R[i] (List.getElem?_eq_getElem hlt)
    have e1 : ((n + 1 : Nat) : Int) - 1 = (n : Int) := by omega
    have ep : (i : Int) + 1 = ((i + 1 : Nat) : Int) := by omega
    obtain ⟨S1, a1, a2, a3, a4, _⟩ := r263 (q := q) (d := d) (js := js) (n := n) (by omega) hv b2
    obtain ⟨S', c1, c2, c3, c4⟩ := r268l hn m (i + 1) ((l ++ [R[i]]).take 60) S1 (a3.trans hp) a4 (rV_fs a2 (by omega) hR) (by omega)
    refine ⟨S', ?_, rFs_tr a2 c2, c3, ?_⟩
    · rw [w268_12, hp, en1, if_pos (by omega), Int.toNat_natCast, hR.1, ei, eR, if_pos (by omega), ex, if_pos (by omega), Int.toNat_natCast, b1, e1, a1, YB_retv, w268_49, ep, c1]
    · rw [ytake_app, List.append_assoc] at c4
      rw [List.drop_eq_getElem_cons hlt]
      exact c4
theorem r268 (hn : n + 2 < 128) {l r : List Int} (hp : gI S 63 = ((n + 2 : Nat) : Int)) (h1 : rV S n (.inr l)) (h2 : rV S (n + 1) (.inr r)) : ∃ S' : yS, Y q (d + 1) 268 0 [vr 129, vu] [] S js = yretv q S' js ∧ rPs n S S' (.inr ((l ++ r).take 60)) := by
  have e1 : ((n + 2 : Nat) : Int) - 1 = ((n + 1 : Nat) : Int) := by omega
  obtain ⟨S', c1, c2, c3, c4⟩ := r268l (q := q) (d := d) (js := js) hn (R := r) r.length 0 l (sI S 63 ((n + 1 : Nat) : Int)) (gI_self _ _ _) (rV_63 h1) (rV_63 h2) (Nat.zero_add _)
  exact ⟨S', by rw [w268_0, hp, e1]; exact c1, rFs_tr rFs_63 c2, c3, c4⟩
/-- texts compared -/
theorem r270l (hn : n + 1 < 128) {L R : List Int} (h1 : rV S n (.inr L)) (h2 : rV S (n + 1) (.inr R)) : ∀ (l r : List Int) (i : Nat), (∀ j, L[i + j]? = l[j]?) → (∀ j, R[i + j]? = r[j]?) → i + l.length = L.length → i + r.length = R.length → Y q d 270 3 [vr 170, vi ((60 * n : Nat) : Int), vi L.length, vr 170, vi ((60 * (n + 1) : Nat) : Int), vi R.length, vi i] [] S js = yret q (vi (ycmT l r)) S js := by
  obtain ⟨v1, v2, v3⟩ := h1
  obtain ⟨u1, u2, u3⟩ := h2
  have eL : yr (L.length : Int) = L.length := yr_eq (by omega) (by omega)
  have eR : yr (R.length : Int) = R.length := yr_eq (by omega) (by omega)
  intro l
  induction l with
  | nil =>
    intro r i hl hr hl2 hr2
    have hl2 : i + 0 = L.length := hl2
    have ei : yr (i : Int) = i := yr_eq (by omega) (by omega)
    rw [w270_3, ei, eL, if_neg (by omega)]
    show yret q (vi ((L.length : Int) - R.length)) S js = yret q (vi (((0 : Nat) : Int) - r.length)) S js
    rw [show (L.length : Int) - R.length = ((0 : Nat) : Int) - r.length by omega]
  | cons a l ih =>
    intro r i hl hr hl2 hr2
    have hl2 : i + (l.length + 1) = L.length := hl2
    have ei : yr (i : Int) = i := yr_eq (by omega) (by omega)
    match r, hr, hr2 with
    | [], hr, hr2 =>
      have hr2 : i + 0 = R.length := hr2
      rw [w270_3, ei, eL, if_pos (by omega), eR, if_neg (by omega)]
      show yret q (vi ((L.length : Int) - R.length)) S js = yret q (vi (((l.length + 1 : Nat) : Int) - ((0 : Nat) : Int))) S js
      rw [show (L.length : Int) - R.length = ((l.length + 1 : Nat) : Int) - ((0 : Nat) : Int) by omega]
    | b :: r, hr, hr2 =>
      have hr2 : i + (r.length + 1) = R.length := hr2
      have ex : yr (((60 * n : Nat) : Int) + i) = ((60 * n + i : Nat) : Int) := by rw [yr_eq] <;> omega
      have ey : yr (((60 * (n + 1) : Nat) : Int) + i) = ((60 * (n + 1) + i : Nat) : Int) := by rw [yr_eq] <;> omega
      obtain ⟨a1, a2, a3⟩ := v3 i a (by have := hl 0; rw [Nat.add_zero] at this; rw [this]; rfl)
      obtain ⟨b1, b2, b3⟩ := u3 i b (by have := hr 0; rw [Nat.add_zero] at this; rw [this]; rfl)
      have ea : yr a = a := yr_eq (by omega) (by omega)
      have eb : yr b = b := yr_eq (by omega) (by omega)
      have k1 : 0 ≤ ((60 * n + i : Nat) : Int) ∧ ((60 * n + i : Nat) : Int) < 7680 := by omega
      have k2 : 0 ≤ ((60 * (n + 1) + i : Nat) : Int) ∧ ((60 * (n + 1) + i : Nat) : Int) < 7680 := by omega
      rw [w270_3, ei, eL, if_pos (by omega), eR, if_pos (by omega), ex, ey, if_pos k1, if_pos k2, Int.toNat_natCast, Int.toNat_natCast, a1, b1, ea, eb, if_pos k1, if_pos k2]
      show _ = yret q (vi (if a = b then ycmT l r else a - b)) S js
      by_cases z : a = b
      · rw [if_pos z, if_pos z]
        have ep : (i : Int) + 1 = ((i + 1 : Nat) : Int) := by omega
        rw [ep]
        exact ih r (i + 1) (fun j => by have := hl (j + 1); rw [show i + 1 + j = i + (j + 1) by omega, this]; rfl) (fun j => by have := hr (j + 1); rw [show i + 1 + j = i + (j + 1) by omega, this]; rfl) (by omega) (by omega)
      · rw [if_neg z, if_neg z]
theorem ycmT_rng : ∀ (l r : List Int), (∀ y ∈ l, 0 ≤ y ∧ y ≤ 127) → (∀ y ∈ r, 0 ≤ y ∧ y ≤ 127) → l.length ≤ 60 → r.length ≤ 60 → -200 ≤ ycmT l r ∧ ycmT l r ≤ 200
  | [], r, _, _, _, h2 => by
    show -200 ≤ ((0 : Nat) : Int) - r.length ∧ ((0 : Nat) : Int) - r.length ≤ 200
    omega
  | a :: l, [], _, _, h1, _ => by
    have h1 : l.length + 1 ≤ 60 := h1
    show -200 ≤ ((l.length + 1 : Nat) : Int) - ((0 : Nat) : Int) ∧ ((l.length + 1 : Nat) : Int) - ((0 : Nat) : Int) ≤ 200
    omega
  | a :: l, b :: r, hl, hr, h1, h2 => by
    have h1 : l.length + 1 ≤ 60 := h1
    have h2 : r.length + 1 ≤ 60 := h2
    show -200 ≤ (if a = b then ycmT l r else a - b) ∧ (if a = b then ycmT l r else a - b) ≤ 200
    by_cases z : a = b
    · rw [if_pos z]
      exact ycmT_rng l r (fun y hy => hl y (List.mem_cons_of_mem _ hy)) (fun y hy => hr y (List.mem_cons_of_mem _ hy)) (by omega) (by omega)
    · rw [if_neg z]
      have := hl a List.mem_cons_self
      have := hr b List.mem_cons_self
      omega
theorem r242t {wh : Nat} {x : Int} (hw : wh ≤ 5) (hx : -200 ≤ x ∧ x ≤ 200) : Y q d 242 0 [vi wh, vi x] [] S js = yret q (vi (if ycal ((12 + wh : Nat) : Int) (yi2l x) 0 = 0 then 0 else 1)) S js := by
  have ex : yr x = x := yr_eq (by omega) (by omega)
  have ea : (yi2l x).toInt = x := by rw [yi2l_toInt, ex]
  have z0 : (0 : Int64).toInt = 0 := by decide
  have hc : yr (ycmp (yi2l x) 0) = if x < 0 then -1 else if x = 0 then 0 else 1 := by
    unfold ycmp
    by_cases h1 : x < 0
    · rw [if_pos h1, if_pos (Int64.lt_iff_toInt_lt.mpr (by omega))]
      rfl
    · rw [if_neg h1, if_neg (fun h => by have := Int64.lt_iff_toInt_lt.mp h; omega)]
      by_cases h2 : x = 0
      · rw [if_pos h2, if_pos (Int64.toInt_inj.mp (by omega))]
        rfl
      · rw [if_neg h2, if_neg (fun h => by have := Int64.toInt_inj.mpr h; omega)]
        rfl
  have e1 : (x = 0) = (yr (ycmp (yi2l x) 0) = 0) := by
    rw [hc]
    refine propext ⟨fun h => ?_, fun h => ?_⟩
    · rw [if_neg (by omega), if_pos h]
    · split at h
      · omega
      · split at h
        · assumption
        · omega
  have e2 : (x < 0) = (yr (ycmp (yi2l x) 0) < 0) := by
    rw [hc]
    refine propext ⟨fun h => ?_, fun h => ?_⟩
    · rw [if_pos h]
      omega
    · split at h
      · assumption
      · split at h
        · omega
        · omega
  have e3 : (0 < x) = (0 < yr (ycmp (yi2l x) 0)) := by
    rw [hc]
    refine propext ⟨fun h => ?_, fun h => ?_⟩
    · rw [if_neg (by omega), if_neg (by omega)]
      omega
    · split at h
      · omega
      · split at h
        · omega
        · omega
  rw [← r242 (q := q) (d := d) (js := js) (S := S) (yi2l x) 0 hw, w242_0, w242_0, ex]
  simp only [yz0, yz1, if_true]
  simp only [e1, e2, e3]
theorem r269 {op : Nat} {v w r : yVal} (hop : 12 ≤ op ∧ op ≤ 17) (hf : yft2 op v w) (hr : yO2 op v w = some r) (hn : n + 2 < 128) (hp : gI S 63 = ((n + 2 : Nat) : Int)) (h1 : rV S n v) (h2 : rV S (n + 1) w) : ∃ S' : yS, Y q (d + 1) 269 0 [vr 129, vi ((op : Int) - 12), vu] [] S js = yretv q S' js ∧ rPs n S S' r := by
  have e2 : ((n + 2 : Nat) : Int) - 2 = (n : Int) := by omega
  have e1 : (n : Int) + 1 = ((n + 1 : Nat) : Int) := by omega
  have en : yr (n : Int) = n := yr_eq (by omega) (by omega)
  have en1 : yr ((n + 1 : Nat) : Int) = ((n + 1 : Nat) : Int) := yr_eq (by omega) (by omega)
  have k1 : 0 ≤ (n : Int) ∧ (n : Int) < 128 := by omega
  have k2 : 0 ≤ ((n + 1 : Nat) : Int) ∧ ((n + 1 : Nat) : Int) < 128 := by omega
  have em : yr (-1) = -1 := rfl
  have ew : (op : Int) - 12 = ((op - 12 : Nat) : Int) := by omega
  have eop : 12 + (op - 12) = op := by omega
  obtain ⟨S1, hS1⟩ : ∃ S1, S1 = sI S 63 (n : Int) := ⟨_, rfl⟩
  have hp1 : gI S1 63 = (n : Int) := by rw [hS1, gI_self]
  have fr : rFs n S S1 := by
    rw [hS1]
    exact rFs_63
  have fin : ∀ (a c : Int64) (x1 : Int), ∃ S' : yS, Y q (d + 1) 269 104 [vr 129, vi ((op - 12 : Nat) : Int), vi x1] [vi (if ycal (op : Int) a c = 0 then 0 else 1), vr 129] S1 js = yretv q S' js ∧ rPs n S S' (.inl (ycal op a c)) := by
    intro a c x1
    have h01 := ycal_01 a c (wh := op - 12) (by omega)
    rw [eop] at h01
    have n1 : ¬ yr 1 = 0 := by decide
    rw [w269_104]
    rcases h01 with h | h
    · obtain ⟨S', a1, a2⟩ := r260 (q := q) (d := d) (js := js) (x := 0) (show n < 128 by omega) hp1
      rw [if_pos h, if_pos yr_0, a1, YB_retv, w269_115, h]
      exact ⟨S', rfl, rFs_tr fr a2.1, a2.2.1, a2.2.2⟩
    · obtain ⟨S', a1, a2⟩ := r260 (q := q) (d := d) (js := js) (x := 1) (show n < 128 by omega) hp1
      rw [if_neg (by rw [h]; decide), a1, YB_retv, w269_115, h]
      exact ⟨S', rfl, rFs_tr fr a2.1, a2.2.1, a2.2.2⟩
  rw [w269_0, hp, e2, en, e1, en1, if_pos k1, Int.toNat_natCast, Int.toNat_natCast, em, ew, ← hS1]
  match v, w, hf, hr, h1, h2 with
  | .inl a, .inl b, hf, hr, h1, h2 =>
    have hr : (if (op = 9 ∨ op = 10) ∧ b = 0 then none else some (Sum.inl (ycal op a b))) = some r := hr
    rw [if_neg (by omega)] at hr
    have hr := Option.some.inj hr
    have e319 := r319 (q := q) (d := d) (js := js) (S := S1) a b
    have e242 := r242 (q := q) (d := d) (js := js) (S := S1) (wh := op - 12) a b (by omega)
    rw [eop] at e242
    rw [h1.1, if_pos em, if_pos k1, if_pos k2, h1.2, h2.2, e319, YB_ret, w269_46, e242, YB_ret, ← hr]
    exact fin a b _
  | .inr L, .inr R, hf, hr, h1, h2 =>
    have hr : (if op = 11 then some (Sum.inr ((L ++ R).take 60)) else some (Sum.inl (ycal op (yi2l (ycmT L R)) 0))) = some r := hr
    rw [if_neg (by omega)] at hr
    have hr := Option.some.inj hr
    have lL := h1.2.1
    have lR := h2.2.1
    have eL : yr (L.length : Int) = L.length := yr_eq (by omega) (by omega)
    have rng := ycmT_rng L R (fun y hy => by
      obtain ⟨i, hi, he⟩ := List.getElem_of_mem hy
      exact (h1.2.2 i y (by rw [List.getElem?_eq_getElem hi, he])).2) (fun y hy => by
      obtain ⟨i, hi, he⟩ := List.getElem_of_mem hy
      exact (h2.2.2 i y (by rw [List.getElem?_eq_getElem hi, he])).2) lL lR
    have h1' : rV S1 n (.inr L) := by rw [hS1]; exact rV_63 h1
    have h2' : rV S1 (n + 1) (.inr R) := by rw [hS1]; exact rV_63 h2
    have e270 := r270l (q := q) (d := d) (js := js) (S := S1) (n := n) (by omega) h1' h2' L R 0 (fun j => by rw [Nat.zero_add]) (fun j => by rw [Nat.zero_add]) (Nat.zero_add _) (Nat.zero_add _)
    have e242 := r242t (q := q) (d := d) (js := js) (S := S1) (wh := op - 12) (x := ycmT L R) (by omega) rng
    rw [eop] at e242
    have f1 : 60 * (n : Int) = ((60 * n : Nat) : Int) := by omega
    have f2 : ((60 * n : Nat) : Int) + 60 = ((60 * (n + 1) : Nat) : Int) := by omega
    rw [h1.1, eL, if_neg (by omega), if_pos k1, if_pos k2, h2.1, f1, f2, w270_0]
    have e270 : Y q d 270 3 [vr 170, vi ((60 * n : Nat) : Int), vi L.length, vr 170, vi ((60 * (n + 1) : Nat) : Int), vi R.length, vi 0] [] S1 js = yret q (vi (ycmT L R)) S1 js := e270
    rw [e270, YB_ret, w269_97, e242, YB_ret, ← hr]
    exact fin (yi2l (ycmT L R)) 0 _
end YROL
end YRO
