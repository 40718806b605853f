/-! RUN: a total takes a value in, the reference -/
section YUH
section YUHL
variable {q : yQ} {d : Nat} {js : List xO} {S : yS}
theorem r270g {m : Nat} (hm : m < 16) {L R : List Int} (h1 : rV S 0 (.inr L)) (h2 : rVv S m (.inr R)) : ∀ (l r : List Int) (i : Nat), (∀ j, L[i + j]? = l[j]?) → (∀ j, R[i + j]? = r[j]?) → i + l.length = L.length → i + r.length = R.length → Y q d 270 3 [vr 170, vi 0, vi L.length, vr 173, vi ((60 * m : Nat) : Int), vi R.length, vi i] [] S js = yret q (vi (ycmT l r)) S js := by
  obtain ⟨v1, v2, v3⟩ := h1
  obtain ⟨u1, u2, u3⟩ := h2
  have eL : yr (L.length : Int) = L.length := yr_eq (by omega) (by omega)
  have eR : yr (R.length : Int) = R.length := yr_eq (by omega) (by omega)
  intro l
  induction l with
  | nil =>
    intro r i hl hr hl2 hr2
    have hl2 : i + 0 = L.length := hl2
    have ei : yr (i : Int) = i := yr_eq (by omega) (by omega)
    rw [w270b_3, ei, eL, if_neg (by omega)]
    show yret q (vi ((L.length : Int) - R.length)) S js = yret q (vi (((0 : Nat) : Int) - r.length)) S js
    rw [show (L.length : Int) - R.length = ((0 : Nat) : Int) - r.length by omega]
  | cons a l ih =>
    intro r i hl hr hl2 hr2
    have hl2 : i + (l.length + 1) = L.length := hl2
    have ei : yr (i : Int) = i := yr_eq (by omega) (by omega)
    match r, hr, hr2 with
    | [], hr, hr2 =>
      have hr2 : i + 0 = R.length := hr2
      rw [w270b_3, ei, eL, if_pos (by omega), eR, if_neg (by omega)]
      show yret q (vi ((L.length : Int) - R.length)) S js = yret q (vi (((l.length + 1 : Nat) : Int) - ((0 : Nat) : Int))) S js
      rw [show (L.length : Int) - R.length = ((l.length + 1 : Nat) : Int) - ((0 : Nat) : Int) by omega]
    | b :: r, hr, hr2 =>
      have hr2 : i + (r.length + 1) = R.length := hr2
      have ex : yr ((0 : Int) + i) = ((60 * 0 + i : Nat) : Int) := by rw [yr_eq] <;> omega
      have ey : yr (((60 * m : Nat) : Int) + i) = ((60 * m + i : Nat) : Int) := by rw [yr_eq] <;> omega
      obtain ⟨a1, a2, a3⟩ := v3 i a (by have := hl 0; rw [Nat.add_zero] at this; rw [this]; rfl)
      obtain ⟨b1, b2, b3⟩ := u3 i b (by have := hr 0; rw [Nat.add_zero] at this; rw [this]; rfl)
      have ea : yr a = a := yr_eq (by omega) (by omega)
      have eb : yr b = b := yr_eq (by omega) (by omega)
      have kx : 0 ≤ ((60 * 0 + i : Nat) : Int) ∧ ((60 * 0 + i : Nat) : Int) < 7680 := by omega
      have ky : 0 ≤ ((60 * m + i : Nat) : Int) ∧ ((60 * m + i : Nat) : Int) < 960 := by omega
      rw [w270b_3, ei, eL, if_pos (by omega), eR, if_pos (by omega), ex, ey, if_pos kx, if_pos ky, Int.toNat_natCast, Int.toNat_natCast, a1, b1, ea, eb]
      show _ = yret q (vi (if a = b then ycmT l r else a - b)) S js
      by_cases z : a = b
      · rw [if_pos z, if_pos z]
        have ep : (i : Int) + 1 = ((i + 1 : Nat) : Int) := by omega
        rw [ep]
        exact ih r (i + 1) (fun j => by have := hl (j + 1); rw [show i + 1 + j = i + (j + 1) by omega, this]; rfl) (fun j => by have := hr (j + 1); rw [show i + 1 + j = i + (j + 1) by omega, this]; rfl) (by omega) (by omega)
      · rw [if_neg z, if_neg z, if_pos kx, if_pos ky]
theorem rV_63A {v : yVal} {k : Nat} {x : Int} (h : rV S 0 v) : rV (sA S 63 k x) 0 v := by
  match v, h with
  | .inl a, h => exact h
  | .inr l, h => exact h
theorem rVv_63A {m : Nat} {v : yVal} {k : Nat} {x : Int} (h : rVv S m v) : rVv (sA S 63 k x) m v := by
  match v, h with
  | .inl a, h => exact h
  | .inr l, h => exact h
theorem yvcm_rr {m : Nat} {v w : yVal} (h1 : rV S 0 v) (h2 : rVv S m w) : yr (yvcm v w) = yvcm v w := by
  match v, w, h1, h2 with
  | .inl a, .inl b, _, _ =>
    show yr (ycmp a b) = ycmp a b
    unfold ycmp
    split
    · rfl
    · split <;> rfl
  | .inr l, .inl b, _, _ => rfl
  | .inl a, .inr r, _, _ => rfl
  | .inr l, .inr r, h1, h2 =>
    show yr (ycmT l r) = ycmT l r
    have key : ∀ (l r : List Int), l.length ≤ 60 → r.length ≤ 60 → (∀ y, y ∈ l → 0 ≤ y ∧ y ≤ 127) → (∀ y, y ∈ r → 0 ≤ y ∧ y ≤ 127) → -200 ≤ ycmT l r ∧ ycmT l r ≤ 200 := by
      intro l
      induction l with
      | nil =>
        intro r h1 h2 _ _
        show -200 ≤ (((0 : Nat) : Int) - r.length) ∧ (((0 : Nat) : Int) - r.length) ≤ 200
        omega
      | cons a l ih =>
        intro r h1 h2 h3 h4
        have h1 : l.length + 1 ≤ 60 := h1
        match r, h2, h4 with
        | [], _, _ =>
          show -200 ≤ (((l.length + 1 : Nat) : Int) - ((0 : Nat) : Int)) ∧ (((l.length + 1 : Nat) : Int) - ((0 : Nat) : Int)) ≤ 200
          omega
        | b :: r, h2, h4 =>
          have h2 : r.length + 1 ≤ 60 := h2
          show -200 ≤ (if a = b then ycmT l r else a - b) ∧ (if a = b then ycmT l r else a - b) ≤ 200
          by_cases z : a = b
          · rw [if_pos z]
            exact ih r (by omega) (by omega) (fun y hy => h3 y (List.mem_cons_of_mem _ hy)) (fun y hy => h4 y (List.mem_cons_of_mem _ hy))
          · rw [if_neg z]
            have := h3 a (List.mem_cons_self ..)
            have := h4 b (List.mem_cons_self ..)
            omega
    have m1 : ∀ y, y ∈ l → 0 ≤ y ∧ y ≤ 127 := fun y hy => by
      obtain ⟨i, hi, e⟩ := List.mem_iff_getElem.mp hy
      exact (h1.2.2 i y (by rw [List.getElem?_eq_getElem hi, e])).2
    have m2 : ∀ y, y ∈ r → 0 ≤ y ∧ y ≤ 127 := fun y hy => by
      obtain ⟨i, hi, e⟩ := List.mem_iff_getElem.mp hy
      exact (h2.2.2 i y (by rw [List.getElem?_eq_getElem hi, e])).2
    have := key l r h1.2.1 h2.2.1 m1 m2
    exact yr_eq (by omega) (by omega)
theorem r301t {k kd : Nat} {has : Bool} {old v : yVal} (hk : k < 8) (hkd : 6 ≤ kd ∧ kd ≤ 11) (g45 : gA S 45 k = (kd : Int)) (g63 : gA S 63 k = if has = true then 1 else 0) (h1 : rV S 0 v) (h2 : rVv S (8 + k) old) (hs : kd ≠ 7 → ysame v old) (h6 : kd = 6 ∨ kd = 7 → ∃ a, old = .inl a) : ∃ S' : yS, Y q (d + 1) 301 14 [vr 129, vi k, vu, vu, vu, vu] [] S js = yretv q S' js ∧ rWs (8 + k) (sA S 63 k 1) S' ∧ rVv S' (8 + k) (ytal kd (!has) old v) := by
  have ek : yr (k : Int) = k := yr_eq (by omega) (by omega)
  have kb : 0 ≤ (k : Int) ∧ (k : Int) < 8 := by omega
  have e8 : (8 : Int) + k = ((8 + k : Nat) : Int) := by omega
  have e8r : yr ((8 + k : Nat) : Int) = ((8 + k : Nat) : Int) := yr_eq (by omega) (by omega)
  have k16 : 0 ≤ ((8 + k : Nat) : Int) ∧ ((8 + k : Nat) : Int) < 16 := by omega
  have k128 : 0 ≤ yr 0 ∧ yr 0 < 128 := by decide
  have e00 : (yr 0).toNat = 0 := rfl
  have n1 : ¬ yr 1 = 0 := by decide
  have ez : yi2z 1 = 1 := by decide
  have em : (60 : Int) * ((8 + k : Nat) : Int) = ((60 * (8 + k) : Nat) : Int) := by omega
  obtain ⟨T1, hT1⟩ : ∃ T1, T1 = sA S 63 k 1 := ⟨_, rfl⟩
  have v1 : rV T1 0 v := by rw [hT1]; exact rV_63A h1
  have o1 : rVv T1 (8 + k) old := by rw [hT1]; exact rVv_63A h2
  obtain ⟨S2, p1, p2, p3⟩ := r300 (q := q) (d := d) (js := js) (k := 8 + k) (by omega) v1
  have hr := yvcm_rr v1 o1
  rw [← hT1]
  have hb : 6 ≤ kd ∧ kd ≤ 11 := hkd
  -- compared, where it is compared
  have cmp : kd ≠ 7 → ∀ (X : Option xRes), True → (∃ a b, v = .inl a ∧ old = .inl b ∧ gA S 57 0 = -1 ∧ gB S 16 0 = a ∧ gB S 17 (8 + k) = b ∧ Y q d 319 0 [vj a, vu, vj b, vu] [] T1 js = yret q (vi (yvcm v old)) T1 js) ∨ ∃ l r, v = .inr l ∧ old = .inr r ∧ ¬ yr (gA S 57 0) = yr (-1) ∧ Y q d 270 0 [vr 170, vi 0, vi (gA S 57 0), vr 173, vi ((60 * (8 + k) : Nat) : Int), vi (gA S 59 (8 + k)), vu] [] T1 js = yret q (vi (yvcm v old)) T1 js := by
    intro h7 _ _
    rcases hs h7 with ⟨x, y, rfl, rfl⟩ | ⟨l, r, rfl, rfl⟩
    · exact Or.inl ⟨x, y, rfl, rfl, h1.1, h1.2, h2.2, r319 x y⟩
    · refine Or.inr ⟨l, r, rfl, rfl, ?_, ?_⟩
      · have z1 := h1.1
        have z2 := h1.2.1
        rw [z1, yr_eq (by omega) (by omega)]
        show ¬ (l.length : Int) = -1
        omega
      · rw [h1.1, h2.1, w270b_0]
        exact r270g (m := 8 + k) (by omega) v1 o1 l r 0 (fun j => by rw [Nat.zero_add]) (fun j => by rw [Nat.zero_add]) (Nat.zero_add _) (Nat.zero_add _)
  have hkk : kd = 6 ∨ kd = 7 ∨ kd = 8 ∨ kd = 9 ∨ kd = 10 ∨ kd = 11 := by omega
  rw [w301_14, ek, if_pos kb, if_pos kb, Int.toNat_natCast, g63, g45, e8, e8r, em, ez, ← hT1]
  rw [if_pos kb, if_pos kb]
  cases has with
  | false =>
    rw [if_pos (show yr (if false = true then 1 else 0) = 0 from rfl)]
    rcases hkk with rfl | rfl | rfl | rfl | rfl | rfl
    · obtain ⟨x, rfl⟩ := h6 (Or.inl rfl)
      match v, h1, hs (by decide) with
      | .inr l, _, hs => rcases hs with ⟨_, _, z, _⟩ | ⟨_, _, _, z⟩ <;> cases z
      | .inl y, h1, _ =>
        rw [if_pos (show yr ((6 : Nat) : Int) = yr 6 from rfl), if_pos k16, if_pos k128, if_pos k16, Int.toNat_natCast, e00, h2.2, h1.2]
        refine ⟨_, rfl, ⟨yFr_B rfl, fun m hm => ⟨rfl, by rw [gB_self, if_neg hm]⟩, fun j _ => rfl⟩, ?_⟩
        show rVv _ (8 + k) (.inl (x + y))
        exact ⟨o1.1, by rw [gB_self, if_pos rfl]⟩
    · obtain ⟨x, rfl⟩ := h6 (Or.inr rfl)
      rw [if_neg (show ¬ yr ((7 : Nat) : Int) = yr 6 by decide), if_pos (show yr ((7 : Nat) : Int) = yr 7 from rfl), if_pos k16, if_pos k16, Int.toNat_natCast, h2.2]
      refine ⟨_, rfl, ⟨yFr_B rfl, fun m hm => ⟨rfl, by rw [gB_self, if_neg hm]⟩, fun j _ => rfl⟩, ?_⟩
      show rVv _ (8 + k) (.inl (x + 1))
      exact ⟨o1.1, by rw [gB_self, if_pos rfl]⟩
    · rw [if_neg (show ¬ yr ((8 : Nat) : Int) = yr 6 by decide), if_neg (show ¬ yr ((8 : Nat) : Int) = yr 7 by decide), if_neg (show ¬ yr ((8 : Nat) : Int) = yr 11 by decide), if_neg n1, p1, YB_retv, w301_108]
      show ∃ S' : yS, _ ∧ _ ∧ rVv S' (8 + k) (if (!false) = true ∨ yvcm v old < 0 then v else old)
      rw [if_pos (show (!false) = true ∨ yvcm v old < 0 from Or.inl rfl)]
      exact ⟨S2, rfl, p2, p3⟩
    · rw [if_neg (show ¬ yr ((9 : Nat) : Int) = yr 6 by decide), if_neg (show ¬ yr ((9 : Nat) : Int) = yr 7 by decide), if_neg (show ¬ yr ((9 : Nat) : Int) = yr 11 by decide), if_neg n1, p1, YB_retv, w301_108]
      show ∃ S' : yS, _ ∧ _ ∧ rVv S' (8 + k) (if (!false) = true ∨ 0 < yvcm v old then v else old)
      rw [if_pos (show (!false) = true ∨ 0 < yvcm v old from Or.inl rfl)]
      exact ⟨S2, rfl, p2, p3⟩
    · rw [if_neg (show ¬ yr ((10 : Nat) : Int) = yr 6 by decide), if_neg (show ¬ yr ((10 : Nat) : Int) = yr 7 by decide), if_neg (show ¬ yr ((10 : Nat) : Int) = yr 11 by decide), if_neg n1, p1, YB_retv, w301_108]
      exact ⟨S2, rfl, p2, p3⟩
    · rw [if_neg (show ¬ yr ((11 : Nat) : Int) = yr 6 by decide), if_neg (show ¬ yr ((11 : Nat) : Int) = yr 7 by decide), if_pos (show yr ((11 : Nat) : Int) = yr 11 from rfl), p1, YB_retv, w301_108]
      exact ⟨S2, rfl, p2, p3⟩
  | true =>
    rw [if_neg (show ¬ yr (if true = true then 1 else 0) = 0 by decide)]
    rcases hkk with rfl | rfl | rfl | rfl | rfl | rfl
    · obtain ⟨x, rfl⟩ := h6 (Or.inl rfl)
      match v, h1, hs (by decide) with
      | .inr l, _, hs => rcases hs with ⟨_, _, z, _⟩ | ⟨_, _, _, z⟩ <;> cases z
      | .inl y, h1, _ =>
        rw [if_pos (show yr ((6 : Nat) : Int) = yr 6 from rfl), if_pos k16, if_pos k128, if_pos k16, Int.toNat_natCast, e00, h2.2, h1.2]
        refine ⟨_, rfl, ⟨yFr_B rfl, fun m hm => ⟨rfl, by rw [gB_self, if_neg hm]⟩, fun j _ => rfl⟩, ?_⟩
        show rVv _ (8 + k) (.inl (x + y))
        exact ⟨o1.1, by rw [gB_self, if_pos rfl]⟩
    · obtain ⟨x, rfl⟩ := h6 (Or.inr rfl)
      rw [if_neg (show ¬ yr ((7 : Nat) : Int) = yr 6 by decide), if_pos (show yr ((7 : Nat) : Int) = yr 7 from rfl), if_pos k16, if_pos k16, Int.toNat_natCast, h2.2]
      refine ⟨_, rfl, ⟨yFr_B rfl, fun m hm => ⟨rfl, by rw [gB_self, if_neg hm]⟩, fun j _ => rfl⟩, ?_⟩
      show rVv _ (8 + k) (.inl (x + 1))
      exact ⟨o1.1, by rw [gB_self, if_pos rfl]⟩
    · rw [if_neg (show ¬ yr ((8 : Nat) : Int) = yr 6 by decide), if_neg (show ¬ yr ((8 : Nat) : Int) = yr 7 by decide), if_neg (show ¬ yr ((8 : Nat) : Int) = yr 11 by decide), if_pos yr_0, if_neg (show ¬ yr ((8 : Nat) : Int) = yr 10 by decide), if_pos k128, e00]
      show ∃ S' : yS, _ ∧ _ ∧ rVv S' (8 + k) (if (!true) = true ∨ yvcm v old < 0 then v else old)
      rcases cmp (by decide) none trivial with ⟨x, y, hv, ho, z57, z16, z17, zc⟩ | ⟨l, r, hv, ho, z57, zc⟩
      · rw [if_pos (show yr (gA S 57 0) = yr (-1) by rw [z57]), if_pos k128, if_pos k16, Int.toNat_natCast, z16, z17, zc, YB_ret, w301_142, if_pos (show yr ((8 : Nat) : Int) = yr 8 from rfl), hr]
        by_cases z : yvcm v old < 0
        · rw [if_pos z, p1, YB_retv, w301_199, if_pos (Or.inr z)]
          exact ⟨S2, rfl, p2, p3⟩
        · rw [if_neg z, if_neg (fun w => w.elim (fun w => Bool.noConfusion w) z)]
          exact ⟨T1, rfl, rWs_rf _ _, o1⟩
      · rw [if_neg z57, if_pos k128, if_pos k16, Int.toNat_natCast, zc, YB_ret, w301_173, if_pos (show yr ((8 : Nat) : Int) = yr 8 from rfl), hr]
        by_cases z : yvcm v old < 0
        · rw [if_pos z, p1, YB_retv, w301_199, if_pos (Or.inr z)]
          exact ⟨S2, rfl, p2, p3⟩
        · rw [if_neg z, if_neg (fun w => w.elim (fun w => Bool.noConfusion w) z)]
          exact ⟨T1, rfl, rWs_rf _ _, o1⟩
    · rw [if_neg (show ¬ yr ((9 : Nat) : Int) = yr 6 by decide), if_neg (show ¬ yr ((9 : Nat) : Int) = yr 7 by decide), if_neg (show ¬ yr ((9 : Nat) : Int) = yr 11 by decide), if_pos yr_0, if_neg (show ¬ yr ((9 : Nat) : Int) = yr 10 by decide), if_pos k128, e00]
      show ∃ S' : yS, _ ∧ _ ∧ rVv S' (8 + k) (if (!true) = true ∨ 0 < yvcm v old then v else old)
      rcases cmp (by decide) none trivial with ⟨x, y, hv, ho, z57, z16, z17, zc⟩ | ⟨l, r, hv, ho, z57, zc⟩
      · rw [if_pos (show yr (gA S 57 0) = yr (-1) by rw [z57]), if_pos k128, if_pos k16, Int.toNat_natCast, z16, z17, zc, YB_ret, w301_142, if_neg (show ¬ yr ((9 : Nat) : Int) = yr 8 by decide), hr]
        by_cases z : 0 < yvcm v old
        · rw [if_pos z, p1, YB_retv, w301_199, if_pos (Or.inr z)]
          exact ⟨S2, rfl, p2, p3⟩
        · rw [if_neg z, if_neg (fun w => w.elim (fun w => Bool.noConfusion w) z)]
          exact ⟨T1, rfl, rWs_rf _ _, o1⟩
      · rw [if_neg z57, if_pos k128, if_pos k16, Int.toNat_natCast, zc, YB_ret, w301_173, if_neg (show ¬ yr ((9 : Nat) : Int) = yr 8 by decide), hr]
        by_cases z : 0 < yvcm v old
        · rw [if_pos z, p1, YB_retv, w301_199, if_pos (Or.inr z)]
          exact ⟨S2, rfl, p2, p3⟩
        · rw [if_neg z, if_neg (fun w => w.elim (fun w => Bool.noConfusion w) z)]
          exact ⟨T1, rfl, rWs_rf _ _, o1⟩
    · rw [if_neg (show ¬ yr ((10 : Nat) : Int) = yr 6 by decide), if_neg (show ¬ yr ((10 : Nat) : Int) = yr 7 by decide), if_neg (show ¬ yr ((10 : Nat) : Int) = yr 11 by decide), if_pos yr_0, if_pos (show yr ((10 : Nat) : Int) = yr 10 from rfl)]
      exact ⟨T1, rfl, rWs_rf _ _, o1⟩
    · rw [if_neg (show ¬ yr ((11 : Nat) : Int) = yr 6 by decide), if_neg (show ¬ yr ((11 : Nat) : Int) = yr 7 by decide), if_pos (show yr ((11 : Nat) : Int) = yr 11 from rfl), p1, YB_retv, w301_108]
      exact ⟨S2, rfl, p2, p3⟩
end YUHL
end YUH
