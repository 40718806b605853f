/-! RUN: the reference keeps values -/
section YTJ
def yWvv (s k : Nat) : Bool := (s == 3 && (k == 59 || k == 60)) || (s == 4 && k == 17)
/-- only one value has changed -/
def rWs (n : Nat) (S S' : yS) : Prop := yFr yWvv S S' ∧ (∀ m, m ≠ n → gA S' 59 m = gA S 59 m ∧ gB S' 17 m = gB S 17 m) ∧ ∀ j, ¬ (60 * n ≤ j ∧ j < 60 * n + 60) → gA S' 60 j = gA S 60 j
theorem rWs_rf (n : Nat) (S : yS) : rWs n S S := ⟨yFr_rf _ _, fun _ _ => ⟨rfl, rfl⟩, fun _ _ => rfl⟩
theorem rVv_fs {n m : Nat} {S S' : yS} {v : yVal} (h : rWs n S S') (hm : m ≠ n) (hv : rVv S m v) : rVv S' m v := by
  obtain ⟨h1, h2, h3⟩ := h
  obtain ⟨a, b⟩ := h2 m hm
  match v, hv with
  | .inl x, hv => exact ⟨a.trans hv.1, b.trans hv.2⟩
  | .inr l, hv =>
    refine ⟨a.trans hv.1, hv.2.1, fun i y hi => ?_⟩
    have hl := (List.getElem?_eq_some_iff.mp hi).1
    have h60 := hv.2.1
    rw [h3 _ (by omega)]
    exact hv.2.2 i y hi
def ycpy (a i e : Nat) (f g : Nat → Int) : Nat → Int := fun j => if a + i ≤ j ∧ j < a + e then g (j - a) else f j
theorem ycpy_0 {a e : Nat} {f g : Nat → Int} : ycpy a e e f g = f := by
  funext j
  unfold ycpy
  rw [if_neg (by omega)]
theorem ycpy_s {a i e : Nat} {f g : Nat → Int} (h : i < e) : ycpy a (i + 1) e (yup f (a + i) (g i)) g = ycpy a i e f g := by
  funext j
  unfold ycpy
  rw [yup_eq]
  by_cases z : j = a + i
  · rw [if_neg (by omega), if_pos z, if_pos (by omega)]
    congr 1
    omega
  · by_cases y : a + (i + 1) ≤ j ∧ j < a + e
    · rw [if_pos y, if_pos (by omega)]
    · rw [if_neg y, if_neg z, if_neg (by omega)]
section YTJL
variable {q : yQ} {d : Nat} {js : List xO}
theorem r278 {k : Nat} {t : Int} {S : yS} (hk : k < 16) (ht : t = 0 ∨ t = 1) : ∃ S' : yS, Y q d 278 0 [vr 129, vi k, vi t] [] S js = yretv q S' js ∧ rWs k S S' ∧ rVv S' k (if t = 0 then .inl 0 else .inr []) := by
  have ek : yr (k : Int) = k := yr_eq (by omega) (by omega)
  have kk : 0 ≤ (k : Int) ∧ (k : Int) < 16 := by omega
  have y1 : yr 1 = 1 := rfl
  have fr : ∀ x : Int, rWs k S (sA (sB S 17 k 0) 59 k x) := fun x => ⟨yFr_tr (yFr_B rfl) (yFr_A rfl), fun m hm => ⟨by rw [gA_self, if_neg hm]; rfl, by
    show gB (sB S 17 k 0) 17 m = _
    rw [gB_self, if_neg hm]⟩, fun j _ => rfl⟩
  rw [w278_0, ek, if_pos kk, y1, Int.toNat_natCast]
  rcases ht with rfl | rfl
  · rw [if_neg (by decide), if_pos kk]
    refine ⟨_, rfl, fr _, ?_⟩
    rw [if_pos rfl]
    refine ⟨by rw [gA_self, if_pos rfl], ?_⟩
    show gB (sB S 17 k 0) 17 k = 0
    rw [gB_self, if_pos rfl]
  · rw [if_pos (by decide), if_pos kk]
    refine ⟨_, rfl, fr _, ?_⟩
    rw [if_neg (by decide)]
    exact ⟨by rw [gA_self, if_pos rfl]; rfl, by show 0 ≤ 60; omega, fun i y h => nomatch h⟩
theorem r300l {k n : Nat} (hk : k < 16) (hn : n ≤ 60) : ∀ (m i : Nat) (S : yS), i + m = n → gA S 57 0 = n → Y q d 300 26 [vr 129, vi k, vi i] [] S js = yretv q (sAr S 60 (ycpy (60 * k) i n (gA S 60) (gA S 58))) js
  | 0, i, S, h, g57 => by
    have e0 : (yr 0).toNat = 0 := rfl
    have hi : i = n := by omega
    rw [w300_26, if_pos (by decide), e0, g57, if_neg (by rw [yr_eq, yr_eq] <;> omega), hi, ycpy_0, sAr_sf]
  | m + 1, i, S, h, g57 => by
    have e0 : (yr 0).toNat = 0 := rfl
    have ei : yr (i : Int) = i := yr_eq (by omega) (by omega)
    have en : yr (n : Int) = n := yr_eq (by omega) (by omega)
    have ep : yr ((60 : Int) * k + i) = ((60 * k + i : Nat) : Int) := by rw [yr_eq] <;> omega
    have e1 : (i : Int) + 1 = ((i + 1 : Nat) : Int) := by omega
    have ih := r300l hk hn m (i + 1) (sA S 60 (60 * k + i) (gA S 58 i)) (by omega) g57
    rw [w300_26, if_pos (by decide), e0, g57, ei, en, if_pos (by omega), if_pos (by omega), ep, if_pos (by omega), Int.toNat_natCast, Int.toNat_natCast, e1, ih, sAr_sA, gA_yup]
    have e58 : gA (sA S 60 (60 * k + i) (gA S 58 i)) 58 = gA S 58 := gA_ne _ _ _ _ (by omega)
    rw [e58, ycpy_s (by omega)]
theorem r300 {k : Nat} {v : yVal} {S : yS} (hk : k < 16) (hv : rV S 0 v) : ∃ S' : yS, Y q d 300 0 [vr 129, vi k, vu] [] S js = yretv q S' js ∧ rWs k S S' ∧ rVv S' k v := by
  have e0 : (yr 0).toNat = 0 := rfl
  have k0 : 0 ≤ yr 0 ∧ yr 0 < 128 := by decide
  have ek : yr (k : Int) = k := yr_eq (by omega) (by omega)
  have kk : 0 ≤ (k : Int) ∧ (k : Int) < 16 := by omega
  obtain ⟨S1, hS1⟩ : ∃ S1, S1 = sA (sB S 17 k (gB S 16 0)) 59 k (gA S 57 0) := ⟨_, rfl⟩
  have f1 : rWs k S S1 := by
    rw [hS1]
    exact ⟨yFr_tr (yFr_B rfl) (yFr_A rfl), fun m hm => ⟨by rw [gA_self, if_neg hm]; rfl, by
      show gB (sB S 17 k (gB S 16 0)) 17 m = _
      rw [gB_self, if_neg hm]⟩, fun j _ => rfl⟩
  have g59 : gA S1 59 k = gA S 57 0 := by rw [hS1, gA_self, if_pos rfl]
  have g17 : gB S1 17 k = gB S 16 0 := by
    rw [hS1]
    show gB (sB S 17 k (gB S 16 0)) 17 k = _
    rw [gB_self, if_pos rfl]
  have g57 : gA S1 57 0 = gA S 57 0 := by rw [hS1]; rfl
  have g58 : gA S1 58 = gA S 58 := by rw [hS1]; rfl
  rw [w300_0, if_pos k0, ek, if_pos kk, if_pos k0, if_pos kk, e0, Int.toNat_natCast, ← hS1]
  match v, hv with
  | .inl x, hv =>
    refine ⟨S1, ?_, f1, g59.trans hv.1, g17.trans hv.2⟩
    rw [w300_26, if_pos k0, e0, g57, hv.1, if_neg (by decide)]
  | .inr l, hv =>
    obtain ⟨v1, v2, v3⟩ := hv
    have lp := r300l (q := q) (d := d) (js := js) hk v2 l.length 0 S1 (Nat.zero_add _) (g57.trans v1)
    refine ⟨_, lp, ⟨yFr_tr f1.1 (yFr_Ar rfl), fun m hm => f1.2.1 m hm, fun j hj => ?_⟩, g59.trans v1, v2, fun i y hi => ?_⟩
    · rw [gAr_self]
      unfold ycpy
      rw [if_neg (by omega)]
      exact f1.2.2 j hj
    · have hl := (List.getElem?_eq_some_iff.mp hi).1
      have h := v3 i y hi
      rw [Nat.mul_zero, Nat.zero_add] at h
      rw [gAr_self]
      unfold ycpy
      rw [if_pos (by omega), g58, show 60 * k + i - 60 * k = i by omega]
      exact h
end YTJL
end YTJ
