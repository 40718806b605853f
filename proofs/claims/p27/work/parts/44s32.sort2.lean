/-! taken from whole by wip/p27/slice.py: 9zzza.sort2.lean.txt -/
section YTB
def yin (lt : Nat → Nat → Bool) (r : Nat) : Nat → (Nat → Int) → Nat → Int
  | 0, f => yup f 0 r
  | p + 1, f => if lt r (f p).toNat = true then yin lt r p (yup f (p + 1) (f p)) else yup f (p + 1) r
def ysrf (lt : Nat → Nat → Bool) : Nat → Nat → (Nat → Int) → Nat → Int
  | 0, _, f => f
  | m + 1, r, f => ysrf lt m (r + 1) (yin lt r r f)
theorem yin_rng {lt : Nat → Nat → Bool} {r : Nat} : ∀ (p : Nat) (f : Nat → Int), p ≤ r → (∀ i, i ≤ r → i ≠ p → 0 ≤ f i ∧ f i < r) → ∀ i, i ≤ r → 0 ≤ yin lt r p f i ∧ yin lt r p f i < r + 1
  | 0, f, hp, h, i, hi => by
    show 0 ≤ yup f 0 r i ∧ yup f 0 r i < r + 1
    rw [yup_eq]
    by_cases z : i = 0
    · rw [if_pos z]
      omega
    · rw [if_neg z]
      have := h i hi z
      omega
  | p + 1, f, hp, h, i, hi => by
    unfold yin
    split
    · refine yin_rng p _ (by omega) (fun j hj hjp => ?_) i hi
      rw [yup_eq]
      by_cases z : j = p + 1
      · rw [if_pos z]
        exact h p (by omega) (by omega)
      · rw [if_neg z]
        exact h j hj z
    · rw [yup_eq]
      by_cases z : i = p + 1
      · rw [if_pos z]
        omega
      · rw [if_neg z]
        have := h i hi z
        omega
theorem yin_cg {lt : Nat → Nat → Bool} {r : Nat} : ∀ (p : Nat) (f g : Nat → Int), p ≤ r → (∀ i, i ≤ r → i ≠ p → f i = g i) → ∀ i, i ≤ r → yin lt r p f i = yin lt r p g i
  | 0, f, g, hp, h, i, hi => by
    show yup f 0 r i = yup g 0 r i
    rw [yup_eq, yup_eq]
    by_cases z : i = 0
    · rw [if_pos z, if_pos z]
    · rw [if_neg z, if_neg z]
      exact h i hi z
  | p + 1, f, g, hp, h, i, hi => by
    unfold yin
    rw [h p (by omega) (by omega)]
    split
    · refine yin_cg p _ _ (by omega) (fun j hj hjp => ?_) i hi
      rw [yup_eq, yup_eq]
      by_cases z : j = p + 1
      · rw [if_pos z, if_pos z]
      · rw [if_neg z, if_neg z]
        exact h j hj z
    · rw [yup_eq, yup_eq]
      by_cases z : i = p + 1
      · rw [if_pos z, if_pos z]
      · rw [if_neg z, if_neg z]
        exact h i hi z
theorem ysrf_cg {lt : Nat → Nat → Bool} : ∀ (m r : Nat) (f g : Nat → Int), (∀ i, i < r → f i = g i) → ∀ i, i < r + m → ysrf lt m r f i = ysrf lt m r g i
  | 0, r, f, g, h, i, hi => h i hi
  | m + 1, r, f, g, h, i, hi => ysrf_cg m (r + 1) _ _ (fun j hj => yin_cg r f g (Nat.le_refl _) (fun k hk hkr => h k (by omega)) j (by omega)) i (by omega)
theorem ysrf_rng {lt : Nat → Nat → Bool} : ∀ (m r : Nat) (f : Nat → Int), (∀ i, i < r → 0 ≤ f i ∧ f i < r) → ∀ i, i < r + m → 0 ≤ ysrf lt m r f i ∧ ysrf lt m r f i < ((r + m : Nat) : Int)
  | 0, r, f, h, i, hi => h i hi
  | m + 1, r, f, h, i, hi => by
    have := ysrf_rng (lt := lt) m (r + 1) (yin lt r r f) (fun j hj => by
      have := yin_rng (lt := lt) r f (Nat.le_refl _) (fun k hk hkr => h k (by omega)) j (by omega)
      omega) i (by omega)
    show 0 ≤ ysrf lt m (r + 1) (yin lt r r f) i ∧ ysrf lt m (r + 1) (yin lt r r f) i < _
    omega
def ylt (S : yS) (O : List (Nat × Nat)) (r s : Nat) : Bool := decide (ycro (ycc S r s) O < 0)
section YTBL
variable {q : yQ} {d : Nat} {js : List xO}
theorem c115i {O : List (Nat × Nat)} (h4 : O.length ≤ 4) (hd : ∀ x, x ∈ O → x.2 ≤ 1) {n r : Nat} (hr : r < 40) : ∀ (p : Nat) (S : yS), vO S O → (∀ x, x ∈ O → (x.1 : Int) < gI S 10) → gI S 10 ≤ 8 → p ≤ r → (∀ i, i ≤ r → i ≠ p → 0 ≤ gA S 34 i ∧ gA S 34 i < r) → ∃ z : yV, Y q (d + 3) 115 26 [vr 131, vi n, vi r, vi p] [] S js = Y q (d + 3) 115 10 [vr 131, vi n, vi ((r : Int) + 1), z] [] (sAr S 34 (yin (ylt S O) r p (gA S 34))) js
  | 0, S, hO, hc, h1, hp, hi => by
    have e0 : (yr 0).toNat = 0 := rfl
    refine ⟨vi 0, ?_⟩
    have st : Y q (d + 3) 115 26 [vr 131, vi n, vi r, vi ((0 : Nat) : Int)] [] S js = Y q (d + 3) 115 10 [vr 131, vi n, vi ((r : Int) + 1), vi 0] [] (sA S 34 0 r) js := by
      show Y q (d + 3) 115 26 [vr 131, vi n, vi r, vi 0] [] S js = _
      rw [w115_26, if_neg (by decide), if_pos (by decide), e0]
    rw [st]
    rfl
  | p + 1, S, hO, hc, h1, hp, hi => by
    have ep : yr ((p + 1 : Nat) : Int) = ((p + 1 : Nat) : Int) := yr_eq (by omega) (by omega)
    have e1 : ((p + 1 : Nat) : Int) - 1 = p := by omega
    have e1' : ((p + 1 : Nat) : Int) + (-1) = p := by omega
    have epp : yr (p : Int) = p := yr_eq (by omega) (by omega)
    have k1 : 0 ≤ (p : Int) ∧ (p : Int) < 40 := by omega
    have k2 : 0 ≤ ((p + 1 : Nat) : Int) ∧ ((p + 1 : Nat) : Int) < 40 := by omega
    obtain ⟨g1, g2⟩ := hi p (by omega) (by omega)
    obtain ⟨s, hs⟩ : ∃ s : Nat, gA S 34 p = s := ⟨(gA S 34 p).toNat, by omega⟩
    have hcb := c116 (q := q) (d := d) (js := js) hO h4 hc hd h1 (x := r) (y := s) hr (by omega) O 0 vu rfl (Nat.zero_le _)
    have hcb : Y q (d + 2) 116 2 [vr 131, vi r, vi s, vi 0, vu] [] S js = _ := hcb
    have st : Y q (d + 3) 115 26 [vr 131, vi n, vi r, vi ((p + 1 : Nat) : Int)] [] S js = if ycro (ycc S r s) O < 0 then Y q (d + 3) 115 26 [vr 131, vi n, vi r, vi p] [] (sA S 34 (p + 1) (gA S 34 p)) js else Y q (d + 3) 115 10 [vr 131, vi n, vi ((r : Int) + 1), vi ((p + 1 : Nat) : Int)] [] (sA S 34 (p + 1) r) js := by
      rw [w115_26, ep, e1, epp, if_pos (by omega), if_pos k1, Int.toNat_natCast, hs, w116_0, hcb, YB_ret, w115_43, ep, e1, e1', epp, Int.toNat_natCast, Int.toNat_natCast]
      by_cases z : ycro (ycc S r s) O < 0
      · rw [if_pos z, yb, if_pos z, if_neg (by decide), if_pos k1, if_pos k2, hs]
      · rw [if_neg z, yb, if_neg z, if_pos yr_0, if_pos k2]
    have ey : yin (ylt S O) r (p + 1) (gA S 34) = if ycro (ycc S r s) O < 0 then yin (ylt S O) r p (yup (gA S 34) (p + 1) (gA S 34 p)) else yup (gA S 34) (p + 1) r := by
      show (if ylt S O r (gA S 34 p).toNat = true then _ else _) = _
      rw [hs, Int.toNat_natCast]
      by_cases z : ycro (ycc S r s) O < 0
      · rw [if_pos z, if_pos (show ylt S O r s = true from decide_eq_true z)]
      · rw [if_neg z, if_neg (show ¬ ylt S O r s = true from fun y => z (of_decide_eq_true y))]
    rw [st, ey]
    by_cases z : ycro (ycc S r s) O < 0
    · rw [if_pos z, if_pos z]
      obtain ⟨w, ih⟩ := c115i h4 hd (n := n) hr p (sA S 34 (p + 1) (gA S 34 p)) hO hc h1 (by omega) (fun i h2 h3 => by
        rw [gA_self]
        by_cases y : i = p + 1
        · rw [if_pos y]
          exact ⟨g1, g2⟩
        · rw [if_neg y]
          exact hi i h2 y)
      refine ⟨w, ?_⟩
      rw [ih, sAr_sA]
      rfl
    · rw [if_neg z, if_neg z]
      exact ⟨_, rfl⟩
theorem gAr_self (S : yS) (k : Nat) (f : Nat → Int) : gA (sAr S k f) k = f := by
  show yup S.2.2.2.1 k f k = f
  exact yup_self _ _ _
theorem sAr_Ar (S : yS) (k : Nat) (f g : Nat → Int) : sAr (sAr S k f) k g = sAr S k g := by
  show (S.1, S.2.1, S.2.2.1, yup (yup S.2.2.2.1 k _) k g, S.2.2.2.2) = _
  rw [yup_up]
  rfl
theorem c115 {O : List (Nat × Nat)} (h4 : O.length ≤ 4) (hd : ∀ x, x ∈ O → x.2 ≤ 1) {n : Nat} (hn : n ≤ 40) : ∀ (m r : Nat) (S : yS) (z : yV), r + m = n → vO S O → (∀ x, x ∈ O → (x.1 : Int) < gI S 10) → gI S 10 ≤ 8 → (∀ i, i < r → 0 ≤ gA S 34 i ∧ gA S 34 i < r) → Y q (d + 3) 115 10 [vr 131, vi n, vi r, z] [] S js = yretv q (sAr S 34 (ysrf (ylt S O) m r (gA S 34))) js
  | 0, r, S, z, hm, hO, hc, h1, hi => by
    rw [w115_10, if_neg (by rw [yr_eq, yr_eq] <;> omega)]
    show _ = yretv q (sAr S 34 (gA S 34)) js
    rw [sAr_sf]
  | m + 1, r, S, z, hm, hO, hc, h1, hi => by
    obtain ⟨w, h⟩ := c115i (q := q) (d := d) (js := js) h4 hd (n := n) (r := r) (by omega) r S hO hc h1 (Nat.le_refl _) (fun i h2 h3 => hi i (by omega))
    have e1 : (r : Int) + 1 = ((r + 1 : Nat) : Int) := by omega
    have ih := c115 h4 hd hn m (r + 1) (sAr S 34 (yin (ylt S O) r r (gA S 34))) w (by omega) hO hc h1 (fun i hlt => by
      have e : gA (sAr S 34 (yin (ylt S O) r r (gA S 34))) 34 = yin (ylt S O) r r (gA S 34) := gAr_self _ _ _
      rw [e]
      have := yin_rng (lt := ylt S O) r (gA S 34) (Nat.le_refl _) (fun k hk hkr => hi k (by omega)) i (by omega)
      omega)
    have e : gA (sAr S 34 (yin (ylt S O) r r (gA S 34))) 34 = yin (ylt S O) r r (gA S 34) := gAr_self _ _ _
    rw [w115_10, if_pos (by rw [yr_eq, yr_eq] <;> omega), if_pos (by rw [yr_eq, yr_eq] <;> omega), h, e1, ih, sAr_Ar, e]
    rfl
end YTBL
end YTB
