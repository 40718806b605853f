/-! THE LAW READS THE PAGES -/
section YRD
theorem ylc_eq {a b : Int} (ha : -1000000 ≤ a ∧ a ≤ 1000000) (hb : -1000000 ≤ b ∧ b ≤ 1000000) : yr (ylcmp (yi2l a) (yi2l b)) = 0 ↔ a = b := by
  rw [yr_lcmp, ylcmp_eq]
  exact ⟨yi2l_inj ha hb, fun e => by rw [e]⟩
theorem ylc_lt {a b : Int} (ha : -1000000 ≤ a ∧ a ≤ 1000000) (hb : -1000000 ≤ b ∧ b ≤ 1000000) : yr (ylcmp (yi2l a) (yi2l b)) < 0 ↔ a < b := by
  rw [yr_lcmp, ylcmp_lt, Int64.lt_iff_toInt_lt, yi2l_toInt, yi2l_toInt, yr_eq (x := a) (by omega) (by omega), yr_eq (x := b) (by omega) (by omega)]
theorem ylc_gt {a b : Int} (ha : -1000000 ≤ a ∧ a ≤ 1000000) (hb : -1000000 ≤ b ∧ b ≤ 1000000) : 0 < yr (ylcmp (yi2l a) (yi2l b)) ↔ b < a := by
  rw [yr_lcmp, ylcmp_gt, Int64.lt_iff_toInt_lt, yi2l_toInt, yi2l_toInt, yr_eq (x := a) (by omega) (by omega), yr_eq (x := b) (by omega) (by omega)]
theorem yi2l_0 : (0 : Int64) = yi2l 0 := by decide
/-- the bytes of a line of a page -/
def wBy (S : yS) (h p l k : Nat) : Int := gA S 33 (((p - 1) * h + (l - 1)) * 24 + (k - 1))
section YRDL
variable {q : yQ} {d : Nat} {js : List xO} {S : yS} {h n np P k : Nat} {f : Nat → Int64} {o : Nat → Nat} {M : zSt}
theorem cByte (hh : 5 ≤ h ∧ h ≤ 10) (hr : wR h n np f o P k M S) {p l c : Nat} (hp : 1 ≤ p ∧ p ≤ P) (hl : 1 ≤ l ∧ l ≤ h) (hc : 1 ≤ c ∧ c ≤ 24) : Y q (d + 2) 178 0 [vr 81, vi p, vi l, vi c] [] S js = yret q (vi (wBy S h p l c)) S js := by
  obtain ⟨hb, _, _, _, _, hP30, _, _⟩ := hr
  have k := c178 (q := q) (d := d) (js := js) (S := S) (p := p) (l := l) (k := c) (by omega) (by omega) (by omega) (by rw [hb.2.2.1]; omega) (fun _ => by rw [hb.2.2.2.1, hb.2.2.2.2]; omega)
  rw [k, if_pos (by rw [hb.2.2.1, hb.2.2.2.1, hb.2.2.2.2]; omega), hb.2.2.2.1, hb.2.2.2.2]
  unfold wBy
  obtain ⟨p', rfl⟩ : ∃ p', p = p' + 1 := ⟨p - 1, by omega⟩
  have e1 : ((p' + 1 : Nat) : Int) - 1 = (p' : Int) := by omega
  have e2 : (p' : Int) * (h : Int) = ((p' * h : Nat) : Int) := (Int.natCast_mul p' h).symm
  rw [e1, e2, Nat.add_sub_cancel]
  congr 3
  omega
theorem c7l (hh : 5 ≤ h ∧ h ≤ 10) (hr : wR h n np f o P k M S) {p l a e : Nat} (hp : 1 ≤ p ∧ p ≤ P) (hl : 1 ≤ l ∧ l ≤ h) (he : e ≤ 24) : ∀ (m c : Nat) (x : Int64) (s : Int) (x7 : yV), c + m = e + 1 → 1 ≤ c → Y q (d + 3) 7 9 [vr 81, vi p, vi l, vi a, vi e, vj x, vu, vi s, vi c, x7] [] S js = yret q (vj (lNu (wBy S h p l) m c x s)) S js
  | 0, c, x, s, x7, hm, hc => by
    rw [w7bn_9 (d := d + 2), yrn (n := e) (by omega), yrn (n := c) (by omega), if_pos (by omega)]
    unfold lNu
    split <;> rfl
  | m + 1, c, x, s, x7, hm, hc => by
    have e45 : yr 45 = 45 := rfl
    have e32 : yr 32 = 32 := rfl
    have e1 : (c : Int) + 1 = ((c + 1 : Nat) : Int) := by omega
    rw [w7bn_9 (d := d + 2), yrn (n := e) (by omega), yrn (n := c) (by omega), if_neg (by omega), cByte hh hr hp hl (by omega), YB_ret, w7bn_24, e45, e32, e1]
    unfold lNu
    by_cases z : yr (wBy S h p l c) = 45
    · rw [if_pos z, if_pos z]
      exact c7l hh hr hp hl he m (c + 1) x 1 _ (by omega) (by omega)
    · rw [if_neg z, if_neg z]
      by_cases y : yr (wBy S h p l c) = 32
      · rw [if_pos y, if_pos y]
        exact c7l hh hr hp hl he m (c + 1) x s _ (by omega) (by omega)
      · rw [if_neg y, if_neg y]
        exact c7l hh hr hp hl he m (c + 1) _ s _ (by omega) (by omega)
theorem c7 (hh : 5 ≤ h ∧ h ≤ 10) (hr : wR h n np f o P k M S) {p l a e : Nat} (hp : 1 ≤ p ∧ p ≤ P) (hl : 1 ≤ l ∧ l ≤ h) (he : e ≤ 24) (ha : 1 ≤ a ∧ a ≤ e + 1) : Y q (d + 3) 7 0 [vr 81, vi p, vi l, vi a, vi e, vu, vu, vu, vu, vu] [] S js = yret q (vj (lNu (wBy S h p l) (e + 1 - a) a 0 0)) S js := by
  rw [w7bn_0]
  exact c7l hh hr hp hl he (e + 1 - a) a 0 0 vu (by omega) ha.1
/-- a number that stands in a field -/
theorem c7n (hh : 5 ≤ h ∧ h ≤ 10) (hr : wR h n np f o P k M S) {p l a e w : Nat} {x : Int} (hp : 1 ≤ p ∧ p ≤ P) (hl : 1 ≤ l ∧ l ≤ h) (he : e ≤ 24) (ha : 1 ≤ a) (hw : e + 1 = a + w) (hn : nOk w x = true) (hb : ∀ t, t < w → wBy S h p l (a + t) = wF (wI x) w 32 t) : Y q (d + 3) 7 0 [vr 81, vi p, vi l, vi a, vi e, vu, vu, vu, vu, vu] [] S js = yret q (vj (yi2l x)) S js := by
  rw [c7 hh hr hp hl he (by omega), show e + 1 - a = w by omega, lNu_cg (c := fun i => wF (wI x) w 32 i) w a 0 0 0 (fun t ht => by rw [Nat.zero_add]; exact hb t ht), nOk_of hn]
/-- bytes of the top line; of a body's line -/
theorem wBy_top (hr : wR h n np f o P k M S) {p0 t : Nat} (hp : p0 < P) (ht : t < 24) : wBy S h (p0 + 1) 1 (t + 1) = wHb (p0 + 1) np t := by
  obtain ⟨_, _, _, _, hpap, _⟩ := hr
  unfold wBy
  have := hpap.1 p0 hp t ht
  rw [Nat.add_sub_cancel, Nat.sub_self, Nat.add_zero, Nat.add_sub_cancel]
  exact this
theorem wBy_body (hr : wR h n np f o P k M S) {p0 l0 t : Nat} (hp : p0 < P) (hl : l0 < h - 1) (ht : t < 24) : wBy S h (p0 + 1) (l0 + 2) (t + 1) = wBd M.1 (p0 * (h - 1) + l0) t := by
  obtain ⟨_, _, _, _, hpap, _⟩ := hr
  unfold wBy
  have := hpap.2 p0 l0 hp hl t ht
  rw [Nat.add_sub_cancel, Nat.add_sub_cancel, show l0 + 2 - 1 = l0 + 1 by omega, ← Nat.add_assoc]
  exact this
end YRDL
/-! what the law has at hand -/
theorem zw_tail (hb : Nat) (Ls : List zLn) : ∀ k, (zw hb Ls (Ls.length + k)).1 = (zw hb Ls Ls.length).1 ∧ (zw hb Ls (Ls.length + k)).2.1 = (zw hb Ls Ls.length).2.1 ∧ (zw hb Ls (Ls.length + k)).2.2.1 = (zw hb Ls Ls.length).2.2.1 ∧ (zw hb Ls (Ls.length + k)).2.2.2.1 = (zw hb Ls Ls.length).2.2.2.1 ∧ (zw hb Ls (Ls.length + k)).2.2.2.2.1 = (zw hb Ls Ls.length).2.2.2.2.1
  | 0 => ⟨rfl, rfl, rfl, rfl, rfl⟩
  | k + 1 => by
    have ih := zw_tail hb Ls k
    have e : zw hb Ls (Ls.length + (k + 1)) = zStep hb (Ls.length + k) Ls[Ls.length + k]? (zw hb Ls (Ls.length + k)) := rfl
    rw [e, List.getElem?_eq_none (by omega)]
    exact ih
theorem zStep_mono (hb j : Nat) (o : Option zLn) (w : zW) : w.1 ≤ (zStep hb j o w).1 ∧ (zStep hb j o w).1 ≤ w.1 + 1 := by
  match o with
  | none => exact ⟨Nat.le_refl _, Nat.le_succ _⟩
  | some (0, v, g, p) => exact ⟨Nat.le_succ _, Nat.le_refl _⟩
  | some (1, v, g, p) => exact ⟨Nat.le_refl _, Nat.le_succ _⟩
  | some (k + 2, v, g, p) => exact ⟨Nat.le_refl _, Nat.le_succ _⟩
theorem zw_mono (hb : Nat) (Ls : List zLn) (j : Nat) : ∀ k, (zw hb Ls j).1 ≤ (zw hb Ls (j + k)).1
  | 0 => Nat.le_refl _
  | k + 1 => Nat.le_trans (zw_mono hb Ls j k) (zStep_mono hb (j + k) Ls[j + k]? (zw hb Ls (j + k))).1
theorem zw_le (hb : Nat) (Ls : List zLn) (j : Nat) : (zw hb Ls j).1 ≤ (zw hb Ls Ls.length).1 := by
  by_cases z : j ≤ Ls.length
  · have := zw_mono hb Ls j (Ls.length - j)
    rwa [show j + (Ls.length - j) = Ls.length by omega] at this
  · have := (zw_tail hb Ls (j - Ls.length)).1
    rw [show Ls.length + (j - Ls.length) = j by omega] at this
    omega
theorem zw_bd {hb : Nat} {V G : Nat → Int} {A : Int} {K : Nat} {Ls : List zLn} (hg : zGd hb V G A K Ls) (hV : ∀ i, -99 ≤ V i ∧ V i ≤ 99) : ∀ j, (zw hb Ls j).2.2.1 + (zw hb Ls j).2.1 ≤ 99 * ((zw hb Ls j).1 : Int) ∧ (zw hb Ls j).2.2.1 - (zw hb Ls j).2.1 ≤ 99 * ((zw hb Ls j).1 : Int) ∧ -(zw hb Ls j).2.2.1 + (zw hb Ls j).2.1 ≤ 99 * ((zw hb Ls j).1 : Int) ∧ -(zw hb Ls j).2.2.1 - (zw hb Ls j).2.1 ≤ 99 * ((zw hb Ls j).1 : Int)
  | 0 => by
    show (0 : Int) + 0 ≤ 99 * ((0 : Nat) : Int) ∧ (0 : Int) - 0 ≤ 99 * ((0 : Nat) : Int) ∧ -(0 : Int) + 0 ≤ 99 * ((0 : Nat) : Int) ∧ -(0 : Int) - 0 ≤ 99 * ((0 : Nat) : Int)
    omega
  | j + 1 => by
    have ih := zw_bd hg hV j
    have e : zw hb Ls (j + 1) = zStep hb j Ls[j]? (zw hb Ls j) := rfl
    rw [e]
    cases hL : Ls[j]? with
    | none => exact ih
    | some L =>
      have hz := hg j L hL
      match L, hz with
      | (0, v, g, p), hz =>
        rw [zStep_0]
        rcases hz with ⟨-, h1, -⟩ | ⟨h0, -⟩ | ⟨h0, -⟩
        · have h1 : v = V (zw hb Ls j).1 := h1
          have := hV (zw hb Ls j).1
          show (zw hb Ls j).2.2.1 + ((zw hb Ls j).2.1 + v) ≤ 99 * (((zw hb Ls j).1 + 1 : Nat) : Int) ∧ (zw hb Ls j).2.2.1 - ((zw hb Ls j).2.1 + v) ≤ 99 * (((zw hb Ls j).1 + 1 : Nat) : Int) ∧ -(zw hb Ls j).2.2.1 + ((zw hb Ls j).2.1 + v) ≤ 99 * (((zw hb Ls j).1 + 1 : Nat) : Int) ∧ -(zw hb Ls j).2.2.1 - ((zw hb Ls j).2.1 + v) ≤ 99 * (((zw hb Ls j).1 + 1 : Nat) : Int)
          omega
        · cases h0
        · cases h0
      | (1, b, g, p), hz =>
        rw [zStep_1]
        rcases hz with ⟨h0, -⟩ | ⟨-, h1⟩ | ⟨h0, -⟩
        · cases h0
        · have h1 : b = (zw hb Ls j).2.1 := h1
          show ((zw hb Ls j).2.2.1 + b) + 0 ≤ 99 * ((zw hb Ls j).1 : Int) ∧ ((zw hb Ls j).2.2.1 + b) - 0 ≤ 99 * ((zw hb Ls j).1 : Int) ∧ -((zw hb Ls j).2.2.1 + b) + 0 ≤ 99 * ((zw hb Ls j).1 : Int) ∧ -((zw hb Ls j).2.2.1 + b) - 0 ≤ 99 * ((zw hb Ls j).1 : Int)
          omega
        · cases h0
      | (i + 2, b, g, p), hz => exact ih
end YRD
