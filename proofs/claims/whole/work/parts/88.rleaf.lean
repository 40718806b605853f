/-! THE REFERENCE: a text, a name -/
section YRE
/-- what a name means to the reference -/
def ynmR (S : yS) (sc : Int) (v : Int64) : Option (Nat × Nat × Bool) :=
  if 0 ≤ yfind (gB S 11) v (gI S 41).toNat 0 then some (2, (yfind (gB S 11) v (gI S 41).toNat 0).toNat, decide (¬ gA S 38 (yfind (gB S 11) v (gI S 41).toNat 0).toNat = 0))
  else if sc ≠ 2 ∧ 0 ≤ yfind (gB S 14) v (gI S 51).toNat 0 then some (3, (yfind (gB S 14) v (gI S 51).toNat 0).toNat, decide (¬ gA S 42 (yfind (gB S 14) v (gI S 51).toNat 0).toNat = 0))
  else if sc = 1 ∧ 0 ≤ yfind (gB S 15) v (gI S 52).toNat 0 then some (4, (yfind (gB S 15) v (gI S 52).toNat 0).toNat, decide (¬ gA S 44 (yfind (gB S 15) v (gI S 52).toNat 0).toNat = 0))
  else none
/-- names' tables are in order -/
def rNo (S : yS) : Prop := (0 ≤ gI S 41 ∧ gI S 41 ≤ 8) ∧ (0 ≤ gI S 51 ∧ gI S 51 ≤ 8) ∧ (0 ≤ gI S 52 ∧ gI S 52 ≤ 8) ∧ (∀ i : Nat, (i : Int) < gI S 41 → gA S 38 i = 0 ∨ gA S 38 i = 1) ∧ (∀ i : Nat, (i : Int) < gI S 51 → gA S 42 i = 0 ∨ gA S 42 i = 1) ∧ (∀ i : Nat, (i : Int) < gI S 52 → gA S 44 i = 0 ∨ gA S 44 i = 1)
theorem rP_same {S S' : yS} {o : Option Int64} (h : rP S o) (h1 : gI S' 49 = gI S 49) (h2 : gJ S' 1 = gJ S 1) : rP S' o := by
  match o, h with
  | none, h => exact h1.trans h
  | some v, h => exact ⟨h1.trans h.1, h2.trans h.2⟩
section YREL
variable {q : yQ} {d : Nat} {js : List xO} {S0 S S5 : yS} {T : yTk} {N u : Nat} {sc : Int} {Rm : Nat → Nat → Nat} {Rx : Nat → Nat} {s dp t b : Nat} {k : yRk}
theorem yWv_fr {w : Nat → Prop} (hu : u = 0 ∨ u = 1) (hz : yFr (yWv u) S0 S) : (gB S 11 = gB S0 11 ∧ gB S 14 = gB S0 14 ∧ gB S 15 = gB S0 15) ∧ (gA S 38 = gA S0 38 ∧ gA S 42 = gA S0 42 ∧ gA S 44 = gA S0 44) ∧ gI S 41 = gI S0 41 ∧ gI S 51 = gI S0 51 ∧ gI S 52 = gI S0 52 := by
  rcases hu with rfl | rfl
  · exact ⟨⟨hz.2.2.2.2.1 11 rfl, hz.2.2.2.2.1 14 rfl, hz.2.2.2.2.1 15 rfl⟩, ⟨hz.2.2.2.1 38 rfl, hz.2.2.2.1 42 rfl, hz.2.2.2.1 44 rfl⟩, hz.1 41 rfl, hz.1 51 rfl, hz.1 52 rfl⟩
  · exact ⟨⟨hz.2.2.2.2.1 11 rfl, hz.2.2.2.2.1 14 rfl, hz.2.2.2.2.1 15 rfl⟩, ⟨hz.2.2.2.1 38 rfl, hz.2.2.2.1 42 rfl, hz.2.2.2.1 44 rfl⟩, hz.1 41 rfl, hz.1 51 rfl, hz.1 52 rfl⟩
theorem ynmR_fr (hu : u = 0 ∨ u = 1) (hz : yFr (yWv u) S0 S) (v : Int64) : ynmR S sc v = ynmR S0 sc v := by
  obtain ⟨⟨a1, a2, a3⟩, ⟨b1, b2, b3⟩, c1, c2, c3⟩ := yWv_fr (w := fun _ => True) hu hz
  unfold ynmR
  rw [a1, a2, a3, b1, b2, b3, c1, c2, c3]
theorem rNo_fr (hu : u = 0 ∨ u = 1) (hz : yFr (yWv u) S0 S) (h : rNo S0) : rNo S := by
  obtain ⟨⟨a1, a2, a3⟩, ⟨b1, b2, b3⟩, c1, c2, c3⟩ := yWv_fr (w := fun _ => True) hu hz
  unfold rNo
  rw [b1, b2, b3, c1, c2, c3]
  exact h
/-- a name -/
theorem r236 (hu : u = 0 ∨ u = 1) (hT : yTo T N) (hsc : sc = 0 ∨ sc = 1 ∨ sc = 2) (hno : rNo S0) (hz : yFr (yWv u) S0 S) (h : rM T N u sc S t b dp k) (hp : rP S none) (h62 : (T t).1 = 62) (hc : ∀ L X, k = some (L, X) → L.length < 8000) : rOut q js T N u sc S dp k (Y q (d + 3) 236 0 [vr 129, vu, vu, vu, vu, vu, vu] [] S js) (ynme T (ynmR S0 sc) t b) := by
  obtain ⟨g1, g2, g3, g4, g5, g6, g7, g8⟩ := rM_t h
  have hN := hT.2.1
  have e44 : yr (gI S 44) = t := by rw [g1]; exact yr_eq (by omega) (by omega)
  have ok : 0 ≤ (t : Int) ∧ (t : Int) < 2001 := by omega
  have g13 : gB S 13 t = (T t).2.2 := (h.1 t g2).2.2.1 (Or.inl h62)
  unfold ynme
  rw [w236_0, e44, if_pos ok, if_pos ok, Int.toNat_natCast, g8, g13]
  by_cases hb : b = 0
  · subst hb
    rw [if_pos rfl]
    refine rOut_n fun hk => ⟨S, ?_, yFr_rf _ _⟩
    rw [rm_take0 hT h, t236]
  · rw [if_neg hb]
    obtain ⟨S1, a1, f1, h1, p1, p2⟩ := rm_take (q := q) (d := d + 1) (js := js) hT h (by omega) hb hu
    rw [a1, YB_retv, w236_24]
    match k, h1, hc with
    | none, h1, hc =>
      have m0 : gI S1 45 = 0 := h1.2.2.2.2.2.2.2.2.2.1
      rw [m0, if_pos yr_0]
      exact ⟨S1, 0, rfl, f1, h1, by omega⟩
    | some (L, X), h1, hc =>
      have m1 : gI S1 45 = 1 := h1.2.2.2.2.2.2.2.2.2.1
      have hz1 := yFr_tr hz f1
      obtain ⟨n1, n2, n3, n4, n5, n6⟩ := rNo_fr hu hz1 hno
      have esc : gI S1 50 = sc := h1.2.2.2.2.2.2.2.2.1
      have esr : yr sc = sc := yr_eq (by omega) (by omega)
      have e1 : yr 1 = 1 := rfl
      have e2 : yr 2 = 2 := rfl
      have em : yr (-1) = -1 := rfl
      rw [m1, if_neg (by decide), r196 n1, YB_ret, ← ynmR_fr hu hz1]
      rw [w236_45, esc, esr, e1, e2, em]
      have hp1 : rP S1 none := rP_same hp p1 p2
      -- what is emitted
      have emit : ∀ (op i : Nat) (c : Bool) (r : Int) (x2 x3 x4 : Int), op ≤ 4 → (r = if c = true then 1 else 0) → ynmR S1 sc (T t).2.2 = some (op, i, c) → (∀ (S2 : yS) (r2 : Nat), Y q (d + 2) 234 0 [vr 129, vi op, vj (yi2l (i : Int)), vu] [] S1 js = yret q (vi r2) S2 js → gA S2 38 = gA S1 38 → gA S2 42 = gA S1 42 → gA S2 44 = gA S1 44 → Y q (d + 3) 236 128 [vr 129, vj (T t).2.2, vu, vi ((T t).2.1 : Nat), vi x2, vi x3, vi x4] [] S1 js = yret q (vi r) S2 js) → rOut q js T N u sc S dp (some (L, X)) (Y q (d + 3) 236 128 [vr 129, vj (T t).2.2, vu, vi ((T t).2.1 : Nat), vi x2, vi x3, vi x4] [] S1 js) (.inr (t + 1, b - 1, match ynmR S1 sc (T t).2.2 with
        | none => .inl (2, (T t).2.1)
        | some (op, i, x) => .inr (x, none, [(op, ya64 i)], [], fun e => some (e op i)))) := by
        intro op i c r x2 x3 x4 hop hr hn hrow
        obtain ⟨S2, r2, a2, f2, h2, q1, q2, _⟩ := rm_emit (q := q) (d := d + 2) (js := js) hu h1 hc op (yi2l (i : Int))
        obtain ⟨_, ⟨b1, b2, b3⟩, _⟩ := yWv_fr (w := fun _ => True) hu f2
        rw [hn, hrow S2 r2 a2 b1 b2 b3, hr]
        refine ⟨S2, ?_, yFr_tr f1 f2, ?_, rP_same hp1 q1 q2⟩
        · cases c <;> rfl
        · have h2 : rM T N u sc S2 (t + 1) (b - 1) dp (some (L ++ [(op, yi2l (i : Int))], X)) := h2
          show rM T N u sc S2 (t + 1) (b - 1) dp (some (L ++ [(op, yi2l (i : Int))], X ++ []))
          rw [List.append_nil]
          exact h2
      have bad : ∀ x2 x3 x4 : Int, ynmR S1 sc (T t).2.2 = none → rOut q js T N u sc S dp (some (L, X)) (YB q (Y q (d + 2) 219 0 [vr 129, vi 0, vi 2, vi ((T t).2.1 : Nat)] [] S1 js) (d + 3) 236 125 [vr 129, vj (T t).2.2, vu, vi ((T t).2.1 : Nat), vi x2, vi x3, vi x4] []) (.inr (t + 1, b - 1, match ynmR S1 sc (T t).2.2 with
        | none => .inl (2, (T t).2.1)
        | some (op, i, x) => .inr (x, none, [(op, ya64 i)], [], fun e => some (e op i)))) := by
        intro x2 x3 x4 hn
        rw [hn]
        have m0 : Y q (d + 2) 219 0 [vr 129, vi 0, vi 2, vi ((T t).2.1 : Nat)] [] S1 js = ythr q (ystp (Int32.ofInt (2 : Nat)) (Int32.ofInt ((T t).2.1 : Nat))) S1 js := rm_must0 h1
        exact ⟨S1, by rw [m0, t236], f1⟩
      have good : ∀ x2 x3 x4 : Int, YB q (Y q (d + 2) 219 0 [vr 129, vi 1, vi 2, vi ((T t).2.1 : Nat)] [] S1 js) (d + 3) 236 125 [vr 129, vj (T t).2.2, vu, vi ((T t).2.1 : Nat), vi x2, vi x3, vi x4] [] = Y q (d + 3) 236 128 [vr 129, vj (T t).2.2, vu, vi ((T t).2.1 : Nat), vi x2, vi x3, vi x4] [] S1 js := by
        intro x2 x3 x4
        rw [rm_must1, YB_retv]
      have ty01 : ∀ z : Int, z = 0 ∨ z = 1 → z = if decide (¬ z = 0) = true then 1 else 0 := by
        rintro z (rfl | rfl) <;> rfl
      have colc : ∀ (f : Nat) (x3 x4 : Int), yfind (gB S1 11) (T t).2.2 (gI S1 41).toNat 0 = f → f < 8 → (f : Int) < gI S1 41 → rOut q js T N u sc S dp (some (L, X)) (Y q (d + 3) 236 128 [vr 129, vj (T t).2.2, vu, vi ((T t).2.1 : Nat), vi f, vi x3, vi x4] [] S1 js) (.inr (t + 1, b - 1, match ynmR S1 sc (T t).2.2 with
        | none => .inl (2, (T t).2.1)
        | some (op, i, x) => .inr (x, none, [(op, ya64 i)], [], fun e => some (e op i)))) := by
        intro f x3 x4 hf hf8 hf2
        have ef : yr (f : Int) = f := yr_eq (by omega) (by omega)
        refine emit 2 f (decide (¬ gA S1 38 f = 0)) (gA S1 38 f) f x3 x4 (by omega) (ty01 _ (n4 f hf2)) (by unfold ynmR; rw [hf, if_pos (by omega)]; rfl) fun S2 r2 a2 b1 b2 b3 => ?_
        have a2 : Y q (d + 2) 234 0 [vr 129, vi 2, vj (yi2l (f : Int)), vu] [] S1 js = yret q (vi r2) S2 js := a2
        rw [w236_128, ef, em, if_neg (by omega), a2, YB_ret, w236_142, ef, em, if_neg (by omega), if_pos (by omega), Int.toNat_natCast, b1]
      have letc : ∀ (f : Nat) (x4 : Int), yfind (gB S1 11) (T t).2.2 (gI S1 41).toNat 0 = -1 → sc ≠ 2 → yfind (gB S1 14) (T t).2.2 (gI S1 51).toNat 0 = f → f < 8 → (f : Int) < gI S1 51 → rOut q js T N u sc S dp (some (L, X)) (Y q (d + 3) 236 128 [vr 129, vj (T t).2.2, vu, vi ((T t).2.1 : Nat), vi (-1), vi f, vi x4] [] S1 js) (.inr (t + 1, b - 1, match ynmR S1 sc (T t).2.2 with
        | none => .inl (2, (T t).2.1)
        | some (op, i, x) => .inr (x, none, [(op, ya64 i)], [], fun e => some (e op i)))) := by
        intro f x4 hc0 hs2 hf hf8 hf2
        have ef : yr (f : Int) = f := yr_eq (by omega) (by omega)
        refine emit 3 f (decide (¬ gA S1 42 f = 0)) (gA S1 42 f) (-1) f x4 (by omega) (ty01 _ (n5 f hf2)) (by unfold ynmR; rw [hc0, if_neg (by omega), hf, if_pos ⟨hs2, by omega⟩]; rfl) fun S2 r2 a2 b1 b2 b3 => ?_
        have a2 : Y q (d + 2) 234 0 [vr 129, vi 3, vj (yi2l (f : Int)), vu] [] S1 js = yret q (vi r2) S2 js := a2
        rw [w236_128, ef, em, if_pos rfl, if_neg (by omega), a2, YB_ret, w236_160, ef, em, if_pos rfl, if_neg (by omega), if_pos (by omega), Int.toNat_natCast, b2]
      have totc : ∀ f : Nat, yfind (gB S1 11) (T t).2.2 (gI S1 41).toNat 0 = -1 → (sc = 2 ∨ yfind (gB S1 14) (T t).2.2 (gI S1 51).toNat 0 = -1) → sc = 1 → yfind (gB S1 15) (T t).2.2 (gI S1 52).toNat 0 = f → f < 8 → (f : Int) < gI S1 52 → rOut q js T N u sc S dp (some (L, X)) (Y q (d + 3) 236 128 [vr 129, vj (T t).2.2, vu, vi ((T t).2.1 : Nat), vi (-1), vi (-1), vi f] [] S1 js) (.inr (t + 1, b - 1, match ynmR S1 sc (T t).2.2 with
        | none => .inl (2, (T t).2.1)
        | some (op, i, x) => .inr (x, none, [(op, ya64 i)], [], fun e => some (e op i)))) := by
        intro f hc0 hl0 hs1 hf hf8 hf2
        have ef : yr (f : Int) = f := yr_eq (by omega) (by omega)
        refine emit 4 f (decide (¬ gA S1 44 f = 0)) (gA S1 44 f) (-1) (-1) f (by omega) (ty01 _ (n6 f hf2)) (by unfold ynmR; rw [hc0, if_neg (by omega), if_neg (by omega), hf, if_pos ⟨hs1, by omega⟩]; rfl) fun S2 r2 a2 b1 b2 b3 => ?_
        have a2 : Y q (d + 2) 234 0 [vr 129, vi 4, vj (yi2l (f : Int)), vu] [] S1 js = yret q (vi r2) S2 js := a2
        rw [w236_128, em, if_pos rfl, if_pos rfl, a2, YB_ret, w236_172, em, if_pos rfl, if_pos rfl, ef, if_pos (by omega), Int.toNat_natCast, b3]
      have hr : ∀ {f : Nat → Int64} {m : Int}, 0 ≤ m ∧ m ≤ 8 → yfind f (T t).2.2 m.toNat 0 = -1 ∨ ∃ i : Nat, i < 8 ∧ (i : Int) < m ∧ yfind f (T t).2.2 m.toNat 0 = i := fun {f m} hm => by
        rcases yfind_c (f := f) (v := (T t).2.2) (n := m.toNat) (by omega) with e | ⟨i, hi, e⟩
        · exact Or.inl e
        · exact Or.inr ⟨i, by omega, by omega, e⟩
      rcases hr (f := gB S1 11) n1 with hf | ⟨f, hf8, hf2, hf⟩
      · rw [hf, em]
        by_cases s2 : sc = 2
        · rw [if_pos s2, if_neg (by omega), if_pos rfl, if_pos rfl, if_pos rfl]
          exact bad _ _ _ (by unfold ynmR; rw [hf, if_neg (by omega), if_neg (by omega), if_neg (by omega)])
        · rw [if_neg s2, r196b n2, YB_ret, w236_71, esc, esr, e1, em]
          rcases hr (f := gB S1 14) n2 with hl | ⟨l, hl8, hl2, hl⟩
          · rw [hl, em]
            by_cases s1 : sc = 1
            · rw [if_pos s1, r196c n3, YB_ret, w236_93, em, if_pos rfl, if_pos rfl]
              rcases hr (f := gB S1 15) n3 with ht | ⟨m, hm8, hm2, ht⟩
              · rw [ht, em, if_pos rfl]
                exact bad _ _ _ (by unfold ynmR; rw [hf, if_neg (by omega), hl, if_neg (by omega), ht, if_neg (by omega)])
              · rw [ht, yr_eq (x := (m : Int)) (by omega) (by omega), if_neg (by omega), good]
                exact totc m hf (Or.inr hl) s1 ht hm8 hm2
            · rw [if_neg s1, if_pos rfl, if_pos rfl, if_pos rfl]
              exact bad _ _ _ (by unfold ynmR; rw [hf, if_neg (by omega), hl, if_neg (by omega), if_neg (by omega)])
          · have el : yr (l : Int) = l := yr_eq (by omega) (by omega)
            rw [hl, el]
            by_cases s1 : sc = 1
            · rw [if_pos s1, r196c n3, YB_ret, w236_93, em, el, if_pos rfl, if_neg (by omega), good]
              exact letc l _ hf s2 hl hl8 hl2
            · rw [if_neg s1, if_pos rfl, if_neg (by omega), good]
              exact letc l _ hf s2 hl hl8 hl2
      · have ef : yr (f : Int) = f := yr_eq (by omega) (by omega)
        rw [hf, ef]
        have hne : ¬ (f : Int) = -1 := by omega
        by_cases s2 : sc = 2
        · rw [if_pos s2, if_neg (by omega), if_neg hne, good]
          exact colc f _ _ hf hf8 hf2
        · rw [if_neg s2, r196b n2, YB_ret, w236_71, esc, esr, e1, em, ef]
          by_cases s1 : sc = 1
          · rw [if_pos s1, r196c n3, YB_ret, w236_93, em, ef, if_neg hne, good]
            exact colc f _ _ hf hf8 hf2
          · rw [if_neg s1, if_neg hne, good]
            exact colc f _ _ hf hf8 hf2
/-- a text -/
theorem v235 (hu : u = 0 ∨ u = 1) (hk : gK S 2 = ru u) (hm : gI S 45 = 1) (ht : gI S 44 = t) (ht2 : t < 2001) (hX : 0 ≤ gI S (6 + u) ∧ gI S (6 + u) < 2000) : ∃ S1 : yS, S1 = sA (sA S (10 + u) (gI S (6 + u)).toNat (yl2i (gB S 13 t))) (12 + u) (gI S (6 + u)).toNat (gA S 41 t) ∧ Y q (d + 1) 235 0 [vr 129] [] S js = YB q (Y q d 234 0 [vr 129, vi 1, vj (yi2l (gI S (6 + u))), vu] [] S1 js) (d + 1) 235 66 [vr 129] [] ∧ ∀ (S2 : yS) (r : Int), gK S2 2 = ru u → Y q (d + 1) 235 69 [vr 129] [vi r] S2 js = YB q (Y q d 217 0 [vr 129] [] (sI S2 (6 + u) (gI S2 (6 + u) + 1)) js) (d + 1) 235 84 [vr 129] [] := by
  have em : ¬ yr (gI S 45) = 0 := by rw [hm]; decide
  have e44 : yr (gI S 44) = t := by rw [ht]; exact yr_eq (by omega) (by omega)
  have ok : 0 ≤ (t : Int) ∧ (t : Int) < 2001 := by omega
  have e6 : yr (gI S (6 + u)) = gI S (6 + u) := yr_eq (by omega) (by omega)
  refine ⟨_, rfl, ?_, ?_⟩
  · rcases hu with rfl | rfl
    · have hk : gK S 2 = 139 := hk
      have hk1 : ∀ i x, gK (sA S 10 i x) 2 = 139 := fun _ _ => hk
      have hk2 : ∀ i x j y, gK (sA (sA S 10 i x) 12 j y) 2 = 139 := fun _ _ _ _ => hk
      have e6 : yr (gI S 6) = gI S 6 := e6
      have hX : 0 ≤ gI S 6 ∧ gI S 6 < 2000 := hX
      rw [w235_0, if_neg em, if_pos hk, w235_11, if_pos hk, w235_18, e44, if_pos ok, e6, if_pos hX, if_pos hk, w235_36, if_pos (hk1 _ _), w235_43]
      have e44' : ∀ i x, yr (gI (sA S 10 i x) 44) = t := fun _ _ => e44
      have e6' : ∀ i x, yr (gI (sA S 10 i x) 6) = gI S 6 := fun _ _ => e6
      rw [e44', if_pos ok, e6', if_pos hX, if_pos (hk1 _ _), w235_62]
      rfl
    · have hk : gK S 2 = 145 := hk
      have hk0 : ¬ gK S 2 = 139 := by omega
      have hk1 : ∀ i x, gK (sA S 11 i x) 2 = 145 := fun _ _ => hk
      have hk1' : ∀ i x, ¬ gK (sA S 11 i x) 2 = 139 := fun _ _ => hk0
      have e6 : yr (gI S 7) = gI S 7 := e6
      have hX : 0 ≤ gI S 7 ∧ gI S 7 < 2000 := hX
      rw [w235_0, if_neg em, if_neg hk0, if_pos hk, w235_11x, if_neg hk0, if_pos hk, w235_18z, e44, if_pos ok, e6, if_pos hX, if_neg hk0, if_pos hk, w235_36x, if_neg (hk1' _ _), if_pos (hk1 _ _), w235_43z]
      have e44' : ∀ i x, yr (gI (sA S 11 i x) 44) = t := fun _ _ => e44
      have e6' : ∀ i x, yr (gI (sA S 11 i x) 7) = gI S 7 := fun _ _ => e6
      rw [e44', if_pos ok, e6', if_pos hX, if_neg (hk1' _ _), if_pos (hk1 _ _), w235_62x]
      rfl
  · intro S2 r hk2
    rcases hu with rfl | rfl
    · have hk2 : gK S2 2 = 139 := hk2
      rw [w235_69, if_pos hk2, w235_74]
    · have hk2 : gK S2 2 = 145 := hk2
      rw [w235_69, if_neg (by omega), if_pos hk2, w235_74x]
theorem rm_emits {L : yCo} {X : List (Nat × Nat)} (hu : u = 0 ∨ u = 1) (h : rM T N u sc S t b dp (some (L, X))) (hl : L.length < 8000) (op : Nat) (a : Int64) : Y q d 234 0 [vr 129, vi op, vj a, vu] [] S js = yret q (vi (L.length : Nat)) (rem S u op a) js ∧ rM T N u sc (rem S u op a) t b dp (some (L ++ [(op, a)], X)) := by
  obtain ⟨h1, h2, h3, h4, h5, h6, h7, h8, h9, m1, m2, m3⟩ := h
  have e := m2.1
  have g1 : ∀ m, m ≠ 4 + u → gI (rem S u op a) m = gI S m := fun m hm => gI_ne _ _ _ hm
  refine ⟨?_, rT_em hu h1, h2, ?_, ?_, h5, ?_, h7, h8, ?_, ?_, rK_ad hu m2, rX_em hu m3⟩
  · rw [r234 hu h8 m1 (by omega), e]
  · rw [g1 _ (by omega)]; exact h3
  · rw [g1 _ (by omega)]; exact h4
  · rw [g1 _ (by omega)]; exact h6
  · rw [g1 _ (by omega)]; exact h9
  · rw [g1 _ (by omega)]; exact m1
theorem r235 {tx : Nat → Nat → List Int} {tb : Nat} (hu : u = 0 ∨ u = 1) (hT : yTo T N) (h : rM T N u sc S t b dp k) (hp : rP S none) (h64 : (T t).1 = 64) (hc : ∀ L X, k = some (L, X) → L.length < 8000 ∧ X.length < 2000 ∧ tb = X.length) : rOut q js T N u sc S dp k (Y q (d + 3) 235 0 [vr 129] [] S js) (ytxt T tx tb t b) := by
  obtain ⟨g1, g2, g3, g4, g5, g6, g7, g8⟩ := rM_t h
  have hN := hT.2.1
  have hpl := (hT.2.2.2.2 t g2).1
  obtain ⟨g13, g41, g41a, g41b⟩ := (h.1 t g2).2.2.2 h64
  unfold ytxt
  match k, h, hc with
  | none, h, hc =>
    have m0 : gI S 45 = 0 := h.2.2.2.2.2.2.2.2.2.1
    rw [w235_0, m0, if_pos yr_0]
    by_cases hb : b = 0
    · subst hb
      rw [if_pos rfl]
      refine rOut_n fun hk => ⟨S, ?_, yFr_rf _ _⟩
      rw [rm_take0 hT h, t235]
    · rw [if_neg hb]
      obtain ⟨S1, a1, f1, h1, p1, p2⟩ := rm_take (q := q) (d := d + 1) (js := js) hT h (by omega) hb hu
      exact ⟨S1, 1, by rw [a1, YB_retv, w235_87]; rfl, f1, h1, by omega⟩
  | some (L, X), h, hc =>
    obtain ⟨hl, hX, htb⟩ := hc L X rfl
    have hM := h
    obtain ⟨h1, h2, h3, h4, h5, h6, h7, h8, h9, m1, m2, m3⟩ := h
    by_cases hb : b = 0
    · subst hb
      rw [if_pos rfl]
      exact rOut_n fun hk => nomatch hk
    · rw [if_neg hb]
      have e6 := m3.1
      obtain ⟨S1, hS1, v1, v2⟩ := v235 (q := q) (d := d + 2) (js := js) hu h8 m1 g1 (by omega) (by omega)
      rw [v1]
      have en : (gI S (6 + u)).toNat = X.length := by rw [e6]; rfl
      -- the state with the text's place
      have hi1 : ∀ m, gI S1 m = gI S m := fun m => by rw [hS1]; rfl
      have hk1 : gK S1 = gK S := by rw [hS1]; rfl
      have hj1 : gJ S1 = gJ S := by rw [hS1]; rfl
      have hb1 : gB S1 = gB S := by rw [hS1]; rfl
      have ha1 : ∀ m, m ≠ 10 + u → m ≠ 12 + u → gA S1 m = gA S m := fun m z1 z2 => by
        rw [hS1]
        exact (gA_ne _ (12 + u) _ _ z2).trans (gA_ne _ (10 + u) _ _ z1)
      have fS1 : yFr (yWv u) S S1 := by
        rw [hS1]
        exact yFr_tr (yFr_A (yWv_A (by omega))) (yFr_A (yWv_A (by omega)))
      have hM1 : rM T N u sc S1 t b dp (some (L, X)) := by
        refine ⟨?_, h2, by rw [hi1]; exact h3, by rw [hi1]; exact h4, h5, by rw [hi1]; exact h6, h7, by rw [hk1]; exact h8, by rw [hi1]; exact h9, by rw [hi1]; exact m1, ⟨by rw [hi1]; exact m2.1, fun j x hj => ?_⟩, ⟨by rw [hi1]; exact m3.1, fun j x hj => ?_⟩⟩
        · intro j hj
          rw [ha1 39 (by omega) (by omega), ha1 40 (by omega) (by omega), ha1 41 (by omega) (by omega), hb1]
          exact h1 j hj
        · rw [ha1 (6 + u) (by omega) (by omega), hb1]
          exact m2.2 j x hj
        · have hjl := (List.getElem?_eq_some_iff.mp hj).1
          have a10 : gA S1 (10 + u) j = gA S (10 + u) j := by
            have z1 : gA S1 (10 + u) = gA (sA S (10 + u) (gI S (6 + u)).toNat (yl2i (gB S 13 t))) (10 + u) := by rw [hS1]; exact gA_ne _ (12 + u) _ _ (by omega)
            rw [z1, gA_self, en, if_neg (by omega)]
          have a12 : gA S1 (12 + u) j = gA S (12 + u) j := by
            rw [hS1, gA_self, en, if_neg (by omega)]
            exact congrFun (gA_ne S (10 + u) _ _ (by omega)) j
          rw [a10, a12]
          exact m3.2 j x hj
      have at10 : gA S1 (10 + u) X.length = ((T t).2.1 : Int) + 1 := by
        have z1 : gA S1 (10 + u) = gA (sA S (10 + u) (gI S (6 + u)).toNat (yl2i (gB S 13 t))) (10 + u) := by rw [hS1]; exact gA_ne _ (12 + u) _ _ (by omega)
        rw [z1, gA_self, en, if_pos rfl, g13]
        unfold yl2i yi2l
        rw [Int32.toInt32_toInt64, Int32.toInt_ofInt_of_le (by omega) (by omega)]
      have at12 : gA S1 (12 + u) X.length = ((T t).2.2.toInt.toNat : Int) := by
        rw [hS1, gA_self, en, if_pos rfl, ← g41, yi2l_toInt, yr_eq (by omega) (by omega)]
        omega
      obtain ⟨a2, h2''⟩ := rm_emits (q := q) (d := d + 2) (js := js) hu hM1 hl 1 (yi2l (X.length : Int))
      obtain ⟨S2, hS2⟩ : ∃ S2, S2 = rem S1 u (1 : Nat) (yi2l (X.length : Int)) := ⟨_, rfl⟩
      rw [← hS2] at a2 h2''
      have a2 : Y q (d + 2) 234 0 [vr 129, vi 1, vj (yi2l (gI S (6 + u))), vu] [] S1 js = yret q (vi (L.length : Nat)) S2 js := by rw [e6]; exact a2
      have f2 : yFr (yWv u) S1 S2 := by rw [hS2]; exact rem_fr
      have q1 : gI S2 49 = gI S1 49 := by rw [hS2]; exact gI_ne _ _ _ (by omega)
      have q2 : gJ S2 1 = gJ S1 1 := by rw [hS2]; rfl
      obtain ⟨c1, c2, c3, c4, c5, c6, c7, c8, c9, d1, d2, d3⟩ := h2''
      -- one text more
      have hM3 : rM T N u sc (sI S2 (6 + u) (gI S2 (6 + u) + 1)) t b dp (some (L ++ [(1, yi2l (X.length : Int))], X ++ [((T t).2.1 + 1, (T t).2.2.toInt.toNat)])) := by
        have gi : ∀ m, m ≠ 6 + u → gI (sI S2 (6 + u) (gI S2 (6 + u) + 1)) m = gI S2 m := fun m z => gI_ne _ _ _ z
        refine ⟨c1, c2, by rw [gi _ (by omega)]; exact c3, by rw [gi _ (by omega)]; exact c4, c5, by rw [gi _ (by omega)]; exact c6, c7, c8, by rw [gi _ (by omega)]; exact c9, by rw [gi _ (by omega)]; exact d1, ⟨by rw [gi _ (by omega)]; exact d2.1, d2.2⟩, ⟨?_, fun j x hj => ?_⟩⟩
        · have : gI (sI S2 (6 + u) (gI S2 (6 + u) + 1)) (6 + u) = gI S2 (6 + u) + 1 := gI_self _ _ _
          rw [this, d3.1, List.length_append]
          rfl
        · show gA S2 (10 + u) j = _ ∧ gA S2 (12 + u) j = _
          by_cases z : j < X.length
          · rw [List.getElem?_append_left z] at hj
            exact d3.2 j x hj
          · have hl2 := (List.getElem?_eq_some_iff.mp hj).1
            rw [List.length_append] at hl2
            have e1 : ([((T t).2.1 + 1, (T t).2.2.toInt.toNat)] : List (Nat × Nat)).length = 1 := rfl
            have ej : j = X.length := by omega
            subst ej
            rw [List.getElem?_append_right (Nat.le_refl _), Nat.sub_self] at hj
            have hj : some ((T t).2.1 + 1, (T t).2.2.toInt.toNat) = some x := hj
            injection hj with hj
            subst hj
            have s10 : gA S2 (10 + u) = gA S1 (10 + u) := by rw [hS2]; exact gA_ne S1 (6 + u) _ _ (by omega)
            have s12 : gA S2 (12 + u) = gA S1 (12 + u) := by rw [hS2]; exact gA_ne S1 (6 + u) _ _ (by omega)
            rw [s10, s12, at10, at12]
            exact ⟨rfl, rfl⟩
      obtain ⟨S4, b1, fb, hM4, p1, p2⟩ := rm_take (q := q) (d := d + 1) (js := js) hT hM3 (by omega) hb hu
      refine ⟨S4, ?_, yFr_tr fS1 (yFr_tr f2 (yFr_tr (yFr_I (yWv_I (by omega))) fb)), ?_, ?_⟩
      · rw [a2, YB_ret, v2 S2 _ c8, b1, YB_retv, w235_87]
        rfl
      · rw [htb]
        exact hM4
      · refine rP_same (S := S2) (rP_same (S := S) hp (q1.trans (hi1 49)) (q2.trans (congrFun hj1 1))) (p1.trans ?_) p2
        exact gI_ne _ _ _ (by omega)
end YREL
end YRE
