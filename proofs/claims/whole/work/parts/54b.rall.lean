/-! ALL TOKENS: the reference, its loop -/
section YRV
theorem ytk1_kind {b : Nat → Int} {n k : Nat} : (ytk1 b n k).1 ≤ 64 ∨ (ytk1 b n k).1 = 66 := by
  unfold ytk1
  by_cases z1 : yL (b k)
  · rw [if_pos z1]
    split
    · exact Or.inr rfl
    · exact Or.inl (by have := yKf_le (ywd b k (yre pLD b (n - k) k - k) 0); show yKf _ ≤ 64; omega)
  · rw [if_neg z1]
    by_cases z2 : 48 ≤ b k ∧ b k ≤ 57
    · rw [if_pos z2]
      split
      · exact Or.inr rfl
      · exact Or.inl (by show 63 ≤ 64; omega)
    · rw [if_neg z2]
      by_cases z3 : b k = 34
      · rw [if_pos z3]
        split
        · exact Or.inl (by show 64 ≤ 64; omega)
        · exact Or.inr rfl
      · rw [if_neg z3]
        generalize (if k + 1 < n then b (k + 1) else 0) = nx
        split
        · exact Or.inl (by have := yKf_le ((ylshl (yi2l (b k)) 8) ||| yi2l nx); show yKf _ ≤ 64; omega)
        · split
          · exact Or.inr rfl
          · exact Or.inl (by have := yKf_le (yi2l (b k)); show yKf _ ≤ 64; omega)
theorem ykR_lt {k : Nat} (h : k ≤ 64 ∨ k = 66) : 0 ≤ ykR k ∧ ykR k ≤ 204 ∧ (ykR k < 203 ↔ k ≠ 66) := by
  unfold ykR
  split
  · omega
  · split <;> omega
/-- rows hold tokens from some place on -/
def yHoldR (S : yS) (c : Nat) (T : List (Nat × Nat × Int64)) : Prop := ∀ (j : Nat) (t : Nat × Nat × Int64), T[j]? = some t → gA S 39 (c + j) = ykR t.1 ∧ gA S 40 (c + j) = t.2.1 ∧ (t.1 = 62 ∨ t.1 = 63 → gB S 13 (c + j) = t.2.2) ∧ (t.1 = 64 → gB S 13 (c + j) = yi2l ((t.2.1 : Int) + 1) ∧ yi2l (gA S 41 (c + j)) = t.2.2 ∧ 0 ≤ gA S 41 (c + j) ∧ gA S 41 (c + j) ≤ 20)
def ySameR (c : Nat) (S S' : yS) : Prop := ∀ j : Nat, j < c → gA S' 39 j = gA S 39 j ∧ gA S' 40 j = gA S 40 j ∧ gB S' 13 j = gB S 13 j ∧ gA S' 41 j = gA S 41 j
theorem yatR_same {S : yS} {kd st z : Int} {v : Int64} {c : Nat} (hc : gI S 43 = c) : ySameR c S (yatR S kd st v z) := by
  intro j hj
  have e : (gI S 43).toNat = c := by omega
  refine ⟨?_, ?_, ?_, ?_⟩
  · show gA (sA S 39 (gI S 43).toNat kd) 39 j = _
    rw [e, gA_self, if_neg (by omega)]
  · show gA (sA (sA S 39 (gI S 43).toNat kd) 40 (gI S 43).toNat st) 40 j = _
    rw [e, gA_self, if_neg (by omega)]
    rfl
  · show gB (sB (sA (sA S 39 (gI S 43).toNat kd) 40 (gI S 43).toNat st) 13 (gI S 43).toNat v) 13 j = _
    rw [e, gB_self, if_neg (by omega)]
    rfl
  · show gA (sA (sB (sA (sA S 39 (gI S 43).toNat kd) 40 (gI S 43).toNat st) 13 (gI S 43).toNat v) 41 (gI S 43).toNat z) 41 j = _
    rw [e, gA_self, if_neg (by omega)]
    rfl
theorem yatR_at {S : yS} {kd st z : Int} {v : Int64} {c : Nat} (hc : gI S 43 = c) : gA (yatR S kd st v z) 39 c = kd ∧ gA (yatR S kd st v z) 40 c = st ∧ gB (yatR S kd st v z) 13 c = v ∧ gA (yatR S kd st v z) 41 c = z := by
  have e : (gI S 43).toNat = c := by omega
  refine ⟨?_, ?_, ?_, ?_⟩
  · show gA (sA S 39 (gI S 43).toNat kd) 39 c = _
    rw [e, gA_self, if_pos rfl]
  · show gA (sA (sA S 39 (gI S 43).toNat kd) 40 (gI S 43).toNat st) 40 c = _
    rw [e, gA_self, if_pos rfl]
  · show gB (sB (sA (sA S 39 (gI S 43).toNat kd) 40 (gI S 43).toNat st) 13 (gI S 43).toNat v) 13 c = _
    rw [e, gB_self, if_pos rfl]
  · show gA (sA (sB (sA (sA S 39 (gI S 43).toNat kd) 40 (gI S 43).toNat st) 13 (gI S 43).toNat v) 41 (gI S 43).toNat z) 41 c = _
    rw [e, gA_self, if_pos rfl]
theorem ySameR_tr {c : Nat} {A B C : yS} (h1 : ySameR c A B) (h2 : ySameR c B C) : ySameR c A C := fun j hj => ⟨(h2 j hj).1.trans (h1 j hj).1, (h2 j hj).2.1.trans (h1 j hj).2.1, (h2 j hj).2.2.1.trans (h1 j hj).2.2.1, (h2 j hj).2.2.2.trans (h1 j hj).2.2.2⟩
theorem ySameR_mo {c c' : Nat} {A B : yS} (h : ySameR c A B) (hc : c' ≤ c) : ySameR c' A B := fun j hj => h j (by omega)
section YRVL
variable {q : yQ} {d : Nat} {js : List xO}
/-- at the loop's head: the token before decides -/
theorem r207h {S : yS} {c : Nat} (x0 : Int) (x1 : yV) (hc : gI S 43 = (c : Int) + 1) (hc2 : c ≤ 2000) (hk : 0 ≤ gA S 39 c ∧ gA S 39 c ≤ 204) : Y q d 207 7 [vr 129, vi x0, x1] [] S js = if gA S 39 c < 203 then Y q d 207 31 [vr 129, vi x0, x1] [] S js else yretv q S js := by
  have e : yr (gI S 43 - 1) = (c : Int) := by rw [hc, yr_eq] <;> omega
  have e2 : yr 203 = 203 := rfl
  rw [w207_7, if_neg (by rw [yr_eq] <;> omega), e, if_pos (by omega), Int.toNat_natCast, yr_eq (x := gA S 39 c) (by omega) (by omega), e2]
/-- one token -/
theorem r207t {S : yS} {n a : Nat} {b : Nat → Int} (x : yV) (hn : gI S 40 = n) (hn2 : n ≤ 2000) (h43 : 0 ≤ gI S 43 ∧ gI S 43 ≤ 2000) (hb : ∀ i, i < n → gA S 37 i = b i ∧ 0 ≤ b i ∧ b i ≤ 255) (hk : ∀ j : Nat, j < 46 → gB S 10 j = yKw j) (ha : a < n) : ∃ (nx : Nat) (v : Int64) (z : Int), Y q (d + 6) 207 62 [vr 129, vi a, x] [vi (b a)] S js = Y q (d + 6) 207 7 [vr 129, vi nx, vi (b a)] [] (yatR S (ykR (ytk1 b n a).1) a v z) js ∧ ((ytk1 b n a).1 ≠ 66 → nx = (ytk1 b n a).2.2) ∧ ((ytk1 b n a).1 = 62 ∨ (ytk1 b n a).1 = 63 → v = (ytk1 b n a).2.1) ∧ ((ytk1 b n a).1 = 64 → v = yi2l ((a : Int) + 1) ∧ yi2l z = (ytk1 b n a).2.1 ∧ 0 ≤ z ∧ z ≤ 20) := by
  obtain ⟨ha0, ha1, ha2⟩ := hb a ha
  have em : yr (-1) = -1 := rfl
  have e34 : yr 34 = 34 := rfl
  have fa : yr (b a) = b a := yr_eq (by omega) (by omega)
  have st : Y q (d + 6) 207 62 [vr 129, vi a, x] [vi (b a)] S js = if yL (b a) then YB q (Y q (d + 5) 210 0 [vr 129, vi a, vu, vu, vu, vu] [] S js) (d + 6) 207 93 [vr 129, vi a, vi (b a)] [] else if 48 ≤ b a ∧ b a ≤ 57 then YB q (Y q (d + 5) 211 0 [vr 129, vi a, vu, vu, vu] [] S js) (d + 6) 207 109 [vr 129, vi a, vi (b a)] [] else if b a = 34 then YB q (Y q (d + 5) 212 0 [vr 129, vi a, vu, vu] [] S js) (d + 6) 207 124 [vr 129, vi a, vi (b a)] [] else YB q (Y q (d + 5) 213 0 [vr 129, vi a, vu, vu, vu] [] S js) (d + 6) 207 133 [vr 129, vi a, vi (b a)] [] := by
    rw [w207_62, em, fa, if_neg (by omega), r193 (by omega) (by omega), YB_ret, w207_88, r194 (by omega) (by omega), YB_ret, w207_104, fa, e34]
    simp only [yr_yb, yb_eq0]
    by_cases z1 : 97 ≤ b a ∧ b a ≤ 122
    · rw [if_neg (fun y => y z1), if_pos (show yL (b a) from z1)]
    · rw [if_pos z1, if_neg (show ¬ yL (b a) from z1)]
      by_cases z2 : 48 ≤ b a ∧ b a ≤ 57
      · rw [if_neg (fun y => y z2), if_pos z2]
      · rw [if_pos z2, if_neg z2]
  rw [st]
  by_cases z1 : yL (b a)
  · have e8 : yr 8 = 8 := rfl
    have er := yre_rng (p := pLD) (b := b) (m := n - a) (k := a)
    have hw := r210a (q := q) (d := d + 3) (js := js) (a := a) hn hn2 hb (n - a) a 0 (by omega)
    have one : a < yre pLD b (n - a) a := by
      have e : n - a = (n - (a + 1)) + 1 := by omega
      rw [e]
      unfold yre
      have hp : pLD (b a) = true := decide_eq_true (Or.inl z1)
      rw [hp]
      have := yre_rng (p := pLD) (b := b) (m := n - (a + 1)) (k := a + 1)
      show a < yre pLD b (n - (a + 1)) (a + 1)
      omega
    have hall : ∀ i, a ≤ i → i < yre pLD b (n - a) a → pLD (b i) = true := fun i h1 h2 => yre_all i h1 h2
    have hx : (ytk1 b n a) = if 8 < yre pLD b (n - a) a - a then (66, 0, n) else (yKf (ywd b a (yre pLD b (n - a) a - a) 0), ywd b a (yre pLD b (n - a) a - a) 0, yre pLD b (n - a) a) := by unfold ytk1; rw [if_pos z1]
    rw [if_pos z1, w210_0, hw, YB_ret, w210_49]
    generalize yre pLD b (n - a) a = e at *
    have ee : yr ((e : Int) - a) = (e : Int) - a := yr_eq (by omega) (by omega)
    have hf : yfind (gB S 10) (ywd b a (e - a) 0) 46 0 = yfind yKw (ywd b a (e - a) 0) 46 0 := yfind_cg fun k k1 k2 => hk k (by omega)
    rw [e8, ee, hf, r209 h43, YB_retv, w210_69, r209 h43, YB_retv, w210_88, r209 h43, YB_retv, w210_100]
    by_cases y : 8 < e - a
    · rw [hx, if_pos y, if_pos (by omega), YB_ret, w207_96]
      exact ⟨e, 0, 0, rfl, fun u => (u rfl).elim, fun u => (by rcases u with u | u <;> cases u), fun u => by cases u⟩
    · rw [hx, if_neg y, if_neg (by omega)]
      obtain ⟨m, hm⟩ : ∃ m, e - a = m + 1 := ⟨e - a - 1, by omega⟩
      have hb7 : ∀ k, a ≤ k → k < a + (m + 1) → 0 ≤ b k ∧ b k ≤ 127 := fun k k1 k2 => by
        have := of_decide_eq_true (hall k k1 (by omega))
        rcases this with u | u <;> omega
      have w0 := ywd_one (b := b) (n := m) (i := a) (by omega) hb7
      have wl := ywd_low (b := b) (n := m) (i := a) (by omega) hb7
      have kw : yKf (ywd b a (e - a) 0) = if yfind yKw (ywd b a (e - a) 0) 46 0 = -1 then 62 else (yfind yKw (ywd b a (e - a) 0) 46 0).toNat := by
        rw [hm]
        refine yKf_word w0.1 ?_
        rw [wl]
        exact of_decide_eq_true (hall (a + m) (by omega) (by omega))
      rcases yfind_none (f := yKw) (w := ywd b a (e - a) 0) (n := 46) (i := 0) with u | ⟨k, k1, k2, k3, k4⟩
      · rw [u] at kw ⊢
        rw [if_pos rfl] at kw
        rw [em, if_pos rfl, YB_ret, w207_96, kw]
        exact ⟨e, _, 0, rfl, fun _ => rfl, fun _ => rfl, fun u => by cases u⟩
      · rw [k3, if_neg (by omega)] at kw
        have kk : (k : Int).toNat = k := rfl
        rw [k3, if_neg (by rw [yr_eq] <;> omega), YB_ret, w207_96, kw, kk]
        have e9 : ykR k = k := if_pos (by omega)
        refine ⟨e, 0, 0, by rw [e9], fun _ => rfl, fun u => ?_, fun u => ?_⟩
        · have u : k = 62 ∨ k = 63 := u
          omega
        · have u : k = 64 := u
          omega
  · rw [if_neg z1]
    by_cases z2 : 48 ≤ b a ∧ b a ≤ 57
    · obtain ⟨v, hv, hv2⟩ := r211a (q := q) (d := d + 3) (js := js) (a := a) hn hn2 h43 hb (n - a) a 0 (by omega) (Nat.le_refl a)
      have hx : (ytk1 b n a) = if 9 < yre pD b (n - a) a - a then (66, 0, n) else (63, ynu b a (yre pD b (n - a) a - a) 0, yre pD b (n - a) a) := by unfold ytk1; rw [if_neg z1, if_pos z2]
      rw [if_pos z2, w211_0, hv, YB_ret, w207_112, hx]
      by_cases y : 9 < yre pD b (n - a) a - a
      · rw [if_pos y, if_pos y]
        exact ⟨_, v, 0, rfl, fun u => (u rfl).elim, fun u => (by rcases u with u | u <;> cases u), fun u => by cases u⟩
      · rw [if_neg y, if_neg y]
        exact ⟨_, v, 0, rfl, fun _ => rfl, fun _ => hv2 (by omega), fun u => by cases u⟩
    · rw [if_neg z2]
      by_cases z3 : b a = 34
      · have hv := r212a (q := q) (d := d + 3) (js := js) (a := a) hn hn2 h43 hb ha (n - (a + 1)) (a + 1) (by omega) (by omega)
        have er := yre_rng (p := pQ) (b := b) (m := n - (a + 1)) (k := a + 1)
        have hx : (ytk1 b n a) = if (yre pQ b (n - (a + 1)) (a + 1) < n ∧ b (yre pQ b (n - (a + 1)) (a + 1)) = 34) ∧ yre pQ b (n - (a + 1)) (a + 1) - a - 1 ≤ 20 then (64, yi2l ((yre pQ b (n - (a + 1)) (a + 1) : Nat) - a - 1), yre pQ b (n - (a + 1)) (a + 1) + 1) else (66, 0, n) := by unfold ytk1; rw [if_neg z1, if_neg z2, if_pos z3]
        have e1 : (a : Int) + 1 = ((a + 1 : Nat) : Int) := by omega
        rw [if_pos z3, w212_0]
        rw [← e1] at hv
        rw [hv, YB_ret, w207_127, hx]
        by_cases y : (yre pQ b (n - (a + 1)) (a + 1) < n ∧ b (yre pQ b (n - (a + 1)) (a + 1)) = 34) ∧ yre pQ b (n - (a + 1)) (a + 1) - a - 1 ≤ 20
        · rw [if_pos y, if_pos y]
          exact ⟨_, _, _, rfl, fun _ => rfl, fun u => (by rcases u with u | u <;> cases u), fun _ => ⟨rfl, rfl, by omega, by omega⟩⟩
        · rw [if_neg y, if_neg y]
          exact ⟨_, _, _, rfl, fun u => (u rfl).elim, fun u => (by rcases u with u | u <;> cases u), fun u => by cases u⟩
      · have hv := r213 (q := q) (d := d) (js := js) hn hn2 h43 hb ha
        rw [if_neg z3, hv]
        unfold ytk1
        rw [if_neg z1, if_neg z2, if_neg z3]
        generalize (if a + 1 < n then b (a + 1) else 0) = x9
        have kl := yKf_le ((ylshl (yi2l (b a)) 8) ||| yi2l x9)
        have kl2 := yKf_le (yi2l (b a))
        by_cases y : (b a = 60 ∨ b a = 62) ∧ yKf ((ylshl (yi2l (b a)) 8) ||| yi2l x9) ≠ 62
        · rw [if_pos y, if_pos y, YB_ret, w207_136]
          exact ⟨_, 0, 0, rfl, fun _ => rfl, fun u => by have u : yKf ((ylshl (yi2l (b a)) 8) ||| yi2l x9) = 62 ∨ yKf ((ylshl (yi2l (b a)) 8) ||| yi2l x9) = 63 := u; have := y.2; omega, fun u => by have u : yKf ((ylshl (yi2l (b a)) 8) ||| yi2l x9) = 64 := u; omega⟩
        · rw [if_neg y, if_neg y, YB_ret, w207_136]
          by_cases y2 : yKf (yi2l (b a)) = 62
          · rw [if_pos y2, if_pos y2]
            exact ⟨_, 0, 0, rfl, fun u => (u rfl).elim, fun u => (by rcases u with u | u <;> cases u), fun u => by cases u⟩
          · rw [if_neg y2, if_neg y2]
            exact ⟨_, 0, 0, rfl, fun _ => rfl, fun u => by have u : yKf (yi2l (b a)) = 62 ∨ yKf (yi2l (b a)) = 63 := u; omega, fun u => by have u : yKf (yi2l (b a)) = 64 := u; omega⟩
end YRVL
end YRV
