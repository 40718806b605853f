/-! taken from whole by wip/p27/slice2.py: 52.toks.lean.txt -/
section YTS
/-- the tokens from a place on, up to the end or to one that is none -/
def ytoks (b : Nat → Int) (n : Nat) : Nat → Nat → List (Nat × Nat × Int64)
  | 0, _ => []
  | f + 1, k => if n ≤ k then [(65, n, 0)] else if b k = 32 ∨ b k = 10 then ytoks b n f (k + 1) else ((ytk1 b n k).1, k, (ytk1 b n k).2.1) :: (if (ytk1 b n k).1 = 66 then [] else ytoks b n f (ytk1 b n k).2.2)
theorem ytk1_next {b : Nat → Int} {n k : Nat} (h : k < n) : k < (ytk1 b n k).2.2 ∧ (ytk1 b n k).1 < 67 ∧ (ytk1 b n k).2.2 ≤ n + 1 := by
  have r1 := yre_rng (p := pLD) (b := b) (m := n - k) (k := k)
  have r2 := yre_rng (p := pD) (b := b) (m := n - k) (k := k)
  have r3 := yre_rng (p := pQ) (b := b) (m := n - (k + 1)) (k := k + 1)
  have one : ∀ (p : Int → Bool), p (b k) = true → k < yre p b (n - k) k := by
    intro p hp
    have e : n - k = (n - (k + 1)) + 1 := by omega
    rw [e]
    unfold yre
    rw [hp]
    have := yre_rng (p := p) (b := b) (m := n - (k + 1)) (k := k + 1)
    show k < yre p b (n - (k + 1)) (k + 1)
    omega
  unfold ytk1
  by_cases z1 : yL (b k)
  · rw [if_pos z1]
    split
    · exact ⟨h, by show 66 < 67; omega, by show n ≤ n + 1; omega⟩
    · exact ⟨one pLD (decide_eq_true (Or.inl z1)), yKf_lt _, by show yre pLD b (n - k) k ≤ n + 1; omega⟩
  · rw [if_neg z1]
    by_cases z2 : 48 ≤ b k ∧ b k ≤ 57
    · rw [if_pos z2]
      split
      · exact ⟨h, by show 66 < 67; omega, by show n ≤ n + 1; omega⟩
      · exact ⟨one pD (decide_eq_true z2), by show 63 < 67; omega, by show yre pD b (n - k) k ≤ n + 1; omega⟩
    · rw [if_neg z2]
      by_cases z3 : b k = 34
      · rw [if_pos z3]
        split
        · exact ⟨by show k < yre pQ b (n - (k + 1)) (k + 1) + 1; omega, by show 64 < 67; omega, by show yre pQ b (n - (k + 1)) (k + 1) + 1 ≤ n + 1; omega⟩
        · exact ⟨h, by show 66 < 67; omega, by show n ≤ n + 1; omega⟩
      · rw [if_neg z3]
        generalize (if k + 1 < n then b (k + 1) else 0) = nx
        split
        · exact ⟨by show k < k + 2; omega, yKf_lt _, by show k + 2 ≤ n + 1; omega⟩
        · split
          · exact ⟨h, by show 66 < 67; omega, by show n ≤ n + 1; omega⟩
          · exact ⟨by show k < k + 1; omega, yKf_lt _, by show k + 1 ≤ n + 1; omega⟩
/-- rows hold tokens from some place on -/
def yHold (S : yS) (c : Nat) (T : List (Nat × Nat × Int64)) : Prop := ∀ (j : Nat) (t : Nat × Nat × Int64), T[j]? = some t → gC S 2 (c + j) = t.1 ∧ gA S 22 (c + j) = t.2.1 ∧ gB S 8 (c + j) = t.2.2
/-- rows agree below a place -/
def ySame (c : Nat) (S S' : yS) : Prop := ∀ j : Nat, j < c → gC S' 2 j = gC S 2 j ∧ gA S' 22 j = gA S 22 j ∧ gB S' 8 j = gB S 8 j
theorem yat_same {S : yS} {kd : Nat} {st : Int} {v : Int64} {c : Nat} (hc : gI S 13 = c) : ySame c S (yat S kd st v) := by
  intro j hj
  have e : (gI S 13).toNat = c := by omega
  refine ⟨?_, ?_, ?_⟩
  · show gC (sC S 2 (gI S 13).toNat kd) 2 j = _
    rw [e, gC_self, if_neg (by omega)]
  · show gA (sA (sC S 2 (gI S 13).toNat kd) 22 (gI S 13).toNat st) 22 j = _
    rw [e, gA_self, if_neg (by omega)]
    rfl
  · show gB (sB (sA (sC S 2 (gI S 13).toNat kd) 22 (gI S 13).toNat st) 8 (gI S 13).toNat v) 8 j = _
    rw [e, gB_self, if_neg (by omega)]
    rfl
theorem yat_at {S : yS} {kd : Nat} {st : Int} {v : Int64} {c : Nat} (hc : gI S 13 = c) : gC (yat S kd st v) 2 c = kd ∧ gA (yat S kd st v) 22 c = st ∧ gB (yat S kd st v) 8 c = v := by
  have e : (gI S 13).toNat = c := by omega
  refine ⟨?_, ?_, ?_⟩
  · show gC (sC S 2 (gI S 13).toNat kd) 2 c = _
    rw [e, gC_self, if_pos rfl]
  · show gA (sA (sC S 2 (gI S 13).toNat kd) 22 (gI S 13).toNat st) 22 c = _
    rw [e, gA_self, if_pos rfl]
  · show gB (sB (sA (sC S 2 (gI S 13).toNat kd) 22 (gI S 13).toNat st) 8 (gI S 13).toNat v) 8 c = _
    rw [e, gB_self, if_pos rfl]
theorem ySame_tr {c : Nat} {A B C : yS} (h1 : ySame c A B) (h2 : ySame c B C) : ySame c A C := fun j hj => ⟨(h2 j hj).1.trans (h1 j hj).1, (h2 j hj).2.1.trans (h1 j hj).2.1, (h2 j hj).2.2.trans (h1 j hj).2.2⟩
theorem ySame_mo {c c' : Nat} {A B : yS} (h : ySame c A B) (hc : c' ≤ c) : ySame c' A B := fun j hj => h j (by omega)
/-- the first token is looked at -/
def yfin (S : yS) : yS := sJ (sI (sK (sI (sI S 15 1000000) 14 0) 0 (gC S 2 0)) 16 (gA S 22 0)) 0 (gB S 8 0)
section YTSL
variable {q : yQ} {d : Nat} {js : List xO}
theorem c142e {S : yS} (x y : Int) (z : yV) (h : gC S 2 0 < 67) : Y q d 142 83 [vr 86, vi x, vi y, z] [] S js = yretv q (yfin S) js := by
  have h0 : (0 ≤ yr 0 ∧ yr 0 < 2001) := by decide
  have h1 : (yr 0).toNat = 0 := rfl
  rw [w142_83, h1]
  simp only [h0, h, and_self, if_true]
  rfl
theorem c142a {b : Nat → Int} {n : Nat} (hn2 : n ≤ 2000) : ∀ (f k i c : Nat) (S : yS) (x : yV), tb S = b → gI S 12 = n → gI S 13 = c → n + 1 < k + f → k ≤ n + 1 → c ≤ k → c ≤ n → i ≤ k → (∀ j : Nat, j < c → gC S 2 j < 67) → ∃ S', Y q (d + 4) 142 19 [vr 86, vi k, vi i, x] [] S js = yretv q (yfin S') js ∧ yFr yWt S S' ∧ ySame c S S' ∧ yHold S' c (ytoks b n f k) ∧ (c : Int) + (ytoks b n f k).length ≤ gI S' 13 ∧ gI S' 13 ≤ 2001
  | 0, k, i, c, S, x, hb, hn, hc, hf, hkn, hck, hcn, hik, hlt => by omega
  | f + 1, k, i, c, S, x, hb, hn, hc, hf, hkn, hck, hcn, hik, hlt => by
    have stop : ∀ (S : yS) (c : Nat) (x0 x1 : Int) (x : yV), gI S 12 = n → gI S 13 = c → c ≤ n → (∀ j : Nat, j < c → gC S 2 j < 67) → YB q (Y q (d + 3) 149 0 [vr 86, vr 65, vi (gI S 12), vj 0, vu] [] S js) (d + 4) 142 80 [vr 86, vi x0, vi x1, x] [] = yretv q (yfin (yat S 65 n 0)) js := by
      intro S c x0 x1 x hn hc hcn hlt
      rw [c149 (by omega) (by omega), YB_retv, hn]
      refine c142e x0 x1 x ?_
      by_cases z : c = 0
      · have := (yat_at (S := S) (kd := 65) (st := (n : Int)) (v := 0) hc).1
        rw [z] at this
        rw [this]
        omega
      · rw [(yat_same (S := S) (kd := 65) (st := (n : Int)) (v := 0) hc 0 (by omega)).1]
        exact hlt 0 (by omega)
    have ek : yr (k : Int) = k := yr_eq (by omega) (by omega)
    unfold ytoks
    by_cases z : n ≤ k
    · rw [if_pos z]
      refine ⟨yat S 65 n 0, ?_, yat_fr _ _ _ _, yat_same hc, ?_, ?_, ?_⟩
      · rw [w142_19, stop S c k i x hn hc hcn hlt, ek]
        split
        · rw [if_neg (by rw [yr_eq (x := gI S 12)] <;> omega)]
        · rfl
      · intro j t ht
        match j with
        | 0 => cases ht; exact yat_at hc
        | j + 1 => simp at ht
      · rw [yat_13]
        show (c : Int) + (1 : Nat) ≤ _
        omega
      · rw [yat_13]
        omega
    · rw [if_neg z]
      have hbk := tb_rng S k
      have hl : Y q (d + 3) 143 0 [vr 86, vi (k : Int)] [] S js = yret q (vi (tb S k)) S js := by rw [c143 (by omega) (by omega) (by omega), tb_in hn (by omega)]
      have eb : yr (tb S k) = tb S k := yr_eq (by omega) (by omega)
      have e32 : yr 32 = 32 := rfl
      have e10 : yr 10 = 10 := rfl
      have ei1 : (i : Int) + 1 = ((i + 1 : Nat) : Int) := by omega
      have ek1 : (k : Int) + 1 = ((k + 1 : Nat) : Int) := by omega
      rw [w142_19, if_pos (by rw [yr_eq, yr_eq] <;> omega), if_pos (by rw [yr_eq, yr_eq] <;> omega), hl, YB_ret, w142_39, eb, e32, e10, c144 hn hn2 (by omega) (by omega), YB_ret, w142_64, ei1, ek1]
      have hbk' : tb S k = b k := by rw [hb]
      rw [hbk', hb]
      by_cases y : b k = 32 ∨ b k = 10
      · obtain ⟨S', e, r⟩ := c142a hn2 f (k + 1) (i + 1) c S (vi (b k)) hb hn hc (by omega) (by omega) (by omega) hcn (by omega) hlt
        rw [if_pos y]
        refine ⟨S', ?_, r⟩
        rcases y with y | y
        · rw [if_pos y]; exact e
        · rw [if_neg (by omega), if_pos y]; exact e
      · have hx := ytk1_next (b := b) (n := n) (k := k) (by omega)
        rw [if_neg y, if_neg (fun w => y (Or.inl w)), if_neg (fun w => y (Or.inr w))]
        have hl2 : ∀ j : Nat, j < c + 1 → gC (yat S (ytk1 b n k).1 k (ytk1 b n k).2.1) 2 j < 67 := by
          intro j hj
          by_cases w : j = c
          · rw [w, (yat_at (S := S) (kd := (ytk1 b n k).1) (st := (k : Int)) (v := (ytk1 b n k).2.1) hc).1]
            exact hx.2.1
          · rw [(yat_same (S := S) (kd := (ytk1 b n k).1) (st := (k : Int)) (v := (ytk1 b n k).2.1) hc j (by omega)).1]
            exact hlt j (by omega)
        obtain ⟨S', e, r1, r2, r3, r4, r5⟩ := c142a hn2 f (ytk1 b n k).2.2 (i + 1) (c + 1) (yat S (ytk1 b n k).1 k (ytk1 b n k).2.1) (vi (b k)) hb hn (by rw [yat_13]; omega) (by omega) (by omega) (by omega) (by omega) (by omega) hl2
        have ha := yat_at (S := S) (kd := (ytk1 b n k).1) (st := (k : Int)) (v := (ytk1 b n k).2.1) hc
        have hs := r2 c (by omega)
        refine ⟨S', e, yFr_tr (yat_fr _ _ _ _) r1, ySame_tr (yat_same hc) (ySame_mo r2 (by omega)), ?_, ?_, r5⟩
        · intro j t ht
          match j with
          | 0 =>
            cases ht
            exact ⟨hs.1.trans ha.1, hs.2.1.trans ha.2.1, hs.2.2.trans ha.2.2⟩
          | j + 1 =>
            rw [List.getElem?_cons_succ] at ht
            have ej : c + (j + 1) = c + 1 + j := by omega
            rw [ej]
            split at ht
            · simp at ht
            · exact r3 j t ht
        · rw [List.length_cons]
          split
          · show (c : Int) + ((0 + 1 : Nat) : Int) ≤ _
            omega
          · omega
/-- all tokens are read, the first is looked at -/
theorem c142 {S : yS} {n : Nat} (hn : gI S 12 = n) (hn2 : n ≤ 2000) : ∃ S', Y q (d + 4) 142 0 [vr 86, vu, vu, vu] [] S js = yretv q (yfin S') js ∧ yFr (fun s k => yWt s k || (s == 0 && (k == 17 || k == 18))) S S' ∧ gI S' 17 = 0 ∧ gI S' 18 = -1 ∧ yHold S' 0 (ytoks (tb S) n (n + 2) 0) ∧ ((ytoks (tb S) n (n + 2) 0).length : Int) ≤ gI S' 13 ∧ gI S' 13 ≤ 2001 := by
  obtain ⟨S', e, r1, r2, r3, r4, r5⟩ := c142a (q := q) (d := d) (js := js) (b := tb S) hn2 (n + 2) 0 0 0 (sI (sI (sI S 17 0) 18 (-1)) 13 0) vu rfl hn rfl (by omega) (by omega) (by omega) (by omega) (by omega) (fun j hj => by omega)
  refine ⟨S', (w142_0 q (d + 4) js S).trans e, ?_, ?_, ?_, r3, by omega, r5⟩
  · refine yFr_tr (yFr_I rfl) (yFr_tr (yFr_I rfl) (yFr_tr (yFr_I rfl) (yFr_mo r1 fun s k h => ?_)))
    exact (Bool.or_eq_false_iff.mp h).1
  · exact (r1.1 17 rfl).trans rfl
  · exact (r1.1 18 rfl).trans rfl
end YTSL
end YTS
