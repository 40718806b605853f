/-! THE CLASS EVALUATES: its answer -/
section YEW
/-- a text of a token -/
def yTq (b : Nat → Int) (n p m : Nat) : Prop := m ≤ 20 ∧ p + m ≤ n ∧ ∀ i, i < m → 32 ≤ b (p + i) ∧ b (p + i) ≤ 126
theorem ytxb_at {S : yS} {n p m : Nat} (h12 : gI S 12 = n) (h : yTq (tb S) n p m) {i : Nat} {y : Int} (hi : (ytxb S p m)[i]? = some y) : i < m ∧ y = tb S (p + i) ∧ 32 ≤ y ∧ y ≤ 126 := by
  obtain ⟨h1, h2, h3⟩ := h
  have hl := (List.getElem?_eq_some_iff.mp hi).1
  unfold ytxb at hl hi
  rw [List.length_map, List.length_range] at hl
  rw [List.getElem?_map, List.getElem?_range hl] at hi
  have hi : yi2b (yi2b (tbl S ((p + i : Nat) : Int))) = y := Option.some.inj hi
  have e : tbl S ((p + i : Nat) : Int) = tb S (p + i) := by
    unfold tbl
    rw [if_pos (by omega), Int.toNat_natCast]
  obtain ⟨b1, b2⟩ := h3 i hl
  have e1 : yi2b (tb S (p + i)) = tb S (p + i) := yi2b_eq (by omega)
  rw [e, e1, e1] at hi
  exact ⟨hl, hi.symm, by omega, by omega⟩
theorem ytxb_60 {S : yS} {n p m : Nat} (h12 : gI S 12 = n) (h : yTq (tb S) n p m) : yT60 (ytxb S p m) := by
  refine ⟨by rw [ytxb_len]; have := h.1; omega, fun y hy => ?_⟩
  obtain ⟨i, hi, he⟩ := List.getElem_of_mem hy
  have := ytxb_at h12 h (i := i) (y := y) (by rw [List.getElem?_eq_getElem hi, he])
  omega
theorem yTf_67 {l : yTl} (h : ∀ j, j < l.length → (yTf l j).1 < 67) (t : Nat) : (yTf l t).1 < 67 := by
  by_cases z : t < l.length
  · exact h t z
  · unfold yTf
    rw [List.getElem?_eq_none (by omega)]
    show 66 < 67
    omega
theorem yTf_in {l : yTl} {t : Nat} (h : (yTf l t).1 = 64) : t < l.length := by
  by_cases z : t < l.length
  · exact z
  · unfold yTf at h
    rw [List.getElem?_eq_none (by omega)] at h
    have h : 66 = 64 := h
    omega
theorem ytq_tk {b : Nat → Int} {n : Nat} (hn : n ≤ 2000) (hl : (ytq b n).length ≤ 2001) (hb : ∀ i, i < n → 0 ≤ b i ∧ b i ≤ 255) {t : Nat} (hk : (yTf (ytq b n) t).1 = 64) : yTq b n ((yTf (ytq b n) t).2.1 + 1) (yTf (ytq b n) t).2.2.toInt.toNat := by
  obtain ⟨m, m1, m2, m3, m4⟩ := ytq_txt hn hl hb (yTf_in hk) hk
  rw [m1, (ytq_64 m2).1]
  exact ⟨m2, by omega, m4⟩
/-- how an evaluation comes out -/
def yevo (T : yTk) (r : yPr) (e : yEnv) : Option yVal ⊕ (Nat × Nat) := match r with
  | .inl p => .inr (1, p)
  | .inr (t, _, m) => if (T t).1 = 65 then (match m with
    | .inl x => .inr x
    | .inr x => .inl (x.2.2.2.2 e)) else .inr (1, (T t).2.1)
/-- a row's cells, nothing else -/
def yen (t : Nat → Int) (w : Nat → Int64) : yEnv := fun op k => if op = 2 then yvc (t k) (w k) else .inl 0
def yeA (c : Nat) (op k : Nat) : Prop := (op = 2 ∧ k < c) ∨ op = 5
/-- what the class answers -/
def cAn (S : yS) (code : Int) (o : Option yVal ⊕ (Nat × Nat)) : Prop := match o with
  | .inr (n, p) => code = n ∧ gI S 18 = p ∧ cV S 27 (.inl 0)
  | .inl none => code = 8 ∧ gI S 18 = -1 ∧ cV S 27 (.inl 0)
  | .inl (some (.inl x)) => code = 0 ∧ gI S 18 = -1 ∧ cV S 27 (.inl x)
  | .inl (some (.inr l)) => code = 7 ∧ gI S 18 = -1 ∧ cV S 27 (.inr l)
theorem ynm_0 {S : yS} {c : Nat} {t : Nat → Int} {w : Nat → Int64} (h10 : gI S 10 = c) (hc : c ≤ 8) (hT : ∀ k, k < c → gA S 20 k = t k ∧ (t k = 0 ∨ t k = 1)) : ∀ v op i x, ynmS S 0 v = some (op, i, x) → 2 ≤ op ∧ op ≤ 4 ∧ i < 8 ∧ yeA c op i ∧ yvt (yen t w op i) x := by
  intro v op i x h
  unfold ynmS at h
  rw [h10, Int.toNat_natCast] at h
  rcases yfind_c (f := gB S 6) (v := v) hc with hf | ⟨k, hk, hf⟩
  · rw [hf, if_neg (by omega), if_neg (fun z => z.1 rfl), if_neg (fun z => absurd z.1 (by omega))] at h
    nomatch h
  · rw [hf, if_pos (by omega), Int.toNat_natCast] at h
    injection h with h
    injection h with h1 h
    injection h with h2 h3
    subst h1 h2 h3
    obtain ⟨t1, t2⟩ := hT k hk
    refine ⟨by omega, by omega, by omega, Or.inl ⟨rfl, hk⟩, ?_⟩
    have e : yr (gA S 20 k) = t k := by rw [t1]; rcases t2 with z | z <;> rw [z] <;> rfl
    have e2 : yen t w 2 k = yvc (t k) (w k) := if_pos rfl
    rw [e, e2]
    exact yvc_t
/-- slots between the row's and the specials' are as they were -/
def yFz (c : Nat) (S S' : yS) : Prop := yFr yWe S S' ∧ (∀ m, c ≤ m → m < 24 → gA S' 30 m = gA S 30 m ∧ gB S' 9 m = gB S 9 m ∧ gA S' 31 m = gA S 31 m) ∧ ∀ j, 60 * c ≤ j → j < 1440 → gA S' 32 j = gA S 32 j
theorem yFz_tr {c : Nat} {A B C : yS} (h1 : yFz c A B) (h2 : yFz c B C) : yFz c A C := ⟨yFr_tr h1.1 h2.1, fun m a b => ⟨(h2.2.1 m a b).1.trans (h1.2.1 m a b).1, (h2.2.1 m a b).2.1.trans (h1.2.1 m a b).2.1, (h2.2.1 m a b).2.2.trans (h1.2.1 m a b).2.2⟩, fun j a b => (h2.2.2 j a b).trans (h1.2.2 j a b)⟩
theorem yFz_l {c : Nat} {A B : yS} (h : yFl c A B) : yFz c A B := ⟨yWe_m h.1, fun m a _ => h.2.1 m a, fun j a _ => h.2.2 j a⟩
theorem yFz_s {c n : Nat} {A B : yS} (h : yFs n A B) (hn : 24 ≤ n) : yFz c A B := ⟨yWe_m h.1, fun m _ b => h.2.1 m (by omega), fun j _ b => h.2.2 j (by omega)⟩
theorem yFz_r {c : Nat} {A B : yS} {st : List yVal} (h : cRp A B st) : yFz c A B := ⟨yWe_m h.1, fun m _ b => h.2.1 m (by omega), fun j _ b => h.2.2.1 j (by omega)⟩
theorem cV_fl {c m : Nat} {A B : yS} {v : yVal} (h : yFl c A B) (hm : c ≤ m) (hv : cV A m v) : cV B m v := by
  obtain ⟨h1, h2, h3⟩ := h
  obtain ⟨a, b, d⟩ := h2 m hm
  match v, hv with
  | .inl x, hv => exact ⟨a.trans hv.1, b.trans hv.2.1, d.trans hv.2.2⟩
  | .inr l, hv =>
    refine ⟨a.trans hv.1, d.trans hv.2.1, hv.2.2.1, fun i y hi => ?_⟩
    have hl := (List.getElem?_eq_some_iff.mp hi).1
    rw [h3 _ (by omega)]
    exact hv.2.2.2 i y hi
section YEWL
variable {q : yQ} {js : List xO} {S : yS}
theorem c173 {row : Int} {n c e : Nat} {t : Nat → Int} {w : Nat → Int64} (h12 : gI S 12 = n) (hn : n ≤ 2000) (h10 : gI S 10 = c) (hc : c ≤ 8) (h11 : 0 ≤ gI S 11 ∧ gI S 11 ≤ 320) (h8 : 0 ≤ gI S 8 ∧ gI S 8 ≤ 8) (h9 : 0 ≤ gI S 9 ∧ gI S 9 ≤ 8) (h5 : gA S 5 0 = 0) (hb : ∀ i, i < n → 0 ≤ tb S i ∧ tb S i ≤ 255) (hrow : -1 ≤ row ∧ row < nrow (gI S 10) (gI S 11)) (hr40 : row < 40) (hT : ∀ k, k < c → gA S 20 k = t k ∧ (t k = 0 ∨ (t k = 1 ∧ yOkN (w k).toBitVec.toNat)) ∧ w k = if row < 0 then 0 else gB S 7 (row * c + k).toNat) : ∃ (S' : yS) (code : Int), Y q (e + 172) 173 0 [vr 75, vi row] [] S js = yret q (vi code) S' js ∧ yFr yWe S S' ∧ gI S' 12 = 0 ∧ gA S' 5 0 = 0 ∧ (∀ m, c ≤ m → m < 24 → gA S' 30 m = gA S 30 m ∧ gB S' 9 m = gB S 9 m ∧ gA S' 31 m = gA S 31 m) ∧ (∀ j, 60 * c ≤ j → j < 1440 → gA S' 32 j = gA S 32 j) ∧ cAn S' code (yevo (yTf (ytq (tb S) n)) (yexp (yTf (ytq (tb S) n)) (ytxb S) (ynmS S 0) false yOO 12 0 0 0 100) (yen t w)) := by
  obtain ⟨S5, r, a1, a2, a3, a4, hl, a6⟩ := c173a (q := q) (js := js) (S := S) (O := yOO) (e := e) h12 hn (by omega) h11 h8 h9 h5 hb hrow hr40
  obtain ⟨hT', hpl⟩ := ytq_to hn hl
  obtain ⟨T, hTd⟩ : ∃ T, T = yTf (ytq (tb S) n) := ⟨_, rfl⟩
  obtain ⟨N, hNd⟩ : ∃ N, N = (ytq (tb S) n).length := ⟨_, rfl⟩
  rw [← hTd, ← hNd] at a6
  rw [← hTd, ← hNd] at hT'
  rw [← hTd]
  obtain ⟨P, hP⟩ : ∃ P, P = yexp T (ytxb S) (ynmS S 0) false yOO 12 0 0 0 100 := ⟨_, rfl⟩
  rw [← hP] at a6 ⊢
  have k67 : ∀ t', t' < N → (T t').1 < 67 := fun t' ht => (hT'.2.2.2.2 t' ht).2
  -- an error that is told
  have tell : ∀ (S6 : yS) (m p : Nat), yFr yWk S5 S6 → 1 ≤ m → m ≤ 6 → gI S6 17 = m → gI S6 18 = p → gA S6 5 0 = 0 → ∃ (S' : yS) (code : Int), yret q (vi (gI S6 17)) (sI S6 12 0) js = yret q (vi code) S' js ∧ yFr yWe S S' ∧ gI S' 12 = 0 ∧ gA S' 5 0 = 0 ∧ (∀ m, c ≤ m → m < 24 → gA S' 30 m = gA S 30 m ∧ gB S' 9 m = gB S 9 m ∧ gA S' 31 m = gA S 31 m) ∧ (∀ j, 60 * c ≤ j → j < 1440 → gA S' 32 j = gA S 32 j) ∧ cAn S' code (.inr (m, p)) := by
    intro S6 m p f hm hm2 h17 h18 g5
    have f' : yFr yWe S5 S6 := yFr_mo f fun s k ek => by
      unfold yWe at ek
      simp only [Bool.or_eq_false_iff] at ek
      exact yWx_k (u := 1) (by
        have := ek.1.1.1.2
        unfold yWy at this
        simp only [Bool.or_eq_false_iff] at this
        exact this.1.1)
    have g30 : gA S6 30 = gA S5 30 := f.2.2.2.1 _ rfl
    have g31 : gA S6 31 = gA S5 31 := f.2.2.2.1 _ rfl
    have g32 : gA S6 32 = gA S5 32 := f.2.2.2.1 _ rfl
    have g9 : gB S6 9 = gB S5 9 := f.2.2.2.2.1 _ rfl
    refine ⟨sI S6 12 0, gI S6 17, rfl, yFr_tr a2 (yFr_tr f' (yFr_I rfl)), gI_self _ _ _, g5, fun i h1 h2 => ?_, fun j h1 h2 => ?_, ?_⟩
    · show gA S6 30 i = _ ∧ gB S6 9 i = _ ∧ gA S6 31 i = _
      rw [g30, g31, g9]
      exact a3.1 i (by omega)
    · show gA S6 32 j = _
      rw [g32]
      exact a3.2 j (by omega)
    · exact ⟨h17, h18, cV_e (A := S5) (B := sI S6 12 0) a4 g30 g9 g31 g32⟩
  -- the expression does not end where it should
  have refu : ∀ p : Nat, gI S5 16 = p → ((gI S5 17 = 1 → gI S5 18 = p) ∧ 0 ≤ gI S5 17 ∧ gI S5 17 ≤ 6) → gA S5 5 0 = 0 → ∃ (S' : yS) (code : Int), YB q (Y q (e + 171) 155 0 [vr 80] [] S5 js) (e + 172) 173 79 [vr 75, vi row] [] = yret q (vi code) S' js ∧ yFr yWe S S' ∧ gI S' 12 = 0 ∧ gA S' 5 0 = 0 ∧ (∀ m, c ≤ m → m < 24 → gA S' 30 m = gA S 30 m ∧ gB S' 9 m = gB S 9 m ∧ gA S' 31 m = gA S 31 m) ∧ (∀ j, 60 * c ≤ j → j < 1440 → gA S' 32 j = gA S 32 j) ∧ cAn S' code (.inr (1, p)) := by
    intro p h16 hh g5
    obtain ⟨S6, b1, b2, b3, b4⟩ := c155 (q := q) (d := e + 171) (js := js) h16 hh
    have e1 : yr (gI S6 17) = 1 := by rw [b4]; rfl
    have := tell S6 1 p b2 (by omega) (by omega) b4 (b3.2.2.1 b4) (by rw [b2.2.2.2.1 5 rfl]; exact g5)
    rw [b1, YB_retv, w173_82, e1, if_neg (by omega)]
    exact this
  have g5 : gA S5 5 0 = 0 := (a6.2.1.2.2.2.2 0 a6.2.1.2.2.1).2.2 rfl
  rw [a1, w173_61]
  rcases P with p | ⟨t', b', ⟨m, p⟩ | x⟩
  · obtain ⟨d1, d2, d3, d4, d5⟩ := a6.2.2
    rw [if_pos (by rw [d1]; omega), d1, if_neg (by omega)]
    exact refu p d2 ⟨d3, d4, d5⟩ g5
  · obtain ⟨hA, hE⟩ := a6.2.2
    obtain ⟨c1, c2, c3, c4, c5, c6, c7, c8⟩ := hA
    obtain ⟨e1, e2, e3, e4⟩ := hE
    rw [c6, if_pos (by have := k67 t' c2; omega)]
    show ∃ (S' : yS) (code : Int), _ ∧ _ ∧ _ ∧ _ ∧ _ ∧ _ ∧ cAn S' code (if (T t').1 = 65 then .inr (m, p) else .inr (1, (T t').2.1))
    by_cases z : (T t').1 = 65
    · have em : yr (gI S5 17) = m := by rw [e1, yr_eq] <;> omega
      rw [if_pos z, if_pos z, em, if_neg (by omega)]
      exact tell S5 m p (yFr_rf _ _) (by omega) e4 e1 e2 g5
    · rw [if_neg z, if_neg z]
      exact refu _ c7 ⟨fun h => by omega, by omega, by omega⟩ g5
  · have a7 : cNd T N 1 S5 (yadm 1 (.inr (t', 1000000, .inr (x.2.2.1, yTexts (ytxb S) x.2.2.2.1))) 30 0) := a6
    obtain ⟨C, hC1, hA, hE, hK, hX⟩ : ∃ C : yCo, (C = x.2.2.1 ++ [(30, 0)] ∨ C = x.2.2.1) ∧ cA S5 T N t' 1000000 ∧ cE S5 none ∧ cK S5 1 C ∧ cX S5 1 (yTexts (ytxb S) x.2.2.2.1) := by
      by_cases z : (x.2.2.1.length : Int) < capu 1
      · rw [yadm_in z] at a7
        exact ⟨_, Or.inl rfl, a7.2.2.1, a7.2.2.2.1, a7.2.2.2.2.1, a7.2.2.2.2.2⟩
      · rw [yadm_no z] at a7
        exact ⟨_, Or.inr rfl, a7.2.2.1, a7.2.2.2.1, a7.2.2.2.2.1, a7.2.2.2.2.2⟩
    obtain ⟨o1, o2, o3, o4, o5⟩ := a6.2.1
    obtain ⟨c1, c2, c3, c4, c5, c6, c7, c8⟩ := hA
    obtain ⟨e1, e2⟩ := hE
    rw [c6, if_pos (by have := k67 t' c2; omega)]
    show ∃ (S' : yS) (code : Int), _ ∧ _ ∧ _ ∧ _ ∧ _ ∧ _ ∧ cAn S' code (if (T t').1 = 65 then .inl (x.2.2.2.2 (yen t w)) else .inr (1, (T t').2.1))
    by_cases z : (T t').1 = 65
    · obtain ⟨Sa, hSa⟩ : ∃ Sa, Sa = sI S5 12 0 := ⟨_, rfl⟩
      have aK : cK Sa 1 C := by rw [hSa]; exact hK
      have aX : cX Sa 1 (yTexts (ytxb S) x.2.2.2.1) := by rw [hSa]; exact hX
      have a27 : cV Sa 27 (.inl 0) := by rw [hSa]; exact a4
      have a18 : gI Sa 18 = -1 := by rw [hSa]; exact e2
      have a12 : gI Sa 12 = 0 := by rw [hSa]; exact gI_self _ _ _
      have a5 : gA Sa 5 0 = 0 := by rw [hSa]; exact g5
      have za : yFz c S Sa := by
        rw [hSa]
        exact ⟨yFr_tr a2 (yFr_I rfl), fun m _ h => a3.1 m (by omega), fun j _ h => a3.2 j (by omega)⟩
      rw [if_pos z, if_pos z, e1, if_pos yr_0, ← hSa]
      obtain ⟨S6, b1, b2, b3⟩ := c72 (q := q) (d := e + 169) (js := js) (S0 := Sa) (row := row) (t := t) (w := w) hc ⟨hrow.1, hr40⟩ (by rw [za.1.1 10 rfl]; exact h10) (fun k hk => by
        rw [za.1.2.2.2.1 20 rfl, za.1.2.2.2.2.1 7 rfl]
        exact hT k hk)
      obtain ⟨S7, d1, d2, d3⟩ := c71 (q := q) (d := e + 171) (js := js) (S := S6) (n := 24) (x := 0) (by omega)
      obtain ⟨S8, f1, f2, f3⟩ := c71 (q := q) (d := e + 171) (js := js) (S := S7) (n := 25) (x := 0) (by omega)
      obtain ⟨S9, i1, i2, i3⟩ := c71 (q := q) (d := e + 171) (js := js) (S := S8) (n := 26) (x := 0) (by omega)
      have m9 : yFr yWm Sa S9 := yFr_tr b2.1 (yFr_tr d2.1 (yFr_tr f2.1 i2.1))
      have z9 : yFz c S S9 := yFz_tr za (yFz_tr (yFz_l b2) (yFz_tr (yFz_s d2 (by omega)) (yFz_tr (yFz_s f2 (by omega)) (yFz_s i2 (by omega)))))
      have v27 : cV S9 27 (.inl 0) := cV_fs i2 (by omega) (cV_fs f2 (by omega) (cV_fs d2 (by omega) (cV_fl b2 (by omega) a27)))
      have hcap : (C.length : Int) ≤ capu 1 := by rw [← hK.1]; exact o2
      have hTx : yTx (yTexts (ytxb S) x.2.2.2.1) := by
        have q1 : gI S5 3 = ((yTexts (ytxb S) x.2.2.2.1).length : Int) := hX.1
        have q2 : gA S5 5 (yTexts (ytxb S) x.2.2.2.1).length = (ysl (yTexts (ytxb S) x.2.2.2.1) (yTexts (ytxb S) x.2.2.2.1).length : Nat) := hX.2.1 _ (Nat.le_refl _)
        have q3 : gI S5 3 ≤ 1000 := o4
        have q4 : gA S5 5 (yTexts (ytxb S) x.2.2.2.1).length ≤ 2000 := (o5 (yTexts (ytxb S) x.2.2.2.1).length (by show ((yTexts (ytxb S) x.2.2.2.1).length : Int) ≤ gI S5 3; omega)).2.1
        refine ⟨by omega, by omega⟩
      have he : cEn S9 (yeA c) (yen t w) := by
        intro op k h1 h2 hk hk2 hA'
        rcases hA' with ⟨rfl, hkc⟩ | rfl
        · have e0 : yen t w 2 k = yvc (t k) (w k) := if_pos rfl
          rw [e0, show 8 * (2 - 2) + k = k by omega]
          exact cV_fs i2 (by omega) (cV_fs f2 (by omega) (cV_fs d2 (by omega) (b3 k hkc)))
        · have e0 : yen t w 5 k = .inl 0 := if_neg (by omega)
          rw [e0]
          have hk3 : k = 0 ∨ k = 1 ∨ k = 2 := by omega
          rcases hk3 with rfl | rfl | rfl
          · exact cV_fs i2 (by omega) (cV_fs f2 (by omega) d3)
          · exact cV_fs i2 (by omega) f3
          · exact i3
      have hM := cMach (q := q) (d := e + 169) (js := js) (S0 := S9) (x0 := ((0 : Nat) : Int)) (u := 1) (C := C) (X := x.2.2.2.1) (tx := ytxb S) (Tk := yTq (tb S) n) (e := yen t w) (A := yeA c) (Or.inr rfl) (cK_m (Or.inr rfl) aK m9) hcap (cX_m (Or.inr rfl) aX m9) hTx (fun p m hp => ytxb_60 h12 hp) he
      have gd := yexp_gd (T := T) (nm := ynmS S 0) (decl := false) hM (fun t2 => by rw [hTd]; exact yTf_67 (fun j hj => (ytq_to hn hl).1.2.2.2.2 j hj |>.2) t2) (fun t2 h64 => by
        rw [hTd] at h64 ⊢
        have hq := ytq_tk hn hl hb h64
        exact ⟨hq, (ytxb_60 h12 hq).1⟩) (ynm_0 h10 hc (fun k hk => ⟨(hT k hk).1, by rcases (hT k hk).2.1 with h | h; exact Or.inl h; exact Or.inr h.1⟩)) (fun i hi => ⟨Or.inr rfl, rfl⟩) (rd := 12) (by omega)
      have run := gd 0 0 0 100 t' b' x hP.symm (fun j i hj => by
        rw [Nat.zero_add]
        rcases hC1 with h | h
        · rw [h, List.getElem?_append_left (List.getElem?_eq_some_iff.mp hj).1]
          exact hj
        · rw [h]
          exact hj) (fun j p hj => by rw [Nat.zero_add]; exact hj)
      have r75 := c75 (q := q) (d := e + 169) (js := js) (S0 := S9) (u := 1) (Or.inr rfl) (cK_m (Or.inr rfl) aK m9) hcap (by omega) run (by
        rcases hC1 with h | h
        · refine Or.inr ⟨0, ?_⟩
          rw [h, Nat.zero_add, List.getElem?_append_right (Nat.le_refl _), Nat.sub_self]
          rfl
        · refine Or.inl ?_
          rw [h, Nat.zero_add])
      have d1 : Y q (e + 171) 71 0 [vr 118, vi 24, vj 0, vu] [] S6 js = yretv q S7 js := d1
      have f1 : Y q (e + 171) 71 0 [vr 118, vi 25, vj 0, vu] [] S7 js = yretv q S8 js := f1
      have i1 : Y q (e + 171) 71 0 [vr 118, vi 26, vj 0, vu] [] S8 js = yretv q S9 js := i1
      rw [b1, YB_retv, w173_116, d1, YB_retv, w173_126, f1, YB_retv, w173_136, i1, YB_retv, w173_146]
      cases hd : x.2.2.2.2 (yen t w) with
      | none =>
        rw [hd] at r75
        obtain ⟨S10, j1, j2⟩ := r75
        have j1 : Y q (e + 171) 75 0 [vr 118, vr 111, vi 0, vu, vu, vu, vu, vu, vu] [] S9 js = yret q (vi 0) S10 js := j1
        rw [j1, YB_ret, w173_158, if_pos yr_0]
        have zz := yFz_tr z9 (yFz_r (c := c) j2)
        refine ⟨S10, 8, rfl, zz.1, ?_, ?_, zz.2.1, zz.2.2, rfl, ?_, cV_low j2 (by omega) v27⟩
        · rw [j2.1.1 12 rfl, m9.1 12 rfl, a12]
        · rw [j2.1.2.2.2.1 5 rfl, m9.2.2.2.1 5 rfl, a5]
        · rw [j2.1.1 18 rfl, m9.1 18 rfl, a18]
      | some v =>
        rw [hd] at r75
        obtain ⟨_, S10, j1, j2⟩ := r75
        have j1 : Y q (e + 171) 75 0 [vr 118, vr 111, vi 0, vu, vu, vu, vu, vu, vu] [] S9 js = yret q (vi 1) S10 js := j1
        obtain ⟨S11, l1, l2, l3⟩ := c78 (q := q) (d := e + 171) (js := js) (S := S10) (f := 28) (t := 27) (v := v) (by omega) (by omega) (by omega) (j2.2.2.2 0 v rfl)
        have l1 : Y q (e + 171) 78 0 [vr 118, vi 28, vi 27, vu] [] S10 js = yretv q S11 js := l1
        have n1 : ¬ yr 1 = 0 := by decide
        have k27 : 0 ≤ yr 27 ∧ yr 27 < 92 := by decide
        have y27 : (yr 27).toNat = 27 := by decide
        rw [j1, YB_ret, w173_158, if_neg n1, l1, YB_retv, w173_175, if_pos k27, y27]
        have zz := yFz_tr z9 (yFz_tr (yFz_r (c := c) j2) (yFz_s l2 (by omega)))
        have q12 : gI S11 12 = 0 := by rw [l2.1.1 12 rfl, j2.1.1 12 rfl, m9.1 12 rfl, a12]
        have q5 : gA S11 5 0 = 0 := by rw [l2.1.2.2.2.1 5 rfl, j2.1.2.2.2.1 5 rfl, m9.2.2.2.1 5 rfl, a5]
        have q18 : gI S11 18 = -1 := by rw [l2.1.1 18 rfl, j2.1.1 18 rfl, m9.1 18 rfl, a18]
        match v, l3 with
        | .inl y, l3 =>
          rw [l3.1, if_pos yr_0]
          exact ⟨S11, 0, rfl, zz.1, q12, q5, zz.2.1, zz.2.2, rfl, q18, l3⟩
        | .inr l, l3 =>
          rw [l3.1, if_neg n1]
          exact ⟨S11, 7, rfl, zz.1, q12, q5, zz.2.1, zz.2.2, rfl, q18, l3⟩
    · rw [if_neg z, if_neg z]
      exact refu _ c7 ⟨fun h => by omega, by omega, by omega⟩ g5
end YEWL
end YEW
