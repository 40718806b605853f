/-! THE REFERENCE EVALUATES: its answer -/
section YRZ
/-- what the reference answers -/
def rAn (S : yS) (code : Int) (o : Option yVal ⊕ (Nat × Nat)) : Prop := match o with
  | .inr (n, p) => code = yr (n : Int) ∧ gI S 59 = yr (p : Int) ∧ gI S 62 = -1 ∧ gJ S 2 = 0
  | .inl none => code = 8 ∧ gI S 59 = -1 ∧ gI S 62 = -1 ∧ gJ S 2 = 0
  | .inl (some (.inl x)) => code = 0 ∧ gI S 59 = -1 ∧ gI S 62 = -1 ∧ gJ S 2 = x
  | .inl (some (.inr l)) => code = 7 ∧ gI S 59 = -1 ∧ gI S 62 = l.length ∧ gJ S 2 = yi2l l.length ∧ l.length ≤ 60 ∧ ∀ (i : Nat) (y : Int), l[i]? = some y → gA S 56 i = y
section YRZL
variable {q : yQ} {js : List xO} {S : yS}
theorem rNo_u {S' : yS} (h : rNo S) (hf : yFr yWu S S') : rNo S' := by
  unfold rNo at h ⊢
  rw [hf.1 41 rfl, hf.1 51 rfl, hf.1 52 rfl, hf.2.2.2.1 38 rfl, hf.2.2.2.1 42 rfl, hf.2.2.2.1 44 rfl]
  exact h
theorem ynmR_u {S' : yS} (hf : yFr yWu S S') (sc : Int) : ynmR S' sc = ynmR S sc := by
  funext v
  unfold ynmR
  rw [hf.1 41 rfl, hf.1 51 rfl, hf.1 52 rfl, hf.2.2.2.1 38 rfl, hf.2.2.2.1 42 rfl, hf.2.2.2.1 44 rfl, hf.2.2.2.2.1 11 rfl, hf.2.2.2.2.1 14 rfl, hf.2.2.2.2.1 15 rfl]
/-- its first step: is there such a row -/
theorem r257a {row : Int} {e : Nat} (h41 : 0 ≤ gI S 41 ∧ gI S 41 ≤ 8) (h42 : 0 ≤ gI S 42 ∧ gI S 42 ≤ 320) (hrow : -2147483648 ≤ row ∧ row < 2147483648) : Y q (e + 122) 257 0 [vr 129, vi row, vu, vu] [] S js = if -1 ≤ row ∧ row < nrow (gI S 41) (gI S 42) then YB q (Y q (e + 121) 206 0 [vr 129, vr 145, vu] [] (sI (sJ (sI S 39 0) 2 0) 62 (-1)) js) (e + 122) 257 47 [vr 129, vi row, vu, vu] [] else yret q (vi 0) (sI (sI S 39 0) 39 1) js := by
  have er : yr row = row := yr_eq hrow.1 hrow.2
  have em : yr (-1) = -1 := rfl
  have hnr : 0 ≤ nrow (gI S 41) (gI S 42) ∧ nrow (gI S 41) (gI S 42) ≤ 320 := by
    unfold nrow
    split
    · omega
    · have h1 : gI S 42 / gI S 41 ≤ gI S 42 := Int.ediv_le_self _ h42.1
      have h2 := Int.ediv_nonneg h42.1 h41.1
      omega
  rw [w257_0, er, em]
  by_cases z : row = -1
  · rw [if_pos z, if_pos (by omega)]
  · have h199 := r199 (q := q) (d := e + 121) (js := js) (S := sI S 39 0) h41 h42
    have h199 : Y q (e + 121) 199 0 [vr 129] [] (sI S 39 0) js = yret q (vi (nrow (gI S 41) (gI S 42))) (sI S 39 0) js := h199
    rw [if_neg z, h199, YB_ret, w257_17, r191i (l := 0) (u := nrow (gI S 41) (gI S 42) - 1) e0 rfl hrow (by omega) (by omega), YB_ret, w257_23]
    simp only [yr_yb, yb_eq0]
    by_cases y : 0 ≤ row ∧ row ≤ nrow (gI S 41) (gI S 42) - 1
    · rw [if_neg (fun h => h y), if_pos (by omega)]
    · rw [if_pos y, if_neg (by omega), w188_0, YB_ret, w257_31]
theorem r257 {row : Int} {n c e : Nat} {b : Nat → Int} {t : Nat → Int} {w : Nat → Int64} {tx : Nat → Nat → List Int} {nm : Int64 → Option (Nat × Nat × Bool)} (h40 : gI S 40 = n) (hn : n ≤ 2000) (hb : ∀ j, j < n → gA S 37 j = b j ∧ 0 ≤ b j ∧ b j ≤ 255) (hk : ∀ j : Nat, j < 46 → gB S 10 j = yKw j) (h41 : gI S 41 = c) (hc : c ≤ 8) (h42 : 0 ≤ gI S 42 ∧ gI S 42 ≤ 320) (hno : rNo S) (hrow : -1 ≤ row ∧ row < nrow (gI S 41) (gI S 42)) (hr40 : row < 40) (hT : ∀ k, k < c → gA S 38 k = t k ∧ (t k = 0 ∨ (t k = 1 ∧ yOkN (w k).toBitVec.toNat)) ∧ w k = if row < 0 then 0 else gB S 12 (row * c + k).toNat) (hlen : ∀ p m, (tx p m).length = m) (htx : ∀ p m, yTq b n p m → ∀ (i : Nat) (y : Int), (tx p m)[i]? = some y → y = b (p + i) ∧ 32 ≤ y ∧ y ≤ 126) (hnE : ynmR S 2 = nm) (hnm : ∀ v op i x, nm v = some (op, i, x) → 2 ≤ op ∧ op ≤ 4 ∧ i < 8 ∧ yeA c op i ∧ yvt (yen t w op i) x) : ∃ (S' : yS) (code : Int) (js' : List xO), Y q (e + 122) 257 0 [vr 129, vi row, vu, vu] [] S js = yret q (vi code) S' js' ∧ yFr yWu S S' ∧ gI S' 39 = 0 ∧ gI S' 40 = 0 ∧ js'.length ≤ js.length + 12 ∧ xsum js' ≤ xsum js + 120 ∧ rAn S' code (yevo (yTf (ytq b n)) (yexp (yTf (ytq b n)) tx nm false yOO 12 0 0 0 100) (yen t w)) := by
  obtain ⟨S1, hS1⟩ : ∃ S1, S1 = sI (sJ (sI S 39 0) 2 0) 62 (-1) := ⟨_, rfl⟩
  have f1 : yFr yWu S S1 := by
    rw [hS1]
    exact yFr_tr (yFr_I rfl) (yFr_tr (yFr_J rfl) (yFr_I rfl))
  have q39 : gI S1 39 = 0 := by rw [hS1]; rfl
  have q62 : gI S1 62 = -1 := by rw [hS1]; rfl
  have q2 : gJ S1 2 = 0 := by rw [hS1]; rfl
  obtain ⟨S2, a1, a2, a3, a4, a5, a6, a7, a8, a9⟩ := r206 (q := q) (d := e + 114) (js := js) (S := S1) (u := 1) (n := n) (b := b) (Or.inr rfl) (by rw [hS1]; exact h40) hn (by rw [hS1]; exact hb) (by rw [hS1]; exact hk)
  have a1 : Y q (e + 121) 206 0 [vr 129, vr 145, vu] [] S1 js = yretv q S2 js := a1
  obtain ⟨hT', hpl⟩ := ytq_to hn a9
  have hR := (ytq_room hn a9 (fun i hi => (hb i hi).2)).2
  have hnb : ∀ i, i < n → 0 ≤ b i ∧ b i ≤ 255 := fun i hi => (hb i hi).2
  obtain ⟨T, hTd⟩ : ∃ T, T = yTf (ytq b n) := ⟨_, rfl⟩
  obtain ⟨N, hNd⟩ : ∃ N, N = (ytq b n).length := ⟨_, rfl⟩
  have hN : 0 < N := by rw [hNd]; exact hT'.1
  have k67 : ∀ t', t' < N → (T t').1 < 67 := by
    rw [hTd, hNd]
    exact fun t' ht => (hT'.2.2.2.2 t' ht).2
  have kT : rT S2 T N := by
    intro j hj
    rw [hNd] at hj
    have := a8 j _ (yTf_some hj)
    rw [Nat.zero_add] at this
    rw [hTd]
    exact this
  obtain ⟨S4, hS4⟩ : ∃ S4, S4 = sI (sI (sI (sI (sI S2 50 2) 45 0) 44 0) 46 0) 47 (-1) := ⟨_, rfl⟩
  have f24 : yFr yWu S2 S4 := by
    rw [hS4]
    exact yFr_tr (yFr_I rfl) (yFr_tr (yFr_I rfl) (yFr_tr (yFr_I rfl) (yFr_tr (yFr_I rfl) (yFr_I rfl))))
  have f4 : yFr yWu S S4 := yFr_tr f1 (yFr_tr (yWu_q a2) f24)
  have kN4 : rN T N 1 2 S4 0 0 none := by
    rw [hS4]
    exact ⟨kT, hN, rfl, rfl, rfl, by omega, a3, rfl, ⟨rfl, a4, a5⟩⟩
  have hRx : ∀ t', t' < N → yRx b n t' ≤ 2000 := fun t' ht => by
    rw [hNd] at ht
    have := hpl t' ht
    unfold yRx
    omega
  have htl : ∀ t', t' < N → (T t').1 = 64 → (tx ((T t').2.1 + 1) (T t').2.2.toInt.toNat).length ≤ (T t').2.2.toInt.toNat := fun t' _ _ => by
    rw [hlen]
    exact Nat.le_refl _
  rw [hTd.symm] at hT' hR ⊢
  rw [hNd.symm] at hT' hR
  have w1 := r226 (q := q) (js := js) (O := yOO) (u := 1) (sc := 2) (S0 := S4) (S := S4) (tx := tx) (dp := 0) (t := 0) (k := none) (Or.inr rfl) hT' hR hRx (Or.inr (Or.inr rfl)) (rNo_u hno f4) htl (yFr_rf _ _) kN4 (fun L X h => nomatch h) (base := 0) (tb := 0) (fun L X h => nomatch h) (d := e + 120) (by omega)
  rw [ynmR_u f4 2, hnE] at w1
  obtain ⟨P, hP⟩ : ∃ P, P = yexp T tx nm false yOO 12 0 0 0 100 := ⟨_, rfl⟩
  have w1 : rWo q js T N 1 2 S4 0 none (Y q (e + 121) 226 0 [vr 129, vu] [] S4 js) (yexp T tx nm false yOO 12 0 0 0 100) := w1
  rw [← hP] at w1 ⊢
  have st : Y q (e + 122) 257 0 [vr 129, vi row, vu, vu] [] S js = YB q (Y q (e + 121) 226 0 [vr 129, vu] [] S4 js) (e + 122) 257 63 [vr 129, vi row, vi 0, vu] [] := by
    have o0 : yr 0 = 0 ∨ yr 0 = 1 := Or.inl yr_0
    rw [r257a (by omega) h42 (by omega), if_pos hrow, ← hS1, a1, YB_retv, w257_50, w214_0, if_pos o0, ← hS4, YB_retv, w257_62]
  rw [st]
  -- the values that stay
  have v4 : gI S4 39 = 0 ∧ gI S4 62 = -1 ∧ gJ S4 2 = 0 ∧ gI S4 59 = -1 := by
    rw [hS4]
    exact ⟨(a2.1 39 rfl).trans q39, (a2.1 62 rfl).trans q62, (a2.2.1 2 rfl).trans q2, a6⟩
  -- what is thrown is told
  have tell : ∀ (S5 : yS) (m p : Nat), yFr yWu S S5 → gI S5 39 = 0 → gI S5 62 = -1 → gJ S5 2 = 0 → ∃ (S' : yS) (code : Int) (js' : List xO), Y q (e + 122) 257 184 [vr 129, vi row, vi 0, vu] [vr (179 + js.length)] S5 (js ++ [ystp (Int32.ofInt (m : Nat)) (Int32.ofInt (p : Nat))]) = yret q (vi code) S' js' ∧ yFr yWu S S' ∧ gI S' 39 = 0 ∧ gI S' 40 = 0 ∧ js'.length ≤ js.length + 12 ∧ xsum js' ≤ xsum js + 120 ∧ rAn S' code (.inr (m, p)) := by
    intro S5 m p f h1 h2 h3
    have hx := xsum_s js (Int32.ofInt (m : Nat)) (Int32.ofInt (p : Nat))
    rw [r257c]
    exact ⟨_, _, _, rfl, yFr_tr f (yFr_tr (yFr_I rfl) (yFr_I rfl)), h1, gI_self _ _ _, hx.2, hx.1, rfl, rfl, h2, h3⟩
  rcases P with p | ⟨t', b', m⟩
  · obtain ⟨S5, t1, t2⟩ := w1 rfl
    rw [t1, t257_63]
    exact tell S5 1 p (yFr_tr f4 (yWu_v t2)) ((t2.1 39 rfl).trans v4.1) ((t2.1 62 rfl).trans v4.2.1) ((t2.2.1 2 rfl).trans v4.2.2.1)
  · obtain ⟨S5, r, t1, t2, t3, t4⟩ := w1
    obtain ⟨n1, n2, n3, n4, n5, n6, n7, n8, n9⟩ := t3
    have v5 : gI S5 39 = 0 ∧ gI S5 62 = -1 ∧ gJ S5 2 = 0 ∧ gI S5 59 = -1 := ⟨(t2.1 39 rfl).trans v4.1, (t2.1 62 rfl).trans v4.2.1, (t2.2.1 2 rfl).trans v4.2.2.1, (t2.1 59 rfl).trans v4.2.2.2⟩
    have f5 := yFr_tr f4 (yWu_v t2)
    rw [t1, YB_ret, w257_66]
    by_cases z : (T t').1 = 65
    · rw [r225y (d := e + 119) n1 n2 (by rw [hNd]; exact a9) n3 n4 z, YB_retv, w257_74]
      obtain ⟨S7, hS7⟩ : ∃ S7, S7 = sI (sI (sI (sI (sI S5 44 ((t' : Int) + 1)) 45 1) 44 0) 46 0) 47 (-1) := ⟨_, rfl⟩
      have f57 : yFr yWu S5 S7 := by
        rw [hS7]
        exact yFr_tr (yFr_I rfl) (yFr_tr (yFr_I rfl) (yFr_tr (yFr_I rfl) (yFr_tr (yFr_I rfl) (yFr_I rfl))))
      have f7 := yFr_tr f5 f57
      have kN7 : rN T N 1 2 S7 0 0 (some ([], [])) := by
        rw [hS7]
        exact ⟨n1, hN, rfl, rfl, rfl, by omega, n7, n8, ⟨rfl, ⟨n9.2.1, fun j x h => nomatch h⟩, ⟨n9.2.2, fun j x h => nomatch h⟩⟩⟩
      have v7 : gI S7 39 = 0 ∧ gI S7 62 = -1 ∧ gJ S7 2 = 0 ∧ gI S7 59 = -1 := by
        rw [hS7]
        exact v5
      have w2 := r226 (q := q) (js := js) (O := yOO) (u := 1) (sc := 2) (S0 := S7) (S := S7) (tx := tx) (dp := 0) (t := 0) (k := some ([], [])) (Or.inr rfl) hT' hR hRx (Or.inr (Or.inr rfl)) (rNo_u hno f7) htl (yFr_rf _ _) kN7 (fun L X h => by
        injection h with h
        injection h with h1 h2
        subst h1 h2
        exact ⟨by decide, Nat.zero_le _⟩) (base := 0) (tb := 0) (fun L X h => by
        injection h with h
        injection h with h1 h2
        subst h1 h2
        exact ⟨rfl, rfl⟩) (d := e + 120) (by omega)
      rw [ynmR_u f7 2, hnE] at w2
      have w2 : rWo q js T N 1 2 S7 0 (some ([], [])) (Y q (e + 121) 226 0 [vr 129, vu] [] S7 js) (yexp T tx nm false yOO 12 0 0 0 100) := w2
      rw [← hP] at w2
      have o1 : yr 1 = 0 ∨ yr 1 = 1 := Or.inr rfl
      rw [w214_0, if_pos o1, ← hS7, YB_retv, w257_79]
      rcases m with ⟨m, p⟩ | x
      · obtain ⟨S8, x1, x2⟩ := w2
        have ev : yevo T (.inr (t', b', .inl (m, p))) (yen t w) = .inr (m, p) := if_pos z
        rw [ev, x1, t257_80]
        exact tell S8 m p (yFr_tr f7 (yWu_v x2)) ((x2.1 39 rfl).trans v7.1) ((x2.1 62 rfl).trans v7.2.1) ((x2.2.1 2 rfl).trans v7.2.2.1)
      · obtain ⟨S8, x1, x2, x3⟩ := w2
        obtain ⟨_, _, _, _, _, _, _, _, y9⟩ := x3
        obtain ⟨_, yK, yX⟩ := y9
        obtain ⟨S9, hS9⟩ : ∃ S9, S9 = sI (sI S8 64 row) 65 0 := ⟨_, rfl⟩
        have f89 : yFr yWu S8 S9 := by
          rw [hS9]
          exact yFr_tr (yFr_I rfl) (yFr_I rfl)
        have f9 := yFr_tr f7 (yFr_tr (yWu_v x2) f89)
        have v9 : gI S9 39 = 0 ∧ gI S9 62 = -1 ∧ gJ S9 2 = 0 ∧ gI S9 59 = -1 := by
          rw [hS9]
          exact ⟨(x2.1 39 rfl).trans v7.1, (x2.1 62 rfl).trans v7.2.1, (x2.2.1 2 rfl).trans v7.2.2.1, (x2.1 59 rfl).trans v7.2.2.2⟩
        have K9 : rK S9 1 (x.2.2.1 ++ [(30, 0)]) := by
          rw [hS9]
          exact yK
        have X9 : rX S9 1 x.2.2.2.1 := by
          rw [hS9]
          exact yX
        have b9 : ∀ j, j < n → gA S9 9 j = b j := by
          intro j hj
          have h1 : gA S9 9 = gA S8 9 := by rw [hS9]; rfl
          have h2 : gA S8 9 = gA S7 9 := x2.2.2.2.1 _ rfl
          have h3 : gA S7 9 = gA S5 9 := by rw [hS7]; rfl
          have h4 : gA S5 9 = gA S4 9 := t2.2.2.2.1 _ rfl
          have h5 : gA S4 9 = gA S2 9 := by rw [hS4]; rfl
          rw [h1, h2, h3, h4, h5]
          exact a7 j hj
        -- sizes
        have sz := (yfac_sz (nm := nm) (decl := false) (O := yOO) hT' hR htl 12 (by omega)).2.2.1 0 0 0 100 t' b' (.inr x) hN hP.symm
        obtain ⟨_, z2, z3⟩ := sz.2.2.2.2 x rfl
        have hRt := hRx t' sz.1
        have hCl : (x.2.2.1 ++ [((30 : Nat), (0 : Int64))]).length ≤ 8000 := by
          rw [List.length_append]
          show x.2.2.1.length + 1 ≤ 8000
          have : yRm1 0 100 = 300 := rfl
          omega
        have hXl : x.2.2.2.1.length ≤ 2000 := by
          unfold ytl at z3
          omega
        have f63 : yFr yWu S9 (sI S9 63 0) := yFr_I rfl
        have g9 := yFr_tr f9 f63
        have hXt : rXt (sI S9 63 0) 1 x.2.2.2.1 tx (yTq b n) := by
          refine ⟨hXl, fun k p hp => ?_⟩
          obtain ⟨p1, p2⟩ := X9.2 k p hp
          refine ⟨p1, p2, fun hq => ⟨hlen _ _, by have := hq.1; omega, by have := hq.2.1; omega, fun i y hi => ?_⟩⟩
          obtain ⟨i1, i2, i3⟩ := htx _ _ hq i y hi
          have il := (List.getElem?_eq_some_iff.mp hi).1
          rw [hlen] at il
          have := hq.2.1
          have h1 := b9 (p.1 + i) (by omega)
          have h1 : gA (sI S9 63 0) 9 (p.1 + i) = b (p.1 + i) := h1
          exact ⟨h1.trans i1.symm, by omega, by omega⟩
        have hEn : rEn q (e + 118) js (sI S9 63 0) (yeA c) (yen t w) := by
          refine ⟨r264 (q := q) (d := e + 118) (js := js) (row := row) (c := c) (t := t) (w := w) hc ⟨hrow.1, hr40⟩ (by rw [g9.1 41 rfl]; exact h41) (by rw [hS9]; rfl) (fun k hk => ?_) (fun k _ => if_pos rfl) (fun k hkc => ?_), fun op k ho _ hA => ?_, fun k _ _ => ?_⟩
          · rcases hk with h | h
            · exact h.2
            · exact absurd h (by decide)
          · rw [g9.2.2.2.1 38 rfl, g9.2.2.2.2.1 12 rfl]
            exact hT k hkc
          · rcases hA with h | h <;> omega
          · have h65 : gI (sI S9 63 0) 65 = 0 := by rw [hS9]; rfl
            unfold rsp
            rw [h65, if_pos yr_0]
            exact if_neg (by decide)
        have hM := rMach (q := q) (d := e + 117) (js := js) (S0 := sI S9 63 0) (x0 := ((0 : Nat) : Int)) (u := 1) (C := x.2.2.1 ++ [(30, 0)]) (X := x.2.2.2.1) (tx := tx) (Tk := yTq b n) (e := yen t w) (A := yeA c) (Or.inr rfl) K9 hCl hXt hEn
        have gd := yexp_gd (T := T) (nm := nm) (decl := false) hM (fun t2 => by rw [hTd]; exact yTf_67 (fun j hj => (ytq_to hn a9).1.2.2.2.2 j hj |>.2) t2) (fun t2 h64 => by
          rw [hTd] at h64 ⊢
          have hq := ytq_tk hn a9 hnb h64
          exact ⟨hq, by rw [hlen]; have := hq.1; omega⟩) hnm (fun i hi => ⟨Or.inr rfl, rfl⟩) (rd := 12) (by omega)
        have run := gd 0 0 0 100 t' b' x hP.symm (fun j i hj => by
          rw [Nat.zero_add, List.getElem?_append_left (List.getElem?_eq_some_iff.mp hj).1]
          exact hj) (fun j p hj => by rw [Nat.zero_add]; exact hj)
        have r258' := r258 (q := q) (d := e + 117) (js := js) (S0 := S9) (u := 1) (Or.inr rfl) K9 hCl (by omega) run (z := 0) (by
          rw [Nat.zero_add, List.getElem?_append_right (Nat.le_refl _), Nat.sub_self]
          rfl)
        have ev : yevo T (.inr (t', b', .inr x)) (yen t w) = .inl (x.2.2.2.2 (yen t w)) := if_pos z
        rw [ev, x1, YB_ret, w257_83, ← hS9]
        cases hd : x.2.2.2.2 (yen t w) with
        | none =>
          rw [hd] at r258'
          obtain ⟨S10, j1, j2⟩ := r258'
          have j1 : Y q (e + 121) 258 0 [vr 129, vr 145, vi 0, vu, vu, vu, vu] [] S9 js = ythr q (ystp 2 (Int32.ofInt (-1))) S10 js := j1
          have hx := xsum_s js 2 (Int32.ofInt (-1))
          rw [j1, t257_103, r257d]
          exact ⟨_, _, _, rfl, yFr_tr f9 (yFr_tr (yWu_p j2) (yFr_I rfl)), (j2.1 39 rfl).trans v9.1, gI_self _ _ _, hx.2, hx.1, rfl, (j2.1 59 rfl).trans v9.2.2.2, (j2.1 62 rfl).trans v9.2.1, (j2.2.1 2 rfl).trans v9.2.2.1⟩
        | some v =>
          rw [hd] at r258'
          obtain ⟨_, S10, j1, j2⟩ := r258'
          have j1 : Y q (e + 121) 258 0 [vr 129, vr 145, vi 0, vu, vu, vu, vu] [] S9 js = yretv q S10 js := j1
          have hv := j2.2.2 0 v rfl
          have f10 : yFr yWp S9 S10 := yFr_tr (yFr_I rfl) j2.1
          have k0 : 0 ≤ yr 0 ∧ yr 0 < 128 := by decide
          have y0 : (yr 0).toNat = 0 := by decide
          have em : yr (-1) = -1 := rfl
          rw [j1, YB_retv, w257_106, if_pos k0, y0, em]
          match v, hv with
          | .inl y, hv =>
            rw [hv.1, em, if_pos rfl, if_pos k0, hv.2]
            exact ⟨_, _, _, rfl, yFr_tr f9 (yFr_tr (yWu_p f10) (yFr_tr (yFr_J rfl) (yFr_I rfl))), (f10.1 39 rfl).trans v9.1, gI_self _ _ _, by omega, by omega, rfl, (f10.1 59 rfl).trans v9.2.2.2, (f10.1 62 rfl).trans v9.2.1, rfl⟩
          | .inr l, hv =>
            obtain ⟨h1, h2, h3⟩ := hv
            have el : yr (l.length : Int) = l.length := yr_eq (by omega) (by omega)
            rw [h1, el, if_neg (by omega), if_pos k0]
            obtain ⟨S12, l1, l2, l3, l4, l5, l6, l7, l8, l9⟩ := r257l (q := q) (d := e + 122) (js := js) (row := row) (x1 := 7) l.length 0 (sJ (sI S10 62 (l.length : Int)) 2 (yi2l (l.length : Int))) (by show gI (sI S10 62 (l.length : Int)) 62 = _; rw [gI_self, Nat.zero_add]) (by omega)
            have l1 : Y q (e + 122) 257 155 [vr 129, vi row, vi 7, vi 0] [] (sJ (sI S10 62 (l.length : Int)) 2 (yi2l (l.length : Int))) js = yret q (vi 7) S12 js := l1
            rw [l1]
            refine ⟨_, _, _, rfl, yFr_tr f9 (yFr_tr (yWu_p f10) (yFr_tr (yFr_I rfl) (yFr_tr (yFr_J rfl) l2))), l5.trans ((f10.1 39 rfl).trans v9.1), l3, by omega, by omega, rfl, l4.trans ((f10.1 59 rfl).trans v9.2.2.2), l6.trans (show gI (sI S10 62 (l.length : Int)) 62 = (l.length : Int) from gI_self _ _ _), l7, h2, fun i y hi => ?_⟩
            have hl := (List.getElem?_eq_some_iff.mp hi).1
            rw [l9 i (Nat.zero_le _) (by omega)]
            have h4 := (h3 i y hi).1
            rw [Nat.mul_zero, Nat.zero_add] at h4
            exact h4
    · have ev : yevo T (.inr (t', b', m)) (yen t w) = .inr (1, (T t').2.1) := if_neg z
      rw [ev, r225n (d := e + 119) n1 n2 (by rw [hNd]; exact a9) n3 (k67 t' n2) z, t257_71]
      exact tell S5 1 (T t').2.1 f5 v5.1 v5.2.1 v5.2.2.1
end YRZL
end YRZ
