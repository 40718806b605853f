/-! LINES: printed, and as pure functions -/
section YLN
theorem ywl_eq (B W k0 : Nat) (bf : Nat → Int) : ∀ (n i : Nat) (f : Nat → Int) (j : Nat), ywl B W k0 bf n i f j = if B + k0 + i ≤ j ∧ j < B + k0 + i + n ∧ j < B + W then bf (j - B - k0) else f j
  | 0, i, f, j => by
    show f j = _
    rw [if_neg (by omega)]
  | n + 1, i, f, j => by
    show ywl B W k0 bf n (i + 1) (yw1 B W (k0 + i) (bf i) f) j = _
    rw [ywl_eq]
    by_cases z : B + k0 + (i + 1) ≤ j ∧ j < B + k0 + (i + 1) + n ∧ j < B + W
    · rw [if_pos z, if_pos (by omega)]
    · rw [if_neg z]
      unfold yw1
      by_cases y : k0 + i < W
      · rw [if_pos y, yup_eq]
        by_cases x : j = B + (k0 + i)
        · rw [if_pos x, if_pos (by omega)]
          congr 1
          omega
        · rw [if_neg x, if_neg (by omega)]
      · rw [if_neg y, if_neg (by omega)]
/-- a piece's bytes, and how many -/
def wF (v : yVal) (w side i : Nat) : Int := ypbt (yisn v) (yptx v) (ywid w (yptx v).length) (yah side (ywid w (yptx v).length) (yptx v).length) i
def wWd (v : yVal) (w : Nat) : Nat := ywid w (yptx v).length
theorem wPc_eq (B k0 : Nat) (v : yVal) (w side : Nat) (F : Nat → Int) (j : Nat) : wPc B k0 v w side F j = if B + k0 ≤ j ∧ j < B + k0 + wWd v w ∧ j < B + 24 then wF v w side (j - B - k0) else F j := by
  unfold wPc
  rw [ywl_eq]
  rfl
def zn27 (i : Nat) : Nat := (zA27.getD i 0).toNat
def zn28 (i : Nat) : Nat := (zA28.getD i 0).toNat
def zn3 (i : Nat) : Nat := zC3.getD i 0
/-- pieces from an item on -/
def wRn (B : Nat) : List yVal → Nat → Nat → (Nat → Int) → (Nat → Int)
  | [], _, _, F => F
  | v :: l, i, k0, F => wRn B l (i + 1) (k0 + wWd v (zn27 i)) (wPc B k0 v (zn27 i) (zn3 i) F)
/-- a value can be had by the code at a place -/
def wSr (S : yS) (s : Nat) (v : yVal) : Prop := s + 1 < 26 ∧ zA0.getD (s + 1) 0 = 30 ∧ ((∃ (fr : Nat) (op : Int), zA0.getD s 0 = op ∧ ((op = 2 ∧ 0 + yl2i (zB0.getD s 0) = (fr : Int)) ∨ (op = 4 ∧ 16 + yl2i (zB0.getD s 0) = (fr : Int)) ∨ (op = 5 ∧ 24 + yl2i (zB0.getD s 0) = (fr : Int))) ∧ fr < 28 ∧ cV S fr v) ∨ ∃ k : Nat, k < 2 ∧ zA0.getD s 0 = 1 ∧ yl2i (zB0.getD s 0) = (k : Int) ∧ v = .inr [if k = 0 then 61 else 43])
theorem cV_33 {S : yS} {m : Nat} {v : yVal} {F : Nat → Int} (h : cV S m v) : cV (sAr S 33 F) m v := by
  match v, h with
  | .inl x, h => exact h
  | .inr l, h => exact h
theorem cV_I {S : yS} {m k : Nat} {v : yVal} {x : Int} (h : cV S m v) : cV (sI S k x) m v := by
  match v, h with
  | .inl x, h => exact h
  | .inr l, h => exact h
theorem wSr_fs {S S' : yS} {s : Nat} {v : yVal} (h : wSr S s v) (hf : yFs 28 S S') : wSr S' s v := by
  obtain ⟨h1, h2, ⟨fr, op, h3, h4, h5, h6⟩ | h3⟩ := h
  · exact ⟨h1, h2, Or.inl ⟨fr, op, h3, h4, h5, cV_fs hf (by omega) h6⟩⟩
  · exact ⟨h1, h2, Or.inr h3⟩
theorem wSr_33 {S : yS} {s : Nat} {v : yVal} {F : Nat → Int} (h : wSr S s v) : wSr (sAr S 33 F) s v := by
  obtain ⟨h1, h2, ⟨fr, op, h3, h4, h5, h6⟩ | h3⟩ := h
  · exact ⟨h1, h2, Or.inl ⟨fr, op, h3, h4, h5, cV_33 h6⟩⟩
  · exact ⟨h1, h2, Or.inr h3⟩
/-- what printing wants of a state -/
def wB (h n P : Nat) (f : Nat → Int64) (S : yS) : Prop := pIn h n f S ∧ gI S 34 = 0 ∧ gI S 29 = P ∧ gI S 28 = h ∧ gI S 27 = 24
theorem wB_fs {h n P : Nat} {f : Nat → Int64} {S S' : yS} (hb : wB h n P f S) {m : Nat} (hf : yFs m S S') : wB h n P f S' := ⟨hb.1.fr (pW_s hf), (hf.1.1 34 rfl).trans hb.2.1, (hf.1.1 29 rfl).trans hb.2.2.1, (hf.1.1 28 rfl).trans hb.2.2.2.1, (hf.1.1 27 rfl).trans hb.2.2.2.2⟩
theorem pW_33 {S : yS} {F : Nat → Int} : yFr pW S (sAr S 33 F) := ⟨fun _ _ => rfl, fun _ _ => rfl, fun _ _ => rfl, fun j hj => by
  have z : j ≠ 33 := fun e => by rw [e] at hj; cases hj
  show yup S.2.2.2.1 33 F j = _
  exact yup_ne _ _ z, fun _ _ => rfl, fun _ _ => rfl⟩
theorem wB_33 {h n P : Nat} {f : Nat → Int64} {S : yS} {F : Nat → Int} (hb : wB h n P f S) : wB h n P f (sAr S 33 F) := ⟨hb.1.fr pW_33, hb.2.1, hb.2.2.1, hb.2.2.2.1, hb.2.2.2.2⟩
/-- a change of a slot behind a change of the paper, the other way round -/
theorem yFs_33 {m : Nat} {S S2 T : yS} {F : Nat → Int} (h1 : yFs m S S2) (h2 : yFs m (sAr S2 33 F) T) : yFs m S (sAr T 33 (gA S 33)) := by
  obtain ⟨a, b, c⟩ := h2
  have a3 : yFs m S2 (sAr T 33 (gA S2 33)) := by
    refine ⟨⟨fun k hk => a.1 k hk, fun k hk => a.2.1 k hk, fun k hk => a.2.2.1 k hk, fun k hk => ?_, fun k hk => a.2.2.2.2.1 k hk, fun k hk => a.2.2.2.2.2 k hk⟩, fun k hk => b k hk, fun j hj => c j hj⟩
    by_cases z : k = 33
    · subst z
      exact gAr_self _ _ _
    · have e1 : gA (sAr T 33 (gA S2 33)) k = gA T k := yup_ne _ _ z
      have e2 : gA (sAr S2 33 F) k = gA S2 k := yup_ne _ _ z
      show gA (sAr T 33 (gA S2 33)) k = gA S2 k
      rw [e1, ← e2]
      exact a.2.2.2.1 k hk
  have e : gA S2 33 = gA S 33 := h1.1.2.2.2.1 33 rfl
  rw [← e]
  exact yFs_tr h1 a3
section YLNL
variable {q : yQ} {d : Nat} {js : List xO} {S : yS} {h n : Nat} {f : Nat → Int64}
theorem wSr_rk (hp : pIn h n f S) {s : Nat} {v : yVal} (hs : wSr S s v) : ∃ S1 : yS, Y q (d + 2) 75 0 [vr 124, vr 107, vi s, vu, vu, vu, vu, vu, vu] [] S js = yret q (vi 1) S1 js ∧ yFs 28 S S1 ∧ cV S1 28 v := by
  obtain ⟨h1, h2, ⟨fr, op, h3, h4, h5, h6⟩ | ⟨k, h3, h4, h5, h6⟩⟩ := hs
  · exact q75 hp h1 h3 h2 rfl h4 h5 h6
  · subst h6
    exact q75t hp h1 h4 h2 rfl h3 h5
theorem plN {P line e : Nat} {x0 x1 x2 x4 x5 : Int} (hP : 1 ≤ P ∧ P ≤ 30) (hh : h ≤ 40) (hl : line < h) (he : e ≤ 18) : ∀ (l : List yVal) (i k0 : Nat) (S : yS), wB h n P f S → i + l.length = e → k0 + 10 * l.length ≤ 100 → (∀ (j : Nat) (v : yVal), l[j]? = some v → wSr S (zn28 (i + j)) v ∧ wWd v (zn27 (i + j)) ≤ 10) → (∀ j, j < e → i ≤ j → zn27 j ≤ 60 ∧ (zn3 j = 31 ∨ zn3 j = 32) ∧ 0 ≤ zA27.getD j 0 ∧ 0 ≤ zA28.getD j 0) → ∃ (S2 : yS) (k' : Nat), Y q (d + 3) 118 51 [vr 131, vi x0, vi x1, vi x2, vi ((line : Int) + 1), vi x4, vi x5, vi (e : Int), vi ((k0 : Int) + 1), vi i] [] S js = Y q (d + 3) 118 51 [vr 131, vi x0, vi x1, vi x2, vi ((line : Int) + 1), vi x4, vi x5, vi (e : Int), vi ((k' : Int) + 1), vi e] [] (sAr S2 33 (wRn (((P - 1) * h + line) * 24) l i k0 (gA S 33))) js ∧ yFs 28 S S2
  | [], i, k0, S, hb, hi, hk, hv, ht => by
    have hi : i = e := hi
    subst hi
    refine ⟨S, k0, ?_, yFs_rf _ _⟩
    have e1 : sAr S 33 (gA S 33) = S := by
      show (S.1, S.2.1, S.2.2.1, yup S.2.2.2.1 33 (S.2.2.2.1 33), S.2.2.2.2) = S
      rw [yup_sf]
    show _ = Y q (d + 3) 118 51 _ [] (sAr S 33 (gA S 33)) js
    rw [e1]
  | v :: l, i, k0, S, hb, hi, hk, hv, ht => by
    have hi : i + (l.length + 1) = e := hi
    have hk : k0 + 10 * (l.length + 1) ≤ 100 := hk
    obtain ⟨hs, hw⟩ := hv 0 v rfl
    rw [Nat.add_zero] at hs hw
    obtain ⟨t1, t2, t3, t4⟩ := ht i (by omega) (Nat.le_refl _)
    obtain ⟨S2, a1, a2⟩ := q118p (q := q) (d := d) (js := js) (h := h) (n := n) (f := f) (P := P) (line := line) (k0 := k0) (i := i) (w := zn27 i) (side := zn3 i) (s := zn28 i) (v := v) (x0 := x0) (x1 := x1) (x2 := x2) (x4 := x4) (x5 := x5) (x6 := e) hb.1 hP hh hl (by omega) hb.2.1 hb.2.2.1 hb.2.2.2.1 hb.2.2.2.2 (by omega) (by omega) rfl t2 (by unfold zn27; omega) t1 (by unfold zn28; omega) (wSr_rk hb.1 hs)
    have hb2 := wB_33 (F := wPc (((P - 1) * h + line) * 24) k0 v (zn27 i) (zn3 i) (gA S 33)) (wB_fs hb a2)
    have hkw : k0 + wWd v (zn27 i) + 10 * l.length ≤ 100 := by omega
    obtain ⟨T, k', b1, b2⟩ := plN (P := P) (line := line) (e := e) (x0 := x0) (x1 := x1) (x2 := x2) (x4 := x4) (x5 := x5) hP hh hl he l (i + 1) (k0 + wWd v (zn27 i)) _ hb2 (by omega) hkw (fun j v' hj => by
      have k := hv (j + 1) v' hj
      rw [show i + (j + 1) = i + 1 + j by omega] at k
      exact ⟨wSr_33 (wSr_fs k.1 a2), k.2⟩) (fun j h1 h2 => ht j h1 (by omega))
    refine ⟨sAr T 33 (gA S 33), k', ?_, yFs_33 a2 b2⟩
    rw [a1]
    have eg : ∀ F : Nat → Int, gA (sAr S2 33 F) 33 = F := fun F => gAr_self _ _ _
    rw [eg] at b1
    have b1 : Y q (d + 3) 118 51 [vr 131, vi x0, vi x1, vi x2, vi ((line : Int) + 1), vi x4, vi x5, vi (e : Int), vi (((k0 + ywid (zn27 i) (yptx v).length : Nat) : Int) + 1), vi ((i + 1 : Nat) : Int)] [] (sAr S2 33 (wPc (((P - 1) * h + line) * 24) k0 v (zn27 i) (zn3 i) (gA S 33))) js = _ := b1
    rw [b1, sAr_Ar]
    rfl
/-- a line is printed -/
theorem plL {P line i e : Nat} {l : List yVal} (hP : 1 ≤ P ∧ P ≤ 30) (hh : h ≤ 40) (hl : line < h) (he : e ≤ 18) (hb : wB h n P f S) (hi : i + 1 + l.length = e) (h29 : zA29.getD i 0 = (e : Int)) (h3 : zC3.getD i 0 = 22) (hln : l.length ≤ 9) (hv : ∀ (j : Nat) (v : yVal), l[j]? = some v → wSr S (zn28 (i + 1 + j)) v ∧ wWd v (zn27 (i + 1 + j)) ≤ 10) (ht : ∀ j, j < e → i + 1 ≤ j → zn27 j ≤ 60 ∧ (zn3 j = 31 ∨ zn3 j = 32) ∧ 0 ≤ zA27.getD j 0 ∧ 0 ≤ zA28.getD j 0) : ∃ S2 : yS, Y q (d + 3) 118 0 [vr 131, vi i, vi e, vi ((line : Int) + 1), vu, vu, vu, vu, vu, vu] [] S js = yretv q (sI (sAr S2 33 (wRn (((P - 1) * h + line) * 24) l (i + 1) 0 (gA S 33))) 33 (gI S 33 + 1)) js ∧ yFs 28 S S2 := by
  obtain ⟨S2, k', a1, a2⟩ := plN (q := q) (d := d) (js := js) (x0 := i) (x1 := e) (x2 := (line : Int) + 1) (x4 := i) (x5 := 0) hP hh hl he l (i + 1) 0 S hb hi (by omega) hv ht
  refine ⟨S2, ?_, a2⟩
  have ei := yrn (n := i) (by omega)
  have ee := yrn (n := e) (by omega)
  have z0 : yr 0 = 0 := rfl
  have e2000 : yr 2000 = 2000 := rfl
  have n1 : ¬ yr 1 = 0 := by decide
  have g29 : gA S 29 i = (e : Int) := (hb.1.a29 i (by omega)).trans h29
  have c1 : ((0 : Nat) : Int) + 1 = 1 := rfl
  have c2 : ((i + 1 : Nat) : Int) = (i : Int) + 1 := by omega
  have c3 : (0 : Int) + 1 = 1 := rfl
  rw [c1, c2] at a1
  obtain ⟨T, hT⟩ : ∃ T, T = sAr S2 33 (wRn (((P - 1) * h + line) * 24) l (i + 1) 0 (gA S 33)) := ⟨_, rfl⟩
  have g34 : gI T 34 = 0 := by
    rw [hT]
    exact (a2.1.1 34 rfl).trans hb.2.1
  have g33 : gI T 33 = gI S 33 := by
    rw [hT]
    exact a2.1.1 33 rfl
  have gk : gC T 3 i = 22 := by
    rw [hT]
    show gC S2 3 i = 22
    rw [a2.1.2.2.2.2.2 3 rfl]
    exact (hb.1.c3 i (by omega)).trans h3
  rw [← hT] at a1 ⊢
  rw [w118_0, w118_9, z0, e2000, if_pos (by omega), ei, ee, if_pos (by omega), hb.2.1, if_pos z0, if_pos (by omega), Int.toNat_natCast, g29, a1, w118_51, ee, if_neg (by omega), g34, if_pos z0, ei, Int.toNat_natCast, gk]
  have y1 : yr 1 = 1 := rfl
  rw [if_pos (by omega), if_pos (by decide), if_pos rfl, if_neg n1, if_neg n1, w118_9, c3, y1, e2000, if_pos (by omega), ee, if_neg (by omega), g33]
end YLNL
end YLN
