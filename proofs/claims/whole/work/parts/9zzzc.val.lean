/-! RUN: what an expression's code is worth, on both sides -/
section YTD
def vIs (G : yGx) (C : yCo) (X : List (Nat × Nat)) (L T : List yDf) (st ty : Nat) (m : yEnv → Option yVal) : Prop := ∃ (nm : Int64 → Option (Nat × Nat × Bool)) (decl : Bool) (rd tb t b t' b' : Nat) (x : yX), (rd ≤ 12 ∧ b ≤ 100) ∧ yexp (gT G) (gX G) nm decl yOO rd st tb t b = .inr (t', b', .inr x) ∧ (∀ j i, (x.2.2.1 ++ [(30, 0)])[j]? = some i → C[st + j]? = some i) ∧ (∀ j p, x.2.2.2.1[j]? = some p → X[tb + j]? = some p) ∧ ty = ytyn x ∧ (∀ v op i y, nm v = some (op, i, y) → sAw G L T op i y) ∧ x.2.2.2.2 = m
theorem sGc_v {G : yGx} {C : yCo} {X : List (Nat × Nat)} {L T : List yDf} {st ty : Nat} (h : sGc G C X L T st ty) : ∃ m, vIs G C X L T st ty m := by
  obtain ⟨nm, decl, rd, tb, t, b, t', b', x, h1, h2, h3, h4, h5, h6⟩ := h
  exact ⟨_, nm, decl, rd, tb, t, b, t', b', x, h1, h2, h3, h4, h5, h6, rfl⟩
/-- the worth of code at a place -/
noncomputable def ywo (G : yGx) (C : yCo) (X : List (Nat × Nat)) (L T : List yDf) (st ty : Nat) : yEnv → Option yVal := Classical.epsilon (vIs G C X L T st ty)
theorem ywo_is {G : yGx} {C : yCo} {X : List (Nat × Nat)} {L T : List yDf} {st ty : Nat} (h : sGc G C X L T st ty) : vIs G C X L T st ty (ywo G C X L T st ty) := Classical.epsilon_spec (sGc_v h)
theorem ytyn_d (x : yX) : decide (ytyn x = 1) = x.1 := by
  unfold ytyn
  cases x.1
  · rfl
  · rfl
section YTDL
variable {q : yQ} {d : Nat} {js : List xO} {S S0 : yS} {C : yCo} {X : List (Nat × Nat)} {L T : List yDf} {st ty : Nat} {m : yEnv → Option yVal} {e : yEnv} {A : Nat → Nat → Prop}
theorem s0_txt (hin : sIn S0) (hl : (ytq (tb S0) (gI S0 12).toNat).length ≤ 2001) : ∀ t, (gT (sG0 S0) t).1 = 64 → yTq (tb S0) (gI S0 12).toNat ((gT (sG0 S0) t).2.1 + 1) (gT (sG0 S0) t).2.2.toInt.toNat ∧ (gX (sG0 S0) ((gT (sG0 S0) t).2.1 + 1) (gT (sG0 S0) t).2.2.toInt.toNat).length ≤ 60 := fun t h64 => by
  have h12 := hin.1
  have hq := ytq_tk (b := tb S0) (n := (gI S0 12).toNat) (by omega) hl (fun i _ => tb_rng S0 i) (t := t) h64
  exact ⟨hq, (ytxb_60 (S := S0) (n := (gI S0 12).toNat) (by omega) hq).1⟩
/-- the class reckons -/
theorem kvl (hin : sIn S0) (hl : (ytq (tb S0) (gI S0 12).toNat).length ≤ 2001) (hK : cK S 0 C) (hC : C.length ≤ 4000) (hX : cX S 0 (yTexts (gX (sG0 S0)) X)) (hTx : yTx (yTexts (gX (sG0 S0)) X)) (hv : vIs (sG0 S0) C X L T st ty m) (he : cEn S A e) (hA : ∀ op i y, sAw (sG0 S0) L T op i y → i < 8 ∧ A op i ∧ yvt (e op i) y) (hsp : ∀ i, i ≤ 2 → A 5 i ∧ yvt (e 5 i) false) : match m e with
    | some v => yvt v (decide (ty = 1)) ∧ ∃ S' : yS, Y q (d + 2) 75 0 [vr 118, vr (cu 0), vi st, vu, vu, vu, vu, vu, vu] [] S js = yret q (vi 1) S' js ∧ cRp S S' [v]
    | none => ∃ S' : yS, Y q (d + 2) 75 0 [vr 118, vr (cu 0), vi st, vu, vu, vu, vu, vu, vu] [] S js = yret q (vi 0) S' js ∧ cRp S S' [] := by
  have h12 := hin.1
  obtain ⟨nm, decl, rd, tb', t, b, t', b', x, ⟨h1, hb⟩, h2, h3, h4, h5, h6, h7⟩ := hv
  have hM := cMach (q := q) (d := d) (js := js) (S0 := S) (x0 := ((st : Nat) : Int)) (u := 0) (C := C) (X := X) (tx := gX (sG0 S0)) (Tk := yTq (tb S0) (gI S0 12).toNat) (e := e) (A := A) (Or.inl rfl) hK (by show (C.length : Int) ≤ 4000; omega) hX hTx (fun p n hp => ytxb_60 (S := S0) (n := (gI S0 12).toNat) (by omega) hp) he
  have gd := yexp_gd (T := gT (sG0 S0)) (nm := nm) (decl := decl) hM (h67_0 hin hl) (s0_txt hin hl) (fun v op i y hvn => by
    have hs := h6 v op i y hvn
    obtain ⟨k1, k2, k3⟩ := hA op i y hs
    have hop : 2 ≤ op ∧ op ≤ 4 := by rcases hs with h | h | h <;> have := h.1 <;> omega
    exact ⟨hop.1, hop.2, k1, k2, k3⟩) hsp (rd := rd) h1
  have emb : yEmb C st x.2.2.1 := fun j i hj => h3 j i (by rw [List.getElem?_append_left (List.getElem?_eq_some_iff.mp hj).1]; exact hj)
  have run := gd st tb' t b t' b' x h2 emb h4
  have r75 := c75 (q := q) (d := d) (js := js) (S0 := S) (u := 0) (Or.inl rfl) hK (by show (C.length : Int) ≤ 4000; omega) (by omega) run (Or.inr ⟨0, h3 x.2.2.1.length _ (by
    rw [List.getElem?_append_right (Nat.le_refl _), Nat.sub_self]
    rfl)⟩)
  rw [h7] at r75
  rw [h5, ytyn_d]
  exact r75
/-- the reference reckons -/
theorem qvl (hin : sIn S0) (hl : (ytq (tb S0) (gI S0 12).toNat).length ≤ 2001) (hK : rK S 0 C) (hC : C.length ≤ 8000) (hX : rXt (sI S 63 0) 0 X (gX (sG0 S0)) (yTq (tb S0) (gI S0 12).toNat)) (hv : vIs (sG0 S0) C X L T st ty m) (he : rEn q (d + 1) js (sI S 63 0) A e) (hA : ∀ op i y, sAw (sG0 S0) L T op i y → i < 8 ∧ A op i ∧ yvt (e op i) y) (hsp : ∀ i, i ≤ 2 → A 5 i ∧ yvt (e 5 i) false) : match m e with
    | some v => yvt v (decide (ty = 1)) ∧ ∃ S' : yS, Y q (d + 4) 258 0 [vr 129, vr (ru 0), vi st, vu, vu, vu, vu] [] S js = yretv q S' js ∧ rRp (sI S 63 0) S' [v]
    | none => ∃ S' : yS, Y q (d + 4) 258 0 [vr 129, vr (ru 0), vi st, vu, vu, vu, vu] [] S js = ythr q (ystp 2 (Int32.ofInt (-1))) S' js ∧ yFr yWp S S' := by
  obtain ⟨nm, decl, rd, tb', t, b, t', b', x, ⟨h1, hb⟩, h2, h3, h4, h5, h6, h7⟩ := hv
  have hK' : rK (sI S 63 0) 0 C := hK
  have hM := rMach (q := q) (d := d) (js := js) (S0 := sI S 63 0) (x0 := ((st : Nat) : Int)) (u := 0) (C := C) (X := X) (tx := gX (sG0 S0)) (Tk := yTq (tb S0) (gI S0 12).toNat) (e := e) (A := A) (Or.inl rfl) hK' hC hX he
  have gd := yexp_gd (T := gT (sG0 S0)) (nm := nm) (decl := decl) hM (h67_0 hin hl) (s0_txt hin hl) (fun v op i y hvn => by
    have hs := h6 v op i y hvn
    obtain ⟨k1, k2, k3⟩ := hA op i y hs
    have hop : 2 ≤ op ∧ op ≤ 4 := by rcases hs with h | h | h <;> have := h.1 <;> omega
    exact ⟨hop.1, hop.2, k1, k2, k3⟩) hsp (rd := rd) h1
  have emb : yEmb C st x.2.2.1 := fun j i hj => h3 j i (by rw [List.getElem?_append_left (List.getElem?_eq_some_iff.mp hj).1]; exact hj)
  have run := gd st tb' t b t' b' x h2 emb h4
  have r258' := r258 (q := q) (d := d) (js := js) (S0 := S) (u := 0) (Or.inl rfl) hK hC (by omega) run (z := 0) (h3 x.2.2.1.length _ (by
    rw [List.getElem?_append_right (Nat.le_refl _), Nat.sub_self]
    rfl))
  rw [h7] at r258'
  rw [h5, ytyn_d]
  exact r258'
end YTDL
end YTD
