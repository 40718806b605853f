/-! RUN: what both are left with after a run; a heap's slots, as they can be read -/
section YUQ
/-- what can be asked -/
def yFx (S : yS) (V : yPV) (D E : yS) : Prop := (gI E 68 = gI D 29 ∧ 0 ≤ gI D 29 ∧ gI D 29 ≤ 30) ∧ (gI E 69 = gI D 32 ∧ 0 ≤ gI D 32 ∧ gI D 32 ≤ 40) ∧ gI E 70 = gI D 33 ∧ (∀ j : Nat, (j : Int) < gI D 29 * gI D 28 * gI D 27 → gA E 64 j = gA D 33 j) ∧ (∀ g, g < 3 → gA E 62 g = gA D 35 g) ∧ (gI D 27 = (zPg V).2.1 ∧ gI D 28 = (zPg V).2.2) ∧ (∀ i : Nat, (i : Int) < gI D 32 → gA E 61 i = gA D 34 i) ∧ (∃ e, yVt V e D E) ∧ ∀ v, cV S 27 v → cV D 27 v
section YUQL
variable {q : yQ} {d d' : Nat} {js ks : List xO} {S0 : yS} {t : Nat} {V : yPV} {a : Int} {n : Nat} {S T : yS}
theorem ypq (hl : (ytq (tb S0) (gI S0 12).toNat).length ≤ 2001) (hS : iPq S0 t V a S) (hT : iPq S0 t V a T) (hTS : iTb S) (hTT : iTb T) (e10 : gI T 10 = gI S 10) (e11 : gI T 11 = gI S 11) (e20 : gA T 20 = gA S 20) (e7 : gB T 7 = gB S 7) (hn : nrow (gI S 10) (gI S 11) = n) (hh : 0 ≤ sht V 1 ∧ 0 ≤ sht V 2 ∧ sht V 1 + sht V 2 < (zPg V).2.2) {x0 kn : Int} (hkn : kn = if yr x0 = 0 then gI S 29 else 0) : ∃ (D E : yS) (x : Int) (ks' : List xO), yFr yBc S D ∧ yFr yBr T E ∧ (gI D 34 = x ∧ gI E 71 = x ∧ (x = 0 ∨ x = 2 ∨ x = 4)) ∧ yFx S V D E ∧ Y q (d + 18) 112 0 [vr 125, vi x0, vu, vu, vu, vu, vu, vu, vu] [] S js = yfinc q x0 D js ∧ Y q (d' + 11) 277 0 [vr 129, vj (yi2l kn), vu, vu] [] T ks = yretv q E ks' ∧ (x = 0 ∧ ks' = ks ∨ ∃ o, yEo x o ∧ ks' = ks ++ [o]) := by
  obtain ⟨B, C0, fB, fC, C71, h27, hx0, C, D, T', x, hF, hx, h69, hr, c1, c2⟩ := ypass (q := q) (d := d) (d' := d') (js := js) (ks := ks) hl hS hT hTS hTT e10 e11 e20 e7 hn hh hkn
  obtain ⟨⟨⟨o1, o2⟩, o3, ⟨o4, o4a, o4b, o4c⟩, o5, o6, o7, o8⟩, hx34, hv⟩ := hr
  obtain ⟨_, _, ⟨s1, s2, _⟩, _, hord⟩ := id hx
  have fD : yFr yBc S D := yFr_tr fB (yBc_w o1)
  have fT : yFr yBr T T' := yFr_tr fC (yFr_tr (yBr_w hF) (yBr_w o2))
  have fx : yFx S V D T' := by
    refine ⟨o3, ⟨o4, o4b, o4c⟩, o5, o6, o7, ⟨(o1.1 27 rfl).trans s1, (o1.1 28 rfl).trans s2⟩, fun i hi => ?_, hv, fun v hv' => o8 v (h27 v hv')⟩
    rw [o1.2.2.2.1 34 rfl, o2.2.2.2.1 61 rfl]
    exact (hord i (by omega)).1
  rcases c2 with ⟨z, f⟩ | ⟨o, hxo, f⟩
  · refine ⟨D, T', x, ks, fD, fT, ⟨hx34, ?_, Or.inl z⟩, fx, c1, f, Or.inl ⟨z, rfl⟩⟩
    rw [o2.1 71 rfl, hF.1 71 rfl, C71, z]
  · refine ⟨D, sI T' 71 x, x, ks ++ [o], fD, yFr_tr fT (yFr_I rfl), ⟨hx34, gI_self _ _ _, ?_⟩, fx, c1, f, Or.inr ⟨o, hxo, rfl⟩⟩
    rcases hxo with ⟨z, _⟩ | ⟨z, _⟩
    · exact Or.inr (Or.inl z)
    · exact Or.inr (Or.inr z)
/-- two states of one heap -/
theorem yrv_H {A B : yS} (h : yretv q A js = yretv q B js) : yH q A js = yH q B js := by
  unfold yretv at h
  injection h with h
  exact congrArg Prod.snd h
theorem Y_H {A B : yS} {k pc : Nat} {L st : List yV} (h : yH q A js = yH q B js) : Y q d k pc L st A js = Y q d k pc L st B js := by
  unfold Y
  rw [h]
theorem yH_c {A B : yS} {k : Nat} {e : yDs} (h : yH q A js = yH q B js) (h2 : yT[k]? = some e) : ycell A e = ycell B e := by
  have e1 := yH_get q A js h2
  have e2 := yH_get q B js h2
  rw [h] at e1
  exact Option.some.inj (e1.symm.trans e2)
theorem yH_I {A B : yS} {k c s f : Nat} {fs : List (Nat × Nat)} (h : yH q A js = yH q B js) (h2 : yT[k]? = some (.inl (c, fs))) (h3 : fs[f]? = some (0, s)) : yr (gI A s) = yr (gI B s) := by
  have e := yH_c h h2
  have e : (Sum.inr (c, fs.map (yfld A)) : xO) = .inr (c, fs.map (yfld B)) := e
  injection e with e
  injection e with _ e
  have e1 : (fs.map (yfld A))[f]? = some (yfld A (0, s)) := by rw [List.getElem?_map, h3]; rfl
  have e2 : (fs.map (yfld B))[f]? = some (yfld B (0, s)) := by rw [List.getElem?_map, h3]; rfl
  rw [e] at e1
  have e3 : yfld A (0, s) = yfld B (0, s) := Option.some.inj (e1.symm.trans e2)
  have e3 : Value.int (Int32.ofInt (gI A s)) = Value.int (Int32.ofInt (gI B s)) := e3
  injection e3 with e3
  unfold yr
  rw [e3]
theorem yH_A {A B : yS} {k t n s : Nat} (h : yH q A js = yH q B js) (h2 : yT[k]? = some (.inr (t, n, s))) (h3 : ∀ S : yS, yrow S t s = .inl fun j => Int32.ofInt (gA S s j)) (j : Nat) : yr (gA A s j) = yr (gA B s j) := by
  have e := yH_c h h2
  have e : (Sum.inl (t, n, yrow A t s) : xO) = .inl (t, n, yrow B t s) := e
  injection e with e
  injection e with _ e
  injection e with _ e
  rw [h3, h3] at e
  injection e with e
  have := congrFun e j
  unfold yr
  rw [this]
theorem yH_B {A B : yS} {k n s : Nat} (h : yH q A js = yH q B js) (h2 : yT[k]? = some (.inr (1, n, s))) : gB A s = gB B s := by
  have e := yH_c h h2
  have e : (Sum.inl (1, n, .inr (.inl (gB A s))) : xO) = .inl (1, n, .inr (.inl (gB B s))) := e
  injection e with e
  injection e with _ e
  injection e with _ e
  injection e with e
  injection e with e
/-- slots that a run changes, as they can be read -/
def yNw (S : yS) : yS := (fun k => if yWfn 0 k = true then yr (gI S k) else gI S k, S.2.1, S.2.2.1, fun k => if yWfn 3 k = true then (fun j => yr (gA S k j)) else gA S k, S.2.2.2.2.1, S.2.2.2.2.2)
theorem yNw_I (S : yS) (k : Nat) : gI (yNw S) k = if yWfn 0 k = true then yr (gI S k) else gI S k := rfl
theorem yNw_A (S : yS) (k : Nat) : gA (yNw S) k = if yWfn 3 k = true then (fun j => yr (gA S k j)) else gA S k := rfl
theorem yof_yr (x : Int) : Int32.ofInt (yr x) = Int32.ofInt x := by
  unfold yr
  rw [Int32.ofInt_toInt]
theorem yNw_H (S : yS) : yH q (yNw S) js = yH q S js := by
  have hf : yfld (yNw S) = yfld S := by
    funext p
    obtain ⟨s, k⟩ := p
    match s with
    | 0 =>
      show Value.int (Int32.ofInt (gI (yNw S) k)) = .int (Int32.ofInt (gI S k))
      rw [yNw_I]
      split
      · rw [yof_yr]
      · rfl
    | 1 => rfl
    | 2 => rfl
    | s + 3 => rfl
  have hc : ycell (yNw S) = ycell S := by
    funext e
    match e with
    | .inl (c, fs) =>
      show Sum.inr (c, fs.map (yfld (yNw S))) = Sum.inr (c, fs.map (yfld S))
      rw [hf]
    | .inr (t, n, s) =>
      show Sum.inl (t, n, yrow (yNw S) t s) = Sum.inl (t, n, yrow S t s)
      have hr : yrow (yNw S) t s = yrow S t s := by
        unfold yrow
        split
        · rfl
        · rfl
        · congr 1
          funext j
          rw [yNw_A]
          split
          · exact yof_yr _
          · rfl
      rw [hr]
  unfold yH
  rw [hc]
end YUQL
end YUQ
