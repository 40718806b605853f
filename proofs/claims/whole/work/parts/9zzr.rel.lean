/-! A PROGRAM's ITEMS: the class's items and the reference's plan, side by side -/
section YSJ
/-- names that may stand in an expression, with their types -/
def sAw (G : yGx) (L T : List yDf) (op i : Nat) (y : Bool) : Prop := (op = 2 ∧ i < gCc G ∧ y = decide (¬ gCt G i = 0)) ∨ (op = 3 ∧ i < L.length ∧ y = decide (¬ (L.getD i dDf).2.1 = 0)) ∨ (op = 4 ∧ i < T.length ∧ y = decide (¬ (T.getD i dDf).2.1 = 0))
/-- from some instruction on stands an expression's code -/
def sGc (G : yGx) (C : yCo) (X : List (Nat × Nat)) (L T : List yDf) (st ty : Nat) : Prop := ∃ (nm : Int64 → Option (Nat × Nat × Bool)) (decl : Bool) (rd tb t b t' b' : Nat) (x : yX), (rd ≤ 12 ∧ b ≤ 100) ∧ yexp (gT G) (gX G) nm decl yOO rd st tb t b = .inr (t', b', .inr x) ∧ (∀ j i, (x.2.2.1 ++ [(30, 0)])[j]? = some i → C[st + j]? = some i) ∧ (∀ j p, x.2.2.2.1[j]? = some p → X[tb + j]? = some p) ∧ ty = ytyn x ∧ ∀ v op i y, nm v = some (op, i, y) → sAw G L T op i y
def yPc (Gd : Nat → Nat → Prop) (p r : yIe) : Prop := (p.1 = 23 ∧ r.1 = 1 ∧ r.2.1 = p.2.1 ∧ 1 ≤ p.2.1 ∧ p.2.1 ≤ 60) ∨ (r.1 = 2 ∧ r.2.1 = p.2.2.1 ∧ r.2.2.1 = p.2.1 ∧ p.2.1 ≤ 60 ∧ ∃ ty, ty ≤ 1 ∧ Gd p.2.2.1 ty ∧ ((r.2.2.2 = 0 ∧ p.1 = if ty = 1 then 31 else 32) ∨ (1 ≤ r.2.2.2 ∧ r.2.2.2 ≤ 3 ∧ p.1 = 30 + r.2.2.2)))
/-- one item -/
def yIw (I P : List yIe) (Gd : Nat → Nat → Prop) (bd : Bool) (sub : Nat → Nat → Nat → Nat → Prop) (i e a a' : Nat) : Prop := ∃ x y : yIe, I[i]? = some x ∧ P[a]? = some y ∧ x.2.2.2 = e ∧ (bd = true ∨ x.1 = 22 ∨ x.1 = 24) ∧ (
  (x.1 = 22 ∧ y.1 = 0 ∧ y.2.1 = a' ∧ (∃ z : yIe, P[a' - 1]? = some z ∧ z.1 = 3) ∧ a + 1 + (e - (i + 1)) + 1 = a' ∧ i + 1 ≤ e ∧ ∀ k, k < e - (i + 1) → ∃ p r : yIe, I[i + 1 + k]? = some p ∧ P[a + 1 + k]? = some r ∧ yPc Gd p r) ∨
  (x.1 = 24 ∧ y.1 = 4 ∧ y.2.1 = x.2.1 ∧ 1 ≤ x.2.1 ∧ x.2.1 ≤ 40 ∧ e = i + 1 ∧ a' = a + 1) ∨
  (x.1 = 25 ∧ y.1 = 5 ∧ y.2.1 = x.2.1 ∧ 1 ≤ x.2.1 ∧ x.2.1 ≤ 40 ∧ e = i + 1 ∧ a' = a + 1) ∨
  (x.1 = 26 ∧ y.1 = 6 ∧ e = i + 1 ∧ a' = a + 1) ∨
  (x.1 = 27 ∧ y.1 = 7 ∧ ∃ z : yIe, P[y.2.1]? = some z ∧ z.1 = 8 ∧ a' = y.2.1 + 1 ∧ sub (i + 1) e (a + 1) y.2.1) ∨
  (x.1 = 28 ∧ y.1 = 9 ∧ y.2.1 = x.2.2.1 ∧ Gd x.2.2.1 0 ∧ ∃ (g : Nat) (z : yIe), P[g]? = some z ∧ z.1 = 10 ∧ z.2.1 = a' ∧ y.2.2.1 = g + 1 ∧ sub (i + 1) x.2.1 (a + 1) g ∧ sub x.2.1 e (g + 1) a'))
/-- items, one behind the other -/
def yIl (one : Nat → Nat → Nat → Nat → Prop) : Nat → Nat → Nat → Nat → Nat → Prop
  | 0, i, j, a, b => i = j ∧ a = b
  | f + 1, i, j, a, b => (i = j ∧ a = b) ∨ ∃ e a', i < e ∧ one i e a a' ∧ yIl one f e j a' b
/-- items at some depth -/
def yIts (I P : List yIe) (Gd : Nat → Nat → Prop) (bd : Bool) : Nat → Nat → Nat → Nat → Nat → Prop
  | 0 => yIl (yIw I P Gd bd fun _ _ _ _ => False) 2000
  | rd + 1 => yIl (yIw I P Gd bd (yIts I P Gd bd rd)) 2000
section YSJL
variable {I P I' P' : List yIe} {Gd Gd' : Nat → Nat → Prop} {bd : Bool} {sub sub' one one' : Nat → Nat → Nat → Nat → Prop}
theorem yIl_le (hm : ∀ i e a a', one i e a a' → a < a') : ∀ f i j a b, yIl one f i j a b → i ≤ j ∧ a ≤ b
  | 0, i, j, a, b, h => by
    obtain ⟨h1, h2⟩ := h
    omega
  | f + 1, i, j, a, b, h => by
    rcases h with ⟨h1, h2⟩ | ⟨e, a', h1, h2, h3⟩
    · omega
    · have := yIl_le hm f e j a' b h3
      have := hm _ _ _ _ h2
      omega
theorem yIw_le (hs : ∀ i j a b, sub i j a b → i ≤ j ∧ a ≤ b) : ∀ i e a a', yIw I P Gd bd sub i e a a' → i < e ∧ a < a' := by
  intro i e a a' h
  obtain ⟨x, y, h1, h2, h3, h4, h5⟩ := h
  rcases h5 with ⟨_, _, _, _, h6, h7, _⟩ | ⟨_, _, _, _, _, h6, h7⟩ | ⟨_, _, _, _, _, h6, h7⟩ | ⟨_, _, h6, h7⟩ | ⟨_, _, z, _, _, h6, h7⟩ | ⟨_, _, _, _, g, z, _, _, _, _, h6, h7⟩
  · omega
  · omega
  · omega
  · omega
  · have := hs _ _ _ _ h7
    omega
  · have := hs _ _ _ _ h6
    have := hs _ _ _ _ h7
    omega
theorem yIts_le : ∀ rd i j a b, yIts I P Gd bd rd i j a b → i ≤ j ∧ a ≤ b
  | 0 => fun i j a b h => yIl_le (fun i e a a' h => (yIw_le (fun _ _ _ _ h => h.elim) i e a a' h).2) 2000 i j a b h
  | rd + 1 => fun i j a b h => yIl_le (fun i e a a' h => (yIw_le (yIts_le rd) i e a a' h).2) 2000 i j a b h
theorem yIl_mo {i0 j0 a0 b0 : Nat} (hm : ∀ i e a a', one i e a a' → i < e ∧ a < a') (h : ∀ i e a a', i0 ≤ i → e ≤ j0 → a0 ≤ a → a' ≤ b0 → one i e a a' → one' i e a a') : ∀ f i j a b, i0 ≤ i → j ≤ j0 → a0 ≤ a → b ≤ b0 → yIl one f i j a b → yIl one' f i j a b
  | 0, i, j, a, b, _, _, _, _, hl => hl
  | f + 1, i, j, a, b, h1, h2, h3, h4, hl => by
    rcases hl with hl | ⟨e, a', x1, x2, x3⟩
    · exact Or.inl hl
    · have hle := yIl_le (fun i e a a' h => (hm i e a a' h).2) f e j a' b x3
      have := hm _ _ _ _ x2
      exact Or.inr ⟨e, a', x1, h i e a a' h1 (by omega) h3 (by omega) x2, yIl_mo hm h f e j a' b (by omega) h2 (by omega) h4 x3⟩
theorem yPc_mo {p r : yIe} (hG : ∀ st ty, Gd st ty → Gd' st ty) (h : yPc Gd p r) : yPc Gd' p r := by
  rcases h with h | ⟨h1, h2, h3, h4, ty, h5, h6, h7⟩
  · exact Or.inl h
  · exact Or.inr ⟨h1, h2, h3, h4, ty, h5, hG _ _ h6, h7⟩
theorem yIw_mo {i0 j0 a0 b0 : Nat} (hI : ∀ k, i0 ≤ k → k < j0 → I'[k]? = I[k]?) (hP : ∀ k, a0 ≤ k → k < b0 → P'[k]? = P[k]?) (hG : ∀ st ty, Gd st ty → Gd' st ty) (hl : ∀ i j a b, sub i j a b → i ≤ j ∧ a ≤ b) (hs : ∀ i j a b, i0 ≤ i → j ≤ j0 → a0 ≤ a → b ≤ b0 → sub i j a b → sub' i j a b) : ∀ i e a a', i0 ≤ i → e ≤ j0 → a0 ≤ a → a' ≤ b0 → yIw I P Gd bd sub i e a a' → yIw I' P' Gd' bd sub' i e a a' := by
  intro i e a a' b1 b2 b3 b4 h
  have hle := yIw_le hl i e a a' h
  obtain ⟨x, y, h1, h2, h3, h4, h5⟩ := h
  refine ⟨x, y, by rw [hI i b1 (by omega)]; exact h1, by rw [hP a b3 (by omega)]; exact h2, h3, h4, ?_⟩
  rcases h5 with ⟨k1, k2, k3, ⟨z, k4, k5⟩, k6, k7, k8⟩ | h5 | h5 | h5 | ⟨k1, k2, z, k3, k4, k5, k6⟩ | ⟨k1, k2, k3, k4, g, z, k5, k6, k7, k8, k9, k10⟩
  · refine Or.inl ⟨k1, k2, k3, ⟨z, by rw [hP _ (by omega) (by omega)]; exact k4, k5⟩, k6, k7, fun k hk => ?_⟩
    obtain ⟨p, r, r1, r2, r3⟩ := k8 k hk
    exact ⟨p, r, by rw [hI _ (by omega) (by omega)]; exact r1, by rw [hP _ (by omega) (by omega)]; exact r2, yPc_mo hG r3⟩
  · exact Or.inr (Or.inl h5)
  · exact Or.inr (Or.inr (Or.inl h5))
  · exact Or.inr (Or.inr (Or.inr (Or.inl h5)))
  · have q := hl _ _ _ _ k6
    exact Or.inr (Or.inr (Or.inr (Or.inr (Or.inl ⟨k1, k2, z, by rw [hP _ (by omega) (by omega)]; exact k3, k4, k5, hs _ _ _ _ (by omega) (by omega) (by omega) (by omega) k6⟩))))
  · have q1 := hl _ _ _ _ k9
    have q2 := hl _ _ _ _ k10
    exact Or.inr (Or.inr (Or.inr (Or.inr (Or.inr ⟨k1, k2, k3, hG _ _ k4, g, z, by rw [hP _ (by omega) (by omega)]; exact k5, k6, k7, k8, hs _ _ _ _ (by omega) (by omega) (by omega) (by omega) k9, hs _ _ _ _ (by omega) (by omega) (by omega) (by omega) k10⟩))))
theorem yIts_mo {i0 j0 a0 b0 : Nat} (hI : ∀ k, i0 ≤ k → k < j0 → I'[k]? = I[k]?) (hP : ∀ k, a0 ≤ k → k < b0 → P'[k]? = P[k]?) (hG : ∀ st ty, Gd st ty → Gd' st ty) : ∀ rd i j a b, i0 ≤ i → j ≤ j0 → a0 ≤ a → b ≤ b0 → yIts I P Gd bd rd i j a b → yIts I' P' Gd' bd rd i j a b
  | 0 => fun i j a b h1 h2 h3 h4 h => yIl_mo (fun i e a a' h => yIw_le (fun _ _ _ _ h => h.elim) i e a a' h) (yIw_mo hI hP hG (fun _ _ _ _ h => h.elim) (fun _ _ _ _ _ _ _ _ h => h)) 2000 i j a b h1 h2 h3 h4 h
  | rd + 1 => fun i j a b h1 h2 h3 h4 h => yIl_mo (fun i e a a' h => yIw_le (yIts_le rd) i e a a' h) (yIw_mo hI hP hG (yIts_le rd) (yIts_mo hI hP hG rd)) 2000 i j a b h1 h2 h3 h4 h
end YSJL
/-- a program that goes on another -/
def vEx (V V' : yPV) : Prop := (∃ l, zI V' = zI V ++ l) ∧ (∃ l, zP V' = zP V ++ l) ∧ (∃ l, zC V' = zC V ++ l) ∧ (∃ l, zX V' = zX V ++ l) ∧ zPg V' = zPg V ∧ zO V' = zO V ∧ zG V' = zG V ∧ zL V' = zL V ∧ zT V' = zT V ∧ zB V' = zB V
def sGd (G : yGx) (V : yPV) (st ty : Nat) : Prop := sGc G (zC V) (zX V) (zL V) (zT V) st ty
section YSJM
variable {G : yGx} {V V1 V2 : yPV} {σ : yPS}
theorem vEx_rf : vEx V V := ⟨⟨[], (List.append_nil _).symm⟩, ⟨[], (List.append_nil _).symm⟩, ⟨[], (List.append_nil _).symm⟩, ⟨[], (List.append_nil _).symm⟩, rfl, rfl, rfl, rfl, rfl, rfl⟩
theorem vEx_tr (h : vEx V V1) (h' : vEx V1 V2) : vEx V V2 := by
  obtain ⟨⟨i, a1⟩, ⟨p, a2⟩, ⟨c, a3⟩, ⟨x, a4⟩, a5, a6, a7, a8, a9, a10⟩ := h
  obtain ⟨⟨i', b1⟩, ⟨p', b2⟩, ⟨c', b3⟩, ⟨x', b4⟩, b5, b6, b7, b8, b9, b10⟩ := h'
  exact ⟨⟨i ++ i', by rw [b1, a1, List.append_assoc]⟩, ⟨p ++ p', by rw [b2, a2, List.append_assoc]⟩, ⟨c ++ c', by rw [b3, a3, List.append_assoc]⟩, ⟨x ++ x', by rw [b4, a4, List.append_assoc]⟩, b5.trans a5, b6.trans a6, b7.trans a7, b8.trans a8, b9.trans a9, b10.trans a10⟩
theorem app_get {α : Type} {l l2 l' : List α} (h : l' = l ++ l2) {k : Nat} (hk : k < l.length) : l'[k]? = l[k]? := by
  rw [h, List.getElem?_append_left hk]
theorem vEx_len (h : vEx V V1) : (zI V).length ≤ (zI V1).length ∧ (zP V).length ≤ (zP V1).length := by
  obtain ⟨⟨i, a1⟩, ⟨p, a2⟩, _⟩ := h
  rw [a1, a2, List.length_append, List.length_append]
  omega
theorem sGc_mo {C C' : yCo} {X X' : List (Nat × Nat)} {L T : List yDf} {st ty : Nat} (hC : ∃ l, C' = C ++ l) (hX : ∃ l, X' = X ++ l) (h : sGc G C X L T st ty) : sGc G C' X' L T st ty := by
  obtain ⟨nm, decl, rd, tb, t, b, t', b', x, h1, h2, h3, h4, h5, h6⟩ := h
  obtain ⟨l, hC⟩ := hC
  obtain ⟨l2, hX⟩ := hX
  refine ⟨nm, decl, rd, tb, t, b, t', b', x, h1, h2, fun j i hj => ?_, fun j p hj => ?_, h5, h6⟩
  · have := h3 j i hj
    rw [app_get hC (List.getElem?_eq_some_iff.mp this).1]
    exact this
  · have := h4 j p hj
    rw [app_get hX (List.getElem?_eq_some_iff.mp this).1]
    exact this
theorem sGd_ex (h : vEx V V1) : ∀ st ty, sGd G V st ty → sGd G V1 st ty := fun st ty hg => by
  obtain ⟨_, _, hC, hX, _, _, _, hL, hT, _⟩ := h
  unfold sGd at hg ⊢
  rw [hL, hT]
  exact sGc_mo hC hX hg
/-- an expression that has been read -/
theorem sex_gd {w : Int} {dp t t1 : Nat} (hw : w = 1 ∨ w = 2) (h : sex G w dp (.inr (t, .inr V)) = .inr (t1, .inr V1)) : sty G w dp (.inr (t, .inr V)) ≤ 1 ∧ (∃ c x, V1 = zsK V (zC V ++ c) (zX V ++ x)) ∧ (w = 2 → sGd G V1 (zC V).length (sty G w dp (.inr (t, .inr V)))) ∧ sGc G (zC V1) (zX V1) (zL V) (if w = 2 then zT V else []) (zC V).length (sty G w dp (.inr (t, .inr V))) := by
  obtain ⟨t0, b', V0, x, z1, z2, z3, z4⟩ := sex_al h
  injection z1 with z1
  injection z1 with z5 z6
  injection z6 with z6
  subst z5 z6
  have gen : sGc G (zC V1) (zX V1) (zL V) (if w = 2 then zT V else []) (zC V).length (sty G w dp (.inr (t, .inr V))) := by
    refine ⟨snm G w V, decide (w = 1), 12 - dp, (zX V).length, t, 100, t1, b', x, by omega, z2, fun j i hj => ?_, fun j p hj => ?_, z4, fun v op i y hv => ?_⟩
    · rw [z3]
      show (zC V ++ (x.2.2.1 ++ [(30, 0)]))[(zC V).length + j]? = some i
      rw [List.getElem?_append_right (by omega)]
      rw [Nat.add_sub_cancel_left]
      exact hj
    · rw [z3]
      show (zX V ++ x.2.2.2.1)[(zX V).length + j]? = some p
      rw [List.getElem?_append_right (by omega)]
      rw [Nat.add_sub_cancel_left]
      exact hj
    · unfold snm at hv
      split at hv
      · rename_i y1
        injection hv with hv
        injection hv with e1 hv
        injection hv with e2 e3
        subst e1 e2 e3
        refine Or.inl ⟨rfl, ?_, rfl⟩
        rcases yfind_none (f := gCn G) (w := v) (n := gCc G) (i := 0) with h0 | ⟨k, _, k2, k3, _⟩
        · unfold sfc at y1
          omega
        · unfold sfc at y1 ⊢
          rw [k3]
          omega
      · split at hv
        · rename_i y1 y2
          injection hv with hv
          injection hv with e1 hv
          injection hv with e2 e3
          subst e1 e2 e3
          refine Or.inr (Or.inl ⟨rfl, ?_, rfl⟩)
          rcases yfind_none (f := snl (zL V)) (w := v) (n := (zL V).length) (i := 0) with h0 | ⟨k, _, k2, k3, _⟩
          · have := y2.2
            unfold sfl at this
            omega
          · unfold sfl
            rw [k3]
            omega
        · split at hv
          · rename_i y1 y2 y3
            injection hv with hv
            injection hv with e1 hv
            injection hv with e2 e3
            subst e1 e2 e3
            refine Or.inr (Or.inr ⟨rfl, ?_, ?_⟩)
            · rw [if_pos y3.1]
              rcases yfind_none (f := snl (zT V)) (w := v) (n := (zT V).length) (i := 0) with h0 | ⟨k, _, k2, k3, _⟩
              · have := y3.2
                unfold sfl at this
                omega
              · unfold sfl
                rw [k3]
                omega
            · rw [if_pos y3.1]
          · nomatch hv
  refine ⟨?_, ⟨x.2.2.1 ++ [(30, 0)], x.2.2.2.1, z3⟩, fun hw2 => ?_, gen⟩
  · rw [z4]
    unfold ytyn
    split <;> omega
  · rw [if_pos hw2] at gen
    unfold sGd
    rw [z3] at gen ⊢
    exact gen
end YSJM
end YSJ
