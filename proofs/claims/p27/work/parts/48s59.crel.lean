/-! taken from whole by wip/p27/slice2.py: 9zn.crel.lean.txt -/
section YCP
def syk (G : yGx) (κ : (Nat × Nat) ⊕ yPV) : yK9 := match κ with
  | .inl e => .inl e
  | .inr V => .inr (qzC V, yTexts (gX G) (qzX V))
/-- a mode of the class's, for where a program's reading stands -/
def sRl (G : yGx) (σ : yPS) (m : yMo) : Prop := match σ with
  | .inl p => m = .inl p
  | .inr (t, κ) => ∃ b : Nat, 1000000 ≤ b + t ∧ t < gN G ∧ m = .inr (t, b, syk G κ)
def cBn (S : yS) (B : Nat → Option (Nat × Nat)) : Prop := ∀ j, j < 11 → gA S 26 j = match B j with
  | none => -1
  | some (i, _) => (i : Int)
def vPg (S : yS) (p : Nat × Nat × Nat) : Prop := gI S 20 = p.1 ∧ gI S 21 = p.2.1 ∧ gI S 22 = p.2.2
def vIt (S : yS) (l : List yIe) : Prop := yLs (gI S 25) l fun j x => gC S 3 j = x.1 ∧ gA S 27 j = x.2.1 ∧ gA S 28 j = x.2.2.1 ∧ gA S 29 j = x.2.2.2
/-- the class's tables hold a program -/
def cVl (S : yS) (V : yPV) : Prop := vPg S (qzPg V) ∧ vO S (qzO V) ∧ vG S (qzG V) ∧ cDe S 0 (qzL V) ∧ cDe S 1 (qzT V) ∧ vIt S (qzI V) ∧ cBn S (qzB V)
/-- what stays while a program is read -/
def cCx (G : yGx) (S : yS) : Prop := gI S 10 = gCc G ∧ (fun v => yfind (gB S 6) v (gCc G) 0) = gCn G ∧ (fun k => if k < gCc G then gA S 20 k else 0) = gCt G ∧ ytxb S = gX G ∧ 0 ≤ gI S 12 ∧ gI S 12 ≤ 2000
/-- sizes of a program that is read up to a token -/
def sOk (G : yGx) (a : Int) (t : Nat) (V : yPV) : Prop := sRo G t V ∧ ((qzI V).length : Int) ≤ t + a ∧ ((qzPg V).1 ≤ 1 ∧ 10 ≤ (qzPg V).2.1 ∧ (qzPg V).2.1 ≤ 60) ∧ ((qzO V).length ≤ 4 ∧ (qzG V).length ≤ 3 ∧ (qzL V).length ≤ 8 ∧ (qzT V).length ≤ 8) ∧ (∀ j i c, qzB V j = some (i, c) → i < (qzI V).length) ∧ (∀ c, c ∈ qzG V → c < gCc G) ∧ (∀ x, x ∈ qzL V → x.2.1 ≤ 1) ∧ ∀ x, x ∈ qzT V → x.2.1 ≤ 1
def cP (G : yGx) (a : Int) (S : yS) (σ : yPS) : Prop := (∃ m, sRl G σ m ∧ cNd (gT G) (gN G) 0 S m) ∧ cRg S ∧ cCx G S ∧ ∀ t V, σ = .inr (t, .inr V) → cVl S V ∧ sOk G a t V
/-- the tables; all that reading a program changes -/
def yWT (s k : Nat) : Bool := (s == 0 && (k == 20 || k == 21 || k == 22 || k == 23 || k == 24 || k == 25 || k == 8 || k == 9)) || (s == 3 && (k == 23 || k == 24 || k == 25 || k == 26 || k == 27 || k == 28 || k == 29 || k == 14 || k == 15 || k == 16 || k == 17 || k == 18 || k == 19)) || (s == 4 && (k == 4 || k == 5)) || (s == 5 && (k == 0 || k == 1 || k == 3))
def yWD (s k : Nat) : Bool := yWy 0 s k || yWT s k
theorem yWD_t {S S' : yS} (h : yFr yWT S S') : yFr yWD S S' := yFr_mo h fun s k e => by
  unfold yWD at e
  simp only [Bool.or_eq_false_iff] at e
  exact e.2
theorem yWD_y {S S' : yS} (h : yFr (yWy 0) S S') : yFr yWD S S' := yFr_mo h fun s k e => by
  unfold yWD at e
  simp only [Bool.or_eq_false_iff] at e
  exact e.1
theorem yWD_k {S S' : yS} (h : yFr yWk S S') : yFr yWD S S' := yWD_y (yFr_mo h fun s k e => by
  unfold yWy at e
  simp only [Bool.or_eq_false_iff] at e
  exact yWx_k e.1.1)
section YCPL
variable {G : yGx} {σ σ' : yPS} {m : yMo} {S S' : yS} {a : Int}
theorem sRl_kd (h : sRl G σ m) : ykm2 (gT G) m = skd G σ := by
  rcases σ with p | ⟨t, κ⟩
  · rw [show m = .inl p from h]; rfl
  · obtain ⟨b, _, _, e⟩ := h
    rw [e]; rfl
theorem sRl_pl (h : sRl G σ m) : ypl (gT G) m = spl G σ := by
  rcases σ with p | ⟨t, κ⟩
  · rw [show m = .inl p from h]; rfl
  · obtain ⟨b, _, _, e⟩ := h
    rw [e]; rfl
theorem sRl_vl (h : sRl G σ m) : ∀ t κ, σ = .inr (t, κ) → yvl (gT G) S m = svl G σ := by
  intro t κ e
  subst e
  obtain ⟨b, _, _, e⟩ := h
  rw [e]; rfl
theorem sRl_64 (h : sRl G σ m) (hk : skd G σ ≤ 64) : ∀ t b k, m = .inr (t, b, k) → (gT G t).1 ≤ 64 := by
  intro t b k e
  subst e
  rw [← sRl_kd h] at hk
  exact hk
theorem sRl_nx (hT : yTo (gT G) (gN G)) (h : sRl G σ m) (hk : skd G σ ≤ 64) : sRl G (snx σ) (ynx (gT G) m) := by
  rcases σ with p | ⟨t, κ⟩
  · rw [show m = .inl p from h]; rfl
  · obtain ⟨b, h1, h2, e⟩ := h
    have hN := hT.2.1
    have e2 : ynx (gT G) m = .inr (t + 1, b - 1, syk G κ) := by
      rw [e]
      show (if b = 0 then _ else _) = _
      rw [if_neg (by omega)]
    exact ⟨b - 1, by omega, yTo_t hT h2 hk, e2⟩
theorem sRl_rf (h : sRl G σ m) : sRl G (srf G σ) (yrf (gT G) m) := by
  rcases σ with p | ⟨t, κ⟩
  · rw [show m = .inl p from h]; rfl
  · obtain ⟨b, h1, h2, e⟩ := h
    rw [e]; rfl
theorem sRl_wr {n p : Nat} (h : sRl G σ m) : sRl G (swr σ n p) (ywr m n p) := by
  rcases σ with p | ⟨t, e | V⟩
  · rw [show m = .inl p from h]; rfl
  · obtain ⟨b, h1, h2, e⟩ := h
    rw [e]
    exact ⟨b, h1, h2, rfl⟩
  · obtain ⟨b, h1, h2, e⟩ := h
    rw [e]
    exact ⟨b, h1, h2, rfl⟩
theorem sRl_xp {kd : Nat} (hT : yTo (gT G) (gN G)) (hkd : kd ≤ 64) (h : sRl G σ m) : sRl G (sxp G kd σ) (yxp (gT G) kd m) := by
  unfold sxp yxp
  rw [sRl_kd h]
  split
  · exact sRl_nx hT h (by omega)
  · exact sRl_rf h
theorem sRl_mp {f : yPV → yPV} (hf : ∀ t V, σ = .inr (t, .inr V) → qzC (f V) = qzC V ∧ qzX (f V) = qzX V) (h : sRl G σ m) : sRl G (smp f σ) m := by
  rcases σ with p | ⟨t, e | V⟩
  · exact h
  · exact h
  · obtain ⟨b, h1, h2, e⟩ := h
    obtain ⟨f1, f2⟩ := hf t V rfl
    refine ⟨b, h1, h2, ?_⟩
    rw [e]
    show _ = (Sum.inr (t, b, .inr (qzC (f V), yTexts (gX G) (qzX (f V)))) : yMo)
    rw [f1, f2]
    rfl
theorem sRl_num {lo hi : Nat} {v : Int64} (hT : yTo (gT G) (gN G)) (h : sRl G σ m) (hv : ∀ t κ, σ = .inr (t, κ) → v = svl G σ) : sRl G (snum G lo hi σ) (ynbm (gT G) lo hi v m) := by
  rcases σ with p | ⟨t, κ⟩
  · have e : m = .inl p := h
    rw [e]
    have h1 : ∀ v, ynbm (gT G) lo hi v (.inl p) = .inl p := fun v => by
      unfold ynbm yxp
      split <;> split <;> rfl
    have h2 : snum G lo hi (.inl p) = .inl p := by
      unfold snum sxp
      split <;> split <;> rfl
    rw [h1, h2]
    rfl
  · rw [hv t κ rfl]
    unfold snum ynbm
    split
    · exact sRl_xp hT (by omega) h
    · rw [sRl_pl h]
      exact sRl_wr (sRl_xp hT (by omega) h)
theorem sRl_gd {c : yPV → Bool} {C : Prop} [Decidable C] {n p : Nat} (h : sRl G σ m) (hc : ∀ t V, σ = .inr (t, .inr V) → (c V = true ↔ C)) : sRl G (sgd c n p σ) (if C then m else ywr m n p) := by
  rcases σ with p' | ⟨t, e | V⟩
  · have e : m = .inl p' := h
    rw [e]
    split <;> rfl
  · obtain ⟨b, h1, h2, e⟩ := h
    rw [e]
    refine ⟨b, h1, h2, ?_⟩
    split <;> rfl
  · obtain ⟨b, h1, h2, e⟩ := h
    have hc := hc t V rfl
    rw [e]
    refine ⟨b, h1, h2, ?_⟩
    by_cases z : C
    · rw [if_pos z, if_pos (hc.mpr z)]
    · rw [if_neg z, if_neg (fun y => z (hc.mp y))]
      rfl
/-- the same with `if not` -/
theorem sRl_gn {c : yPV → Bool} {C : Prop} [Decidable C] {n p : Nat} (h : sRl G σ m) (hc : ∀ t V, σ = .inr (t, .inr V) → (c V = true ↔ ¬ C)) : sRl G (sgd c n p σ) (if C then ywr m n p else m) := by
  have := sRl_gd (C := ¬ C) (n := n) (p := p) h hc
  by_cases z : C
  · rw [if_pos z]
    rw [if_neg (fun y => y z)] at this
    exact this
  · rw [if_neg z]
    rw [if_pos z] at this
    exact this
theorem smp_al {f : yPV → yPV} {t : Nat} {V : yPV} (h : smp f σ = .inr (t, .inr V)) : ∃ V0, σ = .inr (t, .inr V0) ∧ V = f V0 := by
  rcases σ with p | ⟨t', e | V0⟩
  · nomatch h
  · nomatch h
  · have h : (Sum.inr (t', .inr (f V0)) : yPS) = .inr (t, .inr V) := h
    injection h with h
    injection h with h1 h2
    injection h2 with h2
    exact ⟨V0, by rw [h1], h2.symm⟩
theorem snx_al {t : Nat} {V : yPV} (h : snx σ = .inr (t, .inr V)) : ∃ t0, σ = .inr (t0, .inr V) ∧ t = t0 + 1 := by
  rcases σ with p | ⟨t', κ⟩
  · nomatch h
  · have h : (Sum.inr (t' + 1, κ) : yPS) = .inr (t, .inr V) := h
    injection h with h
    injection h with h1 h2
    exact ⟨t', by rw [h2], h1.symm⟩
theorem srf_al {t : Nat} {V : yPV} (h : srf G σ = .inr (t, .inr V)) : False := by
  rcases σ with p | ⟨t', κ⟩ <;> nomatch h
theorem swr_al {n p t : Nat} {V : yPV} (h : swr σ n p = .inr (t, .inr V)) : False := by
  rcases σ with p | ⟨t', e | V0⟩ <;> nomatch h
theorem sgd_al {c : yPV → Bool} {n p t : Nat} {V : yPV} (h : sgd c n p σ = .inr (t, .inr V)) : σ = .inr (t, .inr V) ∧ c V = true := by
  rcases σ with p' | ⟨t', e | V0⟩
  · nomatch h
  · nomatch h
  · by_cases z : c V0 = true
    · have e : sgd c n p (.inr (t', .inr V0)) = .inr (t', .inr V0) := by
        show (Sum.inr (t', if c V0 = true then _ else _) : yPS) = _
        rw [if_pos z]
      rw [e] at h
      injection h with h
      injection h with h1 h2
      injection h2 with h2
      subst h1 h2
      exact ⟨rfl, z⟩
    · have e : sgd c n p (.inr (t', .inr V0)) = .inr (t', .inl (n, p)) := by
        show (Sum.inr (t', if c V0 = true then _ else _) : yPS) = _
        rw [if_neg z]
      rw [e] at h
      nomatch h
theorem sxp_al {kd t : Nat} {V : yPV} (h : sxp G kd σ = .inr (t, .inr V)) : ∃ t0, σ = .inr (t0, .inr V) ∧ t = t0 + 1 ∧ skd G σ = kd := by
  unfold sxp at h
  split at h
  · rename_i z
    obtain ⟨t0, h1, h2⟩ := snx_al h
    exact ⟨t0, h1, h2, z⟩
  · exact absurd h (fun h => srf_al h)
theorem snum_al {lo hi t : Nat} {V : yPV} (h : snum G lo hi σ = .inr (t, .inr V)) : ∃ t0, σ = .inr (t0, .inr V) ∧ t = t0 + 1 ∧ (lo : Int) ≤ (svl G σ).toInt ∧ (svl G σ).toInt ≤ hi ∧ skd G σ = 63 := by
  unfold snum at h
  split at h
  · rename_i z
    obtain ⟨t0, h1, h2, h3⟩ := sxp_al h
    exact ⟨t0, h1, h2, z.1, z.2, h3⟩
  · exact absurd h (fun h => swr_al h)
/-- a token more -/
theorem sRo_nx {t : Nat} {V : yPV} (hG : gOk G) (ht : t + 1 < gN G) (h : sRo G t V) : sRo G (t + 1) V := by
  obtain ⟨h1, h2⟩ := h
  have h64 := hG.1.2.2.2.1 t ht
  obtain ⟨r1, r2, r3⟩ := hG.2.1
  obtain ⟨s1, s2, s3⟩ := r3 t 100 ht h64
  have s4 := (s3 (by omega)).1
  have e := hG.2.2.2.2.1 (t + 1) (100 - 1) 100
  exact ⟨by omega, by omega⟩
theorem sRo_le {V : yPV} (hG : gOk G) : ∀ (n t : Nat), t + n < gN G → sRo G t V → sRo G (t + n) V
  | 0, _, _, h => h
  | n + 1, t, ht, h => sRo_nx hG (by omega) (sRo_le hG n t (by omega) h)
theorem sOk_le {a a' : Int} {t t' : Nat} {V : yPV} (hG : gOk G) (ht : t ≤ t') (htN : t' < gN G) (ha : t + a ≤ t' + a') (h : sOk G a t V) : sOk G a' t' V := by
  obtain ⟨h1, h2, h3⟩ := h
  have e : t + (t' - t) = t' := by omega
  have := sRo_le (V := V) hG (t' - t) t (by omega) h1
  rw [e] at this
  exact ⟨this, by omega, h3⟩
theorem cRg_fr (h : cRg S) (hf : yFr (yWy 0) S S') : cRg S' := by
  unfold cRg cGr at h ⊢
  rw [hf.1 20 rfl, hf.1 21 rfl, hf.1 22 rfl, hf.1 23 rfl, hf.1 24 rfl, hf.1 8 rfl, hf.1 9 rfl, hf.1 25 rfl, hf.2.2.2.1 25 rfl, hf.2.2.2.1 26 rfl, hf.2.2.2.1 29 rfl, hf.2.2.2.2.2 3 rfl]
  exact h
section YVF
variable {W : Nat → Nat → Bool}
theorem vPg_fr {p : Nat × Nat × Nat} (h : vPg S p) (hf : yFr W S S') (w : W 0 20 = false ∧ W 0 21 = false ∧ W 0 22 = false) : vPg S' p := by
  unfold vPg at h ⊢
  rw [hf.1 20 w.1, hf.1 21 w.2.1, hf.1 22 w.2.2]
  exact h
theorem vO_fr {l : List (Nat × Nat)} (h : vO S l) (hf : yFr W S S') (w : W 0 23 = false ∧ W 3 23 = false ∧ W 3 24 = false) : vO S' l := by
  unfold vO at h ⊢
  rw [hf.1 23 w.1, hf.2.2.2.1 23 w.2.1, hf.2.2.2.1 24 w.2.2]
  exact h
theorem vG_fr {l : List Nat} (h : vG S l) (hf : yFr W S S') (w : W 0 24 = false ∧ W 3 25 = false) : vG S' l := by
  unfold vG at h ⊢
  rw [hf.1 24 w.1, hf.2.2.2.1 25 w.2]
  exact h
theorem vIt_fr {l : List yIe} (h : vIt S l) (hf : yFr W S S') (w : W 0 25 = false ∧ W 5 3 = false ∧ W 3 27 = false ∧ W 3 28 = false ∧ W 3 29 = false) : vIt S' l := by
  unfold vIt at h ⊢
  rw [hf.1 25 w.1, hf.2.2.2.2.2 3 w.2.1, hf.2.2.2.1 27 w.2.2.1, hf.2.2.2.1 28 w.2.2.2.1, hf.2.2.2.1 29 w.2.2.2.2]
  exact h
theorem cBn_fr {B : Nat → Option (Nat × Nat)} (h : cBn S B) (hf : yFr W S S') (w : W 3 26 = false) : cBn S' B := by
  unfold cBn at h ⊢
  rw [hf.2.2.2.1 26 w]
  exact h
end YVF
theorem cVl_fr {V : yPV} (h : cVl S V) (hf : yFr (yWy 0) S S') : cVl S' V := ⟨vPg_fr h.1 hf ⟨rfl, rfl, rfl⟩, vO_fr h.2.1 hf ⟨rfl, rfl, rfl⟩, vG_fr h.2.2.1 hf ⟨rfl, rfl⟩, cDe_fr h.2.2.2.1 hf ⟨rfl, rfl, rfl, rfl, rfl, rfl⟩, cDe_fr h.2.2.2.2.1 hf ⟨rfl, rfl, rfl, rfl, rfl, rfl⟩, vIt_fr h.2.2.2.2.2.1 hf ⟨rfl, rfl, rfl, rfl, rfl⟩, cBn_fr h.2.2.2.2.2.2 hf rfl⟩
theorem yLs_app {α : Type} {n n' : Int} {L : List α} {r r' : Nat → α → Prop} {x : α} (h : yLs n L r) (hn : n' = ((L.length + 1 : Nat) : Int)) (hx : r' L.length x) (hr : ∀ j y, j < L.length → r j y → r' j y) : yLs n' (L ++ [x]) r' := by
  refine ⟨by rw [hn, List.length_append]; rfl, fun j y hj => ?_⟩
  by_cases z : j < L.length
  · rw [List.getElem?_append_left z] at hj
    exact hr j y z (h.2 j y hj)
  · have hl := (List.getElem?_eq_some_iff.mp hj).1
    rw [List.length_append] at hl
    have hl : j < L.length + 1 := hl
    have e : j = L.length := by omega
    subst e
    rw [List.getElem?_append_right (Nat.le_refl _), Nat.sub_self] at hj
    cases hj
    exact hx
theorem cCx_fr {W : Nat → Nat → Bool} (h : cCx G S) (hf : yFr W S S') (hW : W 0 10 = false ∧ W 4 6 = false ∧ W 3 20 = false ∧ W 3 21 = false ∧ W 0 12 = false) : cCx G S' := by
  obtain ⟨w1, w2, w3, w4, w5⟩ := hW
  obtain ⟨h1, h2, h3, h4, h5⟩ := h
  refine ⟨(hf.1 10 w1).trans h1, by rw [hf.2.2.2.2.1 6 w2]; exact h2, by rw [hf.2.2.2.1 20 w3]; exact h3, ?_, ?_⟩
  · rw [← h4]
    funext p n
    unfold ytxb tbl tb
    rw [hf.2.2.2.1 21 w4, hf.1 12 w5]
  · rw [hf.1 12 w5]
    exact h5
theorem cNd_T {T : yTk} {N : Nat} (h : cNd T N 0 S m) (hf : yFr yWT S S') : cNd T N 0 S' m := by
  obtain ⟨h1, h2, h3⟩ := h
  have hT : cT S' T N := by
    unfold cT at h1 ⊢
    rw [hf.2.2.2.2.2 2 rfl, hf.2.2.2.1 22 rfl, hf.2.2.2.2.1 8 rfl, hf.1 13 rfl]
    exact h1
  have hO : cO S' 0 := by
    unfold cO at h2 ⊢
    rw [hf.1 0 rfl, hf.1 (2 + 0) rfl, hf.2.2.2.1 (4 + 0) rfl]
    exact h2
  have hA : ∀ t b, cA S T N t b → cA S' T N t b := fun t b h => by
    unfold cA at h ⊢
    rw [hf.1 14 rfl, hf.1 15 rfl, hf.2.2.1 0 rfl, hf.1 16 rfl, hf.2.1 0 rfl]
    exact ⟨hT, h.2⟩
  have hE : ∀ e, cE S e → cE S' e := fun e h => by
    unfold cE at h ⊢
    rw [hf.1 17 rfl, hf.1 18 rfl]
    exact h
  refine ⟨hT, hO, ?_⟩
  match m, h3 with
  | .inl p, h3 =>
    have h3 : cD S p := h3
    show cD S' p
    unfold cD at h3 ⊢
    rw [hf.1 16 rfl, hf.1 17 rfl, hf.1 18 rfl, hf.2.2.1 0 rfl]
    exact h3
  | .inr (t, b, .inl e), h3 => exact ⟨hA t b h3.1, hE _ h3.2⟩
  | .inr (t, b, .inr (L, X)), h3 =>
    refine ⟨hA t b h3.1, hE _ h3.2.1, ?_, ?_⟩
    · have h4 : cK S 0 L := h3.2.2.1
      show cK S' 0 L
      unfold cK at h4 ⊢
      rw [hf.1 0 rfl, hf.2.2.2.1 0 rfl, hf.2.2.2.2.1 0 rfl]
      exact h4
    · have h4 : cX S 0 X := h3.2.2.2
      show cX S' 0 X
      unfold cX at h4 ⊢
      rw [hf.1 (2 + 0) rfl, hf.2.2.2.1 (2 + 0) rfl, hf.2.2.2.1 (4 + 0) rfl]
      exact h4
/-- what is done to the tables alone -/
theorem cP_T {a' : Int} {f : yPV → yPV} (h : cP G a S σ) (hf : yFr yWT S S') (hR : cRg S') (hz : ∀ t V, σ = .inr (t, .inr V) → qzC (f V) = qzC V ∧ qzX (f V) = qzX V) (hv : ∀ t V, σ = .inr (t, .inr V) → cVl S V → sOk G a t V → cVl S' (f V) ∧ sOk G a' t (f V)) : cP G a' S' (smp f σ) := by
  obtain ⟨⟨m, h1, h2⟩, h3, h4, h5⟩ := h
  refine ⟨⟨m, sRl_mp hz h1, cNd_T h2 hf⟩, hR, cCx_fr h4 hf ⟨rfl, rfl, rfl, rfl, rfl⟩, fun t V e => ?_⟩
  obtain ⟨V0, e1, e2⟩ := smp_al e
  obtain ⟨v, o⟩ := h5 t V0 e1
  rw [e2]
  exact hv t V0 e1 v o
end YCPL
end YCP
