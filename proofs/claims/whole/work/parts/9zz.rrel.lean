/-! THE REFERENCE AND A PROGRAM as far as it is read -/
section YRP
def rsc (s : Int) : Int := if s = -2 then -1 else if s = -1 then 3 else s
/-- where the reference keeps a band -/
def rbn (j : Nat) : Nat := if j < 5 then j else if j < 8 then 2 * j - 5 else 26 - 2 * j
def rPg (S : yS) (p : Nat × Nat × Nat) : Prop := gI S 53 = p.1 ∧ gI S 54 = p.2.1 ∧ gI S 55 = p.2.2
def rOs (S : yS) (l : List (Nat × Nat)) : Prop := yLs (gI S 56) l fun j x => gA S 48 j = x.1 ∧ gA S 49 j = x.2
def rGs (S : yS) (l : List Nat) : Prop := yLs (gI S 57) l fun j x => gA S 50 j = x
def rD1 (S : yS) (l : List yDf) : Prop := yLs (gI S 51) l fun j x => gB S 14 j = x.1 ∧ gA S 42 j = x.2.1 ∧ gA S 43 j = x.2.2.1
def rD2 (S : yS) (l : List yDf) : Prop := yLs (gI S 52) l fun j x => gB S 15 j = x.1 ∧ gA S 44 j = x.2.1 ∧ gA S 46 j = x.2.2.1 ∧ gA S 45 j = x.2.2.2.1 ∧ gA S 47 j = rsc x.2.2.2.2
def rPl (S : yS) (l : List yIe) : Prop := yLs (gI S 58) l fun j x => gA S 52 j = x.1 ∧ gA S 53 j = x.2.1 ∧ gA S 54 j = x.2.2.1 ∧ gA S 55 j = x.2.2.2
def rBn (S : yS) (B : Nat → Option (Nat × Nat)) : Prop := ∀ j, j < 11 → gA S 51 (rbn j) = match B j with
  | none => -1
  | some (_, c) => (c : Int)
/-- the reference's tables hold a program -/
def rVl (S : yS) (V : yPV) : Prop := rPg S (zPg V) ∧ rOs S (zO V) ∧ rGs S (zG V) ∧ rD1 S (zL V) ∧ rD2 S (zT V) ∧ rPl S (zP V) ∧ rBn S (zB V)
/-- nothing is in them, as in the first pass -/
def rEm (S : yS) : Prop := gI S 51 = 0 ∧ gI S 52 = 0 ∧ gI S 56 = 0 ∧ gI S 57 = 0 ∧ gI S 58 = 0 ∧ ∀ j, j < 11 → gA S 51 j = -1
def rCx (G : yGx) (S : yS) : Prop := gI S 41 = gCc G ∧ ∀ i, i < gCc G → gB S 11 i = gCn G i ∧ gA S 38 i = gCt G i
def rOk (G : yGx) (c : Int) (t : Nat) (V : yPV) : Prop := sRo G t V ∧ ((zP V).length : Int) ≤ 2 * t + c ∧ ((zO V).length ≤ 4 ∧ (zG V).length ≤ 3 ∧ (zL V).length ≤ 8 ∧ (zT V).length ≤ 8) ∧ (zG V).Nodup ∧ (∀ x, x ∈ zL V → x.2.1 ≤ 1) ∧ (∀ x, x ∈ zT V → x.2.1 ≤ 1) ∧ (zPg V).1 ≤ 1 ∧ (zPg V).2.1 ≤ 60 ∧ (∀ x, x ∈ zG V → x < 8) ∧ ∀ j i a, zB V j = some (i, a) → a ≤ 4000
abbrev yKp : Type := (Nat × Nat) ⊕ yPV
def srk (κ : yKp) : yRk := match κ with
  | .inl _ => none
  | .inr V => some (zC V, zX V)
/-- is it the second pass? -/
def sbk (κ : yKp) : Bool := match κ with
  | .inl _ => false
  | .inr _ => true
def rTb (G : yGx) (c : Int) (S : yS) (t : Nat) (κ : yKp) : Prop := match κ with
  | .inl _ => rEm S
  | .inr V => rVl S V ∧ rOk G c t V
/-- the reference at a token; an error of meaning stands for the first pass -/
def rS (G : yGx) (sc c : Int) (S : yS) (t dp : Nat) (κ : yKp) : Prop := rN (gT G) (gN G) 0 sc S t dp (srk κ) ∧ rCx G S ∧ rTb G c S t κ
/-- its tables; all that reading changes -/
def yWQ (s k : Nat) : Bool := (s == 0 && (k == 51 || k == 52 || k == 53 || k == 54 || k == 55 || k == 56 || k == 57 || k == 58)) || (s == 3 && (k == 42 || k == 43 || k == 44 || k == 45 || k == 46 || k == 47 || k == 48 || k == 49 || k == 50 || k == 51 || k == 52 || k == 53 || k == 54 || k == 55)) || (s == 4 && (k == 14 || k == 15))
def yWR (s k : Nat) : Bool := yWv 0 s k || yWQ s k
theorem yWR_v {S S' : yS} (h : yFr (yWv 0) S S') : yFr yWR S S' := yFr_mo h fun s k e => by
  unfold yWR at e
  simp only [Bool.or_eq_false_iff] at e
  exact e.1
theorem yWR_q {S S' : yS} (h : yFr yWQ S S') : yFr yWR S S' := yFr_mo h fun s k e => by
  unfold yWR at e
  simp only [Bool.or_eq_false_iff] at e
  exact e.2
/-- its tables of names in their ranges -/
def rNz (S : yS) : Prop := (0 ≤ gI S 51 ∧ gI S 51 ≤ 8) ∧ (0 ≤ gI S 52 ∧ gI S 52 ≤ 8) ∧ (∀ i : Nat, (i : Int) < gI S 51 → gA S 42 i = 0 ∨ gA S 42 i = 1) ∧ ∀ i : Nat, (i : Int) < gI S 52 → gA S 44 i = 0 ∨ gA S 44 i = 1
/-- how a call comes out: it stops, or it comes back -/
def rO (q : yQ) (js : List xO) (G : yGx) (sc c : Int) (S : yS) (dp : Nat) (b : Bool) (o : Option xRes) (σ : yPS) (B : yS → Option xRes → Prop) : Prop := match σ with
  | .inl p => b = false → ∃ S', o = ythr q (ystp 1 (Int32.ofInt (p : Nat))) S' js ∧ yFr yWR S S' ∧ rNz S'
  | .inr (t, .inl e) => (b = true → ∃ S', o = ythr q (ystp (Int32.ofInt (e.1 : Nat)) (Int32.ofInt (e.2 : Nat))) S' js ∧ yFr yWR S S' ∧ rNz S') ∧ (b = false → ∃ S', B S' o ∧ yFr yWR S S' ∧ rS G sc c S' t dp (.inl e))
  | .inr (t, .inr V) => b = true ∧ ∃ S', B S' o ∧ yFr yWR S S' ∧ rS G sc c S' t dp (.inr V)
def rVo (q : yQ) (js : List xO) (S : yS) (o : Option xRes) : Prop := o = yretv q S js
/-- what is dead stays so, an error stays or dies -/
def sStr (F : yPS → yPS) : Prop := (∀ p, F (.inl p) = .inl p) ∧ ∀ t e, (∃ p, F (.inr (t, .inl e)) = .inl p) ∨ ∃ t', F (.inr (t, .inl e)) = .inr (t', .inl e)
section YRPL
variable {q : yQ} {d : Nat} {js : List xO} {G : yGx} {σ σ1 : yPS} {S S1 S' : yS} {sc c c' w : Int} {dp dp' t : Nat} {b : Bool} {o : Option xRes} {B B1 B2 : yS → Option xRes → Prop} {κ : yKp}
theorem rO_tr (hf : yFr yWR S S1) (h : rO q js G sc c S1 dp b o σ B) : rO q js G sc c S dp b o σ B := by
  match σ, h with
  | .inl p, h =>
    intro e
    obtain ⟨S', h1, h2⟩ := h e
    exact ⟨S', h1, yFr_tr hf h2.1, h2.2⟩
  | .inr (t, .inl e), h =>
    refine ⟨fun eb => ?_, fun eb => ?_⟩
    · obtain ⟨S', h1, h2⟩ := h.1 eb
      exact ⟨S', h1, yFr_tr hf h2.1, h2.2⟩
    · obtain ⟨S', h1, h2, h3⟩ := h.2 eb
      exact ⟨S', h1, yFr_tr hf h2, h3⟩
  | .inr (t, .inr V), h =>
    obtain ⟨h0, S', h1, h2, h3⟩ := h
    exact ⟨h0, S', h1, yFr_tr hf h2, h3⟩
theorem rO_bind {sc' : Int} {C : Option xRes → Option xRes} {F : yPS → yPS} (hC : ∀ (a p : Int32) (S' : yS), C (ythr q (ystp a p) S' js) = ythr q (ystp a p) S' js) (hF : sStr F) (h : rO q js G sc c S dp b o σ1 B1) (hn : ∀ S1 t1 κ1 o1, σ1 = .inr (t1, κ1) → b = sbk κ1 → yFr yWR S S1 → rS G sc c S1 t1 dp κ1 → B1 S1 o1 → rO q js G sc' c' S1 dp' b (C o1) (F (.inr (t1, κ1))) B2) : rO q js G sc' c' S dp' b (C o) (F σ1) B2 := by
  match σ1, h, hn with
  | .inl p, h, hn =>
    rw [hF.1 p]
    intro e
    obtain ⟨S', h1, h2⟩ := h e
    exact ⟨S', by rw [h1, hC], h2⟩
  | .inr (t, .inl e), h, hn =>
    cases b with
    | true =>
      obtain ⟨S', h1, h2⟩ := h.1 rfl
      rcases hF.2 t e with ⟨p, hp⟩ | ⟨t', hp⟩
      · rw [hp]
        intro z
        nomatch z
      · rw [hp]
        exact ⟨fun _ => ⟨S', by rw [h1, hC], h2⟩, fun z => nomatch z⟩
    | false =>
      obtain ⟨S', h1, h2, h3⟩ := h.2 rfl
      exact rO_tr h2 (hn S' t (.inl e) o rfl rfl h2 h3 h1)
  | .inr (t, .inr V), h, hn =>
    obtain ⟨h0, S', h1, h2, h3⟩ := h
    exact rO_tr h2 (hn S' t (.inr V) o rfl h0 h2 h3 h1)
/-- what comes back, changed -/
theorem rO_map {C : Option xRes → Option xRes} (hC : ∀ (a p : Int32) (S' : yS), C (ythr q (ystp a p) S' js) = ythr q (ystp a p) S' js) (hB : ∀ S' o', B1 S' o' → B2 S' (C o')) (h : rO q js G sc c S dp b o σ B1) : rO q js G sc c S dp b (C o) σ B2 := by
  match σ, h with
  | .inl p, h =>
    intro e
    obtain ⟨S', h1, h2⟩ := h e
    exact ⟨S', by rw [h1, hC], h2⟩
  | .inr (t, .inl e), h =>
    refine ⟨fun eb => ?_, fun eb => ?_⟩
    · obtain ⟨S', h1, h2⟩ := h.1 eb
      exact ⟨S', by rw [h1, hC], h2⟩
    · obtain ⟨S', h1, h2, h3⟩ := h.2 eb
      exact ⟨S', hB _ _ h1, h2, h3⟩
  | .inr (t, .inr V), h =>
    obtain ⟨h0, S', h1, h2, h3⟩ := h
    exact ⟨h0, S', hB _ _ h1, h2, h3⟩
theorem rO_ok (hS : rS G sc c S t dp κ) (hB : B S o) : rO q js G sc c S dp (sbk κ) o (.inr (t, κ)) B := by
  match κ, hS with
  | .inl e, hS => exact ⟨fun z => (nomatch z), fun _ => ⟨S, hB, yFr_rf _ _, hS⟩⟩
  | .inr V, hS => exact ⟨rfl, S, hB, yFr_rf _ _, hS⟩
theorem sStr_id : sStr fun s => s := ⟨fun _ => rfl, fun t e => Or.inr ⟨t, rfl⟩⟩
theorem sStr_mp {f : yPS → yPV → yPV} {g : yPS → yPS} (hg : sStr g) : sStr fun s => smp (f s) (g s) := by
  refine ⟨fun p => ?_, fun t e => ?_⟩
  · show smp (f (.inl p)) (g (.inl p)) = _
    rw [hg.1]
    rfl
  · show (∃ p, smp (f (.inr (t, .inl e))) (g (.inr (t, .inl e))) = _) ∨ ∃ t', smp (f (.inr (t, .inl e))) (g (.inr (t, .inl e))) = _
    rcases hg.2 t e with ⟨p, h⟩ | ⟨t', h⟩
    · exact Or.inl ⟨p, by rw [h]; rfl⟩
    · exact Or.inr ⟨t', by rw [h]; rfl⟩
theorem sStr_gd {f : yPS → yPV → Bool} {n p : yPS → Nat} {g : yPS → yPS} (hg : sStr g) : sStr fun s => sgd (f s) (n s) (p s) (g s) := by
  refine ⟨fun x => ?_, fun t e => ?_⟩
  · show sgd (f (.inl x)) _ _ (g (.inl x)) = _
    rw [hg.1]
    rfl
  · show (∃ x, sgd (f (.inr (t, .inl e))) _ _ (g (.inr (t, .inl e))) = _) ∨ ∃ t', sgd (f (.inr (t, .inl e))) _ _ (g (.inr (t, .inl e))) = _
    rcases hg.2 t e with ⟨x, h⟩ | ⟨t', h⟩
    · exact Or.inl ⟨x, by rw [h]; rfl⟩
    · exact Or.inr ⟨t', by rw [h]; rfl⟩
theorem sStr_co {f g : yPS → yPS} (hf : sStr f) (hg : sStr g) : sStr fun s => f (g s) := by
  refine ⟨fun p => ?_, fun t e => ?_⟩
  · show f (g _) = _
    rw [hg.1, hf.1]
  · show (∃ p, f (g _) = _) ∨ ∃ t', f (g _) = _
    rcases hg.2 t e with ⟨p, h⟩ | ⟨t', h⟩
    · exact Or.inl ⟨p, by rw [h, hf.1]⟩
    · rw [h]
      exact hf.2 t' e
theorem sStr_if {C : yPS → Prop} [∀ s, Decidable (C s)] {f g : yPS → yPS} (hf : sStr f) (hg : sStr g) : sStr fun s => if C s then f s else g s := by
  refine ⟨fun p => ?_, fun t e => ?_⟩
  · show (if C _ then f _ else g _) = _
    split
    · exact hf.1 p
    · exact hg.1 p
  · show (∃ p, (if C _ then f _ else g _) = _) ∨ ∃ t', (if C _ then f _ else g _) = _
    split
    · exact hf.2 t e
    · exact hg.2 t e
theorem sStr_nx : sStr snx := ⟨fun _ => rfl, fun t e => Or.inr ⟨t + 1, rfl⟩⟩
theorem sStr_rf : sStr (srf G) := ⟨fun _ => rfl, fun t e => Or.inl ⟨_, rfl⟩⟩
theorem sStr_xp {kd : Nat} : sStr (sxp G kd) := sStr_if sStr_nx sStr_rf
theorem sStr_wr {n p : yPS → Nat} {g : yPS → yPS} (hg : sStr g) : sStr fun s => swr (g s) (n s) (p s) := by
  refine ⟨fun x => ?_, fun t e => ?_⟩
  · show swr (g (.inl x)) _ _ = _
    rw [hg.1]
    rfl
  · show (∃ x, swr (g (.inr (t, .inl e))) _ _ = _) ∨ ∃ t', swr (g (.inr (t, .inl e))) _ _ = _
    rcases hg.2 t e with ⟨x, h⟩ | ⟨t', h⟩
    · exact Or.inl ⟨x, by rw [h]; rfl⟩
    · exact Or.inr ⟨t', by rw [h]; rfl⟩
theorem sStr_num {lo : Nat} {hi : yPS → Nat} : sStr fun s => snum G lo (hi s) s := sStr_if sStr_xp (sStr_wr sStr_xp)
theorem sStr_ex {w : Int} {dp : Nat} : sStr (sex G w dp) := by
  refine ⟨fun p => rfl, fun t e => ?_⟩
  show (∃ p, (match sxr G w dp (.inr (t, .inl e)) with
      | .inl p => .inl p
      | .inr (t', _, m) => .inr (t', sxk (.inl e) m) : yPS) = .inl p) ∨ ∃ t', (match sxr G w dp (.inr (t, .inl e)) with
      | .inl p => .inl p
      | .inr (t', _, m) => .inr (t', sxk (.inl e) m) : yPS) = .inr (t', .inl e)
  cases sxr G w dp (.inr (t, .inl e)) with
  | inl p => exact Or.inl ⟨p, rfl⟩
  | inr y => exact Or.inr ⟨y.1, rfl⟩
theorem sStr_lp {g : yPS → yPS} {cc : Nat → Bool} (hg : sStr g) : ∀ n, sStr (slp G cc g n)
  | 0 => sStr_id
  | n + 1 => sStr_if (sStr_co (sStr_lp hg n) hg) sStr_id
theorem sStr_cm : sStr (scm G) := sStr_gd sStr_xp
theorem sStr_new : sStr (snew G) := sStr_gd sStr_xp
theorem sStr_gn : sStr (sgn G) := sStr_gd sStr_xp
theorem sStr_sc : sStr (sscp G) := sStr_if sStr_nx sStr_gn
theorem sgd_nx {f : yPV → Bool} {n p : Nat} : sgd f n p (snx σ) = snx (sgd f n p σ) := by
  rcases σ with x | ⟨t, e | V⟩ <;> rfl
end YRPL
end YRP
