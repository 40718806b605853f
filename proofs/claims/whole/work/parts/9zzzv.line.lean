/-! RUN: what the program's tables hold; how both go on -/
section YTW
theorem send_t {G : yGx} {σ : yPS} {t : Nat} {κ : (Nat × Nat) ⊕ yPV} (h : send G σ = .inr (t, κ)) : (gT G t).1 = 65 := by
  unfold send at h
  by_cases z : skd G σ = 65
  · rw [if_pos z] at h
    rw [h] at z
    exact z
  · rw [if_neg z] at h
    match σ, h with
    | .inl p, h => cases (show (Sum.inl p : yPS) = .inr (t, κ) from h)
    | .inr (t0, k0), h => cases (show (Sum.inl (gT G t0).2.1 : yPS) = .inr (t, κ) from h)
def yEo (x : Int) (o : xO) : Prop := (x = 2 ∧ o = ystp 2 (Int32.ofInt (-1))) ∨ (x = 4 ∧ o = ystp 4 (Int32.ofInt (-1)))
theorem yEo_0 {x : Int} {o : xO} (h : yEo x o) : ¬ yr x = 0 := by
  rcases h with ⟨rfl, _⟩ | ⟨rfl, _⟩
  · decide
  · decide
theorem yEo_t {q : yQ} {x : Int} {o : xO} {d k pc : Nat} {L st : List yV} {S : yS} {js : List xO} (h : yEo x o) (ht : ∀ a b : Int32, YB q (ythr q (ystp a b) S js) d k pc L st = ythr q (ystp a b) S js) : YB q (ythr q o S js) d k pc L st = ythr q o S js := by
  rcases h with ⟨_, rfl⟩ | ⟨_, rfl⟩
  · exact ht _ _
  · exact ht _ _
/-- both go on alike, or both meet the same error -/
def yGo (q : yQ) (ks : List xO) (V : yPV) (n : Nat) (B C : yS) (K : yS → Prop) (cl rf : Option xRes) (cl' rf' cE : yS → Option xRes → Prop) : Prop := (∃ e S' T', yRl V n B C e S' T' ∧ K S' ∧ cl' S' cl ∧ rf' T' rf) ∨ ∃ x o S' T', yEo x o ∧ yEr V B C x S' T' ∧ cE S' cl ∧ rf = ythr q o T' ks
section YTWL
variable {q : yQ} {d d' : Nat} {js ks : List xO} {S0 : yS} {t : Nat} {V : yPV} {a : Int} {n : Nat} {B C S T S' T' : yS} {e : yEnv}
theorem iPq_P (h : iPq S0 t V a S) (hl : (ytq (tb S0) (gI S0 12).toNat).length ≤ 2001) : (zP V).length ≤ 4000 := by
  have h1 : (gT (sG0 S0) t).1 = 65 := send_t (G := sG0 S0) h.1.2.1
  have h2 := h.2.2.2.1.2.1.2.1
  have h3 : t < (ytq (tb S0) (gI S0 12).toNat).length := by
    by_cases z : t < (ytq (tb S0) (gI S0 12).toNat).length
    · exact z
    · have h1 : ((ytq (tb S0) (gI S0 12).toNat)[t]?.getD (66, 0, 0)).1 = 65 := h1
      rw [List.getElem?_eq_none (by omega)] at h1
      exact absurd h1 (by decide)
  omega
theorem cit {i : Nat} {x : yIe} (h : iPq S0 t V a S) (hi : (zI V)[i]? = some x) : (i < (zI V).length ∧ (zI V).length ≤ 2000 ∧ x.1 < 67) ∧ gC S 3 i = x.1 ∧ gA S 27 i = x.2.1 ∧ gA S 28 i = x.2.2.1 ∧ gA S 29 i = x.2.2.2 := by
  obtain ⟨_, _, ⟨hR, hV, _⟩, _⟩ := h
  have hI := hV.2.2.2.2.2.1
  have h25 := hR.2.2.2.2.2.2.2.1
  have hr := hR.2.2.2.2.2.2.2.2.2
  have hl := (List.getElem?_eq_some_iff.mp hi).1
  have e25 := hI.1
  have hx := hI.2 i x hi
  have := (hr i (by omega)).2
  rw [hx.1] at this
  exact ⟨⟨hl, by omega, this⟩, hx⟩
theorem rit {i : Nat} {x : yIe} (h : iPq S0 t V a S) (hl : (ytq (tb S0) (gI S0 12).toNat).length ≤ 2001) (hi : (zP V)[i]? = some x) : i < 4000 ∧ gA S 52 i = x.1 ∧ gA S 53 i = x.2.1 ∧ gA S 54 i = x.2.2.1 ∧ gA S 55 i = x.2.2.2 := by
  have h4 := iPq_P h hl
  have hP := h.2.2.2.1.1.2.2.2.2.2.1
  have hl := (List.getElem?_eq_some_iff.mp hi).1
  exact ⟨by omega, hP.2 i x hi⟩
theorem rVv_e {k : Nat} {v : yVal} (h : rVv T k v) (h59 : gA T' 59 = gA T 59) (h17 : gB T' 17 = gB T 17) (h60 : gA T' 60 = gA T 60) : rVv T' k v := by
  match v, h with
  | .inl x, h => exact ⟨by rw [h59]; exact h.1, by rw [h17]; exact h.2⟩
  | .inr l, h => exact ⟨by rw [h59]; exact h.1, h.2.1, fun i y hi => by rw [h60]; exact h.2.2 i y hi⟩
/-- values stay as they are -/
theorem yVt_w (h : yVt V e S T) (c1 : gA S' 30 = gA S 30) (c2 : gB S' 9 = gB S 9) (c3 : gA S' 31 = gA S 31) (c4 : gA S' 32 = gA S 32) (c5 : gA S' 36 = gA S 36) (f1 : gA T' 59 = gA T 59) (f2 : gB T' 17 = gB T 17) (f3 : gA T' 60 = gA T 60) (f4 : gA T' 63 = gA T 63) : yVt V e S' T' := by
  obtain ⟨has, h1, h2⟩ := h
  exact ⟨has, fun k hk => ⟨cV_e (h1 k hk).1 c1 c2 c3 c4, by rw [c5]; exact (h1 k hk).2⟩, fun k hk => ⟨rVv_e (h2 k hk).1 f1 f2 f3, by rw [f4]; exact (h2 k hk).2⟩⟩
theorem yRl0_w (h : yRl0 V n B C e S T) (hO : yOb B C S' T') (c1 : gA S' 30 = gA S 30) (c2 : gB S' 9 = gB S 9) (c3 : gA S' 31 = gA S 31) (c4 : gA S' 32 = gA S 32) (c5 : gA S' 36 = gA S 36) (c6 : gI S' 34 = gI S 34) (c8 : gI S' 32 = gI S 32) (f1 : gA T' 59 = gA T 59) (f2 : gB T' 17 = gB T 17) (f3 : gA T' 60 = gA T 60) (f4 : gA T' 63 = gA T 63) (f5 : gI T' 64 = gI T 64) : yRl0 V n B C e S' T' := by
  obtain ⟨h1, h2, h3, ⟨h4, h5⟩, ⟨h6, h7⟩, ⟨h8a, h9⟩, h10, h11⟩ := h
  exact ⟨hO, c6.trans h2, fun k hk => ⟨cV_e (h3 k hk).1 c1 c2 c3 c4, rVv_e (h3 k hk).2.1 f1 f2 f3, (h3 k hk).2.2⟩, ⟨yVt_w h4 c1 c2 c3 c4 c5 f1 f2 f3 f4, h5⟩, by
    rw [f5]
    exact ⟨h6, fun k hk => ⟨cV_e (h7 k hk).1 c1 c2 c3 c4, (h7 k hk).2⟩⟩, ⟨cV_e h8a c1 c2 c3 c4, h9⟩, cV_e h10 c1 c2 c3 c4, by rw [c8]; exact h11⟩
theorem yRl_w (h : yRl V n B C e S T) (hO : yOb B C S' T') (hu : gI T' 72 = gI S' 38 ∧ 0 ≤ gI S' 38 ∧ gI S' 38 ≤ gI B 36) (c1 : gA S' 30 = gA S 30) (c2 : gB S' 9 = gB S 9) (c3 : gA S' 31 = gA S 31) (c4 : gA S' 32 = gA S 32) (c5 : gA S' 36 = gA S 36) (c6 : gI S' 34 = gI S 34) (c7 : gI S' 29 = gI S 29) (c8 : gI S' 32 = gI S 32) (f1 : gA T' 59 = gA T 59) (f2 : gB T' 17 = gB T 17) (f3 : gA T' 60 = gA T 60) (f4 : gA T' 63 = gA T 63) (f5 : gI T' 64 = gI T 64) : yRl V n B C e S' T' := by
  obtain ⟨h1, _, h3, h4, h5⟩ := h
  exact ⟨yRl0_w h1 hO c1 c2 c3 c4 c5 c6 c8 f1 f2 f3 f4 f5, hu, by rw [c7]; exact h3, cV_e h4 c1 c2 c3 c4, by rw [c7]; exact h5⟩
/-- bytes are printed -/
theorem yRl_pp {f g : Nat → Int} (h : yRl V n B C e S T) (hfg : ∀ j : Nat, (j : Int) < gI S 29 * gI S 28 * gI S 27 → g j = f j) : yRl V n B C e (sAr S 33 f) (sAr T 64 g) := by
  obtain ⟨⟨o1, o2⟩, o3, o4, o5, o6, o7, o8⟩ := id h.1.1
  refine yRl_w h ⟨⟨yFr_tr o1 (yFr_Ar rfl), yFr_tr o2 (yFr_Ar rfl)⟩, o3, o4, o5, fun j hj => ?_, o7, fun v hv => cV_e (o8 v hv) rfl rfl rfl rfl⟩ h.2.1 rfl rfl rfl rfl rfl rfl rfl rfl rfl rfl rfl rfl rfl
  rw [gAr_self, gAr_self]
  exact hfg j hj
/-- a line more -/
theorem yRl_pl (h : yRl V n B C e S T) : yRl V n B C e (sI S 33 (gI S 33 + 1)) (sI T 70 (gI T 70 + 1)) := by
  obtain ⟨⟨o1, o2⟩, o3, o4, o5, o6, o7, o8⟩ := id h.1.1
  refine yRl_w h ⟨⟨yFr_tr o1 (yFr_I rfl), yFr_tr o2 (yFr_I rfl)⟩, o3, o4, ?_, o6, o7, fun v hv => cV_e (o8 v hv) rfl rfl rfl rfl⟩ h.2.1 rfl rfl rfl rfl rfl rfl rfl rfl rfl rfl rfl rfl rfl
  rw [gI_self, gI_self, o5]
theorem yEr_pl {x : Int} (h : yEr V B C x S T) : yEr V B C x (sI S 33 (gI S 33 + 0)) T := by
  obtain ⟨⟨⟨o1, o2⟩, o3, o4, o5, o6, o7, o8⟩, h2, e, h3⟩ := h
  refine ⟨⟨⟨yFr_tr o1 (yFr_I rfl), o2⟩, o3, o4, ?_, o6, o7, fun v hv => cV_e (o8 v hv) rfl rfl rfl rfl⟩, h2, e, yVt_w h3 rfl rfl rfl rfl rfl rfl rfl rfl rfl⟩
  rw [gI_self, o5, Int.add_zero]
/-- what is used of a page is another -/
theorem yRl_us {x : Int} (h : yRl V n B C e S T) (hx : 0 ≤ x ∧ x ≤ gI B 36) : yRl V n B C e (sI S 38 x) (sI T 72 x) := by
  obtain ⟨⟨o1, o2⟩, o3, o4, o5, o6, o7, o8⟩ := id h.1.1
  exact yRl_w h ⟨⟨yFr_tr o1 (yFr_I rfl), yFr_tr o2 (yFr_I rfl)⟩, o3, o4, o5, o6, o7, fun v hv => cV_e (o8 v hv) rfl rfl rfl rfl⟩ ⟨by rw [gI_self, gI_self], by rw [gI_self]; exact hx⟩ rfl rfl rfl rfl rfl rfl rfl rfl rfl rfl rfl rfl rfl
theorem yEr_us {x y : Int} (h : yEr V B C x S T) : yEr V B C x (sI S 38 y) T := by
  obtain ⟨⟨⟨o1, o2⟩, o3, o4, o5, o6, o7, o8⟩, h2, e, h3⟩ := h
  exact ⟨⟨⟨yFr_tr o1 (yFr_I rfl), o2⟩, o3, o4, o5, o6, o7, fun v hv => cV_e (o8 v hv) rfl rfl rfl rfl⟩, h2, e, yVt_w h3 rfl rfl rfl rfl rfl rfl rfl rfl rfl⟩
end YTWL
end YTW
