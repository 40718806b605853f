/-! taken from whole by wip/p27/slice2.py: 9zp.cexp.lean.txt -/
section YCX
section YCXL
variable {q : yQ} {d : Nat} {js : List xO} {G : yGx} {σ σ' : yPS} {m : yMo} {S S' : yS} {a a' w : Int} {dp : Nat}
theorem gRx_le (hG : gOk G) : ∀ (n t : Nat), t + n < gN G → gRx G t + n ≤ gRx G (t + n)
  | 0, _, _ => Nat.le_refl _
  | n + 1, t, h => by
    have ih := gRx_le hG n t (by omega)
    have h64 := hG.1.2.2.2.1 (t + n) (by omega)
    have := (hG.2.1.2.2 (t + n) 0 (by omega) h64).1
    have e : t + n + 1 = t + (n + 1) := by omega
    rw [e] at this
    omega
/-- a room that tells that an expression takes a token -/
def gRl (G : yGx) (t b : Nat) : Nat := 7 * (gN G - t) + (100 - b)
theorem gRl_room (hG : gOk G) : yRoom (gT G) (gN G) (gRl G) (gRx G) 1 := by
  refine ⟨by omega, by omega, fun t b ht hk => ?_⟩
  obtain ⟨r1, r2, r3⟩ := hG.2.1.2.2 t b ht hk
  unfold gRl
  exact ⟨r1, r2, fun hb => ⟨by omega, fun _ => by omega⟩⟩
theorem sxr_in {κ : (Nat × Nat) ⊕ yPV} {t t' b' : Nat} {x : yMn} (hG : gOk G) (ht : t < gN G) (h : sxr G w dp (.inr (t, κ)) = .inr (t', b', x)) : t < t' ∧ t' < gN G ∧ ∀ V y, κ = .inr V → x = .inr y → sRo G t V → (qzC V).length + y.2.2.1.length < 4000 ∧ sRo G t' (zsK V (qzC V ++ (y.2.2.1 ++ [(30, 0)])) (qzX V ++ y.2.2.2.1)) := by
  have htx : ∀ t, t < gN G → (gT G t).1 = 64 → (gX G ((gT G t).2.1 + 1) (gT G t).2.2.toInt.toNat).length ≤ (gT G t).2.2.toInt.toNat := fun t ht h => (hG.2.2.2.1 t ht h).2.2
  obtain ⟨nm, decl, base, tb, e, hb⟩ : ∃ (nm : Int64 → Option (Nat × Nat × Bool)) (decl : Bool) (base tb : Nat), yexp (gT G) (gX G) nm decl yOO (12 - dp) base tb t 100 = .inr (t', b', x) ∧ ∀ V, κ = .inr V → base = (qzC V).length ∧ tb = (qzX V).length := by
    rcases κ with e | V
    · exact ⟨_, _, _, _, h, fun V e => nomatch e⟩
    · exact ⟨_, _, _, _, h, fun V' e => by injection e with e; rw [← e]; exact ⟨rfl, rfl⟩⟩
  have sz := yfac_sz (nm := nm) (decl := decl) (O := yOO) hG.1 hG.2.1 htx (12 - dp) (by omega)
  obtain ⟨p1, p2, p3, p4, p5⟩ := sz.2.2.1 _ _ _ _ _ _ _ ht e
  have sz2 := yfac_sz (nm := nm) (decl := decl) (O := yOO) hG.1 (gRl_room hG) htx (12 - dp) (by omega)
  obtain ⟨_, _, q3, _⟩ := sz2.2.2.1 _ _ _ _ _ _ _ ht e
  have lt := yfrom_lt (O := yOO) (T := gT G) (yfac_lt (T := gT G) (tx := gX G) (nm := nm) (decl := decl) (O := yOO) (12 - dp) (by omega)) _ _ _ _ _ _ _ e
  have le : t ≤ t' := by
    by_cases z : t ≤ t'
    · exact z
    · have := gRx_le hG (t - t') t' (by omega)
      have e2 : t' + (t - t') = t := by omega
      rw [e2] at this
      omega
  refine ⟨?_, p1, fun V y hk hx hr => ?_⟩
  · unfold gRl at q3
    by_cases z : t < t'
    · exact z
    · have e2 : t' = t := by omega
      rw [e2] at q3
      omega
  · obtain ⟨x1, x2, x3⟩ := p5 y hx
    obtain ⟨r1, r2⟩ := hr
    have i1 := hG.2.2.2.2.1 t' b' 100
    refine ⟨by omega, ?_, ?_⟩
    · show (qzC V ++ (y.2.2.1 ++ [(30, 0)])).length + _ ≤ 4000
      rw [List.length_append, List.length_append]
      show _ + (_ + 1) + _ ≤ 4000
      omega
    · show ytl (gX G) (qzX V ++ y.2.2.2.1) ≤ _
      have : ytl (gX G) (qzX V ++ y.2.2.2.1) = ytl (gX G) (qzX V) + ytl (gX G) y.2.2.2.1 := by
        unfold ytl yTexts
        rw [List.map_append, List.map_append, List.sum_append, List.length_append]
        omega
      omega
theorem sex_al {t : Nat} {V : yPV} (h : sex G w dp σ = .inr (t, .inr V)) : ∃ (t0 b' : Nat) (V0 : yPV) (x : yX), σ = .inr (t0, .inr V0) ∧ sxr G w dp σ = .inr (t, b', .inr x) ∧ V = zsK V0 (qzC V0 ++ (x.2.2.1 ++ [(30, 0)])) (qzX V0 ++ x.2.2.2.1) ∧ sty G w dp σ = ytyn x := by
  rcases σ with p | ⟨t0, κ⟩
  · nomatch h
  · have h : (match sxr G w dp (.inr (t0, κ)) with
      | .inl p => .inl p
      | .inr (t', _, m) => .inr (t', sxk κ m) : yPS) = .inr (t, .inr V) := h
    cases hr : sxr G w dp (.inr (t0, κ)) with
    | inl p =>
      rw [hr] at h
      nomatch h
    | inr y =>
      obtain ⟨t', b', mm⟩ := y
      rw [hr] at h
      have h : (Sum.inr (t', sxk κ mm) : yPS) = .inr (t, .inr V) := h
      injection h with h
      injection h with h1 h2
      subst h1
      rcases κ with e | V0
      · nomatch h2
      · rcases mm with e | x
        · nomatch h2
        · injection h2 with h2
          refine ⟨t0, b', V0, x, rfl, rfl, h2.symm, ?_⟩
          show (match sxr G w dp (.inr (t0, .inr V0)) with
            | .inr (_, _, .inr x) => ytyn x
            | _ => 0) = _
          rw [hr]
theorem k51 (hG : gOk G) (h : cP G a S σ) (hw : w = 1 ∨ w = 2) (hdp : dp ≤ 12) (hd : 170 ≤ d) : ∃ (S' : yS) (r : Nat), Y q (d + 1) 51 0 [vr 122, vr 107, vi w, vi dp, vu] [] S js = yret q (vi (r : Int)) S' js ∧ yFr (yWy 0) S S' ∧ cP G (a - 1) S' (sex G w dp σ) ∧ r ≤ 1 ∧ ∀ t V, sex G w dp σ = .inr (t, .inr V) → r = sty G w dp σ := by
  obtain ⟨⟨m, h1, h2⟩, hR, hC, hV⟩ := h
  have yl : ∀ X : List (Nat × Nat), (yTexts (gX G) X).length = X.length := fun X => by unfold yTexts; rw [List.length_map]
  have hbs : ∀ t V, σ = .inr (t, .inr V) → ybs 0 (gRm G) (gRx G) (qzC V).length (qzX V).length t 100 (.inr (qzC V, yTexts (gX G) (qzX V))) := by
    intro t V e L X eX
    obtain ⟨_, ⟨o1, o2⟩, _⟩ := hV t V e
    injection eX with eX
    injection eX with e1 e2
    subst e1 e2
    refine ⟨rfl, (yl _).symm, ?_, ?_⟩
    · show _ ≤ (4000 : Int)
      omega
    · rw [ysl_all, yl]
      exact o2
  have hbs2 : ∀ t b k, m = .inr (t, b, k) → ∃ base tb, ybs 0 (gRm G) (gRx G) base tb t 100 k := by
    intro t b k e
    rcases σ with p | ⟨t0, e0 | V⟩
    · rw [show m = .inl p from h1] at e
      nomatch e
    · obtain ⟨b0, _, _, e2⟩ := h1
      rw [e2] at e
      injection e with e
      injection e with e3 e4
      injection e4 with e5 e6
      subst e3 e5 e6
      exact ⟨0, 0, fun L X z => nomatch z⟩
    · obtain ⟨b0, _, _, e2⟩ := h1
      rw [e2] at e
      injection e with e
      injection e with e3 e4
      injection e4 with e5 e6
      subst e3 e5 e6
      exact ⟨_, _, hbs _ _ rfl⟩
  have hcr := hR
  obtain ⟨_, _, _, _, _, g8, g9, _⟩ := hcr
  obtain ⟨S', r, m', e1, e2, e3, e4, e5, e6⟩ := m51 (q := q) (js := js) (w := w) (O := yOO) (dp := dp) (u := 0) (s := 1) (Or.inl rfl) rfl hG.1 hG.2.1 hG.2.2.1 (S := S) hC.2.2.2.2 (by omega) (by have := hC.1; have := hG.2.2.2.2.2.1; omega) g8 g9 (fun t ht hk => ⟨(hG.2.2.2.1 t ht hk).1, (hG.2.2.2.1 t ht hk).2.1⟩) hdp h2 hd hbs2
  rw [hC.2.2.2.1] at e6
  have fin : sRl G (sex G w dp σ) m' ∧ (∀ t V, sex G w dp σ = .inr (t, .inr V) → r = sty G w dp σ) := by
    rcases σ with p | ⟨t0, e0 | V⟩
    · exact ⟨e5 p h1, fun t V z => nomatch z⟩
    · obtain ⟨b0, _, hN, em⟩ := h1
      obtain ⟨f1, _⟩ := e6 _ _ _ em 0 0 (fun L X z => nomatch z)
      refine ⟨?_, fun t V z => ?_⟩
      · have sh : ysh (yexp (gT G) (gX G) (ynmS S w) (decide (w = 1)) yOO (12 - dp) 0 0 t0 100) = ysh (sxr G w dp (.inr (t0, .inl e0))) := yexp_sh (by omega) _ _ _ _ _ _
        rw [show syk G (.inl e0) = .inl e0 from rfl, ysh_e sh] at f1
        show sRl G (match sxr G w dp (.inr (t0, .inl e0)) with
          | .inl p => .inl p
          | .inr (t', _, m) => .inr (t', sxk (.inl e0) m)) m'
        cases hr : sxr G w dp (.inr (t0, .inl e0)) with
        | inl p =>
          rw [hr] at f1
          exact f1
        | inr y =>
          obtain ⟨t', b', mm⟩ := y
          rw [hr] at f1
          obtain ⟨k1, k2, _⟩ := sxr_in hG hN hr
          exact ⟨1000000, by omega, k2, f1⟩
      · obtain ⟨_, _, _, _, z1, _⟩ := sex_al z
        nomatch z1
    · obtain ⟨b0, _, hN, em⟩ := h1
      obtain ⟨hv1, hv2⟩ := hV t0 V rfl
      obtain ⟨f1, f2⟩ := e6 _ _ _ em _ _ (hbs _ _ rfl)
      rw [snm_S hG hC hv1 hv2] at f1 f2
      have f1 : m' = ymdn 0 (ymode (.inr (qzC V, yTexts (gX G) (qzX V))) (gX G) (sxr G w dp (.inr (t0, .inr V)))) := f1
      refine ⟨?_, fun t V' z => ?_⟩
      · show sRl G (match sxr G w dp (.inr (t0, .inr V)) with
          | .inl p => .inl p
          | .inr (t', _, m) => .inr (t', sxk (.inr V) m)) m'
        cases hr : sxr G w dp (.inr (t0, .inr V)) with
        | inl p =>
          rw [hr] at f1
          exact f1
        | inr y =>
          obtain ⟨t', b', mm⟩ := y
          rw [hr] at f1
          obtain ⟨k1, k2, k3⟩ := sxr_in hG hN hr
          rcases mm with e | x
          · exact ⟨1000000, by omega, k2, f1⟩
          · obtain ⟨x1, x2⟩ := k3 V x rfl rfl hv2.1
            have f1 : m' = yadm 0 (.inr (t', 1000000, .inr (qzC V ++ x.2.2.1, yTexts (gX G) (qzX V) ++ yTexts (gX G) x.2.2.2.1))) 30 0 := f1
            rw [yadm_in (by rw [List.length_append]; show _ < (4000 : Int); omega)] at f1
            refine ⟨1000000, by omega, k2, ?_⟩
            rw [f1]
            show _ = (Sum.inr (t', 1000000, .inr (qzC V ++ (x.2.2.1 ++ [(30, 0)]), yTexts (gX G) (qzX V ++ x.2.2.2.1))) : yMo)
            rw [List.append_assoc, yTexts, yTexts, yTexts, List.map_append]
      · obtain ⟨t1, b', V0, x, z1, z2, z3, z4⟩ := sex_al z
        injection z1 with z1
        injection z1 with z5 z6
        injection z6 with z6
        subst z5 z6
        rw [z4]
        exact f2 _ _ rfl _ _ _ z2
  refine ⟨S', r, e1, e2, ⟨⟨m', fin.1, e3⟩, cRg_fr hR e2, cCx_fr hC e2 ⟨rfl, rfl, rfl, rfl, rfl⟩, fun t V e => ?_⟩, e4, fin.2⟩
  obtain ⟨t0, b', V0, x, z1, z2, z3, z4⟩ := sex_al e
  obtain ⟨v1, v2⟩ := hV t0 V0 z1
  have hN : t0 < gN G := sRl_t h1 z1
  rw [z1] at z2
  obtain ⟨k1, k2, k3⟩ := sxr_in hG hN z2
  rw [z3]
  refine ⟨cVl_fr v1 e2, (k3 V0 x rfl rfl v2.1).2, ?_, v2.2.2⟩
  have := v2.2.1
  show ((qzI V0).length : Int) ≤ _
  omega
end YCXL
end YCX
