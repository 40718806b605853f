/-! WHAT CODE COMES TO: along the form of an expression -/
section YGO
section YGOL
variable {C : yCo} {X : List (Nat × Nat)} {Tk : Nat → Nat → Prop} {e : yEnv} {A : Nat → Nat → Prop} {R : ySt → ySt → Prop} {E : ySt → Prop} {T : yTk} {N dp : Nat} {tx : Nat → Nat → List Int} {P : Nat → Nat → Nat → Nat → yPr} {nm : Int64 → Option (Nat × Nat × Bool)} {decl : Bool}
theorem yQ_mo {base tb b b' c c' : Nat} {x : yX} (h : yQx C X tx e R E base tb b b' x) (hc : b - b' ≤ c - c') : yQx C X tx e R E base tb c c' x := fun h1 h2 st hst => h h1 h2 st (by omega)
theorem ylop_gd (hM : yMach C X tx Tk e A R E) (hK : ∀ t, (T t).1 < 67) {lv : Int} (hlv : 0 ≤ lv ∧ lv ≤ 4) (hL : yPlt P) (hG : yGd C X tx e R E P) : ∀ (f base tb t b b0 : Nat) (l : yMn) (t' b' : Nat) (z : yX), b < b0 → (∀ x, l = .inr x → yQx C X tx e R E base tb b0 b x) → ylop T yOO lv P f base tb t b l = .inr (t', b', .inr z) → yQx C X tx e R E base tb b0 b' z
  | 0, base, tb, t, b, b0, l, t', b', z, hb, hl, h => by
    obtain ⟨h1, h2, h3⟩ := yinr (m := l) h
    subst h2
    exact hl z h3
  | f + 1, base, tb, t, b, b0, l, t', b', z, hb, hl, h => by
    by_cases hk : yKr (T t).1 = lv
    · rw [ylop_s hk] at h
      by_cases hb0 : b = 0
      · subst hb0
        nomatch h
      · rw [ysp_s hb0] at h
        match hp : P (yrbs base (T t).1 l) (yrtx tb l) (t + 1) (b - 1) with
        | .inl p =>
          rw [hp] at h
          nomatch h
        | .inr (t2, b2, r) =>
          rw [hp] at h
          have hlt := hL _ _ _ _ _ _ _ hp
          have h : ylop T yOO lv P f base tb t2 b2 (ycomb yOO base (T t).1 (T t).2.1 l r) = .inr (t', b', .inr z) := h
          refine ylop_gd hM hK hlv hL hG f base tb t2 b2 b0 _ t' b' z (by omega) (fun x' hx' => ?_) h
          match l, r, hx', hl, hp with
          | .inl e0, r, hx', hl, hp => nomatch hx'
          | .inr x, .inl e0, hx', hl, hp => nomatch hx'
          | .inr x, .inr y, hx', hl, hp =>
            exact yQ_comb hM hb (by omega) (hK t) (by omega) (hl x rfl) (hG _ _ _ _ _ _ _ hp) hx'
    · have e2 : ylop T yOO lv P (f + 1) base tb t b l = .inr (t, b, l) := if_neg hk
      rw [e2] at h
      obtain ⟨h1, h2, h3⟩ := yinr (m := l) h
      subst h2
      exact hl z h3
theorem ylev_gd (hM : yMach C X tx Tk e A R E) (hK : ∀ t, (T t).1 < 67) {lv : Int} (hlv : 0 ≤ lv ∧ lv ≤ 4) (hL : yPlt P) (hG : yGd C X tx e R E P) : yGd C X tx e R E (ylev T yOO lv P) := by
  intro base tb t b t' b' z h
  unfold ylev at h
  match hp : P base tb t b with
  | .inl p =>
    rw [hp] at h
    nomatch h
  | .inr (t1, b1, l) =>
    rw [hp] at h
    have hlt := hL _ _ _ _ _ _ _ hp
    refine ylop_gd hM hK hlv hL hG _ base tb t1 b1 b l t' b' z hlt (fun x hx => ?_) h
    subst hx
    exact hG _ _ _ _ _ _ _ hp
theorem yfrom_gd (hM : yMach C X tx Tk e A R E) (hK : ∀ t, (T t).1 < 67) (hL : yPlt P) (hG : yGd C X tx e R E P) : yGd C X tx e R E (yfrom T yOO P 0) :=
  ylev_gd hM hK (by decide) (ylev_lt (ylev_lt (ylev_lt (ylev_lt hL)))) (ylev_gd hM hK (by decide) (ylev_lt (ylev_lt (ylev_lt hL))) (ylev_gd hM hK (by decide) (ylev_lt (ylev_lt hL)) (ylev_gd hM hK (by decide) (ylev_lt hL) (ylev_gd hM hK (by decide) hL hG))))
/-- arguments -/
def yQa (C : yCo) (X : List (Nat × Nat)) (tx : Nat → Nat → List Int) (e : yEnv) (R : ySt → ySt → Prop) (E : ySt → Prop) (base tb b0 b : Nat) (ts : List Bool) (seg : yCo) (txs : List (Nat × Nat)) (g : yEnv → Option (List yVal)) : Prop := yEmb C base seg → yEmX X tx tb txs → ∀ st : List yVal, 2 * st.length + (b0 - b) ≤ 124 → match g e with
  | some l => l.length = ts.length ∧ (∀ (i : Nat) (v : yVal), l[i]? = some v → ∃ x, ts[i]? = some x ∧ yvt v x) ∧ R (base, st) (base + seg.length, st ++ l)
  | none => E (base, st)
theorem yargs_gd (hM : yMach C X tx Tk e A R E) (hL : yPlt P) (hG : yGd C X tx e R E P) : ∀ (f base tb t b b0 : Nat) (a : yAr) (t' b' : Nat) (ts' : List Bool) (seg' : yCo) (txs' : List (Nat × Nat)) (g' : yEnv → Option (List yVal)), (∀ ts seg txs g, a = .inr (ts, seg, txs, g) → 2 * ts.length + 2 + b ≤ b0 ∧ yQa C X tx e R E base tb b0 b ts seg txs g) → yargs T P f base tb t b a = .inr (t', b', .inr (ts', seg', txs', g')) → 2 * ts'.length + b' < b0 ∧ yQa C X tx e R E base tb b0 b' ts' seg' txs' g'
  | 0, base, tb, t, b, b0, a, t', b', ts', seg', txs', g', ha, h => by
    injection h with h
    injection h with h1 h
    injection h with h2 h3
    subst h2
    obtain ⟨c1, c2⟩ := ha _ _ _ _ h3
    exact ⟨by omega, c2⟩
  | f + 1, base, tb, t, b, b0, a, t', b', ts', seg', txs', g', ha, h => by
    obtain ⟨mr, mt, me, _⟩ := hM
    unfold yargs at h
    match hp : P (base + yarl a) (tb + yart a) t b with
    | .inl p =>
      rw [hp] at h
      nomatch h
    | .inr (t1, b1, m) =>
      rw [hp] at h
      have hlt := hL _ _ _ _ _ _ _ hp
      have h : (if (T t1).1 = 48 then (if b1 = 0 then (.inl (T t1).2.1 : Nat ⊕ (Nat × Nat × yAr)) else yargs T P f base tb (t1 + 1) (b1 - 1) (yapp a m)) else .inr (t1, b1, yapp a m)) = .inr (t', b', .inr (ts', seg', txs', g')) := h
      have one : ∀ ts seg txs g, yapp a m = .inr (ts, seg, txs, g) → 2 * ts.length + b1 + 1 ≤ b0 ∧ yQa C X tx e R E base tb b0 b1 ts seg txs g := by
        intro ts seg txs g ea
        match a, m, ea, ha, hp with
        | .inr (ts0, seg0, txs0, g0), .inr y, ea, ha, hp =>
          obtain ⟨c1, c2⟩ := ha ts0 seg0 txs0 g0 rfl
          have ea : (Sum.inr (ts0 ++ [y.1], seg0 ++ y.2.2.1, txs0 ++ y.2.2.2.1, fun e => match g0 e, y.2.2.2.2 e with
            | some l, some v => some (l ++ [v])
            | _, _ => none) : yAr) = .inr (ts, seg, txs, g) := ea
          injection ea with ea
          injection ea with e1 ea
          injection ea with e2 ea
          injection ea with e3 e4
          subst e1
          subst e2
          subst e3
          subst e4
          have ln : (ts0 ++ [y.1]).length = ts0.length + 1 := by rw [List.length_append]; rfl
          refine ⟨by rw [ln]; omega, fun h1 h2 st hst => ?_⟩
          obtain ⟨a1, a2⟩ := yEmb_app h1
          obtain ⟨x1, x2⟩ := yEmX_app h2
          have r1 := c2 a1 x1 st (by omega)
          show match (match g0 e, y.2.2.2.2 e with
            | some l, some v => some (l ++ [v])
            | _, _ => none) with
            | some l => l.length = (ts0 ++ [y.1]).length ∧ (∀ (i : Nat) (v : yVal), l[i]? = some v → ∃ x, (ts0 ++ [y.1])[i]? = some x ∧ yvt v x) ∧ R (base, st) (base + (seg0 ++ y.2.2.1).length, st ++ l)
            | none => E (base, st)
          match hg : g0 e with
          | none =>
            rw [hg] at r1
            exact r1
          | some l =>
            rw [hg] at r1
            obtain ⟨q1, q2, q3⟩ := r1
            have r2 := hG _ _ _ _ _ _ _ hp a2 x2 (st ++ l) (by rw [List.length_append, q1]; omega)
            match hd : y.2.2.2.2 e with
            | none =>
              rw [hd] at r2
              exact me _ _ q3 r2
            | some v =>
              rw [hd] at r2
              refine ⟨by rw [ln, List.length_append, q1]; rfl, fun i w hw => ?_, ?_⟩
              · by_cases zi : i < l.length
                · rw [List.getElem?_append_left zi] at hw
                  obtain ⟨x, hx1, hx2⟩ := q2 i w hw
                  exact ⟨x, by rw [List.getElem?_append_left (by omega)]; exact hx1, hx2⟩
                · have hl := (List.getElem?_eq_some_iff.mp hw).1
                  rw [List.length_append] at hl
                  have e1 : ([v] : List yVal).length = 1 := rfl
                  have hi : i = l.length := by omega
                  subst hi
                  rw [List.getElem?_append_right (Nat.le_refl _), Nat.sub_self] at hw
                  have hw : some v = some w := hw
                  injection hw with hw
                  subst hw
                  exact ⟨y.1, by rw [List.getElem?_append_right (by omega), show l.length - ts0.length = 0 by omega]; rfl, r2.1⟩
              · have r3 := r2.2
                rw [List.append_assoc] at r3
                rw [List.length_append, ← Nat.add_assoc]
                exact mt _ _ _ q3 r3
      split at h
      · split at h
        · nomatch h
        · rename_i hb1
          refine yargs_gd ⟨mr, mt, me, by assumption⟩ hL hG f base tb (t1 + 1) (b1 - 1) b0 _ t' b' ts' seg' txs' g' (fun ts seg txs g ea => ?_) h
          obtain ⟨c1, c2⟩ := one ts seg txs g ea
          exact ⟨by omega, fun h1 h2 st hst => c2 h1 h2 st (by omega)⟩
      · injection h with h
        injection h with h1 h
        injection h with h2 h3
        subst h2
        obtain ⟨c1, c2⟩ := one _ _ _ _ h3
        exact ⟨by omega, c2⟩
/-- a function on arguments that fit -/
theorem yfun_gd (hM : yMach C X tx Tk e A R E) {base tb b0 b kd pl : Nat} {ts : List Bool} {seg : yCo} {txs : List (Nat × Nat)} {g : yEnv → Option (List yVal)} {z : yX} (hk : kd = 8 ∨ kd = 9 ∨ kd = 37 ∨ kd = 38 ∨ kd = 39 ∨ kd = 40 ∨ kd = 41 ∨ kd = 42) (hb : 2 * ts.length + b < b0) (hq : yQa C X tx e R E base tb b0 b ts seg txs g) (h : yfun yOO kd pl (.inr (ts, seg, txs, g)) = .inr z) : yQx C X tx e R E base tb b0 b z := by
  obtain ⟨mr, mt, me, m0, m1, m2, m28, m29, mo1, mo2, mo3⟩ := hM
  rw [yfun_r] at h
  split at h
  · rename_i hts
    injection h with h
    subst h
    intro h1 h2 st hst
    have h1 : yEmb C base (seg ++ [(yop kd, 0)]) := h1
    obtain ⟨a1, a2⟩ := yEmb_app h1
    obtain ⟨i1, _⟩ := yEmb_1 a2
    have r1 := hq a1 h2 st hst
    show match (match g e with
      | some l => yOO (yop kd) l
      | none => none) with
      | some v => yvt v (ymakes kd) ∧ R (base, st) (base + (seg ++ [((yop kd : Nat), (0 : Int64))]).length, st ++ [v])
      | none => E (base, st)
    rw [List.length_append]
    match hg : g e with
    | none =>
      rw [hg] at r1
      exact r1
    | some l =>
      rw [hg] at r1
      obtain ⟨q1, q2, q3⟩ := r1
      obtain ⟨o1, o2, o3, o4, o5, o6, o7, o8⟩ := yop_f
      -- one text or one number
      have num : ∀ (i : Nat) (v : yVal), l[i]? = some v → ts[i]? = some false → ∃ n, v = .inl n := by
        intro i v hv ht
        obtain ⟨x, hx1, hx2⟩ := q2 i v hv
        rw [ht] at hx1
        injection hx1 with hx1
        subst hx1
        match v, hx2 with
        | .inl n, _ => exact ⟨n, rfl⟩
        | .inr l, hx2 => nomatch hx2.1
      have txt : ∀ (i : Nat) (v : yVal), l[i]? = some v → ts[i]? = some true → ∃ r, v = .inr r ∧ r.length ≤ 60 := by
        intro i v hv ht
        obtain ⟨x, hx1, hx2⟩ := q2 i v hv
        rw [ht] at hx1
        injection hx1 with hx1
        subst hx1
        match v, hx2 with
        | .inl n, hx2 => nomatch hx2
        | .inr l, hx2 => exact ⟨l, rfl, hx2.2⟩
      have two : kd = 8 ∨ kd = 9 → match yOO (yop kd) l with
          | some v => yvt v (ymakes kd) ∧ R (base, st) (base + (seg.length + 1), st ++ [v])
          | none => E (base, st) := by
        intro hk2
        have ets : ts = [false, false] := by rcases hk2 with rfl | rfl <;> exact hts
        match l, q1, q3, num with
        | [v, w], q1, q3, num =>
          obtain ⟨n, hn⟩ := num 0 v rfl (by rw [ets]; rfl)
          obtain ⟨m, hm⟩ := num 1 w rfl (by rw [ets]; rfl)
          subst hn
          subst hm
          have i2 : yop kd = 26 ∨ yop kd = 27 := by rcases hk2 with rfl | rfl <;> omega
          have lt : ts.length = 2 := by rw [ets]; rfl
          have op := mo2 _ st (yop kd) 0 (.inl n) (.inl m) i1 (by omega) (Or.inr (Or.inr i2))
          have ey : yO2 (yop kd) (.inl n) (.inl m) = some (.inl (ycal (yop kd) n m)) := by
            show (if (yop kd = 9 ∨ yop kd = 10) ∧ m = 0 then none else some (.inl (ycal (yop kd) n m)) : Option yVal) = _
            rw [if_neg (by omega)]
          rw [ey] at op
          show match yO2 (yop kd) (.inl n) (.inl m) with
            | some v => yvt v (ymakes kd) ∧ R (base, st) (base + (seg.length + 1), st ++ [v])
            | none => E (base, st)
          rw [ey]
          exact ⟨by rcases hk2 with rfl | rfl <;> rfl, mt _ _ _ q3 op⟩
        | [], q1, _, _ => rw [ets] at q1; nomatch q1
        | [_], q1, _, _ => rw [ets] at q1; nomatch q1
        | _ :: _ :: _ :: _, q1, _, _ => rw [ets] at q1; simp at q1
      have oneT : kd = 37 ∨ kd = 38 → match yOO (yop kd) l with
          | some v => yvt v (ymakes kd) ∧ R (base, st) (base + (seg.length + 1), st ++ [v])
          | none => E (base, st) := by
        intro hk2
        have ets : ts = [true] := by rcases hk2 with rfl | rfl <;> exact hts
        match l, q1, q3, txt with
        | [v], q1, q3, txt =>
          obtain ⟨r, hr, hr2⟩ := txt 0 v rfl (by rw [ets]; rfl)
          subst hr
          have lt : ts.length = 1 := by rw [ets]; rfl
          have op := mo1 _ st (yop kd) 0 (.inr r) i1 (by omega) ⟨by rcases hk2 with rfl | rfl <;> omega, hr2⟩
          refine ⟨?_, mt _ _ _ q3 op⟩
          rcases hk2 with rfl | rfl
          · rw [o3]
            rfl
          · rw [o4]
            show true = true ∧ (yupp r).length ≤ 60
            exact ⟨rfl, by unfold yupp; rw [List.length_map]; exact hr2⟩
        | [], q1, _, _ => rw [ets] at q1; nomatch q1
        | _ :: _ :: _, q1, _, _ => rw [ets] at q1; simp at q1
      have oneN : kd = 40 ∨ kd = 41 ∨ kd = 42 → match yOO (yop kd) l with
          | some v => yvt v (ymakes kd) ∧ R (base, st) (base + (seg.length + 1), st ++ [v])
          | none => E (base, st) := by
        intro hk2
        have ets : ts = [false] := by rcases hk2 with rfl | rfl | rfl <;> exact hts
        match l, q1, q3, num with
        | [v], q1, q3, num =>
          obtain ⟨n, hn⟩ := num 0 v rfl (by rw [ets]; rfl)
          subst hn
          have lt : ts.length = 1 := by rw [ets]; rfl
          have op := mo1 _ st (yop kd) 0 (.inl n) i1 (by omega) (by
            show yop kd = 18 ∨ yop kd = 19 ∨ yop kd = 23 ∨ yop kd = 24 ∨ yop kd = 25
            rcases hk2 with rfl | rfl | rfl <;> omega)
          refine ⟨?_, mt _ _ _ q3 op⟩
          rcases hk2 with rfl | rfl | rfl
          · rw [o6]
            exact ⟨rfl, ydgt_le n⟩
          · rw [o7]
            exact ⟨rfl, ymny_le n⟩
          · rw [o8]
            rfl
        | [], q1, _, _ => rw [ets] at q1; nomatch q1
        | _ :: _ :: _, q1, _, _ => rw [ets] at q1; simp at q1
      have three : kd = 39 → match yOO (yop kd) l with
          | some v => yvt v (ymakes kd) ∧ R (base, st) (base + (seg.length + 1), st ++ [v])
          | none => E (base, st) := by
        intro hk2
        subst hk2
        have ets : ts = [true, false, false] := hts
        match l, q1, q3, txt, num with
        | [v, w, x], q1, q3, txt, num =>
          obtain ⟨r, hr, hr2⟩ := txt 0 v rfl (by rw [ets]; rfl)
          obtain ⟨n, hn⟩ := num 1 w rfl (by rw [ets]; rfl)
          obtain ⟨m, hm⟩ := num 2 x rfl (by rw [ets]; rfl)
          subst hr
          subst hn
          subst hm
          have lt : ts.length = 3 := by rw [ets]; rfl
          rw [o5] at i1
          have op := mo3 _ st 0 r n m i1 (by omega) hr2
          refine ⟨⟨rfl, ?_⟩, mt _ _ _ q3 op⟩
          unfold yprt
          split
          · show 0 ≤ 60
            omega
          · rw [List.length_take, List.length_drop]
            omega
        | [], q1, _, _, _ => rw [ets] at q1; nomatch q1
        | [_], q1, _, _, _ => rw [ets] at q1; nomatch q1
        | [_, _], q1, _, _, _ => rw [ets] at q1; nomatch q1
        | _ :: _ :: _ :: _ :: _, q1, _, _, _ => rw [ets] at q1; simp at q1
      rcases hk with z | z | z | z | z | z | z | z
      · exact two (Or.inl z)
      · exact two (Or.inr z)
      · exact oneT (Or.inl z)
      · exact oneT (Or.inr z)
      · exact three z
      · exact oneN (Or.inl z)
      · exact oneN (Or.inr (Or.inl z))
      · exact oneN (Or.inr (Or.inr z))
  · nomatch h
theorem yfcd_gd (hM : yMach C X tx Tk e A R E) (hK : ∀ t, (T t).1 < 67) (htx : ∀ t, (T t).1 = 64 → Tk ((T t).2.1 + 1) (T t).2.2.toInt.toNat ∧ (tx ((T t).2.1 + 1) (T t).2.2.toInt.toNat).length ≤ 60) (hnm : ∀ v op i c, nm v = some (op, i, c) → 2 ≤ op ∧ op ≤ 4 ∧ i < 8 ∧ A op i ∧ yvt (e op i) c) (hsp : ∀ i, i ≤ 2 → A 5 i ∧ yvt (e 5 i) false) (hL : dp < 12 → yPlt P) (hG : dp < 12 → yGd C X tx e R E P) : yGd C X tx e R E (yfcd T tx nm decl yOO dp P) := by
  have hM' := hM
  obtain ⟨mr, mt, me, m0, m1, m2, m28, m29, mo1, mo2, mo3⟩ := hM
  intro base tb t b t' b' z h
  unfold yfcd at h
  split at h
  · unfold ynum at h
    split at h
    · nomatch h
    · obtain ⟨h1, h2, h3⟩ := yinr h
      injection h3 with h3
      subst h2
      subst h3
      exact yQ_cn hM' (by omega)
  · split at h
    · rename_i h64
      unfold ytxt at h
      split at h
      · nomatch h
      · obtain ⟨h1, h2, h3⟩ := yinr h
        injection h3 with h3
        subst h2
        subst h3
        intro a1 a2 st hst
        have a1 : yEmb C base [(1, ya64 tb)] := a1
        have a2 := a2 0 _ rfl
        exact ⟨⟨rfl, (htx t h64).2⟩, m1 _ st tb _ (yEmb_1 a1).1 a2 (htx t h64).1 (by omega)⟩
    · split at h
      · unfold ynme at h
        split at h
        · nomatch h
        · obtain ⟨h1, h2, h3⟩ := yinr h
          match hn : nm (T t).2.2 with
          | none =>
            rw [hn] at h3
            nomatch h3
          | some (op, i, c) =>
            rw [hn] at h3
            injection h3 with h3
            subst h2
            subst h3
            obtain ⟨n1, n2, n4, n5, n3⟩ := hnm _ _ _ _ hn
            intro a1 a2 st hst
            have a1 : yEmb C base [(op, ya64 i)] := a1
            exact ⟨n3, m2 _ st op i (yEmb_1 a1).1 n1 (by omega) n4 (by omega) n5 (by omega)⟩
      · split at h
        · unfold yfrn at h
          split at h
          · nomatch h
          · rename_i hz
            match hp : P base tb (t + 1) (b - 1) with
            | .inl p =>
              rw [hp] at h
              nomatch h
            | .inr (t1, b1, m1') =>
              rw [hp] at h
              have hlt := hL (by omega) _ _ _ _ _ _ _ hp
              obtain ⟨h1, h2, h3⟩ := yinr (m := yfront yOO (if (T t).1 = 52 then 19 else 18) (T t).2.1 m1') h
              subst h2
              match m1', h3, hp with
              | .inl e0, h3, hp => nomatch h3
              | .inr y, h3, hp =>
                rw [yfront_r] at h3
                split at h3
                · nomatch h3
                · rename_i hy1
                  match hv : y.2.1 with
                  | some v =>
                    rw [hv] at h3
                    injection h3 with h3
                    subst h3
                    exact yQ_cn hM' (by omega)
                  | none =>
                    rw [hv] at h3
                    injection h3 with h3
                    subst h3
                    intro a1 a2 st hst
                    have a1 : yEmb C base (y.2.2.1 ++ [((if (T t).1 = 52 then 19 else 18 : Nat), (0 : Int64))]) := a1
                    obtain ⟨c1, c2⟩ := yEmb_app a1
                    have r1 := hG (by omega) _ _ _ _ _ _ _ hp c1 a2 st (by omega)
                    show match yd1 yOO (if (T t).1 = 52 then 19 else 18) y.2.2.2.2 e with
                      | some v => yvt v false ∧ R (base, st) (base + (y.2.2.1 ++ [((if (T t).1 = 52 then 19 else 18 : Nat), (0 : Int64))]).length, st ++ [v])
                      | none => E (base, st)
                    unfold yd1
                    match hd : y.2.2.2.2 e with
                    | none =>
                      rw [hd] at r1
                      exact r1
                    | some (.inr l) =>
                      rw [hd] at r1
                      exact (hy1 r1.1.1).elim
                    | some (.inl n) =>
                      rw [hd] at r1
                      have op := mo1 _ st _ 0 (.inl n) (yEmb_1 c2).1 (by omega) (by
                        show (if (T t).1 = 52 then 19 else 18) = 18 ∨ (if (T t).1 = 52 then 19 else 18) = 19 ∨ _
                        split
                        · exact Or.inr (Or.inl rfl)
                        · exact Or.inl rfl)
                      rw [List.length_append]
                      refine ⟨?_, mt _ _ _ r1.2 op⟩
                      split <;> rfl
        · split at h
          · unfold ypar at h
            split at h
            · nomatch h
            · rename_i hz
              match hp : yfrom T yOO P 0 base tb (t + 1) (b - 1) with
              | .inl p =>
                rw [hp] at h
                nomatch h
              | .inr (t1, b1, m1') =>
                rw [hp] at h
                have h : yclo T t1 b1 m1' = .inr (t', b', .inr z) := h
                have := yclo_x h
                subst this
                have hq := yfrom_gd hM' hK (hL (by omega)) (hG (by omega)) _ _ _ _ _ _ _ hp
                have hb' : b' ≤ b1 := by
                  unfold yclo at h
                  split at h
                  · split at h
                    · nomatch h
                    · have := (yinr h).2.1
                      omega
                  · nomatch h
                exact yQ_mo hq (by omega)
          · split at h
            · rename_i hk5
              have hkf := ykfk _ (hK t) hk5
              unfold yfnc at h
              split at h
              · nomatch h
              · split at h
                · nomatch h
                · rename_i hb0 hz
                  match hp : yargs T (yfrom T yOO P 0) 100 base tb (t + 2) (b - 1 - 1) (.inr ([], [], [], fun _ => some [])) with
                  | .inl p =>
                    rw [hp] at h
                    nomatch h
                  | .inr (t1, b1, a) =>
                    rw [hp] at h
                    have h : yclo T t1 b1 (yfun yOO (T t).1 (T t).2.1 a) = .inr (t', b', .inr z) := h
                    have hf := yclo_x h
                    have hb' : b' < b1 := by
                      unfold yclo at h
                      split at h
                      · split at h
                        · nomatch h
                        · have := (yinr h).2.1
                          omega
                      · nomatch h
                    match a, hf, hp with
                    | .inr (ts, seg, txs, g), hf, hp =>
                      obtain ⟨q1, q2⟩ := yargs_gd hM' (yfrom_lt (hL (by omega))) (yfrom_gd hM' hK (hL (by omega)) (hG (by omega))) 100 base tb (t + 2) (b - 1 - 1) b _ t1 b1 ts seg txs g (fun ts0 seg0 txs0 g0 e0 => by
                        injection e0 with e0
                        injection e0 with e1 e0
                        injection e0 with e2 e0
                        injection e0 with e3 e4
                        subst e1
                        subst e2
                        subst e3
                        subst e4
                        refine ⟨by show 2 * 0 + 2 + (b - 1 - 1) ≤ b; omega, fun _ _ st _ => ?_⟩
                        show ([] : List yVal).length = 0 ∧ _ ∧ R (base, st) (base + 0, st ++ [])
                        rw [List.append_nil]
                        exact ⟨rfl, fun i v hv => (nomatch hv), mr _⟩) hp
                      have hq := yfun_gd hM' hkf q1 q2 hf
                      exact yQ_mo hq (by omega)
            · split at h
              · rename_i hk6
                unfold yspc at h
                split at h
                · nomatch h
                · obtain ⟨h1, h2, h3⟩ := yinr h
                  split at h3
                  · nomatch h3
                  · injection h3 with h3
                    subst h2
                    subst h3
                    have k6 := (ykr6 _ (hK t)).mp hk6
                    have v6 : yi2l (yKn (T t).1) = ya64 (yop (T t).1) ∧ yop (T t).1 ≤ 2 := by
                      rcases k6 with z | z | z <;> rw [z] <;> decide
                    intro a1 a2 st hst
                    have a1 : yEmb C base [(5, yi2l (yKn (T t).1))] := a1
                    rw [v6.1] at a1
                    exact ⟨(hsp _ v6.2).2, m2 _ st 5 _ (yEmb_1 a1).1 (by omega) (by omega) (by omega) (by omega) (hsp _ v6.2).1 (by omega)⟩
              · nomatch h
end YGOL
end YGO
