/-! THE REFERENCE: a function -/
section YRG
/-- the arguments' types as bits -/
def tybf : List Bool → Nat → Int → Int
  | [], _, a => a
  | x :: r, i, a => tybf r (i + 1) (yor a (yshl ((if x = true then 1 else 0 : Nat) : Int) (ymin (i : Int) 3)))
theorem tybf_app : ∀ (ts : List Bool) (x : Bool) (i : Nat) (a : Int), tybf (ts ++ [x]) i a = yor (tybf ts i a) (yshl ((if x = true then 1 else 0 : Nat) : Int) (ymin ((i + ts.length : Nat) : Int) 3))
  | [], x, i, a => rfl
  | y :: r, x, i, a => by
    show tybf (r ++ [x]) (i + 1) _ = _
    rw [tybf_app r x (i + 1) _]
    have : i + 1 + r.length = i + (y :: r).length := by rw [List.length_cons]; omega
    rw [this]
    rfl
theorem tybf_r : ∀ (ts : List Bool) (i : Nat) (a : Int), yr a = a → yr (tybf ts i a) = tybf ts i a
  | [], i, a, h => h
  | x :: r, i, a, h => tybf_r r (i + 1) _ (yr_of _)
theorem tyb_1 : ∀ a : Bool, (tybf [a] 0 0 = 1 ↔ [a] = [true]) ∧ (tybf [a] 0 0 = 0 ↔ [a] = [false]) := by decide
theorem tyb_2 : ∀ a b : Bool, (tybf [a, b] 0 0 = 0 ↔ [a, b] = [false, false]) := by decide
theorem tyb_3 : ∀ a b c : Bool, (tybf [a, b, c] 0 0 = 1 ↔ [a, b, c] = [true, false, false]) := by decide
theorem ykfk : ∀ kd : Nat, kd < 67 → yKr kd = 5 → kd = 8 ∨ kd = 9 ∨ kd = 37 ∨ kd = 38 ∨ kd = 39 ∨ kd = 40 ∨ kd = 41 ∨ kd = 42 := by decide
theorem yop_f : yop 8 = 26 ∧ yop 9 = 27 ∧ yop 37 = 20 ∧ yop 38 = 21 ∧ yop 39 = 22 ∧ yop 40 = 23 ∧ yop 41 = 24 ∧ yop 42 = 25 := by decide
/-- types fit where the bits do -/
theorem tyb_fit {kd : Nat} {ts : List Bool} (hk : kd = 8 ∨ kd = 9 ∨ kd = 37 ∨ kd = 38 ∨ kd = 39 ∨ kd = 40 ∨ kd = 41 ∨ kd = 42) : (ts.length = yarity kd ∧ tybf ts 0 0 = (ytkf kd : Nat)) ↔ ts = ytakes kd :: List.replicate (yarity kd - 1) false := by
  have len : ts = ytakes kd :: List.replicate (yarity kd - 1) false → ts.length = yarity kd := fun h => by
    have := yarity_1 kd
    rw [h, List.length_cons, List.length_replicate]
    omega
  by_cases hl : ts.length = yarity kd
  · have ar : yarity kd = if kd = 39 then 3 else if kd = 8 ∨ kd = 9 then 2 else 1 := rfl
    rcases hk with rfl | rfl | rfl | rfl | rfl | rfl | rfl | rfl
    · match ts, hl with
      | [a, b], _ => exact ⟨fun h => (tyb_2 a b).mp h.2, fun h => ⟨rfl, (tyb_2 a b).mpr h⟩⟩
    · match ts, hl with
      | [a, b], _ => exact ⟨fun h => (tyb_2 a b).mp h.2, fun h => ⟨rfl, (tyb_2 a b).mpr h⟩⟩
    · match ts, hl with
      | [a], _ => exact ⟨fun h => (tyb_1 a).1.mp h.2, fun h => ⟨rfl, (tyb_1 a).1.mpr h⟩⟩
    · match ts, hl with
      | [a], _ => exact ⟨fun h => (tyb_1 a).1.mp h.2, fun h => ⟨rfl, (tyb_1 a).1.mpr h⟩⟩
    · match ts, hl with
      | [a, b, c], _ => exact ⟨fun h => (tyb_3 a b c).mp h.2, fun h => ⟨rfl, (tyb_3 a b c).mpr h⟩⟩
    · match ts, hl with
      | [a], _ => exact ⟨fun h => (tyb_1 a).2.mp h.2, fun h => ⟨rfl, (tyb_1 a).2.mpr h⟩⟩
    · match ts, hl with
      | [a], _ => exact ⟨fun h => (tyb_1 a).2.mp h.2, fun h => ⟨rfl, (tyb_1 a).2.mpr h⟩⟩
    · match ts, hl with
      | [a], _ => exact ⟨fun h => (tyb_1 a).2.mp h.2, fun h => ⟨rfl, (tyb_1 a).2.mpr h⟩⟩
  · exact ⟨fun h => (hl h.1).elim, fun h => (hl (len h)).elim⟩
theorem yargs_e {T : yTk} {P : Nat → Nat → Nat → Nat → yPr} {e : Nat × Nat} : ∀ (f base tb t b : Nat), (∃ p, yargs T P f base tb t b (.inl e) = .inl p) ∨ ∃ t' b', yargs T P f base tb t b (.inl e) = .inr (t', b', .inl e)
  | 0, base, tb, t, b => Or.inr ⟨t, b, rfl⟩
  | f + 1, base, tb, t, b => by
    have ey : yargs T P (f + 1) base tb t b (.inl e) = (match P (base + 0) (tb + 0) t b with
      | .inl p => (.inl p : Nat ⊕ (Nat × Nat × yAr))
      | .inr (t1, b1, m) => if (T t1).1 = 48 then (if b1 = 0 then .inl (T t1).2.1 else yargs T P f base tb (t1 + 1) (b1 - 1) (.inl e)) else .inr (t1, b1, .inl e)) := rfl
    rw [ey]
    match P (base + 0) (tb + 0) t b with
    | .inl p => exact Or.inl ⟨p, rfl⟩
    | .inr (t1, b1, m) =>
      show (∃ p, (if (T t1).1 = 48 then (if b1 = 0 then (.inl (T t1).2.1 : Nat ⊕ (Nat × Nat × yAr)) else yargs T P f base tb (t1 + 1) (b1 - 1) (.inl e)) else .inr (t1, b1, .inl e)) = .inl p) ∨ ∃ t' b', (if (T t1).1 = 48 then (if b1 = 0 then (.inl (T t1).2.1 : Nat ⊕ (Nat × Nat × yAr)) else yargs T P f base tb (t1 + 1) (b1 - 1) (.inl e)) else .inr (t1, b1, .inl e)) = .inr (t', b', .inl e)
      by_cases z : (T t1).1 = 48
      · rw [if_pos z]
        by_cases zb : b1 = 0
        · rw [if_pos zb]
          exact Or.inl ⟨_, rfl⟩
        · rw [if_neg zb]
          exact yargs_e f base tb (t1 + 1) (b1 - 1)
      · rw [if_neg z]
        exact Or.inr ⟨t1, b1, rfl⟩
def rOutA (q : yQ) (js : List xO) (T : yTk) (N u : Nat) (sc : Int) (S : yS) (dp : Nat) (k : yRk) (d0 : Nat) (x0 x1 : Int) (o : Option xRes) (r : Nat ⊕ (Nat × Nat × yAr)) : Prop := match r with
  | .inl p => k = none → ∃ S', o = ythr q (ystp 1 (Int32.ofInt (p : Nat))) S' js ∧ yFr (yWv u) S S'
  | .inr (t', b', a) => match k with
    | none => ∃ (S' : yS) (x2 x3 : Int), o = Y q d0 239 54 [vr 129, vi x0, vi x1, vi x2, vi x3, vi 0, vu, vu] [] S' js ∧ yFr (yWv u) S S' ∧ rM T N u sc S' t' b' dp none
    | some (L, X) => match a with
      | .inl e => ∃ S', o = ythr q (ystp (Int32.ofInt (e.1 : Nat)) (Int32.ofInt (e.2 : Nat))) S' js ∧ yFr (yWv u) S S'
      | .inr (ts, seg, txs, _) => ∃ S', o = Y q d0 239 54 [vr 129, vi x0, vi x1, vi (ts.length : Nat), vi (tybf ts 0 0), vi 0, vu, vu] [] S' js ∧ yFr (yWv u) S S' ∧ rM T N u sc S' t' b' dp (some (L ++ seg, X ++ txs))
theorem rOutA_tr {q : yQ} {js : List xO} {T : yTk} {N u : Nat} {sc : Int} {S S1 : yS} {dp d0 : Nat} {x0 x1 : Int} {k : yRk} {o : Option xRes} {r : Nat ⊕ (Nat × Nat × yAr)} (hf : yFr (yWv u) S S1) (h : rOutA q js T N u sc S1 dp k d0 x0 x1 o r) : rOutA q js T N u sc S dp k d0 x0 x1 o r := by
  match r, k, h with
  | .inl p, k, h =>
    intro e
    obtain ⟨S', h1, h2⟩ := h e
    exact ⟨S', h1, yFr_tr hf h2⟩
  | .inr (t', b', m), none, h =>
    obtain ⟨S', x2, x3, h1, h2, h3⟩ := h
    exact ⟨S', x2, x3, h1, yFr_tr hf h2, h3⟩
  | .inr (t', b', .inl e), some (L, X), h =>
    obtain ⟨S', h1, h2⟩ := h
    exact ⟨S', h1, yFr_tr hf h2⟩
  | .inr (t', b', .inr (ts, seg, txs, g)), some (L, X), h =>
    obtain ⟨S', h1, h2, h3⟩ := h
    exact ⟨S', h1, yFr_tr hf h2, h3⟩
theorem yargs_ts {T : yTk} {P : Nat → Nat → Nat → Nat → yPr} : ∀ {f base tb t b t' b' : Nat} {ts ts' : List Bool} {seg seg' : List (Nat × Int64)} {txs txs' : List (Nat × Nat)} {g g' : yEnv → Option (List yVal)}, yargs T P f base tb t b (.inr (ts, seg, txs, g)) = .inr (t', b', .inr (ts', seg', txs', g')) → ts'.length ≤ ts.length + f
  | 0, base, tb, t, b, t', b', ts, ts', seg, seg', txs, txs', g, g', h => by
    injection h with h
    injection h with _ h
    injection h with _ h
    injection h with h
    injection h with h _
    rw [h]
    exact Nat.le_refl _
  | f + 1, base, tb, t, b, t', b', ts, ts', seg, seg', txs, txs', g, g', h => by
    unfold yargs at h
    match P (base + yarl (.inr (ts, seg, txs, g))) (tb + yart (.inr (ts, seg, txs, g))) t b, h with
    | .inr (t1, b1, .inl e), h =>
      have h : (if (T t1).1 = 48 then (if b1 = 0 then (.inl (T t1).2.1 : Nat ⊕ (Nat × Nat × yAr)) else yargs T P f base tb (t1 + 1) (b1 - 1) (.inl e)) else .inr (t1, b1, .inl e)) = .inr (t', b', .inr (ts', seg', txs', g')) := h
      split at h
      · split at h
        · nomatch h
        · rcases yargs_e (T := T) (P := P) (e := e) f base tb (t1 + 1) (b1 - 1) with ⟨p, h2⟩ | ⟨t2, b2, h2⟩
          · rw [h2] at h; nomatch h
          · rw [h2] at h
            injection h with h
            injection h with _ h
            injection h with _ h
            nomatch h
      · injection h with h
        injection h with _ h
        injection h with _ h
        nomatch h
    | .inr (t1, b1, .inr x), h =>
      have h : (if (T t1).1 = 48 then (if b1 = 0 then (.inl (T t1).2.1 : Nat ⊕ (Nat × Nat × yAr)) else yargs T P f base tb (t1 + 1) (b1 - 1) (yapp (.inr (ts, seg, txs, g)) (.inr x))) else .inr (t1, b1, yapp (.inr (ts, seg, txs, g)) (.inr x))) = .inr (t', b', .inr (ts', seg', txs', g')) := h
      split at h
      · split at h
        · nomatch h
        · have := yargs_ts h
          rw [List.length_append] at this
          have e1 : ([x.1] : List Bool).length = 1 := rfl
          omega
      · injection h with h
        injection h with _ h
        injection h with _ h
        injection h with h
        injection h with h _
        rw [← h, List.length_append]
        have e1 : ([x.1] : List Bool).length = 1 := rfl
        omega
/-- between arguments -/
def ral (Rm : Nat → Nat → Nat) (Rx : Nat → Nat) (base tb : Nat) (k k' : yRk) (a : yAr) (t b : Nat) (x2 x3 : Int) : Prop := match k with
  | none => k' = none
  | some (L, X) => base = L.length ∧ tb = X.length ∧ ∃ ts seg txs g, a = .inr (ts, seg, txs, g) ∧ k' = some (L ++ seg, X ++ txs) ∧ x2 = ts.length ∧ x3 = tybf ts 0 0 ∧ L.length + seg.length + Rm t b ≤ 4000 ∧ 2 * (X.length + txs.length) ≤ Rx t
section YRGL
variable {q : yQ} {d : Nat} {js : List xO} {S0 S S5 S1 : yS} {T : yTk} {N u : Nat} {sc : Int} {Rm : Nat → Nat → Nat} {Rx : Nat → Nat} {s dp : Nat} {tx : Nat → Nat → List Int} {O : yOp} {P : Nat → Nat → Nat → Nat → yPr} {k k' : yRk}
theorem rOutA_e {o : Option xRes} {x0 x1 : Int} {f base tb t b d0 : Nat} {e : Nat × Nat} {L : yCo} {X : List (Nat × Nat)} (ho : o = ythr q (ystp (Int32.ofInt (e.1 : Nat)) (Int32.ofInt (e.2 : Nat))) S1 js) (hf : yFr (yWv u) S S1) : rOutA q js T N u sc S dp (some (L, X)) d0 x0 x1 o (yargs T P f base tb t b (.inl e)) := by
  rcases yargs_e (T := T) (P := P) (e := e) f base tb t b with ⟨p, h⟩ | ⟨t', b', h⟩
  · rw [h]
    intro hk
    nomatch hk
  · rw [h]
    exact ⟨S1, ho, hf⟩
theorem l239 {base tb : Nat} {x0 x1 : Int} (hu : u = 0 ∨ u = 1) (hT : yTo T N) (hR : yRoom T N Rm Rx s) (hP : yPok N Rm Rx s tx P) (hL : yPlt P) (hs : rSub q js S0 T N u sc Rm Rx dp (fun S => Y q (d + 2) 227 0 [vr 129, vu, vu, vu, vu, vu] [] S js) P) (f : Nat) : ∀ (t b : Nat) (a : yAr) (k' : yRk) (x2 x3 : Int) (S : yS), b + 1 ≤ f → yFr (yWv u) S0 S → rM T N u sc S t b dp k' → ral Rm Rx base tb k k' a t b x2 x3 → rOutA q js T N u sc S dp k (d + 3) x0 x1 (Y q (d + 3) 239 54 [vr 129, vi x0, vi x1, vi x2, vi x3, vi 1, vu, vu] [] S js) (yargs T P f base tb t b a) := by
  induction f with
  | zero => intro t b a k' x2 x3 S hf; omega
  | succ f ih =>
    intro t b a k' x2 x3 S hf hz h hI
    have ht := h.2.1
    have e1 : ¬ yr 1 = 0 := by decide
    rw [w239_54, if_neg e1]
    have sub := hs S t b k' hz h (by
      intro L' X' e
      match k, hI with
      | none, hI =>
        have hI : k' = none := hI
        rw [hI] at e; nomatch e
      | some (L, X), hI =>
        obtain ⟨w1, w2, ts, seg, txs, g, ha, hk, h2, h3, hl1, hl2⟩ := hI
        rw [hk] at e
        injection e with e
        injection e with q1 q2
        rw [← q1, ← q2, List.length_append, List.length_append]
        exact ⟨hl1, hl2⟩) (base + yarl a) (tb + yart a) (by
      intro L' X' e
      match k, hI with
      | none, hI =>
        have hI : k' = none := hI
        rw [hI] at e; nomatch e
      | some (L, X), hI =>
        obtain ⟨w1, w2, ts, seg, txs, g, ha, hk, h2, h3, hl1, hl2⟩ := hI
        rw [hk] at e
        injection e with e
        injection e with q1 q2
        rw [← q1, ← q2, List.length_append, List.length_append, w1, w2, ha]
        exact ⟨rfl, rfl⟩)
    have ya : yargs T P (f + 1) base tb t b a = match P (base + yarl a) (tb + yart a) t b with
      | .inl p => .inl p
      | .inr (t1, b1, m) => if (T t1).1 = 48 then (if b1 = 0 then .inl (T t1).2.1 else yargs T P f base tb (t1 + 1) (b1 - 1) (yapp a m)) else .inr (t1, b1, yapp a m) := rfl
    rw [ya]
    match hp : P (base + yarl a) (tb + yart a) t b with
    | .inl p =>
      rw [hp] at sub
      show k = none → _
      intro hk
      have e1 : k' = none := by
        subst hk
        exact hI
      obtain ⟨S6, g1, g2⟩ := sub e1
      have g1 : Y q (d + 2) 227 0 [vr 129, vu, vu, vu, vu, vu] [] S js = _ := g1
      exact ⟨S6, by rw [g1, t239], g2⟩
    | .inr (t1, b1, m) =>
      rw [hp] at sub
      have hlt := hL _ _ _ _ _ _ _ hp
      obtain ⟨p1, p2, p3, p4, p5⟩ := hP _ _ _ _ _ _ _ ht hp
      show rOutA q js T N u sc S dp k (d + 3) x0 x1 _ (if (T t1).1 = 48 then (if b1 = 0 then .inl (T t1).2.1 else yargs T P f base tb (t1 + 1) (b1 - 1) (yapp a m)) else .inr (t1, b1, yapp a m))
      -- behind an argument
      have next : ∀ (S6 : yS) (k6 : yRk) (n : Int), yFr (yWv u) S S6 → rM T N u sc S6 t1 b1 dp k6 → ral Rm Rx base tb k k6 (yapp a m) t1 b1 (x2 + 1) (yor x3 (yshl n (ymin x2 3))) → rOutA q js T N u sc S dp k (d + 3) x0 x1 (YB q (yret q (vi n) S6 js) (d + 3) 239 62 [vr 129, vi x0, vi x1, vi x2, vi x3, vi 1, vu, vu] [vi x3]) (if (T t1).1 = 48 then (if b1 = 0 then .inl (T t1).2.1 else yargs T P f base tb (t1 + 1) (b1 - 1) (yapp a m)) else .inr (t1, b1, yapp a m)) := by
        intro S6 k6 n f6 h6 hI6
        have his : Y q (d + 2) 221 0 [vr 129, vi 102] [] S6 js = yret q (vi (yb ((T t1).1 = 48))) S6 js := rm_is hT h6 (kd := 48) (by omega)
        rw [YB_ret, w239_65, his, YB_ret, w239_83]
        simp only [yr_yb, yb_eq0]
        by_cases z : (T t1).1 = 48
        · rw [if_neg (fun n => n z), if_pos z, yb_t z]
          by_cases zb : b1 = 0
          · subst zb
            rw [if_pos rfl]
            show k = none → _
            intro hk
            exact ⟨S6, by rw [rm_take0 hT h6, t239], f6⟩
          · rw [if_neg zb]
            obtain ⟨S7, c1, f7, h7, _, _⟩ := rm_take (q := q) (d := d + 1) (js := js) hT h6 (by omega) zb hu
            have ht1 := yTo_t hT p1 (by omega)
            have R := hR.2.2 t1 b1 ht1 (by omega)
            have R3 := (R.2.2 (by omega)).1
            have R1 := R.1
            have fin := ih (t1 + 1) (b1 - 1) (yapp a m) k6 (x2 + 1) (yor x3 (yshl n (ymin x2 3))) S7 (by omega) (yFr_tr hz (yFr_tr f6 f7)) h7 (by
              match k, hI6 with
              | none, hI6 => exact hI6
              | some (L, X), hI6 =>
                obtain ⟨w1, w2, ts, seg, txs, g, ha, hk, h2, h3, hl1, hl2⟩ := hI6
                exact ⟨w1, w2, ts, seg, txs, g, ha, hk, h2, h3, by omega, by omega⟩)
            rw [c1, YB_retv, w239_94]
            exact rOutA_tr (yFr_tr f6 f7) fin
        · rw [if_pos z, if_neg z, yb_f z]
          match k, hI6 with
          | none, hI6 =>
            have e : k6 = none := hI6
            subst e
            exact ⟨S6, _, _, rfl, f6, h6⟩
          | some (L, X), hI6 =>
            obtain ⟨w1, w2, ts, seg, txs, g, ha, hk, h2, h3, hl1, hl2⟩ := hI6
            rw [ha, h2, h3]
            subst hk
            exact ⟨S6, rfl, f6, h6⟩
      match k, hI with
      | none, hI =>
        have e1 : k' = none := hI
        subst e1
        obtain ⟨S6, n, g1, g2, g3, g4⟩ := sub
        have g1 : Y q (d + 2) 227 0 [vr 129, vu, vu, vu, vu, vu] [] S js = yret q (vi (n : Int)) S6 js := g1
        rw [g1]
        exact next S6 none n g2 g3 rfl
      | some (L, X), hI =>
        obtain ⟨w1, w2, ts, seg, txs, g, ha, hk, h2, h3, hl1, hl2⟩ := hI
        subst hk
        subst ha
        match m, sub, p5, next with
        | .inl (n, p), sub, p5, next =>
          obtain ⟨S6, g1, g2⟩ := sub
          have g1 : Y q (d + 2) 227 0 [vr 129, vu, vu, vu, vu, vu] [] S js = _ := g1
          rw [g1, t239]
          show rOutA q js T N u sc S dp (some (L, X)) (d + 3) x0 x1 _ (if (T t1).1 = 48 then (if b1 = 0 then .inl (T t1).2.1 else yargs T P f base tb (t1 + 1) (b1 - 1) (.inl (n, p))) else .inr (t1, b1, .inl (n, p)))
          by_cases z : (T t1).1 = 48
          · rw [if_pos z]
            by_cases zb : b1 = 0
            · rw [if_pos zb]
              intro hk
              nomatch hk
            · rw [if_neg zb]
              exact rOutA_e (e := (n, p)) rfl g2
          · rw [if_neg z]
            exact ⟨S6, rfl, g2⟩
        | .inr y, sub, p5, next =>
          obtain ⟨S6, g1, g2, g3, g4⟩ := sub
          have g1 : Y q (d + 2) 227 0 [vr 129, vu, vu, vu, vu, vu] [] S js = yret q (vi ((if y.1 = true then 1 else 0 : Nat) : Int)) S6 js := g1
          obtain ⟨y1, y2, y3⟩ := p5 y rfl
          have y4 : 2 * y.2.2.2.1.length ≤ ytl tx y.2.2.2.1 := by unfold ytl; omega
          rw [g1]
          refine next S6 _ _ g2 g3 ⟨w1, w2, ts ++ [y.1], seg ++ y.2.2.1, txs ++ y.2.2.2.1, _, rfl, ?_, ?_, ?_, ?_, ?_⟩
          · rw [List.append_assoc, List.append_assoc]
          · rw [h2, List.length_append]
            rfl
          · rw [tybf_app, h3, h2, Nat.zero_add]
          · rw [List.length_append]; omega
          · rw [List.length_append]; omega
/-- the end of 239 -/
theorem v239_103 {kd : Nat} {x1 x4 : Int} {n : Nat} {x3 : Int} (hk : kd = 8 ∨ kd = 9 ∨ kd = 37 ∨ kd = 38 ∨ kd = 39 ∨ kd = 40 ∨ kd = 41 ∨ kd = 42) (hn : n ≤ 1000) (h3 : yr x3 = x3) : Y q (d + 1) 239 103 [vr 129, vi (ykR kd), vi x1, vi n, vi x3, vi x4, vu, vu] [] S js = YB q (Y q d 219 0 [vr 129, vi (if n = yarity kd ∧ x3 = (ytkf kd : Nat) then 1 else 0), vi 3, vi x1] [] (sI (sI S 46 (gI S 46 - 1)) 49 0) js) (d + 1) 239 216 [vr 129, vi (ykR kd), vi x1, vi n, vi x3, vi x4, vi (yop kd : Nat), vi (yarity kd : Nat)] [] := by
  have en : yr (n : Int) = n := yr_eq (by omega) (by omega)
  obtain ⟨o1, o2, o3, o4, o5, o6, o7, o8⟩ := yop_f
  have n0 : yr 0 = 0 := rfl
  have n1 : yr 1 = 1 := rfl
  have n2 : yr 2 = 2 := rfl
  have n3 : yr 3 = 3 := rfl
  have n8 : yr 8 = 8 := rfl
  have n9 : yr 9 = 9 := rfl
  have n20 : yr 20 = 20 := rfl
  have n21 : yr 21 = 21 := rfl
  have n22 : yr 22 = 22 := rfl
  have n23 : yr 23 = 23 := rfl
  have n24 : yr 24 = 24 := rfl
  have n25 : yr 25 = 25 := rfl
  have n26 : yr 26 = 26 := rfl
  have n27 : yr 27 = 27 := rfl
  have n37 : yr 37 = 37 := rfl
  have n38 : yr 38 = 38 := rfl
  have n39 : yr 39 = 39 := rfl
  have n40 : yr 40 = 40 := rfl
  have n41 : yr 41 = 41 := rfl
  have n42 : yr 42 = 42 := rfl
  rcases hk with rfl | rfl | rfl | rfl | rfl | rfl | rfl | rfl
  · have e : ykR 8 = 8 := rfl
    have ea : yarity 8 = 2 := rfl
    have et : ytkf 8 = 0 := rfl
    rw [e, ea, et, o1, w239_103]
    simp only [en, h3, n0, n1, n2, n3, n8, n22, n26, Int.reduceEq, Int.reduceLT, if_true, if_false]
    repeat' split
    all_goals first | rfl | (exfalso; omega)
  · have e : ykR 9 = 9 := rfl
    have ea : yarity 9 = 2 := rfl
    have et : ytkf 9 = 0 := rfl
    rw [e, ea, et, o2, w239_103]
    simp only [en, h3, n0, n1, n2, n3, n8, n9, n22, n26, n27, Int.reduceEq, Int.reduceLT, if_true, if_false]
    repeat' split
    all_goals first | rfl | (exfalso; omega)
  · have e : ykR 37 = 37 := rfl
    have ea : yarity 37 = 1 := rfl
    have et : ytkf 37 = 1 := rfl
    rw [e, ea, et, o3, w239_103]
    simp only [en, h3, n0, n1, n2, n3, n8, n9, n20, n22, n26, n37, n42, Int.reduceEq, Int.reduceLT, Int.reduceAdd, Int.reduceSub, if_true, if_false]
    repeat' split
    all_goals first | rfl | (exfalso; omega)
  · have e : ykR 38 = 38 := rfl
    have ea : yarity 38 = 1 := rfl
    have et : ytkf 38 = 1 := rfl
    rw [e, ea, et, o4, w239_103]
    simp only [en, h3, n0, n1, n2, n3, n8, n9, n21, n22, n26, n38, n42, Int.reduceEq, Int.reduceLT, Int.reduceAdd, Int.reduceSub, if_true, if_false]
    repeat' split
    all_goals first | rfl | (exfalso; omega)
  · have e : ykR 39 = 39 := rfl
    have ea : yarity 39 = 3 := rfl
    have et : ytkf 39 = 1 := rfl
    rw [e, ea, et, o5, w239_103]
    simp only [en, h3, n0, n1, n2, n3, n8, n9, n22, n26, n39, n42, Int.reduceEq, Int.reduceLT, Int.reduceAdd, Int.reduceSub, if_true, if_false]
    repeat' split
    all_goals first | rfl | (exfalso; omega)
  · have e : ykR 40 = 40 := rfl
    have ea : yarity 40 = 1 := rfl
    have et : ytkf 40 = 0 := rfl
    rw [e, ea, et, o6, w239_103]
    simp only [en, h3, n0, n1, n2, n3, n8, n9, n22, n23, n26, n40, n42, Int.reduceEq, Int.reduceLT, Int.reduceAdd, Int.reduceSub, if_true, if_false]
    repeat' split
    all_goals first | rfl | (exfalso; omega)
  · have e : ykR 41 = 41 := rfl
    have ea : yarity 41 = 1 := rfl
    have et : ytkf 41 = 0 := rfl
    rw [e, ea, et, o7, w239_103]
    simp only [en, h3, n0, n1, n2, n3, n8, n9, n22, n24, n26, n41, n42, Int.reduceEq, Int.reduceLT, Int.reduceAdd, Int.reduceSub, if_true, if_false]
    repeat' split
    all_goals first | rfl | (exfalso; omega)
  · have e : ykR 42 = 42 := rfl
    have ea : yarity 42 = 1 := rfl
    have et : ytkf 42 = 0 := rfl
    rw [e, ea, et, o8, w239_103]
    simp only [en, h3, n0, n1, n2, n3, n8, n9, n22, n25, n26, n42, Int.reduceEq, Int.reduceLT, Int.reduceAdd, Int.reduceSub, if_true, if_false]
    repeat' split
    all_goals first | rfl | (exfalso; omega)
theorem yitQ {Q : Option xRes → Prop} {c : Prop} [Decidable c] {a b : Option xRes} (h1 : Q a) (h2 : Q b) : Q (if c then a else b) := by
  split
  · exact h1
  · exact h2
/-- any number of arguments, in the first pass -/
theorem v239_103n {t b : Nat} {x0 x1 x2 x3 x4 : Int} (hu : u = 0 ∨ u = 1) (h : rM T N u sc S t b (dp + 1) none) (hk : ∃ kd : Nat, x0 = ykR kd ∧ (kd = 8 ∨ kd = 9 ∨ kd = 37 ∨ kd = 38 ∨ kd = 39 ∨ kd = 40 ∨ kd = 41 ∨ kd = 42)) : ∃ (S' : yS) (n : Nat), Y q (d + 1) 239 103 [vr 129, vi x0, vi x1, vi x2, vi x3, vi x4, vu, vu] [] S js = yret q (vi (n : Int)) S' js ∧ yFr (yWv u) S S' ∧ rM T N u sc S' t b dp none ∧ n ≤ 1 := by
  obtain ⟨f1, h1⟩ := rm_up h hu
  obtain ⟨f2, h2, _⟩ := rm_no h1 hu
  have fin : ∀ (c x5 x6 : Int), ∃ (S' : yS) (n : Nat), YB q (Y q d 219 0 [vr 129, vi c, vi 3, vi x1] [] (sI (sI S 46 (gI S 46 - 1)) 49 0) js) (d + 1) 239 216 [vr 129, vi x0, vi x1, vi x2, vi x3, vi x4, vi x5, vi x6] [] = yret q (vi (n : Int)) S' js ∧ yFr (yWv u) S S' ∧ rM T N u sc S' t b dp none ∧ n ≤ 1 := by
    intro c x5 x6
    have a : gI (sI (sI S 46 (gI S 46 - 1)) 49 0) 45 = 0 := h2.2.2.2.2.2.2.2.2.2.1
    rw [rm_mustn h2, YB_retv, w239_219, r234n a, YB_ret, w239_226]
    split
    · exact ⟨_, 0, rfl, yFr_tr f1 f2, h2, by omega⟩
    · split
      · exact ⟨_, 0, rfl, yFr_tr f1 f2, h2, by omega⟩
      · exact ⟨_, 1, rfl, yFr_tr f1 f2, h2, by omega⟩
  obtain ⟨Q, hQ⟩ : ∃ Q : Option xRes → Prop, Q = fun o => ∃ (S' : yS) (n : Nat), o = yret q (vi (n : Int)) S' js ∧ yFr (yWv u) S S' ∧ rM T N u sc S' t b dp none ∧ n ≤ 1 := ⟨_, rfl⟩
  have fin' : ∀ (c x5 x6 : Int), Q (YB q (Y q d 219 0 [vr 129, vi c, vi 3, vi x1] [] (sI (sI S 46 (gI S 46 - 1)) 49 0) js) (d + 1) 239 216 [vr 129, vi x0, vi x1, vi x2, vi x3, vi x4, vi x5, vi x6] []) := by
    intro c x5 x6
    rw [hQ]
    exact fin c x5 x6
  suffices h : Q (Y q (d + 1) 239 103 [vr 129, vi x0, vi x1, vi x2, vi x3, vi x4, vu, vu] [] S js) by
    rw [hQ] at h
    exact h
  rw [w239_103]
  repeat' first | exact fin' _ _ _ | apply yitQ
/-- a closing parenthesis -/
theorem rm_close {t b : Nat} (hT : yTo T N) (h : rM T N u sc S t b dp k) (hu : u = 0 ∨ u = 1) : ((T t).1 = 47 ∧ b ≠ 0 → ∃ S' : yS, Y q (d + 3) 225 0 [vr 129, vi 101] [] S js = yretv q S' js ∧ yFr (yWv u) S S' ∧ rM T N u sc S' (t + 1) (b - 1) dp k ∧ gI S' 49 = gI S 49 ∧ gJ S' 1 = gJ S 1) ∧ (¬ ((T t).1 = 47 ∧ b ≠ 0) → Y q (d + 3) 225 0 [vr 129, vi 101] [] S js = ythr q (ystp 1 (Int32.ofInt ((T t).2.1 : Nat))) S js) := by
  have his : Y q (d + 2) 221 0 [vr 129, vi 101] [] S js = yret q (vi (yb ((T t).1 = 47))) S js := rm_is hT h (kd := 47) (by omega)
  obtain ⟨g1, g2, g3, g4, g5, g6, g7, g8⟩ := rM_t h
  have hN := hT.2.1
  have e44 : yr (gI S 44) = t := by rw [g1]; exact yr_eq (by omega) (by omega)
  rw [w225_0, his, YB_ret, w225_5]
  simp only [yr_yb, yb_eq0]
  by_cases z : (T t).1 = 47
  · rw [if_neg (fun n => n z)]
    by_cases zb : b = 0
    · subst zb
      refine ⟨fun v => (v.2 rfl).elim, fun _ => ?_⟩
      rw [rm_take0 hT h, t225]
    · refine ⟨fun _ => ?_, fun v => (v ⟨z, zb⟩).elim⟩
      obtain ⟨S1, a1, f1, h1, p1, p2⟩ := rm_take (q := q) (d := d + 1) (js := js) hT h (by omega) zb hu
      exact ⟨S1, by rw [a1, YB_retv, w225_17], f1, h1, p1, p2⟩
  · rw [if_pos z]
    refine ⟨fun v => (z v.1).elim, fun _ => ?_⟩
    rw [c218 q (d + 1) js S (by rw [e44]; omega), YB_ret, e44, Int.toNat_natCast, g8]
    exact Y_athrow q 13 (d + 3) 225 12 _ _ [] S js rfl rfl rfl
/-- no token fits -/
theorem rm_bad {t b k9 pc : Nat} {L : List yV} (hT : yTo T N) (h : rM T N u sc S t b dp k) (hc : xP_code (xPrg q.1) k9 (pc + 3) = some (.athrow, 1)) (hh : xP_hn (xPrg q.1) k9 (pc + 3) 13 = some none) : YB q (Y q (d + 1) 218 0 [vr 129] [] S js) (d + 2) k9 pc L [] = ythr q (ystp 1 (Int32.ofInt ((T t).2.1 : Nat))) S js := by
  obtain ⟨g1, g2, g3, g4, g5, g6, g7, g8⟩ := rM_t h
  have hN := hT.2.1
  have e44 : yr (gI S 44) = t := by rw [g1]; exact yr_eq (by omega) (by omega)
  rw [c218 q d js S (by rw [e44]; omega), YB_ret, e44, Int.toNat_natCast, g8]
  exact Y_athrow q 13 (d + 2) k9 (pc + 3) _ _ [] S js hc rfl hh
theorem r239 {base tb t b : Nat} (hu : u = 0 ∨ u = 1) (hT : yTo T N) (hR : yRoom T N Rm Rx s) (hP : yPok N Rm Rx s tx P) (hL : yPlt P) (hs : dp < 12 → rSub q js S0 T N u sc Rm Rx (dp + 1) (fun S => Y q (d + 3) 227 0 [vr 129, vu, vu, vu, vu, vu] [] S js) P) (hz : yFr (yWv u) S0 S) (h : rM T N u sc S t b dp k) (hc : rcap Rm Rx t b k) (hbs : rbas base tb k) (hkr : yKr (T t).1 = 5) : rOut q js T N u sc S dp k (Y q (d + 4) 239 0 [vr 129, vu, vu, vu, vu, vu, vu, vu] [] S js) (yfnc T O P dp base tb t b) := by
  obtain ⟨g1, g2, g3, g4, g5, g6, g7, g8⟩ := rM_t h
  have hN := hT.2.1
  have h67 := (hT.2.2.2.2 t g2).2
  obtain ⟨o1, o2, o3, o4⟩ := yk5 _ h67 hkr
  have hkf := ykfk _ h67 hkr
  have ht := yTo_t hT g2 o1
  have e44 : yr (gI S 44) = t := by rw [g1]; exact yr_eq (by omega) (by omega)
  have ok : 0 ≤ (t : Int) ∧ (t : Int) < 2001 := by omega
  unfold yfnc
  rw [w239_0, e44, if_pos ok, if_pos ok, Int.toNat_natCast, g7, g8]
  by_cases hb : b = 0
  · subst hb
    rw [if_pos rfl]
    exact rOut_n fun hk => ⟨S, by rw [rm_take0 hT h, t239], yFr_rf _ _⟩
  · rw [if_neg hb]
    obtain ⟨S1, a1, f1, h1, _, _⟩ := rm_take (q := q) (d := d + 2) (js := js) hT h o1 hb hu
    obtain ⟨n1, n2, n3, n4, n5, n6, n7, n8⟩ := rM_t h1
    have his : Y q (d + 3) 221 0 [vr 129, vi 100] [] S1 js = yret q (vi (yb ((T (t + 1)).1 = 46))) S1 js := rm_is hT h1 (kd := 46) (by omega)
    rw [a1, YB_retv, w239_24, his, YB_ret, w239_30]
    simp only [yr_yb, yb_eq0]
    by_cases z46 : (T (t + 1)).1 = 46
    · rw [if_neg (fun n => n z46)]
      by_cases zd : dp = 12
      · subst zd
        rw [if_pos (Or.inr (Or.inl (Nat.le_refl _)))]
        exact rOut_n fun hk => ⟨S1, by rw [rm_deep0 hT h1, t239], f1⟩
      · obtain ⟨S2, a2, f2, h2, _, _⟩ := rm_deep (q := q) (d := d + 2) (js := js) h1 (by omega) hu
        rw [a2, YB_retv, w239_42]
        by_cases zb1 : b - 1 = 0
        · rw [if_pos (Or.inr (Or.inr zb1))]
          rw [zb1] at h2
          exact rOut_n fun hk => ⟨S2, by rw [rm_take0 hT h2, t239], yFr_tr f1 f2⟩
        · rw [if_neg (by omega)]
          have ht1 := yTo_t hT n2 (by omega)
          obtain ⟨S3, a3, f3, h3, _, _⟩ := rm_take (q := q) (d := d + 2) (js := js) hT h2 (by omega) zb1 hu
          rw [a3, YB_retv, w239_46]
          have fz := yFr_tr f1 (yFr_tr f2 f3)
          have A := hR.2.2 t b ht o1
          have A1 := A.1
          have A3 := (A.2.2 (by omega)).1
          have B := hR.2.2 (t + 1) (b - 1) ht1 (by omega)
          have B1 := B.1
          have B3 := (B.2.2 (by omega)).1
          have loop := l239 (q := q) (d := d + 1) (js := js) (base := base) (tb := tb) (x0 := ykR (T t).1) (x1 := ((T t).2.1 : Nat)) (k := k) hu hT hR hP hL (hs (by omega)) 100 (t + 2) (b - 1 - 1) (.inr ([], [], [], fun _ => some [])) k 0 0 S3 (by omega) (yFr_tr hz fz) h3 (by
            match k, hc, hbs with
            | none, _, _ => rfl
            | some (L, X), hc, hbs =>
              obtain ⟨c1, c2⟩ := hc L X rfl
              obtain ⟨b1, b2⟩ := hbs L X rfl
              have e2 : t + 1 + 1 = t + 2 := rfl
              rw [e2] at B3 B1
              exact ⟨b1, b2, [], [], [], _, rfl, by rw [List.append_nil, List.append_nil], rfl, rfl, by show L.length + 0 + _ ≤ _; omega, by show 2 * (X.length + 0) ≤ _; omega⟩)
          match hy : yargs T P 100 base tb (t + 2) (b - 1 - 1) (.inr ([], [], [], fun _ => some [])) with
          | .inl p =>
            rw [hy] at loop
            exact rOut_n fun hk => by
              obtain ⟨S4, c1, c2⟩ := loop hk
              exact ⟨S4, c1, yFr_tr fz c2⟩
          | .inr (t1, b1, a) =>
            rw [hy] at loop
            show rOut q js T N u sc S dp k _ (yclo T t1 b1 (yfun O (T t).1 (T t).2.1 a))
            have e0 : yr 0 = 0 := rfl
            unfold yclo
            match k, loop with
            | none, loop =>
              obtain ⟨S4, x2, x3, c1, c2, c3⟩ := loop
              have c1 : Y q (d + 4) 239 54 [vr 129, vi (ykR (T t).1), vi ((T t).2.1 : Nat), vi 0, vi 0, vi 1, vu, vu] [] S3 js = _ := c1
              rw [c1, w239_54, e0, if_pos rfl]
              obtain ⟨y1, y2⟩ := rm_close (q := q) (d := d) (js := js) hT c3 hu
              by_cases z47 : (T t1).1 = 47
              · rw [if_pos z47]
                by_cases zb : b1 = 0
                · rw [if_pos zb]
                  exact rOut_n fun hk => ⟨S4, by rw [y2 (fun v => v.2 zb), t239], yFr_tr fz c2⟩
                · rw [if_neg zb]
                  obtain ⟨S5, d1, d2, d3, _, _⟩ := y1 ⟨z47, zb⟩
                  obtain ⟨S6, n, w1, w2, w3, w4⟩ := v239_103n (q := q) (d := d + 3) (js := js) (x0 := ykR (T t).1) (x1 := ((T t).2.1 : Nat)) (x2 := x2) (x3 := x3) (x4 := 0) hu d3 ⟨(T t).1, rfl, hkf⟩
                  exact ⟨S6, n, by rw [d1, YB_retv, w1], yFr_tr fz (yFr_tr c2 (yFr_tr d2 w2)), w3, w4⟩
              · rw [if_neg z47]
                exact rOut_n fun hk => ⟨S4, by rw [y2 (fun v => z47 v.1), t239], yFr_tr fz c2⟩
            | some (L, X), loop =>
              by_cases z47 : (T t1).1 = 47
              · rw [if_pos z47]
                by_cases zb : b1 = 0
                · rw [if_pos zb]
                  exact rOut_n fun hk => nomatch hk
                · rw [if_neg zb]
                  match a, loop with
                  | .inl e, loop =>
                    obtain ⟨S4, c1, c2⟩ := loop
                    exact ⟨S4, c1, yFr_tr fz c2⟩
                  | .inr (ts, seg, txs, g), loop =>
                    obtain ⟨S4, c1, c2, c3⟩ := loop
                    obtain ⟨w1, w2, w3, w4, w5⟩ := yargs_ok (T := T) (base := base) (tb := tb) hT hR hP 100 (t + 2) (b - 1 - 1) t1 b1 _ _ ht1 hy
                    obtain ⟨ts0, seg0, txs0, g0, v1, v2, v3⟩ := w5 ts seg txs g rfl
                    injection v1 with v1
                    injection v1 with _ v1
                    injection v1 with v4 v1
                    subst v4
                    have v2 : seg.length + Rm t1 b1 ≤ 0 + Rm (t + 2) (b - 1 - 1) := v2
                    obtain ⟨cc1, cc2⟩ := hc L X rfl
                    have e2 : t + 1 + 1 = t + 2 := rfl
                    rw [e2] at B3 B1
                    have c1 : Y q (d + 4) 239 54 [vr 129, vi (ykR (T t).1), vi ((T t).2.1 : Nat), vi 0, vi 0, vi 1, vu, vu] [] S3 js = _ := c1
                    obtain ⟨y1, y2⟩ := rm_close (q := q) (d := d) (js := js) hT c3 hu
                    obtain ⟨S5, d1, d2, d3, _, _⟩ := y1 ⟨z47, zb⟩
                    obtain ⟨u1, u2⟩ := rm_up d3 hu
                    obtain ⟨u3, u4, u5⟩ := rm_no u2 hu
                    rw [c1, w239_54, e0, if_pos rfl, d1, YB_retv]
                    have hts : ts.length ≤ 1000 := by
                      have := yargs_ts hy
                      have e0 : (0 : Nat) + 100 ≤ 1000 := by omega
                      exact Nat.le_trans this e0
                    rw [v239_103 hkf hts (tybf_r ts 0 0 rfl)]
                    have fzz := yFr_tr fz (yFr_tr c2 (yFr_tr d2 (yFr_tr u1 u3)))
                    rw [yfun_r]
                    by_cases hfit : ts = ytakes (T t).1 :: List.replicate (yarity (T t).1 - 1) false
                    · rw [if_pos hfit, if_pos ((tyb_fit hkf).mpr hfit), rm_must1, YB_retv, w239_219]
                      obtain ⟨S6, r6, b1', b2', b3', b4', b5', _⟩ := rm_emit (q := q) (d := d + 3) (js := js) hu u4 (fun L' X' e => by
                        injection e with e
                        injection e with q1 q2
                        rw [← q1, List.length_append]
                        omega) (yop (T t).1) 0
                      have b1' : Y q (d + 3) 234 0 [vr 129, vi (yop (T t).1 : Nat), vj 0, vu] [] (sI (sI S5 46 (gI S5 46 - 1)) 49 0) js = yret q (vi r6) S6 js := b1'
                      rw [b1', YB_ret, w239_226]
                      refine ⟨S6, ?_, yFr_tr fzz b2', ?_, rP_same u5 b4' b5'⟩
                      · have mk : ∀ kd : Nat, (kd = 8 ∨ kd = 9 ∨ kd = 37 ∨ kd = 38 ∨ kd = 39 ∨ kd = 40 ∨ kd = 41 ∨ kd = 42) → (if yr (yop kd : Nat) < yr 21 then yret q (vi 0) S6 js else if yr 24 < yr (yop kd : Nat) then yret q (vi 0) S6 js else yret q (vi 1) S6 js) = yret q (vi ((if ymakes kd = true then 1 else 0 : Nat) : Int)) S6 js := by
                          rintro kd (rfl | rfl | rfl | rfl | rfl | rfl | rfl | rfl) <;> rfl
                        exact mk _ hkf
                      · have b3' : rM T N u sc S6 (t1 + 1) (b1 - 1) dp (some ((L ++ seg) ++ [(yop (T t).1, 0)], X ++ txs)) := b3'
                        rw [List.append_assoc] at b3'
                        exact b3'
                    · rw [if_neg hfit, if_neg (fun v => hfit ((tyb_fit hkf).mp v))]
                      have m0 : Y q (d + 3) 219 0 [vr 129, vi 0, vi 3, vi ((T t).2.1 : Nat)] [] (sI (sI S5 46 (gI S5 46 - 1)) 49 0) js = ythr q (ystp (Int32.ofInt (3 : Nat)) (Int32.ofInt ((T t).2.1 : Nat))) (sI (sI S5 46 (gI S5 46 - 1)) 49 0) js := rm_must0 u4
                      exact ⟨_, by rw [m0, t239], fzz⟩
              · rw [if_neg z47]
                exact rOut_n fun hk => nomatch hk
    · rw [if_pos z46, if_pos (Or.inl z46)]
      exact rOut_n fun hk => ⟨S1, rm_bad hT h1 rfl rfl, f1⟩
end YRGL
end YRG
