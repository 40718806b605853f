/-! BOTH SIDES: a whole expression -/
section YWH
section YWHL
variable {q : yQ} {js : List xO} {S0 S S5 S1 : yS} {T : yTk} {N u : Nat} {sc w : Int} {Rm : Nat → Nat → Nat} {Rx : Nat → Nat} {s dp t b : Nat} {tx : Nat → Nat → List Int} {O : yOp} {P : Nat → Nat → Nat → Nat → yPr} {k k' : yRk}
theorem yfac_lt {nm : Int64 → Option (Nat × Nat × Bool)} {decl : Bool} : ∀ rd, rd ≤ 12 → yPlt (yfac T tx nm decl O rd) := by
  intro rd
  induction rd with
  | zero =>
    intro _
    have e : yfac T tx nm decl O 0 = yfcd T tx nm decl O 12 (ypv T tx nm decl O 0) := by
      funext base tb t b
      exact yfac_e rfl
    rw [e]
    exact yfcd_lt (fun z => absurd z (by omega))
  | succ r ih =>
    intro hr
    have e : yfac T tx nm decl O (r + 1) = yfcd T tx nm decl O (11 - r) (ypv T tx nm decl O (r + 1)) := by
      funext base tb t b
      exact yfac_e (by omega)
    rw [e]
    exact yfcd_lt (fun _ => ih (by omega))
theorem rFc_a (hu : u = 0 ∨ u = 1) (hT : yTo T N) (hR : yRoom T N Rm Rx s) (hRx : ∀ t, t < N → Rx t ≤ 2000) (hsc : sc = 0 ∨ sc = 1 ∨ sc = 2) (hno : rNo S0) (htx : ∀ t, t < N → (T t).1 = 64 → (tx ((T t).2.1 + 1) (T t).2.2.toInt.toNat).length ≤ (T t).2.2.toInt.toNat) : ∀ rd dp, dp + rd = 12 → ∀ d, 5 + 7 * rd ≤ d → rSub q js S0 T N u sc Rm Rx dp (fun S => Y q d 232 0 [vr 129, vu, vu, vu, vu, vu] [] S js) (yfac T tx (ynmR S0 sc) (decide (sc = 0)) O rd) := by
  intro rd
  induction rd with
  | zero =>
    intro dp hdp d hd
    have e : yfac T tx (ynmR S0 sc) (decide (sc = 0)) O 0 = yfcd T tx (ynmR S0 sc) (decide (sc = 0)) O dp (ypv T tx (ynmR S0 sc) (decide (sc = 0)) O 0) := by
      funext base tb t b
      exact yfac_e (by omega)
    obtain ⟨d', rfl⟩ : ∃ d', d = d' + 5 := ⟨d - 5, by omega⟩
    rw [e]
    exact r232 hu hT hR hRx hsc hno (fun z => absurd z (by omega)) (fun z => absurd z (by omega)) (fun z => absurd z (by omega)) (fun z => absurd z (by omega))
  | succ r ih =>
    intro dp hdp d hd
    have i := ih (dp + 1) (by omega)
    have sz := yfac_sz (nm := ynmR S0 sc) (decl := decide (sc = 0)) (O := O) hT hR htx r (by omega)
    have lt := yfac_lt (T := T) (tx := tx) (nm := ynmR S0 sc) (decl := decide (sc = 0)) (O := O) r (by omega)
    have i2 := r227a (O := O) hu hT hR sz.1 lt (E := 5 + 7 * r) (by omega) i
    have e : yfac T tx (ynmR S0 sc) (decide (sc = 0)) O (r + 1) = yfcd T tx (ynmR S0 sc) (decide (sc = 0)) O dp (ypv T tx (ynmR S0 sc) (decide (sc = 0)) O (r + 1)) := by
      funext base tb t b
      exact yfac_e (by omega)
    obtain ⟨d', rfl⟩ : ∃ d', d = d' + 5 := ⟨d - 5, by omega⟩
    rw [e]
    exact r232 hu hT hR hRx hsc hno (fun _ => ⟨sz.1, sz.2.2.1⟩) (fun _ => lt) (fun _ => i (d' + 4) (by omega)) (fun _ => ⟨i2 (d' + 4) (by omega), i2 (d' + 3) (by omega)⟩)
theorem rEx_a (hu : u = 0 ∨ u = 1) (hT : yTo T N) (hR : yRoom T N Rm Rx s) (hRx : ∀ t, t < N → Rx t ≤ 2000) (hsc : sc = 0 ∨ sc = 1 ∨ sc = 2) (hno : rNo S0) (htx : ∀ t, t < N → (T t).1 = 64 → (tx ((T t).2.1 + 1) (T t).2.2.toInt.toNat).length ≤ (T t).2.2.toInt.toNat) (hdp : dp ≤ 12) : ∀ d, 100 ≤ d → rSub q js S0 T N u sc Rm Rx dp (fun S => Y q d 227 0 [vr 129, vu, vu, vu, vu, vu] [] S js) (yexp T tx (ynmR S0 sc) (decide (sc = 0)) O (12 - dp)) := by
  intro d hd
  have i := rFc_a (q := q) (js := js) (O := O) hu hT hR hRx hsc hno htx (12 - dp) dp (by omega)
  have sz := yfac_sz (nm := ynmR S0 sc) (decl := decide (sc = 0)) (O := O) hT hR htx (12 - dp) (by omega)
  exact r227a (O := O) hu hT hR sz.1 (yfac_lt _ (by omega)) (E := 5 + 7 * (12 - dp)) (by omega) i d (by omega)
/-- outside of expressions -/
def rN (T : yTk) (N u : Nat) (sc : Int) (S : yS) (t dp : Nat) (k : yRk) : Prop := rT S T N ∧ t < N ∧ gI S 44 = t ∧ gI S 47 = -1 ∧ gI S 46 = dp ∧ dp ≤ 12 ∧ gK S 2 = ru u ∧ gI S 50 = sc ∧ rC S u k
def rWo (q : yQ) (js : List xO) (T : yTk) (N u : Nat) (sc : Int) (S : yS) (dp : Nat) (k : yRk) (o : Option xRes) (r : yPr) : Prop := match r with
  | .inl p => k = none → ∃ S', o = ythr q (ystp 1 (Int32.ofInt (p : Nat))) S' js ∧ yFr (yWv u) S S'
  | .inr (t', _, m) => match k with
    | none => ∃ (S' : yS) (n : Nat), o = yret q (vi (n : Int)) S' js ∧ yFr (yWv u) S S' ∧ rN T N u sc S' t' dp none ∧ n ≤ 1
    | some (L, X) => match m with
      | .inl (n, p) => ∃ S', o = ythr q (ystp (Int32.ofInt (n : Nat)) (Int32.ofInt (p : Nat))) S' js ∧ yFr (yWv u) S S'
      | .inr x => ∃ S', o = yret q (vi ((ytyn x : Nat) : Int)) S' js ∧ yFr (yWv u) S S' ∧ rN T N u sc S' t' dp (some (L ++ (x.2.2.1 ++ [(30, 0)]), X ++ x.2.2.2.1))
theorem r226 (hu : u = 0 ∨ u = 1) (hT : yTo T N) (hR : yRoom T N Rm Rx s) (hRx : ∀ t, t < N → Rx t ≤ 2000) (hsc : sc = 0 ∨ sc = 1 ∨ sc = 2) (hno : rNo S0) (htx : ∀ t, t < N → (T t).1 = 64 → (tx ((T t).2.1 + 1) (T t).2.2.toInt.toNat).length ≤ (T t).2.2.toInt.toNat) (hz : yFr (yWv u) S0 S) (h : rN T N u sc S t dp k) (hc : rcap Rm Rx t 100 k) {base tb : Nat} (hbs : rbas base tb k) {d : Nat} (hd : 100 ≤ d) : rWo q js T N u sc S dp k (Y q (d + 1) 226 0 [vr 129, vu] [] S js) (yexp T tx (ynmR S0 sc) (decide (sc = 0)) O (12 - dp) base tb t 100) := by
  obtain ⟨h1, h2, h3, h4, h5, h6, h7, h8, h9⟩ := h
  have f1 : yFr (yWv u) S (sI S 47 100) := yFr_I (yWv_I (by omega))
  have hM : rM T N u sc (sI S 47 100) t 100 dp k := ⟨h1, h2, h3, rfl, by omega, h5, h6, h7, h8, rC_I h9 (by omega) (by omega) (by omega)⟩
  have sub := rEx_a (q := q) (js := js) (O := O) hu hT hR hRx hsc hno htx h6 d hd _ t 100 k (yFr_tr hz f1) hM hc base tb hbs
  have sub : rOut q js T N u sc (sI S 47 100) dp k (Y q d 227 0 [vr 129, vu, vu, vu, vu, vu] [] (sI S 47 100) js) (yexp T tx (ynmR S0 sc) (decide (sc = 0)) O (12 - dp) base tb t 100) := sub
  rw [w226_0]
  -- behind the expression
  have done : ∀ (S1 : yS) (t1 b1 : Nat) (k1 : yRk) (n : Int), yFr (yWv u) (sI S 47 100) S1 → rM T N u sc S1 t1 b1 dp k1 → (∀ L X, k1 = some (L, X) → L.length < 8000) → ∃ S2 : yS, YB q (yret q (vi n) S1 js) (d + 1) 226 7 [vr 129, vu] [] = yret q (vi n) S2 js ∧ yFr (yWv u) S S2 ∧ rN T N u sc S2 t1 dp (rkad k1 30 0) := by
    intro S1 t1 b1 k1 n fr hm hl
    have f3 : yFr (yWv u) S1 (sI S1 47 (-1)) := yFr_I (yWv_I (by omega))
    obtain ⟨m1, m2, m3, m4, m5, m6, m7, m8, m9, m10⟩ := hm
    rw [YB_ret, w226_10]
    match k1, m10, hl with
    | none, m10, hl =>
      have m10' : rC (sI S1 47 (-1)) u none := rC_I m10 (by omega) (by omega) (by omega)
      exact ⟨_, by rw [r234n m10'.1, YB_ret, w226_23], yFr_tr f1 (yFr_tr fr f3), m1, m2, m3, rfl, m6, m7, m8, m9, m10'⟩
    | some (L, X), m10, hl =>
      have hl := hl L X rfl
      have m10' : rC (sI S1 47 (-1)) u (some (L, X)) := rC_I m10 (by omega) (by omega) (by omega)
      obtain ⟨z1, z2, z3⟩ := m10'
      have e := z2.1
      have g1 : ∀ m, m ≠ 4 + u → gI (rem (sI S1 47 (-1)) u (30 : Nat) 0) m = gI (sI S1 47 (-1)) m := fun m hm => gI_ne _ _ _ hm
      have hr := r234 (q := q) (d := d) (js := js) (S := sI S1 47 (-1)) (u := u) (op := 30) (a := 0) hu m8 z1 (by omega)
      refine ⟨rem (sI S1 47 (-1)) u (30 : Nat) 0, by rw [hr, YB_ret, w226_23]; rfl, yFr_tr f1 (yFr_tr fr (yFr_tr f3 rem_fr)), rT_em hu m1, m2, ?_, ?_, ?_, m7, m8, ?_, ?_, rK_ad hu z2, rX_em hu z3⟩
      · rw [g1 _ (by omega)]; exact m3
      · rw [g1 _ (by omega)]; rfl
      · rw [g1 _ (by omega)]; exact m6
      · rw [g1 _ (by omega)]; exact m9
      · rw [g1 _ (by omega)]; exact z1
  match hp : yexp T tx (ynmR S0 sc) (decide (sc = 0)) O (12 - dp) base tb t 100 with
  | .inl p =>
    rw [hp] at sub
    intro hk
    obtain ⟨S', a1, a2⟩ := sub hk
    exact ⟨S', by rw [a1, t226], yFr_tr f1 a2⟩
  | .inr (t', b', m) =>
    rw [hp] at sub
    match k, sub with
    | none, sub =>
      obtain ⟨S1, n, a1, a2, a3, a4⟩ := sub
      obtain ⟨S2, c1, c2, c3⟩ := done S1 t' b' none n a2 a3 (fun L X e => nomatch e)
      exact ⟨S2, n, by rw [a1]; exact c1, c2, c3, a4⟩
    | some (L, X), sub =>
      match m, sub, hp with
      | .inl (n, p), sub, hp =>
        obtain ⟨S1, a1, a2⟩ := sub
        exact ⟨S1, by rw [a1, t226], yFr_tr f1 a2⟩
      | .inr x, sub, hp =>
        obtain ⟨S1, a1, a2, a3, a4⟩ := sub
        have sz := yfac_sz (nm := ynmR S0 sc) (decl := decide (sc = 0)) (O := O) hT hR htx (12 - dp) (by omega)
        obtain ⟨p1, p2, p3, p4, p5⟩ := sz.2.2.1 _ _ _ _ _ _ _ h2 hp
        obtain ⟨y1, y2, y3⟩ := p5 x rfl
        obtain ⟨cc1, cc2⟩ := hc L X rfl
        obtain ⟨S2, c1, c2, c3⟩ := done S1 t' b' _ ((ytyn x : Nat) : Int) a2 a3 (fun L' X' e => by
          injection e with e
          injection e with q1 q2
          rw [← q1, List.length_append]
          omega)
        have c3 : rN T N u sc S2 t' dp (some ((L ++ x.2.2.1) ++ [(30, 0)], X ++ x.2.2.2.1)) := c3
        rw [List.append_assoc] at c3
        exact ⟨S2, by rw [a1]; exact c1, c2, c3⟩
/-- the class, outside of expressions -/
def cNd (T : yTk) (N u : Nat) (S : yS) (m : yMo) : Prop := cT S T N ∧ cO S u ∧ match m with
  | .inl p => cD S p
  | .inr (t, b, .inl e) => cA S T N t b ∧ cE S (some e)
  | .inr (t, b, .inr (L, X)) => cA S T N t b ∧ cE S none ∧ cK S u L ∧ cX S u X
def yWy (u s k : Nat) : Bool := yWx u s k || (s == 2 && k == 1) || (s == 0 && k == 26)
/-- behind an expression: all the room again, and DONE -/
def ymdn (u : Nat) (m : yMo) : yMo := match m with
  | .inl p => .inl p
  | .inr (t, _, k) => yadm u (.inr (t, 1000000, k)) 30 0
def yrmx (m : yMo) : yMo := match m with
  | .inl p => .inl p
  | .inr (t, _, k) => .inr (t, 1000000, k)
theorem yWx_y {u : Nat} {S S' : yS} (h : yFr (yWx u) S S') : yFr (yWy u) S S' := yFr_mo h fun s k e => by
  unfold yWy at e
  simp only [Bool.or_eq_false_iff] at e
  exact e.1.1
theorem m51 {m : yMo} (hu : u = 0 ∨ u = 1) (hT : yTo T N) (hR : yRoom T N Rm Rx s) (hRx : ∀ t, t < N → Rx t ≤ 2000) (h12 : 0 ≤ gI S 12 ∧ gI S 12 ≤ 2000) (hw : w = 0 ∨ w = 1 ∨ w = 2) (h10 : 0 ≤ gI S 10 ∧ gI S 10 ≤ 8) (h8 : 0 ≤ gI S 8 ∧ gI S 8 ≤ 8) (h9 : 0 ≤ gI S 9 ∧ gI S 9 ≤ 8) (hl : ∀ t, t < N → (T t).1 = 64 → 0 ≤ (T t).2.2.toInt ∧ (T t).2.2.toInt ≤ 2000) (hdp : dp ≤ 12) (h : cNd T N u S m) {d : Nat} (hd : 170 ≤ d) (hbs : ∀ t b k, m = .inr (t, b, k) → ∃ base tb, ybs u Rm Rx base tb t 100 k) : ∃ (S' : yS) (r : Nat) (m' : yMo), Y q (d + 1) 51 0 [vr 116, vr (cu u), vi w, vi dp, vu] [] S js = yret q (vi (r : Int)) S' js ∧ yFr (yWy u) S S' ∧ cNd T N u S' m' ∧ r ≤ 1 ∧ (∀ p, m = .inl p → m' = .inl p) ∧ ∀ t b k, m = .inr (t, b, k) → ∀ base tb, ybs u Rm Rx base tb t 100 k → m' = ymdn u (ymode k (ytxb S) (yexp T (ytxb S) (ynmS S w) (decide (w = 1)) O (12 - dp) base tb t 100)) ∧ ∀ L X, k = .inr (L, X) → ∀ t' b' x, yexp T (ytxb S) (ynmS S w) (decide (w = 1)) O (12 - dp) base tb t 100 = .inr (t', b', .inr x) → r = ytyn x := by
  obtain ⟨S1, hS1⟩ : ∃ S1, S1 = sI (sI (sK S 1 (cu u)) 26 w) 15 100 := ⟨_, rfl⟩
  have gi : ∀ j, j ≠ 26 → j ≠ 15 → gI S1 j = gI S j := fun j z1 z2 => by
    rw [hS1]
    exact (gI_ne _ _ _ z2).trans (gI_ne _ _ _ z1)
  have ga : gA S1 = gA S := by rw [hS1]; rfl
  have gb : gB S1 = gB S := by rw [hS1]; rfl
  have gc : gC S1 = gC S := by rw [hS1]; rfl
  have gj : gJ S1 = gJ S := by rw [hS1]; rfl
  have gk0 : gK S1 0 = gK S 0 := by rw [hS1]; rfl
  have gk1 : gK S1 1 = cu u := by rw [hS1]; rfl
  have g26 : gI S1 26 = w := by rw [hS1]; rfl
  have g15 : gI S1 15 = 100 := by rw [hS1]; rfl
  have f1 : yFr (yWy u) S S1 := by
    rw [hS1]
    exact yFr_tr (yFr_K (by unfold yWy; simp)) (yFr_tr (yFr_I (by unfold yWy; simp)) (yFr_I (by unfold yWy yWx yWk; simp)))
  have key : Y q (d + 1) 51 0 [vr 116, vr (cu u), vi w, vi dp, vu] [] S js = YB q (Y q d 52 0 [vr 116, vi 0, vi dp, vu, vu, vu] [] S1 js) (d + 1) 51 22 [vr 116, vr (cu u), vi w, vi dp, vu] [] := by
    rw [hS1]
    rcases hu with rfl | rfl
    · exact w51b_0 ..
    · exact w51_0 ..
  -- the tail
  have tail : ∀ (S2 : yS) (r : Nat) (m2 : yMo), r ≤ 2 → yFr (yWx u) S1 S2 → cM T N u w S2 m2 → ∃ S' : yS, YB q (yret q (vi (r : Int)) S2 js) (d + 1) 51 22 [vr 116, vr (cu u), vi w, vi dp, vu] [] = yret q (vi ((if r = 1 then 1 else 0 : Nat) : Int)) S' js ∧ yFr (yWy u) S S' ∧ cNd T N u S' (ymdn u m2) := by
    intro S2 r m2 hr f2 h2
    have f3 : yFr (yWx u) S2 (sI S2 15 1000000) := yFr_I (by unfold yWx yWk; simp)
    -- the mode with all the room
    have h3 : cM T N u w (sI S2 15 1000000) (yrmx m2) := by
      obtain ⟨c1, c2, c3, c4, c5⟩ := h2
      have cO' : cO (sI S2 15 1000000) u := by
        obtain ⟨o1, o2, o3, o4, o5⟩ := c2
        have a1 : gI (sI S2 15 1000000) u = gI S2 u := gI_ne _ _ _ (by omega)
        have a2 : gI (sI S2 15 1000000) (2 + u) = gI S2 (2 + u) := gI_ne _ _ _ (by omega)
        exact ⟨by rw [a1]; exact o1, by rw [a1]; exact o2, by rw [a2]; exact o3, by rw [a2]; exact o4, fun k hk => o5 k (by rw [a2] at hk; exact hk)⟩
      have kA : ∀ t b, cA S2 T N t b → cA (sI S2 15 1000000) T N t 1000000 := fun t b hA => ⟨c1, hA.2.1, hA.2.2.1, rfl, by omega, hA.2.2.2.2.2.1, hA.2.2.2.2.2.2.1, hA.2.2.2.2.2.2.2⟩
      have kE : ∀ e, cE S2 e → cE (sI S2 15 1000000) e := fun e he => by
        match e, he with
        | none, he => exact he
        | some (n, p), he => exact he
      refine ⟨c1, cO', c3, c4, ?_⟩
      match m2, c5 with
      | .inl p, c5 => exact c5
      | .inr (t, b, .inl e), c5 => exact ⟨kA t b c5.1, kE _ c5.2⟩
      | .inr (t, b, .inr (L, X)), c5 =>
        have a1 : gI (sI S2 15 1000000) u = gI S2 u := gI_ne _ _ _ (by omega)
        have a2 : gI (sI S2 15 1000000) (2 + u) = gI S2 (2 + u) := gI_ne _ _ _ (by omega)
        exact ⟨kA t b c5.1, kE _ c5.2.1, ⟨a1.trans c5.2.2.1.1, c5.2.2.1.2⟩, ⟨a2.trans c5.2.2.2.1, c5.2.2.2.2⟩⟩
    obtain ⟨S4, r4, a1, a2, a3, a4, a5⟩ := madd (q := q) (d := d) (js := js) hu h3 30 0
    have a1 : Y q d 20 0 [vr (cu u), vi 30, vj 0, vu, vu] [] (sI S2 15 1000000) js = yret q (vi r4) S4 js := a1
    have er : yr (r : Int) = r := yr_eq (by omega) (by omega)
    have e1 : yr 1 = 1 := rfl
    have st : YB q (yret q (vi (r : Int)) S2 js) (d + 1) 51 22 [vr 116, vr (cu u), vi w, vi dp, vu] [] = YB q (Y q d 20 0 [vr (cu u), vi 30, vj 0, vu, vu] [] (sI S2 15 1000000) js) (d + 1) 51 43 [vr 116, vr (cu u), vi w, vi dp, vi r] [] := by
      have hk := h2.2.2.1
      rw [YB_ret]
      rcases hu with rfl | rfl
      · have hk : gK S2 1 = 101 := hk
        show Y q (d + 1) 51 25 [vr 116, vr 101, vi w, vi dp, vu] [vi r] S2 js = _
        rw [w51b_25, if_pos hk, w51b_40]
        rfl
      · have hk : gK S2 1 = 111 := hk
        show Y q (d + 1) 51 25 [vr 116, vr 111, vi w, vi dp, vu] [vi r] S2 js = _
        rw [w51_25, if_neg (by omega), if_pos hk, w51_40x]
        rfl
    have last : Y q (d + 1) 51 46 [vr 116, vr (cu u), vi w, vi dp, vi r] [vi r4] S4 js = yret q (vi ((if r = 1 then 1 else 0 : Nat) : Int)) S4 js := by
      rcases hu with rfl | rfl
      · show Y q (d + 1) 51 46 [vr 116, vr 101, vi w, vi dp, vi r] [vi r4] S4 js = _
        rw [w51b_46, er, e1]
        by_cases z : r = 1
        · rw [if_pos (by omega), if_pos (by omega), if_pos z]
          rfl
        · rw [if_neg (by omega), if_pos (by decide), if_neg z]
          rfl
      · show Y q (d + 1) 51 46 [vr 116, vr 111, vi w, vi dp, vi r] [vi r4] S4 js = _
        rw [w51_46, er, e1]
        by_cases z : r = 1
        · rw [if_pos (by omega), if_pos (by omega), if_pos z]
          rfl
        · rw [if_neg (by omega), if_pos (by decide), if_neg z]
          rfl
    have ed : yadm u (yrmx m2) 30 0 = ymdn u m2 := by
      match m2 with
      | .inl p => rfl
      | .inr (t, b, k) => rfl
    rw [ed] at a4
    refine ⟨S4, by rw [st, a1, YB_ret, last], yFr_tr f1 (yWx_y (yFr_tr f2 (yFr_tr f3 a2))), a4.1, a4.2.1, ?_⟩
    match ymdn u m2, a4.2.2.2.2 with
    | .inl p, z => exact z
    | .inr (t, b, .inl e), z => exact z
    | .inr (t, b, .inr (L, X)), z => exact z
  -- the state at the expression
  have cO1 : cO S1 u := by
    obtain ⟨o1, o2, o3, o4, o5⟩ := h.2.1
    exact ⟨by rw [gi u (by omega) (by omega)]; exact o1, by rw [gi u (by omega) (by omega)]; exact o2, by rw [gi (2 + u) (by omega) (by omega)]; exact o3, by rw [gi (2 + u) (by omega) (by omega)]; exact o4, fun k hk => by rw [ga]; exact o5 k (by rw [gi (2 + u) (by omega) (by omega)] at hk; exact hk)⟩
  have cT1 : cT S1 T N := ⟨fun j hj => by rw [ga, gb, gc]; exact h.1.1 j hj, by rw [gi 13 (by omega) (by omega)]; exact h.1.2.1, by rw [gi 13 (by omega) (by omega)]; exact h.1.2.2⟩
  have cv := cLv_a (q := q) (js := js) (S0 := S1) (w := w) (O := O) hu hT hR hRx (by rw [gi 12 (by omega) (by omega)]; exact h12) hw (by rw [gi 10 (by omega) (by omega)]; exact h10) (by rw [gi 8 (by omega) (by omega)]; exact h8) (by rw [gi 9 (by omega) (by omega)]; exact h9) hl hdp
  have etx : ytxb S1 = ytxb S := by
    funext p n
    unfold ytxb tbl tb
    rw [ga, gi 12 (by omega) (by omega)]
  have enm : ynmS S1 w = ynmS S w := by
    funext v
    unfold ynmS
    rw [ga, gb, gi 10 (by omega) (by omega), gi 8 (by omega) (by omega), gi 9 (by omega) (by omega)]
  rw [etx, enm] at cv
  have sub := cv.1 d hd
  match m, h, hbs with
  | .inl p, h, hbs =>
    have hD := h.2.2
    have hM : cM T N u w S1 (.inl p) := ⟨cT1, cO1, gk1, g26, by rw [gk0]; exact hD.1, by rw [gi 16 (by omega) (by omega)]; exact hD.2.1, by rw [gi 17 (by omega) (by omega), gi 18 (by omega) (by omega)]; exact hD.2.2.1, by rw [gi 17 (by omega) (by omega)]; exact hD.2.2.2.1, by rw [gi 17 (by omega) (by omega)]; exact hD.2.2.2.2⟩
    obtain ⟨S2, r, m2, a1, a2, a3, a4, a5, a6⟩ := sub S1 (.inl p) (yFr_rf _ _) hM (fun t b k e => nomatch e)
    have := a5 p rfl
    subst this
    obtain ⟨S', b1, b2, b3⟩ := tail S2 r (.inl p) a4 a2 a3
    have a1 : Y q d 52 0 [vr 116, vi 0, vi dp, vu, vu, vu] [] S1 js = yret q (vi r) S2 js := a1
    exact ⟨S', _, .inl p, by rw [key, a1]; exact b1, b2, b3, by split <;> omega, fun p' hp' => hp', fun t b k e => nomatch e⟩
  | .inr (t, b, k), h, hbs =>
    have hA : cA S T N t b ∧ cE S (yke k) := by
      match k, h with
      | .inl e, h => exact h.2.2
      | .inr (L, X), h => exact ⟨h.2.2.1, h.2.2.2.1⟩
    obtain ⟨hA, hE⟩ := hA
    have hA1 : cA S1 T N t 100 := ⟨cT1, hA.2.1, by rw [gi 14 (by omega) (by omega)]; exact hA.2.2.1, g15, by omega, by rw [gk0]; exact hA.2.2.2.2.2.1, by rw [gi 16 (by omega) (by omega)]; exact hA.2.2.2.2.2.2.1, by rw [gj]; exact hA.2.2.2.2.2.2.2⟩
    have hM : cM T N u w S1 (.inr (t, 100, k)) := by
      refine ⟨cT1, cO1, gk1, g26, ?_⟩
      match k, h, hE with
      | .inl (n, p), h, hE => exact ⟨hA1, by rw [gi 17 (by omega) (by omega)]; exact hE.1, by rw [gi 18 (by omega) (by omega)]; exact hE.2.1, hE.2.2⟩
      | .inr (L, X), h, hE =>
        refine ⟨hA1, ?_, ⟨by rw [gi u (by omega) (by omega)]; exact h.2.2.2.2.1.1, fun j x hj => by rw [ga, gb]; exact h.2.2.2.2.1.2 j x hj⟩, ⟨by rw [gi (2 + u) (by omega) (by omega)]; exact h.2.2.2.2.2.1, fun j hj => by rw [ga]; exact h.2.2.2.2.2.2.1 j hj, fun j l i y hj hi => by rw [ga]; exact h.2.2.2.2.2.2.2 j l i y hj hi⟩⟩
        show gI S1 17 = 0 ∧ gI S1 18 = -1
        rw [gi 17 (by omega) (by omega), gi 18 (by omega) (by omega)]
        exact hE
    obtain ⟨base0, tb0, hb0⟩ := hbs t b k rfl
    obtain ⟨S2, r, m2, a1, a2, a3, a4, a5, a6⟩ := sub S1 _ (yFr_rf _ _) hM (fun t' b' k' e => by
      injection e with e
      injection e with e1 e
      injection e with e2 e3
      subst e1
      subst e2
      subst e3
      exact ⟨base0, tb0, hb0⟩)
    have a1 : Y q d 52 0 [vr 116, vi 0, vi dp, vu, vu, vu] [] S1 js = yret q (vi r) S2 js := a1
    obtain ⟨S', b1, b2, b3⟩ := tail S2 r m2 a4 a2 a3
    refine ⟨S', _, ymdn u m2, by rw [key, a1]; exact b1, b2, b3, by split <;> omega, (fun p' hp' => nomatch hp'), fun t' b' k' e base tb hb => ?_⟩
    injection e with e
    injection e with e1 e
    injection e with e2 e3
    subst e1
    subst e2
    subst e3
    obtain ⟨g1, g2⟩ := a6 t 100 k rfl base tb hb
    refine ⟨by rw [g1], fun L X hk t' b' x hx => ?_⟩
    have hr := g2 L X hk t' b' x hx
    unfold ytyn
    by_cases z : x.1 = true
    · rw [if_pos z, if_pos (by rw [hr]; exact yty_1 z)]
    · rw [if_neg z, if_neg (by rw [hr]; exact yty_n1 z)]
end YWHL
end YWH
