/-! taken from whole by wip/p27/slice2.py: 63.both.lean.txt -/
section YBO
/-- a call that reads an operand: what it makes of a mode -/
def yTexts (tx : Nat → Nat → List Int) (txs : List (Nat × Nat)) : List (List Int) := txs.map fun p => tx p.1 p.2
def ykm (k : yK9) (tx : Nat → Nat → List Int) (m : yMn) : yK9 := match k, m with
  | .inl e, _ => .inl e
  | .inr _, .inl e => .inl e
  | .inr (L, X), .inr x => .inr (L ++ x.2.2.1, X ++ yTexts tx x.2.2.2.1)
def ymode (k : yK9) (tx : Nat → Nat → List Int) (r : yPr) : yMo := match r with
  | .inl p => .inl p
  | .inr (t, b, m) => .inr (t, b, ykm k tx m)
/-- form: 1 text, 2 a known number, 0 a number -/
def yty (x : yX) : Nat := if x.1 = true then 1 else match x.2.1 with
  | some _ => 2
  | none => 0
/-- what is known of a mode before an operand is read: where its code and texts end, that there is room -/
def ybs (u : Nat) (Rm : Nat → Nat → Nat) (Rx : Nat → Nat) (base tb t b : Nat) (k : yK9) : Prop := ∀ L X, k = .inr (L, X) → base = L.length ∧ tb = X.length ∧ ((L.length + Rm t b : Nat) : Int) ≤ capu u ∧ ysl X X.length + 2 * X.length ≤ Rx t
/-- the mode after it; the form that it answers -/
def ysf (u : Nat) (Rm : Nat → Nat → Nat) (Rx : Nat → Nat) (tx : Nat → Nat → List Int) (P : Nat → Nat → Nat → Nat → yPr) (N : Nat) (m m' : yMo) (r : Nat) : Prop := r ≤ 2 ∧ (∀ p, m = .inl p → m' = .inl p) ∧ ∀ t b k, m = .inr (t, b, k) → ∀ base tb, ybs u Rm Rx base tb t b k → m' = ymode k tx (P base tb t b) ∧ ∀ L X, k = .inr (L, X) → ∀ t' b' x, P base tb t b = .inr (t', b', .inr x) → r = yty x
/-- a call keeps it -/
def cSub (q : yQ) (js : List xO) (S0 : yS) (T : yTk) (N u : Nat) (w : Int) (Rm : Nat → Nat → Nat) (Rx : Nat → Nat) (tx : Nat → Nat → List Int) (F : yS → Option xRes) (P : Nat → Nat → Nat → Nat → yPr) : Prop := ∀ S m, yFr (yWx u) S0 S → cM T N u w S m → (∀ t b k, m = .inr (t, b, k) → ∃ base tb, ybs u Rm Rx base tb t b k) → ∃ (S' : yS) (r : Nat) (m' : yMo), F S = yret q (vi (r : Int)) S' js ∧ yFr (yWx u) S S' ∧ cM T N u w S' m' ∧ ysf u Rm Rx tx P N m m' r
/-- the place at which a mode stands -/
theorem cM_pl {T : yTk} {N u : Nat} {w : Int} {S : yS} {m : yMo} (h : cM T N u w S m) : ∃ pl : Nat, gI S 16 = pl ∧ ∀ t b k, m = .inr (t, b, k) → pl = (T t).2.1 := by
  match m, h with
  | .inl p, h => exact ⟨p, h.2.2.2.2.2.1, fun t b k e => nomatch e⟩
  | .inr (t, b, k), h => exact ⟨(T t).2.1, (cM_A h).1.2.2.2.2.2.2.1, fun t' b' k' e => by cases e; rfl⟩
section YBOL
variable {q : yQ} {d : Nat} {js : List xO} {S0 S : yS} {T : yTk} {N u : Nat} {w : Int} {Rm : Nat → Nat → Nat} {Rx : Nat → Nat} {tx : Nat → Nat → List Int}
/-- or -/
theorem m63 {m : yMo} {P : Nat → Nat → Nat → Nat → yPr} {x rd : Nat} (hu : u = 0 ∨ u = 1) (hT : yTo T N) (h : cM T N u w S m) (hz : yFr (yWx u) S0 S) (hk : ∀ t b k, m = .inr (t, b, k) → (T t).1 ≤ 64) (hx : x ≤ 2) (hs : cSub q js S0 T N u w Rm Rx tx (fun S => Y q (d + 1) 52 0 [vr 122, vi 1, vi rd, vu, vu, vu] [] S js) P) (hb : ∀ r1, (∀ t b L X, ynx T m = .inr (t, b, .inr (L, X)) → r1 = L.length) → ∀ t b k, ycode (yadm u (yadm u (yadm u (ynx T m) 29 0) 0 1) 28 0) (yset r1) = .inr (t, b, k) → ∃ base tb, ybs u Rm Rx base tb t b k) : ∃ (S' : yS) (r1 r4 r6 pl : Nat) (m6 : yMo), Y q (d + 2) 63 0 [vr 122, vi x, vi rd, vu, vu, vu, vu] [] S js = yret q (vi 0) S' js ∧ yFr (yWx u) S S' ∧ cM T N u w S' (ywn (ycode (yadm u (yadm u m6 18 0) 18 0) (yset r4)) x r6 pl) ∧ (∀ t b k, m = .inr (t, b, k) → pl = (T t).2.1) ∧ (∀ t b L X, ynx T m = .inr (t, b, .inr (L, X)) → r1 = L.length) ∧ (∀ t b L X, yadm u (yadm u (ynx T m) 29 0) 0 1 = .inr (t, b, .inr (L, X)) → r4 = L.length) ∧ ysf u Rm Rx tx P N (ycode (yadm u (yadm u (yadm u (ynx T m) 29 0) 0 1) 28 0) (yset r1)) m6 r6 := by
  obtain ⟨pl, p1, p2⟩ := cM_pl h
  obtain ⟨S1, a1, f1, h1⟩ := mnext (q := q) (d := d + 1) (js := js) hu hT h hk
  obtain ⟨S2, r1, a2, f2, q2, h2, i2⟩ := madd (q := q) (d := d + 1) (js := js) hu h1 29 0
  obtain ⟨S3, r3, a3, f3, q3, h3, i3⟩ := madd (q := q) (d := d + 1) (js := js) hu h2 0 1
  obtain ⟨S4, r4, a4, f4, q4, h4, i4⟩ := madd (q := q) (d := d + 1) (js := js) hu h3 28 0
  obtain ⟨S5, a5, f5, h5⟩ := maim (q := q) (d := d + 1) (js := js) hu h4 q2
  obtain ⟨S6, r6, m6, a6, f6, h6, s6⟩ := hs S5 _ (yFr_tr hz (yFr_tr (yWk_x f1) (yFr_tr f2 (yFr_tr f3 (yFr_tr f4 f5))))) h5 (hb r1 i2)
  obtain ⟨S7, r7, a7, f7, q7, h7, i7⟩ := madd (q := q) (d := d + 1) (js := js) hu h6 18 0
  obtain ⟨S8, r8, a8, f8, q8, h8, i8⟩ := madd (q := q) (d := d + 1) (js := js) hu h7 18 0
  obtain ⟨S9, a9, f9, h9⟩ := maim (q := q) (d := d + 1) (js := js) hu h8 q4
  obtain ⟨S10, a10, f10, h10⟩ := mwant (q := q) (d := d) (js := js) (x := x) (y := r6) (p := pl) hu h9 hx s6.1
  have a2 : Y q (d + 1) 20 0 [vr (cu u), vi 29, vj 0, vu, vu] [] S1 js = yret q (vi r1) S2 js := a2
  have a3 : Y q (d + 1) 20 0 [vr (cu u), vi 0, vj 1, vu, vu] [] S2 js = yret q (vi r3) S3 js := a3
  have a4 : Y q (d + 1) 20 0 [vr (cu u), vi 28, vj 0, vu, vu] [] S3 js = yret q (vi r4) S4 js := a4
  have a6 : Y q (d + 1) 52 0 [vr 122, vi 1, vi rd, vu, vu, vu] [] S5 js = yret q (vi r6) S6 js := a6
  have a7 : Y q (d + 1) 20 0 [vr (cu u), vi 18, vj 0, vu, vu] [] S6 js = yret q (vi r7) S7 js := a7
  have a8 : Y q (d + 1) 20 0 [vr (cu u), vi 18, vj 0, vu, vu] [] S7 js = yret q (vi r8) S8 js := a8
  refine ⟨S10, r1, r4, r6, pl, m6, ?_, ?_, h10, p2, i2, i4, s6⟩
  · rw [w63_0, a1, YB_retv, v63_15 hu h1.2.2.1, a2, YB_ret, v63_25 hu h2.2.2.1, a3, YB_ret, v63_36 hu h3.2.2.1, a4, YB_ret, v63_47 hu h4.2.2.1, a5, YB_retv, w63_58, a6, YB_ret, v63_64 hu h6.2.2.1, a7, YB_ret, v63_76 hu h7.2.2.1, a8, YB_ret, v63_87 hu h8.2.2.1, a9, YB_retv, w63_97, p1, a10, YB_ret, w63_105]
  · exact yFr_tr (yWk_x f1) (yFr_tr f2 (yFr_tr f3 (yFr_tr f4 (yFr_tr f5 (yFr_tr f6 (yFr_tr f7 (yFr_tr f8 (yFr_tr f9 (yWk_x f10)))))))))
/-- and -/
theorem m64 {m : yMo} {P : Nat → Nat → Nat → Nat → yPr} {x rd : Nat} (hu : u = 0 ∨ u = 1) (hT : yTo T N) (h : cM T N u w S m) (hz : yFr (yWx u) S0 S) (hk : ∀ t b k, m = .inr (t, b, k) → (T t).1 ≤ 64) (hx : x ≤ 2) (hs : cSub q js S0 T N u w Rm Rx tx (fun S => Y q (d + 1) 52 0 [vr 122, vi 2, vi rd, vu, vu, vu] [] S js) P) (hb : ∀ t b k, yadm u (ynx T m) 29 0 = .inr (t, b, k) → ∃ base tb, ybs u Rm Rx base tb t b k) : ∃ (S' : yS) (r1 r3 r5 r6 pl : Nat) (m6 : yMo), Y q (d + 2) 64 0 [vr 122, vi x, vi rd, vu, vu, vu, vu, vu] [] S js = yret q (vi 0) S' js ∧ yFr (yWx u) S S' ∧ cM T N u w S' (ywn (ycode (yadm u (ycode (ycode (yadm u (yadm u (yadm u m6 29 0) 0 1) 28 0) (yset r1)) (yset r3)) 0 0) (yset r5)) x r6 pl) ∧ (∀ t b k, m = .inr (t, b, k) → pl = (T t).2.1) ∧ (∀ t b L X, ynx T m = .inr (t, b, .inr (L, X)) → r1 = L.length) ∧ (∀ t b L X, m6 = .inr (t, b, .inr (L, X)) → r3 = L.length) ∧ (∀ t b L X, yadm u (yadm u m6 29 0) 0 1 = .inr (t, b, .inr (L, X)) → r5 = L.length) ∧ ysf u Rm Rx tx P N (yadm u (ynx T m) 29 0) m6 r6 := by
  obtain ⟨pl, p1, p2⟩ := cM_pl h
  obtain ⟨S1, a1, f1, h1⟩ := mnext (q := q) (d := d + 1) (js := js) hu hT h hk
  obtain ⟨S2, r1, a2, f2, q2, h2, i2⟩ := madd (q := q) (d := d + 1) (js := js) hu h1 29 0
  obtain ⟨S6, r6, m6, a6, f6, h6, s6⟩ := hs S2 _ (yFr_tr hz (yFr_tr (yWk_x f1) f2)) h2 hb
  obtain ⟨S3, r3, a3, f3, q3, h3, i3⟩ := madd (q := q) (d := d + 1) (js := js) hu h6 29 0
  obtain ⟨S4, r4, a4, f4, q4, h4, i4⟩ := madd (q := q) (d := d + 1) (js := js) hu h3 0 1
  obtain ⟨S5, r5, a5, f5, q5, h5, i5⟩ := madd (q := q) (d := d + 1) (js := js) hu h4 28 0
  obtain ⟨S7, a7, f7, h7⟩ := maim (q := q) (d := d + 1) (js := js) hu h5 q2
  obtain ⟨S8, a8, f8, h8⟩ := maim (q := q) (d := d + 1) (js := js) hu h7 q3
  obtain ⟨S9, r9, a9, f9, q9, h9, i9⟩ := madd (q := q) (d := d + 1) (js := js) hu h8 0 0
  obtain ⟨S10, a10, f10, h10⟩ := maim (q := q) (d := d + 1) (js := js) hu h9 q5
  obtain ⟨S11, a11, f11, h11⟩ := mwant (q := q) (d := d) (js := js) (x := x) (y := r6) (p := pl) hu h10 hx s6.1
  have a2 : Y q (d + 1) 20 0 [vr (cu u), vi 29, vj 0, vu, vu] [] S1 js = yret q (vi r1) S2 js := a2
  have a6 : Y q (d + 1) 52 0 [vr 122, vi 2, vi rd, vu, vu, vu] [] S2 js = yret q (vi r6) S6 js := a6
  have a3 : Y q (d + 1) 20 0 [vr (cu u), vi 29, vj 0, vu, vu] [] S6 js = yret q (vi r3) S3 js := a3
  have a4 : Y q (d + 1) 20 0 [vr (cu u), vi 0, vj 1, vu, vu] [] S3 js = yret q (vi r4) S4 js := a4
  have a5 : Y q (d + 1) 20 0 [vr (cu u), vi 28, vj 0, vu, vu] [] S4 js = yret q (vi r5) S5 js := a5
  have a9 : Y q (d + 1) 20 0 [vr (cu u), vi 0, vj 0, vu, vu] [] S8 js = yret q (vi r9) S9 js := a9
  refine ⟨S11, r1, r3, r5, r6, pl, m6, ?_, ?_, h11, p2, i2, i3, i5, s6⟩
  · rw [w64_0, a1, YB_retv, v64_15 hu h1.2.2.1, a2, YB_ret, w64_25, a6, YB_ret, v64_33 hu h6.2.2.1, a3, YB_ret, v64_45 hu h3.2.2.1, a4, YB_ret, v64_56 hu h4.2.2.1, a5, YB_ret, v64_67 hu h5.2.2.1, a7, YB_retv, v64_78 hu h7.2.2.1, a8, YB_retv, v64_87 hu h8.2.2.1, a9, YB_ret, v64_96 hu h9.2.2.1, a10, YB_retv, w64_106, p1, a11, YB_ret, w64_114]
  · exact yFr_tr (yWk_x f1) (yFr_tr f2 (yFr_tr f6 (yFr_tr f3 (yFr_tr f4 (yFr_tr f5 (yFr_tr f7 (yFr_tr f8 (yFr_tr f9 (yFr_tr f10 (yWk_x f11))))))))))
/-- the kind at which a mode stands -/
theorem cM_kd {T : yTk} {N u t b : Nat} {w : Int} {S : yS} {k : yK9} (h : cM T N u w S (.inr (t, b, k))) : gK S 0 = (T t).1 ∧ gI S 16 = (T t).2.1 ∧ t < N := ⟨(cM_A h).1.2.2.2.2.2.1, (cM_A h).1.2.2.2.2.2.2.1, (cM_A h).1.2.1⟩
theorem ykop : ∀ kd : Nat, kd < 67 → 2 ≤ yKr kd ∧ yKr kd ≤ 4 → kd ≠ 56 → 6 ≤ yop kd ∧ yop kd ≤ 19 ∧ yop kd ≠ 11 ∧ yKn kd = (yop kd : Nat) := by decide
theorem yk64 : ∀ kd : Nat, kd < 67 → 0 ≤ yKr kd ∧ yKr kd ≤ 4 → kd ≤ 64 := by decide
/-- & -/
theorem m65a {t b : Nat} {k : yK9} {P : Nat → Nat → Nat → Nat → yPr} {x rd lv : Nat} (hu : u = 0 ∨ u = 1) (hT : yTo T N) (h : cM T N u w S (.inr (t, b, k))) (hz : yFr (yWx u) S0 S) (h56 : (T t).1 = 56) (hx : x ≤ 2) (hs : cSub q js S0 T N u w Rm Rx tx (fun S => Y q (d + 1) 52 0 [vr 122, vi ((lv : Int) + 1), vi rd, vu, vu, vu] [] S js) P) (hb : ∀ t' b' k', (if x = 1 then ynx T (.inr (t, b, k)) else yadm u (ynx T (.inr (t, b, k))) 23 0) = .inr (t', b', k') → ∃ base tb, ybs u Rm Rx base tb t' b' k') : ∃ (S' : yS) (r6 : Nat) (m6 : yMo), Y q (d + 2) 65 0 [vr 122, vi lv, vi x, vi rd, vu, vu, vu] [] S js = yret q (vi 1) S' js ∧ yFr (yWx u) S S' ∧ cM T N u w S' (yadm u (if r6 = 1 then m6 else yadm u m6 23 0) 11 0) ∧ ysf u Rm Rx tx P N (if x = 1 then ynx T (.inr (t, b, k)) else yadm u (ynx T (.inr (t, b, k))) 23 0) m6 r6 := by
  obtain ⟨k1, k2, k3⟩ := cM_kd h
  obtain ⟨S1, a1, f1, h1⟩ := mnext (q := q) (d := d + 1) (js := js) hu hT h (fun t' b' k' e => by cases e; omega)
  obtain ⟨S2, a2, f2, h2⟩ := mtext (q := q) (d := d) (js := js) hu h1 hx
  obtain ⟨S6, r6, m6, a6, f6, h6, s6⟩ := hs S2 _ (yFr_tr hz (yFr_tr (yWk_x f1) f2)) h2 hb
  obtain ⟨S7, a7, f7, h7⟩ := mtext (q := q) (d := d) (js := js) hu h6 s6.1
  obtain ⟨S8, r8, a8, f8, q8, h8, i8⟩ := madd (q := q) (d := d + 1) (js := js) hu h7 11 0
  have a6 : Y q (d + 1) 52 0 [vr 122, vi ((lv : Int) + 1), vi rd, vu, vu, vu] [] S2 js = yret q (vi r6) S6 js := a6
  have a8 : Y q (d + 1) 20 0 [vr (cu u), vi 11, vj 0, vu, vu] [] S7 js = yret q (vi r8) S8 js := a8
  refine ⟨S8, r6, m6, ?_, ?_, h8, s6⟩
  · rw [w65_0, a1, YB_retv, w65_25, k1, h56, if_pos ⟨by omega, by omega⟩, if_pos rfl, a2, YB_retv, w65_38, a6, YB_ret, w65_46, if_pos ⟨by omega, by omega⟩, if_pos rfl, a7, YB_retv, v65_62 hu h7.2.2.1, a8, YB_ret, w65_72]
  · exact yFr_tr (yWk_x f1) (yFr_tr f2 (yFr_tr f6 (yFr_tr f7 f8)))
/-- the other operators -/
theorem m65b {t b : Nat} {k : yK9} {P : Nat → Nat → Nat → Nat → yPr} {x rd lv : Nat} (hu : u = 0 ∨ u = 1) (hT : yTo T N) (h : cM T N u w S (.inr (t, b, k))) (hz : yFr (yWx u) S0 S) (h56 : (T t).1 ≠ 56) (hl : yKr (T t).1 = lv) (hl2 : 2 ≤ lv ∧ lv ≤ 4) (hx : x ≤ 2) (hs : cSub q js S0 T N u w Rm Rx tx (fun S => Y q (d + 1) 52 0 [vr 122, vi ((lv : Int) + 1), vi rd, vu, vu, vu] [] S js) P) (hb : ∀ t' b' k', ynx T (.inr (t, b, k)) = .inr (t', b', k') → ∃ base tb, ybs u Rm Rx base tb t' b' k') : ∃ (S' : yS) (r r6 : Nat) (m6 m7 m' : yMo), Y q (d + 2) 65 0 [vr 122, vi lv, vi x, vi rd, vu, vu, vu] [] S js = yret q (vi r) S' js ∧ yFr (yWx u) S S' ∧ r ≤ 2 ∧ cM T N u w S' m' ∧ ysf u Rm Rx tx P N (ynx T (.inr (t, b, k))) m6 r6 ∧ m7 = (if lv = 2 ∧ x = 1 ∧ r6 = 1 then m6 else ywn m6 x r6 (T t).2.1) ∧ (¬ (x = 2 ∧ r6 = 2) → m' = yadm u m7 (yop (T t).1) 0 ∧ r = 0) ∧ (x = 2 ∧ r6 = 2 → (∀ p, m7 = .inl p → m' = m7) ∧ (∀ t b e, m7 = .inr (t, b, .inl e) → m' = m7) ∧ ∀ t' b' A a c X, m7 = .inr (t', b', .inr (A ++ [(0, a), (0, c)], X)) → if (yop (T t).1 = 9 ∨ yop (T t).1 = 10) ∧ c = 0 then m' = yadm u m7 (yop (T t).1) 0 ∧ r = 0 else m' = .inr (t', b', .inr (A ++ [(0, ycal (yop (T t).1) a c)], X)) ∧ r = 2) := by
  obtain ⟨k1, k2, k3⟩ := cM_kd h
  have h67 := (hT.2.2.2.2 t k3).2
  have h64 := yk64 _ h67 (by omega)
  obtain ⟨o1, o2, o3, o4⟩ := ykop _ h67 (by omega) h56
  obtain ⟨S1, a1, f1, h1⟩ := mnext (q := q) (d := d + 1) (js := js) hu hT h (fun t' b' k' e => by cases e; exact h64)
  obtain ⟨S6, r6, m6, a6, f6, h6, s6⟩ := hs S1 _ (yFr_tr hz (yWk_x f1)) h1 hb
  have a6 : Y q (d + 1) 52 0 [vr 122, vi ((lv : Int) + 1), vi rd, vu, vu, vu] [] S1 js = yret q (vi r6) S6 js := a6
  have el : yr (lv : Int) = lv := yr_eq (by omega) (by omega)
  have ex : yr (x : Int) = x := yr_eq (by omega) (by omega)
  have e6 : yr (r6 : Int) = r6 := by have := s6.1; exact yr_eq (by omega) (by omega)
  have e1 : yr 1 = 1 := rfl
  have e2 : yr 2 = 2 := rfl
  by_cases z : lv = 2 ∧ x = 1 ∧ r6 = 1
  · obtain ⟨S7, r, m', a7, f7, q7, h7, g1, g2⟩ := mcomb (q := q) (d := d) (js := js) hu h6 hx s6.1 ⟨o1, o2, o3⟩
    refine ⟨S7, r, r6, m6, m6, m', ?_, yFr_tr (yWk_x f1) (yFr_tr f6 f7), q7, h7, s6, (if_pos z).symm, g1, g2⟩
    rw [w65_0, a1, YB_retv, w65_25, k1, if_pos ⟨h67, by omega⟩, if_neg h56, a6, YB_ret, w65_46, if_pos ⟨h67, by omega⟩, if_neg h56, el, ex, e6, e1, e2, if_pos (by omega), if_pos (by omega), if_pos (by omega), if_pos h67, o4, a7, YB_ret, w65_113]
  · obtain ⟨S7, a7, f7, h7⟩ := mwant (q := q) (d := d) (js := js) (x := x) (y := r6) (p := (T t).2.1) hu h6 hx s6.1
    obtain ⟨S8, r, m', a8, f8, q8, h8, g1, g2⟩ := mcomb (q := q) (d := d) (js := js) hu h7 hx s6.1 ⟨o1, o2, o3⟩
    refine ⟨S8, r, r6, m6, ywn m6 x r6 (T t).2.1, m', ?_, yFr_tr (yWk_x f1) (yFr_tr f6 (yFr_tr (yWk_x f7) f8)), q8, h8, s6, (if_neg z).symm, g1, g2⟩
    have a9 : YB q (Y q (d + 1) 57 0 [vr 122, vi x, vi r6, vi ((T t).2.1 : Nat)] [] S6 js) (d + 2) 65 97 [vr 122, vi lv, vi x, vi rd, vr (T t).1, vi ((T t).2.1 : Nat), vi r6] [] = yret q (vi r) S8 js := by
      rw [a7, YB_ret, w65_100, if_pos h67, o4, a8, YB_ret, w65_113]
    rw [w65_0, a1, YB_retv, w65_25, k1, if_pos ⟨h67, by omega⟩, if_neg h56, a6, YB_ret, w65_46, if_pos ⟨h67, by omega⟩, if_neg h56, el, ex, e6, e1, e2, k2, a9]
    split
    · split
      · split
        · exact (z (by omega)).elim
        · rfl
      · rfl
    · rfl
end YBOL
end YBO
