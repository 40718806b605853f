/-! THE FLAT MACHINE: what a frame comes to, expanded -/
section YI
abbrev yKt : Type := Nat → List yV → List yV → yS → Option xRes
theorem Y_step {q : yQ} {d k pc pc' : Nat} {L st L' st' : List yV} {S S' : yS} {js : List xO} (h : xone (xPrg q.1) 81 k pc (L.map yval) (st.map yval) (yH q S js) = some (pc', L'.map yval, st'.map yval, yH q S' js)) : Y q d k pc L st S js = Y q d k pc' L' st' S' js := yD_one h
theorem Y_ev1 {q : yQ} {d k pc pc' n : Nat} {i : Instr} {L st L' st' : List yV} {S S' : yS} {js : List xO} (hc : xP_code (xPrg q.1) k pc = some (i, n)) (hi : yEv i) (h : xstep (xPrg q.1) 81 k pc (L.map yval) (st.map yval) (yH q S js) i n = some (pc', L'.map yval, st'.map yval, yH q S' js)) : Y q d k pc L st S js = Y q d k pc' L' st' S' js := Y_step ((xone_ev hc hi).trans h)
theorem ybeq' {a b : Nat} (h : Nat.beq a b = true) : (a == b) = true := ybeq h
/-- Math's members -/
def ymax (x y : Int) : Int := if yr x < yr y then y else x
def ymin (x y : Int) : Int := if yr y < yr x then y else x
def ymaxl (x y : Int64) : Int64 := if y < x then x else y
def yminl (x y : Int64) : Int64 := if y < x then y else x
def yabsl (x : Int64) : Int64 := if 0 < x then x else -x
def ymth (ma : Nat → Option Nat) (j : Nat) (st : List yV) : Option (List yV) := match ma j, st with
  | some 0, .inl y :: .inl x :: r => (match Nat.ble r.length 12 with | true => some (.inl (ymax x y) :: r) | false => none)
  | some 1, .inl y :: .inl x :: r => (match Nat.ble r.length 12 with | true => some (.inl (ymin x y) :: r) | false => none)
  | some 2, .inr (.inl y) :: .inr (.inl x) :: r => (match Nat.ble r.length 12 with | true => some (vj (ymaxl x y) :: r) | false => none)
  | some 3, .inr (.inl y) :: .inr (.inl x) :: r => (match Nat.ble r.length 12 with | true => some (vj (yminl x y) :: r) | false => none)
  | some 4, .inr (.inl x) :: r => (match Nat.ble r.length 12 with | true => some (vj (yabsl x) :: r) | false => none)
  | _, _ => none
theorem ymth_ok {ma : Nat → Option Nat} {j : Nat} {st st' : List yV} (h : ymth ma j st = some st') : x_math ma j (st.map yval) = some (st'.map yval) := by
  unfold ymth at h
  split at h
  all_goals first
    | cases h; done
    | skip
  all_goals
    split at h
    · rename_i hm _ hl
      cases h
      have hl := Nat.le_of_ble_eq_true hl
      simp only [x_math, hm, List.map_cons, yval, List.length_map, hl, if_true]
      try simp only [ymax, ymin, ymaxl, yminl, yabsl]
      try simp only [y_lt]
      try (split <;> rfl)
    · cases h
/-! calls -/
def ylay : List yV → List yV
  | [] => []
  | v :: t => match v with
    | .inr (.inl _) => v :: vu :: ylay t
    | .inr (.inr (.inr (.inl _))) => v :: vu :: ylay t
    | _ => v :: ylay t
theorem ylay_ok : ∀ l : List yV, xlay (l.map yval) = (ylay l).map yval
  | [] => rfl
  | v :: t => by
    have ih := ylay_ok t
    match v with
    | .inl x => simp only [List.map_cons, xlay, ylay, ih, yval]; rfl
    | .inr (.inl x) => simp only [List.map_cons, xlay, ylay, ih, yval]; rfl
    | .inr (.inr (.inl x)) => simp only [List.map_cons, xlay, ylay, ih, yval]; rfl
    | .inr (.inr (.inr (.inl x))) => simp only [List.map_cons, xlay, ylay, ih, yval]; rfl
    | .inr (.inr (.inr (.inr x))) => simp only [List.map_cons, xlay, ylay, ih, yval]; rfl
def yent (vs : List yV) (n : Nat) : List yV := ylay vs ++ List.replicate (n - (ylay vs).length) vu
theorem yent_ok (vs : List yV) (n : Nat) : xentry (vs.map yval) n = (yent vs n).map yval := by
  unfold xentry yent
  rw [ylay_ok, List.length_map, List.map_append, List.map_replicate]
  rfl
def ytk (n : Nat) (st : List yV) : Option (List yV × List yV) := match Nat.ble n st.length with
  | true => some ((st.take n).reverse, st.drop n)
  | false => none
/-- the class of a receiver; sy: it is a constant of Kind -/
def ycls (sy : Bool) (a : Nat) : Option Nat := match sy with
  | true => some 100
  | false => (match Nat.ble 81 a with
    | true => (match yT[a - 81]? with
      | some (.inl (c, _)) => some c
      | _ => none)
    | false => (match a with
      | 69 => some 101
      | 71 => some 101
      | _ => none))
def yrecv (v : Value) (sy : Bool) (kd y : Nat) (vs : List yV) : Bool := match kd with
  | 0 => xP_st (xPrg v) y
  | 1 => !xP_st (xPrg v) y && !xP_ini (xPrg v) y && (match vs with
    | .inr (.inr (.inl a)) :: _ => (match ycls sy a with
      | some c => Nat.beq c (xP_mc (xPrg v) y) && Nat.blt c 199
      | none => false)
    | _ => false)
  | _ => !xP_st (xPrg v) y && xP_ini (xPrg v) y && (match vs with | .inr (.inr (.inl _)) :: _ => true | _ => false)
theorem ycls_ok {q : yQ} {S : yS} {js : List xO} {sy : Bool} {a c : Nat} (h : ycls sy a = some c) (hs : sy = true → a < 67) (hc : c < 199) : xcls (yH q S js) a = some c := by
  have go : ∀ {fs : List Value}, (yH q S js)[a]? = some (.inr (c, fs)) → xcls (yH q S js) a = some c := by
    intro fs hg
    unfold xcls
    rw [hg]
    have : Nat.beq c 199 = false := by
      cases e : Nat.beq c 199 with
      | false => rfl
      | true => have := Nat.eq_of_beq_eq_true e; omega
    simp only [this]
  unfold ycls at h
  split at h
  · cases h
    exact go (yH_kind q S js (hs rfl))
  · split at h
    · rename_i ha
      split at h
      · rename_i c' fs he
        cases h
        have := yH_get q S js he
        rw [yat81 ha] at this
        exact go this
      · cases h
    · split at h
      · cases h
        exact go (fs := [.ref 70, .int 0]) ((yH_lo q S js (by omega)).trans rfl)
      · cases h
        exact go (fs := [.ref 72, .int 0]) ((yH_lo q S js (by omega)).trans rfl)
      · cases h
def ynm (kd na : Nat) : Nat := match kd with
  | 0 => na
  | _ => na + 1
theorem ynm_ok (kd na : Nat) : ynm kd na = if kd = 0 then na else na + 1 := by
  cases kd <;> rfl
def ygo (v : Value) (sy : Bool) (k : Nat) (i : Instr) (n : Nat) (st : List yV) : Option (Nat × List yV × List yV) := match xinv i with
  | none => none
  | some (kd, j) => (match Nat.beq n 3, xcaj (xPrg v) (xP_pool (xPrg v) k) kd j with
    | true, some (y, na) => (match ytk (ynm kd na) st with
      | some (vs, rr) => (match yrecv v sy kd y vs && Nat.ble rr.length 12 && Nat.ble (xP_ml (xPrg v) y) 20 && Nat.ble (ylay vs).length (xP_ml (xPrg v) y) with
        | true => some (y, vs, rr)
        | false => none)
      | none => none)
    | _, _ => none)
/-- is the receiver, where it is one, a constant? -/
def ysy (sy : Bool) (vs : List yV) : Prop := sy = true → ∀ a r, vs = .inr (.inr (.inl a)) :: r → a < 67
theorem ygo_ok {q : yQ} {sy : Bool} {k pc n : Nat} {i : Instr} {st vs rr : List yV} {S : yS} {js : List xO} {y : Nat} (hc : xP_code (xPrg q.1) k pc = some (i, n)) (h : ygo q.1 sy k i n st = some (y, vs, rr)) (hs : ysy sy vs) : xgo (xPrg q.1) k pc (st.map yval) (yH q S js) = some (y, vs.map yval, rr.map yval) := by
  unfold ygo at h
  unfold xgo
  rw [hc]
  split at h
  · cases h
  · rename_i kd j hi
    simp only [hi]
    split at h
    · rename_i y0 na hn hca
      have hn := Nat.eq_of_beq_eq_true hn
      rw [if_pos hn]
      simp only [hca]
      split at h
      · rename_i vs0 rr0 ht
        split at h
        · rename_i hg
          cases h
          simp only [Bool.and_eq_true] at hg
          obtain ⟨⟨⟨g1, g2⟩, g3⟩, g4⟩ := hg
          have ht2 : xtake (if kd = 0 then na else na + 1) (st.map yval) = some (vs.map yval, rr.map yval) := by
            rw [ynm_ok] at ht
            unfold ytk at ht
            split at ht
            · rename_i hl
              cases ht
              have hl := Nat.le_of_ble_eq_true hl
              unfold xtake
              rw [List.length_map, if_pos hl, List.map_reverse, List.map_take, List.map_drop]
            · cases ht
          simp only [ht2]
          rw [if_pos ?_]
          refine ⟨?_, ?_, Nat.le_of_ble_eq_true g3, ?_⟩
          · unfold yrecv at g1
            unfold xrecv
            split at g1
            · exact g1
            · simp only [Bool.and_eq_true] at g1 ⊢
              refine ⟨g1.1, ?_⟩
              have g5 := g1.2
              split at g5
              · rename_i a r
                split at g5
                · rename_i c hcl
                  simp only [Bool.and_eq_true] at g5
                  have hlt : c < 199 := Nat.le_of_ble_eq_true g5.2
                  have := ycls_ok (q := q) (S := S) (js := js) hcl (fun z => hs z _ _ rfl) hlt
                  simp only [List.map_cons, yval, this]
                  exact decide_eq_true (by rw [Nat.eq_of_beq_eq_true g5.1])
                · cases g5
              · cases g5
            · simp only [Bool.and_eq_true] at g1 ⊢
              refine ⟨g1.1.1, ?_⟩
              have g5 := g1.2
              split at g5
              · simp only [List.map_cons, yval, g1.1.2, Bool.true_or]
              · cases g5
          · rw [List.length_map]
            exact Nat.le_of_ble_eq_true g2
          · rw [ylay_ok, List.length_map]
            exact Nat.le_of_ble_eq_true g4
        · cases h
      · cases h
    · cases h
noncomputable def YB (q : yQ) (o : Option xRes) (d k pc : Nat) (L st : List yV) : Option xRes := yB q.1 o d k pc (L.map yval) (st.map yval)
theorem Y_call {q : yQ} {sy : Bool} {d k pc n y : Nat} {i : Instr} {L st vs rr : List yV} {S : yS} {js : List xO} (hc : xP_code (xPrg q.1) k pc = some (i, n)) (h : ygo q.1 sy k i n st = some (y, vs, rr)) (hs : ysy sy vs) : Y q (d + 1) k pc L st S js = YB q (Y q d y 0 (yent vs (xP_ml (xPrg q.1) y)) [] S js) (d + 1) k pc L rr := by
  have := yD_call (d := d) (L := L.map yval) (ygo_ok (S := S) (js := js) hc h hs)
  rw [yent_ok] at this
  exact this
/-! switches -/
def ytsw (K : Nat → Option xRes) (Z : Option xRes) (pc : Nat) (x d : Int) : Int → List Int → Option xRes
  | _, [] => (match xtg pc d with
    | some t => K t
    | none => Z)
  | lo, o :: r => (match xtg pc o with
    | some t => if x = lo then K t else ytsw K Z pc x d (lo + 1) r
    | none => Z)
theorem ytsw_ok {K : Nat → Option xRes} {V : Option xRes} {pc : Nat} {x d : Int} : ∀ {os : List Int} {lo : Int}, (∀ t, xtg pc d = some t → (∀ i : Nat, i < os.length → x ≠ lo + i) → V = K t) → (∀ (i : Nat) (o : Int) (t : Nat), os[i]? = some o → xtg pc o = some t → x = lo + i → V = K t) → V = ytsw K V pc x d lo os
  | [], lo, h1, h2 => by
    unfold ytsw
    split
    · rename_i t ht
      exact h1 t ht (fun i hi => by simp at hi)
    · rfl
  | o :: r, lo, h1, h2 => by
    unfold ytsw
    split
    · rename_i t ht
      split
      · rename_i hx
        exact h2 0 o t rfl ht (by simp [hx])
      · rename_i hx
        refine ytsw_ok (os := r) (lo := lo + 1) (fun t2 ht2 hn => h1 t2 ht2 fun i hi => ?_) (fun i o2 t2 ho ht2 he => h2 (i + 1) o2 t2 ho ht2 (by rw [he]; push_cast; omega))
        cases i with
        | zero => simpa using hx
        | succ i =>
          have := hn i (by simpa using hi)
          intro z
          apply this
          rw [z]
          push_cast
          omega
    · rfl
def ylsw (K : Nat → Option xRes) (Z : Option xRes) (pc : Nat) (x d : Int) : List (Int × Int) → Option xRes
  | [] => (match xtg pc d with
    | some t => K t
    | none => Z)
  | (a, o) :: r => (match xtg pc o with
    | some t => if x = a then K t else ylsw K Z pc x d r
    | none => Z)
/-! one step on -/
/-- a String's fields; the lengths of rows that were there before -/
def yfs (a f : Nat) : Option yV := match a, f with
  | 69, 0 => some (vr 70)
  | 69, 1 => some (vi 0)
  | 71, 0 => some (vr 72)
  | 71, 1 => some (vi 0)
  | _, _ => none
theorem yfs_ok {q : yQ} {S : yS} {js : List xO} {f a : Nat} {x : yV} (h : yfs a f = some x) {fl : Nat → Option (Nat × Nat)} {j : Nat} (hf : fl j = some (101, f)) (r : List Value) : x_getf fl (yH q S js) j (.ref a :: r) = some (yval x :: r) := by
  have h1 : (yH q S js)[69]? = some (.inr (101, [.ref 70, .int 0])) := (yH_lo q S js (by omega)).trans rfl
  have h2 : (yH q S js)[71]? = some (.inr (101, [.ref 72, .int 0])) := (yH_lo q S js (by omega)).trans rfl
  unfold yfs at h
  split at h
  all_goals first
    | (cases h; simp [x_getf, hf, h1, h2, yval]; done)
    | (cases h; simp [x_getf, hf, h1, h2, yval]; rfl)
    | cases h
def yln (q : yQ) (a : Nat) : Option Nat := match a with
  | 67 => some 67
  | 68 => some 67
  | 70 => some 1
  | 72 => some 1
  | 79 => some q.2.1
  | _ => none
theorem yln_ok {q : yQ} {S : yS} {js : List xO} {a n : Nat} (h : yln q a = some n) (r : List Value) : x_alen (yH q S js) (.ref a :: r) = some (.int (Int32.ofNat n) :: r) := by
  unfold yln at h
  split at h
  · cases h
    have hg : (yH q S js)[67]? = some (.inl (14, 67, .inr (.inr (.inr (.inr fun j => if j < 67 then some j else none))))) := (yH_lo q S js (by omega)).trans rfl
    simp only [x_alen, hg]
  · cases h
    have hg : (yH q S js)[68]? = some (.inl (10, 67, .inl (xLf xSm))) := (yH_lo q S js (by omega)).trans rfl
    simp only [x_alen, hg]
  · cases h
    have hg : (yH q S js)[70]? = some (.inl (12, 1, .inl (xLf xTx0))) := (yH_lo q S js (by omega)).trans rfl
    simp only [x_alen, hg]
  · cases h
    have hg : (yH q S js)[72]? = some (.inl (12, 1, .inl (xLf xTx1))) := (yH_lo q S js (by omega)).trans rfl
    simp only [x_alen, hg]
  · cases h
    have hg : (yH q S js)[79]? = some (.inl (10, q.2.1, .inl q.2.2)) := (yH_lo q S js (by omega)).trans rfl
    simp only [x_alen, hg]
  · cases h
theorem y_char {x : Int} (h : 0 ≤ yr x ∧ yr x < 65536) : narrow .char (.int (Int32.ofInt x)) = .int (Int32.ofInt x) := by
  show Value.int (Int32.ofInt x).toUInt32.toUInt16.toUInt32.toInt32 = Value.int (Int32.ofInt x)
  unfold yr at h
  generalize Int32.ofInt x = v at h ⊢
  have h2 : v.toUInt32.toNat < 65536 := by
    have e : v.toInt = v.toUInt32.toBitVec.toInt := rfl
    rw [e, BitVec.toInt_eq_toNat_cond] at h
    have h5 : v.toUInt32.toBitVec.toNat < 2 ^ 32 := v.toUInt32.toBitVec.isLt
    show v.toUInt32.toBitVec.toNat < 65536
    split at h <;> omega
  have h3 : v.toUInt32.toUInt16.toUInt32 = v.toUInt32 := by
    apply UInt32.toNat_inj.mp
    show v.toUInt32.toNat % 2 ^ 16 = v.toUInt32.toNat
    exact Nat.mod_eq_of_lt h2
  rw [h3]
  rfl
theorem y_byte {x : Int} (h : -128 ≤ yr x ∧ yr x < 128) : narrow .byte (.int (Int32.ofInt x)) = .int (Int32.ofInt x) := by
  show Value.int (Int32.ofInt x).toInt8.toInt32 = Value.int (Int32.ofInt x)
  congr 1
  apply Int32.toInt.inj
  have h1 : (Int32.ofInt x).toInt8 = Int8.ofInt (yr x) := by
    show (Int32.ofInt x).toInt8 = Int8.ofInt (Int32.ofInt x).toInt
    rw [Int8.ofInt_int32ToInt]
  rw [h1, Int8.toInt_toInt32, Int8.toInt_ofInt_of_le (by omega) (by omega)]
  rfl
/-- a boolean field whose new worth isn't written out -/
def ypb (ft : FieldType) (ci f a : Nat) : Option Nat := match Nat.ble 81 a with
  | false => none
  | true => (match yT[a - 81]? with
    | some (.inl (c, fs)) => (match Nat.beq c ci with
      | false => none
      | true => (match fs[f]?, ft with
        | some (0, s), .boolean => some s
        | _, _ => none))
    | _ => none)
theorem ypb_ok {q : yQ} {S : yS} {js : List xO} {ci f a s : Nat} {ft : Nat → Nat → FieldType} (h : ypb (ft ci f) ci f a = some s) {fp : Nat → Option (Nat × Nat × Bool)} {j : Nat} {ini : Bool} (hf : fp j = some (ci, f, false)) {x : Int} (hx : yr x = 0 ∨ yr x = 1) (r : List Value) : x_putf 81 fp ft ini (yH q S js) j (.int (Int32.ofInt x) :: .ref a :: r) = some (yH q (sI S s x) js, r) := by
  unfold ypb at h
  split at h
  · cases h
  · rename_i ha
    split at h
    · rename_i c fs he
      split at h
      · cases h
      · rename_i hc
        have hc := Nat.eq_of_beq_eq_true hc
        subst hc
        split at h
        · rename_i s' hp hft
          cases h
          have hg : (yH q S js)[a]? = some (.inr (c, fs.map (yfld S))) := by
            have := yH_get q S js he
            rw [yat81 ha] at this
            exact this
          have hl : f < (fs.map (yfld S)).length := by rw [List.length_map]; exact (List.getElem?_eq_some_iff.mp hp).1
          have hv : xfit (ft c f) (.int (Int32.ofInt x)) = true := by
            rw [hft]
            rcases hx with h | h
            · rw [show Int32.ofInt x = Int32.ofInt 0 from (y_eq x 0).mpr (h.trans yr_0.symm)]; rfl
            · rw [show Int32.ofInt x = Int32.ofInt 1 from (y_eq x 1).mpr (h.trans (by decide))]; rfl
          simp only [x_putf, hf, hg]
          rw [if_pos ⟨trivial, hl, Nat.le_of_ble_eq_true ha, hv, fun z => by cases z⟩, yset_I ha he hp x]
        · cases h
    · cases h
theorem yH_push (q : yQ) (S : yS) (js : List xO) (o : xO) : yH q S js ++ [o] = yH q S (js ++ [o]) := by
  unfold yH
  simp only [List.append_assoc]
def yret0 (q : yQ) (S : yS) (js : List xO) : Option xRes := yretv q S js
def yexc (c : Nat) : xO := .inr (c, List.replicate 6 .null)
noncomputable def yev (q : yQ) (d : Nat) (js : List xO) (k pc : Nat) (L st : List yV) (S : yS) (K : yKt) (Z : Option xRes) (i : Instr) (n : Nat) : Option xRes := match i with
  | .ifCond c o => (match st, xtg pc o, Nat.beq n 3 with
    | .inl x :: r, some t, true => ycnd c (yr x) 0 (K t L r S) (K (pc + 3) L r S)
    | _, _, _ => Z)
  | .if_icmp c o => (match st, xtg pc o, Nat.beq n 3 with
    | .inl y :: .inl x :: r, some t, true => ycnd c (yr x) (yr y) (K t L r S) (K (pc + 3) L r S)
    | _, _, _ => Z)
  | .if_acmp c o => (match st, xtg pc o, Nat.beq n 3 with
    | .inr (.inr (.inl b)) :: .inr (.inr (.inl a)) :: r, some t, true => if a < 67 ∧ b < 67 then (match c with
      | .eq => if a = b then K t L r S else K (pc + 3) L r S
      | .ne => if a = b then K (pc + 3) L r S else K t L r S) else Z
    | _, _, _ => Z)
  | .iaload => (match st, Nat.beq n 1 with
    | .inl i :: .inr (.inr (.inl a)) :: r, true => (match yld q S false a with
      | some (m, f) => if 0 ≤ yr i ∧ yr i < m then K (pc + 1) L (.inl (f (yr i).toNat) :: r) S else Z
      | none => Z)
    | _, _ => Z)
  | .baload => (match st, Nat.beq n 1 with
    | .inl i :: .inr (.inr (.inl a)) :: r, true => (match yld q S true a with
      | some (m, f) => if 0 ≤ yr i ∧ yr i < m then K (pc + 1) L (.inl (f (yr i).toNat) :: r) S else Z
      | none => Z)
    | _, _ => Z)
  | .laload => (match st, Nat.beq n 1 with
    | .inl i :: .inr (.inr (.inl a)) :: r, true => (match yldj S a with
      | some (m, f) => if 0 ≤ yr i ∧ yr i < m then K (pc + 1) L (vj (f (yr i).toNat) :: r) S else Z
      | none => Z)
    | _, _ => Z)
  | .aaload => (match st, Nat.beq n 1 with
    | .inl i :: .inr (.inr (.inl a)) :: r, true => (match yldr S a with
      | some (m, f) => if (0 ≤ yr i ∧ yr i < m) ∧ f (yr i).toNat < 67 then K (pc + 1) L (vr (f (yr i).toNat) :: r) S else Z
      | none => Z)
    | _, _ => Z)
  | .iastore => (match st, Nat.beq n 1 with
    | .inl x :: .inl i :: .inr (.inr (.inl a)) :: r, true => (match ysto S false a with
      | some (m, f) => if 0 ≤ yr i ∧ yr i < m then K (pc + 1) L r (f (yr i).toNat x) else Z
      | none => Z)
    | _, _ => Z)
  | .bastore => (match st, Nat.beq n 1 with
    | .inl x :: .inl i :: .inr (.inr (.inl a)) :: r, true => (match ysto S true a with
      | some (m, f) => if 0 ≤ yr i ∧ yr i < m then K (pc + 1) L r (f (yr i).toNat x) else Z
      | none => Z)
    | _, _ => Z)
  | .lastore => (match st, Nat.beq n 1 with
    | .inr (.inl x) :: .inl i :: .inr (.inr (.inl a)) :: r, true => (match ystoj S a with
      | some (m, f) => if 0 ≤ yr i ∧ yr i < m then K (pc + 1) L r (f (yr i).toNat x) else Z
      | none => Z)
    | _, _ => Z)
  | .aastore => (match st, Nat.beq n 1 with
    | .inr (.inr (.inl x)) :: .inl i :: .inr (.inr (.inl a)) :: r, true => (match ystor S a with
      | some (m, f) => if (0 ≤ yr i ∧ yr i < m) ∧ x < 67 then K (pc + 1) L r (f (yr i).toNat x) else Z
      | none => Z)
    | _, _ => Z)
  | .getfield j => (match st, xP_fl (xPrg q.1) (xP_pool (xPrg q.1) k) j, Nat.beq n 3 with
    | .inr (.inr (.inl a)) :: r, some (101, f), true => (match yfs a f with
      | some x => K (pc + 3) L (x :: r) S
      | none => Z)
    | _, _, _ => Z)
  | .arraylength => (match st, Nat.beq n 1 with
    | .inr (.inr (.inl a)) :: r, true => (match yln q a with
      | some m => K (pc + 1) L (.inl (.ofNat m) :: r) S
      | none => Z)
    | _, _ => Z)
  | .idiv => (match st, Nat.beq n 1 with
    | .inl y :: .inl x :: r, true => if yr y = 0 then Z else K (pc + 1) L (.inl (yidiv x y) :: r) S
    | _, _ => Z)
  | .irem => (match st, Nat.beq n 1 with
    | .inl y :: .inl x :: r, true => if yr y = 0 then Z else K (pc + 1) L (.inl (yirem x y) :: r) S
    | _, _ => Z)
  | .ldiv => (match st, Nat.beq n 1 with
    | .inr (.inl y) :: .inr (.inl x) :: r, true => if y = 0 then Z else K (pc + 1) L (vj (x / y) :: r) S
    | _, _ => Z)
  | .lrem => (match st, Nat.beq n 1 with
    | .inr (.inl y) :: .inr (.inl x) :: r, true => if y = 0 then Z else K (pc + 1) L (vj (ylrem x y) :: r) S
    | _, _ => Z)
  | .ddiv => (match st, Nat.beq n 1 with
    | .inr (.inr (.inr (.inl y))) :: .inr (.inr (.inr (.inl x))) :: r, true => if FP.ddiv x y &&& 0x7fffffffffffffff ≤ 0x7ff0000000000000 then K (pc + 1) L (vd (FP.ddiv x y) :: r) S else Z
    | _, _ => Z)
  | .dcmp c => (match st, Nat.beq n 1 with
    | .inr (.inr (.inr (.inl y))) :: .inr (.inr (.inr (.inl x))) :: r, true => K (pc + 1) L (.inl (Op.cmpValue (FP.dcmp x y) c).toInt :: r) S
    | _, _ => Z)
  | .tableswitch dd lo hi os => (match st, decide (hi + 1 = lo + os.toList.length) with
    | .inl x :: r, true => ytsw (fun t => K t L r S) Z pc (yr x) dd lo os.toList
    | _, _ => Z)
  | .ireturn => (match st, Nat.beq n 1, xP_rt (xPrg q.1) k with
    | [.inl x], true, some .int => yret q (.inl x) S js
    | [.inl x], true, some .boolean => if yr x = 0 ∨ yr x = 1 then yret q (.inl x) S js else Z
    | [.inl x], true, some .byte => if -128 ≤ yr x ∧ yr x < 128 then yret q (.inl x) S js else Z
    | [.inl x], true, some .char => if 0 ≤ yr x ∧ yr x < 65536 then yret q (.inl x) S js else Z
    | _, _, _ => Z)
  | .lreturn => (match st, Nat.beq n 1, xP_rt (xPrg q.1) k with
    | [.inr (.inl x)], true, some .long => yret q (vj x) S js
    | _, _, _ => Z)
  | .dreturn => (match st, Nat.beq n 1, xP_rt (xPrg q.1) k with
    | [.inr (.inr (.inr (.inl x)))], true, some .double => yret q (vd x) S js
    | _, _, _ => Z)
  | .areturn => (match st, Nat.beq n 1, xP_rt (xPrg q.1) k with
    | [.inr (.inr (.inl a))], true, some (.object _) => yret q (vr a) S js
    | _, _, _ => Z)
  | .return_ => (match st, Nat.beq n 1, xP_rt (xPrg q.1) k with
    | [], true, none => yretv q S js
    | _, _, _ => Z)
  | .new j => (match xP_te (xPrg q.1) (xP_pool (xPrg q.1) k) j, Nat.beq n 3, Nat.ble st.length 12 with
    | some ce, true, true => ythr q (yexc ce) S js
    | _, _, _ => Z)
  | .invokespecial j => (match ygo q.1 false k (.invokespecial j) n st, d with
    | some (y, vs, rr), d' + 1 => YB q (Y q d' y 0 (yent vs (xP_ml (xPrg q.1) y)) [] S js) (d' + 1) k pc L rr
    | some _, 0 => Z
    | none, _ => (match xcaj (xPrg q.1) (xP_pool (xPrg q.1) k) 2 j, xP_oi (xPrg q.1) (xP_pool (xPrg q.1) k) j, st, Nat.beq n 3 with
      | none, true, .inr (.inr (.inl _)) :: r, true => (match Nat.ble r.length 20 with
        | true => K (pc + 3) L r S
        | false => Z)
      | _, _, _, _ => Z))
  | .invokevirtual j => (match ygo q.1 false k (.invokevirtual j) n st, d with
    | some (y, vs, rr), d' + 1 => YB q (Y q d' y 0 (yent vs (xP_ml (xPrg q.1) y)) [] S js) (d' + 1) k pc L rr
    | _, _ => Z)
  | .invokestatic j => (match ygo q.1 false k (.invokestatic j) n st, d with
    | some (y, vs, rr), d' + 1 => YB q (Y q d' y 0 (yent vs (xP_ml (xPrg q.1) y)) [] S js) (d' + 1) k pc L rr
    | some _, 0 => Z
    | none, _ => (match xcaj (xPrg q.1) (xP_pool (xPrg q.1) k) 0 j, ymth (xP_ma (xPrg q.1) (xP_pool (xPrg q.1) k)) j st, Nat.beq n 3 with
      | none, some st', true => K (pc + 3) L st' S
      | _, _, _ => Z))
  | _ => Z
/-- expanded, an instruction at a time -/
theorem Y_ev {q : yQ} {d k pc n : Nat} {i : Instr} {L st : List yV} {S : yS} {js : List xO} (hc : xP_code (xPrg q.1) k pc = some (i, n)) : Y q d k pc L st S js = yev q d js k pc L st S (fun pc' L' st' S' => Y q d k pc' L' st' S' js) (Y q d k pc L st S js) i n := by
  have ev : ∀ {pc' : Nat} {L' st' : List yV} {S' : yS}, yEv i → xstep (xPrg q.1) 81 k pc (L.map yval) (st.map yval) (yH q S js) i n = some (pc', L'.map yval, st'.map yval, yH q S' js) → Y q d k pc L st S js = Y q d k pc' L' st' S' js := fun h1 h2 => Y_ev1 hc h1 h2
  unfold yev
  split
  · -- ifCond
    rename_i c o
    split
    · rename_i x r t ht hn
      have hi : yEv (.ifCond c o) := ⟨rfl, fun _ _ _ => rfl, fun _ h => (nomatch h), (nomatch ·)⟩
      have h9 := ycnd_ok c x 0 (Y q d k t L r S js) (Y q d k (pc + 3) L r S js)
      rw [yr_0] at h9
      rw [h9]
      cases hb : xcI c (Int32.ofInt x) (Int32.ofInt 0) with
      | true => exact ev hi (by simp only [xstep, x_if, List.map_cons, yval, y_0, hb, xbr, ht, ybeq hn, xr3])
      | false => exact ev hi (by simp only [xstep, x_if, List.map_cons, yval, y_0, hb, xbr, ht, ybeq hn, xr3])
    · rfl
  · -- if_icmp
    rename_i c o
    split
    · rename_i y x r t ht hn
      have hi : yEv (.if_icmp c o) := ⟨rfl, fun _ _ _ => rfl, fun _ h => (nomatch h), (nomatch ·)⟩
      rw [ycnd_ok]
      cases hb : xcI c (Int32.ofInt x) (Int32.ofInt y) with
      | true => exact ev hi (by simp only [xstep, x_icmp, List.map_cons, yval, hb, xbr, ht, ybeq hn, xr3])
      | false => exact ev hi (by simp only [xstep, x_icmp, List.map_cons, yval, hb, xbr, ht, ybeq hn, xr3])
    · rfl
  · -- if_acmp
    rename_i c o
    split
    · rename_i b a r t ht hn
      have hi : yEv (.if_acmp c o) := ⟨rfl, fun _ _ _ => rfl, fun _ h => (nomatch h), (nomatch ·)⟩
      split
      · rename_i hab
        have ha : xcm 81 (some a) = true := by
          show (Nat.blt a 67 || Nat.ble 81 a) = true
          rw [show Nat.blt a 67 = true from Nat.ble_eq_true_of_le hab.1]; rfl
        have hb : xcm 81 (some b) = true := by
          show (Nat.blt b 67 || Nat.ble 81 b) = true
          rw [show Nat.blt b 67 = true from Nat.ble_eq_true_of_le hab.2]; rfl
        cases c with
        | eq =>
          show _ = if a = b then _ else _
          by_cases e : a = b
          · rw [if_pos e]
            exact ev hi (by simp only [xstep, x_acmp, List.map_cons, yval, xrf, ha, hb, and_self, if_true, xaC, e, decide_true, xbr, ht, ybeq hn, xr3])
          · rw [if_neg e]
            have e2 : ¬(some a = some b) := fun z => e (by cases z; rfl)
            exact ev hi (by simp only [xstep, x_acmp, List.map_cons, yval, xrf, ha, hb, and_self, if_true, xaC, decide_eq_false e2, xbr, ht, ybeq hn, xr3])
        | ne =>
          show _ = if a = b then _ else _
          by_cases e : a = b
          · rw [if_pos e]
            exact ev hi (by simp only [xstep, x_acmp, List.map_cons, yval, xrf, ha, hb, and_self, if_true, xaC, e, decide_true, Bool.not_true, xbr, ht, ybeq hn, xr3])
          · rw [if_neg e]
            have e2 : ¬(some a = some b) := fun z => e (by cases z; rfl)
            exact ev hi (by simp only [xstep, x_acmp, List.map_cons, yval, xrf, ha, hb, and_self, if_true, xaC, decide_eq_false e2, Bool.not_false, xbr, ht, ybeq hn, xr3])
      · rfl
    · rfl
  · -- iaload
    split
    · rename_i i a r hn
      split
      · rename_i m f hf
        split
        · rename_i hr
          have h9 := yld_ok (js := js) hf hr (r.map yval)
          exact ev ⟨rfl, fun _ _ _ => rfl, fun _ h => (nomatch h), (nomatch ·)⟩ (by simp only [xstep, List.map_cons, yval, h9, ybeq hn, xr1])
        · rfl
      · rfl
    · rfl
  · -- baload
    split
    · rename_i i a r hn
      split
      · rename_i m f hf
        split
        · rename_i hr
          have h9 := yld_ok (js := js) hf hr (r.map yval)
          exact ev ⟨rfl, fun _ _ _ => rfl, fun _ h => (nomatch h), (nomatch ·)⟩ (by simp only [xstep, List.map_cons, yval, h9, ybeq hn, xr1])
        · rfl
      · rfl
    · rfl
  · -- laload
    split
    · rename_i i a r hn
      split
      · rename_i m f hf
        split
        · rename_i hr
          have h9 := yldj_ok (q := q) (js := js) hf hr (r.map yval)
          exact ev ⟨rfl, fun _ _ _ => rfl, fun _ h => (nomatch h), (nomatch ·)⟩ (by simp only [xstep, List.map_cons, yval, h9, ybeq hn, xr1])
        · rfl
      · rfl
    · rfl
  · -- aaload
    split
    · rename_i i a r hn
      split
      · rename_i m f hf
        split
        · rename_i hr
          have h9 := yldr_ok (q := q) (js := js) hf hr (r.map yval)
          exact ev ⟨rfl, fun _ _ _ => rfl, fun _ h => (nomatch h), (nomatch ·)⟩ (by simp only [xstep, List.map_cons, yval, h9, ybeq hn, xr1])
        · rfl
      · rfl
    · rfl
  · -- iastore
    split
    · rename_i x i a r hn
      split
      · rename_i m f hf
        split
        · rename_i hr
          have h9 := ysto_ok (q := q) (js := js) hf x hr (r.map yval)
          exact ev ⟨rfl, fun _ _ _ => rfl, fun _ h => (nomatch h), (nomatch ·)⟩ (by simp only [xstep, List.map_cons, yval, h9, ybeq hn, xr2])
        · rfl
      · rfl
    · rfl
  · -- bastore
    split
    · rename_i x i a r hn
      split
      · rename_i m f hf
        split
        · rename_i hr
          have h9 := ysto_ok (q := q) (js := js) hf x hr (r.map yval)
          exact ev ⟨rfl, fun _ _ _ => rfl, fun _ h => (nomatch h), (nomatch ·)⟩ (by simp only [xstep, List.map_cons, yval, h9, ybeq hn, xr2])
        · rfl
      · rfl
    · rfl
  · -- lastore
    split
    · rename_i x i a r hn
      split
      · rename_i m f hf
        split
        · rename_i hr
          have h9 := ystoj_ok (q := q) (js := js) hf x hr (r.map yval)
          exact ev ⟨rfl, fun _ _ _ => rfl, fun _ h => (nomatch h), (nomatch ·)⟩ (by simp only [xstep, List.map_cons, yval, h9, ybeq hn, xr2])
        · rfl
      · rfl
    · rfl
  · -- aastore
    split
    · rename_i x i a r hn
      split
      · rename_i m f hf
        split
        · rename_i hr
          have h9 := ystor_ok (q := q) (js := js) hf hr (r.map yval)
          have hk : xP_kd (xPrg q.1) = 100 := rfl
          exact ev ⟨rfl, fun _ _ _ => rfl, fun _ h => (nomatch h), (nomatch ·)⟩ (by simp only [xstep, List.map_cons, yval, hk, h9, ybeq hn, xr2])
        · rfl
      · rfl
    · rfl
  · -- getfield
    rename_i j
    split
    · rename_i a r f hf hn
      split
      · rename_i x hx
        have h9 := yfs_ok (q := q) (S := S) (js := js) hx hf (r.map yval)
        exact ev ⟨rfl, fun _ _ _ => rfl, fun _ h => (nomatch h), (nomatch ·)⟩ (by simp only [xstep, List.map_cons, yval] at h9 ⊢; simp only [h9, ybeq hn, xr1])
      · rfl
    · rfl
  · -- arraylength
    split
    · rename_i a r hn
      split
      · rename_i m hm
        have h9 := yln_ok (S := S) (js := js) hm (r.map yval)
        exact ev ⟨rfl, fun _ _ _ => rfl, fun _ h => (nomatch h), (nomatch ·)⟩ (by simp only [xstep, List.map_cons, yval, h9, ybeq hn, xr1]; rfl)
      · rfl
    · rfl
  · -- idiv
    split
    · rename_i y x r hn
      split
      · rfl
      · rename_i hy
        have hn := Nat.eq_of_beq_eq_true hn
        subst hn
        have hy2 : ¬(Int32.ofInt y = 0) := fun z => hy ((y_eq y 0).mp z ▸ yr_0)
        exact ev ⟨rfl, fun _ _ _ => rfl, fun _ h => (nomatch h), (nomatch ·)⟩ (by simp only [xstep, xplain, x_idiv, List.map_cons, yval, hy2, if_false, xq, xr4, if_true, yidiv, yofI])
    · rfl
  · -- irem
    split
    · rename_i y x r hn
      split
      · rfl
      · rename_i hy
        have hn := Nat.eq_of_beq_eq_true hn
        subst hn
        have hy2 : ¬(Int32.ofInt y = 0) := fun z => hy ((y_eq y 0).mp z ▸ yr_0)
        exact ev ⟨rfl, fun _ _ _ => rfl, fun _ h => (nomatch h), (nomatch ·)⟩ (by simp only [xstep, xplain, x_irem, List.map_cons, yval, hy2, if_false, xq, xr4, if_true, yirem, yofI])
    · rfl
  · -- ldiv
    split
    · rename_i y x r hn
      split
      · rfl
      · rename_i hy
        have hn := Nat.eq_of_beq_eq_true hn
        subst hn
        exact ev ⟨rfl, fun _ _ _ => rfl, fun _ h => (nomatch h), (nomatch ·)⟩ (by simp only [xstep, xplain, x_ldiv, List.map_cons, yval, hy, if_false, xq, xr4, if_true])
    · rfl
  · -- lrem
    split
    · rename_i y x r hn
      split
      · rfl
      · rename_i hy
        have hn := Nat.eq_of_beq_eq_true hn
        subst hn
        exact ev ⟨rfl, fun _ _ _ => rfl, fun _ h => (nomatch h), (nomatch ·)⟩ (by simp only [xstep, xplain, x_lrem, List.map_cons, yval, hy, if_false, xq, xr4, if_true, ylrem])
    · rfl
  · -- ddiv
    split
    · rename_i y x r hn
      split
      · rename_i hy
        have hn := Nat.eq_of_beq_eq_true hn
        subst hn
        exact ev ⟨rfl, fun _ _ _ => rfl, fun _ h => (nomatch h), (nomatch ·)⟩ (by simp only [xstep, xplain, x_ddiv, List.map_cons, yval, hy, if_true, xq, xr4])
      · rfl
    · rfl
  · -- dcmp
    split
    · rename_i y x r hn
      have hn := Nat.eq_of_beq_eq_true hn
      subst hn
      exact ev ⟨rfl, fun _ _ _ => rfl, fun _ h => (nomatch h), (nomatch ·)⟩ (by simp only [xstep, xplain, x_dcmp, List.map_cons, yval, xq, xr4, if_true, yofI])
    · rfl
  · -- tableswitch
    rename_i dd lo hi os
    split
    · rename_i x r hl
      have hl := of_decide_eq_true hl
      have hi9 : yEv (.tableswitch dd lo hi os) := ⟨rfl, fun _ _ _ => rfl, fun _ h => (nomatch h), (nomatch ·)⟩
      have hx : (Int32.ofInt x).toInt = yr x := rfl
      refine ytsw_ok (fun t ht hn => ?_) (fun i o t ho ht he => ?_)
      · refine ev hi9 ?_
        have hc : yr x < lo ∨ hi < yr x := by
          rcases Int.lt_or_le (yr x) lo with h | h
          · exact Or.inl h
          · right
            rcases Int.lt_or_le hi (yr x) with h2 | h2
            · exact h2
            · exfalso
              exact hn (yr x - lo).toNat (by omega) (by omega)
        simp only [xstep, x_tsw, List.map_cons, yval, hx, hc, if_true, ht, xr3]
      · refine ev hi9 ?_
        have hil : i < os.toList.length := (List.getElem?_eq_some_iff.mp ho).1
        have hc : ¬(yr x < lo ∨ hi < yr x) := by omega
        have hj : (yr x - lo).toNat = i := by omega
        have ho2 : os[i]? = some o := by rw [← Array.getElem?_toList]; exact ho
        simp only [xstep, x_tsw, List.map_cons, yval, hx, hc, if_false, hj, ho2, ht, xr3]
    · rfl
  · -- ireturn
    split
    · rename_i x hn hrt
      have hn := Nat.eq_of_beq_eq_true hn
      subst hn
      exact yD_ret hc rfl (by
        simp only [List.map_cons, List.map_nil, yval, xret, hrt]
        exact if_pos ⟨rfl, trivial⟩)
    · rename_i x hn hrt
      have hn := Nat.eq_of_beq_eq_true hn
      subst hn
      split
      · rename_i h01
        refine yD_ret hc rfl ?_
        have : narrow .boolean (.int (Int32.ofInt x)) = .int (Int32.ofInt x) := by
          rcases h01 with h | h
          · have : Int32.ofInt x = Int32.ofInt 0 := (y_eq x 0).mpr (h.trans yr_0.symm)
            rw [this]; rfl
          · have : Int32.ofInt x = Int32.ofInt 1 := (y_eq x 1).mpr (h.trans (by decide))
            rw [this]; rfl
        simp only [List.map_cons, List.map_nil, yval, xret, hrt, this, and_self, if_true]
      · rfl
    · rename_i x hn hrt
      have hn := Nat.eq_of_beq_eq_true hn
      subst hn
      split
      · rename_i h01
        refine yD_ret hc rfl ?_
        have : narrow .byte (.int (Int32.ofInt x)) = .int (Int32.ofInt x) := y_byte h01
        simp only [List.map_cons, List.map_nil, yval, xret, hrt, this, and_self, if_true]
      · rfl
    · rename_i x hn hrt
      have hn := Nat.eq_of_beq_eq_true hn
      subst hn
      split
      · rename_i h01
        refine yD_ret hc rfl ?_
        have : narrow .char (.int (Int32.ofInt x)) = .int (Int32.ofInt x) := y_char h01
        simp only [List.map_cons, List.map_nil, yval, xret, hrt, this, and_self, if_true]
      · rfl
    · rfl
  · -- lreturn
    split
    · rename_i x hn hrt
      have hn := Nat.eq_of_beq_eq_true hn
      subst hn
      exact yD_ret hc rfl (by simp only [List.map_cons, List.map_nil, yval, xret, hrt, and_self, if_true])
    · rfl
  · -- dreturn
    split
    · rename_i x hn hrt
      have hn := Nat.eq_of_beq_eq_true hn
      subst hn
      exact yD_ret hc rfl (by simp only [List.map_cons, List.map_nil, yval, xret, hrt, and_self, if_true])
    · rfl
  · -- areturn
    split
    · rename_i x _ hn hrt
      have hn := Nat.eq_of_beq_eq_true hn
      subst hn
      exact yD_ret hc rfl (by simp only [List.map_cons, List.map_nil, yval, xret, hrt, if_true])
    · rfl
  · -- return
    split
    · rename_i hn hrt
      have hn := Nat.eq_of_beq_eq_true hn
      subst hn
      exact yD_ret hc rfl (by simp only [List.map_nil, xret, hrt, and_self, if_true])
    · rfl
  · -- new
    rename_i j
    split
    · rename_i ce hte hn hl
      have hn := Nat.eq_of_beq_eq_true hn
      subst hn
      have h9 := yD_tnew (d := d) (L := L.map yval) (ah := yH q S js) (st := st.map yval) hc hte (by rw [List.length_map]; exact Nat.le_of_ble_eq_true hl)
      unfold Y ythr yexc
      rw [h9, yH_len, yH_push]
    · rfl
  · -- invokespecial
    rename_i j
    split
    · rename_i y vs rr d' hg
      exact Y_call hc hg (fun z => by cases z)
    · rfl
    · split
      · rename_i a r hca hoi hn hg
        split
        · rename_i hl
          have hn := Nat.eq_of_beq_eq_true hn
          subst hn
          exact yD_oinit (st' := r.map yval) hc hca (by simp only [x_oinit, List.map_cons, yval, hoi, List.length_map, Nat.le_of_ble_eq_true hl, and_self, if_true])
        · rfl
      · rfl
  · -- invokevirtual
    rename_i j
    split
    · rename_i y vs rr d' hg
      exact Y_call hc hg (fun z => by cases z)
    · rfl
  · -- invokestatic
    rename_i j
    split
    · rename_i y vs rr d' hg
      exact Y_call hc hg (fun z => by cases z)
    · rfl
    · split
      · rename_i st' hca hm hn
        have hn := Nat.eq_of_beq_eq_true hn
        subst hn
        exact yD_math hc hca (ymth_ok hm)
      · rfl
  · rfl
/-- where the thing at hand is a constant of Kind -/
noncomputable def yek (q : yQ) (d : Nat) (js : List xO) (k pc : Nat) (L st : List yV) (S : yS) (K : yKt) (Z : Option xRes) (i : Instr) (n : Nat) : Option xRes := match i with
  | .getfield j => (match st, xP_fl (xPrg q.1) (xP_pool (xPrg q.1) k) j, Nat.beq n 3 with
    | .inr (.inr (.inl a)) :: r, some (100, f), true => (match ykf f a with
      | some x => if a < 67 then K (pc + 3) L (x :: r) S else Z
      | none => Z)
    | .inr (.inr (.inl a)) :: r, some (3, f), true => (match ygf S 3 f a with
      | some (.inr (.inr (.inl x))) => if x = 107 then K (pc + 3) L (vr 107 :: r) S else if x = 117 then K (pc + 3) L (vr 117 :: r) S else Z
      | _ => Z)
    | .inr (.inr (.inl a)) :: r, some (12, f), true => (match ygf S 12 f a with
      | some (.inr (.inr (.inl x))) => if x = 139 then K (pc + 3) L (vr 139 :: r) S else if x = 145 then K (pc + 3) L (vr 145 :: r) S else Z
      | _ => Z)
    | _, _, _ => Z)
  | .putfield j => (match st, xP_fp (xPrg q.1) (xP_pool (xPrg q.1) k) j, Nat.beq n 3 with
    | .inl x :: .inr (.inr (.inl a)) :: r, some (ci, f, false), true => (match ypb (xP_ft (xPrg q.1) ci f) ci f a with
      | some s => if yr x = 0 ∨ yr x = 1 then K (pc + 3) L r (sI S s x) else Z
      | none => Z)
    | _, _, _ => Z)
  | .invokevirtual j => (match ygo q.1 true k (.invokevirtual j) n st, d with
    | some (y, .inr (.inr (.inl a)) :: vs, rr), d' + 1 => if a < 67 then YB q (Y q d' y 0 (yent (.inr (.inr (.inl a)) :: vs) (xP_ml (xPrg q.1) y)) [] S js) (d' + 1) k pc L rr else Z
    | _, _ => Z)
  | _ => Z
theorem Y_ek {q : yQ} {d k pc n : Nat} {i : Instr} {L st : List yV} {S : yS} {js : List xO} (hc : xP_code (xPrg q.1) k pc = some (i, n)) : Y q d k pc L st S js = yek q d js k pc L st S (fun pc' L' st' S' => Y q d k pc' L' st' S' js) (Y q d k pc L st S js) i n := by
  unfold yek
  split
  · rename_i j
    split
    · rename_i a r f hf hn
      split
      · rename_i x hx
        split
        · rename_i ha
          have h9 := ykf_ok (q := q) (S := S) (js := js) hx ha hf (r.map yval)
          exact Y_ev1 hc ⟨rfl, fun _ _ _ => rfl, fun _ h => (nomatch h), (nomatch ·)⟩ (by simp only [xstep, List.map_cons, yval, h9, ybeq hn, xr1])
        · rfl
      · rfl
    · rename_i a r f hf hn
      split
      · rename_i x hx
        have h9 := ygf_ok (q := q) (S := S) (js := js) hx hf (r.map yval)
        split
        · rename_i e
          subst e
          exact Y_ev1 hc ⟨rfl, fun _ _ _ => rfl, fun _ h => (nomatch h), (nomatch ·)⟩ (by simp only [xstep, List.map_cons, yval] at h9 ⊢; simp only [h9, ybeq hn, xr1])
        · split
          · rename_i e
            subst e
            exact Y_ev1 hc ⟨rfl, fun _ _ _ => rfl, fun _ h => (nomatch h), (nomatch ·)⟩ (by simp only [xstep, List.map_cons, yval] at h9 ⊢; simp only [h9, ybeq hn, xr1])
          · rfl
      · rfl
    · rename_i a r f hf hn
      split
      · rename_i x hx
        have h9 := ygf_ok (q := q) (S := S) (js := js) hx hf (r.map yval)
        split
        · rename_i e
          subst e
          exact Y_ev1 hc ⟨rfl, fun _ _ _ => rfl, fun _ h => (nomatch h), (nomatch ·)⟩ (by simp only [xstep, List.map_cons, yval] at h9 ⊢; simp only [h9, ybeq hn, xr1])
        · split
          · rename_i e
            subst e
            exact Y_ev1 hc ⟨rfl, fun _ _ _ => rfl, fun _ h => (nomatch h), (nomatch ·)⟩ (by simp only [xstep, List.map_cons, yval] at h9 ⊢; simp only [h9, ybeq hn, xr1])
          · rfl
      · rfl
    · rfl
  · split
    · rename_i x a r ci f hf hn
      split
      · rename_i s hs
        split
        · rename_i hx
          have h9 := ypb_ok (q := q) (S := S) (js := js) (ini := xP_ini (xPrg q.1) k) hs hf hx (r.map yval)
          exact Y_ev1 hc ⟨rfl, fun _ _ _ => rfl, fun _ h => (nomatch h), (nomatch ·)⟩ (by simp only [xstep, List.map_cons, yval, h9, ybeq hn, xr2])
        · rfl
      · rfl
    · rfl
  · split
    · rename_i y a vs rr d' hg
      split
      · rename_i ha
        exact Y_call hc hg (fun _ a' r' e => by cases e; exact ha)
      · rfl
    · rfl
  · rfl
/-- expanded by one step; sy: at a constant of Kind -/
noncomputable def yx (q : yQ) (sy : Bool) (d : Nat) (js : List xO) (k pc : Nat) (L st : List yV) (S : yS) (K : yKt) (Z : Option xRes) : Option xRes := match sy with
  | true => (match xP_code (xPrg q.1) k pc with
    | some (i, n) => yek q d js k pc L st S K Z i n
    | none => Z)
  | false => (match yone q.1 k pc L st S with
    | some (pc', L', st', S') => K pc' L' st' S'
    | none => (match xP_code (xPrg q.1) k pc with
      | some (i, n) => yev q d js k pc L st S K Z i n
      | none => Z))
theorem Y_x {q : yQ} {sy : Bool} {d k pc : Nat} {L st : List yV} {S : yS} {js : List xO} : Y q d k pc L st S js = yx q sy d js k pc L st S (fun pc' L' st' S' => Y q d k pc' L' st' S' js) (Y q d k pc L st S js) := by
  unfold yx
  cases sy with
  | true =>
    cases hc : xP_code (xPrg q.1) k pc with
    | none => rfl
    | some z => exact Y_ek hc
  | false =>
    cases h1 : yone q.1 k pc L st S with
    | some z =>
      obtain ⟨pc', L', st', S'⟩ := z
      exact Y_step (yone_ok h1)
    | none =>
      cases hc : xP_code (xPrg q.1) k pc with
      | none => rfl
      | some z => exact Y_ev hc
def yel (x : Nat) : List Nat → Bool
  | [] => false
  | y :: r => match Nat.beq x y with
    | true => true
    | false => yel x r
/-- expanded by many steps, up to the places ss -/
noncomputable def yxs (q : yQ) (ss sy : List Nat) (d : Nat) (js : List xO) (k : Nat) : Nat → Nat → List yV → List yV → yS → Option xRes
  | 0, pc, L, st, S => Y q d k pc L st S js
  | n + 1, pc, L, st, S => yx q (yel pc sy) d js k pc L st S (fun pc' L' st' S' => match yel pc' ss with
    | true => Y q d k pc' L' st' S' js
    | false => yxs q ss sy d js k n pc' L' st' S') (Y q d k pc L st S js)
theorem Y_xs {q : yQ} (ss sy : List Nat) {d k : Nat} {js : List xO} : ∀ (n : Nat) {pc : Nat} {L st : List yV} {S : yS}, Y q d k pc L st S js = yxs q ss sy d js k n pc L st S
  | 0, pc, L, st, S => rfl
  | n + 1, pc, L, st, S => by
    have : (fun (pc' : Nat) (L' st' : List yV) (S' : yS) => match yel pc' ss with
      | true => Y q d k pc' L' st' S' js
      | false => yxs q ss sy d js k n pc' L' st' S') = fun pc' L' st' S' => Y q d k pc' L' st' S' js := by
      funext pc' L' st' S'
      split
      · rfl
      · exact (Y_xs ss sy n).symm
    show _ = yx q (yel pc sy) d js k pc L st S _ _
    rw [this]
    exact Y_x
/-! behind a call -/
theorem YB_ret (q : yQ) (x : yV) (S : yS) (js : List xO) (d k pc : Nat) (L st : List yV) : YB q (yret q x S js) d k pc L st = Y q d k (pc + 3) L (x :: st) S js := rfl
theorem YB_retv (q : yQ) (S : yS) (js : List xO) (d k pc : Nat) (L st : List yV) : YB q (yretv q S js) d k pc L st = Y q d k (pc + 3) L st S js := rfl
theorem ythr_cls {q : yQ} {c : Nat} {fs : List Value} {S : yS} {js : List xO} (hc : Nat.beq c 199 = false) : xcls (yH q S (js ++ [.inr (c, fs)])) (135 + js.length) = some c := by
  unfold xcls
  rw [yH_hi, List.getElem?_append_right (Nat.le_refl _), Nat.sub_self]
  simp only [List.getElem?_cons_zero, hc]
theorem YB_thr (q : yQ) (c : Nat) (fs : List Value) (S : yS) (js : List xO) (d k pc : Nat) (L st : List yV) (hc : Nat.beq c 199 = false) (hh : xP_hn (xPrg q.1) k pc c = some none) : YB q (ythr q (.inr (c, fs)) S js) d k pc L st = ythr q (.inr (c, fs)) S js := by
  unfold YB ythr
  simp only [yB, ythr_cls hc, hh]
theorem YB_thc (q : yQ) (c h : Nat) (fs : List Value) (S : yS) (js : List xO) (d k pc : Nat) (L st : List yV) (hc : Nat.beq c 199 = false) (hh : xP_hn (xPrg q.1) k pc c = some (some h)) : YB q (ythr q (.inr (c, fs)) S js) d k pc L st = Y q d k h L [vr (135 + js.length)] S (js ++ [.inr (c, fs)]) := by
  unfold YB ythr
  simp only [yB, ythr_cls hc, hh]
  rfl
end YI
