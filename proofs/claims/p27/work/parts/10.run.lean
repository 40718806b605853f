/-! THE SMALL MACHINE RUNS: a program is a row of tables -/
section XR
/-- 1 code (method, pc) · 2 a method's pool · 3 fields read · 4 fields written · 5 statics · 6 new · 7 anewarray · 8 Object's constructor · 9 constants · 10 callees (method, arguments) · 11 handlers (method, pc, class): some none: out · 12 a method's places, '<init>', its class's number, its type, static · 13 a field's type · 14 an object as it is born · 15 'throw new E()' · 16 the constants' class · 17 the constructor above an exception of our own (its class) · 18 Math's max, min, abs · 19 'new' of an exception of our own: class, constructor's place, method -/
abbrev xPg : Type := (Nat → Nat → Option (Instr × Nat)) × (Nat → Nat) × (Nat → Nat → Option (Nat × Nat)) × (Nat → Nat → Option (Nat × Nat × Bool)) × (Nat → Nat → Option Value) × (Nat → Nat → Option Nat) × (Nat → Nat → Bool) × (Nat → Nat → Bool) × (Nat → Nat → Option Value) × (Nat → Nat → Option (Nat × Nat)) × (Nat → Nat → Nat → Option (Option Nat)) × (Nat → Nat × Bool × Nat × Option FieldType × Bool) × (Nat → Nat → FieldType) × (Nat → List Value) × (Nat → Nat → Option Nat) × Nat × (Nat → Nat → Option Nat) × (Nat → Nat → Option Nat) × (Nat → Nat → Option (Nat × Nat × Nat))
def xP_code (P : xPg) := P.1
def xP_pool (P : xPg) := P.2.1
def xP_fl (P : xPg) := P.2.2.1
def xP_fp (P : xPg) := P.2.2.2.1
def xP_sf (P : xPg) := P.2.2.2.2.1
def xP_tn (P : xPg) := P.2.2.2.2.2.1
def xP_an (P : xPg) := P.2.2.2.2.2.2.1
def xP_oi (P : xPg) := P.2.2.2.2.2.2.2.1
def xP_cs (P : xPg) := P.2.2.2.2.2.2.2.2.1
def xP_ca (P : xPg) := P.2.2.2.2.2.2.2.2.2.1
def xP_hn (P : xPg) := P.2.2.2.2.2.2.2.2.2.2.1
def xP_mt (P : xPg) := P.2.2.2.2.2.2.2.2.2.2.2.1
def xP_ft (P : xPg) := P.2.2.2.2.2.2.2.2.2.2.2.2.1
def xP_fd (P : xPg) := P.2.2.2.2.2.2.2.2.2.2.2.2.2.1
def xP_te (P : xPg) := P.2.2.2.2.2.2.2.2.2.2.2.2.2.2.1
def xP_kd (P : xPg) := P.2.2.2.2.2.2.2.2.2.2.2.2.2.2.2.1
def xP_ti (P : xPg) := P.2.2.2.2.2.2.2.2.2.2.2.2.2.2.2.2.1
def xP_ma (P : xPg) := P.2.2.2.2.2.2.2.2.2.2.2.2.2.2.2.2.2.1
def xP_mk (P : xPg) := P.2.2.2.2.2.2.2.2.2.2.2.2.2.2.2.2.2.2
def xP_ml (P : xPg) (k : Nat) : Nat := (xP_mt P k).1
def xP_ini (P : xPg) (k : Nat) : Bool := (xP_mt P k).2.1
def xP_mc (P : xPg) (k : Nat) : Nat := (xP_mt P k).2.2.1
def xP_rt (P : xPg) (k : Nat) : Option FieldType := (xP_mt P k).2.2.2.1
def xP_st (P : xPg) (k : Nat) : Bool := (xP_mt P k).2.2.2.2
abbrev xS4 : Type := Nat × List Value × List Value × List xO
def xr1 (b : Bool) (pc : Nat) (L : List Value) (ah : List xO) (o : Option (List Value)) : Option xS4 := match b, o with
  | true, some st => some (pc, L, st, ah)
  | _, _ => none
def xr2 (b : Bool) (pc : Nat) (L : List Value) (o : Option (List xO × List Value)) : Option xS4 := match b, o with
  | true, some (ah, st) => some (pc, L, st, ah)
  | _, _ => none
def xr3 (L : List Value) (ah : List xO) (b : Bool) (o : Option (Nat × List Value)) : Option xS4 := match b, o with
  | true, some (pc, st) => some (pc, L, st, ah)
  | _, _ => none
def xr4 (pc n : Nat) (ah : List xO) (o : Option (Nat × List Value × List Value)) : Option xS4 := match o with
  | some (n', L, st) => if n' = n then some (pc + n, L, st, ah) else none
  | none => none
theorem xr1_ok {b : Bool} {pc : Nat} {L : List Value} {ah : List xO} {o : Option (List Value)} {z : xS4} (h : xr1 b pc L ah o = some z) : b = true ∧ ∃ st, o = some st ∧ z = (pc, L, st, ah) := by
  unfold xr1 at h
  split at h
  · cases h; exact ⟨rfl, _, rfl, rfl⟩
  · cases h
theorem xr2_ok {b : Bool} {pc : Nat} {L : List Value} {o : Option (List xO × List Value)} {z : xS4} (h : xr2 b pc L o = some z) : b = true ∧ ∃ ah st, o = some (ah, st) ∧ z = (pc, L, st, ah) := by
  unfold xr2 at h
  split at h
  · cases h; exact ⟨rfl, _, _, rfl, rfl⟩
  · cases h
theorem xr3_ok {b : Bool} {L : List Value} {ah : List xO} {o : Option (Nat × List Value)} {z : xS4} (h : xr3 L ah b o = some z) : b = true ∧ ∃ pc st, o = some (pc, st) ∧ z = (pc, L, st, ah) := by
  unfold xr3 at h
  split at h
  · cases h; exact ⟨rfl, _, _, rfl, rfl⟩
  · cases h
theorem xr4_ok {pc n : Nat} {ah : List xO} {o : Option (Nat × List Value × List Value)} {z : xS4} (h : xr4 pc n ah o = some z) : ∃ L st, o = some (n, L, st) ∧ z = (pc + n, L, st, ah) := by
  unfold xr4 at h
  split at h
  · rename_i n' L st
    split at h
    · rename_i e
      cases h
      exact ⟨_, _, by rw [e], rfl⟩
    · cases h
  · cases h
/-- an instruction that neither calls nor ends -/
def xstep (P : xPg) (E k pc : Nat) (L st : List Value) (ah : List xO) (i : Instr) (n : Nat) : Option xS4 := match i with
  | .getfield j => xr1 (n == 3) (pc + 3) L ah (x_getf (xP_fl P (xP_pool P k)) ah j st)
  | .putfield j => xr2 (n == 3) (pc + 3) L (x_putf E (xP_fp P (xP_pool P k)) (xP_ft P) (xP_ini P k) ah j st)
  | .getstatic j => xr1 (n == 3) (pc + 3) L ah (x_gets (xP_sf P (xP_pool P k)) j st)
  | .iaload => xr1 (n == 1) (pc + 1) L ah (x_ald 0 ah st)
  | .baload => xr1 (n == 1) (pc + 1) L ah (x_bald ah st)
  | .laload => xr1 (n == 1) (pc + 1) L ah (x_lald ah st)
  | .aaload => xr1 (n == 1) (pc + 1) L ah (x_aald ah st)
  | .arraylength => xr1 (n == 1) (pc + 1) L ah (x_alen ah st)
  | .iastore => xr2 (n == 1) (pc + 1) L (x_iast E ah st)
  | .bastore => xr2 (n == 1) (pc + 1) L (x_bast E ah st)
  | .lastore => xr2 (n == 1) (pc + 1) L (x_last E ah st)
  | .aastore => xr2 (n == 1) (pc + 1) L (x_aast E (xP_kd P) ah st)
  | .newarray a => xr2 (n == 2) (pc + 2) L (x_newarr a ah st)
  | .anewarray j => xr2 (n == 3) (pc + 3) L (x_anew (xP_an P (xP_pool P k)) j ah st)
  | .new j => xr2 (n == 3) (pc + 3) L (x_new (xP_tn P (xP_pool P k)) (xP_fd P) j ah st)
  | .ifCond c o => xr3 L ah (n == 3) (x_if c o pc st)
  | .if_icmp c o => xr3 L ah (n == 3) (x_icmp c o pc st)
  | .if_acmp c o => xr3 L ah (n == 3) (x_acmp E c o pc st)
  | .goto o => xr3 L ah (n == 3) (x_goto o pc st)
  | .ifnull o => xr3 L ah (n == 3) (x_ifnull false o pc st)
  | .ifnonnull o => xr3 L ah (n == 3) (x_ifnull true o pc st)
  | .tableswitch d lo hi os => xr3 L ah true (x_tsw d lo hi os pc st)
  | .lookupswitch d ps => xr3 L ah true (x_lsw d ps pc st)
  | i => xr4 pc n ah (xplain (xP_cs P (xP_pool P k)) i L st)
/-- a call's kind (0 static, 1 by the receiver, 2 a constructor) and its entry -/
def xinv (i : Instr) : Option (Nat × Nat) := match i with
  | .invokestatic j => some (0, j)
  | .invokevirtual j => some (1, j)
  | .invokespecial j => some (2, j)
  | _ => none
/-- the callee's arguments off the stack (the receiver first), and what stays -/
def xtake (n : Nat) (st : List Value) : Option (List Value × List Value) := if n ≤ st.length then some ((st.take n).reverse, st.drop n) else none
def xlay : List Value → List Value
  | [] => []
  | v :: t => if v.category = 2 then v :: xU :: xlay t else v :: xlay t
def xentry (vs : List Value) (n : Nat) : List Value := xlay vs ++ List.replicate (n - (xlay vs).length) xU
def xret (rt : Option FieldType) (i : Instr) (n : Nat) (st : List Value) : Option (Option Value) := match i, st with
  | .ireturn, [.int v] => (match rt with | some ty => if narrow ty (.int v) = .int v ∧ n = 1 then some (some (.int v)) else none | none => none)
  | .lreturn, [.long v] => if rt = some .long ∧ n = 1 then some (some (.long v)) else none
  | .dreturn, [.double v] => if rt = some .double ∧ n = 1 then some (some (.double v)) else none
  | .areturn, [.ref v] => (match rt with | some (.object _) => (if n = 1 then some (some (.ref v)) else none) | some (.array _) => (if n = 1 then some (some (.ref v)) else none) | _ => none)
  | .return_, [] => if rt = none ∧ n = 1 then some none else none
  | _, _ => none
def xcls (ah : List xO) (a : Nat) : Option Nat := match ah[a]? with
  | some (.inr (c, _)) => (match Nat.beq c 199 with | true => none | false => some c)
  | _ => none
/-- loads up to a call of the constructor at ic -/
def xpure (P : xPg) (k ic : Nat) : Nat → Nat → List Value → List Value → List xO → Option (Nat × List Value × List Value)
  | 0, _, _, _, _ => none
  | f + 1, pc, L, st, ah => match xP_code P k pc with
    | none => none
    | some (i, n) => match i with
      | .invokespecial j => if j = ic ∧ n = 3 then some (pc, L, st) else none
      | .getfield j => (match xr1 (n == 3) (pc + 3) L ah (x_getf (xP_fl P (xP_pool P k)) ah j st) with
        | some (pc', L', st', _) => xpure P k ic f pc' L' st' ah
        | none => none)
      | .iaload => (match xr1 (n == 1) (pc + 1) L ah (x_ald 0 ah st) with
        | some (pc', L', st', _) => xpure P k ic f pc' L' st' ah
        | none => none)
      | i => (match xr4 pc n ah (xplain (xP_cs P (xP_pool P k)) i L st) with
        | some (pc', L', st', _) => xpure P k ic f pc' L' st' ah
        | none => none)
/-- the two ints that the constructor is given, and what stays -/
def xtwo (q : Nat) (st : List Value) : Option (Int32 × Int32 × List Value) := match st with
  | .int b :: .int a :: .ref q' :: rr => if q' = q ∧ rr.length ≤ 12 then some (a, b, rr) else none
  | _ => none
theorem xtwo_ok {q : Nat} {st : List Value} {a b : Int32} {rr : List Value} (h : xtwo q st = some (a, b, rr)) : st = .int b :: .int a :: .ref q :: rr ∧ rr.length ≤ 12 := by
  unfold xtwo at h
  split at h
  · split at h
    · rename_i hc
      cases h
      exact ⟨by rw [hc.1], hc.2⟩
    · cases h
  · cases h
/-- Math's max, min (int, long), abs (long) -/
def x_math (ma : Nat → Option Nat) (j : Nat) (st : List Value) : Option (List Value) := match ma j, st with
  | some 0, .int y :: .int x :: r => if r.length ≤ 12 then some (.int (if x < y then y else x) :: r) else none
  | some 1, .int y :: .int x :: r => if r.length ≤ 12 then some (.int (if y < x then y else x) :: r) else none
  | some 2, .long y :: .long x :: r => if r.length ≤ 12 then some (.long (if y < x then x else y) :: r) else none
  | some 3, .long y :: .long x :: r => if r.length ≤ 12 then some (.long (if y < x then y else x) :: r) else none
  | some 4, .long x :: r => if r.length ≤ 12 then some (.long (if 0 < x then x else -x) :: r) else none
  | _, _ => none
abbrev xRes : Type := (Option Value ⊕ Nat) × List xO
/-- is the receiver of the callee's class? -/
def xrecv (P : xPg) (kd y : Nat) (ah : List xO) (vs : List Value) : Bool := match kd with
  | 0 => xP_st P y
  | 1 => !xP_st P y && !xP_ini P y && (match vs with | .ref a :: _ => decide (xcls ah a = some (xP_mc P y)) | _ => false)
  | _ => !xP_st P y && (match vs with | .ref a :: _ => xP_ini P y || decide (xcls ah a = some (xP_mc P y)) | _ => false)
/-- the callee of a call's entry (kind, entry); calls of a class's own above stand from 70000 on -/
def xcaj (P : xPg) (p kd j : Nat) : Option (Nat × Nat) := match Nat.blt j 70000, kd with
  | true, 2 => (match xP_ca P p j with
    | some z => (match xP_ini P z.1 with | true => some z | false => none)
    | none => (match xP_ca P p (j + 70000) with
      | some z => (match xP_ini P z.1 with | true => none | false => some z)
      | none => none))
  | true, _ => xP_ca P p j
  | false, _ => none
theorem xcaj_ok {P : xPg} {p kd j y na : Nat} (h : xcaj P p kd j = some (y, na)) : j < 70000 ∧ ((xP_ca P p j = some (y, na) ∧ (kd = 2 → xP_ini P y = true)) ∨ (kd = 2 ∧ xP_ca P p (j + 70000) = some (y, na) ∧ xP_ini P y = false)) := by
  unfold xcaj at h
  split at h
  · rename_i hj
    refine ⟨by rw [Nat.blt_eq] at hj; exact hj, ?_⟩
    split at h
    · rename_i z hz
      split at h
      · rename_i hi
        cases h
        exact Or.inl ⟨hz, fun _ => hi⟩
      · cases h
    · split at h
      · rename_i z hz
        split at h
        · cases h
        · rename_i hi
          cases h
          exact Or.inr ⟨rfl, hz, hi⟩
      · cases h
  · rename_i hj hk
    exact ⟨by rw [Nat.blt_eq] at hj; exact hj, Or.inl ⟨h, fun e => (hk e).elim⟩⟩
  · cases h
def xrun (P : xPg) (E : Nat) : Nat → Nat → Nat → Nat → List Value → List Value → List xO → Option xRes
  | 0, _, _, _, _, _, _ => none
  | f + 1, d, k, pc, L, st, ah => match xP_code P k pc with
    | none => none
    | some (i, n) => match xinv i with
      | some (kd, j) => if n = 3 then (match xcaj P (xP_pool P k) kd j with
        | some (y, na) => (match d with
          | 0 => none
          | d' + 1 => (match xtake (if kd = 0 then na else na + 1) st with
            | some (vs, r) => if xrecv P kd y ah vs = true ∧ r.length ≤ 12 ∧ xP_ml P y ≤ 20 ∧ (xlay vs).length ≤ xP_ml P y then (match xrun P E f d' y 0 (xentry vs (xP_ml P y)) [] ah with
              | some (.inl v, ah1) => xrun P E f (d' + 1) k (pc + 3) L (v.toList ++ r) ah1
              | some (.inr a, ah1) => (match xcls ah1 a with
                | some c => (match xP_hn P k pc c with
                  | some (some h) => xrun P E f (d' + 1) k h L [.ref a] ah1
                  | some none => some (.inr a, ah1)
                  | none => none)
                | none => none)
              | none => none) else none
            | none => none))
        | none => (match kd with
          | 2 => (match x_oinit (xP_oi P (xP_pool P k)) j st with
            | some st' => xrun P E f d k (pc + 3) L st' ah
            | none => none)
          | 0 => (match x_math (xP_ma P (xP_pool P k)) j st with
            | some st' => xrun P E f d k (pc + 3) L st' ah
            | none => (match x_acp E (xP_ma P (xP_pool P k)) j ah st with
              | some (ah', st') => xrun P E f d k (pc + 3) L st' ah'
              | none => none))
          | 1 => (match x_cln (xP_ma P (xP_pool P k)) (xP_code P k (pc + 3)) j ah st with
            | some (ah', st') => xrun P E f d k (pc + 6) L st' ah'
            | none => none)
          | _ => none)) else none
      | none => match xret (xP_rt P k) i n st with
        | some v => some (.inl v, ah)
        | none => match i with
          | .athrow => (match st with
            | .ref a :: _ => if n = 1 then (match xcls ah a with
              | some c => (match xP_hn P k pc c with
                | some (some h) => xrun P E f d k h L [.ref a] ah
                | some none => some (.inr a, ah)
                | none => none)
              | none => none) else none
            | _ => none)
          | .new j => (match xP_te P (xP_pool P k) j with
            | some ce => if n = 3 ∧ st.length ≤ 12 then some (.inr ah.length, ah ++ [.inr (ce, List.replicate 6 .null)]) else none
            | none => (match xP_mk P (xP_pool P k) j with
              | some (ce, ic, y) => if n = 3 ∧ xP_ml P y = 3 then (match d with
                | 0 => none
                | d' + 1 => (match xpure P k ic 12 (pc + 3) L (.ref ah.length :: st) (ah ++ [.inr (ce, xP_fd P ce)]) with
                  | some (pc', L', st') => (match xtwo ah.length st' with
                    | some (a, b, rr) => (match xrun P E f d' y 4 [.ref ah.length, .int a, .int b] [] (ah ++ [.inr (ce, xP_fd P ce)]) with
                      | some (.inl none, ah2) => xrun P E f (d' + 1) k (pc' + 3) L' rr ah2
                      | _ => none)
                    | none => none)
                  | none => none)) else none
              | none => (match xstep P E k pc L st ah i n with
                | some (pc', L', st', ah') => xrun P E f d k pc' L' st' ah'
                | none => none)))
          | i => (match xstep P E k pc L st ah i n with
            | some (pc', L', st', ah') => xrun P E f d k pc' L' st' ah'
            | none => none)
/-! heaps only grow -/
theorem xstep_mono {P : xPg} {E k pc n : Nat} {L st : List Value} {ah : List xO} {i : Instr} {z : xS4} (h : xstep P E k pc L st ah i n = some z) : ah.length ≤ z.2.2.2.length ∧ xsum ah ≤ xsum z.2.2.2 := by
  have same : ∀ {ah' : List xO}, ah' = ah → ah.length ≤ ah'.length ∧ xsum ah ≤ xsum ah' := fun h => by rw [h]; exact ⟨Nat.le_refl _, Nat.le_refl _⟩
  have push : ∀ (o : xO), ah.length ≤ (ah ++ [o]).length ∧ xsum ah ≤ xsum (ah ++ [o]) := fun o => by rw [xsum_push, List.length_append]; exact ⟨Nat.le_add_right _ _, Nat.le_add_right _ _⟩
  have set : ∀ {a : Nat} {o o' : xO}, ah[a]? = some o → xsz o' = xsz o → ah.length ≤ (ah.set a o').length ∧ xsum ah ≤ xsum (ah.set a o') := fun h1 h2 => by rw [xsum_set h1 h2, List.length_set]; exact ⟨Nat.le_refl _, Nat.le_refl _⟩
  unfold xstep at h
  split at h
  all_goals first
    | (obtain ⟨-, st', -, rfl⟩ := xr1_ok h; exact same rfl)
    | (obtain ⟨-, pc', st', -, rfl⟩ := xr3_ok h; exact same rfl)
    | (obtain ⟨L', st', -, rfl⟩ := xr4_ok h; exact same rfl)
    | skip
  · obtain ⟨-, ah', st', h1, rfl⟩ := xr2_ok h
    unfold x_putf at h1
    (repeat' split at h1) <;> first | cases h1 | skip
    rename_i ho _ ; exact set ho (by simp [xsz])
  · obtain ⟨-, ah', st', h1, rfl⟩ := xr2_ok h
    unfold x_iast at h1
    (repeat' split at h1) <;> first | cases h1 | skip
    rename_i ho _ ; exact set ho rfl
  · obtain ⟨-, ah', st', h1, rfl⟩ := xr2_ok h
    unfold x_bast at h1
    (repeat' split at h1) <;> first | cases h1 | skip
    all_goals (first | (rename_i ho _ _; exact set ho rfl) | (rename_i ho _ _ _; exact set ho rfl))
  · obtain ⟨-, ah', st', h1, rfl⟩ := xr2_ok h
    unfold x_last at h1
    (repeat' split at h1) <;> first | cases h1 | skip
    rename_i ho _ ; exact set ho rfl
  · obtain ⟨-, ah', st', h1, rfl⟩ := xr2_ok h
    unfold x_aast at h1
    (repeat' split at h1) <;> first | cases h1 | skip
    rename_i ho _ _ _ _ _; exact set ho rfl
  · obtain ⟨-, ah', st', h1, rfl⟩ := xr2_ok h
    unfold x_newarr at h1
    (repeat' split at h1) <;> first | cases h1 | skip
    all_goals exact push _
  · obtain ⟨-, ah', st', h1, rfl⟩ := xr2_ok h
    unfold x_anew at h1
    (repeat' split at h1) <;> first | cases h1 | skip
    exact push _
  · obtain ⟨-, ah', st', h1, rfl⟩ := xr2_ok h
    unfold x_new at h1
    (repeat' split at h1) <;> first | cases h1 | skip
    exact push _
end XR
