/-! the tables of a program, as lists in two storeys: (bound, (key, value and where its words stand)) -/
section XY
abbrev xTab (α : Type) : Type := List (Nat × List (Nat × α))
def xlk1 {α : Type} : List (Nat × α) → Nat → Option α
  | [], _ => none
  | (k, v) :: r, x => match Nat.beq k x with
    | true => some v
    | false => xlk1 r x
def xlk {α : Type} : xTab α → Nat → Option α
  | [], _ => none
  | (b, c) :: r, x => match Nat.blt x b with
    | true => xlk1 c x
    | false => xlk r x
theorem xlk1_ok {α : Type} : ∀ {l : List (Nat × α)} {x : Nat} {v : α}, xlk1 l x = some v → (x, v) ∈ l
  | [], x, v, h => by cases h
  | (k, w) :: r, x, v, h => by
    unfold xlk1 at h
    split at h
    · rename_i e
      cases h
      rw [Nat.eq_of_beq_eq_true e]
      exact List.mem_cons_self
    · exact List.mem_cons_of_mem _ (xlk1_ok h)
def xall {α : Type} (t : xTab α) (p : Nat → α → Bool) : Bool := t.all fun c => c.2.all fun e => p e.1 e.2
theorem xlk_ok {α : Type} {p : Nat → α → Bool} : ∀ {t : xTab α} {x : Nat} {v : α}, xall t p = true → xlk t x = some v → p x v = true
  | [], x, v, _, h => by cases h
  | (b, c) :: r, x, v, ha, h => by
    unfold xall at ha
    simp only [List.all_cons, Bool.and_eq_true] at ha
    unfold xlk at h
    split at h
    · have := List.all_eq_true.mp ha.1 _ (xlk1_ok h)
      exact this
    · exact xlk_ok (t := r) ha.2 h
def xaL {α : Type} (p : Nat → α → Prop) : List (Nat × α) → Prop
  | [] => True
  | e :: r => p e.1 e.2 ∧ xaL p r
def xaP {α : Type} (p : Nat → α → Prop) : xTab α → Prop
  | [] => True
  | c :: r => xaL p c.2 ∧ xaP p r
theorem xaL_ok {α : Type} {p : Nat → α → Prop} : ∀ {l : List (Nat × α)} {x : Nat} {v : α}, xaL p l → (x, v) ∈ l → p x v
  | [], _, _, _, h => by cases h
  | e :: r, x, v, ha, h => by
    rcases List.mem_cons.mp h with rfl | h
    · exact ha.1
    · exact xaL_ok ha.2 h
theorem xaP_ok {α : Type} {p : Nat → α → Prop} : ∀ {t : xTab α} {x : Nat} {v : α}, xaP p t → xlk t x = some v → p x v
  | [], x, v, _, h => by cases h
  | (b, c) :: r, x, v, ha, h => by
    unfold xlk at h
    split at h
    · exact xaL_ok ha.1 (xlk1_ok h)
    · exact xaP_ok ha.2 h
def xfs {α β : Type} (o : Option (α × β)) : Option α := match o with
  | some (a, _) => some a
  | none => none
theorem xfs_ok {α β : Type} {o : Option (α × β)} {a : α} (h : xfs o = some a) : ∃ b, o = some (a, b) := by
  unfold xfs at h
  split at h
  · cases h; exact ⟨_, rfl⟩
  · cases h
abbrev xHt : Type := List (Nat × Nat)
/-- a class's pool: its name; fields read; written; statics; new; arrays of constants; Object's constructor; constants; callees; throws; the constructor above; Math; 'new' of an exception of our own -/
abbrev xPool : Type := String × xTab ((Nat × Nat) × xHt) × xTab ((Nat × Nat × Bool) × xHt) × xTab (Value × xHt) × xTab (Nat × xHt) × xTab (Unit × xHt) × xTab (Unit × xHt) × xTab (Value × xHt) × xTab ((Nat × Nat) × xHt) × xTab (Nat × (List String × Nat)) × xTab (Nat × xHt) × xTab (Nat × xHt) × xTab ((Nat × Nat × Nat) × xHt)
/-- a method: pool, name, bytes, table of handlers, places, '<init>', class's number, type, static, code, handlers by pc and class -/
abbrev xMth : Type := Nat × MethodName × ByteArray × Option (List (Nat × Nat × Nat × Nat)) × Nat × Bool × Nat × Option FieldType × Bool × xTab (Instr × Nat) × xTab (List (Nat × Option Nat))
/-- the words that go on holding, and how one is found -/
def xTs : List Cond := xw_tbl.filter goodWord
def xCh : List (List Cond) := [k2_sels lw_privs, tables_1_1, tables_1_2, tables_1_3, tables_1_4, tables_1_5, tables_1_6, tables_1_7, xw_ups]
/-- a word of the plain kinds goes on holding -/
def xgp : Cond → Bool
  | .code .. | .codeSync .. | .native _ | .codeWith .. | .static _ | .instanceMethod _ | .initialized _ | .methodLink .. | .fieldLink .. | .classLink .. | .selects .. | .sameMethod .. | .sameField .. | .constant .. | .constantLong .. | .instantiable .. | .lays .. | .laysFinal .. | .superclass .. | .noSuperclass _ | .soleField .. => true
  | _ => false
theorem xgp_ok {w : Cond} (h : xgp w = true) : goodWord w = true := by
  cases w <;> first | rfl | (simp [goodWord, Cond.onTables, Cond.keeps, Cond.steady]; done) | (exact absurd h (by decide)) | (simp [xgp] at h)
def xLu (z : Nat × Nat) : Option Cond := match xCh[z.1]? with
  | some l => l[z.2]?
  | none => none
def xCk (z : Nat × Nat) (w : Cond) : Prop := xLu z = some w ∧ xgp w = true
/-- the same by evaluation -/
def xCkB (z : Nat × Nat) (w : Cond) : Bool := decide (xLu z = some w) && xgp w
theorem xCh_mem {c : Nat} {l : List Cond} (h : xCh[c]? = some l) : ∀ w ∈ l, w ∈ xw_tbl := by
  intro w hw
  unfold xw_tbl lw_tbl tables_1
  unfold xCh at h
  simp only [List.mem_append]
  rcases c with _ | _ | _ | _ | _ | _ | _ | _ | _ | c
  all_goals first | (simp at h; subst h; simp [hw]; done) | (simp at h)
theorem xCk_ok {z : Nat × Nat} {w : Cond} (h : xCk z w) : w ∈ xTs := by
  obtain ⟨h, h2⟩ := h
  unfold xLu at h
  split at h
  · rename_i l hl
    exact List.mem_filter.mpr ⟨xCh_mem hl _ (List.mem_of_getElem? h), xgp_ok h2⟩
  · cases h
theorem xCkB_ok {z : Nat × Nat} {w : Cond} (h : xCkB z w = true) : w ∈ xTs := by
  unfold xCkB at h
  rw [Bool.and_eq_true] at h
  exact xCk_ok ⟨of_decide_eq_true h.1, h.2⟩
theorem xTs_good : ∀ w ∈ xTs, goodWord w = true := fun w hw => (List.mem_filter.mp hw).2
/-- a program out of pools, methods, classes -/
def xPl (ps : List xPool) (p : Nat) : xPool := match ps[p]? with
  | some q => q
  | none => ("", [], [], [], [], [], [], [], [], [], [], [], [])
def xMt (ms : xTab xMth) (k : Nat) : Option xMth := xlk ms k
abbrev xFd : Type := String × String × String × Bool × FieldType
abbrev xCd : Type := String × List xFd × Nat
def xT (fs : List xFd) : u_T := fun k => match fs[k]? with
  | some f => (f.1, f.2.1, f.2.2.1, f.2.2.2.1)
  | none => ("", "", "", false)
def xclOf (cs : List xCd) : List vw_C := cs.map fun q => (q.1, xT q.2.1, q.2.1.length)
def xftOf (cs : List xCd) (c k : Nat) : FieldType := match cs[c]? with
  | some q => (match q.2.1[k]? with | some f => f.2.2.2.2 | none => .int)
  | none => .int
def xdef (ty : FieldType) : Value := match ty with
  | .long => .long 0
  | .double => .double 0
  | .float => .float 0
  | .object _ => .null
  | .array _ => .null
  | _ => .int 0
def xfdOf (cs : List xCd) (c : Nat) : List Value := match cs[c]? with
  | some q => q.2.1.map (fun f => xdef f.2.2.2.2) ++ List.replicate q.2.2 .null
  | none => []
def xcodeOf (ms : xTab xMth) (k pc : Nat) : Option (Instr × Nat) := match xMt ms k with
  | some q => xlk q.2.2.2.2.2.2.2.2.2.1 pc
  | none => none
def xhnOf (ms : xTab xMth) (k pc c : Nat) : Option (Option Nat) := match xMt ms k with
  | some q => (match q.2.2.2.1 with | none => (match Nat.blt c 100 with | true => some none | false => none) | some _ => (match xlk q.2.2.2.2.2.2.2.2.2.2 pc with | some l => xlk1 l c | none => none))
  | none => none
def xmtOf (ms : xTab xMth) (k : Nat) : Nat × Bool × Nat × Option FieldType × Bool := match xMt ms k with
  | some q => (q.2.2.2.2.1, q.2.2.2.2.2.1, q.2.2.2.2.2.2.1, q.2.2.2.2.2.2.2.1, q.2.2.2.2.2.2.2.2.1)
  | none => (0, false, 0, none, false)
def xpoolOf (ms : xTab xMth) (k : Nat) : Nat := match xMt ms k with
  | some q => q.1
  | none => 1000
def xmnOf (ms : xTab xMth) (k : Nat) : MethodName := match xMt ms k with
  | some q => q.2.1
  | none => ⟨"", "", ""⟩
def xbcOf (ms : xTab xMth) (k : Nat) : ByteArray := match xMt ms k with
  | some q => q.2.2.1
  | none => ⟨#[]⟩
def xhhOf (ms : xTab xMth) (k : Nat) : Option (List (Nat × Nat × Nat × Nat)) := match xMt ms k with
  | some q => q.2.2.2.1
  | none => none
/-- the one static of the JDK's of which nothing but 'a reference or null' is known: v -/
def xsv (v : Value) (o : Option Value) : Option Value := match o with
  | some (.retAddr _) => some v
  | o => o
def xPof (ps : List xPool) (ms : xTab xMth) (cs : List xCd) (kd : Nat) (v : Value) : xPg :=
  (xcodeOf ms, xpoolOf ms, fun p i => xfs (xlk (xPl ps p).2.1 i), fun p i => xfs (xlk (xPl ps p).2.2.1 i), fun p i => xsv v (xfs (xlk (xPl ps p).2.2.2.1 i)), fun p i => xfs (xlk (xPl ps p).2.2.2.2.1 i), fun p i => (xlk (xPl ps p).2.2.2.2.2.1 i).isSome, fun p i => (xlk (xPl ps p).2.2.2.2.2.2.1 i).isSome, fun p i => xfs (xlk (xPl ps p).2.2.2.2.2.2.2.1 i), fun p i => xfs (xlk (xPl ps p).2.2.2.2.2.2.2.2.1 i), xhnOf ms, xmtOf ms, xftOf cs, xfdOf cs, fun p i => xfs (xlk (xPl ps p).2.2.2.2.2.2.2.2.2.1 i), kd, fun p i => xfs (xlk (xPl ps p).2.2.2.2.2.2.2.2.2.2.1 i), fun p i => xfs (xlk (xPl ps p).2.2.2.2.2.2.2.2.2.2.2.1 i), fun p i => xfs (xlk (xPl ps p).2.2.2.2.2.2.2.2.2.2.2.2 i))
end XY
