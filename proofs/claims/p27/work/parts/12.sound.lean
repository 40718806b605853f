/-! WHAT THE SMALL MACHINE SAYS HOLDS OF THE REAL ONE -/
section XT
/-- words of the tables that go on holding by rows of their own -/
def xnk (w : Cond) : Bool := match w with
  | .methodLinkNest .. => true
  | .fieldLinkNest .. => true
  | .declares _ => true
  | .castable .. => true
  | _ => false
theorem xnk_warm {w : Cond} {s U : State} (hW : s.WarmedH U.vm) (hk : xnk w = true) (h : va_Nw w s) : va_Nw w U := by
  unfold xnk at hk
  split at hk
  · exact va_Nw.warmM hW h
  · exact va_Nw.warmF hW h
  · exact va_Nw.warmD hW h
  · exact va_Nw.warmC hW h
  · cases hk
/-- what is known of the tables and of what was there before -/
def xKn (D : va_G) (cl : List vw_C) (tyc : Nat → ClassId) (clB : List vw_C) (ad : Nat → Nat) (A : Nat → Prop) (bs : List xO) (sts : List (String × String × String × Value)) (srs : List (String × Nat × String × Nat)) (ncs : List (String × String) × List Cond) (U : State) : Prop :=
  va_K D cl (xtys tyc) U ∧ xBs clB ad A bs U ∧ va_AO "ReportMill$Kind" U ∧ (∃ cK : ClassId, U.vm.findClass "ReportMill$Kind" = some cK) ∧ (∀ z ∈ sts, va_Z z.1 z.2.1 z.2.2.1 (xm ad z.2.2.2) A U U.heap) ∧ (∀ z ∈ srs, vk_R z.1 z.2.1 z.2.2.1 (ad z.2.2.2) U) ∧ ((∀ z ∈ ncs.1, va_Nc z.1 z.2 U) ∧ ∀ w ∈ ncs.2, xnk w = true ∧ va_Nw w U) ∧ vx_Zq Bundle.tN "UNASSIGNED_STACK" Bundle.steD A U U.heap ∧ vx_Zq Bundle.tN "SUPPRESSED_SENTINEL" Bundle.listD A U U.heap
theorem xKn.moved {D : va_G} {cl : List vw_C} {tyc : Nat → ClassId} {clB : List vw_C} {ad : Nat → Nat} {A : Nat → Prop} {bs : List xO} {sts : List (String × String × String × Value)} {srs : List (String × Nat × String × Nat)} {ncs : List (String × String) × List Cond} {s U : State} (hW : s.WarmedH U.vm) (hf : ∀ q : Nat, q < s.heap.size → ¬ A q → U.heap[q]? = s.heap[q]?) (h : xKn D cl tyc clB ad A bs sts srs ncs s) : xKn D cl tyc clB ad A bs sts srs ncs U := by
  obtain ⟨h1, h2, h3, ⟨cK, h4⟩, h5, h6, h7, h8, h9⟩ := h
  have hvm := hW.alike
  refine ⟨va_K.moved hvm h1, fun k o hk => ?_, va_AO.moved hvm h3, ⟨cK, by rw [hvm.findClass]; exact h4⟩, fun z hz => va_Z.moved hvm ((h5 z hz).kept hf), fun z hz => (h6 z hz).warm hW, ⟨fun z hz => va_Nc.moved hvm (h7.1 z hz), fun w hw => ⟨(h7.2 w hw).1, xnk_warm hW (h7.2 w hw).1 (h7.2 w hw).2⟩⟩, vx_Zq.moved hvm (h8.kept hf), vx_Zq.moved hvm (h9.kept hf)⟩
  have h := h2 k o hk
  obtain ⟨t, a⟩ | ⟨c, fs⟩ := o
  · obtain ⟨g1, g2, cell, g3, g4, g5, g6, g7, g8⟩ := h
    exact ⟨g1, g2, cell, by rw [hf _ (Array.getElem?_eq_some_iff.mp g3).1 g8]; exact g3, State.isArrayOf_alike hvm g4, g5, g6, g7, g8⟩
  · obtain ⟨g1, g0 | ⟨C, T, N, g2, g3, g4⟩⟩ := h
    · exact ⟨g1, Or.inl g0⟩
    exact ⟨g1, Or.inr ⟨C, T, N, g2, va_O.moved hvm (g3.kept hf), fun j v hj => va_OF.moved hvm ((g4 j v hj).kept hf)⟩⟩
def xrm (d mc ms : Nat) : Room := { frames := 10 + d, cells := mc, slots := ms, locals := 150 + 60 * d }
def xcw (P : xPg) (mn : Nat → MethodName) (bc : Nat → ByteArray) (hh : Nat → Option (List (Nat × Nat × Nat × Nat))) (k : Nat) : Cond := match hh k with
  | none => .code (mn k) (bc k) (xP_ml P k) (xP_rt P k)
  | some t => .codeWith (mn k) (bc k) (xP_ml P k) (xP_rt P k) t
def xtb (t : Option (List (Nat × Nat × Nat × Nat))) : List ExceptionTableEntry := match t with
  | none => []
  | some t => tableOf t
/-- what a class's pool says of its calls -/
def xCa (P : xPg) (mn : Nat → MethodName) (bc : Nat → ByteArray) (hh : Nat → Option (List (Nat × Nat × Nat × Nat))) (Ts : List Cond) (nM : Nat) (cl clB : List vw_C) (s : State) (args : Array Value) (own : String) (ca : Nat → Option (Nat × Nat)) : Prop := ∀ j y na, ca j = some (y, na) → y < nM ∧ plainName (mn y).cls = true ∧ ((mn y).cls ≠ "java/lang/invoke/MethodHandle" ∧ (mn y).cls ≠ "java/lang/invoke/VarHandle") ∧ (∀ sig, parseMethodDescriptor (mn y).desc = some sig → na = sig.parameters.length) ∧ (Cond.initialized (mn y).cls).before args s = true ∧ xcw P mn bc hh y ∈ Ts ∧
  (j < 70000 →
  (xP_st P y = true → (Cond.methodLink own j (mn y)).before args s = true ∧ (Cond.static (mn y)).before args s = true) ∧
  (xP_st P y = false → (Cond.instanceMethod (mn y)).before args s = true ∧
    (xP_ini P y = false → ∃ (C : String), (∀ q : vw_C, (if xP_mc P y < 100 then cl[xP_mc P y]? else clB[xP_mc P y - 100]?) = some q → q.1 = C) ∧
      (((Cond.methodLink own j (mn y)).before args s = true ∧ (Cond.selects C (mn y) (mn y)).before args s = true) ∨
       (hh y = none ∧ ∃ (x : MethodName) (owner : String), (Cond.methodLink own j x).before args s = true ∧ (Cond.sameMethod x.cls owner x.name x.desc).before args s = true ∧ va_Decl s ⟨owner, x.name, x.desc⟩ ∧ (owner ≠ "java/lang/invoke/MethodHandle" ∧ owner ≠ "java/lang/invoke/VarHandle") ∧ (Cond.selects C x (mn y)).before args s = true ∧ x.desc = (mn y).desc))) ∧
    (xP_ini P y = true → (mn y).name = "<init>" ∧ hh y = none ∧ xP_rt P y = none ∧ ((Cond.methodLink own j (mn y)).before args s = true ∨ ∃ host : String, (Cond.methodLinkNest own j (mn y) host).before args s = true)))) ∧
  (∀ i, j = i + 70000 → xP_ini P y = false → xP_st P y = false ∧ hh y = none ∧ (Cond.methodLink own i (mn y)).before args s = true ∧ (Cond.sameMethod (mn y).cls (mn y).cls (mn y).name (mn y).desc).before args s = true ∧ (Cond.superclass own (mn y).cls).before args s = true ∧ (Cond.instanceMethod (mn y)).before args s = true ∧ (mn y).name ≠ "<init>")
/-- .. of its handlers -/
def xHn (cl : List vw_C) (s : State) (args : Array Value) (own : String) (tb : List ExceptionTableEntry) (hn : Nat → Nat → Option (Option Nat)) : Prop := ∀ pc c o, hn pc c = some o → c < 100 ∧ ∀ q : vw_C, cl[c]? = some q → match o with
  | some h => ∃ (pre : List ExceptionTableEntry) (x : ExceptionTableEntry) (suf : List ExceptionTableEntry), tb = pre ++ x :: suf ∧ (∀ z ∈ pre, covers z pc = false ∨ (z.catchType ≠ 0 ∧ ∃ nm : String, (Cond.classLink own z.catchType nm).before args s = true ∧ va_Nc q.1 nm s)) ∧ covers x pc = true ∧ x.catchType ≠ 0 ∧ (∃ nm : String, (Cond.classLink own x.catchType nm).before args s = true ∧ (Cond.castable q.1 nm).before args s = true) ∧ x.handlerPc = h
  | none => ∀ z ∈ tb, covers z pc = false ∨ (z.catchType ≠ 0 ∧ ∃ nm : String, (Cond.classLink own z.catchType nm).before args s = true ∧ va_Nc q.1 nm s)
/-- .. of 'throw new E()' -/
def xTe (cl : List vw_C) (s : State) (args : Array Value) (own : String) (cc : ByteArray) (tb : List ExceptionTableEntry) (code : Nat → Option (Instr × Nat)) (te : Nat → Option Nat) : Prop := ∀ j ce pc, te j = some ce → code pc = some (.new j, 3) → ∃ (cls : String) (T : u_T) (names : List String) (ic : Nat), cl[ce]? = some (cls, T, 0) ∧ ce < 100 ∧ names.length ≤ 3 ∧ Bundle.fit cls = true ∧ (∀ n ∈ names, Bundle.fit n = true) ∧ (Cond.classLink own j cls).before args s = true ∧ (Cond.initialized cls).before args s = true ∧ (∀ w ∈ vx_at0 own ic cls names, w.before args s = true) ∧ (∀ w ∈ Cond.classLink own j cls :: Cond.initialized cls :: vx_at0 own ic cls names, vx_ot w = true) ∧
  decode cc (pc + 3) = .ok (.dup, 1) ∧ decode cc (pc + 4) = .ok (.invokespecial ic, 3) ∧ decode cc (pc + 7) = .ok (.athrow, 1) ∧ ∀ x ∈ tb, covers x (pc + 7) = false
/-- .. of Math -/
def xMaw (c : Nat) : MethodName × ByteArray × Nat × FieldType := match c with
  | 0 => (Lib.Math.max.name, Lib.Math.max.code, 2, .int)
  | 1 => (Lib.Math.min.name, Lib.Math.min.code, 2, .int)
  | 2 => (Lib.MathLoose.max_long.x, Lib.MathLoose.max_long.code, 4, .long)
  | 3 => (Lib.MathLoose.min_long.x, Lib.MathLoose.min_long.code, 4, .long)
  | _ => (Lib.MathLoose.abs_long.x, Lib.MathLoose.abs_long.code, 2, .long)
def xMa (s : State) (args : Array Value) (own : String) (ma : Nat → Option Nat) : Prop := ∀ j c, ma j = some c → (c < 5 → (Cond.methodLink own j (xMaw c).1).before args s = true ∧ (Cond.static (xMaw c).1).before args s = true ∧ (Cond.initialized "java/lang/Math").before args s = true ∧ (Cond.code (xMaw c).1 (xMaw c).2.1 (xMaw c).2.2.1 (some (xMaw c).2.2.2)).before args s = true) ∧
  (c = 5 → (Cond.methodLink own j arraycopyName).before args s = true ∧ (Cond.native arraycopyName).before args s = true ∧ (Cond.static arraycopyName).before args s = true ∧ (Cond.initialized "java/lang/System").before args s = true) ∧
  (c = 6 → (Cond.methodLink own j ⟨"[B", "clone", "()Ljava/lang/Object;"⟩).before args s = true ∧ (Cond.sameMethod "[B" "java/lang/Object" "clone" "()Ljava/lang/Object;").before args s = true ∧ (Cond.native ⟨"java/lang/Object", "clone", "()Ljava/lang/Object;"⟩).before args s = true ∧ (Cond.instanceMethod ⟨"java/lang/Object", "clone", "()Ljava/lang/Object;"⟩).before args s = true ∧ (Cond.selects "[B" ⟨"[B", "clone", "()Ljava/lang/Object;"⟩ ⟨"java/lang/Object", "clone", "()Ljava/lang/Object;"⟩).before args s = true ∧ va_Nw (.castable "[B" "java/lang/Cloneable") s) ∧
  (c = 7 → (Cond.classLink own j "[B").before args s = true)
/-- .. of the constructor above an exception of our own -/
def xTi (s : State) (args : Array Value) (own : String) (cl : List vw_C) (Ts : List Cond) (ti : Nat → Option Nat) : Prop := ∀ idx ci, ti idx = some ci → ∃ (X sup : String) (T : u_T) (N n : Nat) (names : List String), cl[ci]? = some (X, T, N) ∧ Bundle.fit sup = true ∧ names.length ≤ 3 ∧ (∀ z ∈ names, Bundle.fit z = true) ∧ (∀ w ∈ xv_at own idx X sup n names, w.before args s = true) ∧ (∀ w ∈ u_ws X T N, w ∈ Ts) ∧
  ∀ k, k < N → (∃ ty, parseFieldDescriptor (T k).2.2.1 = some ty) ∧ (T k).2.1 ≠ "cause" ∧ (T k).2.1 ≠ "stackTrace" ∧ (T k).2.1 ≠ "suppressedExceptions"
/-- .. of 'new' of one -/
def xMk (P : xPg) (mn : Nat → MethodName) (bc : Nat → ByteArray) (hh : Nat → Option (List (Nat × Nat × Nat × Nat))) (Ts : List Cond) (nM : Nat) (cl : List vw_C) (s : State) (args : Array Value) (own : String) (mk : Nat → Option (Nat × Nat × Nat)) : Prop := ∀ j ci ic y, mk j = some (ci, ic, y) →
  xTn s args own cl Ts (xP_fd P) (fun i => if i = j then some ci else none) ∧
  y < nM ∧ plainName (mn y).cls = true ∧ ((mn y).cls ≠ "java/lang/invoke/MethodHandle" ∧ (mn y).cls ≠ "java/lang/invoke/VarHandle") ∧ (∀ sig, parseMethodDescriptor (mn y).desc = some sig → sig.parameters.length = 2) ∧ (Cond.initialized (mn y).cls).before args s = true ∧ xcw P mn bc hh y ∈ Ts ∧
  (Cond.instanceMethod (mn y)).before args s = true ∧ (mn y).name = "<init>" ∧ hh y = none ∧ xP_rt P y = none ∧ ((Cond.methodLink own ic (mn y)).before args s = true ∨ ∃ host : String, (Cond.methodLinkNest own ic (mn y) host).before args s = true) ∧
  decode (bc y) 0 = .ok (.aload_n 0, 1) ∧ ∃ i2, decode (bc y) 1 = .ok (.invokespecial i2, 3) ∧ xP_ti P (xP_pool P y) i2 = some ci
/-- a method's frame: all that its code and pool say -/
def xMx (P : xPg) (mn : Nat → MethodName) (bc : Nat → ByteArray) (hh : Nat → Option (List (Nat × Nat × Nat × Nat))) (Ts : List Cond) (nM : Nat) (cl clB : List vw_C) (ad : Nat → Nat) (A : Nat → Prop) (s : State) (args : Array Value) (k : Nat) : Prop :=
  (∀ pc i n, xP_code P k pc = some (i, n) → decode (bc k) pc = .ok (i, n)) ∧ (xP_ini P k = true → (mn k).name = "<init>") ∧
  xFl s args (mn k).cls cl clB Ts (xP_fl P (xP_pool P k)) ∧ xFp s args (mn k).cls cl Ts (xP_ft P) (xP_fp P (xP_pool P k)) ∧ xSf s args (mn k).cls ad A (xP_sf P (xP_pool P k)) ∧ xTn s args (mn k).cls cl Ts (xP_fd P) (xP_tn P (xP_pool P k)) ∧
  (∀ idx, xP_an P (xP_pool P k) idx = true → (Cond.classLink (mn k).cls idx "ReportMill$Kind").before args s = true) ∧ (xOi s args (mn k).cls (xP_oi P (xP_pool P k)) ∧ xMa s args (mn k).cls (xP_ma P (xP_pool P k)) ∧ xTi s args (mn k).cls cl Ts (xP_ti P (xP_pool P k)) ∧ xMk P mn bc hh Ts nM cl s args (mn k).cls (xP_mk P (xP_pool P k))) ∧ xCs s args (mn k).cls ad (xP_cs P (xP_pool P k)) ∧
  xCa P mn bc hh Ts nM cl clB s args (mn k).cls (xP_ca P (xP_pool P k)) ∧ xHn cl s args (mn k).cls (xtb (hh k)) (xP_hn P k) ∧ xTe cl s args (mn k).cls (bc k) (xtb (hh k)) (xP_code P k) (xP_te P (xP_pool P k))
section
variable {D : va_G} {cl clB : List vw_C} {tyc : Nat → ClassId} {ad : Nat → Nat} {A : Nat → Prop} {bs : List xO} {sts : List (String × String × String × Value)} {srs : List (String × Nat × String × Nat)} {ncs : List (String × String) × List Cond}
variable {P : xPg} {mn : Nat → MethodName} {bc : Nat → ByteArray} {hh : Nat → Option (List (Nat × Nat × Nat × Nat))} {Ts : List Cond} {nM : Nat} {l : Launch}
/-- what a method's start asks, what its ends say -/
def xEn (D : va_G) (cl : List vw_C) (tyc : Nat → ClassId) (ad : Nat → Nat) (A : Nat → Prop) (bs : List xO) (ah : List xO) (st t : State) : Prop := xH D cl tyc ad bs ah t.heap ∧ t.heap.size = ad ah.length ∧ va_F A st t
def xPc (D : va_G) (cl : List vw_C) (tyc : Nat → ClassId) (clB : List vw_C) (ad : Nat → Nat) (A : Nat → Prop) (bs : List xO) (sts : List (String × String × String × Value)) (srs : List (String × Nat × String × Nat)) (ncs : List (String × String) × List Cond) (vs : List Value) (ah : List xO) : Array Value → State → Prop := fun a U => a = (xJ vs ad).toArray ∧ xH D cl tyc ad bs ah U.heap ∧ U.heap.size = ad ah.length ∧ bs.length ≤ ah.length ∧ xKn D cl tyc clB ad A bs sts srs ncs U
def xQc (D : va_G) (cl : List vw_C) (tyc : Nat → ClassId) (ad : Nat → Nat) (A : Nat → Prop) (bs : List xO) (r : Option Value ⊕ Nat) (ah : List xO) : Array Value → State → Outcome → State → Prop := fun _ st o t => ∃ v : Option Value, r = .inl v ∧ o = .returned (v.map (xm ad)) ∧ xEn D cl tyc ad A bs ah st t
def xXc (D : va_G) (cl : List vw_C) (tyc : Nat → ClassId) (ad : Nat → Nat) (A : Nat → Prop) (bs : List xO) (r : Option Value ⊕ Nat) (ah : List xO) : Addr → String → State → State → Prop := fun q _ st t => ∃ a : Nat, r = .inr a ∧ q = ad a ∧ xEn D cl tyc ad A bs ah st t
theorem xPc_blind {vs : List Value} {ah : List xO} : FrameBlind (xPc D cl tyc clB ad A bs sts srs ncs vs ah) := by
  intro a U g mk h
  obtain ⟨h1, h2, h3, h4, h5⟩ := h
  exact ⟨h1, h2, h3, h4, h5.moved (U := U.calling g mk a) (State.WarmedH.refl U) (fun _ _ _ => rfl)⟩
/-- every method, at its own words, is as its tables say -/
def xGood (D : va_G) (cl : List vw_C) (tyc : Nat → ClassId) (clB : List vw_C) (ad : Nat → Nat) (A : Nat → Prop) (bs : List xO) (sts : List (String × String × String × Value)) (srs : List (String × Nat × String × Nat)) (ncs : List (String × String) × List Cond) (P : xPg) (mn : Nat → MethodName) (bc : Nat → ByteArray) (hh : Nat → Option (List (Nat × Nat × Nat × Nat))) (Ts : List Cond) (nM : Nat) : Prop :=
  ∀ k, k < nM → ∀ (s : State) (args : Array Value), (∀ w ∈ Ts, w.before args s = true) → xKn D cl tyc clB ad A bs sts srs ncs s → xMx P mn bc hh Ts nM cl clB ad A s args k
def xFrm (D : va_G) (cl : List vw_C) (tyc : Nat → ClassId) (clB : List vw_C) (ad : Nat → Nat) (A : Nat → Prop) (bs : List xO) (sts : List (String × String × String × Value)) (srs : List (String × Nat × String × Nat)) (ncs : List (String × String) × List Cond) (P : xPg) (mn : Nat → MethodName) (bc : Nat → ByteArray) (hh : Nat → Option (List (Nat × Nat × Nat × Nat))) (Ts : List Cond) (nM : Nat) (l : Launch) (f : Nat) : Prop :=
  ∀ {d k pc : Nat} {L st : List Value} {ah : List xO} {r : Option Value ⊕ Nat} {ah' : List xO}, xrun P bs.length f d k pc L st ah = some (r, ah') → k < nM → ∀ {p : Program} {e : Env} {R : Room} {s : State} {m : MethodId} {args : Array Value} {below : List Frame} {meth : Method} {c : Code} {H : Heap} {locs : List Loc} {cells slots c0 z0 mc ms : Nat} {ls : Array Slot},
  p.tables.exec = Jvm.exec → (∀ w ∈ Ts, w.before args s = true) → xKn D cl tyc clB ad A bs sts srs ncs s → s.vm.findClass (mn k).cls = some m.cls → c.code = bc k → c.maxLocals = xP_ml P k → meth.locks = false → meth.sig.returnType = xP_rt P k → meth.name = (mn k).name → c.exceptionTable.toList = xtb (hh k) →
  10 + d ≤ R.frames → 150 + 60 * d ≤ R.locals → mc ≤ R.cells → ms ≤ R.slots → xL ad L ls (xP_ml P k) → L.length = xP_ml P k → xI D cl tyc ad bs A s.heap ah H locs → cells + c0 = ah.length → slots + z0 = xsum ah → ah'.length ≤ mc + c0 → xsum ah' ≤ ms + z0 →
  W p l e R s m args below meth c H locs cells slots (xv_MQ below (xQc D cl tyc ad A bs r ah') (xXc D cl tyc ad A bs r ah') args s mc ms A) (F0 m pc ls (xJ st ad))
theorem xgw (h : ∀ w ∈ Ts, goodWord w = true) {args : Array Value} {s : State} (hts : ∀ w ∈ Ts, w.before args s = true) : ∀ w ∈ Ts, ∀ (a' : Array Value) (U : State), s.WarmedH U.vm → w.before a' U = true :=
  fun w hw a' U hW => word_at hW (good_of_word (h w hw)) (hts w hw)
theorem xcw_code (k : Nat) : goodWord (xcw P mn bc hh k) = true := by
  unfold xcw
  split <;> rfl
/-- a method's contract out of its run -/
theorem xmet {f : Nat} (hF : xFrm D cl tyc clB ad A bs sts srs ncs P mn bc hh Ts nM l f) {d y : Nat} {vs : List Value} {ah ah1 : List xO} {r : Option Value ⊕ Nat} (h : xrun P bs.length f d y 0 (xentry vs (xP_ml P y)) [] ah = some (r, ah1)) (hy : y < nM) (hp : plainName (mn y).cls = true) (hlay : (xlay vs).length ≤ xP_ml P y) {mc ms : Nat} (hmc : ah1.length ≤ mc + ah.length) (hms : xsum ah1 ≤ ms + xsum ah) :
    xv_Met l (mn y) (xcw P mn bc hh y :: Ts) (xrm d mc ms) (xPc D cl tyc clB ad A bs sts srs ncs vs ah) (xQc D cl tyc ad A bs r ah1) (xXc D cl tyc ad A bs r ah1) mc ms A := by
  refine MetFree.of_bodyS (code := bc y) (maxLocals := xP_ml P y) (ret := xP_rt P y) hp ?_ ?_
  · intro args s m h9 hn
    have hw := atoms_spec (ws := xcw P mn bc hh y :: Ts) h9 _ List.mem_cons_self
    unfold xcw at hw
    split at hw
    · obtain ⟨meth, c, h1, h2, h3, h4, h5, h6, -, -⟩ := Cond.code_spec hn hw
      exact ⟨meth, c, h1, h2, h3, h4, h5, h6⟩
    · obtain ⟨m9, meth, c, hn9, h1, h2, h3, h4, -, h5, h6, -⟩ := Cond.codeWith_spec hw
      cases hn.symm.trans hn9
      exact ⟨meth, c, h1, h2, h3, h4, h5, h6⟩
  · intro p e s m args below meth c s₁ B hml hP _
    have hh0 : s₁.heap = s.heap := by rw [B.state]; rfl
    have hall := atoms_spec (ws := xcw P mn bc hh y :: Ts) B.pre
    have hts : ∀ w ∈ Ts, w.before args s = true := fun w hw => hall w (List.mem_cons_of_mem _ hw)
    have htb : c.exceptionTable.toList = xtb (hh y) := by
      have hw := hall _ List.mem_cons_self
      unfold xcw at hw
      unfold xtb
      split at hw
      · rename_i e9
        obtain ⟨meth9, c9, h1, h2, -, -, -, -, h7, -⟩ := Cond.code_spec B.named hw
        cases Option.some.inj (h1.symm.trans B.method)
        cases Option.some.inj (h2.symm.trans (Stand.of_body B).code)
        rw [Array.isEmpty_iff.mp h7]
      · rename_i t9 e9
        exact vx_table (x := mn y) B hw
    obtain ⟨rfl, g1, g2, g3, g4⟩ := hP
    obtain ⟨ls, e1, e2⟩ := xentry_ok ad m hlay
    have K := hF h hy (p := p) (e := e) (R := xrm d mc ms) (s := s) (m := m) (args := (xJ vs ad).toArray) (below := below) (meth := meth) (c := c) (H := s.heap) (locs := []) (cells := 0) (slots := 0) (c0 := ah.length) (z0 := xsum ah) (mc := mc) (ms := ms) (ls := ls) B.exec hts g4 (findClass_of_methodNamed B.named) B.bytes hml B.notSynchronized B.returns (name_of_methodNamed B.named B.method).1 htb
      (Nat.le_refl _) (Nat.le_refl _) (Nat.le_refl _) (Nat.le_refl _) e2 (xentry_len hlay) ⟨g1, g2, g3, va_S.rf⟩ (Nat.zero_add _) (Nat.zero_add _) hmc hms
    rw [← show entryFrame m (xJ vs ad).toArray (xP_ml P y) = F0 m 0 ls (xJ [] ad) from e1] at K
    obtain ⟨t, a1, o, b1, b2, b3⟩ := K s₁ hh0 (Stand.of_body B)
    exact ⟨t, o, a1, b1, b2, b3⟩
end
end XT
