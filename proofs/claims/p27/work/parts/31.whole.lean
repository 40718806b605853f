/-! WHAT IS LEFT: a statement about the small machine alone -/
/-- whatever the script, the small machine runs the law to its end with 1, within the room -/
def xPure : Prop := ∀ (v : Value) (L : Nat) (xs : Nat → Int32), (v = .null ∨ v = .ref 80) → L ≤ 260 → ∃ (fuel : Nat) (ah' : List xO), xLaw v fuel L xs = some (.inl (some (.int 1)), ah') ∧ ah'.length ≤ 600086 + 81 ∧ xsum ah' ≤ 7301442 + xsum (xB0 L xs)
theorem x_whole (hp : xPure) {p : Program} {e : Env} {s : State} {m : MethodId} {below : List Frame} {meth : Method} {c : Code} (l : Launch) (hflags : l.flags = flags0) {b L : Nat} {xs : Nat → Int32} (hL : L ≤ 260)
    (hx : p.tables.exec = Jvm.exec) (hb : c.code = code) (hret : meth.sig.returnType = ret) (hml : c.maxLocals = 25) (hown : s.vm.findClass R_law = some m.cls) (hts : ∀ w ∈ lw_tbl, w.before #[Value.ref b] s = true) (hX : va_X b L xs s s.heap) (hbl : b < s.heap.size) (hlk : meth.locks = false) (hgv : (Jvm.Cond.and given_1 narrow_1).before #[Value.ref b] s = true) (hnm : meth.name = x.name) (htb : c.exceptionTable.toList = []) :
    W p l e room_1 s m #[Value.ref b] below meth c s.heap [] 0 0 (lw_Z below #[Value.ref b] s) (entryFrame m ([Value.ref b] : List Value).toArray 25) := by
  obtain ⟨D, tyc, ad, A, v, hv, hKn, had, hA, h79, hsz⟩ := x_start xu_cs (xw_ok hts) hX hbl hgv
  obtain ⟨fuel, ah', h1, h2, h3⟩ := hp v L xs hv hL
  exact x_end l hflags hx hb hret hml hown hts hlk hnm htb hKn had hA h79 hsz h1 h2 h3
