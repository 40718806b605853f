section XV9
variable {D : va_G} {cl clB : List vw_C} {tyc : Nat → ClassId} {ad : Nat → Nat} {A : Nat → Prop} {bs : List xO} {sts : List (String × String × String × Value)} {srs : List (String × Nat × String × Nat)} {ncs : List (String × String) × List Cond}
variable {P : xPg} {mn : Nat → MethodName} {bc : Nat → ByteArray} {hh : Nat → Option (List (Nat × Nat × Nat × Nat))} {Ts : List Cond} {nM : Nat} {l : Launch}
variable {p : Program} {e : Env} {R : Room} {s : State} {m : MethodId} {args : Array Value} {below : List Frame} {meth : Method} {c : Code} {H : Heap} {locs : List Loc} {cells slots : Nat}
variable {pc : Nat} {ls : Array Slot} {L st : List Value} {ah ah1 ah' : List xO} {r : Option Value ⊕ Nat}
/-- a thing as the machine sees it -/
theorem xcls_at (hK : va_K D cl (xtys tyc) s) (hB : xBs clB ad A bs s) (hI : xI D cl tyc ad bs A s.heap ah H locs) {a n : Nat} (h : xcls ah a = some n) : ∃ (q : vw_C) (cell : Cell), (if n < 100 then cl[n]? else clB[n - 100]?) = some q ∧ H[ad a]? = some cell ∧ cell.vm.isStatics = false ∧ s.vm.findClass q.1 = some cell.cls ∧ (n < 100 → cell.vm = .none) := by
  unfold xcls at h
  split at h
  · rename_i c0 fs ho
    have hn9 : n ≠ 199 := by
      intro e
      split at h
      · cases h
      · rename_i hbq
        cases h
        rw [e] at hbq
        exact absurd hbq (by decide)
    have h : n = c0 := by
      split at h
      · cases h
      · exact (Option.some.inj h).symm
    subst h
    by_cases hE : bs.length ≤ a
    · obtain ⟨hn, q, g1, cell, g2, g3, g4, -⟩ := hI.1.2 a _ hE ho
      have hn : n < 100 := hn
      refine ⟨q, cell, by rw [if_pos hn]; exact g1, g2, by rw [g4]; rfl, ?_, fun _ => g4⟩
      rw [g3]
      exact (hK.1 n q g1).2.1
    · rw [hI.1.1 a (by omega)] at ho
      obtain ⟨h100, ⟨h199, -⟩ | ⟨C, T, N, g1, g2, -⟩⟩ := hB a _ ho
      · exact absurd h199 hn9
      obtain ⟨cell, g3, g4, g5, -⟩ := g2.kept hI.2.2.2.2.1
      exact ⟨(C, T, N), cell, by rw [if_neg (by omega)]; exact g1, g3, g4, g5, fun z => by omega⟩
  · cases h
/-- a thing that is thrown over the frame: caught here, or it goes on -/
theorem s_hand {f d k : Nat} (hF : xFrm D cl tyc clB ad A bs sts srs ncs P mn bc hh Ts nM l f) (hk : k < nM) (hx : p.tables.exec = Jvm.exec) (hts : ∀ w ∈ Ts, w.before args s = true) (hKn : xKn D cl tyc clB ad A bs sts srs ncs s) (hown : s.vm.findClass (mn k).cls = some m.cls) (hb : c.code = bc k) (hml : c.maxLocals = xP_ml P k) (hlk : meth.locks = false) (hrt : meth.sig.returnType = xP_rt P k) (hname : meth.name = (mn k).name) (htb : c.exceptionTable.toList = xtb (hh k)) (hM : xMx P mn bc hh Ts nM cl clB ad A s args k)
    (hRf : 10 + d ≤ R.frames) (hRl : 150 + 60 * d ≤ R.locals) {mc ms c0 z0 : Nat} (hmc : mc ≤ R.cells) (hms : ms ≤ R.slots) (hL : xL ad L ls (xP_ml P k)) (hlen : L.length = xP_ml P k) (hI : xI D cl tyc ad bs A s.heap ah1 H locs) (hc0 : cells + c0 = ah1.length) (hz0 : slots + z0 = xsum ah1) (h1 : ah'.length ≤ mc + c0) (h2 : xsum ah' ≤ ms + z0) {a : Nat} {rest : List Value} (h : xHnd P bs.length f d k pc L a ah1 r ah') :
    vx_W p l e R s m args below meth c H locs cells slots (xv_MQ below (xQc D cl tyc ad A bs r ah') (xXc D cl tyc ad A bs r ah') args s mc ms A) (F0 m pc ls rest) (ad a) := by
  obtain ⟨n, hcl, hcase⟩ := h
  have hHn := hM.2.2.2.2.2.2.2.2.2.2.1
  obtain ⟨q, cell, g1, g2, g3, g4, g5⟩ := xcls_at hKn.1 hKn.2.1 hI hcl
  rcases hcase with ⟨h0, e1, e2⟩ | ⟨e1, rfl, rfl⟩
  · obtain ⟨h100, hq⟩ := hHn _ _ _ e1
    rw [if_pos h100] at g1
    obtain ⟨pre, x, suf, t1, t2, t3, t4, ⟨nm, t5, t6⟩, rfl⟩ := hq q g1
    refine vx_catch hown pre x suf (htb.trans t1) t2 t3 t4 t5 t6 g2 (g5 h100) g4 ?_
    exact hF e2 hk hx hts hKn hown hb hml hlk hrt hname htb hRf hRl hmc hms hL hlen hI hc0 hz0 h1 h2
  · obtain ⟨h100, hq⟩ := hHn _ _ _ e1
    rw [if_pos h100] at g1
    have t1 := hq q g1
    refine xv_outP (E := q.1) (ce := cell) hown hlk (by rw [htb]; exact t1) g2 (g5 h100) g4 ?_ hI.2.2.2.2.2 (by omega) (by omega)
    intro t ht _
    exact ⟨a, rfl, rfl, by rw [ht]; exact hI.1, by rw [ht]; exact hI.2.1, hI.2.2.2.F ht⟩
/-- a call has come back, or has thrown -/
theorem s_back {f d k y : Nat} (hF : xFrm D cl tyc clB ad A bs sts srs ncs P mn bc hh Ts nM l f) (hk : k < nM) (hx : p.tables.exec = Jvm.exec) (hts : ∀ w ∈ Ts, w.before args s = true) (hKn : xKn D cl tyc clB ad A bs sts srs ncs s) (hown : s.vm.findClass (mn k).cls = some m.cls) (hb : c.code = bc k) (hml : c.maxLocals = xP_ml P k) (hlk : meth.locks = false) (hrt : meth.sig.returnType = xP_rt P k) (hname : meth.name = (mn k).name) (htb : c.exceptionTable.toList = xtb (hh k)) (hM : xMx P mn bc hh Ts nM cl clB ad A s args k)
    (hRf : 10 + d ≤ R.frames) (hRl : 150 + 60 * d ≤ R.locals) {mc ms c0 z0 : Nat} (hmc : mc ≤ R.cells) (hms : ms ≤ R.slots) (hL : xL ad L ls (xP_ml P k)) (hlen : L.length = xP_ml P k) (hI : xI D cl tyc ad bs A s.heap ah H locs) (hc0 : cells + c0 = ah.length) (hz0 : slots + z0 = xsum ah) (h1 : ah'.length ≤ mc + c0) (h2 : xsum ah' ≤ ms + z0) {o : Option Value ⊕ Nat} {rr : List Value} {g : JFrame} {T : State} (hT : T.heap = H) {va : Array Value} {my sy : Nat} (hmy : my + ah.length = ah1.length) (hsy : sy + xsum ah = xsum ah1)
    (hgo : (∃ v, o = .inl v ∧ xrun P bs.length f d k (pc + 3) L (v.toList ++ rr) ah1 = some (r, ah')) ∨ ∃ a, o = .inr a ∧ xHnd P bs.length f d k pc L a ah1 r ah')
    (hback : (∃ (v : Option Value) (vm₁ : Vm) (B : Pt), s.WarmedH vm₁ ∧ Stand p l e R s m args below meth c B.U B.locs B.cells B.slots ∧ PostOf (xQc D cl tyc ad A bs o ah1) my sy A ⟨T.setVm vm₁, locs, cells, slots⟩ va v B ∧ ∀ target, Steps p.tables e below (B.U.setTop (F0 m (pc + 3) ls (v.toList ++ xJ rr ad))) target → Steps p.tables e below (T.setTop g) target) ∨
      (∃ (q : Addr) (vm₁ : Vm) (B : Pt), s.WarmedH vm₁ ∧ Stand p l e R s m args below meth c B.U B.locs B.cells B.slots ∧ xv_Post (xXc D cl tyc ad A bs o ah1) my sy A ⟨T.setVm vm₁, locs, cells, slots⟩ va q B ∧ Steps p.tables e below (T.setTop g) ((B.U.setTop (F0 m pc ls (xJ rr ad))).pushFrame (.throwing q)))) :
    ∃ t, Steps p.tables e below (T.setTop g) t ∧ xv_MQ below (xQc D cl tyc ad A bs r ah') (xXc D cl tyc ad A bs r ah') args s mc ms A t := by
  have frame : ∀ {g' : JFrame} {mk : MethodId} {vm₁ : Vm} {t : State} {Lq : List Loc}, xEn D cl tyc ad A bs ah1 ((T.setVm vm₁).calling g' mk va) t → (∀ q ∈ Lq, A q.base) → xI D cl tyc ad bs A s.heap ah1 t.heap (locs ++ Lq) := by
    intro g' mk vm₁ t Lq hE hLq
    obtain ⟨e1, e2, e3, e4⟩ := hE
    have hst : ((T.setVm vm₁).calling g' mk va).heap = H := hT
    rw [hst] at e3 e4
    refine ⟨e1, e2, ?_, Nat.le_trans hI.2.2.2.1 e3, fun q q1 q2 => (e4 q (Nat.lt_of_lt_of_le q1 hI.2.2.2.1) q2).trans (hI.2.2.2.2.1 q q1 q2), fun q hq => ?_⟩
    · have := hI.2.2.1; omega
    · rcases List.mem_append.mp hq with z | z
      · exact hI.2.2.2.2.2 q z
      · exact hLq q z
  rcases hback with ⟨v, vm₁, B, hW₁, X', ⟨g', mk, t, Lq, f1, f2, hq, f3, f4, f5, f6⟩, st1⟩ | ⟨q, vm₁, B, hW₁, X', ⟨g', mk, t, Lq, E, ce, f1, f2, hq, -, -, -, f3, f4, f5, f6⟩, st1⟩
  · have f5 : B.cells = cells + my := f5
    have f6 : B.slots = slots + sy := f6
    have f3 : B.locs = locs ++ Lq := f3
    obtain ⟨v0, rfl, hv, hE⟩ := hq
    cases hv
    rcases hgo with ⟨v1, e1, e2⟩ | ⟨a, e1, -⟩
    · cases e1
      have hI1 := frame hE f4
      have K := hF e2 hk (R := R) hx hts hKn hown hb hml hlk hrt hname htb hRf hRl hmc hms hL hlen hI1 (cells := B.cells) (slots := B.slots) (below := below) (e := e) (by rw [f5]; omega) (by rw [f6]; omega) h1 h2
      have e3 : xJ (v0.toList ++ rr) ad = (v0.map (xm ad)).toList ++ xJ rr ad := by cases v0 <;> simp [xJ]
      rw [e3, ← f1] at K
      have X'' := X'
      rw [f3] at X''
      obtain ⟨t2, a1, b1⟩ := K B.U rfl X''
      exact ⟨t2, st1 _ a1, b1⟩
    · cases e1
  · have f5 : B.cells = cells + my := f5
    have f6 : B.slots = slots + sy := f6
    have f3 : B.locs = locs ++ Lq := f3
    obtain ⟨a, rfl, rfl, hE⟩ := hq
    rcases hgo with ⟨v1, e1, -⟩ | ⟨a1, e1, e2⟩
    · cases e1
    · cases e1
      have hI1 := frame hE f4
      have K := s_hand (rest := xJ rr ad) hF hk (R := R) hx hts hKn hown hb hml hlk hrt hname htb hM hRf hRl hmc hms hL hlen hI1 (cells := B.cells) (slots := B.slots) (below := below) (e := e) (by rw [f5]; omega) (by rw [f6]; omega) h1 h2 e2
      rw [← f1] at K
      have X'' := X'
      rw [f3] at X''
      obtain ⟨t2, a1, b1⟩ := K B.U rfl X''
      exact ⟨t2, st1.trans a1, b1⟩
end XV9
