/-! OUT OF THE SMALL MACHINE's RUN OF THE LAW, THE REAL ONE's -/
-- ===== of the claim's own text (its part behind the names), needed here =====
def R_law : String := "ReportMillLaw"
def lw_Q (_ : Array Value) (s : State) (o : Outcome) (t : State) : Prop := o = .returned (some (.int 1)) ∧ Framed s o t [] 600086 7301442
def lw_Z (below : List Frame) (a : Array Value) (s : State) : State → Prop := fun t => ∃ o, t.status = .running ∧ Ended t below o ∧ lw_Q a s o t
-- =====
section XAE
variable {p : Program} {e : Env} {s : State} {m : MethodId} {below : List Frame} {meth : Method} {c : Code} {b L : Nat} {xs : Nat → Int32}
variable {D : va_G} {tyc : Nat → ClassId} {ad : Nat → Nat} {A : Nat → Prop} {v : Value}
theorem x_nm0 : 0 < xNm := by decide
theorem x_kd (q : vw_C) (h : xClB[xP_kd (xPrg v) - 100]? = some q) : q.1 = "ReportMill$Kind" := by
  have e : xP_kd (xPrg v) = 100 := rfl
  rw [e] at h
  obtain ⟨c0, h1, rfl⟩ := xcl_at' (cs := xCdB) h
  have e2 : xCdB[0]? = some c0 := h1
  have e3 : xCdB[0]?.map (fun q => q.1) = some "ReportMill$Kind" := rfl
  rw [e2] at e3
  exact Option.some.inj e3
theorem x_arr (ty : FieldType) (h : ty = FieldType.int ∨ ty = .long ∨ ty = .byte ∨ ty = .boolean) : Cond.arrayClass ty ∈ xTs := by
  have hg : ∀ ty, goodWord (Cond.arrayClass ty) = true := fun _ => rfl
  rcases h with rfl | rfl | rfl | rfl <;> exact List.mem_filter.mpr ⟨by decide +kernel, hg _⟩
theorem x_end (l : Launch) (hflags : l.flags = flags0) (hx : p.tables.exec = Jvm.exec) (hb : c.code = code) (hret : meth.sig.returnType = ret) (hml : c.maxLocals = 25) (hown : s.vm.findClass R_law = some m.cls) (hts : ∀ w ∈ lw_tbl, w.before #[Value.ref b] s = true) (hlk : meth.locks = false) (hnm : meth.name = x.name) (htb : c.exceptionTable.toList = [])
    (hKn : xKn D xCl tyc xClB ad A (xB0 L xs) (xSts v) xSrs xNcs s) (had : xAd ad 81 A) (hA : ∀ q, A q → s.heap.size ≤ q) (hb73 : ad 79 = b) (hsz : s.heap.size = ad 81) {fuel : Nat} {ah' : List xO} (hrun : xLaw v fuel L xs = some (.inl (some (.int 1)), ah')) (h1 : ah'.length ≤ 600086 + 81) (h2 : xsum ah' ≤ 7301442 + xsum (xB0 L xs)) :
    W p l e room_1 s m #[Value.ref b] below meth c s.heap [] 0 0 (lw_Z below #[Value.ref b] s) (entryFrame m ([Value.ref b] : List Value).toArray 25) := by
  have hl0 : l.stackTraces = false := by unfold Launch.stackTraces; rw [hflags]; decide
  have hTs : ∀ w ∈ xTs, w.before #[Value.ref b] s = true := fun w hw => xw_ok hts w (List.mem_filter.mp hw).1
  have hF : xFrm D xCl tyc xClB ad A (xB0 L xs) (xSts v) xSrs xNcs (xPrg v) (xmnOf xMs) (xbcOf xMs) (xhhOf xMs) xTs xNm l fuel := xframe (xGood_of xu_all) xTs_good hl0 had x_kd (show 100 ≤ xP_kd (xPrg v) ∧ xP_kd (xPrg v) ≠ 199 from (by decide : 100 ≤ 100 ∧ 100 ≠ 199)) x_arr fuel
  obtain ⟨ls, e1, e2⟩ := xentry_ok ad m (vs := [.ref 79]) (n := 25) (by decide)
  have e1 : entryFrame m ([Value.ref (ad 79)] : List Value).toArray 25 = F0 m 0 ls [] := e1
  rw [hb73] at e1
  have K := hF (d := 900) (k := 0) (pc := 0) (L := xentry [.ref 79] 25) (st := []) (ah := xB0 L xs) hrun x_nm0 (p := p) (e := e) (R := room_1) (s := s) (m := m) (args := #[Value.ref b]) (below := below) (meth := meth) (c := c) (H := s.heap) (locs := []) (cells := 0) (slots := 0) (c0 := 81) (z0 := xsum (xB0 L xs)) (mc := 600086) (ms := 7301442) (ls := ls)
    hx hTs hKn hown hb hml hlk hret hnm htb (by decide) (by decide) (Nat.le_refl _) (Nat.le_refl _) e2 rfl ⟨⟨fun _ _ => rfl, fun k o hk ho => absurd (List.getElem?_eq_some_iff.mp ho).1 (by omega)⟩, hsz, Nat.le_refl _, va_S.rf⟩ rfl (Nat.zero_add _) h1 h2
  rw [e1]
  intro T hT X
  obtain ⟨t, a1, o, b1, b2, b3⟩ := K T hT X
  refine ⟨t, a1, o, b1, b2, ?_⟩
  rcases b3 with ⟨⟨v1, q1, q2, -⟩, Lq, ⟨f1, f2, f3⟩, f4⟩ | ⟨q, -, E, ce, Lq, ⟨a9, q1, -⟩, -⟩
  · cases q1
    refine ⟨q2, ⟨_, q2⟩, f2, ?_⟩
    exact State.sameButNew.weaken f3 (fun y hy hlt => absurd hlt (Nat.not_lt.mpr (hA _ (f4 y hy)))) (Nat.le_refl _) (Nat.le_refl _)
  · cases q1
end XAE
