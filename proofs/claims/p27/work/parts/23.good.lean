section XZ3
variable {s : State} {args : Array Value} {own : String}
def xteh (j : Nat) : List ((String × Nat) × xHt) → Option (String × xHt)
  | [] => none
  | (k, v) :: r => match Nat.beq k.2 j with
    | true => some (k.1, v)
    | false => xteh j r
def xzip : xHt → List Cond → Prop
  | [], [] => True
  | z :: zs, w :: ws => xCn z w ∧ vx_ot w = true ∧ xzip zs ws
  | _, _ => False
theorem xzip_ok (hw : xHo s args) : ∀ {zs : xHt} {ws : List Cond}, xzip zs ws → ∀ w ∈ ws, w.before args s = true ∧ vx_ot w = true
  | [], [], _, w, h => by cases h
  | [], _ :: _, h, _, _ => by cases h
  | _ :: _, [], h, _, _ => by cases h
  | z :: zs, w :: ws, h, w', hm => by
    unfold xzip at h
    rcases List.mem_cons.mp hm with rfl | hm
    · exact ⟨xCn_use hw h.1, h.2.1⟩
    · exact xzip_ok hw h.2.2 w' hm
def xChkT (own : String) (j : Nat) (e : Nat × (List String × Nat)) : Prop := Nat.blt e.1 100 = true ∧ (match xCds[e.1]? with
  | some q => q.2.1 = [] ∧ (Nat.ble e.2.1.length 3 && Bundle.fit q.1 && e.2.1.all Bundle.fit) = true ∧ (match xteh j xTeh with
    | some (o, hs) => o = own ∧ xzip hs (Cond.classLink own j q.1 :: Cond.initialized q.1 :: vx_at0 own e.2.2 q.1 e.2.1)
    | none => False)
  | none => False)
def xChkMa (own : String) (j : Nat) (e : Nat × xHt) : Prop := match Nat.blt e.1 5, e.1, e.2 with
  | true, _, [z1, z2, z3, z4] => xCk z1 (.methodLink own j (xMaw e.1).1) ∧ xCk z2 (.static (xMaw e.1).1) ∧ xCk z3 (.initialized "java/lang/Math") ∧ xCk z4 (.code (xMaw e.1).1 (xMaw e.1).2.1 (xMaw e.1).2.2.1 (some (xMaw e.1).2.2.2))
  | false, 5, [z1, z2, z3, z4] => xCk z1 (.methodLink own j arraycopyName) ∧ xCk z2 (.native arraycopyName) ∧ xCk z3 (.static arraycopyName) ∧ xCk z4 (.initialized "java/lang/System")
  | false, 6, [z1, z2, z3, z4, z5, z6] => xCk z1 (.methodLink own j ⟨"[B", "clone", "()Ljava/lang/Object;"⟩) ∧ xCk z2 (.sameMethod "[B" "java/lang/Object" "clone" "()Ljava/lang/Object;") ∧ xCk z3 (.native ⟨"java/lang/Object", "clone", "()Ljava/lang/Object;"⟩) ∧ xCk z4 (.instanceMethod ⟨"java/lang/Object", "clone", "()Ljava/lang/Object;"⟩) ∧ xCk z5 (.selects "[B" ⟨"[B", "clone", "()Ljava/lang/Object;"⟩ ⟨"java/lang/Object", "clone", "()Ljava/lang/Object;"⟩) ∧ xNws[z6.2]? = some (.castable "[B" "java/lang/Cloneable")
  | false, 7, [z1] => xCk z1 (.classLink own j "[B")
  | _, _, _ => False
theorem xMa_of (hw : xHo s args) {t : xTab (Nat × xHt)} (h : xaP (xChkMa own) t) : xMa s args own (fun i => xfs (xlk t i)) := by
  intro j c hi
  obtain ⟨hz, hi⟩ := xfs_ok hi
  have h1 := xaP_ok h hi
  unfold xChkMa at h1
  split at h1
  · rename_i hb _
    have hb : Nat.blt c 5 = true := hb
    rw [Nat.blt_eq] at hb
    exact ⟨fun _ => ⟨xCk_use hw h1.1, xCk_use hw h1.2.1, xCk_use hw h1.2.2.1, xCk_use hw h1.2.2.2⟩, fun e => by omega, fun e => by omega, fun e => by omega⟩
  · rename_i hc _
    have hc : c = 5 := hc
    subst hc
    exact ⟨fun e => by omega, fun _ => ⟨xCk_use hw h1.1, xCk_use hw h1.2.1, xCk_use hw h1.2.2.1, xCk_use hw h1.2.2.2⟩, fun e => by omega, fun e => by omega⟩
  · rename_i hc _
    have hc : c = 6 := hc
    subst hc
    exact ⟨fun e => by omega, fun e => by omega, fun _ => ⟨xCk_use hw h1.1, xCk_use hw h1.2.1, xCk_use hw h1.2.2.1, xCk_use hw h1.2.2.2.1, xCk_use hw h1.2.2.2.2.1, (hw.2 _ (List.mem_of_getElem? h1.2.2.2.2.2))⟩, fun e => by omega⟩
  · rename_i hc _
    have hc : c = 7 := hc
    subst hc
    exact ⟨fun e => by omega, fun e => by omega, fun e => by omega, fun _ => xCk_use hw h1⟩
  · cases h1
def xChkTi (own : String) (j : Nat) (e : Nat × xHt) : Prop := match xCds[e.1]? with
  | some q => xzip e.2 (xv_at own j q.1 "java/lang/RuntimeException" (q.2.1.length + q.2.2) ["java/lang/Exception"])
  | none => False
def xChkTb (j : Nat) (e : Nat × xHt) : Bool := match xCds[e.1]? with
  | some q => q.2.1.all fun f => (parseFieldDescriptor f.2.2.1).isSome && decide (f.2.1 ≠ "cause") && decide (f.2.1 ≠ "stackTrace") && decide (f.2.1 ≠ "suppressedExceptions")
  | none => false
theorem xfit_1 : Bundle.fit "java/lang/RuntimeException" = true := by decide +kernel
theorem xfit_2 : Bundle.fit "java/lang/Exception" = true := by decide +kernel
theorem xTi_of (hw : xHo s args) (hc : xChkCs = true) {t : xTab (Nat × xHt)} (h : xaP (xChkTi own) t) (hB : xall t xChkTb = true) : xTi s args own xCl xTs (fun i => xfs (xlk t i)) := by
  intro idx ci hi
  obtain ⟨hz, hi⟩ := xfs_ok hi
  have h1 := xaP_ok h hi
  have h2 := xlk_ok hB hi
  unfold xChkTi at h1
  unfold xChkTb at h2
  split at h1
  · rename_i q hq
    have hq : xCds[ci]? = some q := hq
    simp only [hq] at h2
    obtain ⟨hh, g4⟩ := xChkCs_ok hc hq
    obtain ⟨c1, c2, c3⟩ := xChkC_ok g4
    refine ⟨q.1, _, xT q.2.1, q.2.1.length, _, _, xcl_at hq, xfit_1, by decide, fun z hz => ?_, fun w hw' => (xzip_ok hw h1 w hw').1, c1, fun k hk => ?_⟩
    · rcases List.mem_cons.mp hz with rfl | hz
      · exact xfit_2
      · cases hz
    · obtain ⟨f, hf⟩ : ∃ f, q.2.1[k]? = some f := ⟨_, List.getElem?_eq_getElem hk⟩
      have h3 := List.all_eq_true.mp h2 _ (List.mem_of_getElem? hf)
      simp only [Bool.and_eq_true, decide_eq_true_eq] at h3
      rw [xT_at hf]
      exact ⟨Option.isSome_iff_exists.mp h3.1.1.1, h3.1.1.2, h3.1.2, h3.2⟩
  · cases h1
def xChkMk (own : String) (j : Nat) (e : (Nat × Nat × Nat) × xHt) : Prop := match xMt xMs e.1.2.2, e.2 with
  | some q, [z1, z2, z3, z, zi, zc, zn] => xChkN own j (e.1.1, [z1, z2, z3]) ∧ xChkC1 own e.1.2.1 z q ∧ xCk zi (.initialized q.2.1.cls) ∧ xCk zc (xMcw q) ∧ xCk zn (.instanceMethod q.2.1) ∧ q.2.1.name = "<init>" ∧ q.2.2.2.1 = none ∧ q.2.2.2.2.2.2.2.1 = none
  | _, _ => False
def xChkMb2 (j : Nat) (e : (Nat × Nat × Nat) × xHt) : Bool := match xMt xMs e.1.2.2 with
  | some q => Nat.blt e.1.2.2 xNm && plainName q.2.1.cls && decide (q.2.1.cls ≠ "java/lang/invoke/MethodHandle") && decide (q.2.1.cls ≠ "java/lang/invoke/VarHandle") && xPdn q.2.1.desc 2 && decide (decode q.2.2.1 0 = .ok (.aload_n 0, 1)) && (match decode q.2.2.1 1 with
    | .ok (.invokespecial i2, 3) => (match xlk (xPl xPs q.1).2.2.2.2.2.2.2.2.2.2.1 i2 with | some c => Nat.beq c.1 e.1.1 | none => false)
    | _ => false)
  | none => false
theorem xMk_of {v : Value} (hw : xHo s args) (hc : xChkCs = true) {t : xTab ((Nat × Nat × Nat) × xHt)} (h : xaP (xChkMk own) t) (hB : xall t xChkMb2 = true) : xMk (xPrg v) (xmnOf xMs) (xbcOf xMs) (xhhOf xMs) xTs xNm xCl s args own (fun i => xfs (xlk t i)) := by
  intro j ci ic y hi
  obtain ⟨hz, hi⟩ := xfs_ok hi
  have h1 := xaP_ok h hi
  have hB1 := xlk_ok hB hi
  unfold xChkMk at h1
  split at h1
  · rename_i q z1 z2 z3 z zi zc zn hq e2
    have hq : xMt xMs y = some q := hq
    unfold xChkMb2 at hB1
    simp only [hq, Bool.and_eq_true] at hB1
    obtain ⟨⟨⟨⟨⟨⟨a1, a2⟩, a3⟩, a4⟩, a5⟩, a6⟩, a7⟩ := hB1
    obtain ⟨b0, b1, b2, b3, b4, b5, b6, b7⟩ := h1
    have b0 : xChkN own j (ci, [z1, z2, z3]) := b0
    have emn : xmnOf xMs y = q.2.1 := by unfold xmnOf; rw [hq]
    have ehh : xhhOf xMs y = q.2.2.2.1 := by unfold xhhOf; rw [hq]
    have ebc : xbcOf xMs y = q.2.2.1 := by unfold xbcOf; rw [hq]
    have emt : xP_mt (xPrg v) y = (q.2.2.2.2.1, q.2.2.2.2.2.1, q.2.2.2.2.2.2.1, q.2.2.2.2.2.2.2.1, q.2.2.2.2.2.2.2.2.1) := by
      show xmtOf xMs y = _
      unfold xmtOf; rw [hq]
    have epl : xP_pool (xPrg v) y = q.1 := by
      show xpoolOf xMs y = _
      unfold xpoolOf; rw [hq]
    have ecw : xcw (xPrg v) (xmnOf xMs) (xbcOf xMs) (xhhOf xMs) y = xMcw q := by
      unfold xcw xMcw xP_ml xP_rt
      rw [ehh, emn, ebc, emt]
      cases q.2.2.2.1 <;> rfl
    rw [ecw, emn, ehh, ebc, epl]
    unfold xP_rt
    rw [emt]
    refine ⟨fun i ci' hi' => ?_, of_decide_eq_true (by simpa [Nat.blt_eq] using a1), a2, ⟨of_decide_eq_true a3, of_decide_eq_true a4⟩, fun sig hs => ?_, xCk_use hw b2, xCk_ok b3, xCk_use hw b4, b5, b6, b7, xChkC1_ok hw b1, of_decide_eq_true a6, ?_⟩
    · have hi' : (if i = j then some ci else none) = some ci' := hi'
      split at hi'
      · rename_i e9
        cases hi'
        subst e9
        exact xTn_of hw hc (t := [(i + 1, [(i, (ci, [z1, z2, z3]))])]) ⟨⟨b0, trivial⟩, trivial⟩ i ci (by
          have e8 : Nat.blt i (i + 1) = true := by rw [Nat.blt_eq]; exact Nat.lt_succ_self i
          have e7 : Nat.beq i i = true := Nat.beq_refl i
          simp only [xlk, xlk1, e8, e7, xfs])
      · cases hi'
    · unfold xPdn at a5
      rw [hs] at a5
      exact (Nat.eq_of_beq_eq_true a5).symm
    · split at a7
      · rename_i i2 hdec
        refine ⟨i2, hdec, ?_⟩
        split at a7
        · rename_i c hcc
          have e9 := Nat.eq_of_beq_eq_true a7
          show xfs (xlk (xPl xPs q.1).2.2.2.2.2.2.2.2.2.2.1 i2) = some ci
          rw [hcc]
          show some c.1 = _
          rw [e9]
        · cases a7
      · cases a7
  · cases h1
/-- a pool: all of its tables -/
def xChkPool (q : xPool) : Prop := xaP (xChkF q.1) q.2.1 ∧ xaP (xChkP q.1) q.2.2.1 ∧ xaP (xChkS q.1) q.2.2.2.1 ∧ xaP (xChkN q.1) q.2.2.2.2.1 ∧ xaP (xChkA q.1) q.2.2.2.2.2.1 ∧ xaP (xChkO q.1) q.2.2.2.2.2.2.1 ∧ xaP (xChkK q.1) q.2.2.2.2.2.2.2.1 ∧ xaP (xChkCa q.1) q.2.2.2.2.2.2.2.2.1 ∧ xaP (xChkT q.1) q.2.2.2.2.2.2.2.2.2.1 ∧ xaP (xChkMa q.1) q.2.2.2.2.2.2.2.2.2.2.2.1 ∧ xaP (xChkTi q.1) q.2.2.2.2.2.2.2.2.2.2.1 ∧ xaP (xChkMk q.1) q.2.2.2.2.2.2.2.2.2.2.2.2
def xChkPb (q : xPool) : Bool := xall q.2.2.2.2.2.2.2.2.1 xChkCb && xall q.2.2.2.2.2.2.2.2.2.2.1 xChkTb && xall q.2.2.2.2.2.2.2.2.2.2.2.2 xChkMb2
def xThr (q : xMth) (pc : Nat) (e : Instr × Nat) : Bool := match e.1 with
  | .new j => (match xlk (xPl xPs q.1).2.2.2.2.2.2.2.2.2.1 j with
    | some t => q.2.2.2.1.isNone && decide (decode q.2.2.1 (pc + 3) = .ok (.dup, 1)) && decide (decode q.2.2.1 (pc + 4) = .ok (.invokespecial t.2.2, 3)) && decide (decode q.2.2.1 (pc + 7) = .ok (.athrow, 1))
    | none => true)
  | _ => true
def xDec (q : xMth) (pc : Nat) (e : Instr × Nat) : Bool := decide (decode q.2.2.1 pc = .ok e) && xThr q pc e
/-- a method: what is evaluated, and what is read off -/
def xChkMb (q : xMth) : Bool := xall q.2.2.2.2.2.2.2.2.2.1 (xDec q)
def xChkM (q : xMth) : Prop := (match q.2.2.2.2.2.1 with | true => q.2.1.name = "<init>" | false => True) ∧ (xPl xPs q.1).1 = q.2.1.cls ∧ (match q.2.2.2.1 with | none => True | some t => xaP (xChkH q.2.1.cls (tableOf t)) q.2.2.2.2.2.2.2.2.2.2)
def xAll : Prop := xChkCs = true ∧ (∀ q ∈ xPs, xChkPool q ∧ xChkPb q = true) ∧ (xaP (fun _ q => xChkM q) xMs ∧ xaP (fun _ q => xChkMb q = true) xMs) ∧ (List.range xNm).all (fun k => (xMt xMs k).isSome) = true
theorem xPl_own {p : Nat} (hp : ∀ q ∈ xPs, xChkPool q ∧ xChkPb q = true) : xChkPool (xPl xPs p) ∧ xChkPb (xPl xPs p) = true := by
  unfold xPl
  split
  · rename_i q hq
    exact hp _ (List.mem_of_getElem? hq)
  · exact ⟨⟨trivial, trivial, trivial, trivial, trivial, trivial, trivial, trivial, trivial, trivial, trivial, trivial⟩, rfl⟩
theorem xGood_of (hAll : xAll) {D : va_G} {tyc : Nat → ClassId} {ad : Nat → Nat} {A : Nat → Prop} {bs : List xO} {v : Value} : xGood D xCl tyc xClB ad A bs (xSts v) xSrs xNcs (xPrg v) (xmnOf xMs) (xbcOf xMs) (xhhOf xMs) xTs xNm := by
  obtain ⟨hC, hP, ⟨hMs, hMb⟩, hEx⟩ := hAll
  intro k hk s args hts hKn
  obtain ⟨k1, k2, k3, k4, k5, k6, ⟨k7, k7b⟩, k8, k9⟩ := hKn
  have hw : xHo s args := ⟨hts, fun w hw => (k7b w hw).2⟩
  obtain ⟨q, hq⟩ := Option.isSome_iff_exists.mp (List.all_eq_true.mp hEx k (List.mem_range.mpr hk))
  have hM : xChkM q := xaP_ok (p := fun _ q => xChkM q) hMs hq
  have m1 : xChkMb q = true := xaP_ok (p := fun _ q => xChkMb q = true) hMb hq
  unfold xChkM at hM
  unfold xChkMb at m1
  obtain ⟨m2, m3, m4⟩ := hM
  have emn : xmnOf xMs k = q.2.1 := by unfold xmnOf; rw [hq]
  have ehh : xhhOf xMs k = q.2.2.2.1 := by unfold xhhOf; rw [hq]
  have ebc : xbcOf xMs k = q.2.2.1 := by unfold xbcOf; rw [hq]
  have emt : xP_mt (xPrg v) k = (q.2.2.2.2.1, q.2.2.2.2.2.1, q.2.2.2.2.2.2.1, q.2.2.2.2.2.2.2.1, q.2.2.2.2.2.2.2.2.1) := by
    show xmtOf xMs k = _
    unfold xmtOf; rw [hq]
  have epl : xP_pool (xPrg v) k = q.1 := by
    show xpoolOf xMs k = _
    unfold xpoolOf; rw [hq]
  have ecd : ∀ pc, xP_code (xPrg v) k pc = xlk q.2.2.2.2.2.2.2.2.2.1 pc := by
    intro pc
    show xcodeOf xMs k pc = _
    unfold xcodeOf; rw [hq]
  obtain ⟨hpool, hpb⟩ := xPl_own (p := q.1) hP
  unfold xChkPool at hpool
  unfold xChkPb at hpb
  simp only [Bool.and_eq_true] at hpb
  obtain ⟨⟨hpb, hpb2⟩, hpb3⟩ := hpb
  obtain ⟨p1, p2, p3, p4, p5, p6, p7, p8, p9, p10, p11, p12⟩ := hpool
  rw [m3] at p1 p2 p3 p4 p5 p6 p7 p8 p9 p10 p11 p12
  unfold xMx
  rw [emn, ehh, ebc, epl]
  refine ⟨fun pc i n h => ?_, fun h => ?_, xFl_of hw hC p1, xFp_of hw hC p2, xSf_of hw k5 p3, xTn_of hw hC p4, xAn_of hw p5, ⟨xOi_of hw p6, xMa_of hw p10, xTi_of hw hC p11 hpb2, xMk_of hw hC p12 hpb3⟩, xCs_of hw k6 p7, xCa_of hw p8 hpb, ?_, ?_⟩
  · rw [ecd] at h
    have := xlk_ok m1 h
    unfold xDec at this
    rw [Bool.and_eq_true] at this
    exact of_decide_eq_true this.1
  · have h : (xP_mt (xPrg v) k).2.1 = true := h
    rw [emt] at h
    have h : q.2.2.2.2.2.1 = true := h
    rw [h] at m2
    exact m2
  · intro pc c o h
    have h : xhnOf xMs k pc c = some o := h
    unfold xhnOf at h
    rw [hq] at h
    cases hhh : q.2.2.2.1 with
    | none =>
      simp only [hhh] at h
      split at h
      · rename_i hb
        cases h
        refine ⟨of_decide_eq_true (by simpa [Nat.blt_eq] using hb), fun r hr => ?_⟩
        intro z hz
        cases hz
      · cases h
    | some t =>
      simp only [hhh] at h m4
      split at h
      · rename_i l hl
        have h2 := xaP_ok m4 hl
        have h3 := xaL_ok h2 (xlk1_ok h)
        split at h3
        · rename_i q2 hq2
          refine ⟨of_decide_eq_true (by simpa [Nat.blt_eq] using h3.1), fun r hr => ?_⟩
          have e := xcl_at hq2
          have e2 : xCl[c]? = some (q2.1, xT q2.2.1, q2.2.1.length) := e
          cases hr.symm.trans e2
          exact xwalk_ok hw k7 h3.2
        · cases h3
      · cases h
  · intro j ce pc hte hcode
    obtain ⟨⟨names, ic⟩, hte⟩ := xfs_ok hte
    have h1 := xaP_ok p9 hte
    rw [ecd] at hcode
    have h2 := xlk_ok m1 hcode
    unfold xDec xThr at h2
    simp only [hte, Bool.and_eq_true] at h2
    obtain ⟨-, ⟨⟨d0, d1⟩, d2⟩, d3⟩ := h2
    unfold xChkT at h1
    obtain ⟨h0, h1⟩ := h1
    split at h1
    · rename_i q2 hq2
      obtain ⟨e1, e4, e5⟩ := h1
      simp only [Bool.and_eq_true] at e4
      obtain ⟨⟨e2, e3⟩, e4⟩ := e4
      split at e5
      · rename_i o hs hhs
        obtain ⟨rfl, e5⟩ := e5
        have hz := xzip_ok hw e5
        refine ⟨q2.1, xT q2.2.1, names, ic, ?_, of_decide_eq_true (by simpa [Nat.blt_eq] using h0), Nat.le_of_ble_eq_true e2, e3, fun n hn => List.all_eq_true.mp e4 n hn, (hz _ List.mem_cons_self).1, (hz _ (List.mem_cons_of_mem _ List.mem_cons_self)).1, fun w hw' => (hz w (List.mem_cons_of_mem _ (List.mem_cons_of_mem _ hw'))).1, fun w hw' => (hz w hw').2, of_decide_eq_true d1, of_decide_eq_true d2, of_decide_eq_true d3, fun x hx => ?_⟩
        · have := xcl_at hq2
          rw [e1] at this ⊢
          exact this
        · rw [show q.2.2.2.1 = none by simpa using d0] at hx
          cases hx
      · cases e5
    · cases h1
end XZ3
