section XZ3
variable {s : State} {args : Array Value} {own : String}
def xteh (j : Nat) : List ((String × Nat) × xHt) → Option (String × xHt)
  | [] => none
  | (k, v) :: r => match Nat.beq k.2 j with
    | true => some (k.1, v)
    | false => xteh j r
def xzip : xHt → List Cond → Prop
  | [], [] => True
  | z :: zs, w :: ws => xCn z w ∧ vx_ot w = true ∧ xzip zs ws
  | _, _ => False
theorem xzip_ok (hw : xHo s args) : ∀ {zs : xHt} {ws : List Cond}, xzip zs ws → ∀ w ∈ ws, w.before args s = true ∧ vx_ot w = true
  | [], [], _, w, h => by cases h
  | [], _ :: _, h, _, _ => by cases h
  | _ :: _, [], h, _, _ => by cases h
  | z :: zs, w :: ws, h, w', hm => by
    unfold xzip at h
    rcases List.mem_cons.mp hm with rfl | hm
    · exact ⟨xCn_use hw h.1, h.2.1⟩
    · exact xzip_ok hw h.2.2 w' hm
def xChkT (own : String) (j : Nat) (e : Nat × (List String × Nat)) : Prop := Nat.blt e.1 100 = true ∧ (match xCds[e.1]? with
  | some q => q.2.1 = [] ∧ (Nat.ble e.2.1.length 3 && Bundle.fit q.1 && e.2.1.all Bundle.fit) = true ∧ (match xteh j xTeh with
    | some (o, hs) => o = own ∧ xzip hs (Cond.classLink own j q.1 :: Cond.initialized q.1 :: vx_at0 own e.2.2 q.1 e.2.1)
    | none => False)
  | none => False)
def xChkMa (own : String) (j : Nat) (e : Nat × xHt) : Prop := match e.2 with
  | [z1, z2, z3, z4] => xCk z1 (.methodLink own j (xMaw e.1).1) ∧ xCk z2 (.static (xMaw e.1).1) ∧ xCk z3 (.initialized "java/lang/Math") ∧ xCk z4 (.code (xMaw e.1).1 (xMaw e.1).2.1 (xMaw e.1).2.2.1 (some (xMaw e.1).2.2.2))
  | _ => False
theorem xMa_of (hw : xHo s args) {t : xTab (Nat × xHt)} (h : xaP (xChkMa own) t) : xMa s args own (fun i => xfs (xlk t i)) := by
  intro j c hi
  obtain ⟨hz, hi⟩ := xfs_ok hi
  have h1 := xaP_ok h hi
  unfold xChkMa at h1
  split at h1
  · exact ⟨xCk_use hw h1.1, xCk_use hw h1.2.1, xCk_use hw h1.2.2.1, xCk_use hw h1.2.2.2⟩
  · cases h1
/-- a pool: all of its tables -/
def xChkPool (q : xPool) : Prop := xaP (xChkF q.1) q.2.1 ∧ xaP (xChkP q.1) q.2.2.1 ∧ xaP (xChkS q.1) q.2.2.2.1 ∧ xaP (xChkN q.1) q.2.2.2.2.1 ∧ xaP (xChkA q.1) q.2.2.2.2.2.1 ∧ xaP (xChkO q.1) q.2.2.2.2.2.2.1 ∧ xaP (xChkK q.1) q.2.2.2.2.2.2.2.1 ∧ xaP (xChkCa q.1) q.2.2.2.2.2.2.2.2.1 ∧ xaP (xChkT q.1) q.2.2.2.2.2.2.2.2.2.1 ∧ xaP (xChkMa q.1) q.2.2.2.2.2.2.2.2.2.2.2
def xChkPb (q : xPool) : Bool := xall q.2.2.2.2.2.2.2.2.1 xChkCb
def xThr (q : xMth) (pc : Nat) (e : Instr × Nat) : Bool := match e.1 with
  | .new j => (match xlk (xPl xPs q.1).2.2.2.2.2.2.2.2.2.1 j with
    | some t => q.2.2.2.1.isNone && decide (decode q.2.2.1 (pc + 3) = .ok (.dup, 1)) && decide (decode q.2.2.1 (pc + 4) = .ok (.invokespecial t.2.2, 3)) && decide (decode q.2.2.1 (pc + 7) = .ok (.athrow, 1))
    | none => true)
  | _ => true
def xDec (q : xMth) (pc : Nat) (e : Instr × Nat) : Bool := decide (decode q.2.2.1 pc = .ok e) && xThr q pc e
/-- a method: what is evaluated, and what is read off -/
def xChkMb (q : xMth) : Bool := xall q.2.2.2.2.2.2.2.2.2.1 (xDec q)
def xChkM (q : xMth) : Prop := (match q.2.2.2.2.2.1 with | true => q.2.1.name = "<init>" | false => True) ∧ (xPl xPs q.1).1 = q.2.1.cls ∧ (match q.2.2.2.1 with | none => True | some t => xaP (xChkH q.2.1.cls (tableOf t)) q.2.2.2.2.2.2.2.2.2.2)
def xAll : Prop := xChkCs = true ∧ (∀ q ∈ xPs, xChkPool q ∧ xChkPb q = true) ∧ (xaP (fun _ q => xChkM q) xMs ∧ xaP (fun _ q => xChkMb q = true) xMs) ∧ (List.range xNm).all (fun k => (xMt xMs k).isSome) = true
theorem xPl_own {p : Nat} (hp : ∀ q ∈ xPs, xChkPool q ∧ xChkPb q = true) : xChkPool (xPl xPs p) ∧ xChkPb (xPl xPs p) = true := by
  unfold xPl
  split
  · rename_i q hq
    exact hp _ (List.mem_of_getElem? hq)
  · exact ⟨⟨trivial, trivial, trivial, trivial, trivial, trivial, trivial, trivial, trivial, trivial⟩, rfl⟩
theorem xGood_of (hAll : xAll) {D : va_G} {tyc : Nat → ClassId} {ad : Nat → Nat} {A : Nat → Prop} {bs : List xO} {v : Value} : xGood D xCl tyc xClB ad A bs (xSts v) xSrs xNcs (xPrg v) (xmnOf xMs) (xbcOf xMs) (xhhOf xMs) xTs xNm := by
  obtain ⟨hC, hP, ⟨hMs, hMb⟩, hEx⟩ := hAll
  intro k hk s args hts hKn
  obtain ⟨k1, k2, k3, k4, k5, k6, ⟨k7, k7b⟩, k8, k9⟩ := hKn
  have hw : xHo s args := ⟨hts, fun w hw => (k7b w hw).2⟩
  obtain ⟨q, hq⟩ := Option.isSome_iff_exists.mp (List.all_eq_true.mp hEx k (List.mem_range.mpr hk))
  have hM : xChkM q := xaP_ok (p := fun _ q => xChkM q) hMs hq
  have m1 : xChkMb q = true := xaP_ok (p := fun _ q => xChkMb q = true) hMb hq
  unfold xChkM at hM
  unfold xChkMb at m1
  obtain ⟨m2, m3, m4⟩ := hM
  have emn : xmnOf xMs k = q.2.1 := by unfold xmnOf; rw [hq]
  have ehh : xhhOf xMs k = q.2.2.2.1 := by unfold xhhOf; rw [hq]
  have ebc : xbcOf xMs k = q.2.2.1 := by unfold xbcOf; rw [hq]
  have emt : xP_mt (xPrg v) k = (q.2.2.2.2.1, q.2.2.2.2.2.1, q.2.2.2.2.2.2.1, q.2.2.2.2.2.2.2.1, q.2.2.2.2.2.2.2.2.1) := by
    show xmtOf xMs k = _
    unfold xmtOf; rw [hq]
  have epl : xP_pool (xPrg v) k = q.1 := by
    show xpoolOf xMs k = _
    unfold xpoolOf; rw [hq]
  have ecd : ∀ pc, xP_code (xPrg v) k pc = xlk q.2.2.2.2.2.2.2.2.2.1 pc := by
    intro pc
    show xcodeOf xMs k pc = _
    unfold xcodeOf; rw [hq]
  obtain ⟨hpool, hpb⟩ := xPl_own (p := q.1) hP
  unfold xChkPool at hpool
  unfold xChkPb at hpb
  obtain ⟨p1, p2, p3, p4, p5, p6, p7, p8, p9, p10⟩ := hpool
  rw [m3] at p1 p2 p3 p4 p5 p6 p7 p8 p9 p10
  unfold xMx
  rw [emn, ehh, ebc, epl]
  refine ⟨fun pc i n h => ?_, fun h => ?_, xFl_of hw hC p1, xFp_of hw hC p2, xSf_of hw k5 p3, xTn_of hw hC p4, xAn_of hw p5, ⟨xOi_of hw p6, xMa_of hw p10⟩, xCs_of hw k6 p7, xCa_of hw p8 hpb, ?_, ?_⟩
  · rw [ecd] at h
    have := xlk_ok m1 h
    unfold xDec at this
    rw [Bool.and_eq_true] at this
    exact of_decide_eq_true this.1
  · have h : (xP_mt (xPrg v) k).2.1 = true := h
    rw [emt] at h
    have h : q.2.2.2.2.2.1 = true := h
    rw [h] at m2
    exact m2
  · intro pc c o h
    have h : xhnOf xMs k pc c = some o := h
    unfold xhnOf at h
    rw [hq] at h
    cases hhh : q.2.2.2.1 with
    | none =>
      simp only [hhh] at h
      split at h
      · rename_i hb
        cases h
        refine ⟨of_decide_eq_true (by simpa [Nat.blt_eq] using hb), fun r hr => ?_⟩
        intro z hz
        cases hz
      · cases h
    | some t =>
      simp only [hhh] at h m4
      split at h
      · rename_i l hl
        have h2 := xaP_ok m4 hl
        have h3 := xaL_ok h2 (xlk1_ok h)
        split at h3
        · rename_i q2 hq2
          refine ⟨of_decide_eq_true (by simpa [Nat.blt_eq] using h3.1), fun r hr => ?_⟩
          have e := xcl_at hq2
          have e2 : xCl[c]? = some (q2.1, xT q2.2.1, q2.2.1.length) := e
          cases hr.symm.trans e2
          exact xwalk_ok hw k7 h3.2
        · cases h3
      · cases h
  · intro j ce pc hte hcode
    obtain ⟨⟨names, ic⟩, hte⟩ := xfs_ok hte
    have h1 := xaP_ok p9 hte
    rw [ecd] at hcode
    have h2 := xlk_ok m1 hcode
    unfold xDec xThr at h2
    simp only [hte, Bool.and_eq_true] at h2
    obtain ⟨-, ⟨⟨d0, d1⟩, d2⟩, d3⟩ := h2
    unfold xChkT at h1
    obtain ⟨h0, h1⟩ := h1
    split at h1
    · rename_i q2 hq2
      obtain ⟨e1, e4, e5⟩ := h1
      simp only [Bool.and_eq_true] at e4
      obtain ⟨⟨e2, e3⟩, e4⟩ := e4
      split at e5
      · rename_i o hs hhs
        obtain ⟨rfl, e5⟩ := e5
        have hz := xzip_ok hw e5
        refine ⟨q2.1, xT q2.2.1, names, ic, ?_, of_decide_eq_true (by simpa [Nat.blt_eq] using h0), Nat.le_of_ble_eq_true e2, e3, fun n hn => List.all_eq_true.mp e4 n hn, (hz _ List.mem_cons_self).1, (hz _ (List.mem_cons_of_mem _ List.mem_cons_self)).1, fun w hw' => (hz w (List.mem_cons_of_mem _ (List.mem_cons_of_mem _ hw'))).1, fun w hw' => (hz w hw').2, of_decide_eq_true d1, of_decide_eq_true d2, of_decide_eq_true d3, fun x hx => ?_⟩
        · have := xcl_at hq2
          rw [e1] at this ⊢
          exact this
        · rw [show q.2.2.2.1 = none by simpa using d0] at hx
          cases hx
      · cases e5
    · cases h1
end XZ3
