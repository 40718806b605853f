section XZ3
variable {s : State} {args : Array Value} {own : String}
def xteh (own : String) (j : Nat) : List ((String × Nat) × xHt) → Option xHt
  | [] => none
  | (k, v) :: r => if k.1 = own ∧ k.2 = j then some v else xteh own j r
def xzip : xHt → List Cond → Bool
  | [], [] => true
  | z :: zs, w :: ws => xCn z w && vx_ot w && xzip zs ws
  | _, _ => false
theorem xzip_ok (hw : xHo s args) : ∀ {zs : xHt} {ws : List Cond}, xzip zs ws = true → ∀ w ∈ ws, w.before args s = true ∧ vx_ot w = true
  | [], [], _, w, h => by cases h
  | [], _ :: _, h, _, _ => by cases h
  | _ :: _, [], h, _, _ => by cases h
  | z :: zs, w :: ws, h, w', hm => by
    unfold xzip at h
    simp only [Bool.and_eq_true] at h
    rcases List.mem_cons.mp hm with rfl | hm
    · exact ⟨xCn_use hw h.1.1, h.1.2⟩
    · exact xzip_ok hw h.2 w' hm
def xChkT (own : String) (j : Nat) (e : Nat × (List String × Nat)) : Bool := Nat.blt e.1 100 && (match xCds[e.1]? with
  | some q => q.2.1.isEmpty && Nat.ble e.2.1.length 3 && Bundle.fit q.1 && e.2.1.all Bundle.fit && (match xteh own j xTeh with
    | some hs => xzip hs (Cond.classLink own j q.1 :: Cond.initialized q.1 :: vx_at0 own e.2.2 q.1 e.2.1)
    | none => false)
  | none => false)
def xChkMa (own : String) (j : Nat) (e : Nat × xHt) : Bool := match e.2 with
  | [z1, z2, z3, z4] => xCk z1 (.methodLink own j (xMaw e.1).1) && xCk z2 (.static (xMaw e.1).1) && xCk z3 (.initialized "java/lang/Math") && xCk z4 (.code (xMaw e.1).1 (xMaw e.1).2.1 (xMaw e.1).2.2.1 (some (xMaw e.1).2.2.2))
  | _ => false
theorem xMa_of (hw : xHo s args) {t : xTab (Nat × xHt)} (h : xall t (xChkMa own) = true) : xMa s args own (fun i => xfs (xlk t i)) := by
  intro j c hi
  obtain ⟨hz, hi⟩ := xfs_ok hi
  have h1 := xlk_ok h hi
  unfold xChkMa at h1
  split at h1
  · simp only [Bool.and_eq_true] at h1
    exact ⟨xCk_use hw h1.1.1.1, xCk_use hw h1.1.1.2, xCk_use hw h1.1.2, xCk_use hw h1.2⟩
  · cases h1
def xChkPool (q : xPool) : Bool := xall q.2.1 (xChkF q.1) && xall q.2.2.1 (xChkP q.1) && xall q.2.2.2.1 (xChkS q.1) && xall q.2.2.2.2.1 (xChkN q.1) && xall q.2.2.2.2.2.1 (xChkA q.1) && xall q.2.2.2.2.2.2.1 (xChkO q.1) && xall q.2.2.2.2.2.2.2.1 (xChkK q.1) && xall q.2.2.2.2.2.2.2.2.1 (xChkCa q.1) && xall q.2.2.2.2.2.2.2.2.2.1 (xChkT q.1) && xall q.2.2.2.2.2.2.2.2.2.2.2 (xChkMa q.1)
def xThr (q : xMth) (pc : Nat) (e : Instr × Nat) : Bool := match e.1 with
  | .new j => (match xlk (xPl xPs q.1).2.2.2.2.2.2.2.2.2.1 j with
    | some t => q.2.2.2.1.isNone && decide (decode q.2.2.1 (pc + 3) = .ok (.dup, 1)) && decide (decode q.2.2.1 (pc + 4) = .ok (.invokespecial t.2.2, 3)) && decide (decode q.2.2.1 (pc + 7) = .ok (.athrow, 1))
    | none => true)
  | _ => true
def xDec (q : xMth) (pc : Nat) (e : Instr × Nat) : Bool := decide (decode q.2.2.1 pc = .ok e) && xThr q pc e
def xChkM (q : xMth) : Bool := xall q.2.2.2.2.2.2.2.2.2.1 (xDec q) && (!q.2.2.2.2.2.1 || decide (q.2.1.name = "<init>")) && decide ((xPl xPs q.1).1 = q.2.1.cls) && (match q.2.2.2.1 with | none => true | some t => xall q.2.2.2.2.2.2.2.2.2.2 (xChkH q.2.1.cls (tableOf t)))
def xAll : Prop := xChkCs = true ∧ (∀ q ∈ xPs, xChkPool q = true) ∧ xall xMs (fun _ q => xChkM q) = true ∧ (List.range xNm).all (fun k => (xMt xMs k).isSome) = true
theorem xPl_own {p : Nat} (hp : ∀ q ∈ xPs, xChkPool q = true) : xChkPool (xPl xPs p) = true := by
  unfold xPl
  split
  · rename_i q hq
    exact hp _ (List.mem_of_getElem? hq)
  · rfl
theorem xGood_of (hAll : xAll) {D : va_G} {tyc : Nat → ClassId} {ad : Nat → Nat} {A : Nat → Prop} {bs : List xO} {v : Value} : xGood D xCl tyc xClB ad A bs (xSts v) xSrs xNcs (xPrg v) (xmnOf xMs) (xbcOf xMs) (xhhOf xMs) xTs xNm := by
  obtain ⟨hC, hP, hMs, hEx⟩ := hAll
  intro k hk s args hts hKn
  obtain ⟨k1, k2, k3, k4, k5, k6, ⟨k7, k7b⟩, k8, k9⟩ := hKn
  have hw : xHo s args := ⟨hts, fun w hw => (k7b w hw).2⟩
  obtain ⟨q, hq⟩ := Option.isSome_iff_exists.mp (List.all_eq_true.mp hEx k (List.mem_range.mpr hk))
  have hM : xChkM q = true := xlk_ok (p := fun _ q => xChkM q) hMs hq
  unfold xChkM at hM
  simp only [Bool.and_eq_true] at hM
  obtain ⟨⟨⟨m1, m2⟩, m3⟩, m4⟩ := hM
  have m3 := of_decide_eq_true m3
  have emn : xmnOf xMs k = q.2.1 := by unfold xmnOf; rw [hq]
  have ehh : xhhOf xMs k = q.2.2.2.1 := by unfold xhhOf; rw [hq]
  have ebc : xbcOf xMs k = q.2.2.1 := by unfold xbcOf; rw [hq]
  have emt : xP_mt (xPrg v) k = (q.2.2.2.2.1, q.2.2.2.2.2.1, q.2.2.2.2.2.2.1, q.2.2.2.2.2.2.2.1, q.2.2.2.2.2.2.2.2.1) := by
    show xmtOf xMs k = _
    unfold xmtOf; rw [hq]
  have epl : xP_pool (xPrg v) k = q.1 := by
    show xpoolOf xMs k = _
    unfold xpoolOf; rw [hq]
  have ecd : ∀ pc, xP_code (xPrg v) k pc = xlk q.2.2.2.2.2.2.2.2.2.1 pc := by
    intro pc
    show xcodeOf xMs k pc = _
    unfold xcodeOf; rw [hq]
  have hpool := xPl_own (p := q.1) hP
  unfold xChkPool at hpool
  simp only [Bool.and_eq_true] at hpool
  obtain ⟨⟨⟨⟨⟨⟨⟨⟨⟨p1, p2⟩, p3⟩, p4⟩, p5⟩, p6⟩, p7⟩, p8⟩, p9⟩, p10⟩ := hpool
  rw [m3] at p1 p2 p3 p4 p5 p6 p7 p8 p9 p10
  unfold xMx
  rw [emn, ehh, ebc, epl]
  refine ⟨fun pc i n h => ?_, fun h => ?_, xFl_of hw hC p1, xFp_of hw hC p2, xSf_of hw k5 p3, xTn_of hw hC p4, xAn_of hw p5, ⟨xOi_of hw p6, xMa_of hw p10⟩, xCs_of hw k6 p7, xCa_of hw p8, ?_, ?_⟩
  · rw [ecd] at h
    have := xlk_ok m1 h
    unfold xDec at this
    rw [Bool.and_eq_true] at this
    exact of_decide_eq_true this.1
  · have h : (xP_mt (xPrg v) k).2.1 = true := h
    rw [emt] at h
    have h : q.2.2.2.2.2.1 = true := h
    rw [h] at m2
    simpa using m2
  · intro pc c o h
    have h : xhnOf xMs k pc c = some o := h
    unfold xhnOf at h
    rw [hq] at h
    cases hhh : q.2.2.2.1 with
    | none =>
      simp only [hhh] at h
      split at h
      · rename_i hb
        cases h
        refine ⟨of_decide_eq_true (by simpa [Nat.blt_eq] using hb), fun r hr => ?_⟩
        intro z hz
        cases hz
      · cases h
    | some t =>
      simp only [hhh] at h m4
      split at h
      · rename_i l hl
        have h2 := xlk_ok m4 hl
        have h3 := List.all_eq_true.mp h2 _ (xlk1_ok h)
        split at h3
        · rename_i q2 hq2
          rw [Bool.and_eq_true] at h3
          refine ⟨of_decide_eq_true (by simpa [Nat.blt_eq] using h3.1), fun r hr => ?_⟩
          have e := xcl_at hq2
          have e2 : xCl[c]? = some (q2.1, xT q2.2.1, q2.2.1.length) := e
          cases hr.symm.trans e2
          exact xwalk_ok hw k7 h3.2
        · cases h3
      · cases h
  · intro j ce pc hte hcode
    obtain ⟨⟨names, ic⟩, hte⟩ := xfs_ok hte
    have h1 := xlk_ok p9 hte
    rw [ecd] at hcode
    have h2 := xlk_ok m1 hcode
    unfold xDec xThr at h2
    simp only [hte, Bool.and_eq_true] at h2
    obtain ⟨-, ⟨⟨d0, d1⟩, d2⟩, d3⟩ := h2
    unfold xChkT at h1
    rw [Bool.and_eq_true] at h1
    obtain ⟨h0, h1⟩ := h1
    split at h1
    · rename_i q2 hq2
      simp only [Bool.and_eq_true] at h1
      obtain ⟨⟨⟨⟨e1, e2⟩, e3⟩, e4⟩, e5⟩ := h1
      split at e5
      · rename_i hs hhs
        have hz := xzip_ok hw e5
        have e1 : q2.2.1 = [] := by simpa using e1
        refine ⟨q2.1, xT q2.2.1, names, ic, ?_, of_decide_eq_true (by simpa [Nat.blt_eq] using h0), Nat.le_of_ble_eq_true e2, e3, fun n hn => List.all_eq_true.mp e4 n hn, (hz _ List.mem_cons_self).1, (hz _ (List.mem_cons_of_mem _ List.mem_cons_self)).1, fun w hw' => (hz w (List.mem_cons_of_mem _ (List.mem_cons_of_mem _ hw'))).1, fun w hw' => (hz w hw').2, of_decide_eq_true d1, of_decide_eq_true d2, of_decide_eq_true d3, fun x hx => ?_⟩
        · have := xcl_at hq2
          rw [e1] at this ⊢
          exact this
        · rw [show q.2.2.2.1 = none by simpa using d0] at hx
          cases hx
      · cases e5
    · cases h1
end XZ3
