section XZ2
variable {s : State} {args : Array Value} {own : String}
theorem xSts_map (v : Value) : xSts v = (xSts (.retAddr 7)).map (fun q => (q.1, q.2.1, q.2.2.1, match q.2.2.2 with | .retAddr _ => v | w => w)) := rfl
theorem xSf_of {ad : Nat → Nat} {A : Nat → Prop} {v : Value} (hw : xHo s args) (hz : ∀ z ∈ xSts v, va_Z z.1 z.2.1 z.2.2.1 (xm ad z.2.2.2) A s s.heap) {t : xTab (Value × xHt)} (h : xaP (xChkS own) t) : xSf s args own ad A (fun i => xsv v (xfs (xlk t i))) := by
  intro idx w hi
  have key : ∀ {u : Value}, xfs (xlk t idx) = some u → ∃ (C n d : String), va_Z C n d (xm ad (match u with | .retAddr _ => v | w => w)) A s s.heap ∧ (Cond.fieldLink own idx C n d).before args s = true := by
    intro u hu
    obtain ⟨hh, hu⟩ := xfs_ok hu
    have h1 := xaP_ok h hu
    unfold xChkS at h1
    split at h1
    · split at h1
      · rename_i q hq
        have e : q.2.2.2 = u := h1.1
        have hm : (q.1, q.2.1, q.2.2.1, (match q.2.2.2 with | .retAddr _ => v | w => w)) ∈ xSts v := by
          rw [xSts_map]
          exact List.mem_map.mpr ⟨q, List.mem_of_getElem? hq, rfl⟩
        have h2 := hz _ hm
        rw [e] at h2
        exact ⟨_, _, _, h2, xCk_use hw h1.2⟩
      · cases h1
    · cases h1
  have hi : xsv v (xfs (xlk t idx)) = some w := hi
  unfold xsv at hi
  split at hi
  · rename_i n hu
    cases hi
    obtain ⟨C, n, d, g1, g2⟩ := key hu
    exact ⟨C, n, d, g1, Or.inl g2⟩
  · rename_i o hno
    obtain ⟨C, n, d, g1, g2⟩ := key hi
    refine ⟨C, n, d, ?_, Or.inl g2⟩
    cases w <;> first | exact g1 | skip
    exact absurd hi (hno _)
def xMcn (q : xMth) : String := match (match Nat.blt q.2.2.2.2.2.2.1 100 with | true => xCds[q.2.2.2.2.2.2.1]? | false => xCdB[q.2.2.2.2.2.2.1 - 100]?) with
  | some c => c.1
  | none => ""
def xMcw (q : xMth) : Cond := match q.2.2.2.1 with
  | none => .code q.2.1 q.2.2.1 q.2.2.2.2.1 q.2.2.2.2.2.2.2.1
  | some t => .codeWith q.2.1 q.2.2.1 q.2.2.2.2.1 q.2.2.2.2.2.2.2.1 t
def xPdn (d : String) (n : Nat) : Bool := match parseMethodDescriptor d with
  | some sig => Nat.beq n sig.parameters.length
  | none => true
def xChkC1 (own : String) (idx : Nat) (z : Nat × Nat) (q : xMth) : Prop := match Nat.beq z.1 99 with
  | true => (match xNws[z.2]? with | some (.methodLinkNest a i x _) => a = own ∧ i = idx ∧ x = q.2.1 | _ => False)
  | false => xCk z (.methodLink own idx q.2.1)
def xChkCr (own : String) (idx : Nat) (z : Nat × Nat) (q : xMth) (rest : xHt) : Prop := match q.2.2.2.2.2.2.2.2.1, rest with
  | true, [zs] => xCk z (.methodLink own idx q.2.1) ∧ xCk zs (.static q.2.1)
  | false, zn :: rest => xCk zn (.instanceMethod q.2.1) ∧ (match q.2.2.2.2.2.1, rest with
    | true, [] => q.2.1.name = "<init>" ∧ q.2.2.2.1 = none ∧ q.2.2.2.2.2.2.2.1 = none ∧ xChkC1 own idx z q
    | false, [zl] => xCk z (.methodLink own idx q.2.1) ∧ xCk zl (.selects (xMcn q) q.2.1 q.2.1)
    | false, [zl, zm, zd] => q.2.2.2.1 = none ∧ xCk z (.methodLink own idx ⟨xMcn q, q.2.1.name, q.2.1.desc⟩) ∧ xCk zl (.selects (xMcn q) ⟨xMcn q, q.2.1.name, q.2.1.desc⟩ q.2.1) ∧ xCk zm (.sameMethod (xMcn q) q.2.1.cls q.2.1.name q.2.1.desc) ∧ (match xNws[zd.2]? with | some (.declares x) => x = ⟨q.2.1.cls, q.2.1.name, q.2.1.desc⟩ | _ => False)
    | false, [zl, zm, zi, zc] => q.2.2.2.1 = none ∧ (match xLu z, xLu zc with
      | some (.methodLink a i x), some (.code x9 b9 ml9 rt9) => (a = own ∧ i = idx ∧ x9 = x ∧ x.cls = "java/lang/AbstractStringBuilder" ∧ x.desc = q.2.1.desc) ∧ xCk z (.methodLink own idx x) ∧ xCk zc (.code x b9 ml9 rt9) ∧ xCk zl (.selects (xMcn q) x q.2.1) ∧ xCk zm (.sameMethod x.cls x.cls x.name x.desc) ∧ xCk zi (.instanceMethod x)
      | _, _ => False)
    | _, _ => False)
  | _, _ => False
def xChkCa (own : String) (idx : Nat) (e : (Nat × Nat) × xHt) : Prop := match xMt xMs e.1.1, e.2 with
  | some q, z :: zi :: zc :: rest => xCk zi (.initialized q.2.1.cls) ∧ xCk zc (xMcw q) ∧ (match Nat.blt idx 70000 with
    | true => xChkCr own idx z q rest
    | false => (match rest with
      | [zs, zu, zn] => (q.2.2.2.2.2.2.2.2.1 = false ∧ q.2.2.2.1 = none) ∧ xCk z (.methodLink own (idx - 70000) q.2.1) ∧ xCk zs (.sameMethod q.2.1.cls q.2.1.cls q.2.1.name q.2.1.desc) ∧ xCk zu (.superclass own q.2.1.cls) ∧ xCk zn (.instanceMethod q.2.1)
      | _ => False))
  | _, _ => False
/-- what of it is evaluated -/
def xChkCb (idx : Nat) (e : (Nat × Nat) × xHt) : Bool := match xMt xMs e.1.1 with
  | some q => Nat.blt e.1.1 xNm && plainName q.2.1.cls && decide (q.2.1.cls ≠ "java/lang/invoke/MethodHandle") && decide (q.2.1.cls ≠ "java/lang/invoke/VarHandle") && xPdn q.2.1.desc e.1.2 && (Nat.blt idx 70000 || decide (q.2.1.name ≠ "<init>"))
  | none => false
theorem xChkC1_ok (hw : xHo s args) {idx : Nat} {z : Nat × Nat} {q : xMth} (h : xChkC1 own idx z q) : (Cond.methodLink own idx q.2.1).before args s = true ∨ ∃ host : String, (Cond.methodLinkNest own idx q.2.1 host).before args s = true := by
  unfold xChkC1 at h
  split at h
  · split at h
    · rename_i a i x hst hz
      obtain ⟨rfl, rfl, rfl⟩ := h
      exact Or.inr ⟨hst, va_Nw.use rfl (hw.2 _ (List.mem_of_getElem? hz))⟩
    · cases h
  · exact Or.inl (xCk_use hw h)
theorem xMcn_ok {q : xMth} {r : vw_C} (h : (if q.2.2.2.2.2.2.1 < 100 then xCl[q.2.2.2.2.2.2.1]? else xClB[q.2.2.2.2.2.2.1 - 100]?) = some r) : r.1 = xMcn q := by
  unfold xMcn
  by_cases hc : q.2.2.2.2.2.2.1 < 100
  · rw [if_pos hc] at h
    have e : Nat.blt q.2.2.2.2.2.2.1 100 = true := by rw [Nat.blt_eq]; exact hc
    rw [e]
    obtain ⟨c, h1, rfl⟩ := xcl_at' h
    simp only [h1]
  · rw [if_neg hc] at h
    have e : Nat.blt q.2.2.2.2.2.2.1 100 = false := by
      cases hb : Nat.blt q.2.2.2.2.2.2.1 100
      · rfl
      · rw [Nat.blt_eq] at hb; exact absurd hb hc
    rw [e]
    obtain ⟨c, h1, rfl⟩ := xcl_at' h
    simp only [h1]
theorem xCa_of {v : Value} (hw : xHo s args) {t : xTab ((Nat × Nat) × xHt)} (h : xaP (xChkCa own) t) (hB : xall t xChkCb = true) : xCa (xPrg v) (xmnOf xMs) (xbcOf xMs) (xhhOf xMs) xTs xNm xCl xClB s args own (fun i => xfs (xlk t i)) := by
  intro idx y na hi
  obtain ⟨hz, hi⟩ := xfs_ok hi
  have h1 := xaP_ok h hi
  have hB1 := xlk_ok hB hi
  unfold xChkCa at h1
  split at h1
  · rename_i q z zi zc rest hq e2
    have hq : xMt xMs y = some q := hq
    unfold xChkCb at hB1
    simp only [hq, Bool.and_eq_true] at hB1
    obtain ⟨⟨⟨⟨⟨a1, a2⟩, a3⟩, a4⟩, a5⟩, a10⟩ := hB1
    obtain ⟨a6, a7, a9⟩ := h1
    have emn : xmnOf xMs y = q.2.1 := by unfold xmnOf; rw [hq]
    have ehh : xhhOf xMs y = q.2.2.2.1 := by unfold xhhOf; rw [hq]
    have ebc : xbcOf xMs y = q.2.2.1 := by unfold xbcOf; rw [hq]
    have emt : xP_mt (xPrg v) y = (q.2.2.2.2.1, q.2.2.2.2.2.1, q.2.2.2.2.2.2.1, q.2.2.2.2.2.2.2.1, q.2.2.2.2.2.2.2.2.1) := by
      show xmtOf xMs y = _
      unfold xmtOf; rw [hq]
    have ecw : xcw (xPrg v) (xmnOf xMs) (xbcOf xMs) (xhhOf xMs) y = xMcw q := by
      unfold xcw xMcw xP_ml xP_rt
      rw [ehh, emn, ebc, emt]
      cases q.2.2.2.1 <;> rfl
    rw [ecw]
    unfold xP_st xP_ini xP_mc xP_rt
    rw [emn, ehh, emt]
    refine ⟨of_decide_eq_true (by simpa [Nat.blt_eq] using a1), a2, ⟨of_decide_eq_true a3, of_decide_eq_true a4⟩, fun sig hs => ?_, xCk_use hw a6, xCk_ok a7, fun hj7 => ⟨fun hst => ?_, fun hst => ?_⟩, fun i9 hi9 hini => ?_⟩
    · unfold xPdn at a5
      rw [hs] at a5
      exact Nat.eq_of_beq_eq_true a5
    · have a8 : xChkCr own idx z q rest := by
        have e7 : Nat.blt idx 70000 = true := by rw [Nat.blt_eq]; exact hj7
        rw [e7] at a9
        exact a9
      unfold xChkCr at a8
      have hst : q.2.2.2.2.2.2.2.2.1 = true := hst
      rw [hst] at a8
      split at a8
      · exact ⟨xCk_use hw a8.1, xCk_use hw a8.2⟩
      · rename_i e9; cases e9
      · cases a8
    · have a8 : xChkCr own idx z q rest := by
        have e7 : Nat.blt idx 70000 = true := by rw [Nat.blt_eq]; exact hj7
        rw [e7] at a9
        exact a9
      unfold xChkCr at a8
      have hst : q.2.2.2.2.2.2.2.2.1 = false := hst
      rw [hst] at a8
      split at a8
      · rename_i e9; cases e9
      · rename_i zn rest' _
        obtain ⟨b1, b2⟩ := a8
        refine ⟨xCk_use hw b1, fun hini => ?_, fun hini => ?_⟩
        · have hini : q.2.2.2.2.2.1 = false := hini
          rw [hini] at b2
          refine ⟨xMcn q, fun r hr => xMcn_ok hr, ?_⟩
          split at b2
          · exact absurd (by assumption : false = true) (by decide)
          · exact Or.inl ⟨xCk_use hw b2.1, xCk_use hw b2.2⟩
          · obtain ⟨c1, c4, c5, c6, c7⟩ := b2
            refine Or.inr ⟨c1, ⟨xMcn q, q.2.1.name, q.2.1.desc⟩, q.2.1.cls, xCk_use hw c4, xCk_use hw c6, ?_, ⟨of_decide_eq_true a3, of_decide_eq_true a4⟩, xCk_use hw c5, rfl⟩
            split at c7
            · rename_i x hx
              subst c7
              exact va_Decl.abs (hw.2 _ (List.mem_of_getElem? hx))
            · cases c7
          · obtain ⟨c1, c2⟩ := b2
            split at c2
            · rename_i a9 i9 x9 y9 b9 ml9 rt9 _ _
              obtain ⟨⟨rfl, rfl, rfl, e9, e10⟩, d1, d2, d3, d4, d5⟩ := c2
              refine Or.inr ⟨c1, _, _, xCk_use hw d1, xCk_use hw d4, va_Decl.of (xCk_use hw d5) (xCk_use hw d2), ?_, xCk_use hw d3, e10⟩
              rw [e9]
              exact ⟨by decide +kernel, by decide +kernel⟩
            · cases c2
          · cases b2
        · have hini : q.2.2.2.2.2.1 = true := hini
          rw [hini] at b2
          split at b2
          · obtain ⟨c1, c2, c3, c4⟩ := b2
            exact ⟨c1, c2, c3, xChkC1_ok hw c4⟩
          · exact absurd (by assumption : true = false) (by decide)
          · exact absurd (by assumption : true = false) (by decide)
          · exact absurd (by assumption : true = false) (by decide)
          · cases b2
      · cases a8
    · subst hi9
      have e7 : Nat.blt (i9 + 70000) 70000 = false := by
        cases hb : Nat.blt (i9 + 70000) 70000
        · rfl
        · rw [Nat.blt_eq] at hb; omega
      rw [e7] at a9 a10
      dsimp only at a9
      split at a9
      · rename_i zs zu zn
        obtain ⟨⟨b1, b2⟩, b3, b4, b5, b6⟩ := a9
        rw [Nat.add_sub_cancel] at b3
        exact ⟨b1, b2, xCk_use hw b3, xCk_use hw b4, xCk_use hw b5, xCk_use hw b6, of_decide_eq_true (by simpa using a10)⟩
      · cases a9
  · cases h1
/-! handlers -/
/-- the names of the classes caught, by their places -/
def xctl (j : Nat) : List ((String × Nat) × (String × (Nat × Nat))) → Option (String × (Nat × Nat))
  | [] => none
  | (k, v) :: r => match Nat.beq k.2 j with
    | true => some v
    | false => xctl j r
def xctc (l : List (Nat × Nat × Bool × Nat)) (c j : Nat) : Option (Bool × Nat) := match l with
  | [] => none
  | (a, b, r) :: l => match Nat.beq a c && Nat.beq b j with
    | true => some r
    | false => xctc l c j
def xwalk (own : String) (pc ci : Nat) (E : String) : List ExceptionTableEntry → Option Nat → Prop
  | [], none => True
  | [], some _ => False
  | z :: r, o => match covers z pc with
    | false => xwalk own pc ci E r o
    | true => Nat.beq (ExceptionTableEntry.catchType z) 0 = false ∧ (match xctl (ExceptionTableEntry.catchType z) xCatch, xctc xCtc ci (ExceptionTableEntry.catchType z) with
      | some (nm, pl), some (false, i) => xCk pl (.classLink own (ExceptionTableEntry.catchType z) nm) ∧ xNcl[i]? = some (E, nm) ∧ xwalk own pc ci E r o
      | some (nm, pl), some (true, i) => xCk pl (.classLink own (ExceptionTableEntry.catchType z) nm) ∧ xNws[i]? = some (Cond.castable E nm) ∧ o = some z.handlerPc
      | _, _ => False)
def xHp (s : State) (args : Array Value) (own : String) (pc : Nat) (E : String) (tb : List ExceptionTableEntry) (o : Option Nat) : Prop := match o with
  | some h => ∃ (pre : List ExceptionTableEntry) (x : ExceptionTableEntry) (suf : List ExceptionTableEntry), tb = pre ++ x :: suf ∧ (∀ z ∈ pre, covers z pc = false ∨ (z.catchType ≠ 0 ∧ ∃ nm : String, (Cond.classLink own z.catchType nm).before args s = true ∧ va_Nc E nm s)) ∧ covers x pc = true ∧ x.catchType ≠ 0 ∧ (∃ nm : String, (Cond.classLink own x.catchType nm).before args s = true ∧ (Cond.castable E nm).before args s = true) ∧ x.handlerPc = h
  | none => ∀ z ∈ tb, covers z pc = false ∨ (z.catchType ≠ 0 ∧ ∃ nm : String, (Cond.classLink own z.catchType nm).before args s = true ∧ va_Nc E nm s)
theorem xwalk_ok (hw : xHo s args) (hn : ∀ z ∈ xNcl, va_Nc z.1 z.2 s) {pc ci : Nat} {E : String} : ∀ {tb : List ExceptionTableEntry} {o : Option Nat}, xwalk own pc ci E tb o → xHp s args own pc E tb o
  | [], none, h => fun z hz => by cases hz
  | [], some _, h => by cases h
  | z :: r, o, h => by
    have ext : (covers z pc = false ∨ (z.catchType ≠ 0 ∧ ∃ nm : String, (Cond.classLink own z.catchType nm).before args s = true ∧ va_Nc E nm s)) → xwalk own pc ci E r o → xHp s args own pc E (z :: r) o := by
      intro hz hr
      have ih := xwalk_ok hw hn hr
      cases o with
      | none =>
        intro z' hz'
        rcases List.mem_cons.mp hz' with rfl | hz'
        · exact hz
        · exact ih z' hz'
      | some hd =>
        obtain ⟨pre, x, suf, e1, e2, e3⟩ := ih
        refine ⟨z :: pre, x, suf, by rw [e1]; rfl, fun z' hz' => ?_, e3⟩
        rcases List.mem_cons.mp hz' with rfl | hz'
        · exact hz
        · exact e2 z' hz'
    unfold xwalk at h
    split at h
    · rename_i hcv
      exact ext (Or.inl hcv) h
    · rename_i hcv
      obtain ⟨h0, h⟩ := h
      have h0 : z.catchType ≠ 0 := by
        intro e
        rw [e] at h0
        cases h0
      split at h
      · rename_i nm pl i _ _
        obtain ⟨h1, h2, h3⟩ := h
        exact ext (Or.inr ⟨h0, nm, xCk_use hw h1, hn _ (List.mem_of_getElem? h2)⟩) h3
      · rename_i nm pl i _ _
        obtain ⟨h1, h2, rfl⟩ := h
        exact ⟨[], z, r, rfl, fun _ hz => (by cases hz), hcv, h0, ⟨nm, xCk_use hw h1, va_Nw.use rfl (hw.2 _ (List.mem_of_getElem? h2))⟩, rfl⟩
      · cases h
def xChkH (own : String) (tb : List ExceptionTableEntry) (pc : Nat) (l : List (Nat × Option Nat)) : Prop := xaL (fun c o => match xCds[c]? with
  | some q => Nat.blt c 100 = true ∧ xwalk own pc c q.1 tb o
  | none => False) l
end XZ2
