/-! each table's rows against the words -/
section XZ
/-- a word by its place: 99: one of those with rows of their own -/
def xCn (z : Nat × Nat) (w : Cond) : Prop := match Nat.beq z.1 99 with
  | true => xNws[z.2]? = some w ∧ w.onTables = true
  | false => xCk z w
theorem xCn_ok {z : Nat × Nat} {w : Cond} (h : xCn z w) : w ∈ xTs ∨ (w ∈ xNws ∧ w.onTables = true) := by
  unfold xCn at h
  split at h
  · exact Or.inr ⟨List.mem_of_getElem? h.1, h.2⟩
  · exact Or.inl (xCk_ok h)
def xCl : List vw_C := xclOf xCds
def xClB : List vw_C := xclOf xCdB
theorem xcl_at {cs : List xCd} {c : Nat} {q : xCd} (h : cs[c]? = some q) : (xclOf cs)[c]? = some (q.1, xT q.2.1, q.2.1.length) := by
  unfold xclOf
  rw [List.getElem?_map, h]
  rfl
theorem xcl_at' {cs : List xCd} {c : Nat} {r : vw_C} (h : (xclOf cs)[c]? = some r) : ∃ q, cs[c]? = some q ∧ r = (q.1, xT q.2.1, q.2.1.length) := by
  unfold xclOf at h
  rw [List.getElem?_map] at h
  cases hc : cs[c]? with
  | none => rw [hc] at h; cases h
  | some q => rw [hc] at h; cases h; exact ⟨q, rfl, rfl⟩
theorem xT_at {fs : List xFd} {k : Nat} {f : xFd} (h : fs[k]? = some f) : xT fs k = (f.1, f.2.1, f.2.2.1, f.2.2.2.1) := by
  unfold xT
  rw [h]
section
variable {s : State} {args : Array Value} {own : String}
/-- what holds of the words in a state -/
def xHo (s : State) (args : Array Value) : Prop := (∀ w ∈ xTs, w.before args s = true) ∧ ∀ w ∈ xNws, va_Nw w s
theorem xCn_use (hw : xHo s args) {z : Nat × Nat} {w : Cond} (h : xCn z w) : w.before args s = true := by
  rcases xCn_ok h with h | ⟨h, h2⟩
  · exact hw.1 _ h
  · exact va_Nw.use h2 (hw.2 _ h)
theorem xCk_use (hw : xHo s args) {z : Nat × Nat} {w : Cond} (h : xCk z w) : w.before args s = true := hw.1 _ (xCk_ok h)
/-- the fields of a class stand among the words -/
def xChkC (q : xCd) (h : xHt) : Bool := decide (h.length = q.2.1.length) && (List.range q.2.1.length).all (fun k => match h[k]? with | some z => xCkB z (u_lay q.1 (xT q.2.1) k) | none => false) && (List.range q.2.1.length).all (fun k => match q.2.1[k]? with | some (f : xFd) => decide (parseFieldDescriptor f.2.2.1 = some f.2.2.2.2) | none => false) && (List.range q.2.1.length).all (fun a => (List.range q.2.1.length).all fun b => decide (a = b) || !decide ((xT q.2.1 a).2.1 = (xT q.2.1 b).2.1))
def xChkCs : Bool := decide (xCds.length = xCwp.length) && (List.range xCds.length).all fun i => match xCds[i]?, xCwp[i]? with
  | some q, some h => xChkC q h
  | _, _ => false
theorem xChkC_ok {q : xCd} {h : xHt} (hc : xChkC q h = true) : (∀ w ∈ u_ws q.1 (xT q.2.1) q.2.1.length, w ∈ xTs) ∧ (∀ (k : Nat) (f : xFd), q.2.1[k]? = some f → parseFieldDescriptor f.2.2.1 = some f.2.2.2.2) ∧ ∀ a, a < q.2.1.length → ∀ b, b < q.2.1.length → a ≠ b → (xT q.2.1 a).2.1 ≠ (xT q.2.1 b).2.1 := by
  unfold xChkC at hc
  simp only [Bool.and_eq_true] at hc
  obtain ⟨⟨⟨-, h1⟩, h2⟩, h3⟩ := hc
  refine ⟨fun w hw => ?_, fun k f hk => ?_, fun a ha b hb hne => ?_⟩
  · obtain ⟨k, hk, rfl⟩ := List.mem_map.mp hw
    have := List.all_eq_true.mp h1 k hk
    split at this
    · exact xCkB_ok this
    · cases this
  · have hl := (List.getElem?_eq_some_iff.mp hk).1
    have := List.all_eq_true.mp h2 k (List.mem_range.mpr hl)
    rw [hk] at this
    exact of_decide_eq_true this
  · have := List.all_eq_true.mp (List.all_eq_true.mp h3 a (List.mem_range.mpr ha)) b (List.mem_range.mpr hb)
    rw [Bool.or_eq_true] at this
    rcases this with this | this
    · exact absurd (of_decide_eq_true this) hne
    · rw [Bool.not_eq_true'] at this
      exact of_decide_eq_false this
theorem xChkCs_ok (hc : xChkCs = true) {i : Nat} {q : xCd} (hq : xCds[i]? = some q) : ∃ h, xChkC q h = true := by
  unfold xChkCs at hc
  rw [Bool.and_eq_true] at hc
  have hl := (List.getElem?_eq_some_iff.mp hq).1
  have := List.all_eq_true.mp hc.2 i (List.mem_range.mpr hl)
  rw [hq] at this
  split at this
  · rename_i q' h' e1 e2
    cases e1
    exact ⟨_, this⟩
  · cases this
/-- a field's row -/
def xfq (c k : Nat) : Option (xCd × xFd) := match (match Nat.blt c 100 with | true => xCds[c]? | false => xCdB[c - 100]?) with
  | some q => (match q.2.1[k]? with | some f => some (q, f) | none => none)
  | none => none
theorem xfq_ok {c k : Nat} {q : xCd} {f : xFd} (h : xfq c k = some (q, f)) : q.2.1[k]? = some f ∧ ((c < 100 ∧ xCds[c]? = some q) ∨ (100 ≤ c ∧ xCdB[c - 100]? = some q)) := by
  unfold xfq at h
  split at h
  · rename_i q' hq
    split at h
    · rename_i f' hf
      cases h
      refine ⟨hf, ?_⟩
      split at hq
      · rename_i e
        exact Or.inl ⟨of_decide_eq_true (by simpa [Nat.blt_eq] using e), hq⟩
      · rename_i e
        refine Or.inr ⟨?_, hq⟩
        have : ¬ c < 100 := by
          intro z
          rw [← Nat.blt_eq] at z
          rw [z] at e
          cases e
        omega
    · cases h
  · cases h
def xLnk (own : String) (idx : Nat) (z : Nat × Nat) (f : xFd) : Prop := match Nat.beq z.1 99 with
  | true => (match xNws[z.2]? with | some (.fieldLinkNest a i b n d _) => a = own ∧ i = idx ∧ b = f.1 ∧ n = f.2.1 ∧ d = f.2.2.1 | _ => False)
  | false => xCk z (.fieldLink own idx f.1 f.2.1 f.2.2.1)
def xChkF (own : String) (idx : Nat) (e : (Nat × Nat) × xHt) : Prop := match xfq e.1.1 e.1.2, e.2 with
  | some (_, f), [z] => xLnk own idx z f
  | _, _ => False
theorem xlnk_of (hw : xHo s args) {idx : Nat} {z : Nat × Nat} {f : xFd} (h : xLnk own idx z f) : xlnk s args own idx f.1 f.2.1 f.2.2.1 := by
  unfold xLnk at h
  split at h
  · split at h
    · rename_i a i b n d hst hz
      obtain ⟨rfl, rfl, rfl, rfl, rfl⟩ := h
      exact Or.inr ⟨hst, va_Nw.use rfl (hw.2 _ (List.mem_of_getElem? hz))⟩
    · cases h
  · exact Or.inl (xCk_use hw h)
theorem xFl_of (hw : xHo s args) (hc : xChkCs = true) {t : xTab ((Nat × Nat) × xHt)} (h : xaP (xChkF own) t) : xFl s args own xCl xClB xTs (fun i => xfs (xlk t i)) := by
  intro idx ci k hi
  obtain ⟨hz, hi⟩ := xfs_ok hi
  have h1 := xaP_ok h hi
  unfold xChkF at h1
  split at h1
  · rename_i q f z e1 e2
    obtain ⟨g1, g2⟩ := xfq_ok e1
    have hT := xT_at g1
    refine ⟨q.1, xT q.2.1, q.2.1.length, (List.getElem?_eq_some_iff.mp g1).1, ?_, ?_⟩
    · rw [hT]
      exact xlnk_of hw h1
    · rcases g2 with ⟨g2, g3⟩ | ⟨g2, g3⟩
      · obtain ⟨hh, g4⟩ := xChkCs_ok hc g3
        exact Or.inl ⟨g2, xcl_at g3, (xChkC_ok g4).1⟩
      · exact Or.inr ⟨g2, xcl_at g3⟩
  · cases h1
def xChkP (own : String) (idx : Nat) (e : (Nat × Nat × Bool) × xHt) : Prop := Nat.blt e.1.1 100 = true ∧ (match xfq e.1.1 e.1.2.1, e.2 with
  | some (_, f), [z] => f.2.2.2.1 = e.1.2.2 ∧ (match e.1.2.2 with
    | true => f.1 = own ∧ xCk z (.fieldLink own idx f.1 f.2.1 f.2.2.1)
    | false => xLnk own idx z f)
  | _, _ => False)
theorem xFp_of (hw : xHo s args) (hc : xChkCs = true) {t : xTab ((Nat × Nat × Bool) × xHt)} (h : xaP (xChkP own) t) : xFp s args own xCl xTs (xftOf xCds) (fun i => xfs (xlk t i)) := by
  intro idx ci k fin hi
  obtain ⟨hz, hi⟩ := xfs_ok hi
  have h1 := xaP_ok h hi
  unfold xChkP at h1
  obtain ⟨h0, h1⟩ := h1
  have h0 : ci < 100 := of_decide_eq_true (by simpa [Nat.blt_eq] using h0)
  split at h1
  · rename_i q f z e1 e2
    obtain ⟨h2, h3⟩ := h1
    obtain ⟨g1, g2⟩ := xfq_ok e1
    have hT := xT_at g1
    rcases g2 with ⟨-, g3⟩ | ⟨g2, -⟩
    · obtain ⟨hh, g4⟩ := xChkCs_ok hc g3
      obtain ⟨c1, c2, c3⟩ := xChkC_ok g4
      refine ⟨q.1, xT q.2.1, q.2.1.length, xcl_at g3, (List.getElem?_eq_some_iff.mp g1).1, c1, by rw [hT]; exact h2, fun j hj => ?_, c3, ?_⟩
      · obtain ⟨f', hf'⟩ : ∃ f', q.2.1[j]? = some f' := ⟨_, List.getElem?_eq_getElem hj⟩
        rw [xT_at hf']
        unfold xftOf
        rw [g3]
        simp only [hf']
        exact c2 j f' hf'
      · rw [hT]
        cases hfin : fin with
        | true =>
          have h3 := h3
          simp only [hfin] at h3
          rw [if_pos rfl]
          exact ⟨h3.1, xCk_use hw h3.2⟩
        | false =>
          simp only [hfin] at h3
          rw [if_neg (by decide)]
          exact xlnk_of hw h3
    · have g2 : 100 ≤ ci := g2
      omega
  · cases h1
def xChkN (own : String) (idx : Nat) (e : Nat × xHt) : Prop := Nat.blt e.1 100 = true ∧ (match xCds[e.1]?, e.2 with
  | some q, [z1, z2, z3] => xCk z1 (.classLink own idx q.1) ∧ xCk z2 (.instantiable q.1 (q.2.1.length + q.2.2)) ∧ xCk z3 (.initialized q.1)
  | _, _ => False)
theorem xdef_ok (ty : FieldType) : defaultValue ty = xdef ty := by cases ty <;> rfl
theorem xdef_m (ty : FieldType) (ad : Nat → Nat) : xm ad (xdef ty) = xdef ty := by cases ty <;> rfl
theorem xTn_of (hw : xHo s args) (hc : xChkCs = true) {t : xTab (Nat × xHt)} (h : xaP (xChkN own) t) : xTn s args own xCl xTs (xfdOf xCds) (fun i => xfs (xlk t i)) := by
  intro idx ci hi
  obtain ⟨hz, hi⟩ := xfs_ok hi
  have h1 := xaP_ok h hi
  unfold xChkN at h1
  obtain ⟨h0, h1⟩ := h1
  have h0 : ci < 100 := of_decide_eq_true (by simpa [Nat.blt_eq] using h0)
  split at h1
  · rename_i q z1 z2 z3 e1 e2
    obtain ⟨h1, h2, h3⟩ := h1
    have e1 : xCds[ci]? = some q := e1
    obtain ⟨hh, g4⟩ := xChkCs_ok hc e1
    obtain ⟨c1, c2, c3⟩ := xChkC_ok g4
    have hfd : xfdOf xCds ci = q.2.1.map (fun f => xdef f.2.2.2.2) ++ List.replicate q.2.2 .null := by
      unfold xfdOf
      rw [e1]
    refine ⟨q.1, xT q.2.1, q.2.1.length, q.2.1.length + q.2.2, fun k => match q.2.1[k]? with | some f => f.2.2.2.2 | none => .int, xcl_at e1, xCk_use hw h1, xCk_use hw h2, xCk_use hw h3, c1, fun k hk => ?_, fun j hj => ?_, by rw [hfd]; simp, fun v hv ad => ?_, h0⟩
    · obtain ⟨f', hf'⟩ : ∃ f', q.2.1[k]? = some f' := ⟨_, List.getElem?_eq_getElem hk⟩
      rw [xT_at hf']
      simp only [hf']
      exact c2 k f' hf'
    · obtain ⟨f', hf'⟩ : ∃ f', q.2.1[j]? = some f' := ⟨_, List.getElem?_eq_getElem hj⟩
      rw [hfd]
      simp only [hf', vp_V]
      rw [xdef_ok, List.getD_eq_getElem?_getD, List.getElem?_append_left (by simpa using hj), List.getElem?_map, hf']
      rfl
    · rw [hfd] at hv
      rcases List.mem_append.mp hv with hv | hv
      · obtain ⟨f, -, rfl⟩ := List.mem_map.mp hv
        exact xdef_m _ ad
      · rw [List.eq_of_mem_replicate hv]; rfl
  · cases h1
def xChkA (own : String) (idx : Nat) (e : Unit × xHt) : Prop := match e.2 with
  | [z] => xCk z (.classLink own idx "ReportMill$Kind")
  | _ => False
theorem xAn_of (hw : xHo s args) {t : xTab (Unit × xHt)} (h : xaP (xChkA own) t) : ∀ idx, (xlk t idx).isSome = true → (Cond.classLink own idx "ReportMill$Kind").before args s = true := by
  intro idx hi
  obtain ⟨e, he⟩ := Option.isSome_iff_exists.mp hi
  have h1 := xaP_ok h he
  unfold xChkA at h1
  split at h1
  · exact xCk_use hw h1
  · cases h1
def xChkO (own : String) (idx : Nat) (e : Unit × xHt) : Prop := match e.2 with
  | [z1, z2, z3] => xCk z1 (.methodLink own idx Lib.objectInit) ∧ xCk z2 (.instanceMethod Lib.objectInit) ∧ xCk z3 (.code Lib.objectInit ⟨#[0xb1]⟩ 1 none)
  | _ => False
theorem xOi_of (hw : xHo s args) {t : xTab (Unit × xHt)} (h : xaP (xChkO own) t) : xOi s args own (fun i => (xlk t i).isSome) := by
  intro idx hi
  obtain ⟨e, he⟩ := Option.isSome_iff_exists.mp hi
  have h1 := xaP_ok h he
  unfold xChkO at h1
  split at h1
  · exact ⟨xCk_use hw h1.1, xCk_use hw h1.2.1, xCk_use hw h1.2.2⟩
  · cases h1
def xChkK (own : String) (idx : Nat) (e : Value × xHt) : Prop := match e.1, e.2 with
  | .int x, [z] => xCk z (.constant own idx x)
  | .long x, [z] => xCk z (.constantLong own idx x)
  | .ref a, [z] => (match xSrs[z.1]? with | some q => q.1 = own ∧ q.2.1 = idx ∧ q.2.2.2 = a | none => False)
  | _, _ => False
theorem xCs_of {ad : Nat → Nat} (hw : xHo s args) (hr : ∀ z ∈ xSrs, vk_R z.1 z.2.1 z.2.2.1 (ad z.2.2.2) s) {t : xTab (Value × xHt)} (h : xaP (xChkK own) t) : xCs s args own ad (fun i => xfs (xlk t i)) := by
  intro idx v hi
  obtain ⟨hz, hi⟩ := xfs_ok hi
  have h1 := xaP_ok h hi
  unfold xChkK at h1
  split at h1
  · rename_i e1 e2
    have e1 : v = _ := e1
    subst e1
    exact xCk_use hw h1
  · rename_i e1 e2
    have e1 : v = _ := e1
    subst e1
    exact xCk_use hw h1
  · rename_i e1 e2
    have e1 : v = _ := e1
    subst e1
    split at h1
    · rename_i q hq
      obtain ⟨rfl, rfl, rfl⟩ := h1
      exact ⟨_, hr _ (List.mem_of_getElem? hq)⟩
    · cases h1
  · cases h1
def xChkS (own : String) (idx : Nat) (e : Value × xHt) : Prop := match e.2 with
  | [z, y] => (match (xSts (.retAddr 7))[y.1]? with | some q => q.2.2.2 = e.1 ∧ xCk z (.fieldLink own idx q.1 q.2.1 q.2.2.1) | none => False)
  | _ => False
theorem xSts_len (v : Value) : (xSts v).length = (xSts (.retAddr 7)).length := rfl
end
end XZ
