/-! .. the statics; then everything known at the start, together -/
section XAJ
variable {s : State} {args : Array Value} {A : Nat → Prop} {ad : Nat → Nat} {v : Value}
def xZch (i : Nat) (e : (Nat × Nat) × (Nat × Nat)) : Prop := match (xSts (.retAddr 7))[i]? with
  | some z => xLu e.1 = some (.laysStatic z.1 z.2.1 z.2.2.1) ∧ xLu e.2 = some (.initialized z.1)
  | none => False
def xSch (i : Nat) (e : (Nat × Nat) × (Nat × Nat)) : Prop := match Nat.blt i 67 with
  | true => (match xKnm[i]? with | some nm => (xSts (.retAddr 7))[i]? = some ("ReportMill$Kind", nm, "LReportMill$Kind;", .ref i) | none => False)
  | false => True
set_option maxRecDepth 100000 in
theorem x_zt : xaL xZch xZt := by repeat' (first | refine And.intro ?_ ?_ | exact trivial | rfl)
set_option maxRecDepth 100000 in
theorem x_st : xaL xSch xZt := by repeat' (first | refine And.intro ?_ ?_ | exact trivial | rfl)
set_option maxRecDepth 100000 in
theorem x_ztl : (List.range 76).all (fun i => (xlk1 xZt i).isSome) = true := by decide +kernel
set_option maxRecDepth 100000 in
theorem x_sts (hts : ∀ w ∈ xw_tbl, w.before args s = true) (hA : ∀ a : Nat, a < s.heap.size → ¬ A a) (hev : ∀ (i : Nat) (z : String × String × String × Value), (xSts v)[i]? = some z → (Term.static z.1 z.2.1 z.2.2.1).eval args s none [] s = some (xm ad z.2.2.2)) : ∀ z ∈ xSts v, va_Z z.1 z.2.1 z.2.2.1 (xm ad z.2.2.2) A s s.heap := by
  intro z hz
  obtain ⟨i, hi⟩ := List.getElem?_of_mem hz
  have hl : i < 76 := (List.getElem?_eq_some_iff.mp hi).1
  have h0 := hev i z hi
  obtain ⟨e, he⟩ := Option.isSome_iff_exists.mp (List.all_eq_true.mp x_ztl i (List.mem_range.mpr hl))
  have h1 := xaL_ok x_zt (xlk1_ok he)
  rw [xSts_map, List.getElem?_map] at hi
  unfold xZch at h1
  split at h1
  · rename_i z0 hz0
    rw [hz0] at hi
    cases hi
    exact va_Zof (hts _ (xLu_mem h1.1)) (hts _ (xLu_mem h1.2)) h0 hA
  · cases h1
set_option maxRecDepth 100000 in
theorem x_ev {aK : Nat → Nat} {tA tS : Nat} (hg : xGv s args) (hK : ∀ i, i < 67 → xKf s args A i (aK i)) (hAll : xAll_t.eval args s none [] s = some (.ref tA)) (hSm : xSm_t.eval args s none [] s = some (.ref tS)) (h1 : ∀ i, i < 67 → ad i = aK i) (h2 : ad 67 = tA) (h3 : ad 68 = tS) {t4 t5 : Nat} (hD4 : xDg_t4.eval args s none [] s = some (.ref t4)) (hD5 : xDg_t5.eval args s none [] s = some (.ref t5)) (h4 : ad 77 = t4) (h5 : ad 78 = t5) (hv : (Term.static "jdk/internal/util/Preconditions" "SIOOBE_FORMATTER" "Ljava/util/function/BiFunction;").eval args s none [] s = some (xm ad v)) :
    ∀ (i : Nat) (z : String × String × String × Value), (xSts v)[i]? = some z → (Term.static z.1 z.2.1 z.2.2.1).eval args s none [] s = some (xm ad z.2.2.2) := by
  intro i z hz
  by_cases hi : i < 67
  · obtain ⟨e, he⟩ := Option.isSome_iff_exists.mp (List.all_eq_true.mp x_ztl i (List.mem_range.mpr (by omega)))
    have h4 := xaL_ok x_st (xlk1_ok he)
    obtain ⟨q, nm, e1, e2, e3, e4, -⟩ := hK i hi
    unfold xSch at h4
    have hb : Nat.blt i 67 = true := by rw [Nat.blt_eq]; exact hi
    simp only [hb, e2] at h4
    rw [xSts_map, List.getElem?_map, h4] at hz
    cases hz
    show (xKs_t nm).eval args s none [] s = some (.ref (ad i))
    rw [h1 i hi]
    exact e4
  · have hl : i < 76 := (List.getElem?_eq_some_iff.mp hz).1
    obtain rfl | rfl | rfl | rfl | rfl | rfl | rfl | rfl | rfl : i = 67 ∨ i = 68 ∨ i = 69 ∨ i = 70 ∨ i = 71 ∨ i = 72 ∨ i = 73 ∨ i = 74 ∨ i = 75 := by omega
    · cases hz
      show xAll_t.eval args s none [] s = some (.ref (ad 67))
      rw [h2]; exact hAll
    · cases hz
      show xSm_t.eval args s none [] s = some (.ref (ad 68))
      rw [h3]; exact hSm
    · cases hz
      exact x_eqi (show (Cond.eq (.static "java/lang/String" "COMPACT_STRINGS" "Z") (.int 1)).before args s = true from hg 1976)
    · cases hz
      exact x_eqi (show (Cond.eq (.static "java/lang/StringUTF16" "$assertionsDisabled" "Z") (.int 1)).before args s = true from hg 1656)
    · cases hz
      exact x_eqi (show (Cond.eq (.static "java/lang/StringUTF16" "HI_BYTE_SHIFT" "I") (.int 0)).before args s = true from hg 1400)
    · cases hz
      exact x_eqi (show (Cond.eq (.static "java/lang/StringUTF16" "LO_BYTE_SHIFT" "I") (.int 8)).before args s = true from hg 1912)
    · cases hz
      show xDg_t4.eval args s none [] s = some (.ref (ad 77))
      rw [h4]; exact hD4
    · cases hz
      show xDg_t5.eval args s none [] s = some (.ref (ad 78))
      rw [h5]; exact hD5
    · cases hz
      exact hv
def xNch (i : Nat) (p : Nat) : Prop := match xNcl[i]? with
  | some z => xG p = .not (.castable z.1 z.2)
  | none => False
set_option maxRecDepth 100000 in
theorem x_nc : xaL xNch xNcp := by repeat' (first | refine And.intro ?_ ?_ | exact trivial | rfl)
set_option maxRecDepth 100000 in
theorem x_ncl : (List.range xNcl.length).all (fun i => (xlk1 xNcp i).isSome) = true := by decide +kernel
set_option maxRecDepth 100000 in
theorem x_ncs (hg : xGv s args) : ∀ z ∈ xNcl, va_Nc z.1 z.2 s := by
  intro z hz
  obtain ⟨i, hi⟩ := List.getElem?_of_mem hz
  have hl := (List.getElem?_eq_some_iff.mp hi).1
  obtain ⟨p, hp⟩ := Option.isSome_iff_exists.mp (List.all_eq_true.mp x_ncl i (List.mem_range.mpr hl))
  have h1 := xaL_ok x_nc (xlk1_ok hp)
  unfold xNch at h1
  rw [hi] at h1
  have h1 : xG p = .not (.castable z.1 z.2) := h1
  have h2 := hg p
  rw [h1] at h2
  exact va_Nc.of h2
def xWch : List Cond → List (Nat × Nat) → Prop
  | [], [] => True
  | w :: ws, z :: zs => (xLu z = some w ∧ xnk w = true ∧ w.onTables = true) ∧ xWch ws zs
  | _, _ => False
set_option maxRecDepth 100000 in
theorem x_wch : xWch xNws xNwp := by repeat' (first | refine And.intro ?_ ?_ | exact trivial | rfl)
set_option maxRecDepth 100000 in
theorem xWch_ok (hts : ∀ w ∈ xw_tbl, w.before args s = true) : ∀ {ws : List Cond} {zs : List (Nat × Nat)}, xWch ws zs → ∀ w ∈ ws, xnk w = true ∧ va_Nw w s
  | [], _, _, w, h => by cases h
  | _ :: _, [], h, _, _ => by cases h
  | w0 :: ws, z :: zs, h, w, hm => by
    rcases List.mem_cons.mp hm with rfl | hm
    · exact ⟨h.1.2.1, va_Nw.of h.1.2.2 (hts _ (xLu_mem h.1.1))⟩
    · exact xWch_ok hts h.2 w hm
end XAJ
