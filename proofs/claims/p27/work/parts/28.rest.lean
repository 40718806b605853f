/-! .. the arrays, the Strings, the statics -/
section XAI
variable {s : State} {args : Array Value} {A : Nat → Prop}
abbrev xAll_t : Term := .static "ReportMill$Kind" "ALL" "[LReportMill$Kind;"
abbrev xSm_t : Term := .static "ReportMill$1" "$SwitchMap$ReportMill$Kind" "[I"
abbrev xTx_t (n : Nat) : Term := .string "ReportMillLaw" n
abbrev xTv_t (n : Nat) : Term := .field (xTx_t n) "java/lang/String" "value" "[B"
def xAch (j : Nat) (p : Nat) : Prop := match xKnm[j]? with
  | some nm => xG p = .eq (.elem xAll_t (.int (Int32.ofNat j))) (xKs_t nm)
  | none => False
def xEch (tm : Term) (l : List Int32) (j : Nat) (p : Nat) : Prop := xG p = .eq (.elem tm (.int (Int32.ofNat j))) (.int (xLf l j))
set_option maxRecDepth 100000 in
theorem x_ae : xaL xAch xAe := by repeat' (first | refine And.intro ?_ ?_ | exact trivial | rfl)
set_option maxRecDepth 100000 in
theorem x_ael : (List.range 67).all (fun i => (xlk1 xAe i).isSome) = true := by decide +kernel
set_option maxRecDepth 100000 in
theorem x_se : xaL (xEch xSm_t xSm) xSe := by repeat' (first | refine And.intro ?_ ?_ | exact trivial | rfl)
set_option maxRecDepth 100000 in
theorem x_sel : (List.range 67).all (fun i => (xlk1 xSe i).isSome) = true := by decide +kernel
set_option maxRecDepth 100000 in
theorem x_te0 : xaL (xEch (xTv_t 55) xTx0) xTe0 := by repeat' (first | refine And.intro ?_ ?_ | exact trivial | rfl)
set_option maxRecDepth 100000 in
theorem x_te0l : (List.range 1).all (fun i => (xlk1 xTe0 i).isSome) = true := by decide +kernel
set_option maxRecDepth 100000 in
theorem x_te1 : xaL (xEch (xTv_t 60) xTx1) xTe1 := by repeat' (first | refine And.intro ?_ ?_ | exact trivial | rfl)
set_option maxRecDepth 100000 in
theorem x_te1l : (List.range 1).all (fun i => (xlk1 xTe1 i).isSome) = true := by decide +kernel
set_option maxRecDepth 100000 in
theorem x_te2 : xaL (xEch (xTv_t 77) xTx2) xTe2 := by repeat' (first | refine And.intro ?_ ?_ | exact trivial | rfl)
set_option maxRecDepth 100000 in
theorem x_te2l : (List.range 8).all (fun i => (xlk1 xTe2 i).isSome) = true := by decide +kernel
set_option maxRecDepth 100000 in
theorem x_te3 : xaL (xEch (xTv_t 86) xTx3) xTe3 := by repeat' (first | refine And.intro ?_ ?_ | exact trivial | rfl)
set_option maxRecDepth 100000 in
theorem x_te3l : (List.range 226).all (fun i => (xlk1 xTe3 i).isSome) = true := by decide +kernel
abbrev xDg_t4 : Term := .static "java/lang/Integer" "DigitOnes" "[B"
set_option maxRecDepth 100000 in
theorem x_te4 : xaL (xEch xDg_t4 xTx4) xTe4 := by repeat' (first | refine And.intro ?_ ?_ | exact trivial | rfl)
set_option maxRecDepth 100000 in
theorem x_te4l : (List.range 100).all (fun i => (xlk1 xTe4 i).isSome) = true := by decide +kernel
abbrev xDg_t5 : Term := .static "java/lang/Integer" "DigitTens" "[B"
set_option maxRecDepth 100000 in
theorem x_te5 : xaL (xEch xDg_t5 xTx5) xTe5 := by repeat' (first | refine And.intro ?_ ?_ | exact trivial | rfl)
set_option maxRecDepth 100000 in
theorem x_te5l : (List.range 100).all (fun i => (xlk1 xTe5 i).isSome) = true := by decide +kernel
set_option maxRecDepth 100000 in
theorem x_elems (hg : xGv s args) {tm : Term} {l : List Int32} {N : Nat} {t : List (Nat × Nat)} (h : xaL (xEch tm l) t) (hl : (List.range N).all (fun i => (xlk1 t i).isSome) = true) (j : Nat) (hj : j < N) : (Term.elem tm (.int (Int32.ofNat j))).eval args s none [] s = some (.int (xLf l j)) := by
  obtain ⟨p, hp⟩ := Option.isSome_iff_exists.mp (List.all_eq_true.mp hl j (List.mem_range.mpr hj))
  have h1 : xG p = _ := xaL_ok h (xlk1_ok hp)
  have h2 := hg p
  rw [h1] at h2
  exact x_eqi h2
set_option maxRecDepth 100000 in
theorem x_all (hA : ∀ a : Nat, a < s.heap.size → ¬ A a) (hg : xGv s args) {aK : Nat → Nat} (hK : ∀ i, i < 67 → xKf s args A i (aK i)) : ∃ t : Nat, xAll_t.eval args s none [] s = some (.ref t) ∧ va_T (.object "ReportMill$Kind") t 67 (fun j => .ref (aK j)) A s s.heap := by
  refine va_Tof (by decide) (show (Cond.arrayOf xAll_t (.object "ReportMill$Kind")).before args s = true from hg 1156) (x_eqi (show (Cond.eq (.length xAll_t) (.int 67)).before args s = true from hg 1668)) (fun j hj => ?_) hA
  obtain ⟨p, hp⟩ := Option.isSome_iff_exists.mp (List.all_eq_true.mp x_ael j (List.mem_range.mpr hj))
  have h1 := xaL_ok x_ae (xlk1_ok hp)
  obtain ⟨q, nm, e1, e2, e3, e4, -⟩ := hK j hj
  unfold xAch at h1
  rw [e2] at h1
  have h1 : xG p = .eq (.elem xAll_t (.int (Int32.ofNat j))) (xKs_t nm) := h1
  have h2 := hg p
  rw [h1] at h2
  exact x_eqt h2 e4
set_option maxRecDepth 100000 in
theorem x_sm (hA : ∀ a : Nat, a < s.heap.size → ¬ A a) (hg : xGv s args) : ∃ t : Nat, xSm_t.eval args s none [] s = some (.ref t) ∧ va_T .int t 67 (fun j => .int (xLf xSm j)) A s s.heap :=
  va_Tof (by decide) (show (Cond.arrayOf xSm_t .int).before args s = true from hg 1232) (x_eqi (show (Cond.eq (.length xSm_t) (.int 67)).before args s = true from hg 1744)) (fun j hj => x_elems hg x_se x_sel j hj) hA
/-- a String of the pool at a, its bytes at b -/
def xTf (s : State) (args : Array Value) (A : Nat → Prop) (n N : Nat) (l : List Int32) (a b : Nat) : Prop := (xTx_t n).eval args s none [] s = some (.ref a) ∧ va_O "java/lang/String" a A s s.heap ∧ va_OF "java/lang/String" "coder" "B" (.int 0) a A s s.heap ∧ va_OF "java/lang/String" "value" "[B" (.ref b) a A s s.heap ∧ va_T .byte b N (fun j => .int (xLf l j)) A s s.heap
set_option maxRecDepth 100000 in
theorem x_str (hA : ∀ a : Nat, a < s.heap.size → ¬ A a) (hg : xGv s args) {n N p1 p2 p3 p4 : Nat} {l : List Int32} {t : List (Nat × Nat)} (hN : N < 2 ^ 31) (h1 : xG p1 = .exactly (xTx_t n) "java/lang/String") (h2 : xG p2 = .eq (.field (xTx_t n) "java/lang/String" "coder" "B") (.int 0)) (h3 : xG p3 = .arrayOf (xTv_t n) .byte) (h4 : xG p4 = .eq (.length (xTv_t n)) (.int (Int32.ofNat N))) (h : xaL (xEch (xTv_t n) l) t) (hl : (List.range N).all (fun i => (xlk1 t i).isSome) = true) : ∃ a b : Nat, xTf s args A n N l a b := by
  have g1 := hg p1
  have g2 := hg p2
  have g3 := hg p3
  have g4 := hg p4
  rw [h1] at g1
  rw [h2] at g2
  rw [h3] at g3
  rw [h4] at g4
  obtain ⟨a, c, cell, k, q1, -⟩ := Cond.exactly_spec (show (Cond.exactly (xTx_t n) "java/lang/String").holds args s none s [] = true from g1)
  obtain ⟨b, b1, b2⟩ := va_Tof hN g3 (x_eqi g4) (fun j hj => x_elems hg h hl j hj) hA
  exact ⟨a, b, q1, va_Oof g1 q1 hA, vk_OFof q1 (x_eqi g2) hA, vk_OFof q1 b1 hA, b2⟩
set_option maxRecDepth 100000 in
theorem x_str0 (hA : ∀ a : Nat, a < s.heap.size → ¬ A a) (hg : xGv s args) : ∃ a b : Nat, xTf s args A 55 1 xTx0 a b := x_str hA hg (p1 := 1373) (p2 := 1885) (p3 := 1245) (p4 := 1757) (by decide) rfl rfl rfl rfl x_te0 x_te0l
set_option maxRecDepth 100000 in
theorem x_str1 (hA : ∀ a : Nat, a < s.heap.size → ¬ A a) (hg : xGv s args) : ∃ a b : Nat, xTf s args A 60 1 xTx1 a b := x_str hA hg (p1 := 2013) (p2 := 573) (p3 := 1341) (p4 := 1853) (by decide) rfl rfl rfl rfl x_te1 x_te1l
set_option maxRecDepth 100000 in
theorem x_str2 (hA : ∀ a : Nat, a < s.heap.size → ¬ A a) (hg : xGv s args) : ∃ a b : Nat, xTf s args A 77 8 xTx2 a b := x_str hA hg (p1 := 1725) (p2 := 1469) (p3 := 1981) (p4 := 1149) (by decide) rfl rfl rfl rfl x_te2 x_te2l
set_option maxRecDepth 100000 in
theorem x_str3 (hA : ∀ a : Nat, a < s.heap.size → ¬ A a) (hg : xGv s args) : ∃ a b : Nat, xTf s args A 86 226 xTx3 a b := x_str hA hg (p1 := 1283) (p2 := 1795) (p3 := 1155) (p4 := 1667) (by decide) rfl rfl rfl rfl x_te3 x_te3l
set_option maxRecDepth 100000 in
theorem x_dg4 (hA : ∀ a : Nat, a < s.heap.size → ¬ A a) (hg : xGv s args) : ∃ t : Nat, xDg_t4.eval args s none [] s = some (.ref t) ∧ va_T .byte t 100 (fun j => .int (xLf xTx4 j)) A s s.heap :=
  va_Tof (by decide) (show (Cond.arrayOf xDg_t4 .byte).before args s = true from hg 1978) (x_eqi (show (Cond.eq (.length xDg_t4) (.int 100)).before args s = true from hg 1146)) (fun j hj => x_elems hg x_te4 x_te4l j hj) hA
set_option maxRecDepth 100000 in
theorem x_dg5 (hA : ∀ a : Nat, a < s.heap.size → ¬ A a) (hg : xGv s args) : ∃ t : Nat, xDg_t5.eval args s none [] s = some (.ref t) ∧ va_T .byte t 100 (fun j => .int (xLf xTx5 j)) A s s.heap :=
  va_Tof (by decide) (show (Cond.arrayOf xDg_t5 .byte).before args s = true from hg 1438) (x_eqi (show (Cond.eq (.length xDg_t5) (.int 100)).before args s = true from hg 1950)) (fun j hj => x_elems hg x_te5 x_te5l j hj) hA
end XAI
