/-! THE FLAT MACHINE's EVENTS: what a frame comes to, one step on -/
section YG
/-- a constant of Kind: ordinal, word, role, number -/
def yK0 (a : Nat) : Int32 × Int64 × Int32 × Int32 := xKs.getD a (0, 0, 0, 0)
def yKo (a : Nat) : Int := (yK0 a).1.toInt
def yKw (a : Nat) : Int64 := (yK0 a).2.1
def yKr (a : Nat) : Int := (yK0 a).2.2.1.toInt
def yKn (a : Nat) : Int := (yK0 a).2.2.2.toInt
def ykf (f a : Nat) : Option yV := match f with
  | 0 => some (vi (yKo a))
  | 1 => some (vj (yKw a))
  | 2 => some (vi (yKr a))
  | 3 => some (vi (yKn a))
  | _ => none
theorem xB0_kind (n : Nat) (xs : Nat → Int32) {a : Nat} (h : a < 67) : (xB0 n xs)[a]? = some (.inr (100, [.int (yK0 a).1, .long (yK0 a).2.1, .int (yK0 a).2.2.1, .int (yK0 a).2.2.2])) := by
  have h67 : xKs.length = 67 := rfl
  unfold xB0
  rw [List.getElem?_append_left (by rw [List.length_map, h67]; exact h), List.getElem?_map]
  unfold yK0
  rw [List.getD_eq_getElem?_getD, List.getElem?_eq_getElem (by rw [h67]; exact h)]
  rfl
theorem yH_kind (q : yQ) (S : yS) (js : List xO) {a : Nat} (h : a < 67) : (yH q S js)[a]? = some (.inr (100, [.int (yK0 a).1, .long (yK0 a).2.1, .int (yK0 a).2.2.1, .int (yK0 a).2.2.2])) := by
  rw [yH_lo q S js (by omega)]
  exact xB0_kind _ _ h
theorem ykf_ok {q : yQ} {S : yS} {js : List xO} {f a : Nat} {x : yV} (h : ykf f a = some x) (ha : a < 67) {fl : Nat → Option (Nat × Nat)} {j : Nat} (hf : fl j = some (100, f)) (r : List Value) : x_getf fl (yH q S js) j (.ref a :: r) = some (yval x :: r) := by
  have hg := yH_kind q S js ha
  unfold ykf at h
  split at h
  all_goals first
    | (cases h; simp [x_getf, hf, hg, yval, yKo, yKw, yKr, yKn, yofI]; done)
    | cases h
/-! orders -/
theorem y_eq (x y : Int) : Int32.ofInt x = Int32.ofInt y ↔ yr x = yr y := ⟨fun h => by unfold yr; rw [h], fun h => Int32.toInt.inj h⟩
theorem y_lt (x y : Int) : Int32.ofInt x < Int32.ofInt y ↔ yr x < yr y := Int32.lt_iff_toInt_lt
theorem y_le (x y : Int) : Int32.ofInt x ≤ Int32.ofInt y ↔ yr x ≤ yr y := Int32.le_iff_toInt_le
theorem yr_0 : yr 0 = 0 := by decide
theorem y_0 : (0 : Int32) = Int32.ofInt 0 := rfl
theorem y_xin {i : Int} {n : Nat} (h : 0 ≤ yr i ∧ yr i < n) : xin (Int32.ofInt i) n = true := by
  have h1 : (Int32.ofInt i).toInt = yr i := rfl
  unfold xin
  rw [Bool.and_eq_true, decide_eq_true_eq, decide_eq_true_eq]
  refine ⟨?_, ?_⟩
  · rw [y_0, y_le, yr_0]
    exact h.1
  · show (Int32.ofInt i).toInt.toNat < n
    rw [h1]
    omega
def ycnd (c : ClassFile.Cond) (x y : Int) (A B : Option xRes) : Option xRes := match c with
  | .eq => if x = y then A else B
  | .ne => if x = y then B else A
  | .lt => if x < y then A else B
  | .ge => if x < y then B else A
  | .gt => if y < x then A else B
  | .le => if y < x then B else A
theorem ycnd_ok (c : ClassFile.Cond) (x y : Int) (A B : Option xRes) : ycnd c (yr x) (yr y) A B = match xcI c (Int32.ofInt x) (Int32.ofInt y) with | true => A | false => B := by
  have e := y_eq x y
  have l := y_lt x y
  have l2 := y_lt y x
  have m := y_le x y
  have m2 := y_le y x
  cases c <;> simp only [ycnd, xcI]
  · by_cases h : yr x = yr y
    · rw [if_pos h, decide_eq_true (e.mpr h)]
    · rw [if_neg h, decide_eq_false (fun z => h (e.mp z))]
  · by_cases h : yr x = yr y
    · rw [if_pos h, decide_eq_true (e.mpr h)]; rfl
    · rw [if_neg h, decide_eq_false (fun z => h (e.mp z))]; rfl
  · by_cases h : yr x < yr y
    · rw [if_pos h, decide_eq_true (l.mpr h)]
    · rw [if_neg h, decide_eq_false (fun z => h (l.mp z))]
  · by_cases h : yr x < yr y
    · rw [if_pos h, decide_eq_false (fun z => absurd (m2.mp z) (by omega))]
    · rw [if_neg h, decide_eq_true (m2.mpr (by omega))]
  · by_cases h : yr y < yr x
    · rw [if_pos h, decide_eq_true (l2.mpr h)]
    · rw [if_neg h, decide_eq_false (fun z => h (l2.mp z))]
  · by_cases h : yr y < yr x
    · rw [if_pos h, decide_eq_false (fun z => absurd (m.mp z) (by omega))]
    · rw [if_neg h, decide_eq_true (m.mpr (by omega))]
/-! rows that are read -/
def yld (q : yQ) (S : yS) (b : Bool) (a : Nat) : Option (Nat × (Nat → Int)) := match Nat.ble 81 a with
  | true => (match yT[a - 81]? with
    | some (.inr (t, n, s)) => (match b, t with
      | false, 0 => some (n, gA S s)
      | true, 2 => some (n, gA S s)
      | true, 3 => some (n, gA S s)
      | _, _ => none)
    | _ => none)
  | false => (match b, a with
    | false, 68 => some (67, fun j => (xLf xSm j).toInt)
    | false, 79 => some (q.2.1, fun j => (q.2.2 j).toInt)
    | true, 70 => some (1, fun j => (xLf xTx0 j).toInt)
    | true, 72 => some (1, fun j => (xLf xTx1 j).toInt)
    | _, _ => none)
theorem xald_go {T : Nat} {ah : List xO} {t n a : Nat} {g : Nat → Int32} {i : Int} (hg : ah[a]? = some (.inl (t, n, .inl g))) (ht : t = T ∨ t = T + 10) (hi : 0 ≤ yr i ∧ yr i < n) (r : List Value) : x_ald T ah (.int (Int32.ofInt i) :: .ref a :: r) = some (.int (g (yr i).toNat) :: r) := by
  simp only [x_ald, hg]
  rw [if_pos ⟨ht, y_xin hi⟩]
  rfl
theorem xald_no {T : Nat} {ah : List xO} {t n a : Nat} {g : Nat → Int32} {i : Int} (hg : ah[a]? = some (.inl (t, n, .inl g))) (ht : ¬(t = T ∨ t = T + 10)) (r : List Value) : x_ald T ah (.int (Int32.ofInt i) :: .ref a :: r) = none := by
  simp only [x_ald, hg]
  rw [if_neg (fun z => ht z.1)]
theorem xald_in {ah : List xO} {t n a : Nat} {g : Nat → Int32} {i : Int} (b : Bool) (hg : ah[a]? = some (.inl (t, n, .inl g))) (ht : match b with | false => t = 0 ∨ t = 10 | true => t = 2 ∨ t = 12 ∨ t = 3 ∨ t = 13) (hi : 0 ≤ yr i ∧ yr i < n) (r : List Value) : (match b with | false => x_ald 0 ah (.int (Int32.ofInt i) :: .ref a :: r) | true => x_bald ah (.int (Int32.ofInt i) :: .ref a :: r)) = some (.int (g (yr i).toNat) :: r) := by
  cases b with
  | false => exact xald_go hg ht hi r
  | true =>
    show x_bald ah _ = _
    unfold x_bald
    by_cases h2 : t = 2 ∨ t = 2 + 10
    · rw [xald_go hg h2 hi r]
    · rw [xald_no hg h2 r]
      exact xald_go hg (by rcases ht with z | z | z | z <;> omega) hi r
theorem yld_ok {q : yQ} {S : yS} {js : List xO} {b : Bool} {a n : Nat} {f : Nat → Int} (h : yld q S b a = some (n, f)) {i : Int} (hi : 0 ≤ yr i ∧ yr i < n) (r : List Value) : (match b with | false => x_ald 0 (yH q S js) (.int (Int32.ofInt i) :: .ref a :: r) | true => x_bald (yH q S js) (.int (Int32.ofInt i) :: .ref a :: r)) = some (.int (Int32.ofInt (f (yr i).toNat)) :: r) := by
  unfold yld at h
  split at h
  · rename_i ha
    split at h
    · rename_i t n' s he
      have hg : (yH q S js)[a]? = some (.inl (t, n', yrow S t s)) := by
        have := yH_get q S js he
        rw [yat81 ha] at this
        exact this
      split at h
      · cases h; exact xald_in (g := fun j => Int32.ofInt (gA S s j)) false hg (Or.inl rfl) hi r
      · cases h; exact xald_in (g := fun j => Int32.ofInt (gA S s j)) true hg (Or.inl rfl) hi r
      · cases h; exact xald_in (g := fun j => Int32.ofInt (gA S s j)) true hg (Or.inr (Or.inr (Or.inl rfl))) hi r
      · cases h
    · cases h
  · split at h
    · cases h
      have hg : (yH q S js)[68]? = some (.inl (10, 67, .inl (xLf xSm))) := (yH_lo q S js (by omega)).trans rfl
      have := xald_in false hg (Or.inr rfl) hi r
      simp only [yofI]
      exact this
    · cases h
      have hg : (yH q S js)[79]? = some (.inl (10, q.2.1, .inl q.2.2)) := (yH_lo q S js (by omega)).trans rfl
      have := xald_in false hg (Or.inr rfl) hi r
      simp only [yofI]
      exact this
    · cases h
      have hg : (yH q S js)[70]? = some (.inl (12, 1, .inl (xLf xTx0))) := (yH_lo q S js (by omega)).trans rfl
      have := xald_in true hg (Or.inr (Or.inl rfl)) hi r
      simp only [yofI]
      exact this
    · cases h
      have hg : (yH q S js)[72]? = some (.inl (12, 1, .inl (xLf xTx1))) := (yH_lo q S js (by omega)).trans rfl
      have := xald_in true hg (Or.inr (Or.inl rfl)) hi r
      simp only [yofI]
      exact this
    · cases h
def yldj (S : yS) (a : Nat) : Option (Nat × (Nat → Int64)) := match Nat.ble 81 a with
  | true => (match yT[a - 81]? with
    | some (.inr (1, n, s)) => some (n, gB S s)
    | _ => none)
  | false => none
theorem yldj_ok {q : yQ} {S : yS} {js : List xO} {a n : Nat} {f : Nat → Int64} (h : yldj S a = some (n, f)) {i : Int} (hi : 0 ≤ yr i ∧ yr i < n) (r : List Value) : x_lald (yH q S js) (.int (Int32.ofInt i) :: .ref a :: r) = some (.long (f (yr i).toNat) :: r) := by
  unfold yldj at h
  split at h
  · rename_i ha
    split at h
    · rename_i n' s he
      cases h
      have hg : (yH q S js)[a]? = some (.inl (1, n, .inr (.inl (gB S s)))) := by
        have := yH_get q S js he
        rw [yat81 ha] at this
        exact this
      simp only [x_lald, hg]
      rw [if_pos ⟨trivial, y_xin hi⟩]
      rfl
    · cases h
  · cases h
def yldr (S : yS) (a : Nat) : Option (Nat × (Nat → Nat)) := match Nat.ble 81 a with
  | true => (match yT[a - 81]? with
    | some (.inr (4, n, s)) => some (n, gC S s)
    | _ => none)
  | false => (match Nat.beq a 67 with
    | true => some (67, fun j => j)
    | false => none)
theorem yon_some {a : Nat} (h : a < 67) : yon a = some a := by
  unfold yon
  have : Nat.blt a 67 = true := Nat.ble_eq_true_of_le h
  rw [this]
theorem yldr_ok {q : yQ} {S : yS} {js : List xO} {a n : Nat} {f : Nat → Nat} (h : yldr S a = some (n, f)) {i : Int} (hi : (0 ≤ yr i ∧ yr i < n) ∧ f (yr i).toNat < 67) (r : List Value) : x_aald (yH q S js) (.int (Int32.ofInt i) :: .ref a :: r) = some (.ref (f (yr i).toNat) :: r) := by
  unfold yldr at h
  split at h
  · rename_i ha
    split at h
    · rename_i n' s he
      cases h
      have hg : (yH q S js)[a]? = some (.inl (4, n, .inr (.inr (.inr (.inr fun j => yon (gC S s j)))))) := by
        have := yH_get q S js he
        rw [yat81 ha] at this
        exact this
      simp only [x_aald, hg]
      rw [if_pos ⟨Or.inl trivial, y_xin hi.1⟩]
      show some (va_rf (yon (gC S s (yr i).toNat)) :: r) = _
      rw [yon_some hi.2]
      rfl
    · cases h
  · split at h
    · rename_i ha
      cases h
      have ha := Nat.eq_of_beq_eq_true ha
      subst ha
      have hg : (yH q S js)[67]? = some (.inl (14, 67, .inr (.inr (.inr (.inr fun j => if j < 67 then some j else none))))) := (yH_lo q S js (by omega)).trans rfl
      simp only [x_aald, hg]
      rw [if_pos ⟨Or.inr trivial, y_xin hi.1⟩]
      show some (va_rf (if (yr i).toNat < 67 then some (yr i).toNat else none) :: r) = _
      rw [if_pos hi.2]
      rfl
    · cases h
/-! rows that are written -/
def yi2z (x : Int) : Int := (Int32.ofInt x &&& 1).toInt
def ysto (S : yS) (b : Bool) (a : Nat) : Option (Nat × (Nat → Int → yS)) := match Nat.ble 81 a with
  | true => (match yT[a - 81]? with
    | some (.inr (t, n, s)) => (match b, t with
      | false, 0 => some (n, fun j x => sA S s j x)
      | true, 2 => some (n, fun j x => sA S s j (yi2b x))
      | true, 3 => some (n, fun j x => sA S s j (yi2z x))
      | _, _ => none)
    | _ => none)
  | false => none
theorem yset_A {q : yQ} {S : yS} {js : List xO} {a t n s : Nat} (ha : Nat.ble 81 a = true) (he : yT[a - 81]? = some (.inr (t, n, s))) (h1 : t = 0 ∨ t = 2 ∨ t = 3) (j : Nat) (x : Int) : (yH q S js).set a (.inl (t, n, .inl (upd (fun j => Int32.ofInt (gA S s j)) j (Int32.ofInt x)))) = yH q (sA S s j x) js := by
  have hS := yH_set q (S := S) (S' := sA S s j x) js (o := .inl (t, n, .inl (upd (fun j => Int32.ofInt (gA S s j)) j (Int32.ofInt x)))) he ?_ ?_
  · rw [yat81 ha] at hS
    exact hS
  · have : yrow (sA S s j x) t s = .inl (upd (fun j => Int32.ofInt (gA S s j)) j (Int32.ofInt x)) := by
      have h2 : yrow (sA S s j x) t s = .inl fun k => Int32.ofInt (gA (sA S s j x) s k) := by rcases h1 with rfl | rfl | rfl <;> rfl
      rw [h2]
      congr 1
      funext k
      rw [gA_self]
      unfold upd
      split <;> rfl
    show _ = Sum.inl (t, n, yrow (sA S s j x) t s)
    rw [this]
  · intro k' e' hk he'
    refine ycell_A fun hm => yApt_ne yT_apt hk he' he hm ?_
    rcases h1 with rfl | rfl | rfl <;> exact List.mem_cons_self
theorem yset_B {q : yQ} {S : yS} {js : List xO} {a n s : Nat} (ha : Nat.ble 81 a = true) (he : yT[a - 81]? = some (.inr (1, n, s))) (j : Nat) (x : Int64) : (yH q S js).set a (.inl (1, n, .inr (.inl (vp_updL (gB S s) j x)))) = yH q (sB S s j x) js := by
  have hS := yH_set q (S := S) (S' := sB S s j x) js (o := .inl (1, n, .inr (.inl (vp_updL (gB S s) j x)))) he ?_ ?_
  · rw [yat81 ha] at hS
    exact hS
  · show _ = Sum.inl (1, n, Sum.inr (Sum.inl (gB (sB S s j x) s)))
    congr 5
    funext k
    rw [gB_self]
    rfl
  · intro k' e' hk he'
    exact ycell_B fun hm => yApt_ne yT_apt hk he' he hm List.mem_cons_self
theorem yset_C {q : yQ} {S : yS} {js : List xO} {a n s : Nat} (ha : Nat.ble 81 a = true) (he : yT[a - 81]? = some (.inr (4, n, s))) (j : Nat) {x : Nat} (hx : x < 67) : (yH q S js).set a (.inl (4, n, .inr (.inr (.inr (.inr (va_up (fun j => yon (gC S s j)) j (some x))))))) = yH q (sC S s j x) js := by
  have hS := yH_set q (S := S) (S' := sC S s j x) js (o := .inl (4, n, .inr (.inr (.inr (.inr (va_up (fun j => yon (gC S s j)) j (some x))))))) he ?_ ?_
  · rw [yat81 ha] at hS
    exact hS
  · show _ = Sum.inl (4, n, Sum.inr (Sum.inr (Sum.inr (Sum.inr (fun k => yon (gC (sC S s j x) s k))))))
    congr 7
    funext k
    rw [gC_self]
    unfold va_up
    split
    · rw [yon_some hx]
    · rfl
  · intro k' e' hk he'
    exact ycell_C fun hm => yApt_ne yT_apt hk he' he hm List.mem_cons_self
theorem ysto_ok {q : yQ} {S : yS} {js : List xO} {b : Bool} {a n : Nat} {f : Nat → Int → yS} (h : ysto S b a = some (n, f)) {i : Int} (x : Int) (hi : 0 ≤ yr i ∧ yr i < n) (r : List Value) : (match b with | false => x_iast 81 (yH q S js) (.int (Int32.ofInt x) :: .int (Int32.ofInt i) :: .ref a :: r) | true => x_bast 81 (yH q S js) (.int (Int32.ofInt x) :: .int (Int32.ofInt i) :: .ref a :: r)) = some (yH q (f (yr i).toNat x) js, r) := by
  unfold ysto at h
  split at h
  · rename_i ha
    have h81 := Nat.le_of_ble_eq_true ha
    split at h
    · rename_i t n' s he
      have hg : (yH q S js)[a]? = some (.inl (t, n', yrow S t s)) := by
        have := yH_get q S js he
        rw [yat81 ha] at this
        exact this
      split at h
      · cases h
        have hg : (yH q S js)[a]? = some (.inl (0, n, .inl fun j => Int32.ofInt (gA S s j))) := hg
        simp only [x_iast, hg]
        rw [if_pos ⟨trivial, y_xin hi, h81⟩]
        congr 2
        exact yset_A ha he (by omega) (yr i).toNat x
      · cases h
        have hg : (yH q S js)[a]? = some (.inl (2, n, .inl fun j => Int32.ofInt (gA S s j))) := hg
        simp only [x_bast, hg]
        rw [if_pos ⟨y_xin hi, h81⟩, if_pos trivial]
        congr 2
        have h9 : vp_nar .byte (Int32.ofInt x) = Int32.ofInt (yi2b x) := by rw [vp_nar_byte]; exact (yofI _).symm
        rw [h9]
        exact yset_A ha he (by omega) (yr i).toNat (yi2b x)
      · cases h
        have hg : (yH q S js)[a]? = some (.inl (3, n, .inl fun j => Int32.ofInt (gA S s j))) := hg
        simp only [x_bast, hg]
        rw [if_pos ⟨y_xin hi, h81⟩, if_neg (by omega), if_pos trivial]
        congr 2
        have h9 : vp_nar .boolean (Int32.ofInt x) = Int32.ofInt (yi2z x) := (yofI _).symm
        rw [h9]
        exact yset_A ha he (by omega) (yr i).toNat (yi2z x)
      · cases h
    · cases h
  · cases h
def ystoj (S : yS) (a : Nat) : Option (Nat × (Nat → Int64 → yS)) := match Nat.ble 81 a with
  | true => (match yT[a - 81]? with
    | some (.inr (1, n, s)) => some (n, fun j x => sB S s j x)
    | _ => none)
  | false => none
theorem ystoj_ok {q : yQ} {S : yS} {js : List xO} {a n : Nat} {f : Nat → Int64 → yS} (h : ystoj S a = some (n, f)) {i : Int} (x : Int64) (hi : 0 ≤ yr i ∧ yr i < n) (r : List Value) : x_last 81 (yH q S js) (.long x :: .int (Int32.ofInt i) :: .ref a :: r) = some (yH q (f (yr i).toNat x) js, r) := by
  unfold ystoj at h
  split at h
  · rename_i ha
    have h81 := Nat.le_of_ble_eq_true ha
    split at h
    · rename_i n' s he
      cases h
      have hg : (yH q S js)[a]? = some (.inl (1, n, .inr (.inl (gB S s)))) := by
        have := yH_get q S js he
        rw [yat81 ha] at this
        exact this
      simp only [x_last, hg]
      rw [if_pos ⟨trivial, y_xin hi, h81⟩]
      congr 2
      exact yset_B ha he (yr i).toNat x
    · cases h
  · cases h
def ystor (S : yS) (a : Nat) : Option (Nat × (Nat → Nat → yS)) := match Nat.ble 81 a with
  | true => (match yT[a - 81]? with
    | some (.inr (4, n, s)) => some (n, fun j x => sC S s j x)
    | _ => none)
  | false => none
theorem ystor_ok {q : yQ} {S : yS} {js : List xO} {a n : Nat} {f : Nat → Nat → yS} (h : ystor S a = some (n, f)) {i : Int} {x : Nat} (hi : (0 ≤ yr i ∧ yr i < n) ∧ x < 67) (r : List Value) : x_aast 81 100 (yH q S js) (.ref x :: .int (Int32.ofInt i) :: .ref a :: r) = some (yH q (f (yr i).toNat x) js, r) := by
  unfold ystor at h
  split at h
  · rename_i ha
    have h81 := Nat.le_of_ble_eq_true ha
    split at h
    · rename_i n' s he
      cases h
      have hg : (yH q S js)[a]? = some (.inl (4, n, .inr (.inr (.inr (.inr fun j => yon (gC S s j)))))) := by
        have := yH_get q S js he
        rw [yat81 ha] at this
        exact this
      have hv := yH_kind q S js hi.2
      simp only [x_aast, hg, hv]
      rw [if_pos ⟨trivial, y_xin hi.1, h81, trivial⟩]
      congr 2
      exact yset_C ha he (yr i).toNat hi.2
    · cases h
  · cases h
end YG
