/-! NUMBERS ARE READ BACK -/
section YNM
/-- what the law's number makes of m places -/
def lNu (b : Nat → Int) : Nat → Nat → Int64 → Int → Int64
  | 0, _, x, s => if yr s = 0 then x else -x
  | m + 1, k, x, s => if yr (b k) = 45 then lNu b m (k + 1) x 1 else if yr (b k) = 32 then lNu b m (k + 1) x s else lNu b m (k + 1) (10 * x + yi2l (b k) - 48) s
theorem lNu_cg {b c : Nat → Int} : ∀ (m k i : Nat) (x : Int64) (s : Int), (∀ t, t < m → b (k + t) = c (i + t)) → lNu b m k x s = lNu c m i x s
  | 0, _, _, _, _, _ => rfl
  | m + 1, k, i, x, s, h => by
    have e : b k = c i := h 0 (by omega)
    have ih : ∀ x s, lNu b m (k + 1) x s = lNu c m (i + 1) x s := fun x s => lNu_cg m (k + 1) (i + 1) x s (fun t ht => by
      have := h (t + 1) (by omega)
      rw [show k + (t + 1) = k + 1 + t by omega, show i + (t + 1) = i + 1 + t by omega] at this
      exact this)
    unfold lNu
    rw [e, ih, ih, ih]
def nOk (w : Nat) (x : Int) : Bool := decide (lNu (fun i => wF (wI x) w 32 i) w 0 0 0 = yi2l x)
set_option maxRecDepth 100000 in
theorem nOk_7 : ((List.range 4601).all fun i => nOk 7 ((i : Int) - 2300)) = true := by decide +kernel
set_option maxRecDepth 100000 in
theorem nOk_8 : ((List.range 4601).all fun i => nOk 8 ((i : Int) - 2300)) = true := by decide +kernel
set_option maxRecDepth 100000 in
theorem nOk_5 : ((List.range 199).all fun i => nOk 5 ((i : Int) - 99) && (decide (yr (wF (wI ((i : Int) - 99)) 5 32 0) = 32) && !decide (yr (wF (wI ((i : Int) - 99)) 5 32 4) = 32))) = true := by decide +kernel
theorem nOk_3 : ((List.range 4).all fun i => nOk 3 (i : Int)) = true := by decide +kernel
theorem nOk_4 : ((List.range 50).all fun i => nOk 4 (i : Int)) = true := by decide +kernel
theorem nOk_of {w : Nat} {x : Int} (h : nOk w x = true) : lNu (fun i => wF (wI x) w 32 i) w 0 0 0 = yi2l x := of_decide_eq_true h
theorem n7 {x : Int} (h : -2300 ≤ x ∧ x ≤ 2300) : nOk 7 x = true := by
  have := List.all_eq_true.mp nOk_7 (x + 2300).toNat (List.mem_range.mpr (by omega))
  rw [show (((x + 2300).toNat : Nat) : Int) - 2300 = x by omega] at this
  exact this
theorem n8 {x : Int} (h : -2300 ≤ x ∧ x ≤ 2300) : nOk 8 x = true := by
  have := List.all_eq_true.mp nOk_8 (x + 2300).toNat (List.mem_range.mpr (by omega))
  rw [show (((x + 2300).toNat : Nat) : Int) - 2300 = x by omega] at this
  exact this
theorem n5 {x : Int} (h : -99 ≤ x ∧ x ≤ 99) : nOk 5 x = true ∧ yr (wF (wI x) 5 32 0) = 32 ∧ ¬ yr (wF (wI x) 5 32 4) = 32 := by
  have := List.all_eq_true.mp nOk_5 (x + 99).toNat (List.mem_range.mpr (by omega))
  rw [show (((x + 99).toNat : Nat) : Int) - 99 = x by omega, Bool.and_eq_true, Bool.and_eq_true] at this
  refine ⟨this.1, of_decide_eq_true this.2.1, ?_⟩
  have h2 := this.2.2
  rw [Bool.not_eq_true'] at h2
  exact of_decide_eq_false h2
theorem n3 {x : Int} (h : 0 ≤ x ∧ x ≤ 3) : nOk 3 x = true := by
  have := List.all_eq_true.mp nOk_3 x.toNat (List.mem_range.mpr (by omega))
  rw [show ((x.toNat : Nat) : Int) = x by omega] at this
  exact this
theorem n4 {x : Int} (h : 0 ≤ x ∧ x ≤ 49) : nOk 4 x = true := by
  have := List.all_eq_true.mp nOk_4 x.toNat (List.mem_range.mpr (by omega))
  rw [show ((x.toNat : Nat) : Int) = x by omega] at this
  exact this
end YNM
