/-! taken from whole by wip/p27/slice.py: 44.rules.lean.txt -/
section YP
theorem yr_eq {x : Int} (h1 : -2147483648 ≤ x) (h2 : x < 2147483648) : yr x = x := Int32.toInt_ofInt_of_le (by omega) (by omega)
theorem yr_of (x : Int32) : yr x.toInt = x.toInt := by unfold yr; rw [yofI]
theorem yr_and (x y : Int) : yr (yand x y) = yand x y := yr_of _
theorem yr_irem (x y : Int) : yr (yirem x y) = yirem x y := yr_of _
theorem yr_lcmp (x y : Int64) : yr (ylcmp x y) = ylcmp x y := yr_of _
/-- a long comparison -/
theorem ylcmp_lt (x y : Int64) : ylcmp x y < 0 ↔ x < y := by
  unfold ylcmp lg_cmp
  rcases Int.lt_trichotomy x.toInt y.toInt with h | h | h
  · have h1 : ¬ x > y := fun z => by have := Int64.lt_iff_toInt_lt.mp z; omega
    have h2 : ¬ x = y := fun z => by rw [z] at h; omega
    rw [if_neg h1, if_neg h2]
    exact ⟨fun _ => Int64.lt_iff_toInt_lt.mpr h, fun _ => by decide⟩
  · have e : x = y := Int64.toInt_inj.mp h
    have h1 : ¬ x > y := fun z => by have := Int64.lt_iff_toInt_lt.mp z; omega
    rw [if_neg h1, if_pos e]
    exact ⟨fun z => absurd z (by decide), fun z => by have := Int64.lt_iff_toInt_lt.mp z; omega⟩
  · have h1 : x > y := Int64.lt_iff_toInt_lt.mpr h
    rw [if_pos h1]
    exact ⟨fun z => absurd z (by decide), fun z => by have := Int64.lt_iff_toInt_lt.mp z; omega⟩
theorem ylcmp_eq (x y : Int64) : ylcmp x y = 0 ↔ x = y := by
  unfold ylcmp lg_cmp
  rcases Int.lt_trichotomy x.toInt y.toInt with h | h | h
  · have h1 : ¬ x > y := fun z => by have := Int64.lt_iff_toInt_lt.mp z; omega
    have h2 : ¬ x = y := fun z => by rw [z] at h; omega
    rw [if_neg h1, if_neg h2]
    exact ⟨fun z => absurd z (by decide), fun z => (h2 z).elim⟩
  · have e : x = y := Int64.toInt_inj.mp h
    have h1 : ¬ x > y := fun z => by have := Int64.lt_iff_toInt_lt.mp z; omega
    rw [if_neg h1, if_pos e]
    exact ⟨fun _ => e, fun _ => by decide⟩
  · have h1 : x > y := Int64.lt_iff_toInt_lt.mpr h
    have h2 : ¬ x = y := fun z => by rw [z] at h; omega
    rw [if_pos h1]
    exact ⟨fun z => absurd z (by decide), fun z => (h2 z).elim⟩
theorem ylcmp_gt (x y : Int64) : 0 < ylcmp x y ↔ y < x := by
  unfold ylcmp lg_cmp
  rcases Int.lt_trichotomy x.toInt y.toInt with h | h | h
  · have h1 : ¬ x > y := fun z => by have := Int64.lt_iff_toInt_lt.mp z; omega
    have h2 : ¬ x = y := fun z => by rw [z] at h; omega
    rw [if_neg h1, if_neg h2]
    exact ⟨fun z => absurd z (by decide), fun z => (h1 z).elim⟩
  · have e : x = y := Int64.toInt_inj.mp h
    have h1 : ¬ x > y := fun z => by have := Int64.lt_iff_toInt_lt.mp z; omega
    rw [if_neg h1, if_pos e]
    exact ⟨fun z => absurd z (by decide), fun z => (h1 z).elim⟩
  · have h1 : x > y := Int64.lt_iff_toInt_lt.mpr h
    rw [if_pos h1]
    exact ⟨fun _ => h1, fun _ => by decide⟩
section YPA
variable {P : xPg} {k ic f pc pc' n : Nat} {L st L' st' : List Value} {ah : List xO} {i : Instr}
end YPA
end YP
