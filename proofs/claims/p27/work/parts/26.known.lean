/-! WHAT IS KNOWN AT THE START: classes, types -/
section XAF
variable {s : State} {args : Array Value}
theorem x_types (h0 : (Cond.arrayClass .int).before args s = true) (h1 : (Cond.arrayClass .long).before args s = true) (h2 : (Cond.arrayClass .byte).before args s = true) (h3 : (Cond.arrayClass .boolean).before args s = true) (h4 : va_AO "ReportMill$Kind" s) :
    ∃ tyc : Nat → ClassId, ∀ (k : Nat) (q : ClassId × FieldType), (xtys tyc)[k]? = some q → ArrOfT s q.1 q.2 ∧ va_RA s q.1 q.2 := by
  have one : ∀ {ty : FieldType}, (∀ C, ty ≠ .object C) → (Cond.arrayClass ty).before args s = true → ∃ c : ClassId, ArrOfT s c ty ∧ va_RA s c ty := by
    intro ty hty h
    obtain ⟨c, k, comp, g1, g2, g3⟩ := Cond.arrayClass_spec h
    refine ⟨c, fun n z => ⟨fun k9 h9 => (by cases h9), k, g2, comp, g3⟩, ?_⟩
    cases ty <;> first | exact g1 | exact absurd rfl (hty _)
  obtain ⟨c0, a0, b0⟩ := one (fun _ h => by cases h) h0
  obtain ⟨c1, a1, b1⟩ := one (fun _ h => by cases h) h1
  obtain ⟨c2, a2, b2⟩ := one (fun _ h => by cases h) h2
  obtain ⟨c3, a3, b3⟩ := one (fun _ h => by cases h) h3
  obtain ⟨comp, cA, kA, d1, d2, d3, d4, d5⟩ := Cond.arrayOver_spec h4
  refine ⟨fun n => match n with | 0 => c0 | 1 => c1 | 2 => c2 | 3 => c3 | _ => cA, fun k q hk => ?_⟩
  match k, hk with
  | 0, hk => cases hk; exact ⟨a0, b0⟩
  | 1, hk => cases hk; exact ⟨a1, b1⟩
  | 2, hk => cases hk; exact ⟨a2, b2⟩
  | 3, hk => cases hk; exact ⟨a3, b3⟩
  | 4, hk => cases hk; exact ⟨fun n z => ⟨fun k9 h9 => (by cases h9), kA, d3, comp, d4⟩, kA, comp, d3, d4, d1, d5⟩
  | n + 5, hk => cases hk
/-- each class of those made here: its number in the machine, its fields' places -/
theorem x_classes (hts : ∀ w ∈ xTs, w.before args s = true) (hins : ∀ (c : Nat) (q : xCd), xCds[c]? = some q → ∃ n, (Cond.instantiable q.1 n).before args s = true) (hc : xChkCs = true) :
    ∃ D : va_G, ∀ (c : Nat) (q : vw_C), xCl[c]? = some q → u_Kn s q.1 q.2.1 q.2.2 (D.1 c) (D.2 c) := by
  have one : ∀ c : Nat, ∃ z : ClassId × (Nat → Nat), ∀ q : vw_C, xCl[c]? = some q → u_Kn s q.1 q.2.1 q.2.2 z.1 z.2 := by
    intro c
    cases hq : xCds[c]? with
    | none =>
      refine ⟨(0, fun _ => 0), fun q h => ?_⟩
      obtain ⟨q', h1, -⟩ := xcl_at' h
      rw [hq] at h1
      cases h1
    | some q =>
      obtain ⟨n, hn⟩ := hins c q hq
      obtain ⟨hh, g4⟩ := xChkCs_ok hc hq
      obtain ⟨cC, iS, h⟩ := u_known (T := xT q.2.1) (N := q.2.1.length) hts (xChkC_ok g4).1 hn
      refine ⟨(cC, iS), fun q' h' => ?_⟩
      have e := xcl_at hq
      cases h'.symm.trans e
      exact h
  exact ⟨(fun c => (Classical.choose (one c)).1, fun c => (Classical.choose (one c)).2), fun c q h => Classical.choose_spec (one c) q h⟩
end XAF
