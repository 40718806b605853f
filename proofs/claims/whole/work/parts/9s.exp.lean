/-! AN EXPRESSION's CODE does what it means -/
section YEG
section YEGL
variable {C : yCo} {X : List (Nat × Nat)} {Tk : Nat → Nat → Prop} {e : yEnv} {A : Nat → Nat → Prop} {R : ySt → ySt → Prop} {E : ySt → Prop} {T : yTk} {tx : Nat → Nat → List Int} {nm : Int64 → Option (Nat × Nat × Bool)} {decl : Bool}
theorem yfac_gd (hM : yMach C X tx Tk e A R E) (hK : ∀ t, (T t).1 < 67) (htx : ∀ t, (T t).1 = 64 → Tk ((T t).2.1 + 1) (T t).2.2.toInt.toNat ∧ (tx ((T t).2.1 + 1) (T t).2.2.toInt.toNat).length ≤ 60) (hnm : ∀ v op i c, nm v = some (op, i, c) → 2 ≤ op ∧ op ≤ 4 ∧ i < 8 ∧ A op i ∧ yvt (e op i) c) (hsp : ∀ i, i ≤ 2 → A 5 i ∧ yvt (e 5 i) false) : ∀ rd, rd ≤ 12 → yGd C X tx e R E (yfac T tx nm decl yOO rd) := by
  intro rd
  induction rd with
  | zero =>
    intro _
    have h : yfac T tx nm decl yOO 0 = yfcd T tx nm decl yOO 12 (ypv T tx nm decl yOO 0) := by
      funext base tb t b
      exact yfac_e rfl
    rw [h]
    exact yfcd_gd hM hK htx hnm hsp (fun z => absurd z (by omega)) (fun z => absurd z (by omega))
  | succ r ih =>
    intro hr
    have h : yfac T tx nm decl yOO (r + 1) = yfcd T tx nm decl yOO (11 - r) (ypv T tx nm decl yOO (r + 1)) := by
      funext base tb t b
      exact yfac_e (by omega)
    rw [h]
    exact yfcd_gd hM hK htx hnm hsp (fun _ => yfac_lt r (by omega)) (fun _ => ih (by omega))
theorem yexp_gd (hM : yMach C X tx Tk e A R E) (hK : ∀ t, (T t).1 < 67) (htx : ∀ t, (T t).1 = 64 → Tk ((T t).2.1 + 1) (T t).2.2.toInt.toNat ∧ (tx ((T t).2.1 + 1) (T t).2.2.toInt.toNat).length ≤ 60) (hnm : ∀ v op i c, nm v = some (op, i, c) → 2 ≤ op ∧ op ≤ 4 ∧ i < 8 ∧ A op i ∧ yvt (e op i) c) (hsp : ∀ i, i ≤ 2 → A 5 i ∧ yvt (e 5 i) false) {rd : Nat} (hr : rd ≤ 12) : yGd C X tx e R E (yexp T tx nm decl yOO rd) :=
  yfrom_gd hM hK (yfac_lt rd hr) (yfac_gd hM hK htx hnm hsp rd hr)
end YEGL
end YEG
