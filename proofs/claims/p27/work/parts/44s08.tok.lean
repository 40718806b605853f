/-! taken from whole by wip/p27/slice.py: 51.tok.lean.txt -/
section YTK
/-- frames: which slots may have changed (sorts 0 int, 1 long, 2 kind, 3 ints, 4 longs, 5 kinds) -/
def yFr (W : Nat → Nat → Bool) (S S' : yS) : Prop := (∀ k, W 0 k = false → gI S' k = gI S k) ∧ (∀ k, W 1 k = false → gJ S' k = gJ S k) ∧ (∀ k, W 2 k = false → gK S' k = gK S k) ∧ (∀ k, W 3 k = false → gA S' k = gA S k) ∧ (∀ k, W 4 k = false → gB S' k = gB S k) ∧ (∀ k, W 5 k = false → gC S' k = gC S k)
theorem yFr_rf (W : Nat → Nat → Bool) (S : yS) : yFr W S S := ⟨fun _ _ => rfl, fun _ _ => rfl, fun _ _ => rfl, fun _ _ => rfl, fun _ _ => rfl, fun _ _ => rfl⟩
theorem yFr_tr {W : Nat → Nat → Bool} {A B C : yS} (h1 : yFr W A B) (h2 : yFr W B C) : yFr W A C := ⟨fun k h => (h2.1 k h).trans (h1.1 k h), fun k h => (h2.2.1 k h).trans (h1.2.1 k h), fun k h => (h2.2.2.1 k h).trans (h1.2.2.1 k h), fun k h => (h2.2.2.2.1 k h).trans (h1.2.2.2.1 k h), fun k h => (h2.2.2.2.2.1 k h).trans (h1.2.2.2.2.1 k h), fun k h => (h2.2.2.2.2.2 k h).trans (h1.2.2.2.2.2 k h)⟩
theorem yFr_I {W : Nat → Nat → Bool} {S : yS} {k : Nat} {x : Int} (h : W 0 k = true) : yFr W S (sI S k x) := ⟨fun j hj => gI_ne S k x (fun e => by rw [e, h] at hj; cases hj), fun _ _ => rfl, fun _ _ => rfl, fun _ _ => rfl, fun _ _ => rfl, fun _ _ => rfl⟩
theorem yFr_A {W : Nat → Nat → Bool} {S : yS} {k i : Nat} {x : Int} (h : W 3 k = true) : yFr W S (sA S k i x) := ⟨fun _ _ => rfl, fun _ _ => rfl, fun _ _ => rfl, fun j hj => gA_ne S k i x (fun e => by rw [e, h] at hj; cases hj), fun _ _ => rfl, fun _ _ => rfl⟩
theorem yFr_B {W : Nat → Nat → Bool} {S : yS} {k i : Nat} {x : Int64} (h : W 4 k = true) : yFr W S (sB S k i x) := ⟨fun _ _ => rfl, fun _ _ => rfl, fun _ _ => rfl, fun _ _ => rfl, fun j hj => gB_ne S k i x (fun e => by rw [e, h] at hj; cases hj), fun _ _ => rfl⟩
theorem yFr_C {W : Nat → Nat → Bool} {S : yS} {k i x : Nat} (h : W 5 k = true) : yFr W S (sC S k i x) := ⟨fun _ _ => rfl, fun _ _ => rfl, fun _ _ => rfl, fun _ _ => rfl, fun _ _ => rfl, fun j hj => gC_ne S k i x (fun e => by rw [e, h] at hj; cases hj)⟩
theorem yFr_mo {W W' : Nat → Nat → Bool} {A B : yS} (h : yFr W A B) (hw : ∀ s k, W' s k = false → W s k = false) : yFr W' A B := ⟨fun k e => h.1 k (hw _ _ e), fun k e => h.2.1 k (hw _ _ e), fun k e => h.2.2.1 k (hw _ _ e), fun k e => h.2.2.2.1 k (hw _ _ e), fun k e => h.2.2.2.2.1 k (hw _ _ e), fun k e => h.2.2.2.2.2 k (hw _ _ e)⟩
section YTKL
variable {q : yQ} {d : Nat} {js : List xO} {S : yS}
end YTKL
end YTK
