/-! taken from whole by wip/p27/slice2.py: 9zm.prog.lean.txt -/
section YSP
abbrev yIe : Type := Nat × Nat × Nat × Nat
abbrev yPV : Type := (Nat × Nat × Nat) × List (Nat × Nat) × List Nat × List yDf × List yDf × (yCo × List (Nat × Nat)) × List yIe × List yIe × (Nat → Option (Nat × Nat))
/-- dead at a place; at a token with an error; at a token with a program -/
abbrev yPS : Type := Nat ⊕ (Nat × ((Nat × Nat) ⊕ yPV))
/-- tokens, how many; bytes of texts; columns' names, how many, their types; rooms -/
abbrev yGx : Type := yTk × Nat × (Nat → Nat → List Int) × (Int64 → Int) × Nat × (Nat → Int) × (Nat → Nat → Nat) × (Nat → Nat)
abbrev gT (G : yGx) : yTk := G.1
abbrev gN (G : yGx) : Nat := G.2.1
abbrev gX (G : yGx) : Nat → Nat → List Int := G.2.2.1
abbrev gCn (G : yGx) : Int64 → Int := G.2.2.2.1
abbrev gCc (G : yGx) : Nat := G.2.2.2.2.1
abbrev gCt (G : yGx) : Nat → Int := G.2.2.2.2.2.1
abbrev gRm (G : yGx) : Nat → Nat → Nat := G.2.2.2.2.2.2.1
abbrev gRx (G : yGx) : Nat → Nat := G.2.2.2.2.2.2.2
abbrev qzPg (V : yPV) : Nat × Nat × Nat := V.1
abbrev qzO (V : yPV) : List (Nat × Nat) := V.2.1
abbrev qzG (V : yPV) : List Nat := V.2.2.1
abbrev qzL (V : yPV) : List yDf := V.2.2.2.1
abbrev qzT (V : yPV) : List yDf := V.2.2.2.2.1
abbrev qzC (V : yPV) : yCo := V.2.2.2.2.2.1.1
abbrev qzX (V : yPV) : List (Nat × Nat) := V.2.2.2.2.2.1.2
abbrev qzI (V : yPV) : List yIe := V.2.2.2.2.2.2.1
abbrev qzP (V : yPV) : List yIe := V.2.2.2.2.2.2.2.1
abbrev qzB (V : yPV) : Nat → Option (Nat × Nat) := V.2.2.2.2.2.2.2.2
abbrev zsPg (V : yPV) (x : Nat × Nat × Nat) : yPV := (x, V.2)
abbrev zsO (V : yPV) (x : List (Nat × Nat)) : yPV := (V.1, x, V.2.2)
abbrev zsG (V : yPV) (x : List Nat) : yPV := (V.1, V.2.1, x, V.2.2.2)
abbrev zsL (V : yPV) (x : List yDf) : yPV := (V.1, V.2.1, V.2.2.1, x, V.2.2.2.2)
abbrev zsT (V : yPV) (x : List yDf) : yPV := (V.1, V.2.1, V.2.2.1, V.2.2.2.1, x, V.2.2.2.2.2)
abbrev zsK (V : yPV) (c : yCo) (x : List (Nat × Nat)) : yPV := (V.1, V.2.1, V.2.2.1, V.2.2.2.1, V.2.2.2.2.1, (c, x), V.2.2.2.2.2.2)
abbrev zsI (V : yPV) (x : List yIe) : yPV := (V.1, V.2.1, V.2.2.1, V.2.2.2.1, V.2.2.2.2.1, V.2.2.2.2.2.1, x, V.2.2.2.2.2.2.2)
abbrev zsP (V : yPV) (x : List yIe) : yPV := (V.1, V.2.1, V.2.2.1, V.2.2.2.1, V.2.2.2.2.1, V.2.2.2.2.2.1, V.2.2.2.2.2.2.1, x, V.2.2.2.2.2.2.2.2)
abbrev zsB (V : yPV) (x : Nat → Option (Nat × Nat)) : yPV := (V.1, V.2.1, V.2.2.1, V.2.2.2.1, V.2.2.2.2.1, V.2.2.2.2.2.1, V.2.2.2.2.2.2.1, V.2.2.2.2.2.2.2.1, x)
/-- what tells where it stands alone -/
def ssh (σ : yPS) : Nat ⊕ Nat := match σ with
  | .inl p => .inl p
  | .inr (t, _) => .inr t
def snx (σ : yPS) : yPS := match σ with
  | .inl p => .inl p
  | .inr (t, κ) => .inr (t + 1, κ)
def srf (G : yGx) (σ : yPS) : yPS := match σ with
  | .inl p => .inl p
  | .inr (t, _) => .inl (gT G t).2.1
def swr (σ : yPS) (n p : Nat) : yPS := match σ with
  | .inl p => .inl p
  | .inr (t, .inl e) => .inr (t, .inl e)
  | .inr (t, .inr _) => .inr (t, .inl (n, p))
def skd (G : yGx) (σ : yPS) : Nat := match σ with
  | .inl _ => 66
  | .inr (t, _) => (gT G t).1
def spl (G : yGx) (σ : yPS) : Nat := match σ with
  | .inl p => p
  | .inr (t, _) => (gT G t).2.1
def svl (G : yGx) (σ : yPS) : Int64 := match σ with
  | .inl _ => 0
  | .inr (t, _) => (gT G t).2.2
def sxp (G : yGx) (kd : Nat) (σ : yPS) : yPS := if skd G σ = kd then snx σ else srf G σ
def smp (f : yPV → yPV) (σ : yPS) : yPS := match σ with
  | .inl p => .inl p
  | .inr (t, .inl e) => .inr (t, .inl e)
  | .inr (t, .inr V) => .inr (t, .inr (f V))
/-- a condition on the program, else an error -/
def sgd (c : yPV → Bool) (n p : Nat) (σ : yPS) : yPS := match σ with
  | .inl p => .inl p
  | .inr (t, .inl e) => .inr (t, .inl e)
  | .inr (t, .inr V) => .inr (t, if c V = true then .inr V else .inl (n, p))
def sln (f : yPV → Nat) (σ : yPS) : Nat := match σ with
  | .inr (_, .inr V) => f V
  | _ => 0
/-- a number in its range -/
def snum (G : yGx) (lo hi : Nat) (σ : yPS) : yPS := if (lo : Int) ≤ (svl G σ).toInt ∧ (svl G σ).toInt ≤ hi then sxp G 63 σ else swr (sxp G 63 σ) 6 (spl G σ)
def snl (l : List yDf) (i : Nat) : Int64 := (l.getD i dDf).1
def sfc (G : yGx) (v : Int64) : Int := gCn G v
def sfl (l : List yDf) (v : Int64) : Int := yfind (snl l) v l.length 0
def sfg (V : yPV) (c : Int) : Int := yfg (fun i => (((qzG V).getD i 0 : Nat) : Int)) c (qzG V).length 0
def sgr (G : yGx) (V : yPV) (v : Int64) : Int := if sfc G v < 0 then -1 else sfg V (sfc G v)
def stk (G : yGx) (V : yPV) (v : Int64) : Bool := decide (0 ≤ sfc G v ∨ 0 ≤ sfl (qzL V) v ∨ 0 ≤ sfl (qzT V) v)
def snm (G : yGx) (w : Int) (V : yPV) (v : Int64) : Option (Nat × Nat × Bool) :=
  if 0 ≤ sfc G v then some (2, (sfc G v).toNat, decide (¬ gCt G (sfc G v).toNat = 0))
  else if w ≠ 0 ∧ 0 ≤ sfl (qzL V) v then some (3, (sfl (qzL V) v).toNat, decide (¬ ((qzL V).getD (sfl (qzL V) v).toNat dDf).2.1 = 0))
  else if w = 2 ∧ 0 ≤ sfl (qzT V) v then some (4, (sfl (qzT V) v).toNat, decide (¬ ((qzT V).getD (sfl (qzT V) v).toNat dDf).2.1 = 0))
  else none
/-- an expression -/
def sxr (G : yGx) (w : Int) (dp : Nat) (σ : yPS) : yPr := match σ with
  | .inl p => .inl p
  | .inr (t, .inl _) => yexp (gT G) (gX G) (fun _ => none) false yOO (12 - dp) 0 0 t 100
  | .inr (t, .inr V) => yexp (gT G) (gX G) (snm G w V) (decide (w = 1)) yOO (12 - dp) (qzC V).length (qzX V).length t 100
def sxk (κ : (Nat × Nat) ⊕ yPV) (m : yMn) : (Nat × Nat) ⊕ yPV := match κ with
  | .inl e => .inl e
  | .inr V => match m with
    | .inl e => .inl e
    | .inr x => .inr (zsK V (qzC V ++ (x.2.2.1 ++ [(30, 0)])) (qzX V ++ x.2.2.2.1))
def sex (G : yGx) (w : Int) (dp : Nat) (σ : yPS) : yPS := match σ with
  | .inl p => .inl p
  | .inr (t, κ) => match sxr G w dp (.inr (t, κ)) with
    | .inl p => .inl p
    | .inr (t', _, m) => .inr (t', sxk κ m)
def sty (G : yGx) (w : Int) (dp : Nat) (σ : yPS) : Nat := match σ with
  | .inr (t, .inr V) => match sxr G w dp (.inr (t, .inr V)) with
    | .inr (_, _, .inr x) => ytyn x
    | _ => 0
  | _ => 0
/-- the context is in order -/
def gOk (G : yGx) : Prop := yTo (gT G) (gN G) ∧ yRoom (gT G) (gN G) (gRm G) (gRx G) 1 ∧ (∀ t, t < gN G → gRx G t ≤ 2000) ∧ (∀ t, t < gN G → (gT G t).1 = 64 → 0 ≤ (gT G t).2.2.toInt ∧ (gT G t).2.2.toInt ≤ 2000 ∧ (gX G ((gT G t).2.1 + 1) (gT G t).2.2.toInt.toNat).length ≤ (gT G t).2.2.toInt.toNat) ∧ (∀ t b b', gRm G t b = gRm G t b') ∧ (gCc G ≤ 8 ∧ ∀ v, -1 ≤ gCn G v ∧ gCn G v < gCc G) ∧ ∀ k, k < gCc G → gCt G k = 0 ∨ gCt G k = 1
/-- rooms behind a token -/
def sRo (G : yGx) (t : Nat) (V : yPV) : Prop := (qzC V).length + gRm G t 100 ≤ 4000 ∧ ytl (gX G) (qzX V) ≤ gRx G t
section YSPL
variable {G : yGx} {σ σ' : yPS}
theorem ssh_mp0 {f : yPV → yPV} : ssh (smp f σ) = ssh σ := by
  rcases σ with p | ⟨t, κ | V⟩ <;> rfl
theorem ssh_gd0 {c : yPV → Bool} {n p : Nat} : ssh (sgd c n p σ) = ssh σ := by
  rcases σ with p | ⟨t, κ | V⟩ <;> rfl
theorem ssh_kd (h : ssh σ = ssh σ') : skd G σ = skd G σ' := by
  rcases σ with p | ⟨t, κ⟩ <;> rcases σ' with p' | ⟨t', κ'⟩ <;> simp only [ssh, Sum.inl.injEq, Sum.inr.injEq, reduceCtorEq] at h
  · rfl
  · rw [h]; rfl
end YSPL
end YSP
