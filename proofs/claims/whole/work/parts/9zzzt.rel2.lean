/-! RUN: the class's run and the reference's, side by side -/
section YTU
def yCw (s k : Nat) : Bool := yWcn s k || (s == 3 && (k == 33 || k == 35)) || (s == 0 && (k == 29 || k == 32 || k == 33 || k == 34 || k == 38))
def yRw (s k : Nat) : Bool := yWp s k || yWan s k || (s == 3 && (k == 62 || k == 64)) || (s == 0 && (k == 64 || k == 68 || k == 69 || k == 70 || k == 72))
def yBc (s k : Nat) : Bool := yCw s k || (s == 0 && (k == 27 || k == 28 || k == 35 || k == 36 || k == 37)) || (s == 3 && k == 34)
def yBr (s k : Nat) : Bool := yRw s k || (s == 0 && (k == 65 || k == 71)) || (s == 1 && k == 3) || (s == 3 && k == 61)
def yWfn (s k : Nat) : Bool := yBc s k || yBr s k || (s == 0 && (k == 30 || k == 31 || k == 39 || k == 66 || k == 67)) || (s == 4 && k == 18)
theorem yWfn_c {S S' : yS} (h : yFr yBc S S') : yFr yWfn S S' := yFr_mo h fun s k e => by
  unfold yWfn at e
  simp only [Bool.or_eq_false_iff] at e
  exact e.1.1.1
theorem yWfn_r {S S' : yS} (h : yFr yBr S S') : yFr yWfn S S' := yFr_mo h fun s k e => by
  unfold yWfn at e
  simp only [Bool.or_eq_false_iff] at e
  exact e.1.1.2
theorem yBc_w {S S' : yS} (h : yFr yCw S S') : yFr yBc S S' := yFr_mo h fun s k e => by
  unfold yBc at e
  simp only [Bool.or_eq_false_iff] at e
  exact e.1.1
theorem yBr_w {S S' : yS} (h : yFr yRw S S') : yFr yBr S S' := yFr_mo h fun s k e => by
  unfold yBr at e
  simp only [Bool.or_eq_false_iff] at e
  exact e.1.1.1
theorem yCw_c {S S' : yS} (h : yFr yWcn S S') : yFr yCw S S' := yFr_mo h fun s k e => by
  unfold yCw at e
  simp only [Bool.or_eq_false_iff] at e
  exact e.1.1
theorem yCw_m {S S' : yS} (h : yFr yWm S S') : yFr yCw S S' := yCw_c (yWcn_m h)
theorem yRw_p {S S' : yS} (h : yFr yWp S S') : yFr yRw S S' := yFr_mo h fun s k e => by
  unfold yRw at e
  simp only [Bool.or_eq_false_iff] at e
  exact e.1.1.1
theorem yRw_a {S S' : yS} (h : yFr yWan S S') : yFr yRw S S' := yFr_mo h fun s k e => by
  unfold yRw at e
  simp only [Bool.or_eq_false_iff] at e
  exact e.1.1.2
section YTUL
variable {S0 : yS} {t : Nat} {V : yPV} {a : Int}
theorem iPq_wf {S S' : yS} (h : iPq S0 t V a S) (hf : yFr yWfn S S') : iPq S0 t V a S' := by
  have i10 : gI S' 10 = gI S 10 := hf.1 10 rfl
  have i8 : gI S' 8 = gI S 8 := hf.1 8 rfl
  have i9 : gI S' 9 = gI S 9 := hf.1 9 rfl
  have i20 : gI S' 20 = gI S 20 := hf.1 20 rfl
  have i21 : gI S' 21 = gI S 21 := hf.1 21 rfl
  have i22 : gI S' 22 = gI S 22 := hf.1 22 rfl
  have i23 : gI S' 23 = gI S 23 := hf.1 23 rfl
  have i24 : gI S' 24 = gI S 24 := hf.1 24 rfl
  have i25 : gI S' 25 = gI S 25 := hf.1 25 rfl
  have i0 : gI S' 0 = gI S 0 := hf.1 0 rfl
  have i2 : gI S' 2 = gI S 2 := hf.1 2 rfl
  have i51 : gI S' 51 = gI S 51 := hf.1 51 rfl
  have i52 : gI S' 52 = gI S 52 := hf.1 52 rfl
  have i53 : gI S' 53 = gI S 53 := hf.1 53 rfl
  have i54 : gI S' 54 = gI S 54 := hf.1 54 rfl
  have i55 : gI S' 55 = gI S 55 := hf.1 55 rfl
  have i56 : gI S' 56 = gI S 56 := hf.1 56 rfl
  have i57 : gI S' 57 = gI S 57 := hf.1 57 rfl
  have i58 : gI S' 58 = gI S 58 := hf.1 58 rfl
  have i4 : gI S' 4 = gI S 4 := hf.1 4 rfl
  have i6 : gI S' 6 = gI S 6 := hf.1 6 rfl
  have i60 : gI S' 60 = gI S 60 := hf.1 60 rfl
  have i61 : gI S' 61 = gI S 61 := hf.1 61 rfl
  have a20 : gA S' 20 = gA S 20 := hf.2.2.2.1 20 rfl
  have a8 : gA S' 8 = gA S 8 := hf.2.2.2.1 8 rfl
  have a25 : gA S' 25 = gA S 25 := hf.2.2.2.1 25 rfl
  have a26 : gA S' 26 = gA S 26 := hf.2.2.2.1 26 rfl
  have a29 : gA S' 29 = gA S 29 := hf.2.2.2.1 29 rfl
  have a14 : gA S' 14 = gA S 14 := hf.2.2.2.1 14 rfl
  have a15 : gA S' 15 = gA S 15 := hf.2.2.2.1 15 rfl
  have a16 : gA S' 16 = gA S 16 := hf.2.2.2.1 16 rfl
  have a17 : gA S' 17 = gA S 17 := hf.2.2.2.1 17 rfl
  have a18 : gA S' 18 = gA S 18 := hf.2.2.2.1 18 rfl
  have a19 : gA S' 19 = gA S 19 := hf.2.2.2.1 19 rfl
  have a23 : gA S' 23 = gA S 23 := hf.2.2.2.1 23 rfl
  have a24 : gA S' 24 = gA S 24 := hf.2.2.2.1 24 rfl
  have a27 : gA S' 27 = gA S 27 := hf.2.2.2.1 27 rfl
  have a28 : gA S' 28 = gA S 28 := hf.2.2.2.1 28 rfl
  have a0 : gA S' 0 = gA S 0 := hf.2.2.2.1 0 rfl
  have a2 : gA S' 2 = gA S 2 := hf.2.2.2.1 2 rfl
  have a4 : gA S' 4 = gA S 4 := hf.2.2.2.1 4 rfl
  have a42 : gA S' 42 = gA S 42 := hf.2.2.2.1 42 rfl
  have a43 : gA S' 43 = gA S 43 := hf.2.2.2.1 43 rfl
  have a44 : gA S' 44 = gA S 44 := hf.2.2.2.1 44 rfl
  have a45 : gA S' 45 = gA S 45 := hf.2.2.2.1 45 rfl
  have a46 : gA S' 46 = gA S 46 := hf.2.2.2.1 46 rfl
  have a47 : gA S' 47 = gA S 47 := hf.2.2.2.1 47 rfl
  have a48 : gA S' 48 = gA S 48 := hf.2.2.2.1 48 rfl
  have a49 : gA S' 49 = gA S 49 := hf.2.2.2.1 49 rfl
  have a50 : gA S' 50 = gA S 50 := hf.2.2.2.1 50 rfl
  have a51 : gA S' 51 = gA S 51 := hf.2.2.2.1 51 rfl
  have a52 : gA S' 52 = gA S 52 := hf.2.2.2.1 52 rfl
  have a53 : gA S' 53 = gA S 53 := hf.2.2.2.1 53 rfl
  have a54 : gA S' 54 = gA S 54 := hf.2.2.2.1 54 rfl
  have a55 : gA S' 55 = gA S 55 := hf.2.2.2.1 55 rfl
  have a6 : gA S' 6 = gA S 6 := hf.2.2.2.1 6 rfl
  have a10 : gA S' 10 = gA S 10 := hf.2.2.2.1 10 rfl
  have a12 : gA S' 12 = gA S 12 := hf.2.2.2.1 12 rfl
  have b4 : gB S' 4 = gB S 4 := hf.2.2.2.2.1 4 rfl
  have b5 : gB S' 5 = gB S 5 := hf.2.2.2.2.1 5 rfl
  have b0 : gB S' 0 = gB S 0 := hf.2.2.2.2.1 0 rfl
  have b14 : gB S' 14 = gB S 14 := hf.2.2.2.2.1 14 rfl
  have b15 : gB S' 15 = gB S 15 := hf.2.2.2.2.1 15 rfl
  have b2 : gB S' 2 = gB S 2 := hf.2.2.2.2.1 2 rfl
  have c0 : gC S' 0 = gC S 0 := hf.2.2.2.2.2 0 rfl
  have c1 : gC S' 1 = gC S 1 := hf.2.2.2.2.2 1 rfl
  have c3 : gC S' 3 = gC S 3 := hf.2.2.2.2.2 3 rfl
  unfold iPq cRg cGr cVl vPg vO vG cDe vIt cBn cK cX rVl rPg rOs rGs rD1 rD2 rPl rBn rK rX at h ⊢
  simp only [Nat.add_zero, Nat.reduceAdd] at h ⊢
  simp only [i10, i8, i9, i20, i21, i22, i23, i24, i25, i0, i2, i51, i52, i53, i54, i55, i56, i57, i58, i4, i6, i60, i61, a20, a8, a25, a26, a29, a14, a15, a16, a17, a18, a19, a23, a24, a27, a28, a0, a2, a4, a42, a43, a44, a45, a46, a47, a48, a49, a50, a51, a52, a53, a54, a55, a6, a10, a12, b4, b5, b0, b14, b15, b2, c0, c1, c3]
  exact h
theorem iPq_bc {S S' : yS} (h : iPq S0 t V a S) (hf : yFr yBc S S') : iPq S0 t V a S' := by
  have i10 : gI S' 10 = gI S 10 := hf.1 10 rfl
  have i8 : gI S' 8 = gI S 8 := hf.1 8 rfl
  have i9 : gI S' 9 = gI S 9 := hf.1 9 rfl
  have i20 : gI S' 20 = gI S 20 := hf.1 20 rfl
  have i21 : gI S' 21 = gI S 21 := hf.1 21 rfl
  have i22 : gI S' 22 = gI S 22 := hf.1 22 rfl
  have i23 : gI S' 23 = gI S 23 := hf.1 23 rfl
  have i24 : gI S' 24 = gI S 24 := hf.1 24 rfl
  have i25 : gI S' 25 = gI S 25 := hf.1 25 rfl
  have i0 : gI S' 0 = gI S 0 := hf.1 0 rfl
  have i2 : gI S' 2 = gI S 2 := hf.1 2 rfl
  have i51 : gI S' 51 = gI S 51 := hf.1 51 rfl
  have i52 : gI S' 52 = gI S 52 := hf.1 52 rfl
  have i53 : gI S' 53 = gI S 53 := hf.1 53 rfl
  have i54 : gI S' 54 = gI S 54 := hf.1 54 rfl
  have i55 : gI S' 55 = gI S 55 := hf.1 55 rfl
  have i56 : gI S' 56 = gI S 56 := hf.1 56 rfl
  have i57 : gI S' 57 = gI S 57 := hf.1 57 rfl
  have i58 : gI S' 58 = gI S 58 := hf.1 58 rfl
  have i4 : gI S' 4 = gI S 4 := hf.1 4 rfl
  have i6 : gI S' 6 = gI S 6 := hf.1 6 rfl
  have i60 : gI S' 60 = gI S 60 := hf.1 60 rfl
  have i61 : gI S' 61 = gI S 61 := hf.1 61 rfl
  have a20 : gA S' 20 = gA S 20 := hf.2.2.2.1 20 rfl
  have a8 : gA S' 8 = gA S 8 := hf.2.2.2.1 8 rfl
  have a25 : gA S' 25 = gA S 25 := hf.2.2.2.1 25 rfl
  have a26 : gA S' 26 = gA S 26 := hf.2.2.2.1 26 rfl
  have a29 : gA S' 29 = gA S 29 := hf.2.2.2.1 29 rfl
  have a14 : gA S' 14 = gA S 14 := hf.2.2.2.1 14 rfl
  have a15 : gA S' 15 = gA S 15 := hf.2.2.2.1 15 rfl
  have a16 : gA S' 16 = gA S 16 := hf.2.2.2.1 16 rfl
  have a17 : gA S' 17 = gA S 17 := hf.2.2.2.1 17 rfl
  have a18 : gA S' 18 = gA S 18 := hf.2.2.2.1 18 rfl
  have a19 : gA S' 19 = gA S 19 := hf.2.2.2.1 19 rfl
  have a23 : gA S' 23 = gA S 23 := hf.2.2.2.1 23 rfl
  have a24 : gA S' 24 = gA S 24 := hf.2.2.2.1 24 rfl
  have a27 : gA S' 27 = gA S 27 := hf.2.2.2.1 27 rfl
  have a28 : gA S' 28 = gA S 28 := hf.2.2.2.1 28 rfl
  have a0 : gA S' 0 = gA S 0 := hf.2.2.2.1 0 rfl
  have a2 : gA S' 2 = gA S 2 := hf.2.2.2.1 2 rfl
  have a4 : gA S' 4 = gA S 4 := hf.2.2.2.1 4 rfl
  have a42 : gA S' 42 = gA S 42 := hf.2.2.2.1 42 rfl
  have a43 : gA S' 43 = gA S 43 := hf.2.2.2.1 43 rfl
  have a44 : gA S' 44 = gA S 44 := hf.2.2.2.1 44 rfl
  have a45 : gA S' 45 = gA S 45 := hf.2.2.2.1 45 rfl
  have a46 : gA S' 46 = gA S 46 := hf.2.2.2.1 46 rfl
  have a47 : gA S' 47 = gA S 47 := hf.2.2.2.1 47 rfl
  have a48 : gA S' 48 = gA S 48 := hf.2.2.2.1 48 rfl
  have a49 : gA S' 49 = gA S 49 := hf.2.2.2.1 49 rfl
  have a50 : gA S' 50 = gA S 50 := hf.2.2.2.1 50 rfl
  have a51 : gA S' 51 = gA S 51 := hf.2.2.2.1 51 rfl
  have a52 : gA S' 52 = gA S 52 := hf.2.2.2.1 52 rfl
  have a53 : gA S' 53 = gA S 53 := hf.2.2.2.1 53 rfl
  have a54 : gA S' 54 = gA S 54 := hf.2.2.2.1 54 rfl
  have a55 : gA S' 55 = gA S 55 := hf.2.2.2.1 55 rfl
  have a6 : gA S' 6 = gA S 6 := hf.2.2.2.1 6 rfl
  have a10 : gA S' 10 = gA S 10 := hf.2.2.2.1 10 rfl
  have a12 : gA S' 12 = gA S 12 := hf.2.2.2.1 12 rfl
  have b4 : gB S' 4 = gB S 4 := hf.2.2.2.2.1 4 rfl
  have b5 : gB S' 5 = gB S 5 := hf.2.2.2.2.1 5 rfl
  have b0 : gB S' 0 = gB S 0 := hf.2.2.2.2.1 0 rfl
  have b14 : gB S' 14 = gB S 14 := hf.2.2.2.2.1 14 rfl
  have b15 : gB S' 15 = gB S 15 := hf.2.2.2.2.1 15 rfl
  have b2 : gB S' 2 = gB S 2 := hf.2.2.2.2.1 2 rfl
  have c0 : gC S' 0 = gC S 0 := hf.2.2.2.2.2 0 rfl
  have c1 : gC S' 1 = gC S 1 := hf.2.2.2.2.2 1 rfl
  have c3 : gC S' 3 = gC S 3 := hf.2.2.2.2.2 3 rfl
  unfold iPq cRg cGr cVl vPg vO vG cDe vIt cBn cK cX rVl rPg rOs rGs rD1 rD2 rPl rBn rK rX at h ⊢
  simp only [Nat.add_zero, Nat.reduceAdd] at h ⊢
  simp only [i10, i8, i9, i20, i21, i22, i23, i24, i25, i0, i2, i51, i52, i53, i54, i55, i56, i57, i58, i4, i6, i60, i61, a20, a8, a25, a26, a29, a14, a15, a16, a17, a18, a19, a23, a24, a27, a28, a0, a2, a4, a42, a43, a44, a45, a46, a47, a48, a49, a50, a51, a52, a53, a54, a55, a6, a10, a12, b4, b5, b0, b14, b15, b2, c0, c1, c3]
  exact h
theorem iPq_br {S S' : yS} (h : iPq S0 t V a S) (hf : yFr yBr S S') : iPq S0 t V a S' := by
  have i10 : gI S' 10 = gI S 10 := hf.1 10 rfl
  have i8 : gI S' 8 = gI S 8 := hf.1 8 rfl
  have i9 : gI S' 9 = gI S 9 := hf.1 9 rfl
  have i20 : gI S' 20 = gI S 20 := hf.1 20 rfl
  have i21 : gI S' 21 = gI S 21 := hf.1 21 rfl
  have i22 : gI S' 22 = gI S 22 := hf.1 22 rfl
  have i23 : gI S' 23 = gI S 23 := hf.1 23 rfl
  have i24 : gI S' 24 = gI S 24 := hf.1 24 rfl
  have i25 : gI S' 25 = gI S 25 := hf.1 25 rfl
  have i0 : gI S' 0 = gI S 0 := hf.1 0 rfl
  have i2 : gI S' 2 = gI S 2 := hf.1 2 rfl
  have i51 : gI S' 51 = gI S 51 := hf.1 51 rfl
  have i52 : gI S' 52 = gI S 52 := hf.1 52 rfl
  have i53 : gI S' 53 = gI S 53 := hf.1 53 rfl
  have i54 : gI S' 54 = gI S 54 := hf.1 54 rfl
  have i55 : gI S' 55 = gI S 55 := hf.1 55 rfl
  have i56 : gI S' 56 = gI S 56 := hf.1 56 rfl
  have i57 : gI S' 57 = gI S 57 := hf.1 57 rfl
  have i58 : gI S' 58 = gI S 58 := hf.1 58 rfl
  have i4 : gI S' 4 = gI S 4 := hf.1 4 rfl
  have i6 : gI S' 6 = gI S 6 := hf.1 6 rfl
  have i60 : gI S' 60 = gI S 60 := hf.1 60 rfl
  have i61 : gI S' 61 = gI S 61 := hf.1 61 rfl
  have a20 : gA S' 20 = gA S 20 := hf.2.2.2.1 20 rfl
  have a8 : gA S' 8 = gA S 8 := hf.2.2.2.1 8 rfl
  have a25 : gA S' 25 = gA S 25 := hf.2.2.2.1 25 rfl
  have a26 : gA S' 26 = gA S 26 := hf.2.2.2.1 26 rfl
  have a29 : gA S' 29 = gA S 29 := hf.2.2.2.1 29 rfl
  have a14 : gA S' 14 = gA S 14 := hf.2.2.2.1 14 rfl
  have a15 : gA S' 15 = gA S 15 := hf.2.2.2.1 15 rfl
  have a16 : gA S' 16 = gA S 16 := hf.2.2.2.1 16 rfl
  have a17 : gA S' 17 = gA S 17 := hf.2.2.2.1 17 rfl
  have a18 : gA S' 18 = gA S 18 := hf.2.2.2.1 18 rfl
  have a19 : gA S' 19 = gA S 19 := hf.2.2.2.1 19 rfl
  have a23 : gA S' 23 = gA S 23 := hf.2.2.2.1 23 rfl
  have a24 : gA S' 24 = gA S 24 := hf.2.2.2.1 24 rfl
  have a27 : gA S' 27 = gA S 27 := hf.2.2.2.1 27 rfl
  have a28 : gA S' 28 = gA S 28 := hf.2.2.2.1 28 rfl
  have a0 : gA S' 0 = gA S 0 := hf.2.2.2.1 0 rfl
  have a2 : gA S' 2 = gA S 2 := hf.2.2.2.1 2 rfl
  have a4 : gA S' 4 = gA S 4 := hf.2.2.2.1 4 rfl
  have a42 : gA S' 42 = gA S 42 := hf.2.2.2.1 42 rfl
  have a43 : gA S' 43 = gA S 43 := hf.2.2.2.1 43 rfl
  have a44 : gA S' 44 = gA S 44 := hf.2.2.2.1 44 rfl
  have a45 : gA S' 45 = gA S 45 := hf.2.2.2.1 45 rfl
  have a46 : gA S' 46 = gA S 46 := hf.2.2.2.1 46 rfl
  have a47 : gA S' 47 = gA S 47 := hf.2.2.2.1 47 rfl
  have a48 : gA S' 48 = gA S 48 := hf.2.2.2.1 48 rfl
  have a49 : gA S' 49 = gA S 49 := hf.2.2.2.1 49 rfl
  have a50 : gA S' 50 = gA S 50 := hf.2.2.2.1 50 rfl
  have a51 : gA S' 51 = gA S 51 := hf.2.2.2.1 51 rfl
  have a52 : gA S' 52 = gA S 52 := hf.2.2.2.1 52 rfl
  have a53 : gA S' 53 = gA S 53 := hf.2.2.2.1 53 rfl
  have a54 : gA S' 54 = gA S 54 := hf.2.2.2.1 54 rfl
  have a55 : gA S' 55 = gA S 55 := hf.2.2.2.1 55 rfl
  have a6 : gA S' 6 = gA S 6 := hf.2.2.2.1 6 rfl
  have a10 : gA S' 10 = gA S 10 := hf.2.2.2.1 10 rfl
  have a12 : gA S' 12 = gA S 12 := hf.2.2.2.1 12 rfl
  have b4 : gB S' 4 = gB S 4 := hf.2.2.2.2.1 4 rfl
  have b5 : gB S' 5 = gB S 5 := hf.2.2.2.2.1 5 rfl
  have b0 : gB S' 0 = gB S 0 := hf.2.2.2.2.1 0 rfl
  have b14 : gB S' 14 = gB S 14 := hf.2.2.2.2.1 14 rfl
  have b15 : gB S' 15 = gB S 15 := hf.2.2.2.2.1 15 rfl
  have b2 : gB S' 2 = gB S 2 := hf.2.2.2.2.1 2 rfl
  have c0 : gC S' 0 = gC S 0 := hf.2.2.2.2.2 0 rfl
  have c1 : gC S' 1 = gC S 1 := hf.2.2.2.2.2 1 rfl
  have c3 : gC S' 3 = gC S 3 := hf.2.2.2.2.2 3 rfl
  unfold iPq cRg cGr cVl vPg vO vG cDe vIt cBn cK cX rVl rPg rOs rGs rD1 rD2 rPl rBn rK rX at h ⊢
  simp only [Nat.add_zero, Nat.reduceAdd] at h ⊢
  simp only [i10, i8, i9, i20, i21, i22, i23, i24, i25, i0, i2, i51, i52, i53, i54, i55, i56, i57, i58, i4, i6, i60, i61, a20, a8, a25, a26, a29, a14, a15, a16, a17, a18, a19, a23, a24, a27, a28, a0, a2, a4, a42, a43, a44, a45, a46, a47, a48, a49, a50, a51, a52, a53, a54, a55, a6, a10, a12, b4, b5, b0, b14, b15, b2, c0, c1, c3]
  exact h
theorem iPq_cw {S S' : yS} (h : iPq S0 t V a S) (hf : yFr yCw S S') : iPq S0 t V a S' := by
  have i10 : gI S' 10 = gI S 10 := hf.1 10 rfl
  have i8 : gI S' 8 = gI S 8 := hf.1 8 rfl
  have i9 : gI S' 9 = gI S 9 := hf.1 9 rfl
  have i20 : gI S' 20 = gI S 20 := hf.1 20 rfl
  have i21 : gI S' 21 = gI S 21 := hf.1 21 rfl
  have i22 : gI S' 22 = gI S 22 := hf.1 22 rfl
  have i23 : gI S' 23 = gI S 23 := hf.1 23 rfl
  have i24 : gI S' 24 = gI S 24 := hf.1 24 rfl
  have i25 : gI S' 25 = gI S 25 := hf.1 25 rfl
  have i0 : gI S' 0 = gI S 0 := hf.1 0 rfl
  have i2 : gI S' 2 = gI S 2 := hf.1 2 rfl
  have i51 : gI S' 51 = gI S 51 := hf.1 51 rfl
  have i52 : gI S' 52 = gI S 52 := hf.1 52 rfl
  have i53 : gI S' 53 = gI S 53 := hf.1 53 rfl
  have i54 : gI S' 54 = gI S 54 := hf.1 54 rfl
  have i55 : gI S' 55 = gI S 55 := hf.1 55 rfl
  have i56 : gI S' 56 = gI S 56 := hf.1 56 rfl
  have i57 : gI S' 57 = gI S 57 := hf.1 57 rfl
  have i58 : gI S' 58 = gI S 58 := hf.1 58 rfl
  have i4 : gI S' 4 = gI S 4 := hf.1 4 rfl
  have i6 : gI S' 6 = gI S 6 := hf.1 6 rfl
  have i60 : gI S' 60 = gI S 60 := hf.1 60 rfl
  have i61 : gI S' 61 = gI S 61 := hf.1 61 rfl
  have a20 : gA S' 20 = gA S 20 := hf.2.2.2.1 20 rfl
  have a8 : gA S' 8 = gA S 8 := hf.2.2.2.1 8 rfl
  have a25 : gA S' 25 = gA S 25 := hf.2.2.2.1 25 rfl
  have a26 : gA S' 26 = gA S 26 := hf.2.2.2.1 26 rfl
  have a29 : gA S' 29 = gA S 29 := hf.2.2.2.1 29 rfl
  have a14 : gA S' 14 = gA S 14 := hf.2.2.2.1 14 rfl
  have a15 : gA S' 15 = gA S 15 := hf.2.2.2.1 15 rfl
  have a16 : gA S' 16 = gA S 16 := hf.2.2.2.1 16 rfl
  have a17 : gA S' 17 = gA S 17 := hf.2.2.2.1 17 rfl
  have a18 : gA S' 18 = gA S 18 := hf.2.2.2.1 18 rfl
  have a19 : gA S' 19 = gA S 19 := hf.2.2.2.1 19 rfl
  have a23 : gA S' 23 = gA S 23 := hf.2.2.2.1 23 rfl
  have a24 : gA S' 24 = gA S 24 := hf.2.2.2.1 24 rfl
  have a27 : gA S' 27 = gA S 27 := hf.2.2.2.1 27 rfl
  have a28 : gA S' 28 = gA S 28 := hf.2.2.2.1 28 rfl
  have a0 : gA S' 0 = gA S 0 := hf.2.2.2.1 0 rfl
  have a2 : gA S' 2 = gA S 2 := hf.2.2.2.1 2 rfl
  have a4 : gA S' 4 = gA S 4 := hf.2.2.2.1 4 rfl
  have a42 : gA S' 42 = gA S 42 := hf.2.2.2.1 42 rfl
  have a43 : gA S' 43 = gA S 43 := hf.2.2.2.1 43 rfl
  have a44 : gA S' 44 = gA S 44 := hf.2.2.2.1 44 rfl
  have a45 : gA S' 45 = gA S 45 := hf.2.2.2.1 45 rfl
  have a46 : gA S' 46 = gA S 46 := hf.2.2.2.1 46 rfl
  have a47 : gA S' 47 = gA S 47 := hf.2.2.2.1 47 rfl
  have a48 : gA S' 48 = gA S 48 := hf.2.2.2.1 48 rfl
  have a49 : gA S' 49 = gA S 49 := hf.2.2.2.1 49 rfl
  have a50 : gA S' 50 = gA S 50 := hf.2.2.2.1 50 rfl
  have a51 : gA S' 51 = gA S 51 := hf.2.2.2.1 51 rfl
  have a52 : gA S' 52 = gA S 52 := hf.2.2.2.1 52 rfl
  have a53 : gA S' 53 = gA S 53 := hf.2.2.2.1 53 rfl
  have a54 : gA S' 54 = gA S 54 := hf.2.2.2.1 54 rfl
  have a55 : gA S' 55 = gA S 55 := hf.2.2.2.1 55 rfl
  have a6 : gA S' 6 = gA S 6 := hf.2.2.2.1 6 rfl
  have a10 : gA S' 10 = gA S 10 := hf.2.2.2.1 10 rfl
  have a12 : gA S' 12 = gA S 12 := hf.2.2.2.1 12 rfl
  have b4 : gB S' 4 = gB S 4 := hf.2.2.2.2.1 4 rfl
  have b5 : gB S' 5 = gB S 5 := hf.2.2.2.2.1 5 rfl
  have b0 : gB S' 0 = gB S 0 := hf.2.2.2.2.1 0 rfl
  have b14 : gB S' 14 = gB S 14 := hf.2.2.2.2.1 14 rfl
  have b15 : gB S' 15 = gB S 15 := hf.2.2.2.2.1 15 rfl
  have b2 : gB S' 2 = gB S 2 := hf.2.2.2.2.1 2 rfl
  have c0 : gC S' 0 = gC S 0 := hf.2.2.2.2.2 0 rfl
  have c1 : gC S' 1 = gC S 1 := hf.2.2.2.2.2 1 rfl
  have c3 : gC S' 3 = gC S 3 := hf.2.2.2.2.2 3 rfl
  unfold iPq cRg cGr cVl vPg vO vG cDe vIt cBn cK cX rVl rPg rOs rGs rD1 rD2 rPl rBn rK rX at h ⊢
  simp only [Nat.add_zero, Nat.reduceAdd] at h ⊢
  simp only [i10, i8, i9, i20, i21, i22, i23, i24, i25, i0, i2, i51, i52, i53, i54, i55, i56, i57, i58, i4, i6, i60, i61, a20, a8, a25, a26, a29, a14, a15, a16, a17, a18, a19, a23, a24, a27, a28, a0, a2, a4, a42, a43, a44, a45, a46, a47, a48, a49, a50, a51, a52, a53, a54, a55, a6, a10, a12, b4, b5, b0, b14, b15, b2, c0, c1, c3]
  exact h
theorem iPq_rw {S S' : yS} (h : iPq S0 t V a S) (hf : yFr yRw S S') : iPq S0 t V a S' := by
  have i10 : gI S' 10 = gI S 10 := hf.1 10 rfl
  have i8 : gI S' 8 = gI S 8 := hf.1 8 rfl
  have i9 : gI S' 9 = gI S 9 := hf.1 9 rfl
  have i20 : gI S' 20 = gI S 20 := hf.1 20 rfl
  have i21 : gI S' 21 = gI S 21 := hf.1 21 rfl
  have i22 : gI S' 22 = gI S 22 := hf.1 22 rfl
  have i23 : gI S' 23 = gI S 23 := hf.1 23 rfl
  have i24 : gI S' 24 = gI S 24 := hf.1 24 rfl
  have i25 : gI S' 25 = gI S 25 := hf.1 25 rfl
  have i0 : gI S' 0 = gI S 0 := hf.1 0 rfl
  have i2 : gI S' 2 = gI S 2 := hf.1 2 rfl
  have i51 : gI S' 51 = gI S 51 := hf.1 51 rfl
  have i52 : gI S' 52 = gI S 52 := hf.1 52 rfl
  have i53 : gI S' 53 = gI S 53 := hf.1 53 rfl
  have i54 : gI S' 54 = gI S 54 := hf.1 54 rfl
  have i55 : gI S' 55 = gI S 55 := hf.1 55 rfl
  have i56 : gI S' 56 = gI S 56 := hf.1 56 rfl
  have i57 : gI S' 57 = gI S 57 := hf.1 57 rfl
  have i58 : gI S' 58 = gI S 58 := hf.1 58 rfl
  have i4 : gI S' 4 = gI S 4 := hf.1 4 rfl
  have i6 : gI S' 6 = gI S 6 := hf.1 6 rfl
  have i60 : gI S' 60 = gI S 60 := hf.1 60 rfl
  have i61 : gI S' 61 = gI S 61 := hf.1 61 rfl
  have a20 : gA S' 20 = gA S 20 := hf.2.2.2.1 20 rfl
  have a8 : gA S' 8 = gA S 8 := hf.2.2.2.1 8 rfl
  have a25 : gA S' 25 = gA S 25 := hf.2.2.2.1 25 rfl
  have a26 : gA S' 26 = gA S 26 := hf.2.2.2.1 26 rfl
  have a29 : gA S' 29 = gA S 29 := hf.2.2.2.1 29 rfl
  have a14 : gA S' 14 = gA S 14 := hf.2.2.2.1 14 rfl
  have a15 : gA S' 15 = gA S 15 := hf.2.2.2.1 15 rfl
  have a16 : gA S' 16 = gA S 16 := hf.2.2.2.1 16 rfl
  have a17 : gA S' 17 = gA S 17 := hf.2.2.2.1 17 rfl
  have a18 : gA S' 18 = gA S 18 := hf.2.2.2.1 18 rfl
  have a19 : gA S' 19 = gA S 19 := hf.2.2.2.1 19 rfl
  have a23 : gA S' 23 = gA S 23 := hf.2.2.2.1 23 rfl
  have a24 : gA S' 24 = gA S 24 := hf.2.2.2.1 24 rfl
  have a27 : gA S' 27 = gA S 27 := hf.2.2.2.1 27 rfl
  have a28 : gA S' 28 = gA S 28 := hf.2.2.2.1 28 rfl
  have a0 : gA S' 0 = gA S 0 := hf.2.2.2.1 0 rfl
  have a2 : gA S' 2 = gA S 2 := hf.2.2.2.1 2 rfl
  have a4 : gA S' 4 = gA S 4 := hf.2.2.2.1 4 rfl
  have a42 : gA S' 42 = gA S 42 := hf.2.2.2.1 42 rfl
  have a43 : gA S' 43 = gA S 43 := hf.2.2.2.1 43 rfl
  have a44 : gA S' 44 = gA S 44 := hf.2.2.2.1 44 rfl
  have a45 : gA S' 45 = gA S 45 := hf.2.2.2.1 45 rfl
  have a46 : gA S' 46 = gA S 46 := hf.2.2.2.1 46 rfl
  have a47 : gA S' 47 = gA S 47 := hf.2.2.2.1 47 rfl
  have a48 : gA S' 48 = gA S 48 := hf.2.2.2.1 48 rfl
  have a49 : gA S' 49 = gA S 49 := hf.2.2.2.1 49 rfl
  have a50 : gA S' 50 = gA S 50 := hf.2.2.2.1 50 rfl
  have a51 : gA S' 51 = gA S 51 := hf.2.2.2.1 51 rfl
  have a52 : gA S' 52 = gA S 52 := hf.2.2.2.1 52 rfl
  have a53 : gA S' 53 = gA S 53 := hf.2.2.2.1 53 rfl
  have a54 : gA S' 54 = gA S 54 := hf.2.2.2.1 54 rfl
  have a55 : gA S' 55 = gA S 55 := hf.2.2.2.1 55 rfl
  have a6 : gA S' 6 = gA S 6 := hf.2.2.2.1 6 rfl
  have a10 : gA S' 10 = gA S 10 := hf.2.2.2.1 10 rfl
  have a12 : gA S' 12 = gA S 12 := hf.2.2.2.1 12 rfl
  have b4 : gB S' 4 = gB S 4 := hf.2.2.2.2.1 4 rfl
  have b5 : gB S' 5 = gB S 5 := hf.2.2.2.2.1 5 rfl
  have b0 : gB S' 0 = gB S 0 := hf.2.2.2.2.1 0 rfl
  have b14 : gB S' 14 = gB S 14 := hf.2.2.2.2.1 14 rfl
  have b15 : gB S' 15 = gB S 15 := hf.2.2.2.2.1 15 rfl
  have b2 : gB S' 2 = gB S 2 := hf.2.2.2.2.1 2 rfl
  have c0 : gC S' 0 = gC S 0 := hf.2.2.2.2.2 0 rfl
  have c1 : gC S' 1 = gC S 1 := hf.2.2.2.2.2 1 rfl
  have c3 : gC S' 3 = gC S 3 := hf.2.2.2.2.2 3 rfl
  unfold iPq cRg cGr cVl vPg vO vG cDe vIt cBn cK cX rVl rPg rOs rGs rD1 rD2 rPl rBn rK rX at h ⊢
  simp only [Nat.add_zero, Nat.reduceAdd] at h ⊢
  simp only [i10, i8, i9, i20, i21, i22, i23, i24, i25, i0, i2, i51, i52, i53, i54, i55, i56, i57, i58, i4, i6, i60, i61, a20, a8, a25, a26, a29, a14, a15, a16, a17, a18, a19, a23, a24, a27, a28, a0, a2, a4, a42, a43, a44, a45, a46, a47, a48, a49, a50, a51, a52, a53, a54, a55, a6, a10, a12, b4, b5, b0, b14, b15, b2, c0, c1, c3]
  exact h
end YTUL
/-- what holds as long as a run goes on: the program, the table, the page's shape, the rows' order -/
def yCx (S0 : yS) (t : Nat) (V : yPV) (a : Int) (n : Nat) (B C : yS) : Prop := ((ytq (tb S0) (gI S0 12).toNat).length ≤ 2001 ∧ iPq S0 t V a B ∧ iPq S0 t V a C) ∧ (iTb B ∧ iTb C ∧ gI C 10 = gI B 10 ∧ gI C 11 = gI B 11 ∧ gA C 20 = gA B 20 ∧ gB C 7 = gB B 7 ∧ nrow (gI B 10) (gI B 11) = n) ∧ (gI B 27 = (zPg V).2.1 ∧ gI B 28 = (zPg V).2.2 ∧ gI B 35 = sht V 1 ∧ gI B 36 = (zPg V).2.2 - sht V 1 - sht V 2 ∧ gI B 37 = sht V 1 + ((zPg V).2.2 - sht V 1 - sht V 2) + 1 ∧ gI C 65 = 1) ∧ (0 ≤ sht V 1 ∧ 0 ≤ sht V 2 ∧ sht V 1 + sht V 2 < (zPg V).2.2) ∧ ∀ i, i < n → gA C 61 i = gA B 34 i ∧ 0 ≤ gA B 34 i ∧ gA B 34 i < n
/-- a cell of a row, and nothing before the first row -/
def yrv (B : yS) (row : Int) (k : Nat) : yVal := yvc (gA B 20 k) (if row < 0 then 0 else gB B 7 (row * gI B 10 + k).toNat)
/-- what can be asked after a run -/
def yOb (B C S T : yS) : Prop := (yFr yCw B S ∧ yFr yRw C T) ∧ (gI T 68 = gI S 29 ∧ 0 ≤ gI S 29 ∧ gI S 29 ≤ 30) ∧ (gI T 69 = gI S 32 ∧ gI S 32 = gI C 69 ∧ 0 ≤ gI S 32 ∧ gI S 32 ≤ 40) ∧ gI T 70 = gI S 33 ∧ (∀ j : Nat, (j : Int) < gI S 29 * gI S 28 * gI S 27 → gA T 64 j = gA S 33 j) ∧ (∀ g, g < 3 → gA T 62 g = gA S 35 g) ∧ ∀ v, cV B 27 v → cV S 27 v
def yVt (V : yPV) (e : yEnv) (S T : yS) : Prop := ∃ has, cTo S (zT V) (e 4) has ∧ rTo T (zT V) (e 4) has
/-- both stand alike; the page's number is not known yet -/
def yRl0 (V : yPV) (n : Nat) (B C : yS) (e : yEnv) (S T : yS) : Prop := yOb B C S T ∧ gI S 34 = 0 ∧ (∀ k, k < (zL V).length → cV S (8 + k) (e 3 k) ∧ rVv T k (e 3 k) ∧ yvt (e 3 k) (decide (¬ ((zL V).getD k dDf).2.1 = 0))) ∧ (yVt V e S T ∧ ∀ k, k < (zT V).length → yvt (e 4 k) (decide (¬ ((zT V).getD k dDf).2.1 = 0))) ∧ ((-1 ≤ gI T 64 ∧ gI T 64 < n) ∧ ∀ k : Nat, (k : Int) < gI B 10 → cV S k (e 2 k) ∧ e 2 k = yrv B (gI T 64) k) ∧ (cV S 25 (e 5 1) ∧ e 5 1 = .inl (gJ C 3)) ∧ cV S 26 (e 5 2) ∧ e 5 2 = .inl (yi2l (gI S 32))
/-- both stand alike -/
def yRl (V : yPV) (n : Nat) (B C : yS) (e : yEnv) (S T : yS) : Prop := yRl0 V n B C e S T ∧ (gI T 72 = gI S 38 ∧ 0 ≤ gI S 38 ∧ gI S 38 ≤ gI B 36) ∧ 1 ≤ gI S 29 ∧ cV S 24 (e 5 0) ∧ e 5 0 = .inl (yi2l (gI S 29))
/-- both have met an error -/
def yEr (V : yPV) (B C : yS) (x : Int) (S T : yS) : Prop := yOb B C S T ∧ gI S 34 = x ∧ ∃ e, yVt V e S T
section YTUM
variable {V : yPV} {n : Nat} {B C S T S' T' : yS} {e : yEnv} {st : List yVal}
theorem rVv_p {k : Nat} {v : yVal} (h : rVv T k v) (hf : yFr yWp T T') : rVv T' k v := by
  obtain ⟨f1, f2, f3, f4, f5, f6⟩ := hf
  match v, h with
  | .inl x, h => exact ⟨by rw [f4 59 rfl]; exact h.1, by rw [f5 17 rfl]; exact h.2⟩
  | .inr l, h => exact ⟨by rw [f4 59 rfl]; exact h.1, h.2.1, fun i y hi => by rw [f4 60 rfl]; exact h.2.2 i y hi⟩
theorem cTo_m {val : Nat → yVal} {has : Nat → Bool} (h8 : (zT V).length ≤ 8) (h : cTo S (zT V) val has) (hc : cRp S S' st) : cTo S' (zT V) val has := fun k hk => by
  rw [hc.1.2.2.2.1 36 rfl]
  exact ⟨cV_low hc (by omega) (h k hk).1, (h k hk).2⟩
theorem rTo_p {val : Nat → yVal} {has : Nat → Bool} (h : rTo T (zT V) val has) (hf : yFr yWp T T') : rTo T' (zT V) val has := fun k hk => by
  rw [hf.2.2.2.1 63 rfl]
  exact ⟨rVv_p (h k hk).1 hf, (h k hk).2⟩
theorem yOb_m (h : yOb B C S T) (hc : yFr yWm S S') (h27 : ∀ v, cV S 27 v → cV S' 27 v) (hf : yFr yWp T T') : yOb B C S' T' := by
  obtain ⟨⟨h1, h2⟩, h3, h4, h5, h6, h7, h8⟩ := h
  refine ⟨⟨yFr_tr h1 (yCw_m hc), yFr_tr h2 (yRw_p hf)⟩, ?_⟩
  rw [hc.1 29 rfl, hc.1 32 rfl, hc.1 33 rfl, hc.1 28 rfl, hc.1 27 rfl, hc.2.2.2.1 33 rfl, hc.2.2.2.1 35 rfl, hf.1 68 rfl, hf.1 69 rfl, hf.1 70 rfl, hf.2.2.2.1 64 rfl, hf.2.2.2.1 62 rfl]
  exact ⟨h3, h4, h5, h6, h7, fun v hv => h27 v (h8 v hv)⟩
/-- the machines' piles and what is on them matter to nothing -/
theorem yRl0_m (h8 : (zL V).length ≤ 8) (h8' : (zT V).length ≤ 8) (hB : gI B 10 ≤ 8) (h : yRl0 V n B C e S T) (hc : cRp S S' st) (hf : yFr yWp T T') : yRl0 V n B C e S' T' := by
  obtain ⟨h1, h2, h3, ⟨⟨has, h4, h4'⟩, h5⟩, ⟨h6, h7⟩, ⟨h8a, h9⟩, h10, h11⟩ := h
  refine ⟨yOb_m h1 hc.1 (fun v hv => cV_low hc (by omega) hv) hf, ?_, fun k hk => ⟨cV_low hc (by omega) (h3 k hk).1, rVv_p (h3 k hk).2.1 hf, (h3 k hk).2.2⟩, ⟨⟨has, cTo_m h8' h4 hc, rTo_p h4' hf⟩, h5⟩, ?_, ⟨cV_low hc (by omega) h8a, h9⟩, cV_low hc (by omega) h10, ?_⟩
  · rw [hc.1.1 34 rfl]
    exact h2
  · rw [hf.1 64 rfl]
    exact ⟨h6, fun k hk => ⟨cV_low hc (by omega) (h7 k hk).1, (h7 k hk).2⟩⟩
  · rw [hc.1.1 32 rfl]
    exact h11
theorem yRl_m (h8 : (zL V).length ≤ 8) (h8' : (zT V).length ≤ 8) (hB : gI B 10 ≤ 8) (h : yRl V n B C e S T) (hc : cRp S S' st) (hf : yFr yWp T T') : yRl V n B C e S' T' := by
  obtain ⟨h1, h2, h3, h4, h5⟩ := h
  refine ⟨yRl0_m h8 h8' hB h1 hc hf, ?_, ?_, cV_low hc (by omega) h4, ?_⟩
  · rw [hf.1 72 rfl, hc.1.1 38 rfl]
    exact h2
  · rw [hc.1.1 29 rfl]
    exact h3
  · rw [hc.1.1 29 rfl]
    exact h5
theorem yRl_er {x : Int} (h : yRl V n B C e S T) : yEr V B C x (sI S 34 x) T := by
  obtain ⟨⟨⟨⟨h1, h1'⟩, h1r⟩, h2, h3, ⟨⟨has, h4, h4'⟩, h5⟩, _⟩, _⟩ := h
  exact ⟨⟨⟨yFr_tr h1 (yFr_I rfl), h1'⟩, h1r⟩, gI_self _ _ _, e, has, h4, h4'⟩
end YTUM
end YTU
