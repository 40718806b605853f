/-! A HEAP, READ AS SLOTS: printed by wip/whole/y/gen42.py -/
section YM
def yIs : List (Nat × Nat) := [(26, 2), (36, 2), (26, 5), (36, 5), (1000, 0), (1000, 0), (1000, 0), (1000, 0), (14, 0), (20, 0), (1, 0), (1, 1), (5, 1), (5, 5), (5, 6), (5, 7), (5, 9), (5, 11), (5, 12), (10, 0), (10, 1), (10, 2), (10, 3), (10, 4), (10, 7), (10, 13), (41, 4), (48, 0), (48, 1), (48, 2), (50, 4), (50, 5), (50, 6), (50, 7), (50, 8), (50, 12), (50, 13), (50, 14), (50, 15)]
def yJs : List (Nat × Nat) := [(5, 10)]
def yKs : List (Nat × Nat) := [(5, 8), (41, 3)]
def yAs : List Nat := [29, 39, 27, 37, 28, 38, 1000, 1000, 1000, 1000, 1000, 1000, 1000, 1000, 16, 22, 17, 23, 19, 25, 3, 6, 8, 11, 12, 13, 31, 33, 34, 35, 44, 46, 47, 49, 51, 52, 53]
def yBs : List Nat := [30, 40, 1000, 1000, 15, 21, 2, 4, 9, 45]
def yCs : List Nat := [18, 24, 7, 32]
/-- the field of a thing; the row of a thing -/
def yxf (H : List xO) (k f : Nat) : Value := match H[81 + k]? with
  | some (.inr (_, fs)) => fs.getD f .null
  | _ => .null
def yxI (H : List xO) (s : Nat) : Int := match yIs[s]? with
  | some (k, f) => (match yxf H k f with
    | .int x => x.toInt
    | _ => 0)
  | none => 0
def yxJ (H : List xO) (s : Nat) : Int64 := match yJs[s]? with
  | some (k, f) => (match yxf H k f with
    | .long x => x
    | _ => 0)
  | none => 0
def yxK (H : List xO) (s : Nat) : Nat := match yKs[s]? with
  | some (k, f) => (match yxf H k f with
    | .ref x => x
    | _ => 0)
  | none => 0
def yxA (H : List xO) (s j : Nat) : Int := match yAs[s]? with
  | some k => (match H[81 + k]? with
    | some (.inl (_, _, .inl g)) => (g j).toInt
    | _ => 0)
  | none => 0
def yxB (H : List xO) (s j : Nat) : Int64 := match yBs[s]? with
  | some k => (match H[81 + k]? with
    | some (.inl (_, _, .inr (.inl g))) => g j
    | _ => 0)
  | none => 0
def yxC (H : List xO) (s j : Nat) : Nat := match yCs[s]? with
  | some k => (match H[81 + k]? with
    | some (.inl (_, _, .inr (.inr (.inr (.inr g))))) => yco (g j)
    | _ => 67)
  | none => 67
def yext (H : List xO) : yS := (yxI H, yxJ H, yxK H, yxA H, yxB H, yxC H)
def yat2 (l : List (Nat × Nat)) (s k f : Nat) : Bool := match l[s]? with
  | some (k', f') => Nat.beq k' k && Nat.beq f' f
  | none => false
def yat1 (l : List Nat) (s k : Nat) : Bool := match l[s]? with
  | some k' => Nat.beq k' k
  | none => false
theorem yat2_ok {l : List (Nat × Nat)} {s k f : Nat} (h : yat2 l s k f = true) : l[s]? = some (k, f) := by
  unfold yat2 at h
  split at h
  · rename_i k' f' e
    simp only [Bool.and_eq_true] at h
    rw [e, Nat.eq_of_beq_eq_true h.1, Nat.eq_of_beq_eq_true h.2]
  · cases h
theorem yat1_ok {l : List Nat} {s k : Nat} (h : yat1 l s k = true) : l[s]? = some k := by
  unfold yat1 at h
  split at h
  · rename_i k' e
    rw [e, Nat.eq_of_beq_eq_true h]
  · cases h
/-- a field is of its slot's sort -/
def ycf (k f : Nat) (p : Nat × Nat) (v : Value) : Bool := match p.1, v with
  | 0, .int _ => yat2 yIs p.2 k f
  | 1, .long _ => yat2 yJs p.2 k f
  | 2, .ref r => Nat.beq r p.2
  | 3, .ref _ => yat2 yKs p.2 k f
  | _, _ => false
def ycfs (k : Nat) : Nat → List (Nat × Nat) → List Value → Bool
  | _, [], [] => true
  | f, p :: ps, v :: vs => ycf k f p v && ycfs k (f + 1) ps vs
  | _, _, _ => false
def yco1 (k : Nat) (e : yDs) (o : xO) : Bool := match e, o with
  | .inl (c, fs), .inr (c', vs) => Nat.beq c c' && ycfs k 0 fs vs
  | .inr (t, n, s), .inl (t', n', .inl _) => Nat.beq t t' && Nat.beq n n' && yat1 yAs s k && !Nat.beq t 1 && !Nat.beq t 4
  | .inr (t, n, s), .inl (t', n', .inr (.inl _)) => Nat.beq t t' && Nat.beq n n' && yat1 yBs s k && Nat.beq t 1
  | .inr (t, n, s), .inl (t', n', .inr (.inr (.inr (.inr _)))) => Nat.beq t t' && Nat.beq n n' && yat1 yCs s k && Nat.beq t 4
  | _, _ => false
def ycos : Nat → List yDs → List xO → Bool
  | _, [], [] => true
  | k, e :: es, o :: os => yco1 k e o && ycos (k + 1) es os
  | _, _, _ => false
theorem ycf_ok {H : List xO} {k f : Nat} {p : Nat × Nat} {v : Value} (h : ycf k f p v = true) (hv : yxf H k f = v) : yfld (yext H) p = v := by
  obtain ⟨t, s⟩ := p
  unfold ycf at h
  split at h
  · rename_i x h1
    simp only at h1
    subst h1
    have h2 := yat2_ok h
    show Value.int (Int32.ofInt (yxI H s)) = _
    unfold yxI
    simp only [h2, hv, yofI]
  · rename_i x h1
    simp only at h1
    subst h1
    have h2 := yat2_ok h
    show Value.long (yxJ H s) = _
    unfold yxJ
    simp only [h2, hv]
  · rename_i r h1
    simp only at h1
    subst h1
    show Value.ref s = _
    rw [Nat.eq_of_beq_eq_true h]
  · rename_i x h1
    simp only at h1
    subst h1
    have h2 := yat2_ok h
    show Value.ref (yxK H s) = _
    unfold yxK
    simp only [h2, hv]
  · cases h
theorem ycfs_ok {H : List xO} {k : Nat} : ∀ {fs : List (Nat × Nat)} {vs : List Value} {f : Nat}, ycfs k f fs vs = true → (∀ i v, vs[i]? = some v → yxf H k (f + i) = v) → fs.map (yfld (yext H)) = vs
  | [], [], f, _, _ => rfl
  | [], v :: vs, f, h, _ => by cases h
  | p :: ps, [], f, h, _ => by cases h
  | p :: ps, v :: vs, f, h, hv => by
    unfold ycfs at h
    simp only [Bool.and_eq_true] at h
    rw [List.map_cons, ycf_ok h.1 (hv 0 v rfl), ycfs_ok (fs := ps) (vs := vs) (f := f + 1) h.2 (fun i w hw => by
      have := hv (i + 1) w hw
      rw [← this]
      congr 1
      omega)]
theorem yco1_ok {H : List xO} {k : Nat} {e : yDs} {o : xO} (h : yco1 k e o = true) (ho : H[81 + k]? = some o) : ycell (yext H) e = o := by
  unfold yco1 at h
  split at h
  · rename_i c fs c' vs
    simp only [Bool.and_eq_true] at h
    have hc := Nat.eq_of_beq_eq_true h.1
    subst hc
    show Sum.inr (c, fs.map (yfld (yext H))) = _
    rw [ycfs_ok h.2 (fun i v hv => by
      unfold yxf
      rw [ho]
      simp only
      rw [List.getD_eq_getElem?_getD, Nat.zero_add, hv]
      rfl)]
  · rename_i t n s t' n' g
    simp only [Bool.and_eq_true, Bool.not_eq_true'] at h
    obtain ⟨⟨⟨⟨h1, h2⟩, h3⟩, h4⟩, h5⟩ := h
    have h1 := Nat.eq_of_beq_eq_true h1
    have h2 := Nat.eq_of_beq_eq_true h2
    subst h1
    subst h2
    have h3 := yat1_ok h3
    have h6 : yrow (yext H) t s = .inl fun j => Int32.ofInt (yxA H s j) := by
      unfold yrow
      split
      · simp at h4
      · simp at h5
      · rfl
    show Sum.inl (t, n, yrow (yext H) t s) = _
    rw [h6]
    congr 4
    funext j
    unfold yxA
    simp only [h3, ho, yofI]
  · rename_i t n s t' n' g
    simp only [Bool.and_eq_true] at h
    obtain ⟨⟨⟨h1, h2⟩, h3⟩, h4⟩ := h
    have h1 := Nat.eq_of_beq_eq_true h1
    have h2 := Nat.eq_of_beq_eq_true h2
    have h4 := Nat.eq_of_beq_eq_true h4
    subst h1
    subst h2
    subst h4
    have h3 := yat1_ok h3
    show Sum.inl (1, n, Sum.inr (Sum.inl (yxB H s))) = _
    congr 5
    funext j
    unfold yxB
    simp only [h3, ho]
  · rename_i t n s t' n' g
    simp only [Bool.and_eq_true] at h
    obtain ⟨⟨⟨h1, h2⟩, h3⟩, h4⟩ := h
    have h1 := Nat.eq_of_beq_eq_true h1
    have h2 := Nat.eq_of_beq_eq_true h2
    have h4 := Nat.eq_of_beq_eq_true h4
    subst h1
    subst h2
    subst h4
    have h3 := yat1_ok h3
    show Sum.inl (4, n, Sum.inr (Sum.inr (Sum.inr (Sum.inr (fun j => yon (yxC H s j)))))) = _
    congr 7
    funext j
    unfold yxC
    simp only [h3, ho, yon_yco]
  · cases h
theorem ycos_ok {H : List xO} : ∀ {es : List yDs} {os : List xO} {k : Nat}, ycos k es os = true → (∀ i o, os[i]? = some o → H[81 + (k + i)]? = some o) → es.map (ycell (yext H)) = os
  | [], [], k, _, _ => rfl
  | [], o :: os, k, h, _ => by cases h
  | e :: es, [], k, h, _ => by cases h
  | e :: es, o :: os, k, h, hv => by
    unfold ycos at h
    simp only [Bool.and_eq_true] at h
    rw [List.map_cons, yco1_ok h.1 (hv 0 o rfl), ycos_ok (es := es) (os := os) (k := k + 1) h.2 (fun i w hw => by
      have := hv (i + 1) w hw
      rw [← this]
      congr 1
      omega)]
/-- a heap of the right shape is one of the flat machine's -/
theorem yext_ok {q : yQ} {os : List xO} {H : List xO} (hH : H = xB0 q.2.1 q.2.2 ++ os) (h : ycos 0 yT os = true) : H = yH q (yext H) [] := by
  unfold yH
  rw [ycos_ok h (fun i o ho => by
    rw [hH, List.getElem?_append_right (by rw [xB0_len]; omega), xB0_len]
    rw [← ho]
    congr 1
    omega), List.append_nil]
  exact hH
end YM
