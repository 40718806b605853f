/-! THE SMALL MACHINE: values are the machine's own, but a reference is a number of ours; ad tells where it lies. A method's frame is (pc, L, st). -/
section XA
def xm (ad : Nat → Nat) : Value → Value
  | .ref a => .ref (ad a)
  | v => v
theorem xm_cat (ad : Nat → Nat) (v : Value) : (xm ad v).category = v.category := by cases v <;> rfl
/-- an unset place of the locals -/
def xU : Value := .retAddr 0
def xSet (v : Value) : Bool := match v with
  | .retAddr _ => false
  | _ => true
def xP (ad : Nat → Nat) : Nat → List Value → List (Nat × Value)
  | _, [] => []
  | i, v :: t => if xSet v then (i, xm ad v) :: xP ad (i + 1) t else xP ad (i + 1) t
theorem xP_mem {ad : Nat → Nat} {q : Nat × Value} : ∀ {j : Nat} {L : List Value}, q ∈ xP ad j L ↔ ∃ i v, L[i]? = some v ∧ xSet v = true ∧ q = (j + i, xm ad v)
  | j, [] => by simp [xP]
  | j, v :: t => by
    have ih := @xP_mem ad q (j + 1) t
    unfold xP
    constructor
    · intro h
      by_cases hv : xSet v = true
      · rw [if_pos hv] at h
        rcases List.mem_cons.mp h with h | h
        · exact ⟨0, v, rfl, hv, by rw [h]; rfl⟩
        · obtain ⟨i, w, h1, h2, h3⟩ := ih.mp h
          exact ⟨i + 1, w, h1, h2, by rw [h3]; congr 1; omega⟩
      · rw [if_neg hv] at h
        obtain ⟨i, w, h1, h2, h3⟩ := ih.mp h
        exact ⟨i + 1, w, h1, h2, by rw [h3]; congr 1; omega⟩
    · rintro ⟨i, w, h1, h2, h3⟩
      cases i with
      | zero =>
        cases h1
        rw [if_pos h2, h3]
        exact List.mem_cons_self
      | succ i =>
        have h4 : q ∈ xP ad (j + 1) t := ih.mpr ⟨i, w, h1, h2, by rw [h3]; congr 1; omega⟩
        split
        · exact List.mem_cons_of_mem _ h4
        · exact h4
def xL (ad : Nat → Nat) (L : List Value) (ls : Array Slot) (nL : Nat) : Prop := lv_has ls nL (xP ad 0 L)
theorem xL_at {ad : Nat → Nat} {L : List Value} {ls : Array Slot} {nL i : Nat} {v : Value} (h : xL ad L ls nL) (hi : L[i]? = some v) (hv : xSet v = true) : ls[i]? = some (.val (xm ad v)) := by
  have h1 : (i, xm ad v) ∈ xP ad 0 L := xP_mem.mpr ⟨i, v, hi, hv, by rw [Nat.zero_add]⟩
  exact h.2.2 _ h1
/-- a store of one place, and of two; a long whose second half is overwritten is gone -/
def xst (L : List Value) (i : Nat) (v : Value) : List Value := match i with
  | 0 => L.set 0 v
  | j + 1 => match L[j]? with
    | some (.long _) => (L.set j xU).set (j + 1) v
    | some (.double _) => (L.set j xU).set (j + 1) v
    | _ => L.set (j + 1) v
def xst2 (L : List Value) (i : Nat) (v : Value) : List Value := (xst L i v).set (i + 1) xU
theorem xst_get {L : List Value} {i j : Nat} {v w : Value} (h : (xst L i v)[j]? = some w) (hw : xSet w = true) : (j = i ∧ w = v) ∨ (j ≠ i ∧ L[j]? = some w ∧ ¬ (j + 1 = i ∧ w.category = 2)) := by
  have hset : ∀ (L' : List Value), (L'.set i v)[j]? = some w → (j = i ∧ w = v) ∨ (j ≠ i ∧ L'[j]? = some w) := by
    intro L' h
    by_cases hj : j = i
    · subst hj
      have hl : j < L'.length := by
        have := (List.getElem?_eq_some_iff.mp h).1
        rwa [List.length_set] at this
      rw [List.getElem?_set_self hl] at h
      cases h
      exact Or.inl ⟨rfl, rfl⟩
    · rw [List.getElem?_set_ne (Ne.symm hj)] at h
      exact Or.inr ⟨hj, h⟩
  unfold xst at h
  split at h
  · rcases hset L h with h1 | ⟨h1, h2⟩
    · exact Or.inl h1
    · exact Or.inr ⟨h1, h2, fun z => absurd z.1 (by omega)⟩
  · rename_i k
    have kill : ∀ (x : Value), ((L.set k xU).set (k + 1) v)[j]? = some w → (j = k + 1 ∧ w = v) ∨ (j ≠ k + 1 ∧ L[j]? = some w ∧ ¬ (j + 1 = k + 1 ∧ w.category = 2)) := by
      intro x h
      rcases hset _ h with h1 | ⟨h1, h2⟩
      · exact Or.inl h1
      · by_cases hk : j = k
        · subst hk
          have hl : j < L.length := by
            have := (List.getElem?_eq_some_iff.mp h2).1
            rwa [List.length_set] at this
          rw [List.getElem?_set_self hl] at h2
          cases h2
          cases hw
        · rw [List.getElem?_set_ne (Ne.symm hk)] at h2
          exact Or.inr ⟨h1, h2, fun z => hk (by omega)⟩
    split at h
    · exact kill xU h
    · exact kill xU h
    · rename_i n1 n2
      rcases hset L h with h1 | ⟨h1, h2⟩
      · exact Or.inl h1
      · refine Or.inr ⟨h1, h2, fun z => ?_⟩
        have hk : j = k := by omega
        subst hk
        cases w with
        | long x => exact n1 x h2
        | double x => exact n2 x h2
        | _ => cases z.2
theorem xst_len (L : List Value) (i : Nat) (v : Value) : (xst L i v).length = L.length := by
  unfold xst
  split
  · simp
  · split <;> simp
theorem xL_st {ad : Nat → Nat} {L : List Value} {ls' : Array Slot} {nL i : Nat} {v : Value} (hv : xSet v = true)
    (h : lv_has ls' nL ((i, xm ad v) :: (xP ad 0 L).filter (fun q => !(q.1 == i) && !(q.1 + 1 == i && q.2.category == 2)))) : xL ad (xst L i v) ls' nL := by
  refine ⟨h.1, h.2.1, fun q hq => h.2.2 q ?_⟩
  obtain ⟨j, w, h1, h2, h3⟩ := xP_mem.mp hq
  rcases xst_get h1 h2 with ⟨rfl, rfl⟩ | ⟨g1, g2, g3⟩
  · rw [h3, Nat.zero_add]
    exact List.mem_cons_self
  · refine List.mem_cons_of_mem _ (List.mem_filter.mpr ⟨xP_mem.mpr ⟨j, w, g2, h2, h3⟩, ?_⟩)
    rw [h3]
    simp only [Nat.zero_add, xm_cat, Bool.and_eq_true, Bool.not_eq_true', beq_eq_false_iff_ne, ne_eq, Bool.and_eq_false_iff]
    refine ⟨g1, ?_⟩
    by_cases z : j + 1 = i
    · exact Or.inr fun z2 => g3 ⟨z, z2⟩
    · exact Or.inl z
theorem xL_st2 {ad : Nat → Nat} {L : List Value} {ls' : Array Slot} {nL i : Nat} {v : Value} (hv : xSet v = true)
    (h : lv_has ls' nL ((i, xm ad v) :: (xP ad 0 L).filter (fun q => !(q.1 == i) && (!(q.1 == i + 1) && !(q.1 + 1 == i && q.2.category == 2))))) : xL ad (xst2 L i v) ls' nL := by
  refine ⟨h.1, h.2.1, fun q hq => h.2.2 q ?_⟩
  obtain ⟨j, w, h1, h2, h3⟩ := xP_mem.mp hq
  have hj : j ≠ i + 1 := by
    intro hj
    subst hj
    unfold xst2 at h1
    have hl : i + 1 < (xst L i v).length := by
      have := (List.getElem?_eq_some_iff.mp h1).1
      rwa [List.length_set] at this
    rw [List.getElem?_set_self hl] at h1
    cases h1
    cases h2
  unfold xst2 at h1
  rw [List.getElem?_set_ne (Ne.symm hj)] at h1
  rcases xst_get h1 h2 with ⟨rfl, rfl⟩ | ⟨g1, g2, g3⟩
  · rw [h3, Nat.zero_add]
    exact List.mem_cons_self
  · refine List.mem_cons_of_mem _ (List.mem_filter.mpr ⟨xP_mem.mpr ⟨j, w, g2, h2, h3⟩, ?_⟩)
    rw [h3]
    simp only [Nat.zero_add, xm_cat, Bool.and_eq_true, Bool.not_eq_true', beq_eq_false_iff_ne, ne_eq, Bool.and_eq_false_iff]
    refine ⟨g1, hj, ?_⟩
    by_cases z : j + 1 = i
    · exact Or.inr fun z2 => g3 ⟨z, z2⟩
    · exact Or.inl z
end XA
section XB
variable {p : Program} {l : Launch} {e : Env} {R : Room} {s : State} {m : MethodId} {args : Array Value} {below : List Frame} {meth : Method} {c : Code} {H : Heap} {locs : List Loc} {cells slots : Nat} {Q : State → Prop}
variable {cc : ByteArray} {pc : Nat} {ls : Array Slot} {ad : Nat → Nat} {nL : Nat} {L L' st st' : List Value}
abbrev xJ (st : List Value) (ad : Nat → Nat) : List Value := st.map (xm ad)
def x_iconst (n : Int) (L st : List Value) : Option (List Value × List Value) := some (L, .int (Int32.ofInt n) :: st)
theorem s_iconst (hx : p.tables.exec = Jvm.exec) (hb : c.code = cc)  (n : Int) (hd : decode cc pc = .ok (.iconst n, 1)) (hl : xL ad L ls nL) (h : x_iconst n L st = some (L', st')) (k : ∀ ls' : Array Slot, xL ad L' ls' nL → W p l e R s m args below meth c H locs cells slots Q (F0 m (pc + 1) ls' (xJ st' ad))) : W p l e R s m args below meth c H locs cells slots Q (F0 m pc ls (xJ st ad)) := by
  unfold x_iconst at h
  cases h
  exact lv_iconst hx hb hd rfl (k ls hl)
def x_lconst (n : Fin 2) (L st : List Value) : Option (List Value × List Value) := some (L, .long (Int64.ofNat (n : Nat)) :: st)
theorem s_lconst (hx : p.tables.exec = Jvm.exec) (hb : c.code = cc)  (n : Fin 2) (hd : decode cc pc = .ok (.lconst n, 1)) (hl : xL ad L ls nL) (h : x_lconst n L st = some (L', st')) (k : ∀ ls' : Array Slot, xL ad L' ls' nL → W p l e R s m args below meth c H locs cells slots Q (F0 m (pc + 1) ls' (xJ st' ad))) : W p l e R s m args below meth c H locs cells slots Q (F0 m pc ls (xJ st ad)) := by
  unfold x_lconst at h
  cases h
  exact lv_lconst hx hb hd rfl (k ls hl)
def x_dconst (n : Fin 2) (L st : List Value) : Option (List Value × List Value) := match n with | 0 => some (L, .double FP.dconst0 :: st) | _ => none
theorem s_dconst (hx : p.tables.exec = Jvm.exec) (hb : c.code = cc)  (n : Fin 2) (hd : decode cc pc = .ok (.dconst n, 1)) (hl : xL ad L ls nL) (h : x_dconst n L st = some (L', st')) (k : ∀ ls' : Array Slot, xL ad L' ls' nL → W p l e R s m args below meth c H locs cells slots Q (F0 m (pc + 1) ls' (xJ st' ad))) : W p l e R s m args below meth c H locs cells slots Q (F0 m pc ls (xJ st ad)) := by
  unfold x_dconst at h
  split at h
  · cases h; exact lv_dconst0 hx hb hd (k ls hl)
  · cases h
def x_bipush (n : Int) (L st : List Value) : Option (List Value × List Value) := some (L, .int (Int8.ofInt n).toInt32 :: st)
theorem s_bipush (hx : p.tables.exec = Jvm.exec) (hb : c.code = cc)  (n : Int) (hd : decode cc pc = .ok (.bipush n, 2)) (hl : xL ad L ls nL) (h : x_bipush n L st = some (L', st')) (k : ∀ ls' : Array Slot, xL ad L' ls' nL → W p l e R s m args below meth c H locs cells slots Q (F0 m (pc + 2) ls' (xJ st' ad))) : W p l e R s m args below meth c H locs cells slots Q (F0 m pc ls (xJ st ad)) := by
  unfold x_bipush at h
  cases h
  exact lv_bipush hx hb hd rfl (k ls hl)
def x_sipush (n : Int) (L st : List Value) : Option (List Value × List Value) := some (L, .int (Int16.ofInt n).toInt32 :: st)
theorem s_sipush (hx : p.tables.exec = Jvm.exec) (hb : c.code = cc)  (n : Int) (hd : decode cc pc = .ok (.sipush n, 3)) (hl : xL ad L ls nL) (h : x_sipush n L st = some (L', st')) (k : ∀ ls' : Array Slot, xL ad L' ls' nL → W p l e R s m args below meth c H locs cells slots Q (F0 m (pc + 3) ls' (xJ st' ad))) : W p l e R s m args below meth c H locs cells slots Q (F0 m pc ls (xJ st ad)) := by
  unfold x_sipush at h
  cases h
  exact lv_sipush hx hb hd rfl (k ls hl)
def x_null  (L st : List Value) : Option (List Value × List Value) := some (L, .null :: st)
theorem s_null (hx : p.tables.exec = Jvm.exec) (hb : c.code = cc)  (hd : decode cc pc = .ok (.aconst_null, 1)) (hl : xL ad L ls nL) (h : x_null  L st = some (L', st')) (k : ∀ ls' : Array Slot, xL ad L' ls' nL → W p l e R s m args below meth c H locs cells slots Q (F0 m (pc + 1) ls' (xJ st' ad))) : W p l e R s m args below meth c H locs cells slots Q (F0 m pc ls (xJ st ad)) := by
  unfold x_null at h
  cases h
  exact lv_null hx hb hd (k ls hl)
def x_iload_n (i : Fin 4) (L st : List Value) : Option (List Value × List Value) := match L[(i : Nat)]? with | some (.int x) => some (L, .int x :: st) | _ => none
theorem s_iload_n (hx : p.tables.exec = Jvm.exec) (hb : c.code = cc)  (i : Fin 4) (hd : decode cc pc = .ok (.iload_n i, 1)) (hl : xL ad L ls nL) (h : x_iload_n i L st = some (L', st')) (k : ∀ ls' : Array Slot, xL ad L' ls' nL → W p l e R s m args below meth c H locs cells slots Q (F0 m (pc + 1) ls' (xJ st' ad))) : W p l e R s m args below meth c H locs cells slots Q (F0 m pc ls (xJ st ad)) := by
  unfold x_iload_n at h
  split at h
  · rename_i x hi; cases h; exact lv_iload_n hx hb hd rfl (xL_at hl hi rfl) (k ls hl)
  · cases h
def x_iload (i : Nat) (L st : List Value) : Option (List Value × List Value) := match L[i]? with | some (.int x) => some (L, .int x :: st) | _ => none
theorem s_iload (hx : p.tables.exec = Jvm.exec) (hb : c.code = cc)  (i : Nat) (hd : decode cc pc = .ok (.iload i, 2)) (hl : xL ad L ls nL) (h : x_iload i L st = some (L', st')) (k : ∀ ls' : Array Slot, xL ad L' ls' nL → W p l e R s m args below meth c H locs cells slots Q (F0 m (pc + 2) ls' (xJ st' ad))) : W p l e R s m args below meth c H locs cells slots Q (F0 m pc ls (xJ st ad)) := by
  unfold x_iload at h
  split at h
  · rename_i x hi; cases h; exact lv_iload hx hb hd (xL_at hl hi rfl) (k ls hl)
  · cases h
def x_lload_n (i : Fin 4) (L st : List Value) : Option (List Value × List Value) := match L[(i : Nat)]? with | some (.long x) => some (L, .long x :: st) | _ => none
theorem s_lload_n (hx : p.tables.exec = Jvm.exec) (hb : c.code = cc)  (i : Fin 4) (hd : decode cc pc = .ok (.lload_n i, 1)) (hl : xL ad L ls nL) (h : x_lload_n i L st = some (L', st')) (k : ∀ ls' : Array Slot, xL ad L' ls' nL → W p l e R s m args below meth c H locs cells slots Q (F0 m (pc + 1) ls' (xJ st' ad))) : W p l e R s m args below meth c H locs cells slots Q (F0 m pc ls (xJ st ad)) := by
  unfold x_lload_n at h
  split at h
  · rename_i x hi; cases h; exact lv_lload_n hx hb hd rfl (xL_at hl hi rfl) (k ls hl)
  · cases h
def x_lload (i : Nat) (L st : List Value) : Option (List Value × List Value) := match L[i]? with | some (.long x) => some (L, .long x :: st) | _ => none
theorem s_lload (hx : p.tables.exec = Jvm.exec) (hb : c.code = cc)  (i : Nat) (hd : decode cc pc = .ok (.lload i, 2)) (hl : xL ad L ls nL) (h : x_lload i L st = some (L', st')) (k : ∀ ls' : Array Slot, xL ad L' ls' nL → W p l e R s m args below meth c H locs cells slots Q (F0 m (pc + 2) ls' (xJ st' ad))) : W p l e R s m args below meth c H locs cells slots Q (F0 m pc ls (xJ st ad)) := by
  unfold x_lload at h
  split at h
  · rename_i x hi; cases h; exact lv_lload hx hb hd (xL_at hl hi rfl) (k ls hl)
  · cases h
def x_dload (i : Nat) (L st : List Value) : Option (List Value × List Value) := match L[i]? with | some (.double x) => some (L, .double x :: st) | _ => none
theorem s_dload (hx : p.tables.exec = Jvm.exec) (hb : c.code = cc)  (i : Nat) (hd : decode cc pc = .ok (.dload i, 2)) (hl : xL ad L ls nL) (h : x_dload i L st = some (L', st')) (k : ∀ ls' : Array Slot, xL ad L' ls' nL → W p l e R s m args below meth c H locs cells slots Q (F0 m (pc + 2) ls' (xJ st' ad))) : W p l e R s m args below meth c H locs cells slots Q (F0 m pc ls (xJ st ad)) := by
  unfold x_dload at h
  split at h
  · rename_i x hi; cases h; exact lv_dload hx hb hd (xL_at hl hi rfl) (k ls hl)
  · cases h
def x_aload_n (i : Fin 4) (L st : List Value) : Option (List Value × List Value) := match L[(i : Nat)]? with | some (.ref x) => some (L, .ref x :: st) | _ => none
theorem s_aload_n (hx : p.tables.exec = Jvm.exec) (hb : c.code = cc)  (i : Fin 4) (hd : decode cc pc = .ok (.aload_n i, 1)) (hl : xL ad L ls nL) (h : x_aload_n i L st = some (L', st')) (k : ∀ ls' : Array Slot, xL ad L' ls' nL → W p l e R s m args below meth c H locs cells slots Q (F0 m (pc + 1) ls' (xJ st' ad))) : W p l e R s m args below meth c H locs cells slots Q (F0 m pc ls (xJ st ad)) := by
  unfold x_aload_n at h
  split at h
  · rename_i x hi; cases h; exact lv_aload_n hx hb hd rfl (xL_at hl hi rfl) (k ls hl)
  · cases h
def x_aload (i : Nat) (L st : List Value) : Option (List Value × List Value) := match L[i]? with | some (.ref x) => some (L, .ref x :: st) | _ => none
theorem s_aload (hx : p.tables.exec = Jvm.exec) (hb : c.code = cc)  (i : Nat) (hd : decode cc pc = .ok (.aload i, 2)) (hl : xL ad L ls nL) (h : x_aload i L st = some (L', st')) (k : ∀ ls' : Array Slot, xL ad L' ls' nL → W p l e R s m args below meth c H locs cells slots Q (F0 m (pc + 2) ls' (xJ st' ad))) : W p l e R s m args below meth c H locs cells slots Q (F0 m pc ls (xJ st ad)) := by
  unfold x_aload at h
  split at h
  · rename_i x hi; cases h; exact lv_aload hx hb hd (xL_at hl hi rfl) (k ls hl)
  · cases h
def x_istore_n (i : Fin 4) (L st : List Value) : Option (List Value × List Value) := match st with | .int x :: r => if (i : Nat) < L.length then some (xst L (i : Nat) (.int x), r) else none | _ => none
theorem s_istore_n (hx : p.tables.exec = Jvm.exec) (hb : c.code = cc) (hlen : L.length = nL)  (i : Fin 4) (hd : decode cc pc = .ok (.istore_n i, 1)) (hl : xL ad L ls nL) (h : x_istore_n i L st = some (L', st')) (k : ∀ ls' : Array Slot, xL ad L' ls' nL → W p l e R s m args below meth c H locs cells slots Q (F0 m (pc + 1) ls' (xJ st' ad))) : W p l e R s m args below meth c H locs cells slots Q (F0 m pc ls (xJ st ad)) := by
  unfold x_istore_n at h
  split at h
  · split at h
    · rename_i hi; cases h; exact lv_istore_n hx hb hd rfl (hl : lv_has ls nL (xP ad 0 L)) (hlen ▸ hi) rfl (fun ls' h' => k ls' (xL_st rfl h'))
    · cases h
  · cases h
def x_istore (i : Nat) (L st : List Value) : Option (List Value × List Value) := match st with | .int x :: r => if i < L.length then some (xst L i (.int x), r) else none | _ => none
theorem s_istore (hx : p.tables.exec = Jvm.exec) (hb : c.code = cc) (hlen : L.length = nL)  (i : Nat) (hd : decode cc pc = .ok (.istore i, 2)) (hl : xL ad L ls nL) (h : x_istore i L st = some (L', st')) (k : ∀ ls' : Array Slot, xL ad L' ls' nL → W p l e R s m args below meth c H locs cells slots Q (F0 m (pc + 2) ls' (xJ st' ad))) : W p l e R s m args below meth c H locs cells slots Q (F0 m pc ls (xJ st ad)) := by
  unfold x_istore at h
  split at h
  · split at h
    · rename_i hi; cases h; exact lv_istore hx hb hd (hl : lv_has ls nL (xP ad 0 L)) (hlen ▸ hi) rfl (fun ls' h' => k ls' (xL_st rfl h'))
    · cases h
  · cases h
def x_lstore_n (i : Fin 4) (L st : List Value) : Option (List Value × List Value) := match st with | .long x :: r => if (i : Nat) + 1 < L.length then some (xst2 L (i : Nat) (.long x), r) else none | _ => none
theorem s_lstore_n (hx : p.tables.exec = Jvm.exec) (hb : c.code = cc) (hlen : L.length = nL)  (i : Fin 4) (hd : decode cc pc = .ok (.lstore_n i, 1)) (hl : xL ad L ls nL) (h : x_lstore_n i L st = some (L', st')) (k : ∀ ls' : Array Slot, xL ad L' ls' nL → W p l e R s m args below meth c H locs cells slots Q (F0 m (pc + 1) ls' (xJ st' ad))) : W p l e R s m args below meth c H locs cells slots Q (F0 m pc ls (xJ st ad)) := by
  unfold x_lstore_n at h
  split at h
  · split at h
    · rename_i hi; cases h; exact lv_lstore_n hx hb hd rfl (hl : lv_has ls nL (xP ad 0 L)) (hlen ▸ hi) rfl (fun ls' h' => k ls' (xL_st2 rfl h'))
    · cases h
  · cases h
def x_lstore (i : Nat) (L st : List Value) : Option (List Value × List Value) := match st with | .long x :: r => if i + 1 < L.length then some (xst2 L i (.long x), r) else none | _ => none
theorem s_lstore (hx : p.tables.exec = Jvm.exec) (hb : c.code = cc) (hlen : L.length = nL)  (i : Nat) (hd : decode cc pc = .ok (.lstore i, 2)) (hl : xL ad L ls nL) (h : x_lstore i L st = some (L', st')) (k : ∀ ls' : Array Slot, xL ad L' ls' nL → W p l e R s m args below meth c H locs cells slots Q (F0 m (pc + 2) ls' (xJ st' ad))) : W p l e R s m args below meth c H locs cells slots Q (F0 m pc ls (xJ st ad)) := by
  unfold x_lstore at h
  split at h
  · split at h
    · rename_i hi; cases h; exact lv_lstore hx hb hd (hl : lv_has ls nL (xP ad 0 L)) (hlen ▸ hi) rfl (fun ls' h' => k ls' (xL_st2 rfl h'))
    · cases h
  · cases h
def x_dstore (i : Nat) (L st : List Value) : Option (List Value × List Value) := match st with | .double x :: r => if i + 1 < L.length then some (xst2 L i (.double x), r) else none | _ => none
theorem s_dstore (hx : p.tables.exec = Jvm.exec) (hb : c.code = cc) (hlen : L.length = nL)  (i : Nat) (hd : decode cc pc = .ok (.dstore i, 2)) (hl : xL ad L ls nL) (h : x_dstore i L st = some (L', st')) (k : ∀ ls' : Array Slot, xL ad L' ls' nL → W p l e R s m args below meth c H locs cells slots Q (F0 m (pc + 2) ls' (xJ st' ad))) : W p l e R s m args below meth c H locs cells slots Q (F0 m pc ls (xJ st ad)) := by
  unfold x_dstore at h
  split at h
  · split at h
    · rename_i hi; cases h; exact lv_dstore hx hb hd (hl : lv_has ls nL (xP ad 0 L)) (hlen ▸ hi) rfl (fun ls' h' => k ls' (xL_st2 rfl h'))
    · cases h
  · cases h
def x_astore_n (i : Fin 4) (L st : List Value) : Option (List Value × List Value) := match st with | .ref x :: r => if (i : Nat) < L.length then some (xst L (i : Nat) (.ref x), r) else none | _ => none
theorem s_astore_n (hx : p.tables.exec = Jvm.exec) (hb : c.code = cc) (hlen : L.length = nL)  (i : Fin 4) (hd : decode cc pc = .ok (.astore_n i, 1)) (hl : xL ad L ls nL) (h : x_astore_n i L st = some (L', st')) (k : ∀ ls' : Array Slot, xL ad L' ls' nL → W p l e R s m args below meth c H locs cells slots Q (F0 m (pc + 1) ls' (xJ st' ad))) : W p l e R s m args below meth c H locs cells slots Q (F0 m pc ls (xJ st ad)) := by
  unfold x_astore_n at h
  split at h
  · split at h
    · rename_i hi; cases h; exact lv_astore_n hx hb hd rfl (hl : lv_has ls nL (xP ad 0 L)) (hlen ▸ hi) rfl (fun ls' h' => k ls' (xL_st rfl h'))
    · cases h
  · cases h
def x_astore (i : Nat) (L st : List Value) : Option (List Value × List Value) := match st with | .ref x :: r => if i < L.length then some (xst L i (.ref x), r) else none | _ => none
theorem s_astore (hx : p.tables.exec = Jvm.exec) (hb : c.code = cc) (hlen : L.length = nL)  (i : Nat) (hd : decode cc pc = .ok (.astore i, 2)) (hl : xL ad L ls nL) (h : x_astore i L st = some (L', st')) (k : ∀ ls' : Array Slot, xL ad L' ls' nL → W p l e R s m args below meth c H locs cells slots Q (F0 m (pc + 2) ls' (xJ st' ad))) : W p l e R s m args below meth c H locs cells slots Q (F0 m pc ls (xJ st ad)) := by
  unfold x_astore at h
  split at h
  · split at h
    · rename_i hi; cases h; exact lv_astore hx hb hd (hl : lv_has ls nL (xP ad 0 L)) (hlen ▸ hi) rfl (fun ls' h' => k ls' (xL_st rfl h'))
    · cases h
  · cases h
def x_iinc (i : Nat) (n : Int) (L st : List Value) : Option (List Value × List Value) := match L[i]? with | some (.int x) => if i < L.length then some (xst L i (.int (x + Int32.ofInt n)), st) else none | _ => none
theorem s_iinc (hx : p.tables.exec = Jvm.exec) (hb : c.code = cc) (hlen : L.length = nL)  (i : Nat) (n : Int) (hd : decode cc pc = .ok (.iinc i n, 3)) (hl : xL ad L ls nL) (h : x_iinc i n L st = some (L', st')) (k : ∀ ls' : Array Slot, xL ad L' ls' nL → W p l e R s m args below meth c H locs cells slots Q (F0 m (pc + 3) ls' (xJ st' ad))) : W p l e R s m args below meth c H locs cells slots Q (F0 m pc ls (xJ st ad)) := by
  unfold x_iinc at h
  split at h
  · rename_i x hi; split at h
    · rename_i hi2; cases h
      have h0 : (i, Value.int x) ∈ xP ad 0 L := xP_mem.mpr ⟨i, _, hi, rfl, by rw [Nat.zero_add]; rfl⟩
      obtain ⟨q, hq⟩ := List.getElem?_of_mem h0
      exact lv_iinc hx hb hd (hl : lv_has ls nL (xP ad 0 L)) hq rfl (hlen ▸ hi2) rfl (fun ls' h' => k ls' (xL_st rfl h'))
    · cases h
  · cases h
def x_pop  (L st : List Value) : Option (List Value × List Value) := match st with | v :: r => if v.category = 1 then some (L, r) else none | _ => none
theorem s_pop (hx : p.tables.exec = Jvm.exec) (hb : c.code = cc)  (hd : decode cc pc = .ok (.pop, 1)) (hl : xL ad L ls nL) (h : x_pop  L st = some (L', st')) (k : ∀ ls' : Array Slot, xL ad L' ls' nL → W p l e R s m args below meth c H locs cells slots Q (F0 m (pc + 1) ls' (xJ st' ad))) : W p l e R s m args below meth c H locs cells slots Q (F0 m pc ls (xJ st ad)) := by
  unfold x_pop at h
  split at h
  · rename_i v r; split at h
    · rename_i hc; cases h; exact lv_pop hx hb hd ((xm_cat ad v).trans hc) (k ls hl)
    · cases h
  · cases h
def x_dup  (L st : List Value) : Option (List Value × List Value) := match st with | v :: r => if v.category = 1 then some (L, v :: v :: r) else none | _ => none
theorem s_dup (hx : p.tables.exec = Jvm.exec) (hb : c.code = cc)  (hd : decode cc pc = .ok (.dup, 1)) (hl : xL ad L ls nL) (h : x_dup  L st = some (L', st')) (k : ∀ ls' : Array Slot, xL ad L' ls' nL → W p l e R s m args below meth c H locs cells slots Q (F0 m (pc + 1) ls' (xJ st' ad))) : W p l e R s m args below meth c H locs cells slots Q (F0 m pc ls (xJ st ad)) := by
  unfold x_dup at h
  split at h
  · rename_i v r; split at h
    · rename_i hc; cases h; exact lv_dup hx hb hd ((xm_cat ad v).trans hc) (k ls hl)
    · cases h
  · cases h
def x_dup_x1  (L st : List Value) : Option (List Value × List Value) := match st with | v :: u :: r => if v.category = 1 ∧ u.category = 1 then some (L, v :: u :: v :: r) else none | _ => none
theorem s_dup_x1 (hx : p.tables.exec = Jvm.exec) (hb : c.code = cc)  (hd : decode cc pc = .ok (.dup_x1, 1)) (hl : xL ad L ls nL) (h : x_dup_x1  L st = some (L', st')) (k : ∀ ls' : Array Slot, xL ad L' ls' nL → W p l e R s m args below meth c H locs cells slots Q (F0 m (pc + 1) ls' (xJ st' ad))) : W p l e R s m args below meth c H locs cells slots Q (F0 m pc ls (xJ st ad)) := by
  unfold x_dup_x1 at h
  split at h
  · rename_i v u r; split at h
    · rename_i hc; cases h; exact lv_dup_x1 hx hb hd ((xm_cat ad v).trans hc.1) ((xm_cat ad u).trans hc.2) (k ls hl)
    · cases h
  · cases h
def x_dup2  (L st : List Value) : Option (List Value × List Value) := match st with | v :: r => if v.category = 2 then some (L, v :: v :: r) else (match r with | u :: r2 => if v.category = 1 ∧ u.category = 1 then some (L, v :: u :: v :: u :: r2) else none | _ => none) | _ => none
theorem s_dup2 (hx : p.tables.exec = Jvm.exec) (hb : c.code = cc)  (hd : decode cc pc = .ok (.dup2, 1)) (hl : xL ad L ls nL) (h : x_dup2  L st = some (L', st')) (k : ∀ ls' : Array Slot, xL ad L' ls' nL → W p l e R s m args below meth c H locs cells slots Q (F0 m (pc + 1) ls' (xJ st' ad))) : W p l e R s m args below meth c H locs cells slots Q (F0 m pc ls (xJ st ad)) := by
  unfold x_dup2 at h
  split at h
  · rename_i v r; split at h
    · rename_i hc; cases h; exact lv_dup2_2 hx hb hd ((xm_cat ad v).trans hc) (k ls hl)
    · split at h
      · rename_i u r2; split at h
        · rename_i hc; cases h; exact lv_dup2_11 hx hb hd ((xm_cat ad v).trans hc.1) ((xm_cat ad u).trans hc.2) (k ls hl)
        · cases h
      · cases h
  · cases h
def x_iadd  (L st : List Value) : Option (List Value × List Value) := match st with | .int y :: .int x :: r => some (L, .int (x + y) :: r) | _ => none
theorem s_iadd (hx : p.tables.exec = Jvm.exec) (hb : c.code = cc)  (hd : decode cc pc = .ok (.iadd, 1)) (hl : xL ad L ls nL) (h : x_iadd  L st = some (L', st')) (k : ∀ ls' : Array Slot, xL ad L' ls' nL → W p l e R s m args below meth c H locs cells slots Q (F0 m (pc + 1) ls' (xJ st' ad))) : W p l e R s m args below meth c H locs cells slots Q (F0 m pc ls (xJ st ad)) := by
  unfold x_iadd at h
  split at h
  · cases h; exact lv_iadd hx hb hd (k ls hl)
  · cases h
def x_isub  (L st : List Value) : Option (List Value × List Value) := match st with | .int y :: .int x :: r => some (L, .int (x - y) :: r) | _ => none
theorem s_isub (hx : p.tables.exec = Jvm.exec) (hb : c.code = cc)  (hd : decode cc pc = .ok (.isub, 1)) (hl : xL ad L ls nL) (h : x_isub  L st = some (L', st')) (k : ∀ ls' : Array Slot, xL ad L' ls' nL → W p l e R s m args below meth c H locs cells slots Q (F0 m (pc + 1) ls' (xJ st' ad))) : W p l e R s m args below meth c H locs cells slots Q (F0 m pc ls (xJ st ad)) := by
  unfold x_isub at h
  split at h
  · cases h; exact lv_isub hx hb hd (k ls hl)
  · cases h
def x_imul  (L st : List Value) : Option (List Value × List Value) := match st with | .int y :: .int x :: r => some (L, .int (x * y) :: r) | _ => none
theorem s_imul (hx : p.tables.exec = Jvm.exec) (hb : c.code = cc)  (hd : decode cc pc = .ok (.imul, 1)) (hl : xL ad L ls nL) (h : x_imul  L st = some (L', st')) (k : ∀ ls' : Array Slot, xL ad L' ls' nL → W p l e R s m args below meth c H locs cells slots Q (F0 m (pc + 1) ls' (xJ st' ad))) : W p l e R s m args below meth c H locs cells slots Q (F0 m pc ls (xJ st ad)) := by
  unfold x_imul at h
  split at h
  · cases h; exact lv_imul hx hb hd (k ls hl)
  · cases h
def x_iand  (L st : List Value) : Option (List Value × List Value) := match st with | .int y :: .int x :: r => some (L, .int (x &&& y) :: r) | _ => none
theorem s_iand (hx : p.tables.exec = Jvm.exec) (hb : c.code = cc)  (hd : decode cc pc = .ok (.iand, 1)) (hl : xL ad L ls nL) (h : x_iand  L st = some (L', st')) (k : ∀ ls' : Array Slot, xL ad L' ls' nL → W p l e R s m args below meth c H locs cells slots Q (F0 m (pc + 1) ls' (xJ st' ad))) : W p l e R s m args below meth c H locs cells slots Q (F0 m pc ls (xJ st ad)) := by
  unfold x_iand at h
  split at h
  · cases h; exact lv_iand hx hb hd (k ls hl)
  · cases h
def x_ior  (L st : List Value) : Option (List Value × List Value) := match st with | .int y :: .int x :: r => some (L, .int (x ||| y) :: r) | _ => none
theorem s_ior (hx : p.tables.exec = Jvm.exec) (hb : c.code = cc)  (hd : decode cc pc = .ok (.ior, 1)) (hl : xL ad L ls nL) (h : x_ior  L st = some (L', st')) (k : ∀ ls' : Array Slot, xL ad L' ls' nL → W p l e R s m args below meth c H locs cells slots Q (F0 m (pc + 1) ls' (xJ st' ad))) : W p l e R s m args below meth c H locs cells slots Q (F0 m pc ls (xJ st ad)) := by
  unfold x_ior at h
  split at h
  · cases h; exact lv_ior hx hb hd (k ls hl)
  · cases h
def x_ishl  (L st : List Value) : Option (List Value × List Value) := match st with | .int y :: .int x :: r => some (L, .int (x <<< (y &&& 31)) :: r) | _ => none
theorem s_ishl (hx : p.tables.exec = Jvm.exec) (hb : c.code = cc)  (hd : decode cc pc = .ok (.ishl, 1)) (hl : xL ad L ls nL) (h : x_ishl  L st = some (L', st')) (k : ∀ ls' : Array Slot, xL ad L' ls' nL → W p l e R s m args below meth c H locs cells slots Q (F0 m (pc + 1) ls' (xJ st' ad))) : W p l e R s m args below meth c H locs cells slots Q (F0 m pc ls (xJ st ad)) := by
  unfold x_ishl at h
  split at h
  · cases h; exact lv_ishl hx hb hd (k ls hl)
  · cases h
def x_ishr  (L st : List Value) : Option (List Value × List Value) := match st with | .int y :: .int x :: r => some (L, .int (x >>> (y &&& 31)) :: r) | _ => none
theorem s_ishr (hx : p.tables.exec = Jvm.exec) (hb : c.code = cc)  (hd : decode cc pc = .ok (.ishr, 1)) (hl : xL ad L ls nL) (h : x_ishr  L st = some (L', st')) (k : ∀ ls' : Array Slot, xL ad L' ls' nL → W p l e R s m args below meth c H locs cells slots Q (F0 m (pc + 1) ls' (xJ st' ad))) : W p l e R s m args below meth c H locs cells slots Q (F0 m pc ls (xJ st ad)) := by
  unfold x_ishr at h
  split at h
  · cases h; exact lv_ishr hx hb hd (k ls hl)
  · cases h
def x_iushr  (L st : List Value) : Option (List Value × List Value) := match st with | .int y :: .int x :: r => some (L, .int ((x.toUInt32 >>> (y.toUInt32 &&& Int32.toUInt32 31)).toInt32) :: r) | _ => none
theorem s_iushr (hx : p.tables.exec = Jvm.exec) (hb : c.code = cc)  (hd : decode cc pc = .ok (.iushr, 1)) (hl : xL ad L ls nL) (h : x_iushr  L st = some (L', st')) (k : ∀ ls' : Array Slot, xL ad L' ls' nL → W p l e R s m args below meth c H locs cells slots Q (F0 m (pc + 1) ls' (xJ st' ad))) : W p l e R s m args below meth c H locs cells slots Q (F0 m pc ls (xJ st ad)) := by
  unfold x_iushr at h
  split at h
  · cases h; exact lv_iushr hx hb hd rfl (k ls hl)
  · cases h
def x_idiv  (L st : List Value) : Option (List Value × List Value) := match st with | .int y :: .int x :: r => if y = 0 then none else some (L, .int (x / y) :: r) | _ => none
theorem s_idiv (hx : p.tables.exec = Jvm.exec) (hb : c.code = cc)  (hd : decode cc pc = .ok (.idiv, 1)) (hl : xL ad L ls nL) (h : x_idiv  L st = some (L', st')) (k : ∀ ls' : Array Slot, xL ad L' ls' nL → W p l e R s m args below meth c H locs cells slots Q (F0 m (pc + 1) ls' (xJ st' ad))) : W p l e R s m args below meth c H locs cells slots Q (F0 m pc ls (xJ st ad)) := by
  unfold x_idiv at h
  split at h
  · split at h
    · cases h
    · rename_i hne; cases h; exact lv_idiv hx hb hd hne (k ls hl)
  · cases h
def x_irem  (L st : List Value) : Option (List Value × List Value) := match st with | .int y :: .int x :: r => if y = 0 then none else some (L, .int (x - x / y * y) :: r) | _ => none
theorem s_irem (hx : p.tables.exec = Jvm.exec) (hb : c.code = cc)  (hd : decode cc pc = .ok (.irem, 1)) (hl : xL ad L ls nL) (h : x_irem  L st = some (L', st')) (k : ∀ ls' : Array Slot, xL ad L' ls' nL → W p l e R s m args below meth c H locs cells slots Q (F0 m (pc + 1) ls' (xJ st' ad))) : W p l e R s m args below meth c H locs cells slots Q (F0 m pc ls (xJ st ad)) := by
  unfold x_irem at h
  split at h
  · split at h
    · cases h
    · rename_i hne; cases h; exact lv_irem hx hb hd hne (k ls hl)
  · cases h
def x_ladd  (L st : List Value) : Option (List Value × List Value) := match st with | .long y :: .long x :: r => some (L, .long (x + y) :: r) | _ => none
theorem s_ladd (hx : p.tables.exec = Jvm.exec) (hb : c.code = cc)  (hd : decode cc pc = .ok (.ladd, 1)) (hl : xL ad L ls nL) (h : x_ladd  L st = some (L', st')) (k : ∀ ls' : Array Slot, xL ad L' ls' nL → W p l e R s m args below meth c H locs cells slots Q (F0 m (pc + 1) ls' (xJ st' ad))) : W p l e R s m args below meth c H locs cells slots Q (F0 m pc ls (xJ st ad)) := by
  unfold x_ladd at h
  split at h
  · cases h; exact lv_ladd hx hb hd (k ls hl)
  · cases h
def x_lsub  (L st : List Value) : Option (List Value × List Value) := match st with | .long y :: .long x :: r => some (L, .long (x - y) :: r) | _ => none
theorem s_lsub (hx : p.tables.exec = Jvm.exec) (hb : c.code = cc)  (hd : decode cc pc = .ok (.lsub, 1)) (hl : xL ad L ls nL) (h : x_lsub  L st = some (L', st')) (k : ∀ ls' : Array Slot, xL ad L' ls' nL → W p l e R s m args below meth c H locs cells slots Q (F0 m (pc + 1) ls' (xJ st' ad))) : W p l e R s m args below meth c H locs cells slots Q (F0 m pc ls (xJ st ad)) := by
  unfold x_lsub at h
  split at h
  · cases h; exact lv_lsub hx hb hd (k ls hl)
  · cases h
def x_lmul  (L st : List Value) : Option (List Value × List Value) := match st with | .long y :: .long x :: r => some (L, .long (x * y) :: r) | _ => none
theorem s_lmul (hx : p.tables.exec = Jvm.exec) (hb : c.code = cc)  (hd : decode cc pc = .ok (.lmul, 1)) (hl : xL ad L ls nL) (h : x_lmul  L st = some (L', st')) (k : ∀ ls' : Array Slot, xL ad L' ls' nL → W p l e R s m args below meth c H locs cells slots Q (F0 m (pc + 1) ls' (xJ st' ad))) : W p l e R s m args below meth c H locs cells slots Q (F0 m pc ls (xJ st ad)) := by
  unfold x_lmul at h
  split at h
  · cases h; exact lv_lmul hx hb hd (k ls hl)
  · cases h
def x_land  (L st : List Value) : Option (List Value × List Value) := match st with | .long y :: .long x :: r => some (L, .long (x &&& y) :: r) | _ => none
theorem s_land (hx : p.tables.exec = Jvm.exec) (hb : c.code = cc)  (hd : decode cc pc = .ok (.land, 1)) (hl : xL ad L ls nL) (h : x_land  L st = some (L', st')) (k : ∀ ls' : Array Slot, xL ad L' ls' nL → W p l e R s m args below meth c H locs cells slots Q (F0 m (pc + 1) ls' (xJ st' ad))) : W p l e R s m args below meth c H locs cells slots Q (F0 m pc ls (xJ st ad)) := by
  unfold x_land at h
  split at h
  · cases h; exact lv_land hx hb hd (k ls hl)
  · cases h
def x_lor  (L st : List Value) : Option (List Value × List Value) := match st with | .long y :: .long x :: r => some (L, .long (x ||| y) :: r) | _ => none
theorem s_lor (hx : p.tables.exec = Jvm.exec) (hb : c.code = cc)  (hd : decode cc pc = .ok (.lor, 1)) (hl : xL ad L ls nL) (h : x_lor  L st = some (L', st')) (k : ∀ ls' : Array Slot, xL ad L' ls' nL → W p l e R s m args below meth c H locs cells slots Q (F0 m (pc + 1) ls' (xJ st' ad))) : W p l e R s m args below meth c H locs cells slots Q (F0 m pc ls (xJ st ad)) := by
  unfold x_lor at h
  split at h
  · cases h; exact lv_lor hx hb hd (k ls hl)
  · cases h
def x_ldiv  (L st : List Value) : Option (List Value × List Value) := match st with | .long y :: .long x :: r => if y = 0 then none else some (L, .long (x / y) :: r) | _ => none
theorem s_ldiv (hx : p.tables.exec = Jvm.exec) (hb : c.code = cc)  (hd : decode cc pc = .ok (.ldiv, 1)) (hl : xL ad L ls nL) (h : x_ldiv  L st = some (L', st')) (k : ∀ ls' : Array Slot, xL ad L' ls' nL → W p l e R s m args below meth c H locs cells slots Q (F0 m (pc + 1) ls' (xJ st' ad))) : W p l e R s m args below meth c H locs cells slots Q (F0 m pc ls (xJ st ad)) := by
  unfold x_ldiv at h
  split at h
  · split at h
    · cases h
    · rename_i hne; cases h; exact lv_ldiv hx hb hd hne (k ls hl)
  · cases h
def x_lrem  (L st : List Value) : Option (List Value × List Value) := match st with | .long y :: .long x :: r => if y = 0 then none else some (L, .long (x - x / y * y) :: r) | _ => none
theorem s_lrem (hx : p.tables.exec = Jvm.exec) (hb : c.code = cc)  (hd : decode cc pc = .ok (.lrem, 1)) (hl : xL ad L ls nL) (h : x_lrem  L st = some (L', st')) (k : ∀ ls' : Array Slot, xL ad L' ls' nL → W p l e R s m args below meth c H locs cells slots Q (F0 m (pc + 1) ls' (xJ st' ad))) : W p l e R s m args below meth c H locs cells slots Q (F0 m pc ls (xJ st ad)) := by
  unfold x_lrem at h
  split at h
  · split at h
    · cases h
    · rename_i hne; cases h; exact lv_lrem hx hb hd hne (k ls hl)
  · cases h
def x_lcmp  (L st : List Value) : Option (List Value × List Value) := match st with | .long y :: .long x :: r => some (L, .int (lg_cmp x y) :: r) | _ => none
theorem s_lcmp (hx : p.tables.exec = Jvm.exec) (hb : c.code = cc)  (hd : decode cc pc = .ok (.lcmp, 1)) (hl : xL ad L ls nL) (h : x_lcmp  L st = some (L', st')) (k : ∀ ls' : Array Slot, xL ad L' ls' nL → W p l e R s m args below meth c H locs cells slots Q (F0 m (pc + 1) ls' (xJ st' ad))) : W p l e R s m args below meth c H locs cells slots Q (F0 m pc ls (xJ st ad)) := by
  unfold x_lcmp at h
  split at h
  · cases h; exact W.lcmp hx hb hd (k ls hl)
  · cases h
def x_lshl  (L st : List Value) : Option (List Value × List Value) := match st with | .int y :: .long x :: r => some (L, .long (x <<< (y.toInt64 &&& 63)) :: r) | _ => none
theorem s_lshl (hx : p.tables.exec = Jvm.exec) (hb : c.code = cc)  (hd : decode cc pc = .ok (.lshl, 1)) (hl : xL ad L ls nL) (h : x_lshl  L st = some (L', st')) (k : ∀ ls' : Array Slot, xL ad L' ls' nL → W p l e R s m args below meth c H locs cells slots Q (F0 m (pc + 1) ls' (xJ st' ad))) : W p l e R s m args below meth c H locs cells slots Q (F0 m pc ls (xJ st ad)) := by
  unfold x_lshl at h
  split at h
  · cases h; exact lv_lshl hx hb hd rfl (k ls hl)
  · cases h
def x_lshr  (L st : List Value) : Option (List Value × List Value) := match st with | .int y :: .long x :: r => some (L, .long (x >>> (y.toInt64 &&& 63)) :: r) | _ => none
theorem s_lshr (hx : p.tables.exec = Jvm.exec) (hb : c.code = cc)  (hd : decode cc pc = .ok (.lshr, 1)) (hl : xL ad L ls nL) (h : x_lshr  L st = some (L', st')) (k : ∀ ls' : Array Slot, xL ad L' ls' nL → W p l e R s m args below meth c H locs cells slots Q (F0 m (pc + 1) ls' (xJ st' ad))) : W p l e R s m args below meth c H locs cells slots Q (F0 m pc ls (xJ st ad)) := by
  unfold x_lshr at h
  split at h
  · cases h; exact lv_lshr hx hb hd rfl (k ls hl)
  · cases h
def x_lushr  (L st : List Value) : Option (List Value × List Value) := match st with | .int y :: .long x :: r => some (L, .long ((x.toUInt64 >>> (y.toInt64.toUInt64 &&& Int64.toUInt64 63)).toInt64) :: r) | _ => none
theorem s_lushr (hx : p.tables.exec = Jvm.exec) (hb : c.code = cc)  (hd : decode cc pc = .ok (.lushr, 1)) (hl : xL ad L ls nL) (h : x_lushr  L st = some (L', st')) (k : ∀ ls' : Array Slot, xL ad L' ls' nL → W p l e R s m args below meth c H locs cells slots Q (F0 m (pc + 1) ls' (xJ st' ad))) : W p l e R s m args below meth c H locs cells slots Q (F0 m pc ls (xJ st ad)) := by
  unfold x_lushr at h
  split at h
  · cases h; exact lv_lushr hx hb hd rfl (k ls hl)
  · cases h
def x_ineg  (L st : List Value) : Option (List Value × List Value) := match st with | .int x :: r => some (L, .int (-x) :: r) | _ => none
theorem s_ineg (hx : p.tables.exec = Jvm.exec) (hb : c.code = cc)  (hd : decode cc pc = .ok (.ineg, 1)) (hl : xL ad L ls nL) (h : x_ineg  L st = some (L', st')) (k : ∀ ls' : Array Slot, xL ad L' ls' nL → W p l e R s m args below meth c H locs cells slots Q (F0 m (pc + 1) ls' (xJ st' ad))) : W p l e R s m args below meth c H locs cells slots Q (F0 m pc ls (xJ st ad)) := by
  unfold x_ineg at h
  split at h
  · cases h; exact lv_ineg hx hb hd (k ls hl)
  · cases h
def x_lneg  (L st : List Value) : Option (List Value × List Value) := match st with | .long x :: r => some (L, .long (-x) :: r) | _ => none
theorem s_lneg (hx : p.tables.exec = Jvm.exec) (hb : c.code = cc)  (hd : decode cc pc = .ok (.lneg, 1)) (hl : xL ad L ls nL) (h : x_lneg  L st = some (L', st')) (k : ∀ ls' : Array Slot, xL ad L' ls' nL → W p l e R s m args below meth c H locs cells slots Q (F0 m (pc + 1) ls' (xJ st' ad))) : W p l e R s m args below meth c H locs cells slots Q (F0 m pc ls (xJ st ad)) := by
  unfold x_lneg at h
  split at h
  · cases h; exact lv_lneg hx hb hd (k ls hl)
  · cases h
def x_i2l  (L st : List Value) : Option (List Value × List Value) := match st with | .int x :: r => some (L, .long (x.toInt64) :: r) | _ => none
theorem s_i2l (hx : p.tables.exec = Jvm.exec) (hb : c.code = cc)  (hd : decode cc pc = .ok (.i2l, 1)) (hl : xL ad L ls nL) (h : x_i2l  L st = some (L', st')) (k : ∀ ls' : Array Slot, xL ad L' ls' nL → W p l e R s m args below meth c H locs cells slots Q (F0 m (pc + 1) ls' (xJ st' ad))) : W p l e R s m args below meth c H locs cells slots Q (F0 m pc ls (xJ st ad)) := by
  unfold x_i2l at h
  split at h
  · cases h; exact lv_i2l hx hb hd rfl (k ls hl)
  · cases h
def x_l2i  (L st : List Value) : Option (List Value × List Value) := match st with | .long x :: r => some (L, .int (x.toInt32) :: r) | _ => none
theorem s_l2i (hx : p.tables.exec = Jvm.exec) (hb : c.code = cc)  (hd : decode cc pc = .ok (.l2i, 1)) (hl : xL ad L ls nL) (h : x_l2i  L st = some (L', st')) (k : ∀ ls' : Array Slot, xL ad L' ls' nL → W p l e R s m args below meth c H locs cells slots Q (F0 m (pc + 1) ls' (xJ st' ad))) : W p l e R s m args below meth c H locs cells slots Q (F0 m pc ls (xJ st ad)) := by
  unfold x_l2i at h
  split at h
  · cases h; exact lv_l2i hx hb hd rfl (k ls hl)
  · cases h
def x_i2b  (L st : List Value) : Option (List Value × List Value) := match st with | .int x :: r => some (L, .int (x.toInt8.toInt32) :: r) | _ => none
theorem s_i2b (hx : p.tables.exec = Jvm.exec) (hb : c.code = cc)  (hd : decode cc pc = .ok (.i2b, 1)) (hl : xL ad L ls nL) (h : x_i2b  L st = some (L', st')) (k : ∀ ls' : Array Slot, xL ad L' ls' nL → W p l e R s m args below meth c H locs cells slots Q (F0 m (pc + 1) ls' (xJ st' ad))) : W p l e R s m args below meth c H locs cells slots Q (F0 m pc ls (xJ st ad)) := by
  unfold x_i2b at h
  split at h
  · cases h; exact lv_i2b hx hb hd rfl (k ls hl)
  · cases h
def x_i2c  (L st : List Value) : Option (List Value × List Value) := match st with | .int x :: r => some (L, .int ((x.toUInt32 % 65536).toInt32) :: r) | _ => none
theorem s_i2c (hx : p.tables.exec = Jvm.exec) (hb : c.code = cc)  (hd : decode cc pc = .ok (.i2c, 1)) (hl : xL ad L ls nL) (h : x_i2c  L st = some (L', st')) (k : ∀ ls' : Array Slot, xL ad L' ls' nL → W p l e R s m args below meth c H locs cells slots Q (F0 m (pc + 1) ls' (xJ st' ad))) : W p l e R s m args below meth c H locs cells slots Q (F0 m pc ls (xJ st ad)) := by
  unfold x_i2c at h
  split at h
  · cases h; exact lv_i2c hx hb hd rfl (k ls hl)
  · cases h
def x_i2d  (L st : List Value) : Option (List Value × List Value) := match st with | .int x :: r => some (L, .double (FP.i2d x) :: r) | _ => none
theorem s_i2d (hx : p.tables.exec = Jvm.exec) (hb : c.code = cc)  (hd : decode cc pc = .ok (.i2d, 1)) (hl : xL ad L ls nL) (h : x_i2d  L st = some (L', st')) (k : ∀ ls' : Array Slot, xL ad L' ls' nL → W p l e R s m args below meth c H locs cells slots Q (F0 m (pc + 1) ls' (xJ st' ad))) : W p l e R s m args below meth c H locs cells slots Q (F0 m pc ls (xJ st ad)) := by
  unfold x_i2d at h
  split at h
  · cases h; exact lv_i2d hx hb hd (k ls hl)
  · cases h
def x_ddiv  (L st : List Value) : Option (List Value × List Value) := match st with | .double y :: .double x :: r => if FP.ddiv x y &&& 0x7fffffffffffffff ≤ 0x7ff0000000000000 then some (L, .double (FP.ddiv x y) :: r) else none | _ => none
theorem s_ddiv (hx : p.tables.exec = Jvm.exec) (hb : c.code = cc)  (hd : decode cc pc = .ok (.ddiv, 1)) (hl : xL ad L ls nL) (h : x_ddiv  L st = some (L', st')) (k : ∀ ls' : Array Slot, xL ad L' ls' nL → W p l e R s m args below meth c H locs cells slots Q (F0 m (pc + 1) ls' (xJ st' ad))) : W p l e R s m args below meth c H locs cells slots Q (F0 m pc ls (xJ st ad)) := by
  unfold x_ddiv at h
  split at h
  · split at h
    · rename_i hne; cases h; exact lv_ddiv hx hb hd hne (k ls hl)
    · cases h
  · cases h
def x_dcmp (o : CmpOp) (L st : List Value) : Option (List Value × List Value) := match st with | .double y :: .double x :: r => some (L, .int (Op.cmpValue (FP.dcmp x y) o) :: r) | _ => none
theorem s_dcmp (hx : p.tables.exec = Jvm.exec) (hb : c.code = cc)  (o : CmpOp) (hd : decode cc pc = .ok (.dcmp o, 1)) (hl : xL ad L ls nL) (h : x_dcmp o L st = some (L', st')) (k : ∀ ls' : Array Slot, xL ad L' ls' nL → W p l e R s m args below meth c H locs cells slots Q (F0 m (pc + 1) ls' (xJ st' ad))) : W p l e R s m args below meth c H locs cells slots Q (F0 m pc ls (xJ st ad)) := by
  unfold x_dcmp at h
  split at h
  · cases h; exact lv_dcmp hx hb hd (k ls hl)
  · cases h
end XB
