/-! THE SMALL MACHINE's HEAP: a list of things by our own numbers: an array (its type's number, its contents) or an object (its class's number, its fields) -/
section XC
abbrev xO : Type := (Nat × vp_A) ⊕ (Nat × List Value)
def xmA (ad : Nat → Nat) (a : vp_A) : vp_A := match a with
  | (n, .inr (.inr (.inr (.inr f)))) => (n, .inr (.inr (.inr (.inr (fun j => (f j).map ad)))))
  | a => a
theorem xmA_1 (ad : Nat → Nat) (a : vp_A) : (xmA ad a).1 = a.1 := by
  obtain ⟨n, f | f | f | f | f⟩ := a <;> rfl
def xcon (tyc : Nat → ClassId) (ad : Nat → Nat) (o : xO) : va_E := match o with
  | .inl (t, a) => .inl (tyc t, xmA ad a)
  | .inr (c, fs) => .inr (c, fs.map (xm ad))
def xsz (o : xO) : Nat := match o with
  | .inl (_, a) => a.1
  | .inr (_, fs) => fs.length
def xsum (ah : List xO) : Nat := (ah.map xsz).sum
def xtys (tyc : Nat → ClassId) : List (ClassId × FieldType) := [(tyc 0, .int), (tyc 1, .long), (tyc 2, .byte), (tyc 3, .boolean), (tyc 4, .object "ReportMill$Kind")]
/-- a thing that was made here (types from 5 on and classes from 100 on are of things that were there before) -/
def xnew (o : xO) : Prop := match o with
  | .inl (t, _) => t < 5
  | .inr (c, _) => c < 100
def xH (D : va_G) (cl : List vw_C) (tyc : Nat → ClassId) (ad : Nat → Nat) (bs : List xO) (ah : List xO) (H : Heap) : Prop := (∀ k, k < bs.length → ah[k]? = bs[k]?) ∧ ∀ (k : Nat) (o : xO), bs.length ≤ k → ah[k]? = some o → xnew o ∧ va_at D cl (ad k, xcon tyc ad o) H
/-- where things lie: the constants and what is made here each in its own place; from E on one behind the other, in the part A -/
def xAd (ad : Nat → Nat) (E : Nat) (A : Nat → Prop) : Prop := (∀ i j, (i < 67 ∨ E ≤ i) → (j < 67 ∨ E ≤ j) → ad i = ad j → i = j) ∧ ∀ k, E ≤ k → ad (k + 1) = ad k + 1 ∧ A (ad k)
def xI (D : va_G) (cl : List vw_C) (tyc : Nat → ClassId) (ad : Nat → Nat) (bs : List xO) (A : Nat → Prop) (H0 : Heap) (ah : List xO) (H : Heap) (locs : List Loc) : Prop := xH D cl tyc ad bs ah H ∧ H.size = ad ah.length ∧ bs.length ≤ ah.length ∧ va_S A H0 H locs
theorem xH.one {D : va_G} {cl : List vw_C} {tyc : Nat → ClassId} {ad : Nat → Nat} {bs ah : List xO} {H : Heap} (h : xH D cl tyc ad bs ah H) {k : Nat} {o : xO} (hE : bs.length ≤ k) (hk : ah[k]? = some o) : va_P D cl [(ad k, xcon tyc ad o)] H := by
  intro j q hj
  cases j with
  | zero => cases hj; exact (h.2 k o hE hk).2
  | succ j => cases hj
theorem xI.set {D : va_G} {cl : List vw_C} {tyc : Nat → ClassId} {ad : Nat → Nat} {bs : List xO} {A : Nat → Prop} {H0 : Heap} {ah : List xO} {H H1 : Heap} {locs : List Loc} (h : xI D cl tyc ad bs A H0 ah H locs) (had : xAd ad bs.length A) {k i : Nat} {o : xO} (hk : bs.length ≤ k) (hn : xnew o) (he : va_at D cl (ad k, xcon tyc ad o) H1) (hz : H1.size = H.size) (oq : ∀ q : Nat, q ≠ ad k → H1[q]? = H[q]?) : xI D cl tyc ad bs A H0 (ah.set k o) H1 (locs ++ [⟨ad k, i⟩]) := by
  refine ⟨⟨fun j hj => ?_, fun j o' hE hj => ?_⟩, by rw [hz, List.length_set]; exact h.2.1, by rw [List.length_set]; exact h.2.2.1, h.2.2.2.put hz oq (had.2 k hk).2⟩
  · rw [List.getElem?_set_ne (by omega)]
    exact h.1.1 j hj
  · by_cases hjk : j = k
    · subst hjk
      have hl : j < ah.length := by
        have := (List.getElem?_eq_some_iff.mp hj).1
        rwa [List.length_set] at this
      rw [List.getElem?_set_self hl] at hj
      cases hj
      exact ⟨hn, he⟩
    · rw [List.getElem?_set_ne (Ne.symm hjk)] at hj
      have h2 := h.1.2 j o' hE hj
      exact ⟨h2.1, h2.2.kept (oq _ fun z => hjk (had.1 _ _ (Or.inr hE) (Or.inr hk) z))⟩
theorem xI.push {D : va_G} {cl : List vw_C} {tyc : Nat → ClassId} {ad : Nat → Nat} {bs : List xO} {A : Nat → Prop} {H0 : Heap} {ah : List xO} {H H1 : Heap} {locs : List Loc} (h : xI D cl tyc ad bs A H0 ah H locs) (had : xAd ad bs.length A) {o : xO} (hn : xnew o) (he : va_at D cl (ad ah.length, xcon tyc ad o) H1) (hz : H1.size = H.size + 1) (oq : ∀ q : Nat, q < H.size → H1[q]? = H[q]?) : xI D cl tyc ad bs A H0 (ah ++ [o]) H1 locs := by
  obtain ⟨h1, h2, h3, h4⟩ := h
  refine ⟨⟨fun j hj => ?_, fun k o' hE hk => ?_⟩, ?_, ?_, ⟨Nat.le_trans h4.1 (by omega), fun q g1 g2 => (oq q (Nat.lt_of_lt_of_le g1 h4.1)).trans (h4.2.1 q g1 g2), h4.2.2⟩⟩
  · rw [List.getElem?_append_left (by omega)]
    exact h1.1 j hj
  · by_cases hl : k < ah.length
    · rw [List.getElem?_append_left hl] at hk
      have g := h1.2 k o' hE hk
      exact ⟨g.1, g.2.kept (oq _ g.2.lt)⟩
    · rw [List.getElem?_append_right (by omega)] at hk
      have hz2 : k - ah.length < 1 := (List.getElem?_eq_some_iff.mp hk).1
      have e : k = ah.length := by omega
      subst e
      rw [Nat.sub_self] at hk
      cases hk
      exact ⟨hn, he⟩
  · rw [hz, h2, List.length_append]
    exact ((had.2 _ h3).1).symm
  · rw [List.length_append]; omega
theorem xsum_set {ah : List xO} {k : Nat} {o o' : xO} (h : ah[k]? = some o) (hs : xsz o' = xsz o) : xsum (ah.set k o') = xsum ah := by
  unfold xsum
  rw [List.map_set, hs]
  congr 1
  apply List.ext_getElem?
  intro j
  by_cases hj : j = k
  · subst hj
    have hl : j < (ah.map xsz).length := by rw [List.length_map]; exact (List.getElem?_eq_some_iff.mp h).1
    rw [List.getElem?_set_self hl, List.getElem?_map, h]; rfl
  · rw [List.getElem?_set_ne (Ne.symm hj)]
theorem xsum_push (ah : List xO) (o : xO) : xsum (ah ++ [o]) = xsum ah + xsz o := by
  unfold xsum; simp
/-- what fits a field or an array's place as it is -/
def xfit (ty : FieldType) (v : Value) : Bool := match ty, v with
  | .boolean, .int x => x == 0 || x == 1
  | .byte, .int x => decide (narrow .byte (.int x) = .int x) && fits .byte (.int x)
  | .int, .int _ => true
  | .long, .long _ => true
  | .double, .double _ => true
  | .object _, .null => true
  | .object _, .ref _ => true
  | .array _, .null => true
  | .array _, .ref _ => true
  | _, _ => false
theorem xfit_ok {ad : Nat → Nat} {ty : FieldType} {v : Value} (h : xfit ty v = true) : narrow ty (xm ad v) = xm ad v ∧ fits ty (xm ad v) = true := by
  unfold xfit at h
  split at h
  · rename_i x
    have hx : x = 0 ∨ x = 1 := by simpa using h
    rcases hx with rfl | rfl <;> exact ⟨rfl, rfl⟩
  · rw [Bool.and_eq_true] at h
    exact ⟨of_decide_eq_true h.1, h.2⟩
  all_goals first | exact ⟨rfl, rfl⟩ | cases h
end XC
section XD
variable {p : Program} {l : Launch} {e : Env} {R : Room} {s : State} {m : MethodId} {args : Array Value} {below : List Frame} {meth : Method} {c : Code} {H : Heap} {locs : List Loc} {cells slots : Nat} {Q : State → Prop}
variable {cc : ByteArray} {pc : Nat} {ls : Array Slot} {ad : Nat → Nat} {nL : Nat} {bs : List xO} {A : Nat → Prop} {st st' : List Value} {D : va_G} {cl : List vw_C} {tyc : Nat → ClassId} {ah ah' : List xO} {H0 : Heap} {Ts : List Cond} {own : String}
/-- a field's entry, by the ordinary road or by the nest's -/
def xlnk (s : State) (args : Array Value) (own : String) (idx : Nat) (ref n d : String) : Prop := (Cond.fieldLink own idx ref n d).before args s = true ∨ ∃ host : String, (Cond.fieldLinkNest own idx ref n d host).before args s = true
/-- what was there before the law began: constants, Strings and their bytes, the script -/
def xba (t : Nat) : FieldType := if t = 10 then .int else if t = 12 then .byte else .object "ReportMill$Kind"
def xBat (clB : List vw_C) (ad : Nat → Nat) (A : Nat → Prop) (s : State) (k : Nat) (o : xO) : Prop := match o with
  | .inl (t, a) => 10 ≤ t ∧ (t = 10 ∨ t = 12 ∨ t = 14) ∧ ∃ cell : Cell, s.heap[ad k]? = some cell ∧ s.isArrayOf cell (xba t) ∧ cell.vm ≠ .unknown ∧ (a.1 ≤ cell.slots.size ∧ cell.slots.size.toInt32 = Int32.ofNat a.1) ∧ (∀ j, j < a.1 → cell.slots[j]? = some (match (xmA ad a).2 with
    | .inl f => .int (f j) | .inr (.inl f) => .long (f j) | .inr (.inr (.inl f)) => .float (f j) | .inr (.inr (.inr (.inl f))) => .double (f j) | .inr (.inr (.inr (.inr f))) => va_rf (f j))) ∧ ¬ A (ad k)
  | .inr (c, fs) => 100 ≤ c ∧ ((c = 199 ∧ clB[c - 100]? = none) ∨ ∃ (C : String) (T : u_T) (N : Nat), clB[c - 100]? = some (C, T, N) ∧ va_O C (ad k) A s s.heap ∧ ∀ j v, fs[j]? = some v → va_OF (T j).1 (T j).2.1 (T j).2.2.1 (xm ad v) (ad k) A s s.heap)
def xBs (clB : List vw_C) (ad : Nat → Nat) (A : Nat → Prop) (bs : List xO) (s : State) : Prop := ∀ k o, bs[k]? = some o → xBat clB ad A s k o
/-- what a class's pool says of its field entries: class's number, field's number -/
def xFl (s : State) (args : Array Value) (own : String) (cl clB : List vw_C) (Ts : List Cond) (fl : Nat → Option (Nat × Nat)) : Prop := ∀ idx ci k, fl idx = some (ci, k) → ∃ (C : String) (T : u_T) (N : Nat), k < N ∧ xlnk s args own idx (T k).1 (T k).2.1 (T k).2.2.1 ∧ ((ci < 100 ∧ cl[ci]? = some (C, T, N) ∧ ∀ w ∈ u_ws C T N, w ∈ Ts) ∨ (100 ≤ ci ∧ clB[ci - 100]? = some (C, T, N)))
/-- .. of those that it writes: final too -/
def xFp (s : State) (args : Array Value) (own : String) (cl : List vw_C) (Ts : List Cond) (ft : Nat → Nat → FieldType) (fl : Nat → Option (Nat × Nat × Bool)) : Prop := ∀ idx ci k fin, fl idx = some (ci, k, fin) → ∃ (C : String) (T : u_T) (N : Nat), cl[ci]? = some (C, T, N) ∧ k < N ∧ (∀ w ∈ u_ws C T N, w ∈ Ts) ∧ (T k).2.2.2 = fin ∧ (∀ j, j < N → parseFieldDescriptor (T j).2.2.1 = some (ft ci j)) ∧ (∀ a, a < N → ∀ b, b < N → a ≠ b → (T a).2.1 ≠ (T b).2.1) ∧
  (if fin then (T k).1 = own ∧ (Cond.fieldLink own idx (T k).1 (T k).2.1 (T k).2.2.1).before args s = true else xlnk s args own idx (T k).1 (T k).2.1 (T k).2.2.1)
def x_getf (fl : Nat → Option (Nat × Nat)) (ah : List xO) (idx : Nat) (st : List Value) : Option (List Value) := match st with
  | .ref a :: r => match fl idx with
    | some (ci, k) => match ah[a]? with
      | some (.inr (c, fs)) => if c = ci then (match fs[k]? with | some v => some (v :: r) | none => none) else none
      | _ => none
    | none => none
  | _ => none
theorem s_getf (hx : p.tables.exec = Jvm.exec) (hb : c.code = cc) (hts : ∀ w ∈ Ts, w.before args s = true) (hown : s.vm.findClass own = some m.cls) {tys : List (ClassId × FieldType)} (hK : va_K D cl tys s) {clB : List vw_C} (hB : xBs clB ad A bs s) {fl : Nat → Option (Nat × Nat)} (hfl : xFl s args own cl clB Ts fl) (hI : xI D cl tyc ad bs A s.heap ah H locs)
    {idx : Nat} (hd : decode cc pc = .ok (.getfield idx, 3)) (h : x_getf fl ah idx st = some st') (k : W p l e R s m args below meth c H locs cells slots Q (F0 m (pc + 3) ls (xJ st' ad))) : W p l e R s m args below meth c H locs cells slots Q (F0 m pc ls (xJ st ad)) := by
  unfold x_getf at h
  split at h
  · rename_i a r
    split at h
    · rename_i ci kf hfi
      split at h
      · rename_i c0 fs ho
        split at h
        · rename_i hc
          subst hc
          split at h
          · rename_i v hv
            cases h
            obtain ⟨C, T, N, g2, hl, g⟩ := hfl _ _ _ hfi
            by_cases hE : bs.length ≤ a
            · rcases g with ⟨g0, g1, g3⟩ | ⟨g0, -⟩
              · have hP := hI.1.one hE ho
                have hv' : (fs.map (xm ad))[kf]? = some (xm ad v) := by rw [List.getElem?_map, hv]; rfl
                rcases hl with hl | ⟨host, hl⟩
                · exact va_get hx hb hts g3 hown hK hP 0 rfl g1 kf g2 hl (fun x hx => hx) hv' hd k
                · exact va_getN (host := host) hx hb hts g3 hown hK hP 0 rfl g1 kf g2 hl (fun x hx => hx) hv' hd k
              · have h9 : c0 < 100 := (hI.1.2 a _ hE ho).1
                omega
            · rw [hI.1.1 a (by omega)] at ho
              obtain ⟨h100, ⟨-, h199⟩ | ⟨C2, T2, N2, g4, g5, g6⟩⟩ := hB a _ ho
              · rcases g with ⟨g0, -⟩ | ⟨g0, g1⟩
                · omega
                · rw [h199] at g1
                  cases g1
              rcases g with ⟨g0, -⟩ | ⟨g0, g1⟩
              · omega
              · cases g4.symm.trans g1
                obtain ⟨cf, k0, fi, f, cell, z1, z2, z3, z4, z5, z6⟩ := (g6 _ _ hv).kept hI.2.2.2.2.1
                rcases hl with hl | ⟨host, hl⟩
                · exact W.getf hx hb hown hl z1 z2 z3 z4 (v := xm ad v) z5 rfl rfl hd k
                · exact va_Wgetf hx hb hown hl z1 z2 z3 z4 (v := xm ad v) z5 rfl rfl hd k
          · cases h
        · cases h
      · cases h
    · cases h
  · cases h
def x_putf (E : Nat) (fl : Nat → Option (Nat × Nat × Bool)) (ft : Nat → Nat → FieldType) (ini : Bool) (ah : List xO) (idx : Nat) (st : List Value) : Option (List xO × List Value) := match st with
  | v :: .ref a :: r => match fl idx with
    | some (ci, k, fin) => match ah[a]? with
      | some (.inr (c, fs)) => if c = ci ∧ k < fs.length ∧ E ≤ a ∧ xfit (ft ci k) v = true ∧ (fin = true → ini = true) then some (ah.set a (.inr (c, fs.set k v)), r) else none
      | _ => none
    | none => none
  | _ => none
theorem s_putf (hx : p.tables.exec = Jvm.exec) (hb : c.code = cc) (hts : ∀ w ∈ Ts, w.before args s = true) (hown : s.vm.findClass own = some m.cls) {tys : List (ClassId × FieldType)} (hK : va_K D cl tys s) {ft : Nat → Nat → FieldType} {fl : Nat → Option (Nat × Nat × Bool)} (hfl : xFp s args own cl Ts ft fl) (had : xAd ad bs.length A) (hI : xI D cl tyc ad bs A H0 ah H locs) {ini : Bool} (hini : ini = true → meth.name = "<init>")
    {idx : Nat} (hd : decode cc pc = .ok (.putfield idx, 3)) (h : x_putf bs.length fl ft ini ah idx st = some (ah', st'))
    (k : ∀ (H1 : Heap) (locs1 : List Loc), xI D cl tyc ad bs A H0 ah' H1 locs1 → ah'.length = ah.length → xsum ah' = xsum ah → W p l e R s m args below meth c H1 locs1 cells slots Q (F0 m (pc + 3) ls (xJ st' ad))) : W p l e R s m args below meth c H locs cells slots Q (F0 m pc ls (xJ st ad)) := by
  unfold x_putf at h
  split at h
  · rename_i v a r
    split at h
    · rename_i ci kf fin hfi
      split at h
      · rename_i c0 fs ho
        split at h
        · rename_i hc
          obtain ⟨rfl, hkl, hE, hfit, hfini⟩ := hc
          cases h
          obtain ⟨C, T, N, hc, hk, hin, hfin, hty, hnm, hl⟩ := hfl _ _ _ _ hfi
          have hap := va_apart (own := own) hts hin _ hty hnm hK hc
          obtain ⟨r', h1, cell, q1, q2, q3, q4⟩ := (hI.1.2 a _ hE ho).2
          have hr : r' = (C, T, N) := Option.some.inj (h1.symm.trans hc)
          subst hr
          obtain ⟨hS, hfc, kC, hkC, hkind⟩ := hK.1 c0 _ hc
          obtain ⟨cf, kf2, fi, f, hi, hsl⟩ := hS kf hk
          have hlay := hts _ (hin _ (u_in_lay hk))
          unfold u_lay at hlay
          have hst := (u_facts hfc hkC (u_lays hts hin hk) hi).1
          obtain ⟨hn, hft⟩ := xfit_ok (ad := ad) hfit
          have hkl' : kf < (fs.map (xm ad)).length := by rw [List.length_map]; exact hkl
          have fin2 : ∀ (H' : Heap), H'[ad a]? = some (cell.setSlot f.slot (xm ad v)) → H'.size = H.size → (∀ q, q ≠ ad a → H'[q]? = H[q]?) → W p l e R s m args below meth c H' (locs ++ [⟨ad a, f.slot⟩]) cells slots Q (F0 m (pc + 3) ls (xJ st' ad)) := by
            intro H' e1 e2 e3
            rw [hsl] at e1
            refine k H' _ (hI.set had hE (hI.1.2 a _ hE ho).1 ?_ e2 e3) (List.length_set ..) (xsum_set ho (by simp [xsz]))
            show va_at D cl (ad a, .inr (c0, (fs.set kf v).map (xm ad))) H'
            rw [List.map_set]
            exact ⟨_, hc, t_OB.to (V := updV (vp_V (fs.map (xm ad))) kf (xm ad v)) ⟨_, e1, q2, q3, t_set q4 hap hk (xm ad v)⟩ (fun j _ => vp_updV_set hkl' (xm ad v) j)⟩
          by_cases hf : fin = true
          · rw [if_pos hf] at hl
            rw [hf] at hfin
            rw [if_pos hfin] at hlay
            have hcf : m.cls = cf := by
              obtain ⟨_, _, c', _, _, _, -, -, hf', -, -, -, hown2, -⟩ := Cond.laysFinal_spec hlay
              have e1 : c' = cf := by have := hi.symm.trans hf'; simp at this; exact this.1.symm
              rw [hl.1] at hown2
              rw [← e1]; exact Option.some.inj (hown.symm.trans hown2)
            have h6 := u_fits hfc hkC hkind (Or.inr hlay) hi (hty kf hk) hn hft
            exact W.putFinK hx hb hown hl.2 hi hst hcf (hini (hfini hf)) (by rw [q2]; exact h6) q1 q3 (by rw [hsl]; exact k2_hasslot (q4 kf hk)) rfl rfl hd fin2
          · rw [if_neg hf] at hl
            have hf2 : (T kf).2.2.2 = false := by rw [hfin]; exact Bool.eq_false_iff.mpr hf
            rw [if_neg (by rw [hf2]; decide)] at hlay
            have h6 := u_store hfc hkC hkind hlay hi (hty kf hk) hn hft
            rcases hl with hl | ⟨host, hl⟩
            · exact W.putK hx hb (f := f) ⟨hown, hl, ⟨_, _, _, hi⟩, hst⟩ (by rw [q2]; exact h6) q1 q3 (by rw [hsl]; exact k2_hasslot (q4 kf hk)) rfl rfl hd fin2
            · exact va_WputK hx hb (f := f) hown hl hi hst (by rw [q2]; exact h6) q1 q3 (by rw [hsl]; exact k2_hasslot (q4 kf hk)) rfl rfl hd fin2
        · cases h
      · cases h
    · cases h
  · cases h
end XD
