section XF
variable {p : Program} {l : Launch} {e : Env} {R : Room} {s : State} {m : MethodId} {args : Array Value} {below : List Frame} {meth : Method} {c : Code} {H : Heap} {locs : List Loc} {cells slots : Nat} {Q : State → Prop}
variable {cc : ByteArray} {pc : Nat} {ls : Array Slot} {ad : Nat → Nat} {nL : Nat} {bs : List xO} {A : Nat → Prop} {st st' : List Value} {D : va_G} {cl : List vw_C} {tyc : Nat → ClassId} {ah ah' : List xO} {H0 : Heap} {Ts : List Cond} {own : String}
theorem xI.adlen (h : xI D cl tyc ad bs A H0 ah H locs) : H.size = ad ah.length := h.2.1
/-- a new thing is the last of the list -/
def x_newarr (aty : ArrayType) (ah : List xO) (st : List Value) : Option (List xO × List Value) := match st with
  | .int n :: r => if 0 ≤ n ∧ n.toNatClampNeg ≤ 1000000 then (match aty with
    | .int => some (ah ++ [.inl (0, n.toNatClampNeg, .inl fun _ => 0)], .ref ah.length :: r)
    | .long => some (ah ++ [.inl (1, n.toNatClampNeg, .inr (.inl fun _ => 0))], .ref ah.length :: r)
    | .byte => some (ah ++ [.inl (2, n.toNatClampNeg, .inl fun _ => 0)], .ref ah.length :: r)
    | .boolean => some (ah ++ [.inl (3, n.toNatClampNeg, .inl fun _ => 0)], .ref ah.length :: r)
    | _ => none) else none
  | _ => none
theorem s_newarr (hx : p.tables.exec = Jvm.exec) (hb : c.code = cc) (hK : va_K D cl (xtys tyc) s) (had : xAd ad bs.length A) (hI : xI D cl tyc ad bs A H0 ah H locs) (haw : ∀ ty, ty = FieldType.int ∨ ty = .long ∨ ty = .byte ∨ ty = .boolean → (Cond.arrayClass ty).before args s = true)
    {aty : ArrayType} (hd : decode cc pc = .ok (.newarray aty, 2)) (h : x_newarr aty ah st = some (ah', st')) {c0 z0 : Nat} (hc0 : cells + c0 = ah.length) (hz0 : slots + z0 = xsum ah) (hr : ah'.length ≤ R.cells + c0 ∧ xsum ah' ≤ R.slots + z0)
    (k : ∀ (H1 : Heap) (cells1 slots1 : Nat), xI D cl tyc ad bs A H0 ah' H1 locs → cells1 + c0 = ah'.length → slots1 + z0 = xsum ah' → W p l e R s m args below meth c H1 locs cells1 slots1 Q (F0 m (pc + 2) ls (xJ st' ad))) : W p l e R s m args below meth c H locs cells slots Q (F0 m pc ls (xJ st ad)) := by
  unfold x_newarr at h
  split at h
  · rename_i n r
    split at h
    · rename_i hn
      have hn0 : ¬ n < 0 := by simpa using hn.1
      split at h
      · cases h
        rw [xsum_push, List.length_append] at hr
        have hs : xsz (.inl (0, n.toNatClampNeg, .inl fun _ => 0)) = n.toNatClampNeg := rfl
        rw [hs] at hr
        have hl1 : ([Sum.inl (0, n.toNatClampNeg, .inl fun _ => 0)] : List xO).length = 1 := rfl
        rw [hl1] at hr
        refine va_newaK hx hb (atype := .int) (haw _ (by simp [newarray.typeOf])) rfl hd rfl hn0 rfl (by show n.toNatClampNeg * 4 ≤ 536870912; omega) (by omega) (by omega) hI.2.1 fun H1 cA e1 z1 o1 hAr hNm => ?_
        have hcA : cA = tyc 0 := Option.some.inj (hNm.symm.trans (hK.2 0 _ rfl).2)
        subst hcA
        exact k H1 _ _ (hI.push had (by show (_ : Nat) < 5; omega) (by show H1[ad ah.length]? = some (vp_cell _ _); rw [e1]; rfl) (by rw [z1, hI.2.1]) (fun q hq => o1 q (by rw [← hI.2.1]; exact hq))) (by rw [List.length_append, hl1]; omega) (by rw [xsum_push, hs]; omega)
      · cases h
        rw [xsum_push, List.length_append] at hr
        have hs : xsz (.inl (1, n.toNatClampNeg, .inr (.inl fun _ => 0))) = n.toNatClampNeg := rfl
        rw [hs] at hr
        have hl1 : ([Sum.inl (1, n.toNatClampNeg, .inr (.inl fun _ => 0))] : List xO).length = 1 := rfl
        rw [hl1] at hr
        refine va_newaK hx hb (atype := .long) (haw _ (by simp [newarray.typeOf])) rfl hd rfl hn0 rfl (by show n.toNatClampNeg * 8 ≤ 536870912; omega) (by omega) (by omega) hI.2.1 fun H1 cA e1 z1 o1 hAr hNm => ?_
        have hcA : cA = tyc 1 := Option.some.inj (hNm.symm.trans (hK.2 1 _ rfl).2)
        subst hcA
        exact k H1 _ _ (hI.push had (by show (_ : Nat) < 5; omega) (by show H1[ad ah.length]? = some (vp_cell _ _); rw [e1]; rfl) (by rw [z1, hI.2.1]) (fun q hq => o1 q (by rw [← hI.2.1]; exact hq))) (by rw [List.length_append, hl1]; omega) (by rw [xsum_push, hs]; omega)
      · cases h
        rw [xsum_push, List.length_append] at hr
        have hs : xsz (.inl (2, n.toNatClampNeg, .inl fun _ => 0)) = n.toNatClampNeg := rfl
        rw [hs] at hr
        have hl1 : ([Sum.inl (2, n.toNatClampNeg, .inl fun _ => 0)] : List xO).length = 1 := rfl
        rw [hl1] at hr
        refine va_newaK hx hb (atype := .byte) (haw _ (by simp [newarray.typeOf])) rfl hd rfl hn0 rfl (by show n.toNatClampNeg * 1 ≤ 536870912; omega) (by omega) (by omega) hI.2.1 fun H1 cA e1 z1 o1 hAr hNm => ?_
        have hcA : cA = tyc 2 := Option.some.inj (hNm.symm.trans (hK.2 2 _ rfl).2)
        subst hcA
        exact k H1 _ _ (hI.push had (by show (_ : Nat) < 5; omega) (by show H1[ad ah.length]? = some (vp_cell _ _); rw [e1]; rfl) (by rw [z1, hI.2.1]) (fun q hq => o1 q (by rw [← hI.2.1]; exact hq))) (by rw [List.length_append, hl1]; omega) (by rw [xsum_push, hs]; omega)
      · cases h
        rw [xsum_push, List.length_append] at hr
        have hs : xsz (.inl (3, n.toNatClampNeg, .inl fun _ => 0)) = n.toNatClampNeg := rfl
        rw [hs] at hr
        have hl1 : ([Sum.inl (3, n.toNatClampNeg, .inl fun _ => 0)] : List xO).length = 1 := rfl
        rw [hl1] at hr
        refine va_newaK hx hb (atype := .boolean) (haw _ (by simp [newarray.typeOf])) rfl hd rfl hn0 rfl (by show n.toNatClampNeg * 1 ≤ 536870912; omega) (by omega) (by omega) hI.2.1 fun H1 cA e1 z1 o1 hAr hNm => ?_
        have hcA : cA = tyc 3 := Option.some.inj (hNm.symm.trans (hK.2 3 _ rfl).2)
        subst hcA
        exact k H1 _ _ (hI.push had (by show (_ : Nat) < 5; omega) (by show H1[ad ah.length]? = some (vp_cell _ _); rw [e1]; rfl) (by rw [z1, hI.2.1]) (fun q hq => o1 q (by rw [← hI.2.1]; exact hq))) (by rw [List.length_append, hl1]; omega) (by rw [xsum_push, hs]; omega)
      · cases h
    · cases h
  · cases h
def x_anew (an : Nat → Bool) (idx : Nat) (ah : List xO) (st : List Value) : Option (List xO × List Value) := match st with
  | .int n :: r => if 0 ≤ n ∧ n.toNatClampNeg ≤ 1000000 ∧ an idx = true then some (ah ++ [.inl (4, n.toNatClampNeg, .inr (.inr (.inr (.inr fun _ => none))))], .ref ah.length :: r) else none
  | _ => none
theorem s_anew (hx : p.tables.exec = Jvm.exec) (hb : c.code = cc) (hown : s.vm.findClass own = some m.cls) (hK : va_K D cl (xtys tyc) s) (had : xAd ad bs.length A) (hI : xI D cl tyc ad bs A H0 ah H locs) (hao : va_AO "ReportMill$Kind" s) {an : Nat → Bool} (han : ∀ idx, an idx = true → (Cond.classLink own idx "ReportMill$Kind").before args s = true)
    {idx : Nat} (hd : decode cc pc = .ok (.anewarray idx, 3)) (h : x_anew an idx ah st = some (ah', st')) {c0 z0 : Nat} (hc0 : cells + c0 = ah.length) (hz0 : slots + z0 = xsum ah) (hr : ah'.length ≤ R.cells + c0 ∧ xsum ah' ≤ R.slots + z0)
    (k : ∀ (H1 : Heap) (cells1 slots1 : Nat), xI D cl tyc ad bs A H0 ah' H1 locs → cells1 + c0 = ah'.length → slots1 + z0 = xsum ah' → W p l e R s m args below meth c H1 locs cells1 slots1 Q (F0 m (pc + 3) ls (xJ st' ad))) : W p l e R s m args below meth c H locs cells slots Q (F0 m pc ls (xJ st ad)) := by
  unfold x_anew at h
  split at h
  · rename_i n r
    split at h
    · rename_i hn
      have hn0 : ¬ n < 0 := by simpa using hn.1
      cases h
      rw [xsum_push, List.length_append] at hr
      have hs : xsz (.inl (4, n.toNatClampNeg, .inr (.inr (.inr (.inr fun _ => none))))) = n.toNatClampNeg := rfl
      rw [hs] at hr
      have hl1 : ([Sum.inl (4, n.toNatClampNeg, .inr (.inr (.inr (.inr fun _ => none))))] : List xO).length = 1 := rfl
      rw [hl1] at hr
      refine W.anew hx hb hown (han _ hn.2.2) (va_AO.use hao) rfl hd rfl hn0 (by omega) (by omega) (by omega) fun cA kA comp f1 f2 f3 f4 => ?_
      obtain ⟨kA2, comp2, k1, k2, k3, k4⟩ := (hK.2 4 _ rfl).2
      have hcA : cA = tyc 4 := Option.some.inj (f1.symm.trans k4)
      subst hcA
      generalize hH1 : H.push ({ cls := tyc 4, slots := Array.replicate n.toNatClampNeg .null, vm := .none } : Cell) = H1
      have z1 : H1.size = H.size + 1 := by rw [← hH1, Array.size_push]
      have e1 : H1[H.size]? = some (arrV (tyc 4) n.toNatClampNeg (fun _ => .null)) := by rw [← hH1, Array.getElem?_push_size, ← arrV_new]
      have o1 : ∀ q : Nat, q < H.size → H1[q]? = H[q]? := fun q hq => by rw [← hH1, Array.getElem?_push, if_neg (Nat.ne_of_lt hq)]
      have hh := hI.2.1
      rw [hh] at e1 ⊢
      exact k H1 _ _ (hI.push had (by show (_ : Nat) < 5; omega) (by show H1[ad ah.length]? = some (vp_cell _ _); rw [e1]; rfl) z1 o1) (by rw [List.length_append, hl1]; omega) (by rw [xsum_push, hs]; omega)
    · cases h
  · cases h
/-- what a class's pool says of 'new': the class's number; the fields as they are born -/
def xTn (s : State) (args : Array Value) (own : String) (cl : List vw_C) (Ts : List Cond) (fd : Nat → List Value) (tn : Nat → Option Nat) : Prop := ∀ idx ci, tn idx = some ci → ∃ (C : String) (T : u_T) (N n : Nat) (ty : Nat → FieldType), cl[ci]? = some (C, T, N) ∧ (Cond.classLink own idx C).before args s = true ∧ (Cond.instantiable C n).before args s = true ∧ (Cond.initialized C).before args s = true ∧ (∀ w ∈ u_ws C T N, w ∈ Ts) ∧ (∀ k, k < N → parseFieldDescriptor (T k).2.2.1 = some (ty k)) ∧ (∀ j, j < N → defaultValue (ty j) = vp_V (fd ci) j) ∧ (fd ci).length = n ∧ (∀ v ∈ fd ci, ∀ ad, xm ad v = v) ∧ ci < 100
def x_new (tn : Nat → Option Nat) (fd : Nat → List Value) (idx : Nat) (ah : List xO) (st : List Value) : Option (List xO × List Value) := match tn idx with
  | some ci => some (ah ++ [.inr (ci, fd ci)], .ref ah.length :: st)
  | none => none
theorem s_new (hx : p.tables.exec = Jvm.exec) (hb : c.code = cc) (hts : ∀ w ∈ Ts, w.before args s = true) (hown : s.vm.findClass own = some m.cls) {tys : List (ClassId × FieldType)} (hK : va_K D cl tys s) (had : xAd ad bs.length A) (hI : xI D cl tyc ad bs A H0 ah H locs) {tn : Nat → Option Nat} {fd : Nat → List Value} (htn : xTn s args own cl Ts fd tn)
    {idx : Nat} (hd : decode cc pc = .ok (.new idx, 3)) (h : x_new tn fd idx ah st = some (ah', st')) {c0 z0 : Nat} (hc0 : cells + c0 = ah.length) (hz0 : slots + z0 = xsum ah) (hr : ah'.length ≤ R.cells + c0 ∧ xsum ah' ≤ R.slots + z0)
    (k : ∀ (H1 : Heap) (cells1 slots1 : Nat), xI D cl tyc ad bs A H0 ah' H1 locs → cells1 + c0 = ah'.length → slots1 + z0 = xsum ah' → W p l e R s m args below meth c H1 locs cells1 slots1 Q (F0 m (pc + 3) ls (xJ st' ad))) : W p l e R s m args below meth c H locs cells slots Q (F0 m pc ls (xJ st ad)) := by
  unfold x_new at h
  split at h
  · rename_i ci hci
    cases h
    obtain ⟨C, T, N, n0, ty, g1, g2, g3, g4, g5, g6, g7, g8, g9, g10⟩ := htn _ _ hci
    have hfd : (fd ci).map (xm ad) = fd ci := by
      conv => rhs; rw [← List.map_id (fd ci)]
      exact List.map_congr_left fun v hv => g9 v hv ad
    rw [xsum_push, List.length_append] at hr
    have hs : xsz (.inr (ci, fd ci)) = n0 := g8
    rw [hs] at hr
    have hl1 : ([Sum.inr (ci, fd ci)] : List xO).length = 1 := rfl
    rw [hl1] at hr
    have hKn := hK.1 ci _ g1
    refine W.newcK hx hb hown g2 g3 g4 rfl hd (by omega) (by omega) hKn.2.1 hI.2.1 fun H1 kC hkC e1 z1 o1 => ?_
    refine k H1 _ _ (hI.push had g10 ?_ (by rw [z1, hI.2.1]) (fun q hq => o1 q (by rw [← hI.2.1]; exact hq))) (by rw [List.length_append, hl1]; omega) (by rw [xsum_push, hs]; omega)
    show va_at D cl (ad ah.length, .inr (ci, (fd ci).map (xm ad))) H1
    rw [hfd]
    exact ⟨_, g1, (u_born ty hts g5 hKn hkC e1 g6).to g7⟩
  · cases h
/-- Object's own constructor -/
def xOi (s : State) (args : Array Value) (own : String) (oi : Nat → Bool) : Prop := ∀ idx, oi idx = true → (Cond.methodLink own idx Lib.objectInit).before args s = true ∧ (Cond.instanceMethod Lib.objectInit).before args s = true ∧ (Cond.code Lib.objectInit ⟨#[0xb1]⟩ 1 none).before args s = true
def x_oinit (oi : Nat → Bool) (idx : Nat) (st : List Value) : Option (List Value) := match st with
  | .ref _ :: r => if oi idx = true ∧ r.length ≤ 20 then some r else none
  | _ => none
theorem xcatsum (ad : Nat → Nat) : ∀ (r : List Value), ((xJ r ad).map fun v => v.category).sum ≤ 2 * r.length
  | [] => Nat.le_refl _
  | v :: r => by
    have h1 : (xm ad v).category ≤ 2 := by rw [xm_cat]; cases v <;> simp [Value.category]
    have h2 := xcatsum ad r
    simp only [xJ, List.map_cons, List.sum_cons, List.length_cons] at h2 ⊢
    omega
theorem s_oinit (hx : p.tables.exec = Jvm.exec) (hb : c.code = cc) (hown : s.vm.findClass own = some m.cls) (hsz : ls.size = c.maxLocals) {oi : Nat → Bool} (hoi : xOi s args own oi) (hRf : 1 ≤ R.frames) (hRl : 60 ≤ R.locals)
    {idx : Nat} (hd : decode cc pc = .ok (.invokespecial idx, 3)) (h : x_oinit oi idx st = some st') (k : W p l e R s m args below meth c H locs cells slots Q (F0 m (pc + 3) ls (xJ st' ad))) : W p l e R s m args below meth c H locs cells slots Q (F0 m pc ls (xJ st ad)) := by
  unfold x_oinit at h
  split at h
  · rename_i a r
    split at h
    · rename_i hc
      cases h
      obtain ⟨g1, g2, g3⟩ := hoi _ hc.1
      refine W.objInit hx hb hown g1 g2 g3 rfl hsz (a := ad a) (rest := xJ st' ad) rfl hd hRf ?_ k
      have := xcatsum ad st'
      show 2 * 0 + _ + 12 ≤ _
      omega
    · cases h
  · cases h
/-! branches -/
def xtg (pc : Nat) (off : Int) : Option Nat := if 0 ≤ (pc : Int) + off then some ((pc : Int) + off).toNat else none
theorem xtg_ok {pc tgt : Nat} {off : Int} (h : xtg pc off = some tgt) : (pc : Int) + off = (tgt : Int) := by
  unfold xtg at h
  split at h
  · rename_i h0
    cases h
    exact (Int.toNat_of_nonneg h0).symm
  · cases h
def xbr (b : Bool) (pc : Nat) (off : Int) (r : List Value) : Option (Nat × List Value) := match xtg pc off with
  | some t => (match b with | true => some (t, r) | false => some (pc + 3, r))
  | none => none
theorem xbr_ok {b : Bool} {pc pc' : Nat} {off : Int} {r r' : List Value} (h : xbr b pc off r = some (pc', r')) : ∃ t : Nat, (pc : Int) + off = (t : Int) ∧ r' = r ∧ pc' = if b = true then t else pc + 3 := by
  unfold xbr at h
  split at h
  · rename_i t ht
    split at h
    · cases h; exact ⟨_, xtg_ok ht, rfl, rfl⟩
    · cases h; exact ⟨_, xtg_ok ht, rfl, rfl⟩
  · cases h
def xcI (cd : ClassFile.Cond) (x y : Int32) : Bool := match cd with
  | .eq => decide (x = y)
  | .ne => !decide (x = y)
  | .lt => decide (x < y)
  | .ge => decide (y ≤ x)
  | .gt => decide (y < x)
  | .le => decide (x ≤ y)
def x_if (cd : ClassFile.Cond) (off : Int) (pc : Nat) (st : List Value) : Option (Nat × List Value) := match st with
  | .int x :: r => xbr (xcI cd x 0) pc off r
  | _ => none
def x_icmp (cd : ClassFile.Cond) (off : Int) (pc : Nat) (st : List Value) : Option (Nat × List Value) := match st with
  | .int y :: .int x :: r => xbr (xcI cd x y) pc off r
  | _ => none
variable {pc' : Nat}

theorem s_if (hx : p.tables.exec = Jvm.exec) (hb : c.code = cc) {cd : ClassFile.Cond} {off : Int} (hd : decode cc pc = .ok (.ifCond cd off, 3)) (h : x_if cd off pc st = some (pc', st')) (k : W p l e R s m args below meth c H locs cells slots Q (F0 m pc' ls (xJ st' ad))) : W p l e R s m args below meth c H locs cells slots Q (F0 m pc ls (xJ st ad)) := by
  unfold x_if at h
  split at h
  · rename_i x r
    obtain ⟨t, ht, rfl, hpc⟩ := xbr_ok h
    subst hpc
    cases cd
    · refine lv_if_eq hx hb hd ht (fun z => ?_) (fun z => ?_) <;> simpa [xcI, z] using k
    · refine lv_if_ne hx hb hd ht (fun z => ?_) (fun z => ?_) <;> simpa [xcI, z] using k
    · refine lv_if_lt hx hb hd ht (fun z => ?_) (fun z => ?_) <;> simpa [xcI, z] using k
    · refine lv_if_ge hx hb hd ht (fun z => ?_) (fun z => ?_) <;> simpa [xcI, z] using k
    · refine lv_if_gt hx hb hd ht (fun z => ?_) (fun z => ?_) <;> simpa [xcI, z] using k
    · refine lv_if_le hx hb hd ht (fun z => ?_) (fun z => ?_) <;> simpa [xcI, z] using k
  · cases h
theorem s_icmp (hx : p.tables.exec = Jvm.exec) (hb : c.code = cc) {cd : ClassFile.Cond} {off : Int} (hd : decode cc pc = .ok (.if_icmp cd off, 3)) (h : x_icmp cd off pc st = some (pc', st')) (k : W p l e R s m args below meth c H locs cells slots Q (F0 m pc' ls (xJ st' ad))) : W p l e R s m args below meth c H locs cells slots Q (F0 m pc ls (xJ st ad)) := by
  unfold x_icmp at h
  split at h
  · rename_i y x r
    obtain ⟨t, ht, rfl, hpc⟩ := xbr_ok h
    subst hpc
    cases cd
    · refine lv_icmp_eq hx hb hd ht (fun z => ?_) (fun z => ?_) <;> simpa [xcI, z] using k
    · refine lv_icmp_ne hx hb hd ht (fun z => ?_) (fun z => ?_) <;> simpa [xcI, z] using k
    · refine lv_icmp_lt hx hb hd ht (fun z => ?_) (fun z => ?_) <;> simpa [xcI, z] using k
    · refine lv_icmp_ge hx hb hd ht (fun z => ?_) (fun z => ?_) <;> simpa [xcI, z] using k
    · refine lv_icmp_gt hx hb hd ht (fun z => ?_) (fun z => ?_) <;> simpa [xcI, z] using k
    · refine lv_icmp_le hx hb hd ht (fun z => ?_) (fun z => ?_) <;> simpa [xcI, z] using k
  · cases h
/-- references by identity -/
def xrf (v : Value) : Option (Option Nat) := match v with
  | .ref a => some (some a)
  | .null => some none
  | _ => none
theorem xrf_ok {v : Value} {o : Option Nat} (h : xrf v = some o) (ad : Nat → Nat) : xm ad v = va_rf (o.map ad) := by
  cases v <;> simp [xrf] at h <;> subst h <;> rfl
def xaC (cd : ClassFile.ACond) (x y : Option Nat) : Bool := match cd with
  | .eq => decide (x = y)
  | .ne => !decide (x = y)
/-- what may be compared: null, the constants, what is made here -/
def xcm (E : Nat) (o : Option Nat) : Bool := match o with
  | some a => Nat.blt a 67 || Nat.ble E a
  | none => true
theorem xcm_ok {E a : Nat} (h : xcm E (some a) = true) : a < 67 ∨ E ≤ a := by
  unfold xcm at h
  simp only [Bool.or_eq_true, Nat.blt_eq, Nat.ble_eq] at h
  exact h
def x_acmp (E : Nat) (cd : ClassFile.ACond) (off : Int) (pc : Nat) (st : List Value) : Option (Nat × List Value) := match st with
  | vy :: vx :: r => match xrf vx, xrf vy with
    | some x, some y => if xcm E x = true ∧ xcm E y = true then xbr (xaC cd x y) pc off r else none
    | _, _ => none
  | _ => none
theorem s_acmp (hx : p.tables.exec = Jvm.exec) (hb : c.code = cc) {E : Nat} (hin : ∀ i j, (i < 67 ∨ E ≤ i) → (j < 67 ∨ E ≤ j) → ad i = ad j → i = j) {cd : ClassFile.ACond} {off : Int} (hd : decode cc pc = .ok (.if_acmp cd off, 3)) (h : x_acmp E cd off pc st = some (pc', st')) (k : W p l e R s m args below meth c H locs cells slots Q (F0 m pc' ls (xJ st' ad))) : W p l e R s m args below meth c H locs cells slots Q (F0 m pc ls (xJ st ad)) := by
  unfold x_acmp at h
  split at h
  · rename_i vy vx r
    split at h
    · rename_i x y h1 h2
      split at h
      case isFalse => cases h
      rename_i hcm
      obtain ⟨t, ht, rfl, hpc⟩ := xbr_ok h
      subst hpc
      have hm : x.map ad = y.map ad ↔ x = y := by
        cases x <;> cases y <;> simp
        exact ⟨fun z => hin _ _ (xcm_ok hcm.1) (xcm_ok hcm.2) z, fun z => by rw [z]⟩
      show W p l e R s m args below meth c H locs cells slots Q (F0 m pc ls (xm ad vy :: xm ad vx :: xJ st' ad))
      rw [xrf_ok h1 ad, xrf_ok h2 ad]
      cases cd
      · refine lv_acmp_eq hx hb hd ht (fun z => ?_) (fun z => ?_) <;> (rw [hm] at z; simpa [xaC, z] using k)
      · refine lv_acmp_ne hx hb hd ht (fun z => ?_) (fun z => ?_) <;> (rw [hm] at z; simpa [xaC, z] using k)
    · cases h
  · cases h
def x_goto (off : Int) (pc : Nat) (st : List Value) : Option (Nat × List Value) := match xtg pc off with
  | some t => some (t, st)
  | none => none
theorem s_goto (hx : p.tables.exec = Jvm.exec) (hb : c.code = cc) {off : Int} (hd : decode cc pc = .ok (.goto off, 3)) (h : x_goto off pc st = some (pc', st')) (k : W p l e R s m args below meth c H locs cells slots Q (F0 m pc' ls (xJ st' ad))) : W p l e R s m args below meth c H locs cells slots Q (F0 m pc ls (xJ st ad)) := by
  unfold x_goto at h
  split at h
  · rename_i t ht
    cases h
    exact lv_goto hx hb hd (xtg_ok ht) k
  · cases h
def x_ifnull (nn : Bool) (off : Int) (pc : Nat) (st : List Value) : Option (Nat × List Value) := match st with
  | .ref _ :: r => xbr nn pc off r
  | .null :: r => xbr (!nn) pc off r
  | _ => none
theorem s_ifnull (hx : p.tables.exec = Jvm.exec) (hb : c.code = cc) {off : Int} (hd : decode cc pc = .ok (.ifnull off, 3)) (h : x_ifnull false off pc st = some (pc', st')) (k : W p l e R s m args below meth c H locs cells slots Q (F0 m pc' ls (xJ st' ad))) : W p l e R s m args below meth c H locs cells slots Q (F0 m pc ls (xJ st ad)) := by
  unfold x_ifnull at h
  split at h
  · obtain ⟨t, ht, rfl, hpc⟩ := xbr_ok h
    subst hpc
    exact lv_ifnull hx hb hd k
  · obtain ⟨t, ht, rfl, hpc⟩ := xbr_ok h
    subst hpc
    exact lv_ifnullN hx hb hd ht k
  · cases h
theorem s_ifnonnull (hx : p.tables.exec = Jvm.exec) (hb : c.code = cc) {off : Int} (hd : decode cc pc = .ok (.ifnonnull off, 3)) (h : x_ifnull true off pc st = some (pc', st')) (k : W p l e R s m args below meth c H locs cells slots Q (F0 m pc' ls (xJ st' ad))) : W p l e R s m args below meth c H locs cells slots Q (F0 m pc ls (xJ st ad)) := by
  unfold x_ifnull at h
  split at h
  · obtain ⟨t, ht, rfl, hpc⟩ := xbr_ok h
    subst hpc
    exact lv_ifnonnull hx hb hd ht k
  · obtain ⟨t, ht, rfl, hpc⟩ := xbr_ok h
    subst hpc
    exact lv_ifnonnullN hx hb hd k
  · cases h
def x_tsw (dflt lo hi : Int) (offs : Array Int) (pc : Nat) (st : List Value) : Option (Nat × List Value) := match st with
  | .int x :: r => if x.toInt < lo ∨ hi < x.toInt then (match xtg pc dflt with | some t => some (t, r) | none => none) else (match offs[(x.toInt - lo).toNat]? with
    | some off => (match xtg pc off with | some t => some (t, r) | none => none)
    | none => none)
  | _ => none
theorem s_tsw (hx : p.tables.exec = Jvm.exec) (hb : c.code = cc) {dflt lo hi : Int} {offs : Array Int} {len : Nat} (hd : decode cc pc = .ok (.tableswitch dflt lo hi offs, len)) (h : x_tsw dflt lo hi offs pc st = some (pc', st')) (k : W p l e R s m args below meth c H locs cells slots Q (F0 m pc' ls (xJ st' ad))) : W p l e R s m args below meth c H locs cells slots Q (F0 m pc ls (xJ st ad)) := by
  unfold x_tsw at h
  split at h
  · split at h
    · rename_i hc
      split at h
      · rename_i t ht
        cases h
        exact lv_tableOut hx hb hd hc (xtg_ok ht) k
      · cases h
    · rename_i hc
      split at h
      · rename_i off ho
        split at h
        · rename_i t ht
          cases h
          exact lv_tableIn hx hb hd (fun z => hc (Or.inl z)) (fun z => hc (Or.inr z)) ho (xtg_ok ht) k
        · cases h
      · cases h
  · cases h
def x_lsw (dflt : Int) (ps : Array (Int × Int)) (pc : Nat) (st : List Value) : Option (Nat × List Value) := match st with
  | .int x :: r => if (ps.toList.zip (ps.toList.drop 1)).all (fun (a, next) => a.1 < next.1) = true then (match xtg pc (Op.lookupswitch.offset ps.toList dflt x.toInt) with | some t => some (t, r) | none => none) else none
  | _ => none
theorem s_lsw (hx : p.tables.exec = Jvm.exec) (hb : c.code = cc) {dflt : Int} {ps : Array (Int × Int)} {len : Nat} (hd : decode cc pc = .ok (.lookupswitch dflt ps, len)) (h : x_lsw dflt ps pc st = some (pc', st')) (k : W p l e R s m args below meth c H locs cells slots Q (F0 m pc' ls (xJ st' ad))) : W p l e R s m args below meth c H locs cells slots Q (F0 m pc ls (xJ st ad)) := by
  unfold x_lsw at h
  split at h
  · split at h
    · rename_i hp
      split at h
      · rename_i t ht
        cases h
        exact lv_lookup hx hb hd hp rfl (xtg_ok ht) k
      · cases h
    · cases h
  · cases h
end XF
