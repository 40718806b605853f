/-! 'new' OF AN EXCEPTION OF OUR OWN -/
section XAB
variable {D : va_G} {cl clB : List vw_C} {tyc : Nat → ClassId} {ad : Nat → Nat} {A : Nat → Prop} {bs : List xO} {sts : List (String × String × String × Value)} {srs : List (String × Nat × String × Nat)} {ncs : List (String × String) × List Cond}
variable {P : xPg} {mn : Nat → MethodName} {bc : Nat → ByteArray} {hh : Nat → Option (List (Nat × Nat × Nat × Nat))} {Ts : List Cond} {nM : Nat} {l : Launch}
variable {p : Program} {e : Env} {R : Room} {s : State} {m : MethodId} {args : Array Value} {below : List Frame} {meth : Method} {c : Code} {H : Heap} {locs : List Loc} {cells slots : Nat} {Q : State → Prop}
variable {pc : Nat} {ls : Array Slot} {L L' st st' : List Value} {ah ah' : List xO}
/-- loads leave the heap alone -/
theorem s_pure (hx : p.tables.exec = Jvm.exec) {k : Nat} (hb : c.code = bc k) (hts : ∀ w ∈ Ts, w.before args s = true) (hKn : xKn D cl tyc clB ad A bs sts srs ncs s) (hown : s.vm.findClass (mn k).cls = some m.cls) (hM : xMx P mn bc hh Ts nM cl clB ad A s args k) (hI : xI D cl tyc ad bs A s.heap ah H locs) {ic : Nat} : ∀ {f pc pc' : Nat} {ls : Array Slot} {L L' st st' : List Value}, xpure P k ic f pc L st ah = some (pc', L', st') → xL ad L ls (xP_ml P k) → L.length = xP_ml P k →
    (∀ ls1 : Array Slot, xL ad L' ls1 (xP_ml P k) → L'.length = xP_ml P k → xP_code P k pc' = some (.invokespecial ic, 3) → W p l e R s m args below meth c H locs cells slots Q (F0 m pc' ls1 (xJ st' ad))) → W p l e R s m args below meth c H locs cells slots Q (F0 m pc ls (xJ st ad))
  | 0, _, _, _, _, _, _, _, h, _, _, _ => by cases h
  | f + 1, pc, pc', ls, L, L', st, st', h, hL, hlen, kk => by
    have hM' := hM
    obtain ⟨m1, m2, m3, m4, m5, m6, m7, m8, m9, -⟩ := hM'
    have hKn' := hKn
    obtain ⟨k1, k2, -⟩ := hKn'
    unfold xpure at h
    split at h
    · cases h
    · rename_i i n hc
      have hd := m1 _ _ _ hc
      split at h
      · split at h
        · rename_i j hj
          cases h
          rw [hj.1, hj.2] at hc
          exact kk _ hL hlen hc
        · cases h
      · split at h
        · rename_i pc1 L1 st1 ah1 h1
          obtain ⟨hn, st2, h2, h3⟩ := xr1_ok h1
          have hn := beq_iff_eq.mp hn
          subst hn
          cases h3
          exact s_getf hx hb hts hown k1 k2 m3 hI hd h2 (s_pure hx hb hts hKn hown hM hI h hL hlen kk)
        · cases h
      · split at h
        · rename_i pc1 L1 st1 ah1 h1
          obtain ⟨hn, st2, h2, h3⟩ := xr1_ok h1
          have hn := beq_iff_eq.mp hn
          subst hn
          cases h3
          exact s_iald hx hb k1 k2 hI hd h2 (s_pure hx hb hts hKn hown hM hI h hL hlen kk)
        · cases h
      · split at h
        · rename_i pc1 L1 st1 ah1 h1
          obtain ⟨L2, st2, h2, h3⟩ := xr4_ok h1
          cases h3
          exact s_plain hx hb hown m9 hlen hL h2 hd fun ls1 g => s_pure hx hb hts hKn hown hM hI h g ((xplain_len h2).trans hlen) kk
        · cases h
/-- a thing that is as it was born -/
def xraw (D : va_G) (ci q : Nat) (U : State) : Prop := ∃ kX : Class, U.vm.classes[D.1 ci]? = some kX ∧ U.heap[q]? = some (freshCell (D.1 ci) kX)
/-- 'new', and what it made is as it was born -/
theorem s_newR (hx : p.tables.exec = Jvm.exec) {cc : ByteArray} (hb : c.code = cc) {own : String} (hts : ∀ w ∈ Ts, w.before args s = true) (hown : s.vm.findClass own = some m.cls) {tys : List (ClassId × FieldType)} (hK : va_K D cl tys s) (had : xAd ad bs.length A) {H0 : Heap} (hI : xI D cl tyc ad bs A H0 ah H locs) {tn : Nat → Option Nat} {fd : Nat → List Value} (htn : xTn s args own cl Ts fd tn)
    {idx ci : Nat} (hd : decode cc pc = .ok (.new idx, 3)) (hci : tn idx = some ci) {c0 z0 : Nat} (hc0 : cells + c0 = ah.length) (hz0 : slots + z0 = xsum ah) (hr : (ah ++ [.inr (ci, fd ci)] : List xO).length ≤ R.cells + c0 ∧ xsum (ah ++ [.inr (ci, fd ci)]) ≤ R.slots + z0)
    (k : ∀ (H1 : Heap) (cells1 slots1 : Nat) (kX : Class), s.vm.classes[D.1 ci]? = some kX → H1[ad ah.length]? = some (freshCell (D.1 ci) kX) → xI D cl tyc ad bs A H0 (ah ++ [.inr (ci, fd ci)]) H1 locs → cells1 + c0 = (ah ++ [.inr (ci, fd ci)] : List xO).length → slots1 + z0 = xsum (ah ++ [.inr (ci, fd ci)]) → W p l e R s m args below meth c H1 locs cells1 slots1 Q (F0 m (pc + 3) ls (xJ (.ref ah.length :: st) ad))) : W p l e R s m args below meth c H locs cells slots Q (F0 m pc ls (xJ st ad)) := by
  obtain ⟨C, T, N, n0, ty, g1, g2, g3, g4, g5, g6, g7, g8, g9, g10⟩ := htn _ _ hci
  have hfd : (fd ci).map (xm ad) = fd ci := by
    conv => rhs; rw [← List.map_id (fd ci)]
    exact List.map_congr_left fun v hv => g9 v hv ad
  rw [xsum_push, List.length_append] at hr
  have hs : xsz (.inr (ci, fd ci)) = n0 := g8
  rw [hs] at hr
  have hl1 : ([Sum.inr (ci, fd ci)] : List xO).length = 1 := rfl
  rw [hl1] at hr
  have hKn := hK.1 ci _ g1
  refine W.newcK hx hb hown g2 g3 g4 rfl hd (by omega) (by omega) hKn.2.1 hI.2.1 fun H1 kC hkC e1 z1 o1 => ?_
  refine k H1 _ _ kC hkC e1 (hI.push had g10 ?_ (by rw [z1, hI.2.1]) (fun q hq => o1 q (by rw [← hI.2.1]; exact hq))) (by rw [List.length_append, hl1]; omega) (by rw [xsum_push, hs]; omega)
  show va_at D cl (ad ah.length, .inr (ci, (fd ci).map (xm ad))) H1
  rw [hfd]
  exact ⟨_, g1, (u_born ty hts g5 hKn hkC e1 g6).to g7⟩
end XAB
section XAC
variable {D : va_G} {cl clB : List vw_C} {tyc : Nat → ClassId} {ad : Nat → Nat} {A : Nat → Prop} {bs : List xO} {sts : List (String × String × String × Value)} {srs : List (String × Nat × String × Nat)} {ncs : List (String × String) × List Cond}
variable {P : xPg} {mn : Nat → MethodName} {bc : Nat → ByteArray} {hh : Nat → Option (List (Nat × Nat × Nat × Nat))} {Ts : List Cond} {nM : Nat} {l : Launch}
/-- what the constructor's start asks: its object is as it was born -/
def xPr (D : va_G) (cl : List vw_C) (tyc : Nat → ClassId) (clB : List vw_C) (ad : Nat → Nat) (A : Nat → Prop) (bs : List xO) (sts : List (String × String × String × Value)) (srs : List (String × Nat × String × Nat)) (ncs : List (String × String) × List Cond) (ci q : Nat) (vs : List Value) (ah : List xO) : Array Value → State → Prop := fun a U => xPc D cl tyc clB ad A bs sts srs ncs vs ah a U ∧ xraw D ci (ad q) U
theorem xPr_blind {ci q : Nat} {vs : List Value} {ah : List xO} : FrameBlind (xPr D cl tyc clB ad A bs sts srs ncs ci q vs ah) := by
  intro a U g mk h
  exact ⟨xPc_blind a U g mk h.1, h.2⟩
/-- the object stays the thing that the machine sees, whatever the constructor above wrote -/
theorem xI.above {H0 H H1 : Heap} {s : State} {args : Array Value} {ah : List xO} {q ci : Nat} {fs : List Value} {X : String} {T : u_T} {N : Nat} {locs1 : List Loc} {ce : Cell} {kX : Class} (hI : xI D cl tyc ad bs A H0 ah H []) (had : xAd ad bs.length A) (hK : u_Kn s X T N (D.1 ci) (D.2 ci)) (hts : ∀ w ∈ Ts, w.before args s = true) (hin : ∀ w ∈ u_ws X T N, w ∈ Ts) (hcl : cl[ci]? = some (X, T, N)) (hq : bs.length ≤ q) (ho : ah[q]? = some (.inr (ci, fs))) (hkX : s.vm.classes[D.1 ci]? = some kX) (hcell : H[ad q]? = some (freshCell (D.1 ci) kX))
    (hnm : ∀ k, k < N → (∃ ty, parseFieldDescriptor (T k).2.2.1 = some ty) ∧ (T k).2.1 ≠ "cause" ∧ (T k).2.1 ≠ "stackTrace" ∧ (T k).2.1 ≠ "suppressedExceptions")
    (hL : ∀ y ∈ locs1, y.base = ad q) (h1 : H1[ad q]? = some ce) (h2 : ce.cls = D.1 ci) (h3 : ce.vm = .none) (hz : H1.size = H.size) (oq : ∀ a : Nat, a ≠ ad q → H1[a]? = H[a]?)
    (hsl : ∀ (f : Field) (d : Class × Field), Jmm.declares? s.vm f.slot (D.1 ci + 1) (D.1 ci) = some d → d.2.name = f.name → f.name ≠ "cause" → f.name ≠ "stackTrace" → f.name ≠ "suppressedExceptions" → ce.slots[f.slot]? = (freshCell (D.1 ci) kX).slots[f.slot]?) : xI D cl tyc ad bs A H0 ah H1 locs1 := by
  obtain ⟨⟨g1, g2⟩, g3, g4, g5, g6, g7⟩ := hI
  refine ⟨⟨g1, fun k o hk ho' => ?_⟩, by rw [hz]; exact g3, g4, by rw [hz]; exact g5, fun a a1 a2 => ?_, fun y hy => by rw [hL y hy]; exact (had.2 q hq).2⟩
  · have h9 := g2 k o hk ho'
    by_cases hkq : k = q
    · subst hkq
      rw [ho] at ho'
      cases ho'
      refine ⟨h9.1, ?_⟩
      obtain ⟨r, r1, cell, r2, r3, r4, r5⟩ := h9.2
      have r1 : cl[ci]? = some r := r1
      cases Option.some.inj (hcl.symm.trans r1)
      have r2 : H[ad k]? = some cell := r2
      cases Option.some.inj (hcell.symm.trans r2)
      refine ⟨_, hcl, ce, h1, h2, h3, fun j hj => ?_⟩
      have hj : j < N := hj
      rw [← r5 j hj]
      obtain ⟨cf, kf, fi, fd, hi, he⟩ := hK.1 j hj
      obtain ⟨⟨ty, hty⟩, n1, n2, n3⟩ := hnm j hj
      have hname := (State.fieldFound?_type hi hty).1
      have hdec : ∃ d, Jmm.declares? s.vm fd.slot (D.1 ci + 1) (D.1 ci) = some d ∧ d.2.name = fd.name := by
        rcases u_lays hts hin hj with hw | hw
        · obtain ⟨c1, k1, c2, k2, i2, f2, q1, q2, q3, -, -, -, -, d, q4, -, q5, -⟩ := Cond.lays_spec hw
          cases Option.some.inj (q1.symm.trans hK.2.1)
          cases Option.some.inj (q3.symm.trans hi)
          exact ⟨d, q4, q5⟩
        · obtain ⟨c1, k1, c2, k2, i2, f2, q1, q2, q3, -, -, -, -, -, d, q4, -, q5, -⟩ := Cond.laysFinal_spec hw
          cases Option.some.inj (q1.symm.trans hK.2.1)
          cases Option.some.inj (q3.symm.trans hi)
          exact ⟨d, q4, q5⟩
      obtain ⟨d, q4, q5⟩ := hdec
      have := hsl fd d q4 q5 (by rw [hname]; exact n1) (by rw [hname]; exact n2) (by rw [hname]; exact n3)
      rw [he] at this
      exact this
    · exact ⟨h9.1, h9.2.kept (oq _ fun z => hkq (had.1 _ _ (Or.inr hk) (Or.inr hq) z))⟩
  · rw [oq a (fun z => a2 (by rw [z]; exact (had.2 q hq).2))]
    exact g6 a a1 a2
end XAC
section XAD
variable {D : va_G} {cl clB : List vw_C} {tyc : Nat → ClassId} {ad : Nat → Nat} {A : Nat → Prop} {bs : List xO} {sts : List (String × String × String × Value)} {srs : List (String × Nat × String × Nat)} {ncs : List (String × String) × List Cond}
variable {P : xPg} {mn : Nat → MethodName} {bc : Nat → ByteArray} {hh : Nat → Option (List (Nat × Nat × Nat × Nat))} {Ts : List Cond} {nM : Nat} {l : Launch}
/-- the constructor's contract, on an object that is as it was born -/
theorem xmet_mk {f : Nat} (hF : xFrm D cl tyc clB ad A bs sts srs ncs P mn bc hh Ts nM l f) (hG : xGood D cl tyc clB ad A bs sts srs ncs P mn bc hh Ts nM) (hl0 : l.stackTraces = false) (had : xAd ad bs.length A) {d y ci q i2 : Nat} {a b : Int32} {fs : List Value} {ah ah1 : List xO} (h : xrun P bs.length f d y 4 [.ref q, .int a, .int b] [] ah = some (.inl none, ah1)) (hy : y < nM) (hp : plainName (mn y).cls = true) (hml3 : xP_ml P y = 3)
    (hd0 : decode (bc y) 0 = .ok (.aload_n 0, 1)) (hd1 : decode (bc y) 1 = .ok (.invokespecial i2, 3)) (hti : xP_ti P (xP_pool P y) i2 = some ci) (hq : bs.length ≤ q) (ho : ah[q]? = some (.inr (ci, fs))) {mc ms : Nat} (hmc : ah1.length ≤ mc + ah.length) (hms : xsum ah1 ≤ ms + xsum ah) :
    xv_Met l (mn y) (xcw P mn bc hh y :: Ts) (xrm d mc ms) (xPr D cl tyc clB ad A bs sts srs ncs ci q [.ref q, .int a, .int b] ah) (xQc D cl tyc ad A bs (.inl none) ah1) (xXc D cl tyc ad A bs (.inl none) ah1) mc ms A := by
  refine MetFree.of_bodyS (code := bc y) (maxLocals := xP_ml P y) (ret := xP_rt P y) hp ?_ ?_
  · intro args s m h9 hn
    have hw := atoms_spec (ws := xcw P mn bc hh y :: Ts) h9 _ List.mem_cons_self
    unfold xcw at hw
    split at hw
    · obtain ⟨meth, c, h1, h2, h3, h4, h5, h6, -, -⟩ := Cond.code_spec hn hw
      exact ⟨meth, c, h1, h2, h3, h4, h5, h6⟩
    · obtain ⟨m9, meth, c, hn9, h1, h2, h3, h4, -, h5, h6, -⟩ := Cond.codeWith_spec hw
      cases hn.symm.trans hn9
      exact ⟨meth, c, h1, h2, h3, h4, h5, h6⟩
  · intro p e s m args below meth c s₁ B hml hP _
    have hh0 : s₁.heap = s.heap := by rw [B.state]; rfl
    have hall := atoms_spec (ws := xcw P mn bc hh y :: Ts) B.pre
    have hts : ∀ w ∈ Ts, w.before args s = true := fun w hw => hall w (List.mem_cons_of_mem _ hw)
    have htb : c.exceptionTable.toList = xtb (hh y) := by
      have hw := hall _ List.mem_cons_self
      unfold xcw at hw
      unfold xtb
      split at hw
      · rename_i e9
        obtain ⟨meth9, c9, h1, h2, -, -, -, -, h7, -⟩ := Cond.code_spec B.named hw
        cases Option.some.inj (h1.symm.trans B.method)
        cases Option.some.inj (h2.symm.trans (Stand.of_body B).code)
        rw [Array.isEmpty_iff.mp h7]
      · rename_i t9 e9
        exact vx_table (x := mn y) B hw
    obtain ⟨⟨rfl, g1, g2, g3, g4⟩, kX, hkX, hcell⟩ := hP
    have hlay : (xlay [.ref q, .int a, .int b]).length ≤ xP_ml P y := by rw [hml3]; exact Nat.le_refl _
    have hxe : xentry [.ref q, .int a, .int b] (xP_ml P y) = [.ref q, .int a, .int b] := by rw [hml3]; rfl
    obtain ⟨ls, e1, e2⟩ := xentry_ok ad m hlay
    rw [hxe] at e2
    have hlen : ([.ref q, .int a, .int b] : List Value).length = xP_ml P y := by rw [hml3]; rfl
    have hown := findClass_of_methodNamed B.named
    have hM := hG y hy s _ hts g4
    obtain ⟨X, sup, T, N, n, names, t1, t2, t3, t4, t5, t6, t7⟩ := hM.2.2.2.2.2.2.2.1.2.2.1 _ _ hti
    have g4' := g4
    obtain ⟨k1, k2, k3, k4, k5, k6, k7, k8, k9⟩ := g4'
    have hKc := k1.1 ci _ t1
    have hI0 : xI D cl tyc ad bs A s.heap ah s.heap [] := ⟨g1, g2, g3, va_S.rf⟩
    have K : W p l e (xrm d mc ms) s m (xJ [.ref q, .int a, .int b] ad).toArray below meth c s.heap [] 0 0 (xv_MQ below (xQc D cl tyc ad A bs (.inl none) ah1) (xXc D cl tyc ad A bs (.inl none) ah1) (xJ [.ref q, .int a, .int b] ad).toArray s mc ms A) (F0 m 0 ls (xJ [] ad)) := by
      refine s_plain B.exec B.bytes hown hM.2.2.2.2.2.2.2.2.1 hlen e2 (i := .aload_n 0) (n := 1) (L' := [.ref q, .int a, .int b]) (st' := [.ref q]) rfl hd0 fun ls1 hL1 => ?_
      refine xv_super (rest := []) B.exec B.bytes hl0 hown t2 t4 t5 k8 k9 (hL1.1.trans hml.symm) hd1 hKc.2.1 hkX hcell (by show _ < 10 + d; omega) (by show _ ≤ 150 + 60 * d; simp only [List.map_nil, List.sum_nil]; omega) fun H1 ce L hLb h1 h2 h3 hz oq hsl => ?_
      have hI1 := hI0.above had hKc hts t6 t1 hq ho hkX hcell t7 hLb h1 h2 h3 hz oq hsl
      exact hF h hy (R := xrm d mc ms) B.exec hts g4 hown B.bytes hml B.notSynchronized B.returns (name_of_methodNamed B.named B.method).1 htb (Nat.le_refl _) (Nat.le_refl _) (Nat.le_refl _) (Nat.le_refl _) hL1 hlen hI1 (c0 := ah.length) (z0 := xsum ah) (Nat.zero_add _) (Nat.zero_add _) hmc hms
    rw [← show entryFrame m (xJ [.ref q, .int a, .int b] ad).toArray (xP_ml P y) = F0 m 0 ls (xJ [] ad) from e1] at K
    obtain ⟨t, a1, o, b1, b2, b3⟩ := K s₁ hh0 (Stand.of_body B)
    exact ⟨t, o, a1, b1, b2, b3⟩
variable {p : Program} {e : Env} {R : Room} {s : State} {m : MethodId} {args : Array Value} {below : List Frame} {meth : Method} {c : Code} {H : Heap} {locs : List Loc} {cells slots : Nat}
variable {pc : Nat} {ls : Array Slot} {L st : List Value} {ah ah' : List xO} {r : Option Value ⊕ Nat}
/-- 'new' of an exception of our own, its loads, its constructor -/
theorem s_mk {f d k n : Nat} {i : Instr} (hF : xFrm D cl tyc clB ad A bs sts srs ncs P mn bc hh Ts nM l f) (hG : xGood D cl tyc clB ad A bs sts srs ncs P mn bc hh Ts nM) (hl0 : l.stackTraces = false) (had : xAd ad bs.length A) (hTg : ∀ w ∈ Ts, goodWord w = true) (hk : k < nM) (hx : p.tables.exec = Jvm.exec) (hts : ∀ w ∈ Ts, w.before args s = true) (hKn : xKn D cl tyc clB ad A bs sts srs ncs s) (hown : s.vm.findClass (mn k).cls = some m.cls) (hb : c.code = bc k) (hml : c.maxLocals = xP_ml P k) (hlk : meth.locks = false) (hrt : meth.sig.returnType = xP_rt P k) (hname : meth.name = (mn k).name) (htb : c.exceptionTable.toList = xtb (hh k)) (hM : xMx P mn bc hh Ts nM cl clB ad A s args k)
    (hRf : 10 + d ≤ R.frames) (hRl : 150 + 60 * d ≤ R.locals) {mc ms c0 z0 : Nat} (hmc : mc ≤ R.cells) (hms : ms ≤ R.slots) (hL : xL ad L ls (xP_ml P k)) (hlen : L.length = xP_ml P k) (hI : xI D cl tyc ad bs A s.heap ah H locs) (hc0 : cells + c0 = ah.length) (hz0 : slots + z0 = xsum ah) (h1 : ah'.length ≤ mc + c0) (h2 : xsum ah' ≤ ms + z0) (hc : xP_code P k pc = some (i, n)) (hcase : xInvM P bs.length f d k pc L st ah i n r ah') :
    W p l e R s m args below meth c H locs cells slots (xv_MQ below (xQc D cl tyc ad A bs r ah') (xXc D cl tyc ad A bs r ah') args s mc ms A) (F0 m pc ls (xJ st ad)) := by
  obtain ⟨j, ci, ic, y, d', pc', L', st', a, b, rr, ah2, rfl, hmk, rfl, hml3, rfl, hpu, htw, hr1, h3⟩ := hcase
  obtain ⟨w0, w1, w2, w3, w4, w5, w6, w7, w8, w9, w10, w11, w12, i2, w13, w14⟩ := hM.2.2.2.2.2.2.2.1.2.2.2 _ _ _ _ hmk
  obtain ⟨n1, n2⟩ := xrun_mono hr1
  obtain ⟨n3, n4⟩ := xrun_mono h3
  refine s_newR hx hb hts hown hKn.1 had hI w0 (hM.1 _ _ _ hc) (if_pos rfl) hc0 hz0 ⟨by omega, by omega⟩ fun H1 cells1 slots1 kX hkX hcell hI1 hc1 hz1 => ?_
  refine s_pure hx hb hts hKn hown hM hI1 hpu hL hlen fun ls1 hL1 hlen1 hcd => ?_
  obtain ⟨rfl, hrl⟩ := xtwo_ok htw
  have hd2 := hM.1 _ _ _ hcd
  have hsz1 : ls1.size = c.maxLocals := hL1.1.trans hml.symm
  generalize hah1 : ah ++ [Sum.inr (ci, xP_fd P ci)] = ah1 at *
  have hE : bs.length ≤ ah.length := hI.2.2.1
  have ho : ah1[ah.length]? = some (.inr (ci, xP_fd P ci)) := by rw [← hah1, List.getElem?_append_right (Nat.le_refl _), Nat.sub_self]; rfl
  have hmet := xmet_mk (l := l) hF hG hl0 had hr1 w1 w2 hml3 w12 w13 w14 hE ho (mc := ah2.length - ah1.length) (ms := xsum ah2 - xsum ah1) (by omega) (by omega)
  have hws : ∀ w ∈ xcw P mn bc hh y :: Ts, ∀ (a' : Array Value) (U : State), s.WarmedH U.vm → w.before a' U = true := by
    intro w hw
    rcases List.mem_cons.mp hw with rfl | hw
    · exact xgw hTg hts _ w6
    · exact xgw hTg hts _ hw
  have hini : ∀ (a' : Array Value) (U : State), s.WarmedH U.vm → (Cond.initialized (mn y).cls).before a' U = true := fun a' U hW => word_at hW (Or.inl (by first | rfl | simp [Cond.onTables, Cond.keeps, Cond.steady])) w5
  have hcode := hts _ w6
  have e1 : xcw P mn bc hh y = Cond.code (mn y) (bc y) (xP_ml P y) (xP_rt P y) := by unfold xcw; rw [w9]
  have hK : xv_Back l R p e below s args (mn y) 3 24 (PreOf R (ah2.length - ah1.length) (xsum ah2 - xsum ah1) (xPr D cl tyc clB ad A bs sts srs ncs ci ah.length [.ref ah.length, .int a, .int b] ah1)) (PostOf (xQc D cl tyc ad A bs (.inl none) ah2) (ah2.length - ah1.length) (xsum ah2 - xsum ah1) A) (xv_Post (xXc D cl tyc ad A bs (.inl none) ah2) (ah2.length - ah1.length) (xsum ah2 - xsum ah1) A) :=
    xv_back hmet xPr_blind rfl rfl (by show 10 + d' + 1 ≤ _; omega) (by show 24 + (xP_ml P y + 11) + (150 + 60 * d') ≤ _; omega) hws (by rw [e1]; exact List.mem_cons_self) hini
  rw [e1, w10] at hcode
  have hW9 : 2 * (F0 m pc' ls1 (xJ (.int b :: .int a :: .ref ah.length :: rr) ad)).monitorRoom + ((xJ rr ad).map fun v => v.category).sum ≤ 24 := by
    have := xcatsum ad rr
    show 2 * 0 + _ ≤ _
    omega
  have hpre : ∀ (T : State), T.heap = H1 → ∀ vm₁, s.WarmedH vm₁ → PreOf R (ah2.length - ah1.length) (xsum ah2 - xsum ah1) (xPr D cl tyc clB ad A bs sts srs ncs ci ah.length [.ref ah.length, .int a, .int b] ah1) ⟨T.setVm vm₁, locs, cells1, slots1⟩ (xJ [.ref ah.length, .int a, .int b] ad).toArray := by
    intro T hT vm₁ hW₁
    refine ⟨by show cells1 + _ ≤ _; omega, by show slots1 + _ ≤ _; omega, ⟨rfl, ?_, ?_, hI1.2.2.1, ?_⟩, ?_⟩
    · show xH D cl tyc ad bs ah1 T.heap; rw [hT]; exact hI1.1
    · show T.heap.size = _; rw [hT]; exact hI1.2.1
    · exact hKn.moved (U := T.setVm vm₁) hW₁ (fun q g1 g2 => by show T.heap[q]? = _; rw [hT]; exact hI1.2.2.2.2.1 q g1 g2)
    · obtain ⟨k9, e9, h9⟩ := hW₁.alike.2.2 _ _ hkX
      refine ⟨k9, e9, ?_⟩
      show T.heap[ad ah.length]? = _
      rw [hT, hcell, h9]
  intro T hT X
  refine s_back (y := y) (rr := rr) (o := .inl none) (ah := ah1) (ah1 := ah2) (va := (xJ [.ref ah.length, .int a, .int b] ad).toArray) (my := ah2.length - ah1.length) (sy := xsum ah2 - xsum ah1) (T := T) hF hk hx hts hKn hown hb hml hlk hrt hname htb hM hRf hRl hmc hms hL1 hlen1 hI1 hc1 hz1 h1 h2 (g := F0 m pc' ls1 (xJ (.int b :: .int a :: .ref ah.length :: rr) ad)) hT (by omega) (by omega) (Or.inl ⟨none, rfl, h3⟩) ?_
  have hln : ∀ sig, parseMethodDescriptor (mn y).desc = some sig → ([.int a, .int b] : List Value).length = sig.parameters.length := fun sig hs => (w4 sig hs).symm
  rcases w11 with w11 | ⟨host, w11⟩
  · exact xv_callI X hx hown w8 w11 w7 hcode w3 hK (g := F0 m pc' ls1 (xJ (.int b :: .int a :: .ref ah.length :: rr) ad)) rfl hsz1 (argsL := [.int a, .int b]) (rest := xJ rr ad) hln rfl hW9 (by rw [hb]; exact hd2) (hpre T hT)
  · exact xv_callIN X hx hown w8 w11 w7 hcode w3 hK (g := F0 m pc' ls1 (xJ (.int b :: .int a :: .ref ah.length :: rr) ad)) rfl hsz1 (argsL := [.int a, .int b]) (rest := xJ rr ad) hln rfl hW9 (by rw [hb]; exact hd2) (hpre T hT)
end XAD
