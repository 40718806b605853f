section XU
variable {D : va_G} {cl clB : List vw_C} {tyc : Nat → ClassId} {ad : Nat → Nat} {A : Nat → Prop} {bs : List xO} {sts : List (String × String × String × Value)} {srs : List (String × Nat × String × Nat)} {ncs : List (String × String) × List Cond}
variable {P : xPg} {mn : Nat → MethodName} {bc : Nat → ByteArray} {hh : Nat → Option (List (Nat × Nat × Nat × Nat))} {Ts : List Cond} {nM : Nat} {l : Launch}
variable {p : Program} {e : Env} {R : Room} {s : State} {m : MethodId} {args : Array Value} {below : List Frame} {meth : Method} {c : Code} {H : Heap} {locs : List Loc} {cells slots : Nat} {Q : State → Prop}
variable {pc : Nat} {ls : Array Slot} {L L' st st' : List Value} {ah ah' : List xO}
/-- one instruction that neither calls nor ends -/
theorem s_step (hx : p.tables.exec = Jvm.exec) {k : Nat} (hb : c.code = bc k) (hts : ∀ w ∈ Ts, w.before args s = true) (hKn : xKn D cl tyc clB ad A bs sts srs ncs s) (hown : s.vm.findClass (mn k).cls = some m.cls) (hname : meth.name = (mn k).name) (had : xAd ad bs.length A) (hM : xMx P mn bc hh Ts nM cl clB ad A s args k) (hkd : ∀ q : vw_C, clB[xP_kd P - 100]? = some q → q.1 = "ReportMill$Kind") (hk100 : 100 ≤ xP_kd P ∧ xP_kd P ≠ 199)
    (haw : ∀ ty, ty = FieldType.int ∨ ty = .long ∨ ty = .byte ∨ ty = .boolean → Cond.arrayClass ty ∈ Ts) (hL : xL ad L ls (xP_ml P k)) (hlen : L.length = xP_ml P k) (hI : xI D cl tyc ad bs A s.heap ah H locs) {c0 z0 : Nat} (hc0 : cells + c0 = ah.length) (hz0 : slots + z0 = xsum ah) {i : Instr} {n pc' : Nat} (hc : xP_code P k pc = some (i, n)) (h : xstep P bs.length k pc L st ah i n = some (pc', L', st', ah')) (hr : ah'.length ≤ R.cells + c0 ∧ xsum ah' ≤ R.slots + z0)
    (kk : ∀ (H1 : Heap) (locs1 : List Loc) (cells1 slots1 : Nat) (ls1 : Array Slot), xI D cl tyc ad bs A s.heap ah' H1 locs1 → cells1 + c0 = ah'.length → slots1 + z0 = xsum ah' → xL ad L' ls1 (xP_ml P k) → L'.length = xP_ml P k → W p l e R s m args below meth c H1 locs1 cells1 slots1 Q (F0 m pc' ls1 (xJ st' ad))) : W p l e R s m args below meth c H locs cells slots Q (F0 m pc ls (xJ st ad)) := by
  obtain ⟨m1, m2, m3, m4, m5, m6, m7, m8, m9, -⟩ := hM
  obtain ⟨k1, k2, k3, ⟨cK, k4⟩, -⟩ := hKn
  have hd := m1 _ _ _ hc
  have hini : xP_ini P k = true → meth.name = "<init>" := fun z => hname.trans (m2 z)
  unfold xstep at h
  split at h
  · obtain ⟨hn, st1, h1, h2⟩ := xr1_ok h
    have hn := beq_iff_eq.mp hn
    subst hn
    cases h2
    exact s_getf hx hb hts hown k1 k2 m3 hI hd h1 (kk _ _ _ _ _ hI hc0 hz0 hL hlen)
  · obtain ⟨hn, ah1, st1, h1, h2⟩ := xr2_ok h
    have hn := beq_iff_eq.mp hn
    subst hn
    cases h2
    exact s_putf hx hb hts hown k1 m4 had hI hini hd h1 fun H1 locs1 g1 g2 g3 => kk _ _ _ _ _ g1 (by rw [g2]; exact hc0) (by rw [g3]; exact hz0) hL hlen
  · obtain ⟨hn, st1, h1, h2⟩ := xr1_ok h
    have hn := beq_iff_eq.mp hn
    subst hn
    cases h2
    exact s_gets hx hb hown m5 hI hd h1 (kk _ _ _ _ _ hI hc0 hz0 hL hlen)
  · obtain ⟨hn, st1, h1, h2⟩ := xr1_ok h
    have hn := beq_iff_eq.mp hn
    subst hn
    cases h2
    exact s_iald hx hb k1 k2 hI hd h1 (kk _ _ _ _ _ hI hc0 hz0 hL hlen)
  · obtain ⟨hn, st1, h1, h2⟩ := xr1_ok h
    have hn := beq_iff_eq.mp hn
    subst hn
    cases h2
    exact s_bald hx hb k1 k2 hI hd h1 (kk _ _ _ _ _ hI hc0 hz0 hL hlen)
  · obtain ⟨hn, st1, h1, h2⟩ := xr1_ok h
    have hn := beq_iff_eq.mp hn
    subst hn
    cases h2
    exact s_lald hx hb k1 k2 hI hd h1 (kk _ _ _ _ _ hI hc0 hz0 hL hlen)
  · obtain ⟨hn, st1, h1, h2⟩ := xr1_ok h
    have hn := beq_iff_eq.mp hn
    subst hn
    cases h2
    exact s_aald hx hb k1 k2 hI hd h1 (kk _ _ _ _ _ hI hc0 hz0 hL hlen)
  · obtain ⟨hn, st1, h1, h2⟩ := xr1_ok h
    have hn := beq_iff_eq.mp hn
    subst hn
    cases h2
    exact s_alen hx hb k1 k2 hI hd h1 (kk _ _ _ _ _ hI hc0 hz0 hL hlen)
  · obtain ⟨hn, ah1, st1, h1, h2⟩ := xr2_ok h
    have hn := beq_iff_eq.mp hn
    subst hn
    cases h2
    exact s_iast hx hb k1 had hI hd h1 fun H1 locs1 g1 g2 g3 => kk _ _ _ _ _ g1 (by rw [g2]; exact hc0) (by rw [g3]; exact hz0) hL hlen
  · obtain ⟨hn, ah1, st1, h1, h2⟩ := xr2_ok h
    have hn := beq_iff_eq.mp hn
    subst hn
    cases h2
    exact s_bast hx hb k1 had hI hd h1 fun H1 locs1 g1 g2 g3 => kk _ _ _ _ _ g1 (by rw [g2]; exact hc0) (by rw [g3]; exact hz0) hL hlen
  · obtain ⟨hn, ah1, st1, h1, h2⟩ := xr2_ok h
    have hn := beq_iff_eq.mp hn
    subst hn
    cases h2
    exact s_last hx hb k1 had hI hd h1 fun H1 locs1 g1 g2 g3 => kk _ _ _ _ _ g1 (by rw [g2]; exact hc0) (by rw [g3]; exact hz0) hL hlen
  · obtain ⟨hn, ah1, st1, h1, h2⟩ := xr2_ok h
    have hn := beq_iff_eq.mp hn
    subst hn
    cases h2
    exact s_aast hx hb k1 k2 had hI k4 hkd hk100 hd h1 fun H1 locs1 g1 g2 g3 => kk _ _ _ _ _ g1 (by rw [g2]; exact hc0) (by rw [g3]; exact hz0) hL hlen
  · obtain ⟨hn, ah1, st1, h1, h2⟩ := xr2_ok h
    have hn := beq_iff_eq.mp hn
    subst hn
    cases h2
    exact s_newarr hx hb k1 had hI (fun ty hty => hts _ (haw ty hty)) hd h1 hc0 hz0 hr fun H1 cells1 slots1 g1 g2 g3 => kk _ _ _ _ _ g1 g2 g3 hL hlen
  · obtain ⟨hn, ah1, st1, h1, h2⟩ := xr2_ok h
    have hn := beq_iff_eq.mp hn
    subst hn
    cases h2
    exact s_anew hx hb hown k1 had hI k3 m7 hd h1 hc0 hz0 hr fun H1 cells1 slots1 g1 g2 g3 => kk _ _ _ _ _ g1 g2 g3 hL hlen
  · obtain ⟨hn, ah1, st1, h1, h2⟩ := xr2_ok h
    have hn := beq_iff_eq.mp hn
    subst hn
    cases h2
    exact s_new hx hb hts hown k1 had hI m6 hd h1 hc0 hz0 hr fun H1 cells1 slots1 g1 g2 g3 => kk _ _ _ _ _ g1 g2 g3 hL hlen
  · obtain ⟨hn, pc1, st1, h1, h2⟩ := xr3_ok h
    have hn := beq_iff_eq.mp hn
    subst hn
    cases h2
    exact s_if hx hb hd h1 (kk _ _ _ _ _ hI hc0 hz0 hL hlen)
  · obtain ⟨hn, pc1, st1, h1, h2⟩ := xr3_ok h
    have hn := beq_iff_eq.mp hn
    subst hn
    cases h2
    exact s_icmp hx hb hd h1 (kk _ _ _ _ _ hI hc0 hz0 hL hlen)
  · obtain ⟨hn, pc1, st1, h1, h2⟩ := xr3_ok h
    have hn := beq_iff_eq.mp hn
    subst hn
    cases h2
    exact s_acmp hx hb had.1 hd h1 (kk _ _ _ _ _ hI hc0 hz0 hL hlen)
  · obtain ⟨hn, pc1, st1, h1, h2⟩ := xr3_ok h
    have hn := beq_iff_eq.mp hn
    subst hn
    cases h2
    exact s_goto hx hb hd h1 (kk _ _ _ _ _ hI hc0 hz0 hL hlen)
  · obtain ⟨hn, pc1, st1, h1, h2⟩ := xr3_ok h
    have hn := beq_iff_eq.mp hn
    subst hn
    cases h2
    exact s_ifnull hx hb hd h1 (kk _ _ _ _ _ hI hc0 hz0 hL hlen)
  · obtain ⟨hn, pc1, st1, h1, h2⟩ := xr3_ok h
    have hn := beq_iff_eq.mp hn
    subst hn
    cases h2
    exact s_ifnonnull hx hb hd h1 (kk _ _ _ _ _ hI hc0 hz0 hL hlen)
  · obtain ⟨-, pc1, st1, h1, h2⟩ := xr3_ok h
    cases h2
    exact s_tsw hx hb hd h1 (kk _ _ _ _ _ hI hc0 hz0 hL hlen)
  · obtain ⟨-, pc1, st1, h1, h2⟩ := xr3_ok h
    cases h2
    exact s_lsw hx hb hd h1 (kk _ _ _ _ _ hI hc0 hz0 hL hlen)
  · obtain ⟨L1, st1, h1, h2⟩ := xr4_ok h
    cases h2
    exact s_plain hx hb hown m9 hlen hL h1 hd fun ls1 g => kk _ _ _ _ _ hI hc0 hz0 g ((xplain_len h1).trans hlen)
/-- an end -/
theorem s_ret {mc ms : Nat} {r : Option Value ⊕ Nat} (hx : p.tables.exec = Jvm.exec) {k : Nat} (hb : c.code = bc k) (hlk : meth.locks = false) (hrt : meth.sig.returnType = xP_rt P k) (hI : xI D cl tyc ad bs A s.heap ah H locs) (hc : cells ≤ mc) (hs : slots ≤ ms) {i : Instr} {n : Nat} (hd : decode (bc k) pc = .ok (i, n)) {v : Option Value} (h : xret (xP_rt P k) i n st = some v) (hrv : r = .inl v) :
    W p l e R s m args below meth c H locs cells slots (xv_MQ below (xQc D cl tyc ad A bs r ah) (xXc D cl tyc ad A bs r ah) args s mc ms A) (F0 m pc ls (xJ st ad)) := by
  refine W.widen hc hs (xv_ret ?_)
  have hq : ∀ (o : Outcome), o = .returned (v.map (xm ad)) → ∀ t : State, t.heap = H → s.WarmedH t.vm → xQc D cl tyc ad A bs r ah args s o t := by
    intro o ho t ht _
    exact ⟨v, hrv, ho, by rw [ht]; exact hI.1, by rw [ht]; exact hI.2.1, hI.2.2.2.F ht⟩
  have hf := hI.2.2.2.2.2
  unfold xret at h
  split at h
  · rename_i v0
    split at h
    · rename_i ty hty
      split at h
      · rename_i hn
        obtain ⟨hn, rfl⟩ := hn
        cases h
        exact W.zret hx hb (hrt.trans hty) hn (hq _ rfl) hf hd hlk
      · cases h
    · cases h
  · split at h
    · rename_i hn
      obtain ⟨hn, rfl⟩ := hn
      cases h
      exact W.lret hx hb (hrt.trans hn) (hq _ rfl) hf hd hlk
    · cases h
  · split at h
    · rename_i hn
      obtain ⟨hn, rfl⟩ := hn
      cases h
      exact W.dret hx hb (hrt.trans hn) (hq _ rfl) hf hd hlk
    · cases h
  · split at h
    · rename_i ty hty
      split at h
      · rename_i hn
        subst hn
        cases h
        exact W.aret hx hb (hrt.trans hty) (Or.inl ⟨_, rfl⟩) (Or.inr ⟨_, rfl⟩) (hq _ rfl) hf hd hlk
      · cases h
    · rename_i ty hty
      split at h
      · rename_i hn
        subst hn
        cases h
        exact W.aret hx hb (hrt.trans hty) (Or.inr ⟨_, rfl⟩) (Or.inr ⟨_, rfl⟩) (hq _ rfl) hf hd hlk
      · cases h
    · cases h
  · split at h
    · rename_i hn
      obtain ⟨hn, rfl⟩ := hn
      cases h
      exact W.vret hx hb (hrt.trans hn) (hq _ rfl) hf hd hlk
    · cases h
  · cases h
end XU
