section XW9
variable {D : va_G} {cl clB : List vw_C} {tyc : Nat → ClassId} {ad : Nat → Nat} {A : Nat → Prop} {bs : List xO} {sts : List (String × String × String × Value)} {srs : List (String × Nat × String × Nat)} {ncs : List (String × String) × List Cond}
variable {P : xPg} {mn : Nat → MethodName} {bc : Nat → ByteArray} {hh : Nat → Option (List (Nat × Nat × Nat × Nat))} {Ts : List Cond} {nM : Nat} {l : Launch}
theorem vx_athrow {p : Program} {e : Env} {R : Room} {s : State} {m : MethodId} {args : Array Value} {below : List Frame} {meth : Method} {c : Code} {H : Heap} {locs : List Loc} {cells slots : Nat} {Q : State → Prop} {ls : Array Slot} {rest : List Value} {cc : ByteArray} {pc : Nat} (hexec : p.tables.exec = Jvm.exec) (hb : c.code = cc) {q : Addr} (hdg : decode cc pc = .ok (.athrow, 1)) (k : vx_W p l e R s m args below meth c H locs cells slots Q (F0 m pc ls rest) q) : W p l e R s m args below meth c H locs cells slots Q (F0 m pc ls (.ref q :: rest)) := by
  intro T hT X
  obtain ⟨t, st, hq⟩ := k T hT X
  refine ⟨t, ?_, hq⟩
  have hdg' : decode c.code pc = .ok (.athrow, 1) := by rw [hb]; exact hdg
  jvm_step X.here [X.here.top, hexec, hdg', athrow.wp_sem]
  exact st
theorem xtake_ok {n : Nat} {st vs rr : List Value} (h : xtake n st = some (vs, rr)) : vs.length = n ∧ st = vs.reverse ++ rr := by
  unfold xtake at h
  split at h
  · rename_i hn
    cases h
    refine ⟨by simp; omega, by simp⟩
  · cases h
theorem xrecv_1 {P : xPg} {y : Nat} {ah : List xO} {vs : List Value} (h : xrecv P 1 y ah vs = true) : xP_st P y = false ∧ xP_ini P y = false ∧ ∃ a As, vs = .ref a :: As ∧ xcls ah a = some (xP_mc P y) := by
  unfold xrecv at h
  simp only [Bool.and_eq_true, Bool.not_eq_true'] at h
  obtain ⟨⟨h1, h2⟩, h3⟩ := h
  split at h3
  · exact ⟨h1, h2, _, _, rfl, of_decide_eq_true h3⟩
  · cases h3
theorem xrecv_2 {P : xPg} {y : Nat} {ah : List xO} {vs : List Value} (h : xrecv P 2 y ah vs = true) : xP_st P y = false ∧ ∃ a As, vs = .ref a :: As ∧ (xP_ini P y = true ∨ xcls ah a = some (xP_mc P y)) := by
  unfold xrecv at h
  simp only [Bool.and_eq_true, Bool.not_eq_true'] at h
  obtain ⟨h1, h3⟩ := h
  split at h3
  · rw [Bool.or_eq_true] at h3
    exact ⟨h1, _, _, rfl, h3.imp_right fun z => of_decide_eq_true z⟩
  · cases h3
theorem xJ_rev (vs rr : List Value) (ad : Nat → Nat) : xJ (vs.reverse ++ rr) ad = (xJ vs ad).reverse ++ xJ rr ad := by
  simp [xJ]
theorem xframe_succ (hG : xGood D cl tyc clB ad A bs sts srs ncs P mn bc hh Ts nM) (hTg : ∀ w ∈ Ts, goodWord w = true) (hl0 : l.stackTraces = false) (had : xAd ad bs.length A) (hkd : ∀ q : vw_C, clB[xP_kd P - 100]? = some q → q.1 = "ReportMill$Kind") (hk100 : 100 ≤ xP_kd P ∧ xP_kd P ≠ 199)
    (haw : ∀ ty, ty = FieldType.int ∨ ty = .long ∨ ty = .byte ∨ ty = .boolean → Cond.arrayClass ty ∈ Ts) {f : Nat} (hF : xFrm D cl tyc clB ad A bs sts srs ncs P mn bc hh Ts nM l f) : xFrm D cl tyc clB ad A bs sts srs ncs P mn bc hh Ts nM l (f + 1) := by
  intro d k pc L st ah r ah' h hk p e R s m args below meth c H locs cells slots c0 z0 mc ms ls hx hts hKn hown hb hml hlk hrt hname htb hRf hRl hmc hms hL hlen hI hc0 hz0 h1 h2
  have hM := hG k hk s args hts hKn
  have hd1 := hM.1
  obtain ⟨i, n, hc, hcase⟩ := xrun_inv h
  have hd := hd1 _ _ _ hc
  have hsz : ls.size = c.maxLocals := hL.1.trans hml.symm
  rcases hcase with hcase | hcase | hcase | hcase | hcase | hcase | hcase | hcase | hcase | hcase
  · obtain ⟨kd, j, y, na, d', vs, rr, o, ah1, hi, rfl, hca, rfl, htk, hrv, hrr, hmy, hlay, hr1, hgo⟩ := hcase
    obtain ⟨hj7, hca2⟩ := xcaj_ok hca
    have hqs : ∃ j9, xP_ca P (xP_pool P k) j9 = some (y, na) := by
      rcases hca2 with ⟨z, -⟩ | ⟨-, z, -⟩
      · exact ⟨_, z⟩
      · exact ⟨_, z⟩
    obtain ⟨j9, hca9⟩ := hqs
    obtain ⟨q1, q2, q3, q4, q5, q6, -, -⟩ := hM.2.2.2.2.2.2.2.2.2.1 _ _ _ hca9
    have q78 : xP_ca P (xP_pool P k) j = some (y, na) → _ := fun z => (hM.2.2.2.2.2.2.2.2.2.1 _ _ _ z).2.2.2.2.2.2.1 hj7
    have q9 : xP_ca P (xP_pool P k) (j + 70000) = some (y, na) → _ := fun z => (hM.2.2.2.2.2.2.2.2.2.1 _ _ _ z).2.2.2.2.2.2.2 j rfl
    have hmono := xrun_mono hr1
    have hmono2 : xle ah1 ah' := by
      rcases hgo with ⟨v, -, g⟩ | ⟨a, -, c1, -, ⟨h0, -, g⟩ | ⟨-, -, rfl⟩⟩
      · exact xrun_mono g
      · exact xrun_mono g
      · exact xle.rf _
    obtain ⟨t1, t2⟩ := xtake_ok htk
    obtain ⟨n1, n2⟩ := hmono
    obtain ⟨n3, n4⟩ := hmono2
    have hmet := xmet (l := l) hF hr1 q1 q2 hlay (mc := ah1.length - ah.length) (ms := xsum ah1 - xsum ah) (by omega) (by omega)
    have hws : ∀ w ∈ xcw P mn bc hh y :: Ts, ∀ (a' : Array Value) (U : State), s.WarmedH U.vm → w.before a' U = true := by
      intro w hw
      rcases List.mem_cons.mp hw with rfl | hw
      · exact xgw hTg hts _ q6
      · exact xgw hTg hts _ hw
    have hini : ∀ (a' : Array Value) (U : State), s.WarmedH U.vm → (Cond.initialized (mn y).cls).before a' U = true := fun a' U hW => word_at hW (Or.inl (by first | rfl | simp [Cond.onTables, Cond.keeps, Cond.steady])) q5
    have hcode := hts _ q6
    have hfr : (xrm d' (ah1.length - ah.length) (xsum ah1 - xsum ah)).frames + 1 ≤ R.frames := by show 10 + d' + 1 ≤ _; omega
    have hlo : 24 + (xP_ml P y + 11) + (xrm d' (ah1.length - ah.length) (xsum ah1 - xsum ah)).locals ≤ R.locals := by show 24 + (xP_ml P y + 11) + (150 + 60 * d') ≤ _; omega
    have hW9 : 2 * (F0 m pc ls (xJ st ad)).monitorRoom + ((xJ rr ad).map fun v => v.category).sum ≤ 24 := by
      have := xcatsum ad rr
      show 2 * 0 + _ ≤ _
      omega
    have hpre : ∀ (T : State), T.heap = H → ∀ vm₁, s.WarmedH vm₁ → PreOf R (ah1.length - ah.length) (xsum ah1 - xsum ah) (xPc D cl tyc clB ad A bs sts srs ncs vs ah) ⟨T.setVm vm₁, locs, cells, slots⟩ (xJ vs ad).toArray := by
      intro T hT vm₁ hW₁
      refine ⟨by show cells + _ ≤ _; omega, by show slots + _ ≤ _; omega, rfl, ?_, ?_, hI.2.2.1, ?_⟩
      · show xH D cl tyc ad bs ah T.heap; rw [hT]; exact hI.1
      · show T.heap.size = _; rw [hT]; exact hI.2.1
      · exact hKn.moved (U := T.setVm vm₁) hW₁ (fun q g1 g2 => by show T.heap[q]? = _; rw [hT]; exact hI.2.2.2.2.1 q g1 g2)
    have hK : xv_Back l R p e below s args (mn y) 3 24 (PreOf R (ah1.length - ah.length) (xsum ah1 - xsum ah) (xPc D cl tyc clB ad A bs sts srs ncs vs ah)) (PostOf (xQc D cl tyc ad A bs o ah1) (ah1.length - ah.length) (xsum ah1 - xsum ah) A) (xv_Post (xXc D cl tyc ad A bs o ah1) (ah1.length - ah.length) (xsum ah1 - xsum ah) A) := by
      cases hhy : hh y with
      | none =>
        have e1 : xcw P mn bc hh y = Cond.code (mn y) (bc y) (xP_ml P y) (xP_rt P y) := by unfold xcw; rw [hhy]
        exact xv_back hmet xPc_blind rfl rfl hfr hlo hws (by rw [e1]; exact List.mem_cons_self) hini
      | some t =>
        have e1 : xcw P mn bc hh y = Cond.codeWith (mn y) (bc y) (xP_ml P y) (xP_rt P y) t := by unfold xcw; rw [hhy]
        exact xv_backW (hh := t) hmet xPc_blind rfl rfl hfr hlo hws (by rw [e1]; exact List.mem_cons_self) hini
    intro T hT X
    refine s_back (y := y) (rr := rr) (o := o) (ah1 := ah1) (va := (xJ vs ad).toArray) (my := ah1.length - ah.length) (sy := xsum ah1 - xsum ah) (T := T) hF hk hx hts hKn hown hb hml hlk hrt hname htb hM hRf hRl hmc hms hL hlen hI hc0 hz0 h1 h2 (g := F0 m pc ls (xJ st ad)) hT (by omega) (by omega) hgo ?_
    have hstk : xJ st ad = (xJ vs ad).reverse ++ xJ rr ad := by rw [t2, xJ_rev]
    unfold xinv at hi
    split at hi
    · cases hi
      have hst : xP_st P y = true := hrv
      have hca3 : xP_ca P (xP_pool P k) j = some (y, na) := by
        rcases hca2 with ⟨z, -⟩ | ⟨z, -⟩
        · exact z
        · cases z
      obtain ⟨w1, w2⟩ := (q78 hca3).1 hst
      rw [if_pos rfl] at t1
      have hln : ∀ sig, parseMethodDescriptor (mn y).desc = some sig → (xJ vs ad).length = sig.parameters.length := fun sig hs => by rw [xJ, List.length_map, t1]; exact q4 sig hs
      cases hhy : hh y with
      | none =>
        have e1 : xcw P mn bc hh y = Cond.code (mn y) (bc y) (xP_ml P y) (xP_rt P y) := by unfold xcw; rw [hhy]
        rw [e1] at hcode
        exact xv_callS X hx hown w1 w2 q5 hcode q3 hK (g := F0 m pc ls (xJ st ad)) rfl hsz (argsL := xJ vs ad) (rest := xJ rr ad) hln hstk hW9 (by rw [hb]; exact hd) (hpre T hT)
      | some t =>
        have e1 : xcw P mn bc hh y = Cond.codeWith (mn y) (bc y) (xP_ml P y) (xP_rt P y) t := by unfold xcw; rw [hhy]
        rw [e1] at hcode
        exact xv_callSX X hx hown w1 w2 q5 hcode q3 hK (g := F0 m pc ls (xJ st ad)) rfl hsz (argsL := xJ vs ad) (rest := xJ rr ad) hln hstk hW9 (by rw [hb]; exact hd) (hpre T hT)
    · cases hi
      obtain ⟨hst, hnini, a, As, rfl, hv⟩ := xrecv_1 hrv
      ·
        rw [if_neg (by decide)] at t1
        have hca3 : xP_ca P (xP_pool P k) j = some (y, na) := by
          rcases hca2 with ⟨z, -⟩ | ⟨z, -⟩
          · exact z
          · cases z
        obtain ⟨w1, w2, -⟩ := (q78 hca3).2 hst
        obtain ⟨C, w3, w4⟩ := w2 hnini
        obtain ⟨q, cell, z1, z2, z3, z4, -⟩ := xcls_at hKn.1 hKn.2.1 hI hv
        have hC := w3 q z1
        rw [hC] at z4
        have hln : ∀ sig, parseMethodDescriptor (mn y).desc = some sig → (xJ As ad).length = sig.parameters.length := fun sig hs => by
          rw [xJ, List.length_map, ← q4 sig hs]
          simp only [List.length_cons] at t1
          omega
        have hstk2 : xJ st ad = (xJ As ad).reverse ++ .ref (ad a) :: xJ rr ad := by
          rw [hstk]
          simp [xJ, xm]
        rcases w4 with ⟨w4, w5⟩ | ⟨hhy, x, owner, w4, w5, w6, w7, w8, w9⟩
        · cases hhy : hh y with
          | none =>
            have e1 : xcw P mn bc hh y = Cond.code (mn y) (bc y) (xP_ml P y) (xP_rt P y) := by unfold xcw; rw [hhy]
            rw [e1] at hcode
            exact xv_callV X hx hown w4 w1 w5 hcode q3 hK (by rw [hT]; exact z2) z3 z4 (g := F0 m pc ls (xJ st ad)) rfl hsz (argsL := xJ As ad) (rest := xJ rr ad) hln hstk2 hW9 (by rw [hb]; exact hd) (hpre T hT)
          | some t =>
            have e1 : xcw P mn bc hh y = Cond.codeWith (mn y) (bc y) (xP_ml P y) (xP_rt P y) t := by unfold xcw; rw [hhy]
            rw [e1] at hcode
            exact xv_callVX X hx hown w4 w1 w5 hcode q3 hK (by rw [hT]; exact z2) z3 z4 (g := F0 m pc ls (xJ st ad)) rfl hsz (argsL := xJ As ad) (rest := xJ rr ad) hln hstk2 hW9 (by rw [hb]; exact hd) (hpre T hT)
        · have e1 : xcw P mn bc hh y = Cond.code (mn y) (bc y) (xP_ml P y) (xP_rt P y) := by unfold xcw; rw [hhy]
          rw [e1] at hcode
          exact xv_callVU X hx hown w4 w5 w6 w7 w8 w1 hcode hK (by rw [hT]; exact z2) z3 z4 (g := F0 m pc ls (xJ st ad)) rfl hsz (argsL := xJ As ad) (rest := xJ rr ad) (by rw [w9]; exact hln) hstk2 hW9 (by rw [hb]; exact hd) (hpre T hT)
    · cases hi
      obtain ⟨hst, a, As, rfl, hin2⟩ := xrecv_2 hrv
      rcases hca2 with ⟨hca3, hiniy⟩ | ⟨-, hca3, hiniy⟩
      · have hiniy := hiniy rfl
        rw [if_neg (by decide)] at t1
        obtain ⟨w1, -, w2⟩ := (q78 hca3).2 hst
        obtain ⟨w3, w4, w5, w6⟩ := w2 hiniy
        have e1 : xcw P mn bc hh y = Cond.code (mn y) (bc y) (xP_ml P y) (xP_rt P y) := by unfold xcw; rw [w4]
        rw [e1, w5] at hcode
        have hln : ∀ sig, parseMethodDescriptor (mn y).desc = some sig → (xJ As ad).length = sig.parameters.length := fun sig hs => by
          rw [xJ, List.length_map, ← q4 sig hs]
          simp only [List.length_cons] at t1
          omega
        have hstk2 : xJ st ad = (xJ As ad).reverse ++ .ref (ad a) :: xJ rr ad := by
          rw [hstk]
          simp [xJ, xm]
        rcases w6 with w6 | ⟨host, w6⟩
        · exact xv_callI X hx hown w3 w6 w1 hcode q3 hK (g := F0 m pc ls (xJ st ad)) rfl hsz (argsL := xJ As ad) (rest := xJ rr ad) hln hstk2 hW9 (by rw [hb]; exact hd) (hpre T hT)
        · exact xv_callIN X hx hown w3 w6 w1 hcode q3 hK (g := F0 m pc ls (xJ st ad)) rfl hsz (argsL := xJ As ad) (rest := xJ rr ad) hln hstk2 hW9 (by rw [hb]; exact hd) (hpre T hT)
      · rw [if_neg (by decide)] at t1
        obtain ⟨-, w0, w1, w2, w3, w4, w5⟩ := q9 hca3 hiniy
        have hv : xcls ah a = some (xP_mc P y) := hin2.resolve_left (by rw [hiniy]; decide)
        obtain ⟨q, cell, z1, z2, z3, z4, -⟩ := xcls_at hKn.1 hKn.2.1 hI hv
        obtain ⟨kB, hkB, -⟩ := Vm.findClass_spec z4
        have e1 : xcw P mn bc hh y = Cond.code (mn y) (bc y) (xP_ml P y) (xP_rt P y) := by unfold xcw; rw [w0]
        rw [e1] at hcode
        have hln : ∀ sig, parseMethodDescriptor (mn y).desc = some sig → (xJ As ad).length = sig.parameters.length := fun sig hs => by
          rw [xJ, List.length_map, ← q4 sig hs]
          simp only [List.length_cons] at t1
          omega
        have hstk2 : xJ st ad = (xJ As ad).reverse ++ .ref (ad a) :: xJ rr ad := by
          rw [hstk]
          simp [xJ, xm]
        exact xv_callSU X hx hown w1 w2 w3 w4 hcode w5 hK (by rw [hT]; exact z2) z3 hkB (g := F0 m pc ls (xJ st ad)) rfl hsz (argsL := xJ As ad) (rest := xJ rr ad) hln hstk2 hW9 (by rw [hb]; exact hd) (hpre T hT)
    · cases hi
  · obtain ⟨j, st1, rfl, rfl, ho, h3⟩ := hcase
    exact s_oinit hx hb hown hsz hM.2.2.2.2.2.2.2.1.1 (by omega) (by omega) hd ho (hF h3 hk hx hts hKn hown hb hml hlk hrt hname htb hRf hRl hmc hms hL hlen hI hc0 hz0 h1 h2)
  · obtain ⟨j, st1, rfl, rfl, ho, h3⟩ := hcase
    have hMa := hM.2.2.2.2.2.2.2.1.2.1 j
    have hmono := xrun_mono h3
    obtain ⟨n3, n4⟩ := hmono
    have K := hF h3 hk (R := R) (below := below) (e := e) (m := m) hx hts hKn hown hb hml hlk hrt hname htb hRf hRl hmc hms hL hlen hI hc0 hz0 h1 h2
    have hcat := fun (rr : List Value) => xcatsum ad rr
    unfold x_math at ho
    split at ho
    · rename_i y x rr hj
      split at ho
      · cases ho
        obtain ⟨g1, g2, g3, g4⟩ := (hMa _ hj).1 (by decide)
        have := hcat rr
        rw [xJ] at this
        exact va_mmax hx hb hsz.symm hown g1 g2 g3 g4 (by omega) (by show (_ : Nat) ≤ _; omega) (by omega) (by omega) hd K
      · cases ho
    · rename_i y x rr hj
      split at ho
      · cases ho
        obtain ⟨g1, g2, g3, g4⟩ := (hMa _ hj).1 (by decide)
        have := hcat rr
        rw [xJ] at this
        exact va_mmin hx hb hsz.symm hown g1 g2 g3 g4 (by omega) (by show (_ : Nat) ≤ _; omega) (by omega) (by omega) hd K
      · cases ho
    · rename_i y x rr hj
      split at ho
      · cases ho
        obtain ⟨g1, g2, g3, g4⟩ := (hMa _ hj).1 (by decide)
        have := hcat rr
        rw [xJ] at this
        exact va_mmax_long hx hb hsz.symm hown g1 g2 g3 g4 (by omega) (by show (_ : Nat) ≤ _; omega) (by omega) (by omega) hd K
      · cases ho
    · rename_i y x rr hj
      split at ho
      · cases ho
        obtain ⟨g1, g2, g3, g4⟩ := (hMa _ hj).1 (by decide)
        have := hcat rr
        rw [xJ] at this
        exact va_mmin_long hx hb hsz.symm hown g1 g2 g3 g4 (by omega) (by show (_ : Nat) ≤ _; omega) (by omega) (by omega) hd K
      · cases ho
    · rename_i x rr hj
      split at ho
      · cases ho
        obtain ⟨g1, g2, g3, g4⟩ := (hMa _ hj).1 (by decide)
        have := hcat rr
        rw [xJ] at this
        exact va_mabs_long hx hb hsz.symm hown g1 g2 g3 g4 (by omega) (by show (_ : Nat) ≤ _; omega) (by omega) (by omega) hd K
      · cases ho
    · cases ho
  · exact s_mk hF hG hl0 had hTg hk hx hts hKn hown hb hml hlk hrt hname htb hM hRf hRl hmc hms hL hlen hI hc0 hz0 h1 h2 hc hcase
  · obtain ⟨v, hv, rfl, rfl⟩ := hcase
    exact s_ret hx hb hlk hrt hI (by omega) (by omega) hd hv rfl
  · obtain ⟨rfl, rfl, a, rest, rfl, h3⟩ := hcase
    exact vx_athrow hx hb hd (s_hand hF hk hx hts hKn hown hb hml hlk hrt hname htb hM hRf hRl hmc hms hL hlen hI hc0 hz0 h1 h2 h3)
  · obtain ⟨j, ce, rfl, hte, rfl, hst, rfl, rfl⟩ := hcase
    obtain ⟨cls, T0, names, ic, g1, g2, g3, g4, g5, g6, g7, g8, g9, g10, g11, g12, g13⟩ := hM.2.2.2.2.2.2.2.2.2.2.2 _ _ _ hte hc
    have hl1 : ([Sum.inr (ce, List.replicate 6 Value.null)] : List xO).length = 1 := rfl
    have hs6 : xsz (.inr (ce, List.replicate 6 .null)) = 6 := rfl
    rw [List.length_append, hl1] at h1
    rw [xsum_push, hs6] at h2
    have hcat := xcatsum ad st
    refine xv_throw0 hx hb hl0 hown g4 g5 g6 g7 g8 g9 hKn.2.2.2.2.2.2.2.1 hKn.2.2.2.2.2.2.2.2 hI.2.2.2 hsz hd g10 g11 g12 (by rw [htb]; exact g13) (by omega) (by omega) (by omega) (by omega) hlk ?_ hI.2.2.2.2.2 (by omega) (by omega)
    intro t hvm hz1 hz2 hq ⟨ce9, w1, w2, w3⟩
    refine ⟨ah.length, rfl, hI.2.1, ?_⟩
    have hz3 : t.heap.size = H.size + 1 := by
      have := (Array.getElem?_eq_some_iff.mp w1).1
      omega
    have hcls : ce9.cls = D.1 ce := Option.some.inj (w3.symm.trans ((hKn.1.1 ce _ g1).2.1))
    have hpush := hI.push (H1 := t.heap) had (o := .inr (ce, List.replicate 6 .null)) g2 (by
      refine ⟨_, g1, ce9, ?_, hcls, w2, fun k hk => absurd hk (Nat.not_lt_zero k)⟩
      show t.heap[ad ah.length]? = _
      rw [← hI.2.1]; exact w1) hz3 hq
    exact ⟨hpush.1, hpush.2.1, hpush.2.2.2.F rfl⟩
  · obtain ⟨pc', L', st', ah1, hs, h3⟩ := hcase
    have hmono := xrun_mono h3
    obtain ⟨n3, n4⟩ := hmono
    exact s_step hx hb hts hKn hown hname had hM hkd hk100 haw hL hlen hI hc0 hz0 hc hs ⟨by omega, by omega⟩ fun H1 locs1 cells1 slots1 ls1 j1 j2 j3 j4 j5 => hF h3 hk hx hts hKn hown hb hml hlk hrt hname htb hRf hRl hmc hms j4 j5 j1 j2 j3 h1 h2
  · obtain ⟨j, st1, ah1, rfl, rfl, ho, h3⟩ := hcase
    have hma : xP_ma P (xP_pool P k) j = some 5 := by
      unfold x_acp at ho
      split at ho
      · assumption
      · cases ho
    obtain ⟨g1, g2, g3, g4⟩ := (hM.2.2.2.2.2.2.2.1.2.1 j _ hma).2.1 rfl
    exact s_acp hx hb hsz hown g1 g2 g3 g4 hKn.1 hKn.2.1 had hI (by omega) (by omega) hd ho fun H1 locs1 j1 j2 j3 => hF h3 hk hx hts hKn hown hb hml hlk hrt hname htb hRf hRl hmc hms hL hlen j1 (by rw [j2]; exact hc0) (by rw [j3]; exact hz0) h1 h2
  · obtain ⟨j, st1, ah1, rfl, rfl, ho, h3⟩ := hcase
    have hma : xP_ma P (xP_pool P k) j = some 6 := by
      unfold x_cln at ho
      split at ho
      · assumption
      · cases ho
    obtain ⟨g1, g2, g3, g4, g5, g6⟩ := (hM.2.2.2.2.2.2.2.1.2.1 j _ hma).2.2.1 rfl
    have hmono := xrun_mono h3
    obtain ⟨n3, n4⟩ := hmono
    exact s_cln hx hb hsz hown g1 g2 g3 g4 g5 g6 hKn.1 had hKn.2.1 hI (by omega) (by omega) (fun j2 h9 => (hM.2.2.2.2.2.2.2.1.2.1 j2 _ h9).2.2.2 rfl) (fun i n h9 => hd1 _ _ _ h9) hd ho hc0 hz0 ⟨by omega, by omega⟩ fun H1 cells1 slots1 j1 j2 j3 => hF h3 hk hx hts hKn hown hb hml hlk hrt hname htb hRf hRl hmc hms hL hlen j1 j2 j3 h1 h2
theorem xframe_0 : xFrm D cl tyc clB ad A bs sts srs ncs P mn bc hh Ts nM l 0 := by
  intro d k pc L st ah r ah' h
  unfold xrun at h
  cases h
theorem xframe (hG : xGood D cl tyc clB ad A bs sts srs ncs P mn bc hh Ts nM) (hTg : ∀ w ∈ Ts, goodWord w = true) (hl0 : l.stackTraces = false) (had : xAd ad bs.length A) (hkd : ∀ q : vw_C, clB[xP_kd P - 100]? = some q → q.1 = "ReportMill$Kind") (hk100 : 100 ≤ xP_kd P ∧ xP_kd P ≠ 199)
    (haw : ∀ ty, ty = FieldType.int ∨ ty = .long ∨ ty = .byte ∨ ty = .boolean → Cond.arrayClass ty ∈ Ts) : ∀ f, xFrm D cl tyc clB ad A bs sts srs ncs P mn bc hh Ts nM l f
  | 0 => xframe_0
  | f + 1 => xframe_succ hG hTg hl0 had hkd hk100 haw (xframe hG hTg hl0 had hkd hk100 haw f)
end XW9
