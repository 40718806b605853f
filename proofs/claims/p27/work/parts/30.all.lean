section XAK
variable {s : State} {b L : Nat} {xs : Nat → Int32}
/-- the classes made here can be made -/
def xIc : List ((Nat × Nat) × Nat) := [((1, 172), 6), ((2, 84), 4), ((1, 138), 6), ((2, 62), 5), ((2, 103), 5), ((2, 128), 4), ((1, 132), 18), ((2, 152), 16), ((1, 42), 5), ((1, 69), 13), ((1, 34), 9), ((6, 159), 4), ((7, 75), 4), ((3, 10), 6), ((3, 10), 6), ((3, 77), 6), ((3, 104), 6)]
def xIch : List xCd → List ((Nat × Nat) × Nat) → Prop
  | [], _ => True
  | q :: qs, z :: zs => xLu z.1 = some (.instantiable q.1 z.2) ∧ xIch qs zs
  | _ :: _, [] => False
set_option maxRecDepth 100000 in
theorem xIch_ok : ∀ {qs : List xCd} {zs : List ((Nat × Nat) × Nat)} {c : Nat} {q : xCd}, xIch qs zs → qs[c]? = some q → ∃ z n, xLu z = some (.instantiable q.1 n)
  | [], _, c, q, _, h => by cases c <;> cases h
  | q0 :: qs, [], c, q, h, _ => by cases h
  | q0 :: qs, z :: zs, 0, q, h, hq => by cases hq; exact ⟨_, _, h.1⟩
  | q0 :: qs, z :: zs, c + 1, q, h, hq => xIch_ok h.2 hq
set_option maxRecDepth 100000 in
theorem x_ic : xIch xCds xIc := by repeat' (first | refine And.intro ?_ ?_ | exact trivial | rfl)
/-- where the things lie -/
def xad (aK : Nat → Nat) (l : List Nat) (N : Nat) (k : Nat) : Nat := if k < 67 then aK k else if k < 81 then l.getD (k - 67) 0 else N + (k - 81)
set_option maxRecDepth 100000 in
theorem xad_k {aK : Nat → Nat} {l : List Nat} {N k : Nat} (h : k < 67) : xad aK l N k = aK k := if_pos h
set_option maxRecDepth 100000 in
theorem xad_b {aK : Nat → Nat} {l : List Nat} {N k : Nat} (h : 67 ≤ k) (h2 : k < 81) : xad aK l N k = l.getD (k - 67) 0 := by
  unfold xad
  rw [if_neg (by omega), if_pos h2]
set_option maxRecDepth 100000 in
theorem xad_n {aK : Nat → Nat} {l : List Nat} {N k : Nat} (h : 81 ≤ k) : xad aK l N k = N + (k - 81) := by
  unfold xad
  rw [if_neg (by omega), if_neg (by omega)]
set_option maxRecDepth 100000 in
theorem va_T.bat {ad : Nat → Nat} {A : Nat → Prop} {k t N : Nat} {ty : FieldType} {f : Nat → Value} {x : vp_A} (h : va_T ty (ad k) N f A s s.heap) (ht : t = 10 ∨ t = 12 ∨ t = 14) (hty : xba t = ty) (hx : x.1 = N) (hf : ∀ j, j < N → f j = (match (xmA ad x).2 with
    | .inl f => .int (f j) | .inr (.inl f) => .long (f j) | .inr (.inr (.inl f)) => .float (f j) | .inr (.inr (.inr (.inl f))) => .double (f j) | .inr (.inr (.inr (.inr f))) => va_rf (f j))) : xBat xClB ad A s k (.inl (t, x)) := by
  obtain ⟨cell, h1, h2, h3, h4, h5, h6, h7⟩ := h
  refine ⟨by omega, ht, cell, h1, by rw [hty]; exact h2, h3, ⟨by rw [hx]; exact h4, by rw [hx]; exact h5⟩, fun j hj => ?_, h7⟩
  rw [hx] at hj
  rw [h6 j hj, hf j hj]
  obtain ⟨n, f | f | f | f | f⟩ := x <;> rfl
set_option maxRecDepth 100000 in
/-- everything known at the start -/
theorem x_start (hCs : xChkCs = true) (hts : ∀ w ∈ xw_tbl, w.before #[Value.ref b] s = true) (hX : va_X b L xs s s.heap) (hbl : b < s.heap.size) (hgv : (Jvm.Cond.and given_1 narrow_1).before #[Value.ref b] s = true) :
    ∃ (D : va_G) (tyc : Nat → ClassId) (ad : Nat → Nat) (A : Nat → Prop) (v : Value), (v = .null ∨ v = .ref 80) ∧ xKn D xCl tyc xClB ad A (xB0 L xs) (xSts v) xSrs xNcs s ∧ xAd ad 81 A ∧ (∀ q, A q → s.heap.size ≤ q) ∧ ad 79 = b ∧ s.heap.size = ad 81 := by
  have hg := xGv_of hgv
  have hTs : ∀ w ∈ xTs, w.before #[Value.ref b] s = true := fun w hw => hts w (List.mem_filter.mp hw).1
  have hA : ∀ a : Nat, a < s.heap.size → ¬ s.heap.size ≤ a := fun a h1 h2 => by omega
  obtain ⟨aK, hK⟩ := x_kinds (A := fun q => s.heap.size ≤ q) hA hg
  obtain ⟨tA, hAe, hAt⟩ := x_all hA hg hK
  obtain ⟨tS, hSe, hSt⟩ := x_sm (A := fun q => s.heap.size ≤ q) hA hg
  obtain ⟨a0, b0, q01, q02, q03, q04, q05⟩ := x_str0 (A := fun q => s.heap.size ≤ q) hA hg
  obtain ⟨a1, b1, q11, q12, q13, q14, q15⟩ := x_str1 (A := fun q => s.heap.size ≤ q) hA hg
  obtain ⟨a2, b2, q21, q22, q23, q24, q25⟩ := x_str2 (A := fun q => s.heap.size ≤ q) hA hg
  obtain ⟨a3, b3, q31, q32, q33, q34, q35⟩ := x_str3 (A := fun q => s.heap.size ≤ q) hA hg
  obtain ⟨t4, hD4e, hD4t⟩ := x_dg4 (A := fun q => s.heap.size ≤ q) hA hg
  obtain ⟨t5, hD5e, hD5t⟩ := x_dg5 (A := fun q => s.heap.size ≤ q) hA hg
  have hAO : va_AO "ReportMill$Kind" s := va_AO.of (hts _ (xLu_mem (z := (1, 75)) rfl))
  obtain ⟨tyc, htyc⟩ := x_types (hts _ (xLu_mem (z := (1, 130)) rfl)) (hts _ (xLu_mem (z := (1, 66)) rfl)) (hts _ (xLu_mem (z := (1, 129)) rfl)) (hts _ (xLu_mem (z := (1, 67)) rfl)) hAO
  obtain ⟨D, hD⟩ := x_classes hTs (fun c q hq => by obtain ⟨z, n, hz⟩ := xIch_ok x_ic hq; exact ⟨n, hts _ (xLu_mem hz)⟩) hCs
  obtain ⟨v0, hv0, hvr⟩ := Cond.isRef_spec (show (Cond.isRef (.static "jdk/internal/util/Preconditions" "SIOOBE_FORMATTER" "Ljava/util/function/BiFunction;")).holds #[Value.ref b] s none s [] = true from hg 1144)
  obtain ⟨v, a74, hv, hva⟩ : ∃ (v : Value) (a74 : Nat), (v = .null ∨ v = .ref 80) ∧ ∀ ad : Nat → Nat, ad 80 = a74 → xm ad v = v0 := by
    cases v0 with
    | null => exact ⟨.null, 0, Or.inl rfl, fun _ _ => rfl⟩
    | ref a => exact ⟨.ref 80, a, Or.inr rfl, fun ad h => by show Value.ref (ad 80) = _; rw [h]⟩
    | _ => cases hvr
  obtain ⟨ad, had⟩ : ∃ ad, ad = xad aK [tA, tS, a0, b0, a1, b1, a2, b2, a3, b3, t4, t5, b, a74] s.heap.size := ⟨_, rfl⟩
  have e67 : ad 67 = tA := by rw [had]; exact xad_b (by omega) (by omega)
  have e68 : ad 68 = tS := by rw [had]; exact xad_b (by omega) (by omega)
  have e69 : ad 69 = a0 := by rw [had]; exact xad_b (by omega) (by omega)
  have e70 : ad 70 = b0 := by rw [had]; exact xad_b (by omega) (by omega)
  have e71 : ad 71 = a1 := by rw [had]; exact xad_b (by omega) (by omega)
  have e72 : ad 72 = b1 := by rw [had]; exact xad_b (by omega) (by omega)
  have e73 : ad 73 = a2 := by rw [had]; exact xad_b (by omega) (by omega)
  have e74 : ad 74 = b2 := by rw [had]; exact xad_b (by omega) (by omega)
  have e75 : ad 75 = a3 := by rw [had]; exact xad_b (by omega) (by omega)
  have e76 : ad 76 = b3 := by rw [had]; exact xad_b (by omega) (by omega)
  have e77 : ad 77 = t4 := by rw [had]; exact xad_b (by omega) (by omega)
  have e78 : ad 78 = t5 := by rw [had]; exact xad_b (by omega) (by omega)
  have e79 : ad 79 = b := by rw [had]; exact xad_b (by omega) (by omega)
  have e80 : ad 80 = a74 := by rw [had]; exact xad_b (by omega) (by omega)
  have eK : ∀ i, i < 67 → ad i = aK i := fun i hi => by rw [had]; exact xad_k hi
  have eN : ∀ i, 81 ≤ i → ad i = s.heap.size + (i - 81) := fun i hi => by rw [had]; exact xad_n hi
  have hKl : ∀ i, i < 67 → aK i < s.heap.size := by
    intro i hi
    obtain ⟨q, nm, -, -, -, -, ⟨cell, h1, -⟩, -⟩ := hK i hi
    exact (Array.getElem?_eq_some_iff.mp h1).1
  refine ⟨D, tyc, ad, fun q => s.heap.size ≤ q, v, hv, ⟨⟨hD, htyc⟩, ?_, hAO, ?_, ?_, ?_, ⟨x_ncs hg, fun w hw => xWch_ok hts x_wch w hw⟩, ?_, ?_⟩, ⟨?_, fun k hk => ⟨by rw [eN k hk, eN (k + 1) (by omega)]; omega, by show s.heap.size ≤ ad k; rw [eN k hk]; omega⟩⟩, fun q h => h, e79, by rw [eN 81 (Nat.le_refl _)]; omega⟩
  · intro k o ho
    by_cases hk : k < 67
    · obtain ⟨q, nm, f1, f2, f3, f4, f5, f6, f7, f8, f9⟩ := hK k hk
      have ho1 : (xB0 L xs)[k]? = some (.inr (100, [.int q.1, .long q.2.1, .int q.2.2.1, .int q.2.2.2])) := by
        unfold xB0
        rw [List.getElem?_append_left (by rw [List.length_map]; exact hk), List.getElem?_map, f1]
        rfl
      cases ho.symm.trans ho1
      refine ⟨Nat.le_refl _, Or.inr ⟨_, _, _, rfl, by rw [eK k hk]; exact f5, fun j w hj => ?_⟩⟩
      rw [eK k hk]
      match j, hj with
      | 0, hj => cases hj; exact f6
      | 1, hj => cases hj; exact f7
      | 2, hj => cases hj; exact f8
      | 3, hj => cases hj; exact f9
      | n + 4, hj => cases hj
    · have hl : k < 81 := (List.getElem?_eq_some_iff.mp ho).1
      obtain rfl | rfl | rfl | rfl | rfl | rfl | rfl | rfl | rfl | rfl | rfl | rfl | rfl | rfl : k = 67 ∨ k = 68 ∨ k = 69 ∨ k = 70 ∨ k = 71 ∨ k = 72 ∨ k = 73 ∨ k = 74 ∨ k = 75 ∨ k = 76 ∨ k = 77 ∨ k = 78 ∨ k = 79 ∨ k = 80 := by omega
      · cases ho
        refine va_T.bat (N := 67) (ty := .object "ReportMill$Kind") (f := fun j => .ref (aK j)) (by rw [e67]; exact hAt) (Or.inr (Or.inr rfl)) rfl rfl fun j hj => ?_
        show Value.ref (aK j) = va_rf ((if j < 67 then some j else none).map ad)
        rw [if_pos hj]
        show Value.ref (aK j) = Value.ref (ad j)
        rw [eK j hj]
      · cases ho
        exact va_T.bat (N := 67) (ty := .int) (f := fun j => .int (xLf xSm j)) (by rw [e68]; exact hSt) (Or.inl rfl) rfl rfl fun j hj => rfl
      · cases ho
        refine ⟨by decide, Or.inr ⟨_, _, _, rfl, by rw [e69]; exact q02, fun j w hj => ?_⟩⟩
        rw [e69]
        match j, hj with
        | 0, hj => cases hj; show va_OF _ _ _ (.ref (ad 70)) _ _ _ _; rw [e70]; exact q04
        | 1, hj => cases hj; exact q03
        | n + 2, hj => cases hj
      · cases ho
        exact va_T.bat (N := 1) (ty := .byte) (f := fun j => .int (xLf xTx0 j)) (by rw [e70]; exact q05) (Or.inr (Or.inl rfl)) rfl rfl fun j hj => rfl
      · cases ho
        refine ⟨by decide, Or.inr ⟨_, _, _, rfl, by rw [e71]; exact q12, fun j w hj => ?_⟩⟩
        rw [e71]
        match j, hj with
        | 0, hj => cases hj; show va_OF _ _ _ (.ref (ad 72)) _ _ _ _; rw [e72]; exact q14
        | 1, hj => cases hj; exact q13
        | n + 2, hj => cases hj
      · cases ho
        exact va_T.bat (N := 1) (ty := .byte) (f := fun j => .int (xLf xTx1 j)) (by rw [e72]; exact q15) (Or.inr (Or.inl rfl)) rfl rfl fun j hj => rfl
      · cases ho
        refine ⟨by decide, Or.inr ⟨_, _, _, rfl, by rw [e73]; exact q22, fun j w hj => ?_⟩⟩
        rw [e73]
        match j, hj with
        | 0, hj => cases hj; show va_OF _ _ _ (.ref (ad 74)) _ _ _ _; rw [e74]; exact q24
        | 1, hj => cases hj; exact q23
        | n + 2, hj => cases hj
      · cases ho
        exact va_T.bat (N := 8) (ty := .byte) (f := fun j => .int (xLf xTx2 j)) (by rw [e74]; exact q25) (Or.inr (Or.inl rfl)) rfl rfl fun j hj => rfl
      · cases ho
        refine ⟨by decide, Or.inr ⟨_, _, _, rfl, by rw [e75]; exact q32, fun j w hj => ?_⟩⟩
        rw [e75]
        match j, hj with
        | 0, hj => cases hj; show va_OF _ _ _ (.ref (ad 76)) _ _ _ _; rw [e76]; exact q34
        | 1, hj => cases hj; exact q33
        | n + 2, hj => cases hj
      · cases ho
        exact va_T.bat (N := 226) (ty := .byte) (f := fun j => .int (xLf xTx3 j)) (by rw [e76]; exact q35) (Or.inr (Or.inl rfl)) rfl rfl fun j hj => rfl
      · cases ho
        exact va_T.bat (N := 100) (ty := .byte) (f := fun j => .int (xLf xTx4 j)) (by rw [e77]; exact hD4t) (Or.inr (Or.inl rfl)) rfl rfl fun j hj => rfl
      · cases ho
        exact va_T.bat (N := 100) (ty := .byte) (f := fun j => .int (xLf xTx5 j)) (by rw [e78]; exact hD5t) (Or.inr (Or.inl rfl)) rfl rfl fun j hj => rfl
      · cases ho
        obtain ⟨scr, g1, g2, g3, g4, g5⟩ := hX
        refine va_T.bat (N := L) (ty := .int) (f := fun j => .int (xs j)) ?_ (Or.inl rfl) rfl rfl fun j hj => rfl
        rw [e79]
        exact ⟨scr, g1, g2, g3, Nat.le_of_eq g4.symm, by rw [g4], g5, hA b hbl⟩
      · cases ho
        exact ⟨by decide, Or.inl ⟨rfl, rfl⟩⟩
  · obtain ⟨comp, cA, kA, d1, -⟩ := Cond.arrayOver_spec hAO
    exact ⟨comp, d1⟩
  · exact x_sts hts hA (x_ev hg hK hAe hSe eK e67 e68 hD4e hD5e e77 e78 (by rw [hva ad e80]; exact hv0))
  · intro z hz
    rcases List.mem_cons.mp hz with rfl | hz
    · show vk_R _ _ _ (ad 69) s
      rw [e69]
      exact vk_R.of (hts _ (xLu_mem (z := (7, 127)) rfl)) q01
    rcases List.mem_cons.mp hz with rfl | hz
    · show vk_R _ _ _ (ad 71) s
      rw [e71]
      exact vk_R.of (hts _ (xLu_mem (z := (7, 128)) rfl)) q11
    rcases List.mem_cons.mp hz with rfl | hz
    · show vk_R _ _ _ (ad 73) s
      rw [e73]
      exact vk_R.of (hts _ (xLu_mem (z := (7, 129)) rfl)) q21
    rcases List.mem_cons.mp hz with rfl | hz
    · show vk_R _ _ _ (ad 75) s
      rw [e75]
      exact vk_R.of (hts _ (xLu_mem (z := (7, 130)) rfl)) q31
    cases hz
  · exact vx_Zqof (hts _ (xLu_mem (z := (3, 36)) rfl)) (hts _ (xLu_mem (z := (1, 19)) rfl)) (show (Cond.isRef (.static Bundle.tN "UNASSIGNED_STACK" Bundle.steD)).before #[Value.ref b] s = true from hg 576) hA
  · exact vx_Zqof (hts _ (xLu_mem (z := (3, 38)) rfl)) (hts _ (xLu_mem (z := (1, 19)) rfl)) (show (Cond.isRef (.static Bundle.tN "SUPPRESSED_SENTINEL" Bundle.listD)).before #[Value.ref b] s = true from hg 1344) hA
  · intro i j hi hj e
    rcases hi with hi | hi <;> rcases hj with hj | hj
    · rw [eK i hi, eK j hj] at e
      have h2 := hK j hj
      rw [← e] at h2
      exact xKf.inj hi hj (hK i hi) h2
    · rw [eK i hi, eN j hj] at e
      have := hKl i hi
      omega
    · rw [eN i hi, eK j hj] at e
      have := hKl j hj
      omega
    · rw [eN i hi, eN j hj] at e
      omega
end XAK
