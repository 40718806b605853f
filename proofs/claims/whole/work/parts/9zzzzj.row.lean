/-! RUN: a band of the body; groups break; totals begin anew; on both sides -/
section YUK
section YUKL
variable {q : yQ} {d d' : Nat} {js ks : List xO} {S0 : yS} {t : Nat} {V : yPV} {a : Int} {n : Nat} {B C S T S' T' : yS} {e e' : yEnv}
/-- a band of the body -/
theorem ybody (hx : yCx S0 t V a n B C) (h : yRl V n B C e S T) {j : Nat} (hj : j < 11) (h12 : j ≠ 1 ∧ j ≠ 2) : yGo q ks V n B C (fun _ => True) (Y q (d + 17) 121 0 [vr 125, vi (cFb V j : Nat), vi (cEb V j : Nat), vi 0, vu, vu, vu, vu, vu, vu, vu] [] S js) (Y q (d' + 9) 290 0 [vr 129, vi (rbn j : Nat), vu, vu, vu] [] T ks) (fun S' c => c = yretv q S' js) (fun T' r => r = yretv q T' ks) (fun S' c => c = yretv q S' js) := by
  have hP := iPq_rw hx.1.2.2 h.1.1.1.2
  have hb := hP.2.2.2.1.1.2.2.2.2.2.2 j hj
  have hg := yCx_g hx
  have em : yr (-1) = -1 := rfl
  have hrb : rbn j < 11 := by
    unfold rbn
    split
    · omega
    · split <;> omega
  have er : yr (rbn j : Int) = rbn j := yr_eq (by omega) (by omega)
  have kr : 0 ≤ (rbn j : Int) ∧ (rbn j : Int) < 11 := by omega
  unfold cFb cEb
  cases hz : zB V j with
  | none =>
    rw [hz] at hb
    have hb : gA T 51 (rbn j) = -1 := hb
    refine Or.inl ⟨e, S, T, h, trivial, ?_, ?_⟩
    · show Y q (d + 17) 121 0 [vr 125, vi ((0 : Nat) : Int), vi ((0 : Nat) : Int), vi 0, vu, vu, vu, vu, vu, vu, vu] [] S js = yretv q S js
      rw [w121_0, k121_to]
    · show _ = _
      rw [w290_0, er, if_pos kr, Int.toNat_natCast, hb, w290_7, if_pos rfl]
  | some y =>
    obtain ⟨i, b0⟩ := y
    rw [hz] at hb
    have hb : gA T 51 (rbn j) = (b0 : Int) := hb
    obtain ⟨x, z, b, k1, k2, k3, k4, k5, k6⟩ := hg.2.2.2.2.2 j i b0 hz
    have il := (cit (iPq_cw hx.1.2.1 h.1.1.1.1) k1).1.2.1
    have bd : decide (j ≠ 1 ∧ j ≠ 2) = true := decide_eq_true h12
    rw [bd] at k4
    have ge : (zI V).getD i dIe = x := getD_of k1
    show yGo q ks V n B C _ (Y q (d + 17) 121 0 [vr 125, vi ((i + 1 : Nat) : Int), vi (((zI V).getD i dIe).2.2.2 : Nat), vi 0, vu, vu, vu, vu, vu, vu, vu] [] S js) _ _ _ _
    rw [ge, w290_0, er, if_pos kr, Int.toNat_natCast, hb]
    have D := ydos (q := q) (d' := d') (js := js) (ks := ks) hx 12 d 0 (by omega)
    have D := D (i + 1) x.2.2.2 b0 b k4 (by omega) e S T (rbn j : Nat) vu vu h
    have D : yGo q ks V n B C (fun _ => True) (Y q (d + 17) 121 0 [vr 125, vi ((i + 1 : Nat) : Int), vi (x.2.2.2 : Nat), vi 0, vu, vu, vu, vu, vu, vu, vu] [] S js) (Y q (d' + 9) 290 7 [vr 129, vi (rbn j : Nat), vi b0, vu, vu] [] T ks) (fun S' c => c = yretv q S' js) (fun T' r => ∃ w2' w3', r = Y q (d' + 9) 290 7 [vr 129, vi (rbn j : Nat), vi b, w2', w3'] [] T' ks) (fun S' c => c = yretv q S' js) := D
    rcases D with ⟨e1, S1, T1, r1, _, c1, w2', w3', f1⟩ | ⟨x', o, S1, T1, hxo, r1, c1, f1⟩
    · refine Or.inl ⟨e1, S1, T1, r1, trivial, c1, ?_⟩
      show _ = _
      obtain ⟨u1, u2, _⟩ := rit (iPq_rw hx.1.2.2 r1.1.1.1.2) hx.1.1 k5
      have eb : yr (b : Int) = b := yr_eq (by omega) (by omega)
      have kb : 0 ≤ (b : Int) ∧ (b : Int) < 4000 := by omega
      rw [f1, w290_7, eb, em, if_neg (show ¬ (b : Int) = -1 by omega), if_pos kb, Int.toNat_natCast, u2, k6, if_pos (show yr ((11 : Nat) : Int) = yr 11 from rfl)]
    · exact Or.inr ⟨x', o, S1, T1, hxo, r1, c1, f1⟩
/-- which group breaks -/
def yfb (B : yS) (V : yPV) (p : Nat) : Option Nat := if p = 0 then some 0 else ybr (ycc B (gA B 34 (p - 1)).toNat (gA B 34 p).toNat) (fun g => (zG V).getD g 0) (zG V).length 0
theorem ybr_lt {f : Nat → Int} {l : Nat → Nat} : ∀ (m i o : Nat), ybr f l m i = some o → i ≤ o ∧ o < i + m
  | 0, i, o, h => nomatch h
  | m + 1, i, o, h => by
    unfold ybr at h
    by_cases z : f (l i) = 0
    · rw [if_pos z] at h
      have := ybr_lt m (i + 1) o h
      omega
    · rw [if_neg z] at h
      have := Option.some.inj h
      omega
theorem ycc_e {A A' : yS} {x y k : Nat} (h10 : gI A' 10 = gI A 10) (h20 : gA A' 20 = gA A 20) (h7 : gB A' 7 = gB A 7) : ycc A' x y k = ycc A x y k := by
  unfold ycc ycel
  rw [h10, h20, h7]
theorem yfe {f f' : Nat → Int} {l : Nat → Nat} (h : f' = f) (m i : Nat) : ybr f' l m i = ybr f l m i := by rw [h]
/-- groups break -/
theorem ybrk (hx : yCx S0 t V a n B C) (h : yRl V n B C e S T) {p : Nat} (hp : p < n) : ∃ (o f : Nat) (S' T' : yS), yRl V n B C e S' T' ∧ (o ≤ (zG V).length ∧ (f = o ∧ o < (zG V).length ∨ o = (zG V).length ∧ (zG V).length ≤ f ∧ f ≤ 3)) ∧ Y q (d + 2) 125 0 [vr 125, vi p, vu, vu] [] S js = yret q (vi o) S' js ∧ Y q (d' + 2) 297 0 [vr 129, vi p, vu, vu] [] T ks = Y q (d' + 2) 297 39 [vr 129, vi p, vi f, vi (((zG V).length : Int) - 1)] [] T' ks := by
  obtain ⟨c1, c2, c3⟩ := yCx_c hx
  have hg := yCx_g hx
  obtain ⟨_, ⟨hTB, hTC, i10, i11, a20, b7, hn⟩, _, _, hord⟩ := id hx
  have o1 := h.1.1.1.1
  have o2 := h.1.1.1.2
  obtain ⟨t1, t2, t3, t4, t5, t6, t7, t8, t9⟩ := id hTB
  have n40 := nrow_le (c := gI B 10) (n := gI B 11) ⟨t2, t3⟩ ⟨t5, t6⟩
  have hP := iPq_cw hx.1.2.1 o1
  have hQ := iPq_rw hx.1.2.2 o2
  have hG := hP.2.2.1.2.1.2.2.1
  have hG2 := hQ.2.2.2.1.1.2.2.1
  have l3 := hg.2.2.1.1
  have hc : ∀ x, x ∈ zG V → (x : Int) < gI B 10 := fun x hx' => by
    have := hg.2.2.1.2 x hx'
    omega
  have s10 : gI S 10 = gI B 10 := o1.1 10 rfl
  have t10 : gI T 10 = gI B 10 := (o2.1 10 rfl).trans i10
  have t11 : gI T 11 = gI B 11 := (o2.1 11 rfl).trans i11
  have hTT : iTb T := by
    unfold iTb at hTC ⊢
    rw [o2.1 41 rfl, o2.1 10 rfl, o2.1 42 rfl, o2.1 11 rfl, o2.2.2.2.2.1 11 rfl, o2.2.2.2.2.1 6 rfl, o2.2.2.2.1 38 rfl, o2.2.2.2.1 20 rfl, o2.2.2.2.2.1 12 rfl, o2.2.2.2.2.1 7 rfl]
    exact hTC
  have ord : ∀ i, i ≤ p → gA B 34 i = ((gA B 34 i).toNat : Int) ∧ (gA B 34 i).toNat < 40 ∧ ((gA B 34 i).toNat : Int) < n := fun i hi => by
    obtain ⟨p1, p2, p3⟩ := hord i (by omega)
    omega
  have k1 := c125 (q := q) (d := d) (js := js) (S := S) (Gs := zG V) (p := p) (o := fun i => (gA B 34 i).toNat) hG l3 (fun x hx' => by rw [s10]; exact hc x hx') (by rw [s10]; omega) (by omega) (fun i hi => by
    rw [o1.2.2.2.1 34 rfl]
    exact ⟨(ord i hi).1, (ord i hi).2.1⟩)
  have k2 := r298 (q := q) (d := d') (js := ks) (S := T) (Gs := zG V) (p := p) (o := fun i => (gA B 34 i).toNat) hG2 hTT l3 (fun x hx' => by rw [t10]; exact hc x hx') (by omega) (fun i hi => by
    rw [o2.2.2.2.1 61 rfl, t10, t11, hn]
    obtain ⟨p1, p2, p3⟩ := hord i (by omega)
    rw [p1]
    exact ⟨(ord i hi).1, (ord i hi).2.2⟩)
  have eS : (fun k => ycc S (gA B 34 (p - 1)).toNat (gA B 34 p).toNat k) = ycc B (gA B 34 (p - 1)).toNat (gA B 34 p).toNat := by
    funext k
    exact ycc_e s10 (o1.2.2.2.1 20 rfl) (o1.2.2.2.2.1 7 rfl)
  have eT : (fun k => ycc T (gA B 34 (p - 1)).toNat (gA B 34 p).toNat k) = ycc B (gA B 34 (p - 1)).toNat (gA B 34 p).toNat := by
    funext k
    exact ycc_e t10 ((o2.2.2.2.1 20 rfl).trans a20) ((o2.2.2.2.2.1 7 rfl).trans b7)
  have eS : ycc S (gA B 34 (p - 1)).toNat (gA B 34 p).toNat = ycc B (gA B 34 (p - 1)).toNat (gA B 34 p).toNat := eS
  have eT : ycc T (gA B 34 (p - 1)).toNat (gA B 34 p).toNat = ycc B (gA B 34 (p - 1)).toNat (gA B 34 p).toNat := eT
  obtain ⟨o, ho⟩ : ∃ o : Nat, o = if p = 0 then 0 else (ybr (ycc S (gA B 34 (p - 1)).toNat (gA B 34 p).toNat) (fun g => (zG V).getD g 0) (zG V).length 0).getD (zG V).length := ⟨_, rfl⟩
  obtain ⟨f, hf⟩ : ∃ f : Nat, f = if p = 0 then 0 else (ybr (ycc T (gA B 34 (p - 1)).toNat (gA B 34 p).toNat) (fun g => (zG V).getD g 0) (zG V).length 0).getD 3 := ⟨_, rfl⟩
  rw [← ho] at k1
  rw [← hf] at k2
  have rel : o ≤ (zG V).length ∧ (f = o ∧ o < (zG V).length ∨ o = (zG V).length ∧ (zG V).length ≤ f ∧ f ≤ 3) := by
    rw [eS] at ho
    rw [eT] at hf
    by_cases z : p = 0
    · rw [if_pos z] at ho hf
      rw [ho, hf]
      by_cases w : 0 < (zG V).length
      · exact ⟨by omega, Or.inl ⟨rfl, w⟩⟩
      · exact ⟨by omega, Or.inr ⟨by omega, by omega, by omega⟩⟩
    · rw [if_neg z] at ho hf
      cases hb : ybr (ycc B (gA B 34 (p - 1)).toNat (gA B 34 p).toNat) (fun g => (zG V).getD g 0) (zG V).length 0 with
      | none =>
        rw [hb] at ho hf
        have ho : o = (zG V).length := ho
        have hf : f = 3 := hf
        exact ⟨by omega, Or.inr ⟨ho, by omega, by omega⟩⟩
      | some y =>
        rw [hb] at ho hf
        have ho : o = y := ho
        have hf : f = y := hf
        have := ybr_lt _ _ _ hb
        exact ⟨by omega, Or.inl ⟨by omega, by omega⟩⟩
  have g57 : gI T 57 = (zG V).length := hG2.1
  have lp : ∀ (m i : Nat) (T : yS), i + m = (zG V).length → gI T 57 = (zG V).length → Y q (d' + 2) 297 8 [vr 129, vi p, vi f, vi i] [] T ks = Y q (d' + 2) 297 39 [vr 129, vi p, vi f, vi (((zG V).length : Int) - 1)] [] (sAr T 62 (yinc i (zG V).length (gA T 62))) ks := by
    intro m
    induction m with
    | zero =>
      intro i T hi g57
      have ei : i = (zG V).length := by omega
      rw [w297_8, g57, ei, if_neg (show ¬ yr ((zG V).length : Int) < yr ((zG V).length : Int) by omega), yinc_0, sAr_sf]
    | succ m ih =>
      intro i T hi g57
      have ei : yr (i : Int) = i := yr_eq (by omega) (by omega)
      have en : yr ((zG V).length : Int) = (zG V).length := yr_eq (by omega) (by omega)
      have kb : 0 ≤ (i : Int) ∧ (i : Int) < 3 := by omega
      have e1 : (i : Int) + 1 = ((i + 1 : Nat) : Int) := by omega
      have ih' := ih (i + 1) (sA T 62 i (gA T 62 i + 1)) (by omega) g57
      rw [w297_8, g57, ei, en, if_pos (by omega), if_pos kb, if_pos kb, Int.toNat_natCast, e1, ih', sAr_sA, gA_yup, yinc_s (by omega)]
  have fin : Y q (d' + 2) 297 8 [vr 129, vi p, vi f, vi f] [] T ks = Y q (d' + 2) 297 39 [vr 129, vi p, vi f, vi (((zG V).length : Int) - 1)] [] (sAr T 62 (yinc f (zG V).length (gA T 62))) ks := by
    rcases rel.2 with ⟨r1, r2⟩ | ⟨r1, r2, r3⟩
    · exact lp ((zG V).length - f) f T (by omega) g57
    · have ef : yr (f : Int) = f := yr_eq (by omega) (by omega)
      have en : yr ((zG V).length : Int) = (zG V).length := yr_eq (by omega) (by omega)
      have ey : yinc f (zG V).length (gA T 62) = gA T 62 := by
        funext j
        unfold yinc
        rw [if_neg (by omega)]
      rw [w297_8, g57, ef, en, if_neg (by omega), ey, sAr_sf]
  refine ⟨o, f, sAr S 35 (yinc o (zG V).length (gA S 35)), sAr T 62 (yinc f (zG V).length (gA T 62)), ?_, rel, k1, ?_⟩
  · obtain ⟨⟨w1, w2⟩, w3, w4, w5, w6, w7, w8⟩ := id h.1.1
    refine yRl_w h ⟨⟨yFr_tr w1 (yFr_Ar rfl), yFr_tr w2 (yFr_Ar rfl)⟩, w3, w4, w5, w6, fun g hg' => ?_, fun v hv => cV_e (w8 v hv) rfl rfl rfl rfl⟩ h.2.1 rfl rfl rfl rfl rfl rfl rfl rfl rfl rfl rfl rfl rfl
    rw [gAr_self, gAr_self]
    unfold yinc
    have := w7 g hg'
    rcases rel.2 with ⟨r1, r2⟩ | ⟨r1, r2, r3⟩
    · rw [r1, this]
    · rw [if_neg (by omega), if_neg (by omega), this]
  · rw [w297_0, k2, YB_ret, w297_5, fin]
/-- the totals of groups that break begin anew -/
theorem r297a {x0 x1 : Int} (hx : yCx S0 t V a n B C) : ∀ (m g : Nat) (T : yS) (val : Nat → yVal) (has : Nat → Bool), g + m = (zG V).length → yFr yRw C T → rTo T (zT V) val has → ∃ T' : yS, Y q (d + 2) 297 71 [vr 129, vi x0, vi x1, vi g] [] T ks = Y q (d + 2) 297 92 [vr 129, vi x0, vi x1, vi x1] [] T' ks ∧ yFr yWan T T' ∧ rTo T' (zT V) (fun k => if (g : Int) ≤ ((zT V).getD k dDf).2.2.2.2 then ynw ((zT V).getD k dDf) else val k) (fun k => if (g : Int) ≤ ((zT V).getD k dDf).2.2.2.2 then false else has k) ∧ ∀ k v, k < 8 → rVv T k v → rVv T' k v
  | 0, g, T, val, has, h, hF, hR => by
    obtain ⟨⟨h8, h8', h3⟩, l01, t01, tsc⟩ := vTo_all hx
    have hg := yCx_g hx
    have hQ := iPq_rw hx.1.2.2 hF
    have g57 : gI T 57 = (zG V).length := hQ.2.2.2.1.1.2.2.1.1
    have eg : g = (zG V).length := by omega
    have sc : ∀ k, k < (zT V).length → ¬ (g : Int) ≤ ((zT V).getD k dDf).2.2.2.2 := fun k hk => by
      have hm : (zT V).getD k dDf ∈ zT V := by
        rw [List.getD_eq_getElem?_getD, List.getElem?_eq_getElem hk]
        exact List.getElem_mem hk
      have := (hg.2.2.2.2.1.2 _ hm).2.2.1.2
      omega
    refine ⟨T, ?_, yFr_rf _ _, rTo_cg hR (fun k hk => by rw [if_neg (sc k hk)]) (fun k hk => by rw [if_neg (sc k hk)]), fun k v _ hv => hv⟩
    rw [w297_71, g57, eg, if_neg (show ¬ yr ((zG V).length : Int) < yr ((zG V).length : Int) by omega)]
  | m + 1, g, T, val, has, h, hF, hR => by
    obtain ⟨⟨h8, h8', h3⟩, l01, t01, tsc⟩ := vTo_all hx
    have hQ := iPq_rw hx.1.2.2 hF
    have g57 : gI T 57 = (zG V).length := hQ.2.2.2.1.1.2.2.1.1
    have hD2 := hQ.2.2.2.1.1.2.2.2.2.1
    have eg : yr (g : Int) = g := yr_eq (by omega) (by omega)
    have en : yr ((zG V).length : Int) = (zG V).length := yr_eq (by omega) (by omega)
    have e1 : (g : Int) + 1 = ((g + 1 : Nat) : Int) := by omega
    obtain ⟨T1, a1, a2, a3, a4⟩ := r279l (q := q) (d := d) (js := ks) (per := (g : Int)) h8' t01 (by omega) tsc (zT V).length 0 T val has (by omega) hD2 hR
    have a1 : Y q (d + 1) 279 2 [vr 129, vi (g : Int), vi 0] [] T ks = yretv q T1 ks := a1
    obtain ⟨T2, b1, b2, b3, b4⟩ := r297a hx (x0 := x0) (x1 := x1) m (g + 1) T1 _ _ (by omega) (yFr_tr hF (yRw_a a2)) a3
    have memT : ∀ k, k < (zT V).length → (zT V).getD k dDf ∈ zT V := fun k hk => by
      rw [List.getD_eq_getElem?_getD, List.getElem?_eq_getElem hk]
      exact List.getElem_mem hk
    have rs : ∀ k, k < (zT V).length → (rsc ((zT V).getD k dDf).2.2.2.2 = (g : Int) ↔ ((zT V).getD k dDf).2.2.2.2 = (g : Int)) := fun k hk => by
      have := tsc _ (memT k hk)
      unfold rsc
      split
      · omega
      · split <;> omega
    refine ⟨T2, ?_, yFr_tr a2 b2, rTo_cg b3 (fun k hk => ?_) (fun k hk => ?_), fun k v hk hv => b4 k v hk (a4 k v hk hv)⟩
    · rw [w297_71, g57, eg, en, if_pos (by omega), w279_0, a1, YB_retv, w297_84, e1, b1]
    · show (if (g : Int) ≤ ((zT V).getD k dDf).2.2.2.2 then ynw ((zT V).getD k dDf) else val k) = if ((g + 1 : Nat) : Int) ≤ ((zT V).getD k dDf).2.2.2.2 then ynw ((zT V).getD k dDf) else if 0 ≤ k ∧ rsc ((zT V).getD k dDf).2.2.2.2 = (g : Int) then ynw ((zT V).getD k dDf) else val k
      by_cases z : ((g + 1 : Nat) : Int) ≤ ((zT V).getD k dDf).2.2.2.2
      · rw [if_pos z, if_pos (by omega)]
      · rw [if_neg z]
        by_cases w : ((zT V).getD k dDf).2.2.2.2 = (g : Int)
        · rw [if_pos (by omega), if_pos ⟨by omega, (rs k hk).mpr w⟩]
        · rw [if_neg (by omega), if_neg (fun y => w ((rs k hk).mp y.2))]
    · show (if (g : Int) ≤ ((zT V).getD k dDf).2.2.2.2 then false else has k) = if ((g + 1 : Nat) : Int) ≤ ((zT V).getD k dDf).2.2.2.2 then false else if 0 ≤ k ∧ rsc ((zT V).getD k dDf).2.2.2.2 = (g : Int) then false else has k
      by_cases z : ((g + 1 : Nat) : Int) ≤ ((zT V).getD k dDf).2.2.2.2
      · rw [if_pos z, if_pos (by omega)]
      · rw [if_neg z]
        by_cases w : ((zT V).getD k dDf).2.2.2.2 = (g : Int)
        · rw [if_pos (by omega), if_pos ⟨by omega, (rs k hk).mpr w⟩]
        · rw [if_neg (by omega), if_neg (fun y => w ((rs k hk).mp y.2))]
theorem yanew (hx : yCx S0 t V a n B C) (h : yRl V n B C e S T) {x0 : Int} {o f : Nat} (hof : o ≤ (zG V).length ∧ (f = o ∧ o < (zG V).length ∨ o = (zG V).length ∧ (zG V).length ≤ f ∧ f ≤ 3)) : ∃ (e' : yEnv) (S' T' : yS), yRl V n B C e' S' T' ∧ Y q (d + 2) 127 0 [vr 125, vi o, vu] [] S js = yretv q S' js ∧ Y q (d' + 2) 297 71 [vr 129, vi x0, vi f, vi f] [] T ks = Y q (d' + 2) 297 92 [vr 129, vi x0, vi f, vi f] [] T' ks := by
  obtain ⟨⟨h8, h8', h3⟩, l01, t01, tsc⟩ := vTo_all hx
  obtain ⟨c1, c2, _⟩ := yCx_c hx
  have hg := yCx_g hx
  have hP := iPq_cw hx.1.2.1 h.1.1.1.1
  have hQ := iPq_rw hx.1.2.2 h.1.1.1.2
  have hD := hP.2.2.1.2.1.2.2.2.2.1
  obtain ⟨⟨has, hcT, hrT⟩, hty⟩ := h.1.2.2.2.1
  obtain ⟨S1, a1, a2, a3, a4⟩ := c127l (q := q) (d := d) (js := js) (g := o) h8' t01 (by omega) tsc (zT V).length 0 S (e 4) has (by omega) h.1.2.1 hD hcT
  have a1 : Y q (d + 2) 127 2 [vr 125, vi o, vi 0] [] S js = yretv q S1 js := a1
  have memT : ∀ k, k < (zT V).length → (zT V).getD k dDf ∈ zT V := fun k hk => by
    rw [List.getD_eq_getElem?_getD, List.getElem?_eq_getElem hk]
    exact List.getElem_mem hk
  have ref : ∃ T1 : yS, Y q (d' + 2) 297 71 [vr 129, vi x0, vi f, vi f] [] T ks = Y q (d' + 2) 297 92 [vr 129, vi x0, vi f, vi f] [] T1 ks ∧ yFr yWan T T1 ∧ rTo T1 (zT V) (fun k => if (o : Int) ≤ ((zT V).getD k dDf).2.2.2.2 then ynw ((zT V).getD k dDf) else e 4 k) (fun k => if (o : Int) ≤ ((zT V).getD k dDf).2.2.2.2 then false else has k) ∧ ∀ k v, k < 8 → rVv T k v → rVv T1 k v := by
    rcases hof.2 with ⟨r1, r2⟩ | ⟨r1, r2, r3⟩
    · have := r297a (q := q) (d := d') (ks := ks) (x0 := x0) (x1 := (f : Int)) hx ((zG V).length - f) f T (e 4) has (by omega) h.1.1.1.2 hrT
      rw [r1] at this ⊢
      exact this
    · have g57 : gI T 57 = (zG V).length := hQ.2.2.2.1.1.2.2.1.1
      have ef : yr (f : Int) = f := yr_eq (by omega) (by omega)
      have en : yr ((zG V).length : Int) = (zG V).length := yr_eq (by omega) (by omega)
      have sc : ∀ k, k < (zT V).length → ¬ (o : Int) ≤ ((zT V).getD k dDf).2.2.2.2 := fun k hk => by
        have := (hg.2.2.2.2.1.2 _ (memT k hk)).2.2.1.2
        omega
      refine ⟨T, ?_, yFr_rf _ _, rTo_cg hrT (fun k hk => by rw [if_neg (sc k hk)]) (fun k hk => by rw [if_neg (sc k hk)]), fun k v _ hv => hv⟩
      rw [w297_71, g57, ef, en, if_neg (by omega)]
  obtain ⟨T1, b1, b2, b3, b4⟩ := ref
  obtain ⟨e', he'⟩ : ∃ e', e' = eU e 4 (fun k => if (o : Int) ≤ ((zT V).getD k dDf).2.2.2.2 then ynw ((zT V).getD k dDf) else e 4 k) := ⟨_, rfl⟩
  have e2 : e' 2 = e 2 := by rw [he']; rfl
  have e3 : e' 3 = e 3 := by rw [he']; rfl
  have e4 : e' 4 = fun k => if (o : Int) ≤ ((zT V).getD k dDf).2.2.2.2 then ynw ((zT V).getD k dDf) else e 4 k := by rw [he']; rfl
  have e5 : e' 5 = e 5 := by rw [he']; rfl
  refine ⟨e', S1, T1, yRl_v h (by omega) a2 b2 e2 e5 (fun m v hm hm2 hv => a4 m v (by omega) hv) (fun i hi => ?_) ⟨⟨fun k => if (o : Int) ≤ ((zT V).getD k dDf).2.2.2.2 then false else has k, ?_, ?_⟩, fun i hi => ?_⟩, ?_, b1⟩
  · have := h.1.2.2.1 i hi
    rw [e3]
    exact ⟨a4 _ _ (by omega) this.1, b4 _ _ (by omega) this.2.1, this.2.2⟩
  · rw [e4]
    refine cTo_cg a3 (fun k hk => ?_) (fun k hk => ?_)
    · by_cases z : (o : Int) ≤ ((zT V).getD k dDf).2.2.2.2
      · rw [if_pos z, if_pos ⟨by omega, z⟩]
      · rw [if_neg z, if_neg (fun y => z y.2)]
    · by_cases z : (o : Int) ≤ ((zT V).getD k dDf).2.2.2.2
      · rw [if_pos z, if_pos ⟨by omega, z⟩]
      · rw [if_neg z, if_neg (fun y => z y.2)]
  · rw [e4]
    exact b3
  · rw [e4]
    show yvt (if (o : Int) ≤ ((zT V).getD i dDf).2.2.2.2 then ynw ((zT V).getD i dDf) else e 4 i) _
    split
    · exact ynw_t _
    · exact hty i hi
  · rw [w127_0, a1]
end YUKL
end YUK
