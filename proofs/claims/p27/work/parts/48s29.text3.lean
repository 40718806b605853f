/-! taken from whole by wip/p27/slice2.py: 71.text3.lean.txt -/
section YTV
/-- a text's bytes, as the class reads them from its source -/
def ytxb (S : yS) (p n : Nat) : List Int := (List.range n).map fun i => yi2b (yi2b (tbl S ((p + i : Nat) : Int)))
section YTVL
variable {q : yQ} {d : Nat} {js : List xO} {S : yS} {T : yTk} {N u : Nat} {w : Int}
theorem mtxt {m : yMo} {p : Nat} {x1 : Int64} (hu : u = 0 ∨ u = 1) (h : cM T N u w S m) (h12 : 0 ≤ gI S 12 ∧ gI S 12 ≤ 2000) (hp : p ≤ 10000) (hx : 0 ≤ x1.toInt ∧ x1.toInt ≤ 2000) (hr : ∀ t b L X, m = .inr (t, b, .inr (L, X)) → ysl X X.length + x1.toInt.toNat ≤ 2000 ∧ X.length < 1000) : ∃ (S' : yS) (r : Nat), Y q (d + 1) 21 0 [vr (cu u), vr 86, vi p, vj x1, vu, vu, vu, vu] [] S js = yret q (vi r) S' js ∧ yFr (yWx u) S S' ∧ cM T N u w S' (ytxm m (ytxb S p x1.toInt.toNat)) ∧ ∀ t b L X, m = .inr (t, b, .inr (L, X)) → r = X.length := by
  have hO := h.2.1
  have e1 : yr 1000 = 1000 := rfl
  have en : yr (gI S (2 + u)) = gI S (2 + u) := by
    have := hO.2.2
    rw [yr_eq] <;> omega
  obtain ⟨n, hn⟩ : ∃ n : Nat, gI S (2 + u) = n := ⟨(gI S (2 + u)).toNat, by have := hO.2.2; omega⟩
  obtain ⟨pos, hpos⟩ : ∃ pos : Nat, gA S (4 + u) n = pos := ⟨(gA S (4 + u) n).toNat, by have := hO.2.2.2.2 n (by omega); omega⟩
  have hp2 : pos ≤ 2000 := by have := hO.2.2.2.2 n (by omega); omega
  have full : ¬ n < 1000 → ytxm m (ytxb S p x1.toInt.toNat) = m ∧ ∀ t b L X, m ≠ .inr (t, b, .inr (L, X)) := by
    intro z
    match m, h, hr with
    | .inl p, _, _ => exact ⟨rfl, fun _ _ _ _ e => nomatch e⟩
    | .inr (t, b, .inl e), _, _ => exact ⟨rfl, fun _ _ _ _ e => by injection e with e; injection e with _ e; injection e with _ e; nomatch e⟩
    | .inr (t, b, .inr (L, X)), h, hr =>
      have := (hr t b L X rfl).2
      have := h.2.2.2.2.2.2.2.1
      omega
  have lenE : ∀ t b L X, m = .inr (t, b, .inr (L, X)) → n = X.length ∧ ysl X X.length = pos := by
    intro t b L X hm
    subst hm
    have h1 := h.2.2.2.2.2.2.2.1
    have h2 := h.2.2.2.2.2.2.2.2.1 X.length (Nat.le_refl _)
    have hX : X.length = n := by omega
    rw [hX] at h2
    rw [hX]
    exact ⟨rfl, by omega⟩
  have hlen : (ytxb S p x1.toInt.toNat).length = x1.toInt.toNat := by
    unfold ytxb
    rw [List.length_map, List.length_range]
  by_cases z : n < 1000
  · have main : ∃ S' : yS, Y q (d + 1) 21 0 [vr (cu u), vr 86, vi p, vj x1, vu, vu, vu, vu] [] S js = yret q (vi n) S' js ∧ (∀ k, k ≠ 2 + u → gI S' k = gI S k) ∧ gI S' (2 + u) = n + 1 ∧ (∀ k, k ≠ 2 + u → k ≠ 4 + u → gA S' k = gA S k) ∧ gB S' = gB S ∧ gC S' = gC S ∧ gK S' = gK S ∧ gJ S' = gJ S ∧ (∀ j, gA S' (4 + u) j = if j = n + 1 then ((min 2000 (pos + x1.toInt.toNat) : Nat) : Int) else gA S (4 + u) j) ∧ ∀ j, gA S' (2 + u) j = if pos ≤ j ∧ j < min 2000 (pos + x1.toInt.toNat) then yi2b (yi2b (tbl S ((p + (0 + (j - pos)) : Nat) : Int))) else gA S (2 + u) j := by
      rcases hu with rfl | rfl
      · have hn : gI S 2 = n := hn
        have en : yr (gI S 2) = gI S 2 := en
        have hpos : gA S 4 n = pos := hpos
        have l := l21 (q := q) (d := d) (js := js) (p := p) (n := n) (x1 := x1) hp hx z x1.toInt.toNat pos 0 S (by omega) hp2 hn h12
        obtain ⟨S', a1, a2⟩ := l
        refine ⟨S', ?_, a2⟩
        show Y q (d + 1) 21 0 [vr 107, vr 86, vi p, vj x1, vu, vu, vu, vu] [] S js = _
        rw [w21_0, en, e1, hn, if_pos (by omega), if_pos (by omega), Int.toNat_natCast, hpos]
        exact a1
      · have hn : gI S 3 = n := hn
        have en : yr (gI S 3) = gI S 3 := en
        have hpos : gA S 5 n = pos := hpos
        have l := l21x (q := q) (d := d) (js := js) (p := p) (n := n) (x1 := x1) hp hx z x1.toInt.toNat pos 0 S (by omega) hp2 hn h12
        obtain ⟨S', a1, a2⟩ := l
        refine ⟨S', ?_, a2⟩
        show Y q (d + 1) 21 0 [vr 117, vr 86, vi p, vj x1, vu, vu, vu, vu] [] S js = _
        rw [w21b_0, en, e1, hn, if_pos (by omega), if_pos (by omega), Int.toNat_natCast, hpos]
        exact a1
    obtain ⟨S', a1, a2, a3, a4, a5, a6, a7, a8, a9, a10⟩ := main
    refine ⟨S', n, a1, ?_, ?_, fun t b L X hm => (lenE t b L X hm).1⟩
    · refine ⟨fun k hk => a2 k ?_, fun k _ => by rw [a8], fun k _ => by rw [a7], fun k hk => a4 k ?_ ?_, fun k _ => by rw [a5], fun k _ => by rw [a6]⟩
      · rintro rfl
        unfold yWx at hk
        simp at hk
      · rintro rfl
        unfold yWx at hk
        simp at hk
      · rintro rfl
        unfold yWx at hk
        simp at hk
    · refine cM_text (B := fun j => yi2b (yi2b (tbl S ((p + (0 + (j - pos)) : Nat) : Int)))) hu h a2 a3 hn z hpos ⟨by omega, by omega⟩ a4 a5 a6 a7 a8 a9 a10 (fun t b L X hm => ?_) (fun i y hi => ?_)
      · obtain ⟨l1, l2⟩ := lenE t b L X hm
        have := (hr t b L X hm).1
        rw [hlen]
        omega
      · have hil := (List.getElem?_eq_some_iff.mp hi).1
        rw [hlen] at hil
        unfold ytxb at hi
        rw [List.getElem?_map, List.getElem?_range hil] at hi
        have hi : some (yi2b (yi2b (tbl S ((p + i : Nat) : Int)))) = some y := hi
        have hi := Option.some.inj hi
        have e0 : 0 + (pos + i - pos) = i := by omega
        rw [← hi]
        simp only [e0]
  · obtain ⟨f1, f2⟩ := full z
    rw [f1]
    refine ⟨S, n, ?_, yFr_rf _ _, h, fun t b L X hm => (f2 t b L X hm).elim⟩
    rcases hu with rfl | rfl
    · have hn : gI S 2 = n := hn
      have en : yr (gI S 2) = gI S 2 := en
      show Y q (d + 1) 21 0 [vr 107, vr 86, vi p, vj x1, vu, vu, vu, vu] [] S js = _
      rw [w21_0, en, e1, hn, if_neg (by omega)]
    · have hn : gI S 3 = n := hn
      have en : yr (gI S 3) = gI S 3 := en
      show Y q (d + 1) 21 0 [vr 117, vr 86, vi p, vj x1, vu, vu, vu, vu] [] S js = _
      rw [w21b_0, en, e1, hn, if_neg (by omega)]
end YTVL
end YTV
