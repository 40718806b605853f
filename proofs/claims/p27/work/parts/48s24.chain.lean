/-! taken from whole by wip/p27/slice2.py: 66.chain.lean.txt -/
section YCH
section YCHL
variable {q : yQ} {js : List xO} {S0 : yS} {T : yTk} {N u : Nat} {w : Int} {Rm : Nat → Nat → Nat} {Rx : Nat → Nat} {s : Nat} {tx : Nat → Nat → List Int} {O : yOp}
/-- a level's contract, from some depth on -/
def cLv (q : yQ) (js : List xO) (S0 : yS) (T : yTk) (N u : Nat) (w : Int) (Rm : Nat → Nat → Nat) (Rx : Nat → Nat) (s : Nat) (tx : Nat → Nat → List Int) (rd E lv : Nat) (P : Nat → Nat → Nat → Nat → yPr) : Prop := (∀ d, E ≤ d → cSub q js S0 T N u w Rm Rx tx (fun S => Y q d 52 0 [vr 122, vi (lv : Int), vi rd, vu, vu, vu] [] S js) P) ∧ yPok N Rm Rx s tx P ∧ yPin P
theorem cLv_s {rd E lv : Nat} {P : Nat → Nat → Nat → Nat → yPr} (hu : u = 0 ∨ u = 1) (hT : yTo T N) (hR : yRoom T N Rm Rx s) (hl4 : lv ≤ 4) (hE : 1 ≤ E) (h : cLv q js S0 T N u w Rm Rx s tx rd E (lv + 1) P) : cLv q js S0 T N u w Rm Rx s tx rd (E + 2) lv (ylev T O lv P) := by
  refine ⟨fun d hd => ?_, ylev_ok hT hR h.2.1 hl4, ylev_in h.2.2⟩
  obtain ⟨d', rfl⟩ : ∃ d', d = d' + 3 := ⟨d - 3, by omega⟩
  exact c52 hu hT hR h.2.1 h.2.2 hl4 (h.1 (d' + 2) (by omega)) (h.1 (d' + 1) (by omega))
/-- a factor's contract, from some depth on -/
def cFc (q : yQ) (js : List xO) (S0 : yS) (T : yTk) (N u : Nat) (w : Int) (Rm : Nat → Nat → Nat) (Rx : Nat → Nat) (s : Nat) (tx : Nat → Nat → List Int) (rd E : Nat) (P : Nat → Nat → Nat → Nat → yPr) : Prop := (∀ d, E ≤ d → cSub q js S0 T N u w Rm Rx tx (fun S => Y q d 53 0 [vr 122, vi rd, vu, vu, vu] [] S js) P) ∧ yPok N Rm Rx s tx P ∧ yPin P
theorem cLv_5 {rd E : Nat} {P : Nat → Nat → Nat → Nat → yPr} (h : cFc q js S0 T N u w Rm Rx s tx rd E P) : cLv q js S0 T N u w Rm Rx s tx rd (E + 1) 5 P := by
  refine ⟨fun d hd => ?_, h.2.1, h.2.2⟩
  obtain ⟨d', rfl⟩ : ∃ d', d = d' + 1 := ⟨d - 1, by omega⟩
  intro S m hz hm hb
  obtain ⟨S', r, m', a1, a2, a3, a4⟩ := h.1 d' (by omega) S m hz hm hb
  have a1 : Y q d' 53 0 [vr 122, vi rd, vu, vu, vu] [] S js = yret q (vi r) S' js := a1
  refine ⟨S', r, m', ?_, a2, a3, a4⟩
  show Y q (d' + 1) 52 0 [vr 122, vi 5, vi rd, vu, vu, vu] [] S js = _
  have e4 : yr 4 = 4 := rfl
  have e5 : yr 5 = 5 := rfl
  rw [w52_0, e4, e5, if_pos (by omega), a1, YB_ret, w52_10]
theorem cLv_0 {rd E : Nat} {P : Nat → Nat → Nat → Nat → yPr} (hu : u = 0 ∨ u = 1) (hT : yTo T N) (hR : yRoom T N Rm Rx s) (h : cFc q js S0 T N u w Rm Rx s tx rd E P) : cLv q js S0 T N u w Rm Rx s tx rd (E + 11) 0 (yfrom T O P 0) :=
  cLv_s (lv := 0) hu hT hR (by omega) (by omega) (cLv_s (lv := 1) hu hT hR (by omega) (by omega) (cLv_s (lv := 2) hu hT hR (by omega) (by omega) (cLv_s (lv := 3) hu hT hR (by omega) (by omega) (cLv_s (lv := 4) hu hT hR (by omega) (by omega) (cLv_5 h)))))
end YCHL
end YCH
