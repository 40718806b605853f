/-! taken from whole by wip/p27/slice2.py: 72.num.lean.txt -/
section YNM
theorem ysw_63 : 0 ≤ yr (yKo 63) ∧ yr (yKo 63) < 67 ∧ yr ((xLf xSm (yr (yKo 63)).toNat).toInt) = 1 := by decide
section YNML
variable {q : yQ} {d : Nat} {js : List xO} {S : yS} {T : yTk} {N u : Nat} {w : Int} {Rm : Nat → Nat → Nat} {Rx : Nat → Nat} {s : Nat} {tx : Nat → Nat → List Int}
/-- a number -/
def ynum (T : yTk) (t b : Nat) : yPr := if b = 0 then .inl (T t).2.1 else .inr (t + 1, b - 1, .inr (ycn (T t).2.2))
theorem m53n {base tb t b dp : Nat} {k : yK9} (hu : u = 0 ∨ u = 1) (hT : yTo T N) (hR : yRoom T N Rm Rx s) (h : cM T N u w S (.inr (t, b, k))) (h63 : (T t).1 = 63) (hb : ybs u Rm Rx base tb t b k) : ∃ S' : yS, Y q (d + 1) 53 0 [vr 122, vi dp, vu, vu, vu] [] S js = yret q (vi 2) S' js ∧ yFr (yWx u) S S' ∧ cM T N u w S' (ymode k tx (ynum T t b)) ∧ ∀ L X, k = .inr (L, X) → ∀ t' b' x, ynum T t b = .inr (t', b', .inr x) → 2 = yty x := by
  obtain ⟨k1, k2, k3⟩ := cM_kd h
  have kj : gJ S 0 = (T t).2.2 := (cM_A h).1.2.2.2.2.2.2.2
  have ht := yTo_t hT k3 (by omega)
  obtain ⟨S1, a1, a2, a3⟩ := mnext (q := q) (d := d) (js := js) hu hT h (fun t' b' k' e => by
    injection e with e
    injection e with e _
    rw [← e]
    omega)
  obtain ⟨S2, r2, c1, c2, c3, c4, c5⟩ := madd (q := q) (d := d) (js := js) hu a3 0 (T t).2.2
  have c1 : Y q d 20 0 [vr (cu u), vi 0, vj (T t).2.2, vu, vu] [] S1 js = yret q (vi r2) S2 js := c1
  obtain ⟨w1, w2, w3⟩ := ysw_63
  have e1 : yr 1 = 1 := rfl
  refine ⟨S2, ?_, yFr_tr (yWk_x a2) c2, ?_, ?_⟩
  · rw [w53_0, k1, h63, if_pos (by omega), w318_0, if_pos (by omega), YB_ret, w53_29, if_pos ⟨w1, w2⟩, w3, if_pos rfl, a1, YB_retv, kj, v53_75 hu a3.2.2.1, c1, YB_ret, w53_84]
  · have e : yadm u (ynx T (.inr (t, b, k))) 0 (T t).2.2 = ymode k tx (ynum T t b) := by
      unfold ynum
      by_cases hb0 : b = 0
      · subst hb0
        rfl
      · rw [if_neg hb0, ysn T _ hb0]
        match k, hb with
        | .inl e, _ => rfl
        | .inr (L, X), hb =>
          obtain ⟨h1, h2, h3, h4⟩ := hb L X rfl
          obtain ⟨s1, s2, hR⟩ := hR
          obtain ⟨R1, R2, R3⟩ := hR t b ht (by omega)
          obtain ⟨R3, R4⟩ := R3 (by omega)
          rw [yadm_in (by omega)]
          show _ = (Sum.inr (t + 1, b - 1, Sum.inr (L ++ _, X ++ [])) : yMo)
          rw [List.append_nil]
          rfl
    rw [← e]
    exact c4
  · intro L X hk t' b' x hx
    unfold ynum at hx
    split at hx
    · nomatch hx
    · have hx := (yinr hx).2.2
      injection hx with hx
      subst hx
      rfl
end YNML
end YNM
