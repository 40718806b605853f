/-! taken from whole by wip/p27/slice2.py: 73.txt.lean.txt -/
section YTW
section YTWL
variable {q : yQ} {d : Nat} {js : List xO} {S0 S : yS} {T : yTk} {N u : Nat} {w : Int} {Rm : Nat → Nat → Nat} {Rx : Nat → Nat} {s : Nat}
theorem ysw_64 : 0 ≤ yr (yKo 64) ∧ yr (yKo 64) < 67 ∧ yr ((xLf xSm (yr (yKo 64)).toNat).toInt) = 2 := by decide
theorem v53_94 {x0 x1 : Int} {x2 : Int64} (hu : u = 0 ∨ u = 1) (hk : gK S 1 = cu u) : Y q (d + 1) 53 94 [vr 122, vi x0, vi x1, vj x2, vu] [] S js = YB q (Y q d 21 0 [vr (cu u), vr 86, vi (x1 + 1), vj x2, vu, vu, vu, vu] [] S js) (d + 1) 53 111 [vr 122, vi x0, vi x1, vj x2, vu] [vi 1, vr (cu u)] := by
  rcases hu with rfl | rfl
  · have hk : gK S 1 = 107 := hk
    rw [w53_94, if_pos hk, w53_98, if_pos hk, w53_103]
    rfl
  · have hk : gK S 1 = 117 := hk
    rw [w53_94, if_neg (by omega), if_pos hk, w53_98x, if_neg (by omega), if_pos hk, w53_103z]
    rfl
theorem v53_114 {x0 x1 x3 x4 : Int} {x2 : Int64} (hu : u = 0 ∨ u = 1) : Y q (d + 1) 53 114 [vr 122, vi x0, vi x1, vj x2, vu] [vi x3, vi x4, vr (cu u)] S js = YB q (Y q d 20 0 [vr (cu u), vi x4, vj (yi2l x3), vu, vu] [] S js) (d + 1) 53 115 [vr 122, vi x0, vi x1, vj x2, vu] [] := by
  rcases hu with rfl | rfl
  · exact w53_114 ..
  · exact w53_114x ..
theorem tbl_fr (hu : u = 0 ∨ u = 1) (hz : yFr (yWx u) S0 S) (x : Int) : tbl S x = tbl S0 x := by
  have e1 : gI S 12 = gI S0 12 := hz.1 12 (by rcases hu with rfl | rfl <;> rfl)
  have e2 : gA S 21 = gA S0 21 := hz.2.2.2.1 21 (by rcases hu with rfl | rfl <;> rfl)
  unfold tbl tb
  rw [e1, e2]
theorem ytxb_fr (hu : u = 0 ∨ u = 1) (hz : yFr (yWx u) S0 S) (p n : Nat) : ytxb S p n = ytxb S0 p n := by
  unfold ytxb
  simp only [tbl_fr hu hz]
/-- a text -/
def ytxt (T : yTk) (tx : Nat → Nat → List Int) (tb t b : Nat) : yPr := if b = 0 then .inl (T t).2.1 else .inr (t + 1, b - 1, .inr (true, none, [(1, ya64 tb)], [((T t).2.1 + 1, (T t).2.2.toInt.toNat)], fun _ => some (.inr (tx ((T t).2.1 + 1) (T t).2.2.toInt.toNat))))
theorem m53t {base tb t b dp : Nat} {k : yK9} (hu : u = 0 ∨ u = 1) (hT : yTo T N) (hR : yRoom T N Rm Rx s) (hRx : ∀ t, t < N → Rx t ≤ 2000) (h12 : 0 ≤ gI S0 12 ∧ gI S0 12 ≤ 2000) (h : cM T N u w S (.inr (t, b, k))) (hz : yFr (yWx u) S0 S) (h64 : (T t).1 = 64) (hlen : 0 ≤ (T t).2.2.toInt ∧ (T t).2.2.toInt ≤ 2000) (hb : ybs u Rm Rx base tb t b k) : ∃ S' : yS, Y q (d + 2) 53 0 [vr 122, vi dp, vu, vu, vu] [] S js = yret q (vi 1) S' js ∧ yFr (yWx u) S S' ∧ cM T N u w S' (ymode k (ytxb S0) (ytxt T (ytxb S0) tb t b)) ∧ ∀ L X, k = .inr (L, X) → ∀ t' b' x, ytxt T (ytxb S0) tb t b = .inr (t', b', .inr x) → 1 = yty x := by
  obtain ⟨k1, k2, k3⟩ := cM_kd h
  have kj : gJ S 0 = (T t).2.2 := (cM_A h).1.2.2.2.2.2.2.2
  have hpl := (hT.2.2.2.2 t k3).1
  have ht := yTo_t hT k3 (by omega)
  have hR' := hR
  obtain ⟨s1, s2, hR⟩ := hR
  obtain ⟨R1, R2, R3⟩ := hR t b ht (by omega)
  have R2 := R2 h64
  have hRt := hRx (t + 1) ht
  obtain ⟨S1, a1, a2, a3⟩ := mnext (q := q) (d := d + 1) (js := js) hu hT h (fun t' b' k' e => by
    injection e with e
    injection e with e _
    rw [← e]
    omega)
  have hz1 : yFr (yWx u) S0 S1 := yFr_tr hz (yWk_x a2)
  have h12' : 0 ≤ gI S1 12 ∧ gI S1 12 ≤ 2000 := by
    rw [hz1.1 12 (by rcases hu with rfl | rfl <;> rfl)]
    exact h12
  obtain ⟨S2, r2, c1, c2, c3, c4⟩ := mtxt (q := q) (d := d) (js := js) (p := (T t).2.1 + 1) (x1 := (T t).2.2) hu a3 h12' (by omega) hlen (fun t' b' L X e => by
    by_cases hb0 : b = 0
    · subst hb0
      nomatch e
    · rw [ysn T _ hb0] at e
      injection e with e
      injection e with _ e
      injection e with _ e
      obtain ⟨h1, h2, h3, h4⟩ := hb L X e
      omega)
  obtain ⟨S3, r3, d1, d2, d3, d4, d5⟩ := madd (q := q) (d := d + 1) (js := js) hu c3 1 (yi2l (r2 : Int))
  have c1 : Y q (d + 1) 21 0 [vr (cu u), vr 86, vi (((T t).2.1 : Nat) + 1 : Int), vj (T t).2.2, vu, vu, vu, vu] [] S1 js = yret q (vi r2) S2 js := c1
  have d1 : Y q (d + 1) 20 0 [vr (cu u), vi 1, vj (yi2l (r2 : Int)), vu, vu] [] S2 js = yret q (vi r3) S3 js := d1
  obtain ⟨w1, w2, w3⟩ := ysw_64
  have e1 : yr 1 = 1 := rfl
  have e2 : yr 2 = 2 := rfl
  refine ⟨S3, ?_, yFr_tr (yWk_x a2) (yFr_tr c2 d2), ?_, ?_⟩
  · rw [w53_0, k1, h64, if_pos (by omega), w318_0, if_pos (by omega), YB_ret, w53_29, if_pos ⟨w1, w2⟩, w3, if_neg (by decide), if_pos rfl, a1, YB_retv, kj, k2, v53_94 hu a3.2.2.1, c1, YB_ret, v53_114 hu, d1, YB_ret, w53_118]
  · have e : yadm u (ytxm (ynx T (.inr (t, b, k))) (ytxb S1 ((T t).2.1 + 1) (T t).2.2.toInt.toNat)) 1 (yi2l (r2 : Int)) = ymode k (ytxb S0) (ytxt T (ytxb S0) tb t b) := by
      rw [ytxb_fr hu hz1]
      unfold ytxt
      by_cases hb0 : b = 0
      · subst hb0
        rfl
      · rw [if_neg hb0, ysn T _ hb0]
        rw [ysn T _ hb0] at c4
        match k, hb, c4 with
        | .inl e, _, _ => rfl
        | .inr (L, X), hb, c4 =>
          obtain ⟨h1, h2, h3, h4⟩ := hb L X rfl
          obtain ⟨R3, R4⟩ := R3 (by omega)
          have hr2 := c4 _ _ _ _ rfl
          show yadm u (.inr (t + 1, b - 1, .inr (L, X ++ [ytxb S0 ((T t).2.1 + 1) (T t).2.2.toInt.toNat]))) 1 (yi2l (r2 : Int)) = (Sum.inr (t + 1, b - 1, Sum.inr (L ++ [(1, ya64 tb)], X ++ [ytxb S0 ((T t).2.1 + 1) (T t).2.2.toInt.toNat])) : yMo)
          rw [yadm_in (by omega), hr2, h2]
          rfl
    rw [← e]
    exact d4
  · intro L X hk t' b' x hx
    unfold ytxt at hx
    split at hx
    · nomatch hx
    · have hx := (yinr hx).2.2
      injection hx with hx
      subst hx
      rfl
end YTWL
end YTW
