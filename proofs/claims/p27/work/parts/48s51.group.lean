/-! taken from whole by wip/p27/slice2.py: 9zd.group.lean.txt -/
section YNG
/-- which group a column is -/
def yfg (g : Nat → Int) (c : Int) : Nat → Nat → Int
  | 0, _ => -1
  | n + 1, i => if g i = c then (i : Int) else yfg g c n (i + 1)
theorem yfg_rng {g : Nat → Int} {c : Int} : ∀ (n i : Nat), -1 ≤ yfg g c n i ∧ yfg g c n i < i + n + 1
  | 0, i => by
    show -1 ≤ (-1 : Int) ∧ (-1 : Int) < i + 0 + 1
    omega
  | n + 1, i => by
    have := yfg_rng (g := g) (c := c) n (i + 1)
    unfold yfg
    split <;> omega
/-- the group that a name names, or -1 -/
def ygr (S : yS) (v : Int64) : Int := if yfind (gB S 6) v (gI S 10).toNat 0 < 0 then -1 else yfg (gA S 25) (yfind (gB S 6) v (gI S 10).toNat 0) (gI S 24).toNat 0
section YNGL
variable {q : yQ} {d : Nat} {js : List xO} {S : yS} {T : yTk} {N u : Nat}
theorem c99l {c : Int} {k : Nat} (hk : gI S 24 = k) (hk3 : k ≤ 3) (hg : ∀ i : Nat, (i : Int) < gI S 24 → -1 ≤ gA S 25 i ∧ gA S 25 i < 8) (hc : -1 ≤ c ∧ c < 8) : ∀ (n i : Nat), i + n = k → Y q d 99 2 [vr 91, vi c, vi i] [] S js = yret q (vi (yfg (gA S 25) c n i)) S js
  | 0, i, h => by
    have ei : yr (i : Int) = i := yr_eq (by omega) (by omega)
    have ek : yr (k : Int) = k := yr_eq (by omega) (by omega)
    rw [w99_2, hk, ei, ek, if_neg (by omega)]
    rfl
  | n + 1, i, h => by
    have ei : yr (i : Int) = i := yr_eq (by omega) (by omega)
    have ek : yr (k : Int) = k := yr_eq (by omega) (by omega)
    have ec : yr c = c := yr_eq (by omega) (by omega)
    have hgi := hg i (by omega)
    have eg : yr (gA S 25 i) = gA S 25 i := yr_eq (by omega) (by omega)
    have k3 : 0 ≤ (i : Int) ∧ (i : Int) < 3 := by omega
    have ep : (i : Int) + 1 = ((i + 1 : Nat) : Int) := by omega
    rw [w99_2, hk, ei, ek, if_pos (by omega), if_pos k3, Int.toNat_natCast, eg, ec]
    show _ = yret q (vi (if gA S 25 i = c then (i : Int) else yfg (gA S 25) c n (i + 1))) S js
    by_cases z : gA S 25 i = c
    · rw [if_pos z, if_pos z]
    · rw [if_neg z, if_neg z, ep]
      exact c99l hk hk3 hg hc n (i + 1) (by omega)
theorem c99 {c : Int} (hG : cGr S) (hc : -1 ≤ c ∧ c < 8) : Y q d 99 0 [vr 91, vi c, vu] [] S js = yret q (vi (yfg (gA S 25) c (gI S 24).toNat 0)) S js := by
  rw [w99_0]
  exact c99l (k := (gI S 24).toNat) (by have := hG.1; omega) (by have := hG.2.1; omega) hG.2.2 hc _ 0 (Nat.zero_add _)
theorem c38 {m : yMo} (hu : u = 0 ∨ u = 1) (hT : yTo T N) (h : cNd T N u S m) (h10 : 0 ≤ gI S 10 ∧ gI S 10 ≤ 8) (hG : cGr S) : ∃ S' : yS, Y q (d + 2) 38 0 [vr 123, vu, vu, vu] [] S js = yret q (vi (ygr S (yvl T S m))) S' js ∧ yFr yWk S S' ∧ cNd T N u S' (if ygr S (yvl T S m) < 0 then ywr (yxp T 62 m) 2 (ypl T m) else yxp T 62 m) := by
  obtain ⟨v1, v2⟩ := cNd_v h
  obtain ⟨S1, e1, e2, e3⟩ := nexpect (q := q) (d := d) (js := js) (kd := 62) hu hT h (by omega)
  obtain ⟨S2, f1, f2, f3⟩ := nwrong (q := q) (d := d + 1) (js := js) (n := 2) (p := ypl T m) hu e3 (by omega)
  have f1 : Y q (d + 1) 153 0 [vr 86, vi 2, vi (ypl T m)] [] S1 js = yretv q S2 js := f1
  generalize yvl T S m = v at v1 ⊢
  have hr := yfind_yr (f := gB S 6) (v := v) (n := (gI S 10).toNat) (by omega)
  -- from the expected name on
  have rest : ∀ x0 : Int, ygr S v = ygr S v → ∃ S' : yS, YB q (Y q (d + 1) 30 0 [vr 123, vr 62] [] S js) (d + 2) 38 44 [vr 123, vi x0, vi (ygr S v), vi (ypl T m)] [] = yret q (vi (ygr S v)) S' js ∧ yFr yWk S S' ∧ cNd T N u S' (if ygr S v < 0 then ywr (yxp T 62 m) 2 (ypl T m) else yxp T 62 m) := by
    intro x0 _
    have hg : -1 ≤ ygr S v ∧ ygr S v < 8 := by
      unfold ygr
      split
      · omega
      · have := yfg_rng (g := gA S 25) (c := yfind (gB S 6) v (gI S 10).toNat 0) (gI S 24).toNat 0
        have := hG.1
        have := hG.2.1
        omega
    have eg : yr (ygr S v) = ygr S v := yr_eq (by omega) (by omega)
    rw [e1, YB_retv, w38_47, eg]
    by_cases z : ygr S v < 0
    · rw [if_pos z, if_pos z, f1, YB_retv, w38_60]
      exact ⟨S2, rfl, yFr_tr e2 f2, f3⟩
    · rw [if_neg z, if_neg z]
      exact ⟨S1, rfl, e2, e3⟩
  rw [w38_0, v1, c132 h10, YB_ret, w38_14, hr.1]
  by_cases z : yfind (gB S 6) v (gI S 10).toNat 0 < 0
  · have eg : ygr S v = -1 := if_pos z
    have := rest (yfind (gB S 6) v (gI S 10).toNat 0) rfl
    rw [if_pos z, v2]
    rw [eg] at this ⊢
    exact this
  · have eg : ygr S v = yfg (gA S 25) (yfind (gB S 6) v (gI S 10).toNat 0) (gI S 24).toNat 0 := if_neg z
    have := rest (yfind (gB S 6) v (gI S 10).toNat 0) rfl
    rw [if_neg z, c99 hG ⟨by omega, by omega⟩, YB_ret, w38_31, v2, ← eg]
    exact this
/-- how long a total goes on -/
theorem c37 {m : yMo} (hu : u = 0 ∨ u = 1) (hT : yTo T N) (h : cNd T N u S m) (h10 : 0 ≤ gI S 10 ∧ gI S 10 ≤ 8) (hG : cGr S) : ∃ S' : yS, Y q (d + 3) 37 0 [vr 123] [] S js = yret q (vi (if ykm2 T m = 0 then -1 else ygr S (yvl T S m))) S' js ∧ yFr yWk S S' ∧ cNd T N u S' (if ykm2 T m = 0 then ynx T m else if ygr S (yvl T S m) < 0 then ywr (yxp T 62 m) 2 (ypl T m) else yxp T 62 m) := by
  obtain ⟨k1, k2⟩ := cNd_kind hT h
  rw [w37_0, k1, if_pos ⟨k2, by omega⟩]
  by_cases z : ykm2 T m = 0
  · obtain ⟨S', e1, e2, e3⟩ := nnext (q := q) (d := d + 2) (js := js) hu hT h (fun t b k hm => by
      subst hm
      have z : (T t).1 = 0 := z
      omega)
    rw [if_pos z, if_pos z, if_pos z, e1, YB_retv, w37_25]
    exact ⟨S', rfl, e2, e3⟩
  · obtain ⟨S', e1, e2, e3⟩ := c38 (q := q) (d := d) (js := js) hu hT h h10 hG
    rw [if_neg z, if_neg z, if_neg z, e1, YB_ret, w37_17]
    exact ⟨S', rfl, e2, e3⟩
end YNGL
end YNG
