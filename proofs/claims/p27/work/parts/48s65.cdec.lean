/-! taken from whole by wip/p27/slice2.py: 9zt.cdec.lean.txt -/
section YCH
def slp (G : yGx) (c : Nat → Bool) (g : yPS → yPS) : Nat → yPS → yPS
  | 0, σ => σ
  | f + 1, σ => if c (skd G σ) = true then slp G c g f (g σ) else σ
def sisD (kd : Nat) : Bool := decide (kd = 0 ∨ kd = 1 ∨ kd = 3 ∨ kd = 4 ∨ kd = 5)
def sdec (G : yGx) (σ : yPS) : yPS := if skd G σ = 0 then spage G σ else if skd G σ = 1 then sord G σ else if skd G σ = 3 then sgro G σ else if skd G σ = 4 then slet G σ else stot G σ
section YCHL
variable {q : yQ} {d : Nat} {js : List xO} {G : yGx} {σ σ' : yPS} {m : yMo} {S S' : yS} {a a' w : Int} {dp : Nat}
theorem yKr_d : ∀ kd : Nat, kd < 67 → (yr (yKr kd) = yr 8 ↔ sisD kd = true) := by decide
theorem yswv_d : ∀ kd : Nat, kd < 67 → sisD kd = true → (yswv kd = 7 ↔ kd = 0) ∧ (yswv kd = 8 ↔ kd = 1) ∧ (yswv kd = 9 ↔ kd = 3) ∧ (yswv kd = 10 ↔ kd = 4) := by decide
theorem k27 (hG : gOk G) (h : cP G a S σ) (h0 : sisD (skd G σ) = true) (hd : 170 ≤ d) : ∃ S' : yS, Y q (d + 5) 27 0 [vr 123] [] S js = yretv q S' js ∧ yFr yWD S S' ∧ cP G (a - 1) S' (sdec G σ) := by
  obtain ⟨k0, k1, k2⟩ := cP_kd hG h
  obtain ⟨s0, s1, s3, s4⟩ := yswv_d _ k1 h0
  have hle : skd G σ ≤ 64 := by
    have := of_decide_eq_true h0
    omega
  have st : Y q (d + 5) 27 0 [vr 123] [] S js = if yswv (skd G σ) = 7 then YB q (Y q (d + 4) 28 0 [vr 123] [] S js) (d + 5) 27 45 [vr 123] [] else if yswv (skd G σ) = 8 then YB q (Y q (d + 4) 31 0 [vr 123, vu, vu] [] S js) (d + 5) 27 52 [vr 123] [] else if yswv (skd G σ) = 9 then YB q (Y q (d + 4) 33 0 [vr 123, vu, vu] [] S js) (d + 5) 27 59 [vr 123] [] else if yswv (skd G σ) = 10 then YB q (Y q (d + 4) 34 0 [vr 123, vu, vu, vu, vu] [] S js) (d + 5) 27 66 [vr 123] [] else YB q (Y q (d + 4) 36 0 [vr 123, vu, vu, vu, vu, vu, vu, vu] [] S js) (d + 5) 27 73 [vr 123] [] := by
    rw [w27_0, k0, if_pos k1, w318_0, if_pos k1, YB_ret, w27_13, if_pos (yKo_rng _ k1)]
    rfl
  rw [st]
  unfold sdec
  by_cases z0 : skd G σ = 0
  · obtain ⟨S', e1, e2, e3⟩ := k28 (q := q) (d := d + 1) (js := js) hG h z0
    rw [if_pos (s0.mpr z0), if_pos z0, e1, YB_retv, w27_48]
    exact ⟨S', rfl, e2, e3⟩
  rw [if_neg (fun y => z0 (s0.mp y)), if_neg z0]
  by_cases z1 : skd G σ = 1
  · obtain ⟨S', e1, e2, e3⟩ := k31 (q := q) (d := d + 1) (js := js) hG h z1
    rw [if_pos (s1.mpr z1), if_pos z1, e1, YB_retv, w27_55]
    exact ⟨S', rfl, e2, e3⟩
  rw [if_neg (fun y => z1 (s1.mp y)), if_neg z1]
  by_cases z3 : skd G σ = 3
  · obtain ⟨S', e1, e2, e3⟩ := k33 (q := q) (d := d + 1) (js := js) hG h hle
    rw [if_pos (s3.mpr z3), if_pos z3, e1, YB_retv, w27_62]
    exact ⟨S', rfl, e2, e3⟩
  rw [if_neg (fun y => z3 (s3.mp y)), if_neg z3]
  by_cases z4 : skd G σ = 4
  · obtain ⟨S', e1, e2, e3⟩ := k34 (q := q) (d := d + 1) (js := js) hG h hle (by omega)
    rw [if_pos (s4.mpr z4), if_pos z4, e1, YB_retv, w27_69]
    exact ⟨S', rfl, e2, e3⟩
  · obtain ⟨S', e1, e2, e3⟩ := k36 (q := q) (d := d) (js := js) hG h hle hd
    rw [if_neg (fun y => z4 (s4.mp y)), if_neg z4, e1, YB_retv, w27_76]
    exact ⟨S', rfl, e2, e3⟩
theorem k26d (hG : gOk G) (hd : 170 ≤ d) : ∀ (n i : Nat) (σ : yPS) (S : yS), i + n = 2000 → cP G a S σ → ∃ S' : yS, Y q (d + 6) 26 16 [vr 123, vi i, vu, vu] [] S js = Y q (d + 6) 26 50 [vr 123, vi 0, vu, vu] [] S' js ∧ yFr yWD S S' ∧ cP G a S' (slp G sisD (sdec G) n σ)
  | 0, i, σ, S, hi, h => by
    have ei : yr (i : Int) = i := yr_eq (by omega) (by omega)
    have e2 : yr 2000 = 2000 := rfl
    rw [w26_16, ei, e2, if_neg (by omega)]
    exact ⟨S, rfl, yFr_rf _ _, h⟩
  | n + 1, i, σ, S, hi, h => by
    have ei : yr (i : Int) = i := yr_eq (by omega) (by omega)
    have e2 : yr 2000 = 2000 := rfl
    obtain ⟨k0, k1, k2⟩ := cP_kd hG h
    rw [w26_16, ei, e2, if_pos (by omega), k0, if_pos k1]
    show ∃ S' : yS, _ ∧ _ ∧ cP G a S' (if sisD (skd G σ) = true then slp G sisD (sdec G) n (sdec G σ) else σ)
    by_cases z : sisD (skd G σ) = true
    · obtain ⟨S1, e1, e2, e3⟩ := k27 (q := q) (d := d) (js := js) hG h z hd
      obtain ⟨S2, f1, f2, f3⟩ := k26d hG hd n (i + 1) (sdec G σ) S1 (by omega) (cP_a hG e3 (by omega))
      have f1 : Y q (d + 6) 26 16 [vr 123, vi ((i : Int) + 1), vu, vu] [] S1 js = Y q (d + 6) 26 50 [vr 123, vi 0, vu, vu] [] S2 js := f1
      rw [if_pos ((yKr_d _ k1).mpr z), if_pos z, e1, YB_retv, w26_42, f1]
      exact ⟨S2, rfl, yFr_tr e2 f2, f3⟩
    · rw [if_neg (fun y => z ((yKr_d _ k1).mp y)), if_neg z]
      exact ⟨S, rfl, yFr_rf _ _, h⟩
end YCHL
end YCH
