/-! THE REFERENCE's MACHINE: pushes, the loop's head -/
section YRQ
/-- a value that is kept (a let's, a total's) -/
def rVv (S : yS) (k : Nat) (v : yVal) : Prop := match v with
  | .inl x => gA S 59 k = -1 ∧ gB S 17 k = x
  | .inr l => gA S 59 k = l.length ∧ l.length ≤ 60 ∧ ∀ (i : Nat) (y : Int), l[i]? = some y → gA S 60 (60 * k + i) = y ∧ 0 ≤ y ∧ y ≤ 127
/-- a unit's texts, byte by byte -/
def rXt (S : yS) (u : Nat) (X : List (Nat × Nat)) (tx : Nat → Nat → List Int) (Tk : Nat → Nat → Prop) : Prop := X.length ≤ 2000 ∧ ∀ (k : Nat) (p : Nat × Nat), X[k]? = some p → gA S (10 + u) k = p.1 ∧ gA S (12 + u) k = p.2 ∧ (Tk p.1 p.2 → (tx p.1 p.2).length = p.2 ∧ p.2 ≤ 60 ∧ p.1 + p.2 ≤ 2000 ∧ ∀ (i : Nat) (y : Int), (tx p.1 p.2)[i]? = some y → gA S (8 + u) (p.1 + i) = y ∧ 0 ≤ y ∧ y ≤ 127)
def rsp (S : yS) (k : Nat) : Int64 := if yr (gI S 65) = 0 then 0 else if k = 0 then yi2l (gI S 68) else if k = 1 then gJ S 3 else yi2l (gI S 69)
def rCl (q : yQ) (d : Nat) (js : List xO) (S0 : yS) (A : Nat → Nat → Prop) (e : yEnv) : Prop := ∀ k : Nat, k < 8 → A 2 k → ∀ (S : yS) (n : Nat), yFr yWp S0 S → gI S 63 = n → n < 64 → ∃ S' : yS, Y q (d + 1) 264 0 [vr 129, vi k, vu, vu, vu] [] S js = yretv q S' js ∧ rPs n S S' (e 2 k)
def rEn (q : yQ) (d : Nat) (js : List xO) (S0 : yS) (A : Nat → Nat → Prop) (e : yEnv) : Prop := rCl q d js S0 A e ∧ (∀ op k, op = 3 ∨ op = 4 → k < 8 → A op k → rVv S0 (8 * (op - 3) + k) (e op k)) ∧ ∀ k, k ≤ 2 → A 5 k → e 5 k = .inl (rsp S0 k)
section YRQL
variable {q : yQ} {d : Nat} {js : List xO} {S S0 : yS} {n u : Nat}
theorem rsl_f {S' : yS} (hu : u = 0 ∨ u = 1 ∨ u = 2) (h : yFr yWp S S') : gA S' (rsl u) = gA S (rsl u) := by
  rcases hu with rfl | rfl | rfl
  · exact h.2.2.2.1 _ rfl
  · exact h.2.2.2.1 _ rfl
  · exact h.2.2.2.1 _ rfl
theorem r261l (hu : u = 0 ∨ u = 1 ∨ u = 2) {f len : Nat} (hn : n < 128) (hfl : (f : Int) + len ≤ rcp u) : ∀ (r : List Int) (i : Nat) (l : List Int) (S : yS), gI S 63 = n → rV S n (.inr l) → i + r.length = len → (∀ (j : Nat) (y : Int), r[j]? = some y → gA S (rsl u) (f + i + j) = y ∧ 0 ≤ y ∧ y ≤ 127) → ∃ S' : yS, Y q (d + 1) 261 11 [vr 129, vr (rth u), vi f, vi len, vi i] [] S js = yretv q S' js ∧ rPs n S S' (.inr ((l ++ r).take 60)) := by
  have hcap : rcp u ≤ 2000 := by rcases hu with rfl | rfl | rfl <;> decide
  have elen : yr (len : Int) = len := yr_eq (by omega) (by omega)
  intro r
  induction r with
  | nil =>
    intro i l S hp hv hi _
    have hi : i + 0 = len := hi
    have ei : yr (i : Int) = i := yr_eq (by omega) (by omega)
    rw [u261_11 hu, ei, elen, if_neg (by omega), hp, List.append_nil, List.take_of_length_le hv.2.1]
    exact ⟨_, rfl, rFs_63, by rw [gI_self]; omega, rV_63 hv⟩
  | cons y r ih =>
    intro i l S hp hv hi hb
    have hi : i + (r.length + 1) = len := hi
    have ei : yr (i : Int) = i := yr_eq (by omega) (by omega)
    have ex : yr ((f : Int) + i) = ((f + i : Nat) : Int) := by rw [yr_eq] <;> omega
    obtain ⟨b1, b2⟩ := hb 0 y rfl
    rw [Nat.add_zero] at b1
    obtain ⟨S1, a1, a2, a3, a4, _⟩ := r263 (q := q) (d := d) (js := js) hn hv b2
    have ep : (i : Int) + 1 = ((i + 1 : Nat) : Int) := by omega
    rw [u261_11 hu, ei, elen, if_pos (by omega), ex, if_pos (by omega), Int.toNat_natCast, b1, hp, a1, YB_retv, u261_31 hu, ep]
    obtain ⟨S', c1, c2, c3, c4⟩ := ih (i + 1) ((l ++ [y]).take 60) S1 (a3.trans hp) a4 (by omega) (fun j w hj => by
      rw [rsl_f hu a2.1, show f + (i + 1) + j = f + i + (j + 1) by omega]
      exact hb (j + 1) w hj)
    refine ⟨S', c1, rFs_tr a2 c2, c3, ?_⟩
    rw [ytake_app, List.append_assoc] at c4
    exact c4
theorem r261 (hu : u = 0 ∨ u = 1 ∨ u = 2) {f : Nat} {r : List Int} (hn : n < 128) (hfl : (f : Int) + r.length ≤ rcp u) (hr : r.length ≤ 60) (hp : gI S 63 = n) (hb : ∀ (j : Nat) (y : Int), r[j]? = some y → gA S (rsl u) (f + j) = y ∧ 0 ≤ y ∧ y ≤ 127) : ∃ S' : yS, Y q (d + 1) 261 0 [vr 129, vr (rth u), vi f, vi r.length, vu] [] S js = yretv q S' js ∧ rPs n S S' (.inr r) := by
  obtain ⟨S1, a1, a2, a3, a4, a5⟩ := r262 (q := q) (d := d) (js := js) (S := S) hn
  obtain ⟨S', c1, c2, c3, c4⟩ := r261l (q := q) (d := d) (js := js) hu (f := f) (len := r.length) hn hfl r 0 [] S1 (a3.trans hp) a5 (Nat.zero_add _) (fun j y hj => by rw [rsl_f hu a2.1, Nat.add_zero]; exact hb j y hj)
  refine ⟨S', ?_, rFs_tr a2 c2, c3, ?_⟩
  · rw [u261_0 hu, hp, a1, YB_retv, u261_8 hu]
    exact c1
  · rw [List.nil_append, List.take_of_length_le hr] at c4
    exact c4
theorem r265 {k : Nat} {v : yVal} (hn : n < 128) (hp : gI S 63 = n) (hk : k < 16) (hv : rVv S k v) : ∃ S' : yS, Y q (d + 2) 265 0 [vr 129, vi k] [] S js = yretv q S' js ∧ rPs n S S' v := by
  have ek : yr (k : Int) = k := yr_eq (by omega) (by omega)
  have k1 : 0 ≤ (k : Int) ∧ (k : Int) < 16 := by omega
  have em : yr (-1) = -1 := rfl
  match v, hv with
  | .inl x, hv =>
    obtain ⟨S', a1, a2⟩ := r260 (q := q) (d := d + 1) (js := js) (x := x) hn hp
    refine ⟨S', ?_, a2⟩
    rw [w265_0, ek, if_pos k1, Int.toNat_natCast, hv.1, em, if_pos rfl, if_pos k1, hv.2, a1, YB_retv, w265_20]
  | .inr l, hv =>
    obtain ⟨v1, v2, v3⟩ := hv
    obtain ⟨S', a1, a2⟩ := r261 (q := q) (d := d) (js := js) (u := 2) (f := 60 * k) (r := l) (Or.inr (Or.inr rfl)) hn (by show ((60 * k : Nat) : Int) + l.length ≤ 960; omega) v2 hp (fun j y hj => v3 j y hj)
    refine ⟨S', ?_, a2⟩
    have el : yr (l.length : Int) = l.length := yr_eq (by omega) (by omega)
    have ef : 60 * (k : Int) = ((60 * k : Nat) : Int) := by omega
    have a1 : Y q (d + 1) 261 0 [vr 129, vr 173, vi ((60 * k : Nat) : Int), vi l.length, vu] [] S js = yretv q S' js := a1
    rw [w265_0, ek, if_pos k1, Int.toNat_natCast, v1, el, em, if_neg (by omega), if_pos k1, ef, a1, YB_retv, w265_41]
theorem r266 {k : Nat} (hk : k ≤ 2) : Y q d 266 0 [vr 129, vi k] [] S js = yret q (vj (rsp S k)) S js := by
  have ek : yr (k : Int) = k := yr_eq (by omega) (by omega)
  have e1 : yr 1 = 1 := rfl
  rw [w266_0, ek, e1]
  unfold rsp
  by_cases z : yr (gI S 65) = 0
  · rw [if_pos z, if_pos z]
  · rw [if_neg z, if_neg z]
    by_cases z0 : k = 0
    · rw [if_pos (by omega), if_pos z0]
    · rw [if_neg (by omega), if_neg z0]
      by_cases z1 : k = 1
      · rw [if_pos (by omega), if_pos z1]
      · rw [if_neg (by omega), if_neg z1]
/-- what stands at the loop's head -/
theorem h258 {C : yCo} {pc op : Nat} {z : Int64} {x0 : Int} {x2 x3 : yV} (hu : u = 0 ∨ u = 1) (hK : rK S u C) (hC : C.length ≤ 8000) (hc : C[pc]? = some (op, z)) (ho : op < 30) : Y q (d + 1) 258 7 [vr 129, vr (ru u), vi x0, vi pc, x2, x3, vu] [] S js = if (op : Int) = 28 then Y q (d + 1) 258 7 [vr 129, vr (ru u), vi x0, vi (yl2i z), vi op, vj z, vu] [] S js else if (op : Int) = 29 then (if 0 ≤ yr ((gI S 63) - 1) ∧ yr ((gI S 63) - 1) < 128 then if yr (ylcmp (gB S 16 ((yr ((gI S 63) - 1)).toNat)) 0) = 0 then Y q (d + 1) 258 7 [vr 129, vr (ru u), vi x0, vi (yl2i z), vi op, vj z, vu] [] (sI S 63 ((gI S 63) - 1)) js else Y q (d + 1) 258 7 [vr 129, vr (ru u), vi x0, vi ((pc + 1 : Nat) : Int), vi op, vj z, vu] [] (sI S 63 ((gI S 63) - 1)) js else Y q (d + 1) 258 76 [vr 129, vr (ru u), vi x0, vi ((pc + 1 : Nat) : Int), vi op, vj z, vu] [vi ((gI S 63) - 1), vr 168] (sI S 63 ((gI S 63) - 1)) js) else if 5 < (op : Int) then if (op : Int) < 11 then YB q (Y q d 267 0 [vr 129, vi op, vu, vu, vu, vu] [] S js) (d + 1) 258 131 [vr 129, vr (ru u), vi x0, vi ((pc + 1 : Nat) : Int), vi op, vj z, vu] [] else if (op : Int) = 26 then YB q (Y q d 267 0 [vr 129, vi op, vu, vu, vu, vu] [] S js) (d + 1) 258 131 [vr 129, vr (ru u), vi x0, vi ((pc + 1 : Nat) : Int), vi op, vj z, vu] [] else if (op : Int) = 27 then YB q (Y q d 267 0 [vr 129, vi op, vu, vu, vu, vu] [] S js) (d + 1) 258 131 [vr 129, vr (ru u), vi x0, vi ((pc + 1 : Nat) : Int), vi op, vj z, vu] [] else if (op : Int) = 11 then YB q (Y q d 268 0 [vr 129, vu] [] S js) (d + 1) 258 145 [vr 129, vr (ru u), vi x0, vi ((pc + 1 : Nat) : Int), vi op, vj z, vu] [] else if (op : Int) < 18 then YB q (Y q d 269 0 [vr 129, vi ((op : Int) - 12), vu] [] S js) (d + 1) 258 164 [vr 129, vr (ru u), vi x0, vi ((pc + 1 : Nat) : Int), vi op, vj z, vu] [] else YB q (Y q d 271 0 [vr 129, vi op, vu, vu, vu, vu] [] S js) (d + 1) 258 173 [vr 129, vr (ru u), vi x0, vi ((pc + 1 : Nat) : Int), vi op, vj z, vu] [] else YB q (Y q d 259 0 [vr 129, vr (ru u), vi op, vj z, vu, vu] [] S js) (d + 1) 258 101 [vr 129, vr (ru u), vi x0, vi ((pc + 1 : Nat) : Int), vi op, vj z, vu] [] := by
  have hpc := (List.getElem?_eq_some_iff.mp hc).1
  obtain ⟨k3, k4⟩ := hK.2 pc _ hc
  have epc : yr (pc : Int) = pc := yr_eq (by omega) (by omega)
  have eo : yr (op : Int) = op := yr_eq (by omega) (by omega)
  have e30 : yr 30 = 30 := rfl
  have e28 : yr 28 = 28 := rfl
  have e29 : yr 29 = 29 := rfl
  have e5 : yr 5 = 5 := rfl
  have e11 : yr 11 = 11 := rfl
  have e26 : yr 26 = 26 := rfl
  have e27 : yr 27 = 27 := rfl
  have e18 : yr 18 = 18 := rfl
  have p4 : 0 ≤ (pc : Int) ∧ (pc : Int) < 8000 := by omega
  have p5 : ¬ (op : Int) = 30 := by omega
  have q2 : (pc : Int) + 1 = ((pc + 1 : Nat) : Int) := by omega
  rw [u258_7 hu, epc, if_pos p4, Int.toNat_natCast, k3, k4, eo, e30, if_neg p5, if_pos p4, if_pos p4, e28, e29, e5, e11, e26, e27, e18, q2]
theorem h258e {C : yCo} {pc : Nat} {x0 : Int} {x2 x3 : yV} {z : Int64} (hu : u = 0 ∨ u = 1) (hK : rK S u C) (hC : C.length ≤ 8000) (hc : C[pc]? = some (30, z)) : Y q (d + 1) 258 7 [vr 129, vr (ru u), vi x0, vi pc, x2, x3, vu] [] S js = yretv q S js := by
  have hpc := (List.getElem?_eq_some_iff.mp hc).1
  obtain ⟨k3, k4⟩ := hK.2 pc _ hc
  have epc : yr (pc : Int) = pc := yr_eq (by omega) (by omega)
  have p4 : 0 ≤ (pc : Int) ∧ (pc : Int) < 8000 := by omega
  rw [u258_7 hu, epc, if_pos p4, Int.toNat_natCast, k3, if_pos (show yr ((30 : Nat) : Int) = yr 30 from rfl)]
end YRQL
end YRQ
