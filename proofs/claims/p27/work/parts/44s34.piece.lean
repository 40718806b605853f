/-! taken from whole by wip/p27/slice.py: 9zzze.piece.lean.txt -/
section YTF
section YTFL
variable {q : yQ} {d : Nat} {js : List xO} {S : yS}
theorem c120 {side w n : Nat} (hs : 31 ≤ side ∧ side ≤ 33) (hw : w ≤ 60) (hn : n ≤ 60) : Y q d 120 0 [vr side, vi ((w : Int) - n)] [] S js = yret q (vi (yah side w n)) S js := by
  have e : yr ((w : Int) - n) = (w : Int) - n := yr_eq (by omega) (by omega)
  have n2 : ¬ yr 2 = 0 := by decide
  rw [w120_0, e]
  unfold yah
  by_cases z : w ≤ n
  · rw [if_neg (by omega), if_pos z]
    rfl
  · rw [if_pos (by omega), if_neg z, if_pos (show side < 67 ∧ 31 < 67 by omega)]
    by_cases z1 : side = 31
    · rw [if_pos z1, if_pos z1]
      rfl
    · rw [if_neg z1, if_neg z1, if_pos (show side < 67 ∧ 32 < 67 by omega)]
      by_cases z2 : side = 32
      · rw [if_pos z2, if_pos z2]
        have : (w : Int) - n = ((w - n : Nat) : Int) := by omega
        rw [this]
      · rw [if_neg z2, if_neg n2, if_neg z2]
        have : yidiv ((w : Int) - n) 2 = (((w - n) / 2 : Nat) : Int) := by
          have e2 : (w : Int) - n = ((w - n : Nat) : Int) := by omega
          rw [e2]
          have hm : w - n ≤ 60 := by omega
          generalize w - n = m at hm
          have key : ∀ m : Nat, m ≤ 60 → yidiv ((m : Nat) : Int) 2 = ((m / 2 : Nat) : Int) := by decide
          exact key m hm
        rw [this]
def ywid (w0 n : Nat) : Nat := if w0 = 0 then n else w0
theorem c119b {P h w line k0 i w0 side : Nat} {num : Bool} {l : List Int} (hP : 1 ≤ P ∧ P ≤ 30) (hh : h ≤ 40) (hw : w ≤ 60) (hl : line < h) (hk0 : k0 < 500000) (hw0 : w0 ≤ 60) (hs : 31 ≤ side ∧ side ≤ 33) (hi : i < 2000) (g29 : gI S 29 = P) (g28 : gI S 28 = h) (g27 : gI S 27 = w) (gn : gA S 27 i = w0) (gk : gC S 3 i = side) (hv : cV S 28 (.inr l)) : Y q (d + 2) 119 35 [vr 131, vi i, vi ((line : Int) + 1), vi ((k0 : Int) + 1), vi (yb1 num), vu, vu, vu, vu, vu, vu] [] S js = yret q (vi ((k0 : Int) + 1 + ywid w0 l.length)) (sAr S 33 (ywl (((P - 1) * h + line) * w) w k0 (ypbt num l (ywid w0 l.length) (yah side (ywid w0 l.length) l.length)) (ywid w0 l.length) 0 (gA S 33))) js := by
  obtain ⟨v1, v2, v3, v4⟩ := hv
  have hT : yT127 l := ⟨v3, fun j hj => by
    have := v4 j _ (List.getElem?_eq_getElem hj)
    rw [List.getD_eq_getElem?_getD, List.getElem?_eq_getElem hj]
    exact this.2⟩
  have hb : ∀ j, j < l.length → gA S 32 (1680 + j) = l.getD j 0 := fun j hj => by
    have := v4 j _ (List.getElem?_eq_getElem hj)
    rw [List.getD_eq_getElem?_getD, List.getElem?_eq_getElem hj]
    exact this.1
  have e28 : (yr 28).toNat = 28 := rfl
  have k28 : 0 ≤ yr 28 ∧ yr 28 < 92 := by decide
  have ei : yr (i : Int) = i := yr_eq (by omega) (by omega)
  have ki : 0 ≤ (i : Int) ∧ (i : Int) < 2000 := by omega
  have kk : (0 ≤ (i : Int) ∧ (i : Int) < 2000) ∧ side < 67 := by omega
  have ew : yr (w0 : Int) = w0 := yr_eq (by omega) (by omega)
  have el : yr (l.length : Int) = l.length := yr_eq (by omega) (by omega)
  have hwd : ywid w0 l.length ≤ 60 := by unfold ywid; split <;> omega
  have hah : yah side (ywid w0 l.length) l.length ≤ 60 := by
    unfold yah
    split
    · omega
    · split
      · omega
      · split <;> omega
  have fin : ∀ tl : Int, tl = (if num = true ∧ ywid w0 l.length < l.length then 1 else 0) → YB q (Y q (d + 1) 120 0 [vr side, vi ((ywid w0 l.length : Int) - l.length)] [] S js) (d + 1 + 1) 119 108 [vr 131, vi i, vi ((line : Int) + 1), vi ((k0 : Int) + 1), vi (yb1 num), vi (l.length : Int), vi (ywid w0 l.length), vi tl, vu, vu, vu] [] = yret q (vi ((k0 : Int) + 1 + ywid w0 l.length)) (sAr S 33 (ywl (((P - 1) * h + line) * w) w k0 (ypbt num l (ywid w0 l.length) (yah side (ywid w0 l.length) l.length)) (ywid w0 l.length) 0 (gA S 33))) js := by
    intro tl htl
    have lp := c119l (q := q) (d := d) (js := js) (x0 := (i : Int)) (nu := yb1 num) hP hh hw hl hk0 hwd hah hT htl (ywid w0 l.length) 0 S vu (Nat.zero_add _) g29 g28 g27 hb
    have lp : Y q (d + 2) 119 116 [vr 131, vi i, vi ((line : Int) + 1), vi ((k0 : Int) + 1), vi (yb1 num), vi (l.length : Int), vi (ywid w0 l.length), vi tl, vi (yah side (ywid w0 l.length) l.length), vi 0, vu] [] S js = _ := lp
    rw [c120 hs hwd v3, YB_ret, w119_111]
    exact lp
  have b0 : yr (yb1 false) = 0 := rfl
  have b1 : ¬ yr (yb1 true) = 0 := by decide
  rw [w119_35, if_pos k28, e28, ei, if_pos ki, Int.toNat_natCast, gn, gk, ew, v2, el]
  by_cases z : w0 = 0
  · have ez : ywid w0 l.length = l.length := if_pos z
    rw [ez] at fin ⊢
    rw [if_pos (by omega), if_neg (show ¬ (l.length : Int) < l.length by omega)]
    have f0 := fin 0 (by rw [if_neg (by omega)])
    cases num with
    | false =>
      rw [if_pos b0, if_pos kk]
      exact f0
    | true =>
      rw [if_neg b1, if_pos kk]
      exact f0
  · have ez : ywid w0 l.length = w0 := if_neg z
    rw [ez] at fin ⊢
    rw [if_neg (by omega), if_pos ki]
    cases num with
    | false =>
      rw [if_pos b0, if_pos kk]
      exact fin 0 (by rw [if_neg (fun y => Bool.noConfusion y.1)])
    | true =>
      rw [if_neg b1]
      by_cases z2 : w0 < l.length
      · rw [if_pos (by omega), if_pos kk]
        exact fin 1 (by rw [if_pos ⟨rfl, z2⟩])
      · rw [if_neg (by omega), if_pos kk]
        exact fin 0 (by rw [if_neg (fun y => z2 y.2)])
/-- what stands for a value when it is printed -/
def yptx (v : yVal) : List Int := match v with
  | .inl x => ydgt x
  | .inr l => l
def yisn (v : yVal) : Bool := match v with
  | .inl _ => true
  | .inr _ => false
theorem c119 {P h w line k0 i w0 side : Nat} {v : yVal} (hP : 1 ≤ P ∧ P ≤ 30) (hh : h ≤ 40) (hw : w ≤ 60) (hl : line < h) (hk0 : k0 < 500000) (hw0 : w0 ≤ 60) (hs : 31 ≤ side ∧ side ≤ 33) (hi : i < 2000) (g29 : gI S 29 = P) (g28 : gI S 28 = h) (g27 : gI S 27 = w) (gn : gA S 27 i = w0) (gk : gC S 3 i = side) (hv : cV S 28 v) : ∃ S1 : yS, Y q (d + 2) 119 0 [vr 131, vi i, vi ((line : Int) + 1), vi ((k0 : Int) + 1), vu, vu, vu, vu, vu, vu, vu] [] S js = yret q (vi ((k0 : Int) + 1 + ywid w0 (yptx v).length)) (sAr S1 33 (ywl (((P - 1) * h + line) * w) w k0 (ypbt (yisn v) (yptx v) (ywid w0 (yptx v).length) (yah side (ywid w0 (yptx v).length) (yptx v).length)) (ywid w0 (yptx v).length) 0 (gA S 33))) js ∧ yFs 28 S S1 ∧ (yptx v).length ≤ 60 := by
  have e28 : (yr 28).toNat = 28 := rfl
  have k28 : 0 ≤ yr 28 ∧ yr 28 < 92 := by decide
  have n1 : ¬ yr 1 = 0 := by decide
  match v, hv with
  | .inl x, hv =>
    obtain ⟨S1, a1, a2, a3⟩ := c84 (q := q) (d := d + 1) (js := js) (S := S) (n := 28) (mo := 0) (x := x) (by omega) (by omega) hv
    have a1 : Y q (d + 1) 84 0 [vr 124, vi 28, vi 0, vu, vu, vu, vu, vu, vu, vu, vu, vu] [] S js = yretv q S1 js := a1
    have a3 : cV S1 28 (.inr (ydgt x)) := a3
    have b := c119b (q := q) (d := d) (js := js) (S := S1) (i := i) (num := true) hP hh hw hl hk0 hw0 hs hi ((a2.1.1 29 rfl).trans g29) ((a2.1.1 28 rfl).trans g28) ((a2.1.1 27 rfl).trans g27) (by rw [a2.1.2.2.2.1 27 rfl]; exact gn) (by rw [a2.1.2.2.2.2.2 3 rfl]; exact gk) a3
    have b : Y q (d + 2) 119 35 [vr 131, vi i, vi ((line : Int) + 1), vi ((k0 : Int) + 1), vi 1, vu, vu, vu, vu, vu, vu] [] S1 js = _ := b
    refine ⟨S1, ?_, a2, a3.2.2.1⟩
    rw [w119_0, if_pos k28, e28, if_pos (by rw [hv.1]; rfl), if_neg n1, a1, YB_retv, b, a2.1.2.2.2.1 33 rfl]
    rfl
  | .inr l, hv =>
    have b := c119b (q := q) (d := d) (js := js) (S := S) (i := i) (num := false) hP hh hw hl hk0 hw0 hs hi g29 g28 g27 gn gk hv
    have b : Y q (d + 2) 119 35 [vr 131, vi i, vi ((line : Int) + 1), vi ((k0 : Int) + 1), vi 0, vu, vu, vu, vu, vu, vu] [] S js = _ := b
    refine ⟨S, ?_, yFs_rf _ _, hv.2.2.1⟩
    have n0 : ¬ yr (gA S 30 28) = 0 := by rw [hv.1]; decide
    have st : Y q (d + 2) 119 0 [vr 131, vi i, vi ((line : Int) + 1), vi ((k0 : Int) + 1), vu, vu, vu, vu, vu, vu, vu] [] S js = Y q (d + 2) 119 35 [vr 131, vi i, vi ((line : Int) + 1), vi ((k0 : Int) + 1), vi 0, vu, vu, vu, vu, vu, vu] [] S js := by
      rw [w119_0, if_pos k28, e28, if_neg n0, if_pos yr_0, w119_35, e28]
    rw [st, b]
    rfl
end YTFL
end YTF
