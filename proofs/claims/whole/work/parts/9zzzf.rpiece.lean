/-! RUN: the reference prints a piece -/
section YTG
def ysd (way : Nat) (num : Bool) : Nat := if way = 0 then (if num = true then 32 else 31) else 30 + way
theorem ywl_cg {B W k0 : Nat} {bf bg : Nat → Int} : ∀ (n i : Nat) (f : Nat → Int), (∀ j, i ≤ j → j < i + n → bf j = bg j) → ywl B W k0 bf n i f = ywl B W k0 bg n i f
  | 0, i, f, h => rfl
  | n + 1, i, f, h => by
    unfold ywl
    rw [h i (by omega) (by omega)]
    exact ywl_cg n (i + 1) _ fun j h1 h2 => h j (by omega) (by omega)
section YTGL
variable {q : yQ} {d : Nat} {js : List xO} {S : yS}
theorem r289 {B w k : Nat} {b : Int} (g54 : gI S 54 = w) (hw : w ≤ 60) (hB : B + w ≤ 72000) (hk : k < 1000000) : Y q d 289 0 [vr 129, vi B, vi k, vi b] [] S js = yretv q (sAr S 64 (yw1 B w k b (gA S 64))) js := by
  have ek : yr (k : Int) = k := yr_eq (by omega) (by omega)
  have ew : yr (w : Int) = w := yr_eq (by omega) (by omega)
  have e : (B : Int) + k = ((B + k : Nat) : Int) := by omega
  rw [← sAr_w1, w289_0, g54, ek, ew, e]
  by_cases z : k < w
  · rw [if_pos (by omega), yr_eq (by omega) (by omega), if_pos (by omega), Int.toNat_natCast, if_pos z]
  · rw [if_neg (by omega), if_neg z]
theorem r288s {B w k0 : Nat} {l : List Int} {x2 x3 x4 : Int} (hw : w ≤ 60) (hB : B + w ≤ 72000) (hk0 : k0 < 500000) (hT : yT127 l) : ∀ (m i : Nat) (S : yS), i + m = l.length → gI S 54 = w → (∀ j, j < l.length → gA S 58 j = l.getD j 0) → Y q (d + 1) 288 54 [vr 129, vi B, vi k0, vi x2, vi x3, vi x4, vi (l.length : Int), vi i, vu, vu, vu] [] S js = yret q (vi ((k0 : Int) + l.length)) (sAr S 64 (ywl B w k0 (fun j => l.getD j 0) m i (gA S 64))) js
  | 0, i, S, hi, g54, hb => by
    have := hT.1
    rw [w288_54, if_neg (by rw [yr_eq, yr_eq] <;> omega)]
    show _ = yret q _ (sAr S 64 (gA S 64)) js
    rw [sAr_sf]
  | m + 1, i, S, hi, g54, hb => by
    have l60 := hT.1
    have ei : yr (i : Int) = i := yr_eq (by omega) (by omega)
    have el : yr (l.length : Int) = l.length := yr_eq (by omega) (by omega)
    have e1 : (i : Int) + 1 = ((i + 1 : Nat) : Int) := by omega
    have ek : (k0 : Int) + i = ((k0 + i : Nat) : Int) := by omega
    have wr := r289 (q := q) (d := d) (js := js) (S := S) (B := B) (w := w) (k := k0 + i) (b := l.getD i 0) g54 hw hB (by omega)
    have ih := r288s (x2 := x2) (x3 := x3) (x4 := x4) hw hB hk0 hT m (i + 1) (sAr S 64 (yw1 B w (k0 + i) (l.getD i 0) (gA S 64))) (by omega) g54 hb
    rw [w288_54, ei, el, if_pos (by omega), if_pos (by omega), Int.toNat_natCast, hb i (by omega), ek, wr, YB_retv, w288_77, e1, ih, gAr_self, sAr_Ar]
    rfl
theorem r288f {B w k0 wd ah sz : Nat} {num : Bool} {l : List Int} {x3 fl : Int} (hw : w ≤ 60) (hB : B + w ≤ 72000) (hk0 : k0 < 500000) (hT : yT127 l) (hwd : wd ≤ 60) (hsz : sz = if wd < l.length then wd else l.length) (hah : ah = 0 ∨ ah + l.length ≤ wd) (hah2 : wd < l.length → ah = 0) (hfl : fl = if wd < l.length then 1 else 0) : ∀ (m i : Nat) (S : yS), i + m = wd → gI S 54 = w → (∀ j, j < l.length → gA S 58 j = l.getD j 0) → Y q (d + 1) 288 153 [vr 129, vi B, vi k0, vi wd, vi x3, vi (yb1 num), vi (l.length : Int), vi fl, vi sz, vi ah, vi i] [] S js = yret q (vi ((k0 : Int) + wd)) (sAr S 64 (ywl B w k0 (ypbt num l wd ah) m i (gA S 64))) js
  | 0, i, S, hi, g54, hb => by
    rw [w288_153, if_neg (by rw [yr_eq, yr_eq] <;> omega)]
    show _ = yret q _ (sAr S 64 (gA S 64)) js
    rw [sAr_sf]
  | m + 1, i, S, hi, g54, hb => by
    have l60 := hT.1
    have ei : yr (i : Int) = i := yr_eq (by omega) (by omega)
    have ew : yr (wd : Int) = wd := yr_eq (by omega) (by omega)
    have ea : yr (ah : Int) = ah := yr_eq (by omega) (by omega)
    have hs60 : sz ≤ 60 := by rw [hsz]; split <;> omega
    have es : (ah : Int) + sz = ((ah + sz : Nat) : Int) := by omega
    have ees : yr ((ah + sz : Nat) : Int) = ((ah + sz : Nat) : Int) := yr_eq (by omega) (by omega)
    have e1 : (i : Int) + 1 = ((i + 1 : Nat) : Int) := by omega
    have ek : (k0 : Int) + i = ((k0 + i : Nat) : Int) := by omega
    have ih := r288f (x3 := x3) (num := num) hw hB hk0 hT hwd hsz hah hah2 hfl m (i + 1) (sAr S 64 (yw1 B w (k0 + i) (ypbt num l wd ah i) (gA S 64))) (by omega) g54 hb
    have go : ∀ b : Int, b = ypbt num l wd ah i → YB q (Y q d 289 0 [vr 129, vi B, vi ((k0 : Int) + i), vi b] [] S js) (d + 1) 288 212 [vr 129, vi B, vi k0, vi wd, vi x3, vi (yb1 num), vi (l.length : Int), vi fl, vi sz, vi ah, vi i] [] = yret q (vi ((k0 : Int) + wd)) (sAr S 64 (ywl B w k0 (ypbt num l wd ah) (m + 1) i (gA S 64))) js := by
      intro b hbq
      have wr := r289 (q := q) (d := d) (js := js) (S := S) (B := B) (w := w) (k := k0 + i) (b := b) g54 hw hB (by omega)
      rw [ek, wr, hbq, YB_retv, w288_215, e1, ih, gAr_self, sAr_Ar]
      rfl
    have b0 : yr (yb1 false) = 0 := rfl
    have b1 : ¬ yr (yb1 true) = 0 := by decide
    rw [w288_153, ei, ew, if_pos (by omega), ea, es, ees]
    by_cases z1 : i < ah
    · rw [if_pos (by omega)]
      refine go 32 ?_
      unfold ypbt
      rw [if_neg (fun y => by have := hah2 y.2; omega), if_pos z1]
    · rw [if_neg (by omega)]
      by_cases z2 : i < ah + sz
      · have ed : (i : Int) - ah = ((i - ah : Nat) : Int) := by omega
        have hlt : i - ah < l.length := by
          rw [hsz] at z2
          split at z2 <;> omega
        rw [if_pos (by omega), ed, yr_eq (x := ((i - ah : Nat) : Int)) (by omega) (by omega), Int.toNat_natCast, hb _ hlt]
        have kk : 0 ≤ ((i - ah : Nat) : Int) ∧ ((i - ah : Nat) : Int) < 7680 := by omega
        have plain : ¬ (num = true ∧ wd < l.length) → l.getD (i - ah) 0 = ypbt num l wd ah i := fun z => by
          unfold ypbt
          rw [if_neg z, if_neg z1, if_pos hlt]
        cases num with
        | false =>
          rw [if_pos b0, if_pos kk]
          exact go _ (plain (fun y => Bool.noConfusion y.1))
        | true =>
          rw [if_neg b1]
          by_cases z3 : wd < l.length
          · have ef : ¬ yr fl = 0 := by rw [hfl, if_pos z3]; decide
            rw [if_neg ef]
            refine go 42 ?_
            unfold ypbt
            rw [if_pos ⟨rfl, z3⟩]
          · have ef : yr fl = 0 := by rw [hfl, if_neg z3]; rfl
            rw [if_pos ef, if_pos kk]
            exact go _ (plain (fun y => z3 y.2))
      · rw [if_neg (by omega)]
        have hge : ¬ wd < l.length := fun y => by
          have := hah2 y
          rw [hsz, if_pos y] at z2
          omega
        rw [hsz, if_neg hge] at z2
        refine go 32 ?_
        unfold ypbt
        rw [if_neg (fun y => hge y.2), if_neg z1, if_neg (by omega)]
end YTGL
end YTG
