/-! taken from whole by wip/p27/slice.py: 9zzzd.print.lean.txt -/
section YTE
/-- one byte at a place of a line, if the line is so long -/
def yw1 (B W k : Nat) (c : Int) (f : Nat → Int) : Nat → Int := if k < W then yup f (B + k) c else f
def ywl (B W k0 : Nat) (bf : Nat → Int) : Nat → Nat → (Nat → Int) → Nat → Int
  | 0, _, f => f
  | n + 1, i, f => ywl B W k0 bf n (i + 1) (yw1 B W (k0 + i) (bf i) f)
/-- the bytes of a piece -/
def ypbt (num : Bool) (l : List Int) (w ah : Nat) (i : Nat) : Int := if num = true ∧ w < l.length then 42 else if i < ah then 32 else if i - ah < l.length then l.getD (i - ah) 0 else 32
def yah (side w n : Nat) : Nat := if w ≤ n then 0 else if side = 31 then 0 else if side = 32 then w - n else (w - n) / 2
def yT127 (l : List Int) : Prop := l.length ≤ 60 ∧ ∀ i, i < l.length → 0 ≤ l.getD i 0 ∧ l.getD i 0 ≤ 127
theorem ypbt_r {num : Bool} {l : List Int} {w ah i : Nat} (h : yT127 l) : 0 ≤ ypbt num l w ah i ∧ ypbt num l w ah i ≤ 127 := by
  unfold ypbt
  split
  · omega
  · split
    · omega
    · split
      · rename_i z
        exact h.2 _ z
      · omega
section YTEL
variable {q : yQ} {d : Nat} {js : List xO} {S : yS}
theorem sAr_w1 {B W k s : Nat} {c : Int} : (if k < W then sA S s (B + k) c else S) = sAr S s (yw1 B W k c (gA S s)) := by
  unfold yw1
  by_cases z : k < W
  · rw [if_pos z, if_pos z]
    rfl
  · rw [if_neg z, if_neg z, sAr_sf]
/-- where a line begins -/
theorem yB_lt {P h w line : Nat} (hP : 1 ≤ P ∧ P ≤ 30) (hh : h ≤ 40) (hw : w ≤ 60) (hl : line < h) : ((P - 1) * h + line) * w + w ≤ 72000 := by
  have h1 : (P - 1) * h ≤ 29 * h := Nat.mul_le_mul_right _ (by omega)
  have h2 : ((P - 1) * h + line + 1) * w ≤ 1200 * w := Nat.mul_le_mul_right _ (by omega)
  have h3 : ((P - 1) * h + line + 1) * w = ((P - 1) * h + line) * w + w := by rw [Nat.add_mul, Nat.one_mul]
  omega
theorem c94 {P h w line k : Nat} {b : Int} (g29 : gI S 29 = P) (g28 : gI S 28 = h) (g27 : gI S 27 = w) (hP : 1 ≤ P ∧ P ≤ 30) (hh : h ≤ 40) (hw : w ≤ 60) (hl : line < h) (hk : k < 1000000) (hb : 0 ≤ b ∧ b ≤ 127) : Y q (d + 1) 94 0 [vr 129, vi ((line : Int) + 1), vi ((k : Int) + 1), vi b] [] S js = yretv q (sAr S 33 (yw1 (((P - 1) * h + line) * w) w k b (gA S 33))) js := by
  have hx := c95 (q := q) (d := d) (js := js) (S := S) (p := (P : Int)) (l := (line : Int) + 1) (by omega) (by omega) (by omega)
  have e28 : yr (gI S 28) = h := by rw [g28]; exact yr_eq (by omega) (by omega)
  have hB := yB_lt hP hh hw hl
  have e1 : yr 1 = 1 := rfl
  have ek : yr ((k : Int) + 1) = k + 1 := yr_eq (by omega) (by omega)
  have ew : yr (w : Int) = w := yr_eq (by omega) (by omega)
  have b1 : yi2b b = b := yi2b_eq (by omega)
  have bb : yi2b (yi2b b) = b := by rw [b1, b1]
  rw [← sAr_w1, w94_0, g29, hx, YB_ret, w94_9, g29, e28, yb, if_pos (show 1 ≤ (P : Int) ∧ (P : Int) ≤ P ∧ 1 ≤ (line : Int) + 1 ∧ (line : Int) + 1 ≤ h by omega), if_neg (show ¬ yr 1 = 0 by decide), ek, e1, if_neg (by omega), g27, ew]
  by_cases z : k < w
  · have ei : ((((P : Int) - 1) * (h : Int) + ((line : Int) + 1) - 1) * (w : Int) + ((k : Int) + 1) - 1) = (((((P - 1) * h + line) * w + k : Nat)) : Int) := by
      have eP : ((P - 1 : Nat) : Int) = (P : Int) - 1 := by omega
      rw [Int.natCast_add, Int.natCast_mul, Int.natCast_add, Int.natCast_mul, eP]
      have : ((P : Int) - 1) * (h : Int) + ((line : Int) + 1) - 1 = ((P : Int) - 1) * h + line := by omega
      rw [this]
      omega
    rw [if_neg (by omega), if_pos z, w92_0, g28, g27, ei, YB_ret, w94_39, yr_eq (by omega) (by omega), if_pos (by omega), Int.toNat_natCast, bb]
  · rw [if_pos (by omega), if_neg z]
/-- a piece, byte by byte -/
theorem c119l {P h w line k0 : Nat} {x0 : Int} {num : Bool} {l : List Int} {wd ah : Nat} (hP : 1 ≤ P ∧ P ≤ 30) (hh : h ≤ 40) (hw : w ≤ 60) (hl : line < h) (hk0 : k0 < 500000) (hwd : wd ≤ 60) (hah : ah ≤ 60) (hT : yT127 l) {tl : Int} (htl : tl = if num = true ∧ wd < l.length then 1 else 0) {nu : Int} : ∀ (n i : Nat) (S : yS) (x9 : yV), i + n = wd → gI S 29 = P → gI S 28 = h → gI S 27 = w → (∀ j, j < l.length → gA S 32 (1680 + j) = l.getD j 0) → Y q (d + 2) 119 116 [vr 131, vi x0, vi ((line : Int) + 1), vi ((k0 : Int) + 1), vi nu, vi (l.length : Int), vi wd, vi tl, vi ah, vi i, x9] [] S js = yret q (vi ((k0 : Int) + 1 + wd)) (sAr S 33 (ywl (((P - 1) * h + line) * w) w k0 (ypbt num l wd ah) n i (gA S 33))) js
  | 0, i, S, x9, hi, g29, g28, g27, hb => by
    rw [w119_116, if_neg (by rw [yr_eq, yr_eq] <;> omega)]
    show _ = yret q _ (sAr S 33 (gA S 33)) js
    rw [sAr_sf]
  | n + 1, i, S, x9, hi, g29, g28, g27, hb => by
    have l60 := hT.1
    have ei : yr (i : Int) = i := yr_eq (by omega) (by omega)
    have ew : yr (wd : Int) = wd := yr_eq (by omega) (by omega)
    have ea : yr (ah : Int) = ah := yr_eq (by omega) (by omega)
    have el : yr (l.length : Int) = l.length := yr_eq (by omega) (by omega)
    have e1 : (i : Int) + 1 = ((i + 1 : Nat) : Int) := by omega
    have ek : (k0 : Int) + 1 + i = ((k0 + i : Nat) : Int) + 1 := by omega
    have hr := ypbt_r (num := num) (l := l) (w := wd) (ah := ah) (i := i) hT
    have wr := c94 (q := q) (d := d) (js := js) (S := S) (line := line) (k := k0 + i) (b := ypbt num l wd ah i) g29 g28 g27 hP hh hw hl (by omega) hr
    have ih := fun x9 => c119l hP hh hw hl hk0 hwd hah hT htl (x0 := x0) (nu := nu) n (i + 1) (sAr S 33 (yw1 (((P - 1) * h + line) * w) w (k0 + i) (ypbt num l wd ah i) (gA S 33))) x9 (by omega) g29 g28 g27 hb
    have go : ∀ (b : Int) (x9 : yV), b = ypbt num l wd ah i → YB q (Y q (d + 1) 94 0 [vr 129, vi ((line : Int) + 1), vi ((k0 : Int) + 1 + i), vi b] [] S js) (d + 1 + 1) 119 183 [vr 131, vi x0, vi ((line : Int) + 1), vi ((k0 : Int) + 1), vi nu, vi (l.length : Int), vi wd, vi tl, vi ah, vi i, vi b] [] = yret q (vi ((k0 : Int) + 1 + wd)) (sAr S 33 (ywl (((P - 1) * h + line) * w) w k0 (ypbt num l wd ah) (n + 1) i (gA S 33))) js := by
      intro b x9 hbq
      rw [hbq, ek, wr, YB_retv, w119_186, e1, ih, gAr_self, sAr_Ar]
      rfl
    rw [w119_116, ei, ew, if_pos (by omega)]
    by_cases z : num = true ∧ wd < l.length
    · have et : tl = 1 := by rw [htl, if_pos z]
      rw [et] at go ⊢
      rw [if_neg (by decide)]
      exact go 42 vu (by unfold ypbt; rw [if_pos z])
    · have et : tl = 0 := by rw [htl, if_neg z]
      rw [et] at go ⊢
      rw [if_pos yr_0, ea]
      by_cases z1 : i < ah
      · rw [if_pos (by omega)]
        exact go 32 vu (by unfold ypbt; rw [if_neg z, if_pos z1])
      · have es : (i : Int) - ah = ((i - ah : Nat) : Int) := by omega
        rw [if_neg (by omega), es, yr_eq (by omega) (by omega), el]
        by_cases z2 : i - ah < l.length
        · have e28 : (28 : Int) * 60 + ((i - ah : Nat) : Int) = ((1680 + (i - ah) : Nat) : Int) := by omega
          rw [if_pos (by omega), w86_0, e28, yr_eq (by omega) (by omega), if_pos (by omega), Int.toNat_natCast, hb _ z2, YB_ret, w119_170]
          exact go _ vu (by unfold ypbt; rw [if_neg z, if_neg z1, if_pos z2])
        · rw [if_neg (by omega)]
          exact go 32 vu (by unfold ypbt; rw [if_neg z, if_neg z1, if_neg z2])
end YTEL
end YTE
