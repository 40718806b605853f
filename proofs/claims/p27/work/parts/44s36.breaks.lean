/-! taken from whole by wip/p27/slice.py: 9zzzj.breaks.lean.txt -/
section YTK
section YTKL
variable {q : yQ} {d : Nat} {js : List xO} {S : yS}
/-- the outermost group that breaks -/
def ybr (f : Nat → Int) (l : Nat → Nat) : Nat → Nat → Option Nat
  | 0, _ => none
  | n + 1, i => if f (l i) = 0 then ybr f l n (i + 1) else some i
def yinc (a b : Nat) (f : Nat → Int) : Nat → Int := fun j => if a ≤ j ∧ j < b then f j + 1 else f j
theorem yinc_0 {a : Nat} {f : Nat → Int} : yinc a a f = f := by
  funext j
  unfold yinc
  rw [if_neg (by omega)]
theorem yinc_s {i e : Nat} {f : Nat → Int} (h : i < e) : yinc (i + 1) e (yup f i (f i + 1)) = yinc i e f := by
  funext j
  unfold yinc
  rw [yup_eq]
  by_cases z : j = i
  · rw [if_neg (by omega), if_pos z, if_pos (by omega), z]
  · rw [if_neg z]
    by_cases y : i + 1 ≤ j ∧ j < e
    · rw [if_pos y, if_pos (by omega)]
    · rw [if_neg y, if_neg (by omega)]
theorem c125l {n : Nat} {x0 x1 : Int} (hn : n ≤ 3) : ∀ (m i : Nat) (S : yS), i + m = n → gI S 24 = n → Y q d 125 58 [vr 131, vi x0, vi x1, vi i] [] S js = yret q (vi x1) (sAr S 35 (yinc i n (gA S 35))) js
  | 0, i, S, h, g24 => by
    have hi : i = n := by omega
    rw [w125_58, g24, if_neg (by rw [yr_eq, yr_eq] <;> omega), hi, yinc_0, sAr_sf]
  | m + 1, i, S, h, g24 => by
    have ei : yr (i : Int) = i := yr_eq (by omega) (by omega)
    have en : yr (n : Int) = n := yr_eq (by omega) (by omega)
    have e1 : (i : Int) + 1 = ((i + 1 : Nat) : Int) := by omega
    have ih := c125l hn (x0 := x0) (x1 := x1) m (i + 1) (sA S 35 i (gA S 35 i + 1)) (by omega) g24
    rw [w125_58, g24, ei, en, if_pos (by omega), if_pos (by omega), if_pos (by omega), Int.toNat_natCast, e1, ih, sAr_sA, gA_yup, yinc_s (by omega)]
theorem c125 {Gs : List Nat} {p : Nat} {o : Nat → Nat} (hG : vG S Gs) (h3 : Gs.length ≤ 3) (hc : ∀ x, x ∈ Gs → (x : Int) < gI S 10) (h1 : gI S 10 ≤ 8) (hp : p < 40) (ho : ∀ i, i ≤ p → gA S 34 i = (o i : Nat) ∧ o i < 40) : Y q (d + 2) 125 0 [vr 131, vi p, vu, vu] [] S js = yret q (vi ((if p = 0 then 0 else (ybr (ycc S (o (p - 1)) (o p)) (fun g => Gs.getD g 0) Gs.length 0).getD Gs.length : Nat) : Int)) (sAr S 35 (yinc (if p = 0 then 0 else (ybr (ycc S (o (p - 1)) (o p)) (fun g => Gs.getD g 0) Gs.length 0).getD Gs.length) Gs.length (gA S 35))) js := by
  have g24 : gI S 24 = Gs.length := hG.1
  have ep : yr (p : Int) = p := yr_eq (by omega) (by omega)
  rw [w125_0]
  by_cases z : p = 0
  · have lp := c125l (q := q) (d := d + 2) (js := js) (x0 := (p : Int)) (x1 := 0) h3 Gs.length 0 S (Nat.zero_add _) g24
    rw [if_pos z, w125_2, ep, if_neg (by omega)]
    exact lp
  · rw [if_neg z]
    have loop : ∀ (m i : Nat), i + m = Gs.length → Y q (d + 2) 125 2 [vr 131, vi p, vi i, vu] [] S js = yret q (vi (((ybr (ycc S (o (p - 1)) (o p)) (fun g => Gs.getD g 0) m i).getD Gs.length : Nat) : Int)) (sAr S 35 (yinc ((ybr (ycc S (o (p - 1)) (o p)) (fun g => Gs.getD g 0) m i).getD Gs.length) Gs.length (gA S 35))) js := by
      intro m
      induction m with
      | zero =>
        intro i hi
        have lp := c125l (q := q) (d := d + 2) (js := js) (x0 := (p : Int)) (x1 := (i : Int)) h3 0 i S hi g24
        have hi : i = Gs.length := by omega
        rw [w125_2, ep, if_pos (by omega), g24, if_neg (by rw [yr_eq, yr_eq] <;> omega), lp, hi]
        rfl
      | succ m ih =>
        intro i hi
        have ei : yr (i : Int) = i := yr_eq (by omega) (by omega)
        have en : yr (Gs.length : Int) = Gs.length := yr_eq (by omega) (by omega)
        have e1 : (i : Int) + 1 = ((i + 1 : Nat) : Int) := by omega
        have em : (p : Int) - 1 = ((p - 1 : Nat) : Int) := by omega
        have emy : yr ((p - 1 : Nat) : Int) = ((p - 1 : Nat) : Int) := yr_eq (by omega) (by omega)
        have gg := yLs_D hG 0 (j := i) (by omega)
        have gg : gA S 25 i = ((Gs.getD i 0 : Nat) : Int) := gg
        have hmem : Gs.getD i 0 ∈ Gs := by
          rw [List.getD_eq_getElem?_getD, List.getElem?_eq_getElem (by omega)]
          exact List.getElem_mem (by omega)
        obtain ⟨o1, o2⟩ := ho (p - 1) (by omega)
        obtain ⟨o3, o4⟩ := ho p (Nat.le_refl _)
        have r := ycc_r (S := S) (o (p - 1)) (o p) (Gs.getD i 0)
        have h139 := c139 (q := q) (d := d) (js := js) (S := S) o2 o4 (hc _ hmem) h1
        rw [w125_2, ep, if_pos (by omega), g24, ei, en, if_pos (by omega), em, emy, if_pos (by omega), if_pos (by omega), if_pos (by omega), Int.toNat_natCast, Int.toNat_natCast, Int.toNat_natCast, o1, o3, gg, h139, YB_ret, w125_47, yr_eq (by omega) (by omega)]
        unfold ybr
        by_cases y : ycc S (o (p - 1)) (o p) (Gs.getD i 0) = 0
        · rw [if_pos y, if_pos y, e1]
          exact ih (i + 1) (by omega)
        · have lp := c125l (q := q) (d := d + 2) (js := js) (x0 := (p : Int)) (x1 := (i : Int)) h3 (m + 1) i S hi g24
          rw [if_neg y, if_neg y]
          exact lp
    exact loop Gs.length 0 (Nat.zero_add _)
end YTKL
end YTK
