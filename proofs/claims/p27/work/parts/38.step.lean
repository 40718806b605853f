/-! THE FLAT MACHINE's STEPS: those that ask nothing; printed by wip/whole/y/gen38.py -/
section YE
def ycat1 (v : yV) : Bool := match v with
  | .inl _ => true
  | .inr (.inr (.inl _)) => true
  | _ => false
def ycat2 (v : yV) : Bool := match v with
  | .inr (.inl _) => true
  | .inr (.inr (.inr (.inl _))) => true
  | _ => false
def yst (L : List yV) (i : Nat) (v : yV) : List yV := match i with
  | 0 => L.set 0 v
  | j + 1 => match L[j]? with
    | some (.inr (.inl _)) => (L.set j vu).set (j + 1) v
    | some (.inr (.inr (.inr (.inl _)))) => (L.set j vu).set (j + 1) v
    | _ => L.set (j + 1) v
def yst2 (L : List yV) (i : Nat) (v : yV) : List yV := (yst L i v).set (i + 1) vu
def yi2l (x : Int) : Int64 := (Int32.ofInt x).toInt64
def yl2i (x : Int64) : Int := x.toInt32.toInt
def yi2b (x : Int) : Int := (Int32.ofInt x).toInt8.toInt32.toInt
def yi2c (x : Int) : Int := ((Int32.ofInt x).toUInt32 % 65536).toInt32.toInt
def yand (x y : Int) : Int := (Int32.ofInt x &&& Int32.ofInt y).toInt
def yor (x y : Int) : Int := (Int32.ofInt x ||| Int32.ofInt y).toInt
def yshl (x y : Int) : Int := (Int32.ofInt x <<< (Int32.ofInt y &&& 31)).toInt
def yshr (x y : Int) : Int := (Int32.ofInt x >>> (Int32.ofInt y &&& 31)).toInt
def yushr (x y : Int) : Int := ((Int32.ofInt x).toUInt32 >>> ((Int32.ofInt y).toUInt32 &&& Int32.toUInt32 31)).toInt32.toInt
def yidiv (x y : Int) : Int := (Int32.ofInt x / Int32.ofInt y).toInt
def yirem (x y : Int) : Int := (Int32.ofInt x - Int32.ofInt x / Int32.ofInt y * Int32.ofInt y).toInt
def ylrem (x y : Int64) : Int64 := x - x / y * y
def ylshl (x : Int64) (y : Int) : Int64 := x <<< ((Int32.ofInt y).toInt64 &&& 63)
def ylshr (x : Int64) (y : Int) : Int64 := x >>> ((Int32.ofInt y).toInt64 &&& 63)
def ylushr (x : Int64) (y : Int) : Int64 := (x.toUInt64 >>> ((Int32.ofInt y).toInt64.toUInt64 &&& Int64.toUInt64 63)).toInt64
def ylcmp (x y : Int64) : Int := (lg_cmp x y).toInt
def ysml (b : Nat) (n : Int) : Bool := match n with
  | .ofNat m => Nat.blt m b
  | .negSucc m => Nat.blt m b
abbrev yR3 : Type := Option (Nat × List yV × List yV)
def yplain (cs : Nat → Option Value) (i : Instr) (L st : List yV) : yR3 := match i with
  | .ldc j => (match cs j with | some (.int x) => some (2, L, .inl x.toInt :: st) | some (.ref a) => some (2, L, vr a :: st) | _ => none)
  | .ldc2_w j => (match cs j with | some (.long x) => some (3, L, vj x :: st) | _ => none)
  | .iconst n => (some (1, L, .inl n :: st))
  | .lconst n => (some (1, L, vj (Int64.ofNat (n : Nat)) :: st))
  | .dconst n => (match n with | 0 => some (1, L, vd FP.dconst0 :: st) | _ => none)
  | .bipush n => (match ysml 128 n with | true => some (2, L, .inl n :: st) | false => none)
  | .sipush n => (match ysml 32768 n with | true => some (3, L, .inl n :: st) | false => none)
  | .iload_n i => (match L[(i : Nat)]? with | some (.inl x) => some (1, L, .inl x :: st) | _ => none)
  | .iload i => (match L[i]? with | some (.inl x) => some (2, L, .inl x :: st) | _ => none)
  | .lload_n i => (match L[(i : Nat)]? with | some (.inr (.inl x)) => some (1, L, vj x :: st) | _ => none)
  | .lload i => (match L[i]? with | some (.inr (.inl x)) => some (2, L, vj x :: st) | _ => none)
  | .dload i => (match L[i]? with | some (.inr (.inr (.inr (.inl x)))) => some (2, L, vd x :: st) | _ => none)
  | .aload_n i => (match L[(i : Nat)]? with | some (.inr (.inr (.inl x))) => some (1, L, vr x :: st) | _ => none)
  | .aload i => (match L[i]? with | some (.inr (.inr (.inl x))) => some (2, L, vr x :: st) | _ => none)
  | .istore_n i => (match st with | .inl x :: r => (match Nat.blt (i : Nat) L.length with | true => some (1, yst L (i : Nat) (.inl x), r) | false => none) | _ => none)
  | .istore i => (match st with | .inl x :: r => (match Nat.blt i L.length with | true => some (2, yst L i (.inl x), r) | false => none) | _ => none)
  | .lstore_n i => (match st with | .inr (.inl x) :: r => (match Nat.blt ((i : Nat) + 1) L.length with | true => some (1, yst2 L (i : Nat) (vj x), r) | false => none) | _ => none)
  | .lstore i => (match st with | .inr (.inl x) :: r => (match Nat.blt (i + 1) L.length with | true => some (2, yst2 L i (vj x), r) | false => none) | _ => none)
  | .dstore i => (match st with | .inr (.inr (.inr (.inl x))) :: r => (match Nat.blt (i + 1) L.length with | true => some (2, yst2 L i (vd x), r) | false => none) | _ => none)
  | .astore_n i => (match st with | .inr (.inr (.inl x)) :: r => (match Nat.blt (i : Nat) L.length with | true => some (1, yst L (i : Nat) (vr x), r) | false => none) | _ => none)
  | .astore i => (match st with | .inr (.inr (.inl x)) :: r => (match Nat.blt i L.length with | true => some (2, yst L i (vr x), r) | false => none) | _ => none)
  | .iinc i n => (match L[i]? with | some (.inl x) => some (3, yst L i (.inl (x + n)), st) | _ => none)
  | .pop => (match st with | v :: r => (match ycat1 v with | true => some (1, L, r) | false => none) | _ => none)
  | .dup => (match st with | v :: r => (match ycat1 v with | true => some (1, L, v :: v :: r) | false => none) | _ => none)
  | .dup_x1 => (match st with | v :: u :: r => (match ycat1 v, ycat1 u with | true, true => some (1, L, v :: u :: v :: r) | _, _ => none) | _ => none)
  | .dup2 => (match st with | v :: r => (match ycat2 v with | true => some (1, L, v :: v :: r) | false => (match r with | u :: r2 => (match ycat1 v, ycat1 u with | true, true => some (1, L, v :: u :: v :: u :: r2) | _, _ => none) | _ => none)) | _ => none)
  | .iadd => (match st with | .inl y :: .inl x :: r => some (1, L, .inl (x + y) :: r) | _ => none)
  | .isub => (match st with | .inl y :: .inl x :: r => some (1, L, .inl (x - y) :: r) | _ => none)
  | .imul => (match st with | .inl y :: .inl x :: r => some (1, L, .inl (x * y) :: r) | _ => none)
  | .iand => (match st with | .inl y :: .inl x :: r => some (1, L, .inl (yand x y) :: r) | _ => none)
  | .ior => (match st with | .inl y :: .inl x :: r => some (1, L, .inl (yor x y) :: r) | _ => none)
  | .ishl => (match st with | .inl y :: .inl x :: r => some (1, L, .inl (yshl x y) :: r) | _ => none)
  | .ishr => (match st with | .inl y :: .inl x :: r => some (1, L, .inl (yshr x y) :: r) | _ => none)
  | .iushr => (match st with | .inl y :: .inl x :: r => some (1, L, .inl (yushr x y) :: r) | _ => none)
  | .ladd => (match st with | .inr (.inl y) :: .inr (.inl x) :: r => some (1, L, vj (x + y) :: r) | _ => none)
  | .lsub => (match st with | .inr (.inl y) :: .inr (.inl x) :: r => some (1, L, vj (x - y) :: r) | _ => none)
  | .lmul => (match st with | .inr (.inl y) :: .inr (.inl x) :: r => some (1, L, vj (x * y) :: r) | _ => none)
  | .land => (match st with | .inr (.inl y) :: .inr (.inl x) :: r => some (1, L, vj (x &&& y) :: r) | _ => none)
  | .lor => (match st with | .inr (.inl y) :: .inr (.inl x) :: r => some (1, L, vj (x ||| y) :: r) | _ => none)
  | .lcmp => (match st with | .inr (.inl y) :: .inr (.inl x) :: r => some (1, L, .inl (ylcmp x y) :: r) | _ => none)
  | .lshl => (match st with | .inl y :: .inr (.inl x) :: r => some (1, L, vj (ylshl x y) :: r) | _ => none)
  | .lshr => (match st with | .inl y :: .inr (.inl x) :: r => some (1, L, vj (ylshr x y) :: r) | _ => none)
  | .lushr => (match st with | .inl y :: .inr (.inl x) :: r => some (1, L, vj (ylushr x y) :: r) | _ => none)
  | .ineg => (match st with | .inl x :: r => some (1, L, .inl (-x) :: r) | _ => none)
  | .lneg => (match st with | .inr (.inl x) :: r => some (1, L, vj (-x) :: r) | _ => none)
  | .i2l => (match st with | .inl x :: r => some (1, L, vj (yi2l x) :: r) | _ => none)
  | .l2i => (match st with | .inr (.inl x) :: r => some (1, L, .inl (yl2i x) :: r) | _ => none)
  | .i2b => (match st with | .inl x :: r => some (1, L, .inl (yi2b x) :: r) | _ => none)
  | .i2c => (match st with | .inl x :: r => some (1, L, .inl (yi2c x) :: r) | _ => none)
  | .i2d => (match st with | .inl x :: r => some (1, L, vd (FP.i2d (Int32.ofInt x)) :: r) | _ => none)
  | _ => none
theorem yval_1 {v : yV} (h : ycat1 v = true) : (yval v).category = 1 := by
  unfold ycat1 at h
  split at h <;> first | rfl | cases h
theorem yval_2 {v : yV} (h : ycat2 v = true) : (yval v).category = 2 := by
  unfold ycat2 at h
  split at h <;> first | rfl | cases h
theorem ymap_get {L : List yV} {i : Nat} {v : yV} (h : L[i]? = some v) : (L.map yval)[i]? = some (yval v) := by rw [List.getElem?_map, h]; rfl
theorem ymap_st (L : List yV) (i : Nat) (v : yV) : (yst L i v).map yval = xst (L.map yval) i (yval v) := by
  cases i with
  | zero => simp only [yst, xst, List.map_set]
  | succ j =>
    simp only [yst, xst]
    rw [List.getElem?_map]
    cases h : L[j]? with
    | none => simp only [Option.map_none, List.map_set]
    | some u =>
      match u with
      | .inl x => simp only [Option.map_some, yval, List.map_set]
      | .inr (.inl x) => simp only [Option.map_some, yval, List.map_set]
      | .inr (.inr (.inl x)) => simp only [Option.map_some, yval, List.map_set]
      | .inr (.inr (.inr (.inl x))) => simp only [Option.map_some, yval, List.map_set]
      | .inr (.inr (.inr (.inr x))) => simp only [Option.map_some, yval, xU, List.map_set]
theorem ymap_st2 (L : List yV) (i : Nat) (v : yV) : (yst2 L i v).map yval = xst2 (L.map yval) i (yval v) := by
  unfold yst2 xst2
  rw [List.map_set, ymap_st]
  rfl
theorem ysml_8 {n : Int} (h : ysml 128 n = true) : (Int8.ofInt n).toInt32 = Int32.ofInt n := by
  have h2 : -128 ≤ n ∧ n < 128 := by
    unfold ysml at h
    split at h
    · rename_i m; have h4 : Int.ofNat m = (m : Int) := rfl; have h3 := Nat.lt_of_lt_of_le (Nat.lt_of_succ_le (Nat.le_of_ble_eq_true h)) (Nat.le_refl 128); constructor <;> rw [h4] <;> omega
    · have h3 := Nat.lt_of_lt_of_le (Nat.lt_of_succ_le (Nat.le_of_ble_eq_true h)) (Nat.le_refl 128); constructor <;> omega
  apply Int32.toInt.inj
  rw [Int8.toInt_toInt32, Int8.toInt_ofInt_of_le (by omega) (by omega), Int32.toInt_ofInt_of_le (by omega) (by omega)]
theorem ysml_16 {n : Int} (h : ysml 32768 n = true) : (Int16.ofInt n).toInt32 = Int32.ofInt n := by
  have h2 : -32768 ≤ n ∧ n < 32768 := by
    unfold ysml at h
    split at h
    · rename_i m; have h4 : Int.ofNat m = (m : Int) := rfl; have h3 := Nat.lt_of_lt_of_le (Nat.lt_of_succ_le (Nat.le_of_ble_eq_true h)) (Nat.le_refl 32768); constructor <;> rw [h4] <;> omega
    · have h3 := Nat.lt_of_lt_of_le (Nat.lt_of_succ_le (Nat.le_of_ble_eq_true h)) (Nat.le_refl 32768); constructor <;> omega
  apply Int32.toInt.inj
  rw [Int16.toInt_toInt32, Int16.toInt_ofInt_of_le (by omega) (by omega), Int32.toInt_ofInt_of_le (by omega) (by omega)]
theorem yofI (x : Int32) : Int32.ofInt x.toInt = x := Int32.ofInt_toInt x
theorem y_add (x y : Int) : Int32.ofInt (x + y) = Int32.ofInt x + Int32.ofInt y := Int32.ofInt_add x y
theorem y_mul (x y : Int) : Int32.ofInt (x * y) = Int32.ofInt x * Int32.ofInt y := Int32.ofInt_mul x y
theorem y_neg (x : Int) : Int32.ofInt (-x) = -Int32.ofInt x := Int32.ofInt_neg x
theorem y_sub (x y : Int) : Int32.ofInt (x - y) = Int32.ofInt x - Int32.ofInt y := by
  rw [Int.sub_eq_add_neg, y_add, y_neg, Int32.sub_eq_add_neg]
/-- an instruction of the plain kind -/
def yPl (i : Instr) : Prop := xinv i = none ∧ (∀ rt n st, xret rt i n st = none) ∧ (∀ P E k pc L st ah n, xstep P E k pc L st ah i n = xr4 pc n ah (xplain (xP_cs P (xP_pool P k)) i L st)) ∧ (∀ j, i ≠ .new j) ∧ i ≠ .athrow
theorem yplain_ok {cs : Nat → Option Value} {i : Instr} {L st L' st' : List yV} {n : Nat} (h : yplain cs i L st = some (n, L', st')) : xplain cs i (L.map yval) (st.map yval) = some (n, L'.map yval, st'.map yval) ∧ yPl i := by
  unfold yplain at h
  split at h

  · refine ⟨?_, ⟨rfl, fun _ _ _ => rfl, fun _ _ _ _ _ _ _ _ => rfl, fun _ => by simp, by simp⟩⟩ -- ldc
    (repeat' split at h) <;> first | cases h | skip
    all_goals (rename_i hv; simp only [xplain, x_ldc, hv, xq, List.map_cons, yval, yofI])
  · refine ⟨?_, ⟨rfl, fun _ _ _ => rfl, fun _ _ _ _ _ _ _ _ => rfl, fun _ => by simp, by simp⟩⟩ -- ldc2_w
    split at h
    · rename_i hv; cases h; simp only [xplain, x_ldc2, hv, xq, List.map_cons, yval]
    · cases h
  · refine ⟨?_, ⟨rfl, fun _ _ _ => rfl, fun _ _ _ _ _ _ _ _ => rfl, fun _ => by simp, by simp⟩⟩ -- iconst
    cases h; rfl
  · refine ⟨?_, ⟨rfl, fun _ _ _ => rfl, fun _ _ _ _ _ _ _ _ => rfl, fun _ => by simp, by simp⟩⟩ -- lconst
    cases h; rfl
  · refine ⟨?_, ⟨rfl, fun _ _ _ => rfl, fun _ _ _ _ _ _ _ _ => rfl, fun _ => by simp, by simp⟩⟩ -- dconst
    split at h
    · cases h; rfl
    · cases h
  · refine ⟨?_, ⟨rfl, fun _ _ _ => rfl, fun _ _ _ _ _ _ _ _ => rfl, fun _ => by simp, by simp⟩⟩ -- bipush
    split at h
    · rename_i hv; cases h; simp only [xplain, x_bipush, xq, List.map_cons, yval, ysml_8 hv]
    · cases h
  · refine ⟨?_, ⟨rfl, fun _ _ _ => rfl, fun _ _ _ _ _ _ _ _ => rfl, fun _ => by simp, by simp⟩⟩ -- sipush
    split at h
    · rename_i hv; cases h; simp only [xplain, x_sipush, xq, List.map_cons, yval, ysml_16 hv]
    · cases h
  · refine ⟨?_, ⟨rfl, fun _ _ _ => rfl, fun _ _ _ _ _ _ _ _ => rfl, fun _ => by simp, by simp⟩⟩ -- iload_n
    split at h
    · rename_i hv; cases h; simp only [xplain, x_iload_n, ymap_get hv, xq, List.map_cons, yval]
    · cases h
  · refine ⟨?_, ⟨rfl, fun _ _ _ => rfl, fun _ _ _ _ _ _ _ _ => rfl, fun _ => by simp, by simp⟩⟩ -- iload
    split at h
    · rename_i hv; cases h; simp only [xplain, x_iload, ymap_get hv, xq, List.map_cons, yval]
    · cases h
  · refine ⟨?_, ⟨rfl, fun _ _ _ => rfl, fun _ _ _ _ _ _ _ _ => rfl, fun _ => by simp, by simp⟩⟩ -- lload_n
    split at h
    · rename_i hv; cases h; simp only [xplain, x_lload_n, ymap_get hv, xq, List.map_cons, yval]
    · cases h
  · refine ⟨?_, ⟨rfl, fun _ _ _ => rfl, fun _ _ _ _ _ _ _ _ => rfl, fun _ => by simp, by simp⟩⟩ -- lload
    split at h
    · rename_i hv; cases h; simp only [xplain, x_lload, ymap_get hv, xq, List.map_cons, yval]
    · cases h
  · refine ⟨?_, ⟨rfl, fun _ _ _ => rfl, fun _ _ _ _ _ _ _ _ => rfl, fun _ => by simp, by simp⟩⟩ -- dload
    split at h
    · rename_i hv; cases h; simp only [xplain, x_dload, ymap_get hv, xq, List.map_cons, yval]
    · cases h
  · refine ⟨?_, ⟨rfl, fun _ _ _ => rfl, fun _ _ _ _ _ _ _ _ => rfl, fun _ => by simp, by simp⟩⟩ -- aload_n
    split at h
    · rename_i hv; cases h; simp only [xplain, x_aload_n, ymap_get hv, xq, List.map_cons, yval]
    · cases h
  · refine ⟨?_, ⟨rfl, fun _ _ _ => rfl, fun _ _ _ _ _ _ _ _ => rfl, fun _ => by simp, by simp⟩⟩ -- aload
    split at h
    · rename_i hv; cases h; simp only [xplain, x_aload, ymap_get hv, xq, List.map_cons, yval]
    · cases h
  · refine ⟨?_, ⟨rfl, fun _ _ _ => rfl, fun _ _ _ _ _ _ _ _ => rfl, fun _ => by simp, by simp⟩⟩ -- istore_n
    (repeat' split at h) <;> first | cases h | skip
    rename_i hv
    have hl := Nat.lt_of_succ_le (Nat.le_of_ble_eq_true hv)
    simp only [xplain, x_istore_n, List.map_cons, yval, List.length_map, hl, if_true, xq, ymap_st, ymap_st2]
  · refine ⟨?_, ⟨rfl, fun _ _ _ => rfl, fun _ _ _ _ _ _ _ _ => rfl, fun _ => by simp, by simp⟩⟩ -- istore
    (repeat' split at h) <;> first | cases h | skip
    rename_i hv
    have hl := Nat.lt_of_succ_le (Nat.le_of_ble_eq_true hv)
    simp only [xplain, x_istore, List.map_cons, yval, List.length_map, hl, if_true, xq, ymap_st, ymap_st2]
  · refine ⟨?_, ⟨rfl, fun _ _ _ => rfl, fun _ _ _ _ _ _ _ _ => rfl, fun _ => by simp, by simp⟩⟩ -- lstore_n
    (repeat' split at h) <;> first | cases h | skip
    rename_i hv
    have hl := Nat.lt_of_succ_le (Nat.le_of_ble_eq_true hv)
    simp only [xplain, x_lstore_n, List.map_cons, yval, List.length_map, hl, if_true, xq, ymap_st, ymap_st2]
  · refine ⟨?_, ⟨rfl, fun _ _ _ => rfl, fun _ _ _ _ _ _ _ _ => rfl, fun _ => by simp, by simp⟩⟩ -- lstore
    (repeat' split at h) <;> first | cases h | skip
    rename_i hv
    have hl := Nat.lt_of_succ_le (Nat.le_of_ble_eq_true hv)
    simp only [xplain, x_lstore, List.map_cons, yval, List.length_map, hl, if_true, xq, ymap_st, ymap_st2]
  · refine ⟨?_, ⟨rfl, fun _ _ _ => rfl, fun _ _ _ _ _ _ _ _ => rfl, fun _ => by simp, by simp⟩⟩ -- dstore
    (repeat' split at h) <;> first | cases h | skip
    rename_i hv
    have hl := Nat.lt_of_succ_le (Nat.le_of_ble_eq_true hv)
    simp only [xplain, x_dstore, List.map_cons, yval, List.length_map, hl, if_true, xq, ymap_st, ymap_st2]
  · refine ⟨?_, ⟨rfl, fun _ _ _ => rfl, fun _ _ _ _ _ _ _ _ => rfl, fun _ => by simp, by simp⟩⟩ -- astore_n
    (repeat' split at h) <;> first | cases h | skip
    rename_i hv
    have hl := Nat.lt_of_succ_le (Nat.le_of_ble_eq_true hv)
    simp only [xplain, x_astore_n, List.map_cons, yval, List.length_map, hl, if_true, xq, ymap_st, ymap_st2]
  · refine ⟨?_, ⟨rfl, fun _ _ _ => rfl, fun _ _ _ _ _ _ _ _ => rfl, fun _ => by simp, by simp⟩⟩ -- astore
    (repeat' split at h) <;> first | cases h | skip
    rename_i hv
    have hl := Nat.lt_of_succ_le (Nat.le_of_ble_eq_true hv)
    simp only [xplain, x_astore, List.map_cons, yval, List.length_map, hl, if_true, xq, ymap_st, ymap_st2]
  · refine ⟨?_, ⟨rfl, fun _ _ _ => rfl, fun _ _ _ _ _ _ _ _ => rfl, fun _ => by simp, by simp⟩⟩ -- iinc
    split at h
    · rename_i hv; cases h
      have hl := (List.getElem?_eq_some_iff.mp hv).1
      simp only [xplain, x_iinc, ymap_get hv, yval, List.length_map, hl, if_true, xq, ymap_st, y_add]
    · cases h
  · refine ⟨?_, ⟨rfl, fun _ _ _ => rfl, fun _ _ _ _ _ _ _ _ => rfl, fun _ => by simp, by simp⟩⟩ -- pop
    (repeat' split at h) <;> first | cases h | skip
    rename_i hv
    simp only [xplain, x_pop, List.map_cons, yval_1 hv, if_true, xq]
  · refine ⟨?_, ⟨rfl, fun _ _ _ => rfl, fun _ _ _ _ _ _ _ _ => rfl, fun _ => by simp, by simp⟩⟩ -- dup
    (repeat' split at h) <;> first | cases h | skip
    rename_i hv
    simp only [xplain, x_dup, List.map_cons, yval_1 hv, if_true, xq]
  · refine ⟨?_, ⟨rfl, fun _ _ _ => rfl, fun _ _ _ _ _ _ _ _ => rfl, fun _ => by simp, by simp⟩⟩ -- dup_x1
    (repeat' split at h) <;> first | cases h | skip
    rename_i hv hu
    simp only [xplain, x_dup_x1, List.map_cons, yval_1 hv, yval_1 hu, and_self, if_true, xq]
  · refine ⟨?_, ⟨rfl, fun _ _ _ => rfl, fun _ _ _ _ _ _ _ _ => rfl, fun _ => by simp, by simp⟩⟩ -- dup2
    split at h
    · split at h
      · rename_i hv; cases h
        simp only [xplain, x_dup2, List.map_cons, yval_2 hv, if_true, xq]
      · split at h
        · split at h
          · rename_i hv hu; cases h
            simp only [xplain, x_dup2, List.map_cons, yval_1 hv, yval_1 hu, and_self, if_true, xq]
            rfl
          · cases h
        · cases h
    · cases h
  · refine ⟨?_, ⟨rfl, fun _ _ _ => rfl, fun _ _ _ _ _ _ _ _ => rfl, fun _ => by simp, by simp⟩⟩ -- iadd
    split at h
    · cases h; simp only [xplain, x_iadd, List.map_cons, yval, xq, y_add, y_sub, y_mul, y_neg, yand, yor, yshl, yshr, yushr, ylshl, ylshr, ylushr, ylcmp, yi2l, yl2i, yi2b, yi2c, yofI]
    · cases h
  · refine ⟨?_, ⟨rfl, fun _ _ _ => rfl, fun _ _ _ _ _ _ _ _ => rfl, fun _ => by simp, by simp⟩⟩ -- isub
    split at h
    · cases h; simp only [xplain, x_isub, List.map_cons, yval, xq, y_add, y_sub, y_mul, y_neg, yand, yor, yshl, yshr, yushr, ylshl, ylshr, ylushr, ylcmp, yi2l, yl2i, yi2b, yi2c, yofI]
    · cases h
  · refine ⟨?_, ⟨rfl, fun _ _ _ => rfl, fun _ _ _ _ _ _ _ _ => rfl, fun _ => by simp, by simp⟩⟩ -- imul
    split at h
    · cases h; simp only [xplain, x_imul, List.map_cons, yval, xq, y_add, y_sub, y_mul, y_neg, yand, yor, yshl, yshr, yushr, ylshl, ylshr, ylushr, ylcmp, yi2l, yl2i, yi2b, yi2c, yofI]
    · cases h
  · refine ⟨?_, ⟨rfl, fun _ _ _ => rfl, fun _ _ _ _ _ _ _ _ => rfl, fun _ => by simp, by simp⟩⟩ -- iand
    split at h
    · cases h; simp only [xplain, x_iand, List.map_cons, yval, xq, y_add, y_sub, y_mul, y_neg, yand, yor, yshl, yshr, yushr, ylshl, ylshr, ylushr, ylcmp, yi2l, yl2i, yi2b, yi2c, yofI]
    · cases h
  · refine ⟨?_, ⟨rfl, fun _ _ _ => rfl, fun _ _ _ _ _ _ _ _ => rfl, fun _ => by simp, by simp⟩⟩ -- ior
    split at h
    · cases h; simp only [xplain, x_ior, List.map_cons, yval, xq, y_add, y_sub, y_mul, y_neg, yand, yor, yshl, yshr, yushr, ylshl, ylshr, ylushr, ylcmp, yi2l, yl2i, yi2b, yi2c, yofI]
    · cases h
  · refine ⟨?_, ⟨rfl, fun _ _ _ => rfl, fun _ _ _ _ _ _ _ _ => rfl, fun _ => by simp, by simp⟩⟩ -- ishl
    split at h
    · cases h; simp only [xplain, x_ishl, List.map_cons, yval, xq, y_add, y_sub, y_mul, y_neg, yand, yor, yshl, yshr, yushr, ylshl, ylshr, ylushr, ylcmp, yi2l, yl2i, yi2b, yi2c, yofI]
    · cases h
  · refine ⟨?_, ⟨rfl, fun _ _ _ => rfl, fun _ _ _ _ _ _ _ _ => rfl, fun _ => by simp, by simp⟩⟩ -- ishr
    split at h
    · cases h; simp only [xplain, x_ishr, List.map_cons, yval, xq, y_add, y_sub, y_mul, y_neg, yand, yor, yshl, yshr, yushr, ylshl, ylshr, ylushr, ylcmp, yi2l, yl2i, yi2b, yi2c, yofI]
    · cases h
  · refine ⟨?_, ⟨rfl, fun _ _ _ => rfl, fun _ _ _ _ _ _ _ _ => rfl, fun _ => by simp, by simp⟩⟩ -- iushr
    split at h
    · cases h; simp only [xplain, x_iushr, List.map_cons, yval, xq, y_add, y_sub, y_mul, y_neg, yand, yor, yshl, yshr, yushr, ylshl, ylshr, ylushr, ylcmp, yi2l, yl2i, yi2b, yi2c, yofI]
    · cases h
  · refine ⟨?_, ⟨rfl, fun _ _ _ => rfl, fun _ _ _ _ _ _ _ _ => rfl, fun _ => by simp, by simp⟩⟩ -- ladd
    split at h
    · cases h; simp only [xplain, x_ladd, List.map_cons, yval, xq, y_add, y_sub, y_mul, y_neg, yand, yor, yshl, yshr, yushr, ylshl, ylshr, ylushr, ylcmp, yi2l, yl2i, yi2b, yi2c, yofI]
    · cases h
  · refine ⟨?_, ⟨rfl, fun _ _ _ => rfl, fun _ _ _ _ _ _ _ _ => rfl, fun _ => by simp, by simp⟩⟩ -- lsub
    split at h
    · cases h; simp only [xplain, x_lsub, List.map_cons, yval, xq, y_add, y_sub, y_mul, y_neg, yand, yor, yshl, yshr, yushr, ylshl, ylshr, ylushr, ylcmp, yi2l, yl2i, yi2b, yi2c, yofI]
    · cases h
  · refine ⟨?_, ⟨rfl, fun _ _ _ => rfl, fun _ _ _ _ _ _ _ _ => rfl, fun _ => by simp, by simp⟩⟩ -- lmul
    split at h
    · cases h; simp only [xplain, x_lmul, List.map_cons, yval, xq, y_add, y_sub, y_mul, y_neg, yand, yor, yshl, yshr, yushr, ylshl, ylshr, ylushr, ylcmp, yi2l, yl2i, yi2b, yi2c, yofI]
    · cases h
  · refine ⟨?_, ⟨rfl, fun _ _ _ => rfl, fun _ _ _ _ _ _ _ _ => rfl, fun _ => by simp, by simp⟩⟩ -- land
    split at h
    · cases h; simp only [xplain, x_land, List.map_cons, yval, xq, y_add, y_sub, y_mul, y_neg, yand, yor, yshl, yshr, yushr, ylshl, ylshr, ylushr, ylcmp, yi2l, yl2i, yi2b, yi2c, yofI]
    · cases h
  · refine ⟨?_, ⟨rfl, fun _ _ _ => rfl, fun _ _ _ _ _ _ _ _ => rfl, fun _ => by simp, by simp⟩⟩ -- lor
    split at h
    · cases h; simp only [xplain, x_lor, List.map_cons, yval, xq, y_add, y_sub, y_mul, y_neg, yand, yor, yshl, yshr, yushr, ylshl, ylshr, ylushr, ylcmp, yi2l, yl2i, yi2b, yi2c, yofI]
    · cases h
  · refine ⟨?_, ⟨rfl, fun _ _ _ => rfl, fun _ _ _ _ _ _ _ _ => rfl, fun _ => by simp, by simp⟩⟩ -- lcmp
    split at h
    · cases h; simp only [xplain, x_lcmp, List.map_cons, yval, xq, y_add, y_sub, y_mul, y_neg, yand, yor, yshl, yshr, yushr, ylshl, ylshr, ylushr, ylcmp, yi2l, yl2i, yi2b, yi2c, yofI]
    · cases h
  · refine ⟨?_, ⟨rfl, fun _ _ _ => rfl, fun _ _ _ _ _ _ _ _ => rfl, fun _ => by simp, by simp⟩⟩ -- lshl
    split at h
    · cases h; simp only [xplain, x_lshl, List.map_cons, yval, xq, y_add, y_sub, y_mul, y_neg, yand, yor, yshl, yshr, yushr, ylshl, ylshr, ylushr, ylcmp, yi2l, yl2i, yi2b, yi2c, yofI]
    · cases h
  · refine ⟨?_, ⟨rfl, fun _ _ _ => rfl, fun _ _ _ _ _ _ _ _ => rfl, fun _ => by simp, by simp⟩⟩ -- lshr
    split at h
    · cases h; simp only [xplain, x_lshr, List.map_cons, yval, xq, y_add, y_sub, y_mul, y_neg, yand, yor, yshl, yshr, yushr, ylshl, ylshr, ylushr, ylcmp, yi2l, yl2i, yi2b, yi2c, yofI]
    · cases h
  · refine ⟨?_, ⟨rfl, fun _ _ _ => rfl, fun _ _ _ _ _ _ _ _ => rfl, fun _ => by simp, by simp⟩⟩ -- lushr
    split at h
    · cases h; simp only [xplain, x_lushr, List.map_cons, yval, xq, y_add, y_sub, y_mul, y_neg, yand, yor, yshl, yshr, yushr, ylshl, ylshr, ylushr, ylcmp, yi2l, yl2i, yi2b, yi2c, yofI]
    · cases h
  · refine ⟨?_, ⟨rfl, fun _ _ _ => rfl, fun _ _ _ _ _ _ _ _ => rfl, fun _ => by simp, by simp⟩⟩ -- ineg
    split at h
    · cases h; simp only [xplain, x_ineg, List.map_cons, yval, xq, y_add, y_sub, y_mul, y_neg, yand, yor, yshl, yshr, yushr, ylshl, ylshr, ylushr, ylcmp, yi2l, yl2i, yi2b, yi2c, yofI]
    · cases h
  · refine ⟨?_, ⟨rfl, fun _ _ _ => rfl, fun _ _ _ _ _ _ _ _ => rfl, fun _ => by simp, by simp⟩⟩ -- lneg
    split at h
    · cases h; simp only [xplain, x_lneg, List.map_cons, yval, xq, y_add, y_sub, y_mul, y_neg, yand, yor, yshl, yshr, yushr, ylshl, ylshr, ylushr, ylcmp, yi2l, yl2i, yi2b, yi2c, yofI]
    · cases h
  · refine ⟨?_, ⟨rfl, fun _ _ _ => rfl, fun _ _ _ _ _ _ _ _ => rfl, fun _ => by simp, by simp⟩⟩ -- i2l
    split at h
    · cases h; simp only [xplain, x_i2l, List.map_cons, yval, xq, y_add, y_sub, y_mul, y_neg, yand, yor, yshl, yshr, yushr, ylshl, ylshr, ylushr, ylcmp, yi2l, yl2i, yi2b, yi2c, yofI]
    · cases h
  · refine ⟨?_, ⟨rfl, fun _ _ _ => rfl, fun _ _ _ _ _ _ _ _ => rfl, fun _ => by simp, by simp⟩⟩ -- l2i
    split at h
    · cases h; simp only [xplain, x_l2i, List.map_cons, yval, xq, y_add, y_sub, y_mul, y_neg, yand, yor, yshl, yshr, yushr, ylshl, ylshr, ylushr, ylcmp, yi2l, yl2i, yi2b, yi2c, yofI]
    · cases h
  · refine ⟨?_, ⟨rfl, fun _ _ _ => rfl, fun _ _ _ _ _ _ _ _ => rfl, fun _ => by simp, by simp⟩⟩ -- i2b
    split at h
    · cases h; simp only [xplain, x_i2b, List.map_cons, yval, xq, y_add, y_sub, y_mul, y_neg, yand, yor, yshl, yshr, yushr, ylshl, ylshr, ylushr, ylcmp, yi2l, yl2i, yi2b, yi2c, yofI]
    · cases h
  · refine ⟨?_, ⟨rfl, fun _ _ _ => rfl, fun _ _ _ _ _ _ _ _ => rfl, fun _ => by simp, by simp⟩⟩ -- i2c
    split at h
    · cases h; simp only [xplain, x_i2c, List.map_cons, yval, xq, y_add, y_sub, y_mul, y_neg, yand, yor, yshl, yshr, yushr, ylshl, ylshr, ylushr, ylcmp, yi2l, yl2i, yi2b, yi2c, yofI]
    · cases h
  · refine ⟨?_, ⟨rfl, fun _ _ _ => rfl, fun _ _ _ _ _ _ _ _ => rfl, fun _ => by simp, by simp⟩⟩ -- i2d
    split at h
    · cases h; simp only [xplain, x_i2d, List.map_cons, yval, xq, y_add, y_sub, y_mul, y_neg, yand, yor, yshl, yshr, yushr, ylshl, ylshr, ylushr, ylcmp, yi2l, yl2i, yi2b, yi2c, yofI]
    · cases h
  · cases h
/-- a field's worth; a field's new worth -/
def ygf (S : yS) (ci f a : Nat) : Option yV := match Nat.ble 81 a with
  | false => none
  | true => (match yT[a - 81]? with
    | some (.inl (c, fs)) => (match Nat.beq c ci with
      | false => none
      | true => (match fs[f]? with
        | some (0, s) => some (vi (gI S s))
        | some (1, s) => some (vj (gJ S s))
        | some (2, r) => some (vr r)
        | some (_, s) => some (vr (gK S s))
        | none => none))
    | _ => none)
def ypf (S : yS) (ft : FieldType) (ci f a : Nat) (x : yV) : Option yS := match Nat.ble 81 a with
  | false => none
  | true => (match yT[a - 81]? with
    | some (.inl (c, fs)) => (match Nat.beq c ci with
      | false => none
      | true => (match fs[f]?, x, ft with
        | some (0, s), .inl e, .int => some (sI S s e)
        | some (0, s), .inl (.ofNat 0), .boolean => some (sI S s 0)
        | some (0, s), .inl (.ofNat 1), .boolean => some (sI S s 1)
        | some (1, s), .inr (.inl e), .long => some (sJ S s e)
        | some (3, s), .inr (.inr (.inl r)), .object _ => some (sK S s r)
        | _, _, _ => none))
    | _ => none)
theorem yat81 {a : Nat} (h : Nat.ble 81 a = true) : 81 + (a - 81) = a := by have := Nat.le_of_ble_eq_true h; omega
theorem ygf_ok {q : yQ} {S : yS} {js : List xO} {ci f a : Nat} {x : yV} (h : ygf S ci f a = some x) {fl : Nat → Option (Nat × Nat)} {j : Nat} (hf : fl j = some (ci, f)) (r : List Value) : x_getf fl (yH q S js) j (.ref a :: r) = some (yval x :: r) := by
  unfold ygf at h
  split at h
  · cases h
  · rename_i ha
    split at h
    · rename_i c fs he
      split at h
      · cases h
      · rename_i hc
        have hc := Nat.eq_of_beq_eq_true hc
        subst hc
        have hg : (yH q S js)[a]? = some (.inr (c, fs.map (yfld S))) := by
          have := yH_get q S js he
          rw [yat81 ha] at this
          exact this
        split at h
        all_goals first
          | cases h; done
          | (rename_i hv; cases h; simp only [x_getf, hf, hg, if_true, List.getElem?_map, hv, Option.map_some, yfld, yval])
          | (rename_i s h0 h1 h2 hv; cases h
             have hsm := yT_sort he _ (List.mem_of_getElem? hv)
             simp only [x_getf, hf, hg, if_true, List.getElem?_map, hv, Option.map_some, yval]
             rfl)
          | skip
    · cases h
/-- a new worth of one slot: the heap with it -/
theorem yset_I {q : yQ} {S : yS} {js : List xO} {a c f s : Nat} {fs : List (Nat × Nat)} (ha : Nat.ble 81 a = true) (he : yT[a - 81]? = some (.inl (c, fs))) (hf : fs[f]? = some (0, s)) (e : Int) : (yH q S js).set a (.inr (c, (fs.map (yfld S)).set f (.int (Int32.ofInt e)))) = yH q (sI S s e) js := by
  have hn := yApt_nd yT_apt he
  have hS := yH_set q (S := S) (S' := sI S s e) js (o := .inr (c, (fs.map (yfld S)).set f (.int (Int32.ofInt e)))) he ?_ ?_
  · rw [yat81 ha] at hS
    exact hS
  · show _ = Sum.inr (c, fs.map (yfld (sI S s e)))
    congr 2
    refine yfs_set hf ?_ ?_
    · show Value.int (Int32.ofInt (gI (sI S s e) s)) = _
      rw [gI_self]
    · intro j p' hj hp
      obtain ⟨t, r⟩ := p'
      match t with
      | 0 =>
        have : r ≠ s := fun z => by
          subst z
          exact hj (yndp_fs hn (p := (0, r)) (by simp) hp hf)
        show Value.int (Int32.ofInt (gI (sI S s e) r)) = Value.int (Int32.ofInt (gI S r))
        rw [gI_ne S s e this]
      | 1 => rfl
      | 2 => rfl
      | t + 3 => rfl
  · intro k' e' hk he'
    exact ycell_I fun hm => yApt_ne yT_apt hk he' he hm (List.mem_filter.mpr ⟨List.mem_of_getElem? hf, rfl⟩)
theorem yset_J {q : yQ} {S : yS} {js : List xO} {a c f s : Nat} {fs : List (Nat × Nat)} (ha : Nat.ble 81 a = true) (he : yT[a - 81]? = some (.inl (c, fs))) (hf : fs[f]? = some (1, s)) (e : Int64) : (yH q S js).set a (.inr (c, (fs.map (yfld S)).set f (.long e))) = yH q (sJ S s e) js := by
  have hn := yApt_nd yT_apt he
  have hS := yH_set q (S := S) (S' := sJ S s e) js (o := .inr (c, (fs.map (yfld S)).set f (.long e))) he ?_ ?_
  · rw [yat81 ha] at hS
    exact hS
  · show _ = Sum.inr (c, fs.map (yfld (sJ S s e)))
    congr 2
    refine yfs_set hf ?_ ?_
    · show Value.long (gJ (sJ S s e) s) = _
      rw [gJ_self]
    · intro j p' hj hp
      obtain ⟨t, r⟩ := p'
      match t with
      | 0 => rfl
      | 1 =>
        have : r ≠ s := fun z => by
          subst z
          exact hj (yndp_fs hn (p := (1, r)) (by simp) hp hf)
        show Value.long (gJ (sJ S s e) r) = Value.long (gJ S r)
        rw [gJ_ne S s e this]
      | 2 => rfl
      | t + 3 => rfl
  · intro k' e' hk he'
    exact ycell_J fun hm => yApt_ne yT_apt hk he' he hm (List.mem_filter.mpr ⟨List.mem_of_getElem? hf, rfl⟩)
theorem yset_K {q : yQ} {S : yS} {js : List xO} {a c f s : Nat} {fs : List (Nat × Nat)} (ha : Nat.ble 81 a = true) (he : yT[a - 81]? = some (.inl (c, fs))) (hf : fs[f]? = some (3, s)) (e : Nat) : (yH q S js).set a (.inr (c, (fs.map (yfld S)).set f (.ref e))) = yH q (sK S s e) js := by
  have hn := yApt_nd yT_apt he
  have hS := yH_set q (S := S) (S' := sK S s e) js (o := .inr (c, (fs.map (yfld S)).set f (.ref e))) he ?_ ?_
  · rw [yat81 ha] at hS
    exact hS
  · show _ = Sum.inr (c, fs.map (yfld (sK S s e)))
    congr 2
    refine yfs_set hf ?_ ?_
    · show Value.ref (gK (sK S s e) s) = _
      rw [gK_self]
    · intro j p' hj hp
      have h4 := yT_sort he _ (List.mem_of_getElem? hp)
      obtain ⟨t, r⟩ := p'
      match t with
      | 0 => rfl
      | 1 => rfl
      | 2 => rfl
      | 3 =>
        have : r ≠ s := fun z => by
          subst z
          exact hj (yndp_fs hn (p := (3, r)) (by simp) hp hf)
        show Value.ref (gK (sK S s e) r) = Value.ref (gK S r)
        rw [gK_ne S s e this]
      | t + 4 => simp at h4
  · intro k' e' hk he'
    exact ycell_K (fun hm => yApt_ne yT_apt hk he' he hm (List.mem_filter.mpr ⟨List.mem_of_getElem? hf, rfl⟩)) (fun c fs h => yT_sort (h ▸ he'))
theorem yfin_dec (fin ini : Bool) : (fin = true → ini = true) ↔ (fin = false ∨ ini = true) := by cases fin <;> cases ini <;> simp
theorem ypf_ok {q : yQ} {S S' : yS} {js : List xO} {ci f a : Nat} {x : yV} {ft : Nat → Nat → FieldType} (h : ypf S (ft ci f) ci f a x = some S') {fp : Nat → Option (Nat × Nat × Bool)} {j : Nat} {fin ini : Bool} (hf : fp j = some (ci, f, fin)) (hi : fin = true → ini = true) (r : List Value) : x_putf 81 fp ft ini (yH q S js) j (yval x :: .ref a :: r) = some (yH q S' js, r) := by
  unfold ypf at h
  split at h
  · cases h
  · rename_i ha
    split at h
    · rename_i c fs he
      split at h
      · cases h
      · rename_i hc
        have hc := Nat.eq_of_beq_eq_true hc
        subst hc
        have hg : (yH q S js)[a]? = some (.inr (c, fs.map (yfld S))) := by
          have := yH_get q S js he
          rw [yat81 ha] at this
          exact this
        have h81 := Nat.le_of_ble_eq_true ha
        have go : ∀ {v : Value} {p : Nat × Nat} {S1 : yS}, fs[f]? = some p → xfit (ft c f) v = true → (yH q S js).set a (.inr (c, (fs.map (yfld S)).set f v)) = yH q S1 js → x_putf 81 fp ft ini (yH q S js) j (v :: .ref a :: r) = some (yH q S1 js, r) := by
          intro v p S1 hp hv hs
          have hl : f < (fs.map (yfld S)).length := by rw [List.length_map]; exact (List.getElem?_eq_some_iff.mp hp).1
          simp only [x_putf, hf, hg]
          rw [if_pos ⟨trivial, hl, h81, hv, hi⟩, hs]
        split at h
        · rename_i s e hp hft
          cases h
          exact go hp (by rw [hft]; rfl) (yset_I ha he hp e)
        · rename_i s hp hft
          cases h
          exact go hp (by rw [hft]; rfl) (yset_I ha he hp 0)
        · rename_i s hp hft
          cases h
          exact go hp (by rw [hft]; rfl) (yset_I ha he hp 1)
        · rename_i s e hp hft
          cases h
          exact go hp (by rw [hft]; rfl) (yset_J ha he hp e)
        · rename_i s e ob hp hft
          cases h
          exact go hp (by rw [hft]; rfl) (yset_K ha he hp e)
        · cases h
    · cases h
/-- a row's length -/
def yal (a : Nat) : Option Nat := match Nat.ble 81 a with
  | false => none
  | true => (match yT[a - 81]? with
    | some (.inr (_, n, _)) => some n
    | _ => none)
theorem yal_ok {q : yQ} {S : yS} {js : List xO} {a n : Nat} (h : yal a = some n) (r : List Value) : x_alen (yH q S js) (.ref a :: r) = some (.int (Int32.ofNat n) :: r) := by
  unfold yal at h
  split at h
  · cases h
  · rename_i ha
    split at h
    · rename_i t n' s he
      cases h
      have hg : (yH q S js)[a]? = some (.inl (t, n, yrow S t s)) := by
        have := yH_get q S js he
        rw [yat81 ha] at this
        exact this
      simp only [x_alen, hg]
    · cases h
/-- one step that asks nothing -/
abbrev yR4 : Type := Option (Nat × List yV × List yV × yS)
def yo1 (v : Value) (k pc : Nat) (L st : List yV) (S : yS) (j n : Nat) : yR4 := match st with
  | .inr (.inr (.inl a)) :: r => (match xP_fl (xPrg v) (xP_pool (xPrg v) k) j with
    | some (ci, f) => (match ygf S ci f a, Nat.beq n 3 with
      | some x, true => some (pc + 3, L, x :: r, S)
      | _, _ => none)
    | none => none)
  | _ => none
def yo2 (v : Value) (k pc : Nat) (L st : List yV) (S : yS) (j n : Nat) : yR4 := match st with
  | x :: .inr (.inr (.inl a)) :: r => (match xP_fp (xPrg v) (xP_pool (xPrg v) k) j with
    | some (ci, f, fin) => (match ypf S (xP_ft (xPrg v) ci f) ci f a x, Nat.beq n 3, (!fin || xP_ini (xPrg v) k) with
      | some S', true, true => some (pc + 3, L, r, S')
      | _, _, _ => none)
    | none => none)
  | _ => none
def yo3 (v : Value) (k pc : Nat) (L st : List yV) (S : yS) (j n : Nat) : yR4 := match xP_sf (xPrg v) (xP_pool (xPrg v) k) j, Nat.beq n 3 with
  | some (.ref a), true => some (pc + 3, L, vr a :: st, S)
  | some (.int x), true => some (pc + 3, L, .inl x.toInt :: st, S)
  | _, _ => none
def yo4 (pc : Nat) (L st : List yV) (S : yS) (n : Nat) : yR4 := match st with
  | .inr (.inr (.inl a)) :: r => (match yal a, Nat.beq n 1 with
    | some m, true => some (pc + 1, L, .inl (.ofNat m) :: r, S)
    | _, _ => none)
  | _ => none
def yo5 (pc : Nat) (L st : List yV) (S : yS) (o : Int) (n : Nat) : yR4 := match xtg pc o, Nat.beq n 3 with
  | some t, true => some (t, L, st, S)
  | _, _ => none
def yo6 (v : Value) (k pc : Nat) (L st : List yV) (S : yS) (i : Instr) (n : Nat) : yR4 := match yplain (xP_cs (xPrg v) (xP_pool (xPrg v) k)) i L st with
  | some (n', L', st') => (match Nat.beq n' n with
    | true => some (pc + n, L', st', S)
    | false => none)
  | none => none
def yone (v : Value) (k pc : Nat) (L st : List yV) (S : yS) : yR4 := match xP_code (xPrg v) k pc with
  | none => none
  | some (i, n) => (match i with
    | .getfield j => yo1 v k pc L st S j n
    | .putfield j => yo2 v k pc L st S j n
    | .getstatic j => yo3 v k pc L st S j n
    | .arraylength => yo4 pc L st S n
    | .goto o => yo5 pc L st S o n
    | i => yo6 v k pc L st S i n)
theorem ybeq {a b : Nat} (h : Nat.beq a b = true) : (a == b) = true := by rw [Nat.eq_of_beq_eq_true h]; exact beq_self_eq_true b
/-- the kind of instruction that is one step -/
def yEv (i : Instr) : Prop := xinv i = none ∧ (∀ rt n st, xret rt i n st = none) ∧ (∀ j, i ≠ .new j) ∧ i ≠ .athrow
theorem xone_ev {P : xPg} {E k pc n : Nat} {i : Instr} {L st : List Value} {ah : List xO} (hc : xP_code P k pc = some (i, n)) (h : yEv i) : xone P E k pc L st ah = xstep P E k pc L st ah i n := by
  obtain ⟨h1, h2, h3, h4⟩ := h
  unfold xone
  simp only [hc, h1, h2]
section YEA
variable {q : yQ} {js : List xO} {k pc pc' n : Nat} {L st L' st' : List yV} {S S' : yS}
theorem yo1_ok {j : Nat} (h : yo1 q.1 k pc L st S j n = some (pc', L', st', S')) : xstep (xPrg q.1) 81 k pc (L.map yval) (st.map yval) (yH q S js) (.getfield j) n = some (pc', L'.map yval, st'.map yval, yH q S' js) := by
  unfold yo1 at h
  split at h
  · rename_i a r
    split at h
    · rename_i ci f hfl
      split at h
      · rename_i x hg hn
        cases h
        have h3 := ygf_ok (q := q) (js := js) hg hfl (r.map yval)
        unfold xstep
        simp only [List.map_cons, yval] at h3 ⊢
        simp only [h3, ybeq hn, xr1]
      · cases h
    · cases h
  · cases h
theorem yo2_ok {j : Nat} (h : yo2 q.1 k pc L st S j n = some (pc', L', st', S')) : xstep (xPrg q.1) 81 k pc (L.map yval) (st.map yval) (yH q S js) (.putfield j) n = some (pc', L'.map yval, st'.map yval, yH q S' js) := by
  unfold yo2 at h
  split at h
  · rename_i x a r
    split at h
    · rename_i ci f fin hfp
      split at h
      · rename_i S1 hg hn hi
        cases h
        have h3 := ypf_ok (q := q) (js := js) hg hfp (ini := xP_ini (xPrg q.1) k) (by
          intro hf
          rw [hf] at hi
          simpa using hi) (st'.map yval)
        unfold xstep
        simp only [List.map_cons]
        show xr2 (n == 3) (pc + 3) (L.map yval) (x_putf 81 _ _ _ (yH q S js) j (yval x :: .ref a :: st'.map yval)) = _
        rw [h3]
        simp only [ybeq hn, xr2]
      · cases h
    · cases h
  · cases h
theorem yo3_ok {j : Nat} (h : yo3 q.1 k pc L st S j n = some (pc', L', st', S')) : xstep (xPrg q.1) 81 k pc (L.map yval) (st.map yval) (yH q S js) (.getstatic j) n = some (pc', L'.map yval, st'.map yval, yH q S' js) := by
  unfold yo3 at h
  split at h
  · rename_i a hs hn
    cases h
    unfold xstep
    simp only [x_gets, hs, ybeq hn, xr1, List.map_cons, yval, yofI]
  · rename_i a hs hn
    cases h
    unfold xstep
    simp only [x_gets, hs, ybeq hn, xr1, List.map_cons, yval, yofI]
  · cases h
theorem yo4_ok (h : yo4 pc L st S n = some (pc', L', st', S')) : xstep (xPrg q.1) 81 k pc (L.map yval) (st.map yval) (yH q S js) .arraylength n = some (pc', L'.map yval, st'.map yval, yH q S' js) := by
  unfold yo4 at h
  split at h
  · rename_i a r
    split at h
    · rename_i m hm hn
      cases h
      have h3 := yal_ok (q := q) (S := S) (js := js) hm (r.map yval)
      unfold xstep
      simp only [List.map_cons, yval, h3, ybeq hn, xr1]
      rfl
    · cases h
  · cases h
theorem yo5_ok {o : Int} (h : yo5 pc L st S o n = some (pc', L', st', S')) : xstep (xPrg q.1) 81 k pc (L.map yval) (st.map yval) (yH q S js) (.goto o) n = some (pc', L'.map yval, st'.map yval, yH q S' js) := by
  unfold yo5 at h
  split at h
  · rename_i t ht hn
    cases h
    unfold xstep
    simp only [x_goto, ht, ybeq hn, xr3]
  · cases h
theorem yo6_ok {i : Instr} (h : yo6 q.1 k pc L st S i n = some (pc', L', st', S')) : xstep (xPrg q.1) 81 k pc (L.map yval) (st.map yval) (yH q S js) i n = some (pc', L'.map yval, st'.map yval, yH q S' js) ∧ yPl i := by
  unfold yo6 at h
  split at h
  · rename_i n' L1 st1 hp
    split at h
    · rename_i hn
      cases h
      have hn := Nat.eq_of_beq_eq_true hn
      subst hn
      obtain ⟨h1, hi⟩ := yplain_ok hp
      refine ⟨?_, hi⟩
      rw [hi.2.2.1, h1]
      simp only [xr4, if_true]
    · cases h
  · cases h
theorem yone_ok (h : yone q.1 k pc L st S = some (pc', L', st', S')) : xone (xPrg q.1) 81 k pc (L.map yval) (st.map yval) (yH q S js) = some (pc', L'.map yval, st'.map yval, yH q S' js) := by
  unfold yone at h
  split at h
  · cases h
  · rename_i i n hc
    split at h
    · exact (xone_ev hc ⟨rfl, fun _ _ _ => rfl, fun _ h => (nomatch h), (nomatch ·)⟩).trans (yo1_ok h)
    · exact (xone_ev hc ⟨rfl, fun _ _ _ => rfl, fun _ h => (nomatch h), (nomatch ·)⟩).trans (yo2_ok h)
    · exact (xone_ev hc ⟨rfl, fun _ _ _ => rfl, fun _ h => (nomatch h), (nomatch ·)⟩).trans (yo3_ok h)
    · exact (xone_ev hc ⟨rfl, fun _ _ _ => rfl, fun _ h => (nomatch h), (nomatch ·)⟩).trans (yo4_ok h)
    · exact (xone_ev hc ⟨rfl, fun _ _ _ => rfl, fun _ h => (nomatch h), (nomatch ·)⟩).trans (yo5_ok h)
    · obtain ⟨h1, p1, p2, p3, p4, p5⟩ := yo6_ok (js := js) h
      exact (xone_ev hc ⟨p1, p2, p4, p5⟩).trans h1
end YEA
/-- a frame of the flat machine -/
noncomputable def Y (q : yQ) (d k pc : Nat) (L st : List yV) (S : yS) (js : List xO) : Option xRes := yD q.1 d k pc (L.map yval) (st.map yval) (yH q S js)
def yret (q : yQ) (x : yV) (S : yS) (js : List xO) : Option xRes := some (.inl (some (yval x)), yH q S js)
def yretv (q : yQ) (S : yS) (js : List xO) : Option xRes := some (.inl none, yH q S js)
/-- the thing made last is thrown -/
def ythr (q : yQ) (o : xO) (S : yS) (js : List xO) : Option xRes := some (.inr (135 + js.length), yH q S (js ++ [o]))
def yones (v : Value) (k : Nat) : Nat → Nat → List yV → List yV → yS → Option (Nat × List yV × List yV × yS)
  | 0, pc, L, st, S => some (pc, L, st, S)
  | n + 1, pc, L, st, S => match yone v k pc L st S with
    | some (pc', L', st', S') => yones v k n pc' L' st' S'
    | none => none
theorem Y_ones {q : yQ} {d k : Nat} {js : List xO} : ∀ {n pc pc' : Nat} {L st L' st' : List yV} {S S' : yS}, yones q.1 k n pc L st S = some (pc', L', st', S') → Y q d k pc L st S js = Y q d k pc' L' st' S' js
  | 0, pc, pc', L, st, L', st', S, S', h => by cases h; rfl
  | n + 1, pc, pc', L, st, L', st', S, S', h => by
    unfold yones at h
    split at h
    · rename_i h1
      exact (yD_one (yone_ok h1)).trans (Y_ones h)
    · cases h
end YE
