/-! the plain instructions behind one name: (length, locals, stack) -/
section XG
def xq (n : Nat) (o : Option (List Value × List Value)) : Option (Nat × List Value × List Value) := match o with
  | some (a, b) => some (n, a, b)
  | none => none
theorem xq_ok {n n' : Nat} {o : Option (List Value × List Value)} {L st : List Value} (h : xq n o = some (n', L, st)) : n' = n ∧ o = some (L, st) := by
  unfold xq at h
  split at h
  · cases h; exact ⟨rfl, rfl⟩
  · cases h
/-- what a class's pool says of its constants -/
def xCs (s : State) (args : Array Value) (own : String) (ad : Nat → Nat) (cs : Nat → Option Value) : Prop := ∀ idx v, cs idx = some v → match v with
  | .int x => (Cond.constant own idx x).before args s = true
  | .long x => (Cond.constantLong own idx x).before args s = true
  | .ref a => ∃ tx, vk_R own idx tx (ad a) s
  | _ => False
def x_ldc (cs : Nat → Option Value) (idx : Nat) (L st : List Value) : Option (List Value × List Value) := match cs idx with
  | some (.int x) => some (L, .int x :: st)
  | some (.ref a) => some (L, .ref a :: st)
  | _ => none
def x_ldcw (cs : Nat → Option Value) (idx : Nat) (L st : List Value) : Option (List Value × List Value) := match cs idx with
  | some (.int x) => some (L, .int x :: st)
  | _ => none
def x_ldc2 (cs : Nat → Option Value) (idx : Nat) (L st : List Value) : Option (List Value × List Value) := match cs idx with
  | some (.long x) => some (L, .long x :: st)
  | _ => none
def xplain (cs : Nat → Option Value) (i : Instr) (L st : List Value) : Option (Nat × List Value × List Value) := match i with
  | .ldc j => xq 2 (x_ldc cs j L st)
  | .ldc_w j => xq 3 (x_ldcw cs j L st)
  | .ldc2_w j => xq 3 (x_ldc2 cs j L st)
  | .iconst n => xq 1 (x_iconst n L st)
  | .lconst n => xq 1 (x_lconst n L st)
  | .dconst n => xq 1 (x_dconst n L st)
  | .bipush n => xq 2 (x_bipush n L st)
  | .sipush n => xq 3 (x_sipush n L st)
  | .aconst_null => xq 1 (x_null  L st)
  | .iload_n i => xq 1 (x_iload_n i L st)
  | .iload i => xq 2 (x_iload i L st)
  | .lload_n i => xq 1 (x_lload_n i L st)
  | .lload i => xq 2 (x_lload i L st)
  | .dload i => xq 2 (x_dload i L st)
  | .aload_n i => xq 1 (x_aload_n i L st)
  | .aload i => xq 2 (x_aload i L st)
  | .istore_n i => xq 1 (x_istore_n i L st)
  | .istore i => xq 2 (x_istore i L st)
  | .lstore_n i => xq 1 (x_lstore_n i L st)
  | .lstore i => xq 2 (x_lstore i L st)
  | .dstore i => xq 2 (x_dstore i L st)
  | .astore_n i => xq 1 (x_astore_n i L st)
  | .astore i => xq 2 (x_astore i L st)
  | .iinc i n => xq 3 (x_iinc i n L st)
  | .pop => xq 1 (x_pop  L st)
  | .dup => xq 1 (x_dup  L st)
  | .dup_x1 => xq 1 (x_dup_x1  L st)
  | .dup2 => xq 1 (x_dup2  L st)
  | .iadd => xq 1 (x_iadd  L st)
  | .isub => xq 1 (x_isub  L st)
  | .imul => xq 1 (x_imul  L st)
  | .iand => xq 1 (x_iand  L st)
  | .ior => xq 1 (x_ior  L st)
  | .ishl => xq 1 (x_ishl  L st)
  | .ishr => xq 1 (x_ishr  L st)
  | .iushr => xq 1 (x_iushr  L st)
  | .idiv => xq 1 (x_idiv  L st)
  | .irem => xq 1 (x_irem  L st)
  | .ladd => xq 1 (x_ladd  L st)
  | .lsub => xq 1 (x_lsub  L st)
  | .lmul => xq 1 (x_lmul  L st)
  | .land => xq 1 (x_land  L st)
  | .lor => xq 1 (x_lor  L st)
  | .ldiv => xq 1 (x_ldiv  L st)
  | .lrem => xq 1 (x_lrem  L st)
  | .lcmp => xq 1 (x_lcmp  L st)
  | .lshl => xq 1 (x_lshl  L st)
  | .lshr => xq 1 (x_lshr  L st)
  | .lushr => xq 1 (x_lushr  L st)
  | .ineg => xq 1 (x_ineg  L st)
  | .lneg => xq 1 (x_lneg  L st)
  | .i2l => xq 1 (x_i2l  L st)
  | .l2i => xq 1 (x_l2i  L st)
  | .i2b => xq 1 (x_i2b  L st)
  | .i2c => xq 1 (x_i2c  L st)
  | .i2d => xq 1 (x_i2d  L st)
  | .ddiv => xq 1 (x_ddiv  L st)
  | .dcmp o => xq 1 (x_dcmp o L st)
  | _ => none
variable {p : Program} {l : Launch} {e : Env} {R : Room} {s : State} {m : MethodId} {args : Array Value} {below : List Frame} {meth : Method} {c : Code} {H : Heap} {locs : List Loc} {cells slots : Nat} {Q : State → Prop}
variable {cc : ByteArray} {pc : Nat} {ls : Array Slot} {ad : Nat → Nat} {nL : Nat} {L L' st st' : List Value} {own : String}
theorem s_ldc (hx : p.tables.exec = Jvm.exec) (hb : c.code = cc) (hown : s.vm.findClass own = some m.cls) {cs : Nat → Option Value} (hcs : xCs s args own ad cs) {idx : Nat} (hd : decode cc pc = .ok (.ldc idx, 2)) (hl : xL ad L ls nL) (h : x_ldc cs idx L st = some (L', st')) (k : ∀ ls' : Array Slot, xL ad L' ls' nL → W p l e R s m args below meth c H locs cells slots Q (F0 m (pc + 2) ls' (xJ st' ad))) : W p l e R s m args below meth c H locs cells slots Q (F0 m pc ls (xJ st ad)) := by
  unfold x_ldc at h
  split at h
  · rename_i x hv; cases h; exact lv_ldc hx hb hown (hcs _ _ hv) hd (k ls hl)
  · rename_i a hv; cases h; obtain ⟨tx, hR⟩ := hcs _ _ hv; exact va_ldcS hx hb hown hR hd (k ls hl)
  · cases h
theorem s_ldcw (hx : p.tables.exec = Jvm.exec) (hb : c.code = cc) (hown : s.vm.findClass own = some m.cls) {cs : Nat → Option Value} (hcs : xCs s args own ad cs) {idx : Nat} (hd : decode cc pc = .ok (.ldc_w idx, 3)) (hl : xL ad L ls nL) (h : x_ldcw cs idx L st = some (L', st')) (k : ∀ ls' : Array Slot, xL ad L' ls' nL → W p l e R s m args below meth c H locs cells slots Q (F0 m (pc + 3) ls' (xJ st' ad))) : W p l e R s m args below meth c H locs cells slots Q (F0 m pc ls (xJ st ad)) := by
  unfold x_ldcw at h
  split at h
  · rename_i x hv; cases h; exact lv_ldcw hx hb hown (hcs _ _ hv) hd (k ls hl)
  · cases h
theorem s_ldc2 (hx : p.tables.exec = Jvm.exec) (hb : c.code = cc) (hown : s.vm.findClass own = some m.cls) {cs : Nat → Option Value} (hcs : xCs s args own ad cs) {idx : Nat} (hd : decode cc pc = .ok (.ldc2_w idx, 3)) (hl : xL ad L ls nL) (h : x_ldc2 cs idx L st = some (L', st')) (k : ∀ ls' : Array Slot, xL ad L' ls' nL → W p l e R s m args below meth c H locs cells slots Q (F0 m (pc + 3) ls' (xJ st' ad))) : W p l e R s m args below meth c H locs cells slots Q (F0 m pc ls (xJ st ad)) := by
  unfold x_ldc2 at h
  split at h
  · rename_i x hv; cases h; exact lv_ldc2 hx hb hown (hcs _ _ hv) hd (k ls hl)
  · cases h
theorem s_plain (hx : p.tables.exec = Jvm.exec) (hb : c.code = cc) (hown : s.vm.findClass own = some m.cls) {cs : Nat → Option Value} (hcs : xCs s args own ad cs) (hlen : L.length = nL) {i : Instr} {n : Nat} (hl : xL ad L ls nL) (h : xplain cs i L st = some (n, L', st')) (hd : decode cc pc = .ok (i, n))
    (k : ∀ ls' : Array Slot, xL ad L' ls' nL → W p l e R s m args below meth c H locs cells slots Q (F0 m (pc + n) ls' (xJ st' ad))) : W p l e R s m args below meth c H locs cells slots Q (F0 m pc ls (xJ st ad)) := by
  unfold xplain at h
  split at h
  · obtain ⟨rfl, h1⟩ := xq_ok h; exact s_ldc hx hb hown hcs hd hl h1 k
  · obtain ⟨rfl, h1⟩ := xq_ok h; exact s_ldcw hx hb hown hcs hd hl h1 k
  · obtain ⟨rfl, h1⟩ := xq_ok h; exact s_ldc2 hx hb hown hcs hd hl h1 k
  · obtain ⟨rfl, h1⟩ := xq_ok h; exact s_iconst hx hb  _ hd hl h1 k
  · obtain ⟨rfl, h1⟩ := xq_ok h; exact s_lconst hx hb  _ hd hl h1 k
  · obtain ⟨rfl, h1⟩ := xq_ok h; exact s_dconst hx hb  _ hd hl h1 k
  · obtain ⟨rfl, h1⟩ := xq_ok h; exact s_bipush hx hb  _ hd hl h1 k
  · obtain ⟨rfl, h1⟩ := xq_ok h; exact s_sipush hx hb  _ hd hl h1 k
  · obtain ⟨rfl, h1⟩ := xq_ok h; exact s_null hx hb  hd hl h1 k
  · obtain ⟨rfl, h1⟩ := xq_ok h; exact s_iload_n hx hb  _ hd hl h1 k
  · obtain ⟨rfl, h1⟩ := xq_ok h; exact s_iload hx hb  _ hd hl h1 k
  · obtain ⟨rfl, h1⟩ := xq_ok h; exact s_lload_n hx hb  _ hd hl h1 k
  · obtain ⟨rfl, h1⟩ := xq_ok h; exact s_lload hx hb  _ hd hl h1 k
  · obtain ⟨rfl, h1⟩ := xq_ok h; exact s_dload hx hb  _ hd hl h1 k
  · obtain ⟨rfl, h1⟩ := xq_ok h; exact s_aload_n hx hb  _ hd hl h1 k
  · obtain ⟨rfl, h1⟩ := xq_ok h; exact s_aload hx hb  _ hd hl h1 k
  · obtain ⟨rfl, h1⟩ := xq_ok h; exact s_istore_n hx hb hlen _ hd hl h1 k
  · obtain ⟨rfl, h1⟩ := xq_ok h; exact s_istore hx hb hlen _ hd hl h1 k
  · obtain ⟨rfl, h1⟩ := xq_ok h; exact s_lstore_n hx hb hlen _ hd hl h1 k
  · obtain ⟨rfl, h1⟩ := xq_ok h; exact s_lstore hx hb hlen _ hd hl h1 k
  · obtain ⟨rfl, h1⟩ := xq_ok h; exact s_dstore hx hb hlen _ hd hl h1 k
  · obtain ⟨rfl, h1⟩ := xq_ok h; exact s_astore_n hx hb hlen _ hd hl h1 k
  · obtain ⟨rfl, h1⟩ := xq_ok h; exact s_astore hx hb hlen _ hd hl h1 k
  · obtain ⟨rfl, h1⟩ := xq_ok h; exact s_iinc hx hb hlen _ _ hd hl h1 k
  · obtain ⟨rfl, h1⟩ := xq_ok h; exact s_pop hx hb  hd hl h1 k
  · obtain ⟨rfl, h1⟩ := xq_ok h; exact s_dup hx hb  hd hl h1 k
  · obtain ⟨rfl, h1⟩ := xq_ok h; exact s_dup_x1 hx hb  hd hl h1 k
  · obtain ⟨rfl, h1⟩ := xq_ok h; exact s_dup2 hx hb  hd hl h1 k
  · obtain ⟨rfl, h1⟩ := xq_ok h; exact s_iadd hx hb  hd hl h1 k
  · obtain ⟨rfl, h1⟩ := xq_ok h; exact s_isub hx hb  hd hl h1 k
  · obtain ⟨rfl, h1⟩ := xq_ok h; exact s_imul hx hb  hd hl h1 k
  · obtain ⟨rfl, h1⟩ := xq_ok h; exact s_iand hx hb  hd hl h1 k
  · obtain ⟨rfl, h1⟩ := xq_ok h; exact s_ior hx hb  hd hl h1 k
  · obtain ⟨rfl, h1⟩ := xq_ok h; exact s_ishl hx hb  hd hl h1 k
  · obtain ⟨rfl, h1⟩ := xq_ok h; exact s_ishr hx hb  hd hl h1 k
  · obtain ⟨rfl, h1⟩ := xq_ok h; exact s_iushr hx hb  hd hl h1 k
  · obtain ⟨rfl, h1⟩ := xq_ok h; exact s_idiv hx hb  hd hl h1 k
  · obtain ⟨rfl, h1⟩ := xq_ok h; exact s_irem hx hb  hd hl h1 k
  · obtain ⟨rfl, h1⟩ := xq_ok h; exact s_ladd hx hb  hd hl h1 k
  · obtain ⟨rfl, h1⟩ := xq_ok h; exact s_lsub hx hb  hd hl h1 k
  · obtain ⟨rfl, h1⟩ := xq_ok h; exact s_lmul hx hb  hd hl h1 k
  · obtain ⟨rfl, h1⟩ := xq_ok h; exact s_land hx hb  hd hl h1 k
  · obtain ⟨rfl, h1⟩ := xq_ok h; exact s_lor hx hb  hd hl h1 k
  · obtain ⟨rfl, h1⟩ := xq_ok h; exact s_ldiv hx hb  hd hl h1 k
  · obtain ⟨rfl, h1⟩ := xq_ok h; exact s_lrem hx hb  hd hl h1 k
  · obtain ⟨rfl, h1⟩ := xq_ok h; exact s_lcmp hx hb  hd hl h1 k
  · obtain ⟨rfl, h1⟩ := xq_ok h; exact s_lshl hx hb  hd hl h1 k
  · obtain ⟨rfl, h1⟩ := xq_ok h; exact s_lshr hx hb  hd hl h1 k
  · obtain ⟨rfl, h1⟩ := xq_ok h; exact s_lushr hx hb  hd hl h1 k
  · obtain ⟨rfl, h1⟩ := xq_ok h; exact s_ineg hx hb  hd hl h1 k
  · obtain ⟨rfl, h1⟩ := xq_ok h; exact s_lneg hx hb  hd hl h1 k
  · obtain ⟨rfl, h1⟩ := xq_ok h; exact s_i2l hx hb  hd hl h1 k
  · obtain ⟨rfl, h1⟩ := xq_ok h; exact s_l2i hx hb  hd hl h1 k
  · obtain ⟨rfl, h1⟩ := xq_ok h; exact s_i2b hx hb  hd hl h1 k
  · obtain ⟨rfl, h1⟩ := xq_ok h; exact s_i2c hx hb  hd hl h1 k
  · obtain ⟨rfl, h1⟩ := xq_ok h; exact s_i2d hx hb  hd hl h1 k
  · obtain ⟨rfl, h1⟩ := xq_ok h; exact s_ddiv hx hb  hd hl h1 k
  · obtain ⟨rfl, h1⟩ := xq_ok h; exact s_dcmp hx hb  _ hd hl h1 k
  · cases h
theorem xplain_len {cs : Nat → Option Value} {i : Instr} {n : Nat} (h : xplain cs i L st = some (n, L', st')) : L'.length = L.length := by
  unfold xplain at h
  split at h
  · obtain ⟨-, h1⟩ := xq_ok h; unfold x_ldc at h1; (repeat' split at h1) <;> first | (cases h1; rfl) | cases h1
  · obtain ⟨-, h1⟩ := xq_ok h; unfold x_ldcw at h1; (repeat' split at h1) <;> first | (cases h1; rfl) | cases h1
  · obtain ⟨-, h1⟩ := xq_ok h; unfold x_ldc2 at h1; (repeat' split at h1) <;> first | (cases h1; rfl) | cases h1
  · obtain ⟨-, h1⟩ := xq_ok h; unfold x_iconst at h1; (repeat' split at h1) <;> first | (cases h1; rfl) | cases h1
  · obtain ⟨-, h1⟩ := xq_ok h; unfold x_lconst at h1; (repeat' split at h1) <;> first | (cases h1; rfl) | cases h1
  · obtain ⟨-, h1⟩ := xq_ok h; unfold x_dconst at h1; (repeat' split at h1) <;> first | (cases h1; rfl) | cases h1
  · obtain ⟨-, h1⟩ := xq_ok h; unfold x_bipush at h1; (repeat' split at h1) <;> first | (cases h1; rfl) | cases h1
  · obtain ⟨-, h1⟩ := xq_ok h; unfold x_sipush at h1; (repeat' split at h1) <;> first | (cases h1; rfl) | cases h1
  · obtain ⟨-, h1⟩ := xq_ok h; unfold x_null at h1; (repeat' split at h1) <;> first | (cases h1; rfl) | cases h1
  · obtain ⟨-, h1⟩ := xq_ok h; unfold x_iload_n at h1; (repeat' split at h1) <;> first | (cases h1; rfl) | cases h1
  · obtain ⟨-, h1⟩ := xq_ok h; unfold x_iload at h1; (repeat' split at h1) <;> first | (cases h1; rfl) | cases h1
  · obtain ⟨-, h1⟩ := xq_ok h; unfold x_lload_n at h1; (repeat' split at h1) <;> first | (cases h1; rfl) | cases h1
  · obtain ⟨-, h1⟩ := xq_ok h; unfold x_lload at h1; (repeat' split at h1) <;> first | (cases h1; rfl) | cases h1
  · obtain ⟨-, h1⟩ := xq_ok h; unfold x_dload at h1; (repeat' split at h1) <;> first | (cases h1; rfl) | cases h1
  · obtain ⟨-, h1⟩ := xq_ok h; unfold x_aload_n at h1; (repeat' split at h1) <;> first | (cases h1; rfl) | cases h1
  · obtain ⟨-, h1⟩ := xq_ok h; unfold x_aload at h1; (repeat' split at h1) <;> first | (cases h1; rfl) | cases h1
  · obtain ⟨-, h1⟩ := xq_ok h; unfold x_istore_n at h1; (repeat' split at h1) <;> first | (cases h1; simp [xst2, xst_len]; done) | cases h1
  · obtain ⟨-, h1⟩ := xq_ok h; unfold x_istore at h1; (repeat' split at h1) <;> first | (cases h1; simp [xst2, xst_len]; done) | cases h1
  · obtain ⟨-, h1⟩ := xq_ok h; unfold x_lstore_n at h1; (repeat' split at h1) <;> first | (cases h1; simp [xst2, xst_len]; done) | cases h1
  · obtain ⟨-, h1⟩ := xq_ok h; unfold x_lstore at h1; (repeat' split at h1) <;> first | (cases h1; simp [xst2, xst_len]; done) | cases h1
  · obtain ⟨-, h1⟩ := xq_ok h; unfold x_dstore at h1; (repeat' split at h1) <;> first | (cases h1; simp [xst2, xst_len]; done) | cases h1
  · obtain ⟨-, h1⟩ := xq_ok h; unfold x_astore_n at h1; (repeat' split at h1) <;> first | (cases h1; simp [xst2, xst_len]; done) | cases h1
  · obtain ⟨-, h1⟩ := xq_ok h; unfold x_astore at h1; (repeat' split at h1) <;> first | (cases h1; simp [xst2, xst_len]; done) | cases h1
  · obtain ⟨-, h1⟩ := xq_ok h; unfold x_iinc at h1; (repeat' split at h1) <;> first | (cases h1; simp [xst2, xst_len]; done) | cases h1
  · obtain ⟨-, h1⟩ := xq_ok h; unfold x_pop at h1; (repeat' split at h1) <;> first | (cases h1; rfl) | cases h1
  · obtain ⟨-, h1⟩ := xq_ok h; unfold x_dup at h1; (repeat' split at h1) <;> first | (cases h1; rfl) | cases h1
  · obtain ⟨-, h1⟩ := xq_ok h; unfold x_dup_x1 at h1; (repeat' split at h1) <;> first | (cases h1; rfl) | cases h1
  · obtain ⟨-, h1⟩ := xq_ok h; unfold x_dup2 at h1; (repeat' split at h1) <;> first | (cases h1; rfl) | cases h1
  · obtain ⟨-, h1⟩ := xq_ok h; unfold x_iadd at h1; (repeat' split at h1) <;> first | (cases h1; rfl) | cases h1
  · obtain ⟨-, h1⟩ := xq_ok h; unfold x_isub at h1; (repeat' split at h1) <;> first | (cases h1; rfl) | cases h1
  · obtain ⟨-, h1⟩ := xq_ok h; unfold x_imul at h1; (repeat' split at h1) <;> first | (cases h1; rfl) | cases h1
  · obtain ⟨-, h1⟩ := xq_ok h; unfold x_iand at h1; (repeat' split at h1) <;> first | (cases h1; rfl) | cases h1
  · obtain ⟨-, h1⟩ := xq_ok h; unfold x_ior at h1; (repeat' split at h1) <;> first | (cases h1; rfl) | cases h1
  · obtain ⟨-, h1⟩ := xq_ok h; unfold x_ishl at h1; (repeat' split at h1) <;> first | (cases h1; rfl) | cases h1
  · obtain ⟨-, h1⟩ := xq_ok h; unfold x_ishr at h1; (repeat' split at h1) <;> first | (cases h1; rfl) | cases h1
  · obtain ⟨-, h1⟩ := xq_ok h; unfold x_iushr at h1; (repeat' split at h1) <;> first | (cases h1; rfl) | cases h1
  · obtain ⟨-, h1⟩ := xq_ok h; unfold x_idiv at h1; (repeat' split at h1) <;> first | (cases h1; rfl) | cases h1
  · obtain ⟨-, h1⟩ := xq_ok h; unfold x_irem at h1; (repeat' split at h1) <;> first | (cases h1; rfl) | cases h1
  · obtain ⟨-, h1⟩ := xq_ok h; unfold x_ladd at h1; (repeat' split at h1) <;> first | (cases h1; rfl) | cases h1
  · obtain ⟨-, h1⟩ := xq_ok h; unfold x_lsub at h1; (repeat' split at h1) <;> first | (cases h1; rfl) | cases h1
  · obtain ⟨-, h1⟩ := xq_ok h; unfold x_lmul at h1; (repeat' split at h1) <;> first | (cases h1; rfl) | cases h1
  · obtain ⟨-, h1⟩ := xq_ok h; unfold x_land at h1; (repeat' split at h1) <;> first | (cases h1; rfl) | cases h1
  · obtain ⟨-, h1⟩ := xq_ok h; unfold x_lor at h1; (repeat' split at h1) <;> first | (cases h1; rfl) | cases h1
  · obtain ⟨-, h1⟩ := xq_ok h; unfold x_ldiv at h1; (repeat' split at h1) <;> first | (cases h1; rfl) | cases h1
  · obtain ⟨-, h1⟩ := xq_ok h; unfold x_lrem at h1; (repeat' split at h1) <;> first | (cases h1; rfl) | cases h1
  · obtain ⟨-, h1⟩ := xq_ok h; unfold x_lcmp at h1; (repeat' split at h1) <;> first | (cases h1; rfl) | cases h1
  · obtain ⟨-, h1⟩ := xq_ok h; unfold x_lshl at h1; (repeat' split at h1) <;> first | (cases h1; rfl) | cases h1
  · obtain ⟨-, h1⟩ := xq_ok h; unfold x_lshr at h1; (repeat' split at h1) <;> first | (cases h1; rfl) | cases h1
  · obtain ⟨-, h1⟩ := xq_ok h; unfold x_lushr at h1; (repeat' split at h1) <;> first | (cases h1; rfl) | cases h1
  · obtain ⟨-, h1⟩ := xq_ok h; unfold x_ineg at h1; (repeat' split at h1) <;> first | (cases h1; rfl) | cases h1
  · obtain ⟨-, h1⟩ := xq_ok h; unfold x_lneg at h1; (repeat' split at h1) <;> first | (cases h1; rfl) | cases h1
  · obtain ⟨-, h1⟩ := xq_ok h; unfold x_i2l at h1; (repeat' split at h1) <;> first | (cases h1; rfl) | cases h1
  · obtain ⟨-, h1⟩ := xq_ok h; unfold x_l2i at h1; (repeat' split at h1) <;> first | (cases h1; rfl) | cases h1
  · obtain ⟨-, h1⟩ := xq_ok h; unfold x_i2b at h1; (repeat' split at h1) <;> first | (cases h1; rfl) | cases h1
  · obtain ⟨-, h1⟩ := xq_ok h; unfold x_i2c at h1; (repeat' split at h1) <;> first | (cases h1; rfl) | cases h1
  · obtain ⟨-, h1⟩ := xq_ok h; unfold x_i2d at h1; (repeat' split at h1) <;> first | (cases h1; rfl) | cases h1
  · obtain ⟨-, h1⟩ := xq_ok h; unfold x_ddiv at h1; (repeat' split at h1) <;> first | (cases h1; rfl) | cases h1
  · obtain ⟨-, h1⟩ := xq_ok h; unfold x_dcmp at h1; (repeat' split at h1) <;> first | (cases h1; rfl) | cases h1
  · cases h
end XG
