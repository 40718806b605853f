/-! TWO STEPS MORE: System.arraycopy of bytes, a byte array's clone with its cast -/
section XEX
variable {p : Program} {l : Launch} {e : Env} {R : Room} {s : State} {m : MethodId} {args : Array Value} {below : List Frame} {meth : Method} {c : Code} {H : Heap} {locs : List Loc} {cells slots : Nat} {Q : State → Prop}
variable {cc : ByteArray} {pc : Nat} {ls : Array Slot} {ad : Nat → Nat} {bs : List xO} {clB : List vw_C} {A : Nat → Prop} {st st' : List Value} {D : va_G} {cl : List vw_C} {tyc : Nat → ClassId} {ah ah' : List xO} {own : String}
/-- what lies there fits bytes -/
def x_byt (f : Nat → Int32) (o n : Nat) : Bool := (List.range n).all fun i => fits .byte (.int (f (o + i)))
theorem x_byt_ok {f : Nat → Int32} {o n : Nat} (h : x_byt f o n = true) : ∀ i, i < n → fits .byte (.int (f (o + i))) = true := fun i hi => List.all_eq_true.mp h i (List.mem_range.mpr hi)
def x_acp (E : Nat) (ma : Nat → Option Nat) (j : Nat) (ah : List xO) (st : List Value) : Option (List xO × List Value) := match ma j, st with
  | some 5, .int n :: .int dp :: .ref b :: .int sp :: .ref a :: r => match ah[a]?, ah[b]? with
    | some (.inl (t, n0, .inl f)), some (.inl (t1, n1, .inl g)) => if (t = 2 ∨ t = 12) ∧ t1 = 2 ∧ E ≤ b ∧ r.length ≤ 12 ∧ (¬ sp < 0) ∧ (¬ dp < 0) ∧ (¬ n < 0) ∧ sp.toNatClampNeg + n.toNatClampNeg ≤ n0 ∧ dp.toNatClampNeg + n.toNatClampNeg ≤ n1 ∧ x_byt f sp.toNatClampNeg n.toNatClampNeg = true then some (ah.set b (.inl (2, n1, .inl (va_cpy f g sp.toNatClampNeg dp.toNatClampNeg n.toNatClampNeg))), r) else none
    | _, _ => none
  | _, _ => none
theorem s_acp (hx : p.tables.exec = Jvm.exec) (hb : c.code = cc) (hml : ls.size = c.maxLocals) (hown : s.vm.findClass own = some m.cls) {j : Nat} (hlink : (Cond.methodLink own j arraycopyName).before args s = true) (hnat : (Cond.native arraycopyName).before args s = true) (hstat : (Cond.static arraycopyName).before args s = true) (hini : (Cond.initialized "java/lang/System").before args s = true)
    (hK : va_K D cl (xtys tyc) s) (hB : xBs clB ad A bs s) (had : xAd ad bs.length A) (hI : xI D cl tyc ad bs A s.heap ah H locs) (hRf : 1 ≤ R.frames) (hRl : 150 ≤ R.locals) {ma : Nat → Option Nat}
    (hd : decode cc pc = .ok (.invokestatic j, 3)) (h : x_acp bs.length ma j ah st = some (ah', st'))
    (k : ∀ (H1 : Heap) (locs1 : List Loc), xI D cl tyc ad bs A s.heap ah' H1 locs1 → ah'.length = ah.length → xsum ah' = xsum ah → W p l e R s m args below meth c H1 locs1 cells slots Q (F0 m (pc + 3) ls (xJ st' ad))) : W p l e R s m args below meth c H locs cells slots Q (F0 m pc ls (xJ st ad)) := by
  unfold x_acp at h
  split at h
  · rename_i n dp b sp a r hj
    split at h
    · rename_i t n0 f t1 n1 g hoa hob
      split at h
      · rename_i hc
        obtain ⟨ht, rfl, hE, hr, h1, h2, h3, h4, h5, hby⟩ := hc
        injection h with h
        injection h with he1 he2
        subst he1
        subst he2
        obtain ⟨scr, z1, z2, z3, z4, z5⟩ := hI.arr hK hB hoa
        have ety : xty t = .byte := by rcases ht with rfl | rfl <;> rfl
        rw [ety] at z2
        obtain ⟨hs6, k0, hk0, cm0, hkk0⟩ := z2
        have hc1 : H[ad b]? = some (vp_cell (tyc 2) (n1, .inl g)) := (hI.1.2 b _ hE hob).2
        obtain ⟨-, k1, hk1, cm1, hkk1⟩ := (hK.2 2 _ rfl).1 n1 (fun j => .int (g j))
        have nn : ∀ z : Int32, ¬ z < 0 → z.toInt = (z.toNatClampNeg : Int) := by
          intro z hz
          have hz0 : (0 : Int) ≤ z.toInt := by
            have := Int32.not_lt.mp hz
            simpa using Int32.le_iff_toInt_le.mp this
          show z.toInt = ((z.toInt.toNat : Nat) : Int)
          omega
        have hcat := xcatsum ad r
        have z5' : ∀ j, j < n0 → scr.slots[j]? = some (.int (f j)) := z5
        have z4' : n0 ≤ scr.slots.size := z4.1
        intro T hT X
        obtain ⟨vm', X', step⟩ := X.arraycopy hx hown hlink hnat hstat hini (src := ad a) (dst := ad b) (cs := scr) (cd := vp_cell (tyc 2) (n1, .inl g)) (srcPos := sp) (destPos := dp) (n := n) (by rw [hT]; exact z1) (by rw [hT]; exact hc1)
          hs6 (fun _ h => by cases h) z3 (fun h => by cases h) hk0 hk1 hkk0 hkk1 (by simp [refKind]) h1 h2 h3
          (by rw [nn sp h1, nn n h3]; omega)
          (by rw [nn dp h2, nn n h3]; show ¬ _ > ((arrV (tyc 2) n1 (fun j => .int (g j))).slots.size : Int); rw [arrV_size]; omega)
          (fun vm₁ _ i hi => by
            have e : scr.slots.getD (sp.toNatClampNeg + i) .null = .int (f (sp.toNatClampNeg + i)) := by
              rw [Array.getD_eq_getD_getElem?, z5' _ (by omega)]
              rfl
            refine ⟨?_, ?_⟩
            · rw [e]
              exact x_byt_ok hby i hi
            · rw [e]
              exact trivial)
          (g := F0 m pc ls (.int n :: .int dp :: .ref (ad b) :: .int sp :: .ref (ad a) :: xJ r ad)) rfl hml (rest := xJ r ad) rfl (by rw [hb]; exact hd) hRf (by
            have e0 : nativeFrameWords "java/lang/System" "arraycopy" 5 ≤ 100 := by decide
            show 2 * 0 + _ + _ ≤ _
            omega)
        have e1 : copied scr (vp_cell (tyc 2) (n1, .inl g)) sp dp n = vp_cell (tyc 2) (n1, .inl (va_cpy f g sp.toNatClampNeg dp.toNatClampNeg n.toNatClampNeg)) := va_copiedX (fun z => .int z) scr (tyc 2) f g z5' h4
        rw [e1] at X' step
        have hl : ad b < H.size := (Array.getElem?_eq_some_iff.mp hc1).1
        have hheap : ((T.setVm vm').setCell (ad b) (vp_cell (tyc 2) (n1, .inl (va_cpy f g sp.toNatClampNeg dp.toNatClampNeg n.toNatClampNeg)))).heap = H.setIfInBounds (ad b) (vp_cell (tyc 2) (n1, .inl (va_cpy f g sp.toNatClampNeg dp.toNatClampNeg n.toNatClampNeg))) := by rw [← hT]; rfl
        have oq : ∀ q : Nat, q ≠ ad b → (H.setIfInBounds (ad b) (vp_cell (tyc 2) (n1, .inl (va_cpy f g sp.toNatClampNeg dp.toNatClampNeg n.toNatClampNeg))))[q]? = H[q]? := fun q hq => by simp [Array.getElem?_setIfInBounds, Ne.symm hq]
        have hS := hI.set (i := 0) (o := .inl (2, n1, .inl (va_cpy f g sp.toNatClampNeg dp.toNatClampNeg n.toNatClampNeg))) (H1 := H.setIfInBounds (ad b) (vp_cell (tyc 2) (n1, .inl (va_cpy f g sp.toNatClampNeg dp.toNatClampNeg n.toNatClampNeg)))) had hE (hI.1.2 b _ hE hob).1 (show (H.setIfInBounds (ad b) (vp_cell (tyc 2) (n1, .inl (va_cpy f g sp.toNatClampNeg dp.toNatClampNeg n.toNatClampNeg))))[ad b]? = some (vp_cell (tyc 2) (n1, .inl (va_cpy f g sp.toNatClampNeg dp.toNatClampNeg n.toNatClampNeg))) by simp [Array.getElem?_setIfInBounds, hl]) (by simp) oq
        obtain ⟨t, a1, b1⟩ := k _ _ ⟨hS.1, hS.2.1, hS.2.2.1, hS.2.2.2.1, hS.2.2.2.2.1, fun q hq => by
          rcases List.mem_append.mp hq with h | h
          · exact hI.2.2.2.2.2 q h
          · obtain ⟨z, -, hz⟩ := List.mem_map.mp h
            rw [← hz]
            exact (had.2 b hE).2⟩ (List.length_set ..) (xsum_set hob rfl) _ hheap X'
        exact ⟨t, step t a1, b1⟩
      · cases h
    · cases h
  · cases h
/-- a byte array's clone, and the cast behind it -/
def x_cln (ma : Nat → Option Nat) (nx : Option (Instr × Nat)) (j : Nat) (ah : List xO) (st : List Value) : Option (List xO × List Value) := match ma j, nx, st with
  | some 6, some (.checkcast j2, 3), .ref a :: r => match ah[a]? with
    | some (.inl (t, n, .inl f)) => if t = 2 ∧ ma j2 = some 7 ∧ r.length ≤ 12 ∧ x_byt f 0 n = true then some (ah ++ [.inl (2, n, .inl f)], .ref ah.length :: r) else none
    | _ => none
  | _, _, _ => none
theorem s_cln (hx : p.tables.exec = Jvm.exec) (hb : c.code = cc) (hml : ls.size = c.maxLocals) (hown : s.vm.findClass own = some m.cls) {j : Nat}
    (hlink : (Cond.methodLink own j ⟨"[B", "clone", "()Ljava/lang/Object;"⟩).before args s = true) (hsame : (Cond.sameMethod "[B" "java/lang/Object" "clone" "()Ljava/lang/Object;").before args s = true)
    (hnat : (Cond.native ⟨"java/lang/Object", "clone", "()Ljava/lang/Object;"⟩).before args s = true) (hinst : (Cond.instanceMethod ⟨"java/lang/Object", "clone", "()Ljava/lang/Object;"⟩).before args s = true)
    (hsel : (Cond.selects "[B" ⟨"[B", "clone", "()Ljava/lang/Object;"⟩ ⟨"java/lang/Object", "clone", "()Ljava/lang/Object;"⟩).before args s = true) (hcl : va_Nw (.castable "[B" "java/lang/Cloneable") s)
    (hK : va_K D cl (xtys tyc) s) (had : xAd ad bs.length A) (hB : xBs clB ad A bs s) (hI : xI D cl tyc ad bs A s.heap ah H locs) (hRf : 1 ≤ R.frames) (hRl : 150 ≤ R.locals) {ma : Nat → Option Nat}
    (hcs : ∀ j2, ma j2 = some 7 → (Cond.classLink own j2 "[B").before args s = true)
    {nx : Option (Instr × Nat)} (hnx : ∀ i n, nx = some (i, n) → decode cc (pc + 3) = .ok (i, n)) (hd : decode cc pc = .ok (.invokevirtual j, 3)) (h : x_cln ma nx j ah st = some (ah', st')) {c0 z0 : Nat} (hc0 : cells + c0 = ah.length) (hz0 : slots + z0 = xsum ah) (hr : ah'.length ≤ R.cells + c0 ∧ xsum ah' ≤ R.slots + z0)
    (k : ∀ (H1 : Heap) (cells1 slots1 : Nat), xI D cl tyc ad bs A s.heap ah' H1 locs → cells1 + c0 = ah'.length → slots1 + z0 = xsum ah' → W p l e R s m args below meth c H1 locs cells1 slots1 Q (F0 m (pc + 6) ls (xJ st' ad))) : W p l e R s m args below meth c H locs cells slots Q (F0 m pc ls (xJ st ad)) := by
  unfold x_cln at h
  split at h
  · rename_i j2 a r hj
    split at h
    · rename_i t n f ho
      split at h
      · rename_i hc
        obtain ⟨rfl, hj2, hr12, hby⟩ := hc
        cases h
        have hE : bs.length ≤ a := Nat.not_lt.mp fun z => by
          rw [hI.1.1 a z] at ho
          have := (hB _ _ ho).1
          omega
        have hcell : H[ad a]? = some (vp_cell (tyc 2) (n, .inl f)) := (hI.1.2 a _ hE ho).2
        have hnm : s.vm.findClass "[B" = some (tyc 2) := (hK.2 2 _ rfl).2
        have hcat := xcatsum ad r
        have hl1 : ([Sum.inl (2, n, .inl f)] : List xO).length = 1 := rfl
        have hsz0 : xsz (.inl (2, n, .inl f)) = n := rfl
        rw [List.length_append, hl1, xsum_push, hsz0] at hr
        have hsz : (vp_cell (tyc 2) (n, .inl f)).slots.size = n := arrV_size _ _ _
        obtain ⟨cC, t0', f1, f2, f3⟩ := Cond.castable_spec (va_Nw.use (A := args) rfl hcl)
        cases hnm.symm.trans f1
        intro T hT X
        have hcellT : T.heap[ad a]? = some (vp_cell (tyc 2) (n, .inl f)) := by rw [hT]; exact hcell
        obtain ⟨-, kA, hkA, comp, hkind⟩ := State.isArrayOf_alike X.warmed.alike ((hK.2 2 _ rfl).1 0 (fun _ => .null))
        obtain ⟨-, kS, hkS, compS, hkindS⟩ := (hK.2 2 _ rfl).1 0 (fun _ => .null)
        obtain ⟨vm', X', st1⟩ := X.cloneArray hx hown hlink hsame hnat hinst hsel (a := ad a) (cell := vp_cell (tyc 2) (n, .inl f)) hcellT (fun k h => by cases h) (fun h => by cases h) hnm f2 f3
          (fun i v hv => by
            have hv : (arrV (tyc 2) n (fun j => .int (f j))).slots[i]? = some v := hv
            have hk' : T.vm.classes[tyc 2]? = some kA := hkA
            have hfit : fits .byte v = true := by
              by_cases hi : i < n
              · rw [arrV_read _ _ hi] at hv
                cases hv
                have := x_byt_ok hby i hi
                rw [Nat.zero_add] at this
                exact this
              · rw [Array.getElem?_eq_none (by rw [arrV_size]; omega)] at hv
                cases hv
            show T.fitsSlot (tyc 2) .none i v = true
            simpa [State.fitsSlot, State.slotType?, hk', hkind] using hfit)
          (g := F0 m pc ls (.ref (ad a) :: xJ r ad)) rfl hml (rest := xJ r ad) rfl (by rw [hb]; exact hd) hRf (by show 2 * 0 + _ + 14 ≤ _; omega) (by omega) (by rw [hsz]; omega) (hloader := Vm.clonesLoader_of_array hkS hkindS)
        rw [hsz] at X'
        have hcellE : ({ cls := (vp_cell (tyc 2) (n, .inl f)).cls, slots := (vp_cell (tyc 2) (n, .inl f)).slots } : Cell) = vp_cell (tyc 2) (n, .inl f) := rfl
        rw [hcellE] at X' st1
        have z1 : (H.push (vp_cell (tyc 2) (n, .inl f))).size = H.size + 1 := Array.size_push ..
        have o1 : ∀ q : Nat, q < H.size → (H.push (vp_cell (tyc 2) (n, .inl f)))[q]? = H[q]? := fun q hq => by rw [Array.getElem?_push, if_neg (Nat.ne_of_lt hq)]
        have hpush := hI.push (H1 := H.push (vp_cell (tyc 2) (n, .inl f))) had (o := .inl (2, n, .inl f)) (by show (2 : Nat) < 5; omega) (by
          show (H.push _)[ad ah.length]? = some _
          rw [← hI.2.1, Array.getElem?_push_size]
          rfl) z1 o1
        have K := k _ (cells + 1) (slots + n) hpush (by rw [List.length_append, hl1]; omega) (by rw [xsum_push, hsz0]; omega)
        have hal : ad ah.length = H.size := hI.2.1.symm
        have K2 : W p l e R s m args below meth c (H.push (vp_cell (tyc 2) (n, .inl f))) locs (cells + 1) (slots + n) Q (F0 m (pc + 3) ls (.ref H.size :: xJ r ad)) := by
          refine va_castA (D := D) (cl := cl) (ws := [(H.size, .inl (tyc 2, (n, .inl f)))]) hx hb hown (hcs _ hj2) ?_ 0 rfl hnm (hnx _ _ rfl) ?_
          · intro i q hi
            match i, hi with
            | 0, hi =>
              cases hi
              show (H.push _)[H.size]? = some _
              rw [Array.getElem?_push_size]
            | i + 1, hi => simp at hi
          · have K' := K
            simp only [xJ, List.map_cons, xm, hal] at K'
            exact K'
        obtain ⟨t, b1, b2⟩ := K2 ((T.setVm vm').pushCell (vp_cell (tyc 2) (n, .inl f))) (by rw [← hT]; rfl) X'
        refine ⟨t, st1 t ?_, b2⟩
        rw [hT]
        exact b1
      · cases h
    · cases h
  · cases h
end XEX
