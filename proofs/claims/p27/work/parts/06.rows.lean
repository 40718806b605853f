section XE
variable {p : Program} {l : Launch} {e : Env} {R : Room} {s : State} {m : MethodId} {args : Array Value} {below : List Frame} {meth : Method} {c : Code} {H : Heap} {locs : List Loc} {cells slots : Nat} {Q : State → Prop}
variable {cc : ByteArray} {pc : Nat} {ls : Array Slot} {ad : Nat → Nat} {nL : Nat} {bs : List xO} {clB : List vw_C} {A : Nat → Prop} {st st' : List Value} {D : va_G} {cl : List vw_C} {tyc : Nat → ClassId} {ah ah' : List xO} {H0 : Heap} {Ts : List Cond} {own : String}
/-- what a class's pool says of its static field entries -/
def xSf (s : State) (args : Array Value) (own : String) (ad : Nat → Nat) (A : Nat → Prop) (sf : Nat → Option Value) : Prop := ∀ idx v, sf idx = some v → ∃ (C n d : String), va_Z C n d (xm ad v) A s s.heap ∧ ((Cond.fieldLink own idx C n d).before args s = true ∨ ∃ host : String, (Cond.fieldLinkNest own idx C n d host).before args s = true)
def x_gets (sf : Nat → Option Value) (idx : Nat) (st : List Value) : Option (List Value) := match sf idx with
  | some v => some (v :: st)
  | none => none
theorem s_gets (hx : p.tables.exec = Jvm.exec) (hb : c.code = cc) (hown : s.vm.findClass own = some m.cls) {sf : Nat → Option Value} (hsf : xSf s args own ad A sf) (hI : xI D cl tyc ad bs A s.heap ah H locs)
    {idx : Nat} (hd : decode cc pc = .ok (.getstatic idx, 3)) (h : x_gets sf idx st = some st') (k : W p l e R s m args below meth c H locs cells slots Q (F0 m (pc + 3) ls (xJ st' ad))) : W p l e R s m args below meth c H locs cells slots Q (F0 m pc ls (xJ st ad)) := by
  unfold x_gets at h
  split at h
  · rename_i v hv
    cases h
    obtain ⟨C, n, d, hZ, hl | ⟨host, hl⟩⟩ := hsf _ _ hv
    · exact va_gets hx hb hZ hI.2.2.2 hown hl (fun x hx => hx) hd k
    · exact va_getsN (host := host) hx hb hZ hI.2.2.2 hown hl (fun x hx => hx) hd k
  · cases h
/-- an index that lies within -/
def xin (i : Int32) (n : Nat) : Bool := decide (0 ≤ i) && decide (i.toNatClampNeg < n)
theorem xin_ok {i : Int32} {n : Nat} (h : xin i n = true) : vp_in i n := by
  unfold xin at h
  rw [Bool.and_eq_true, decide_eq_true_eq, decide_eq_true_eq] at h
  rintro (q | q)
  · exact absurd h.1 (by simpa using q)
  · omega
/-- the element type of an array by its number; its elements -/
def xty (t : Nat) : FieldType := match t with
  | 0 => .int | 1 => .long | 2 => .byte | 3 => .boolean | 4 => .object "ReportMill$Kind" | _ => xba t
def xel (ad : Nat → Nat) (x : vp_A) (j : Nat) : Value := match (xmA ad x).2 with
    | .inl f => .int (f j) | .inr (.inl f) => .long (f j) | .inr (.inr (.inl f)) => .float (f j) | .inr (.inr (.inr (.inl f))) => .double (f j) | .inr (.inr (.inr (.inr f))) => va_rf (f j)
theorem xI.arr (hK : va_K D cl (xtys tyc) s) (hB : xBs clB ad A bs s) (hI : xI D cl tyc ad bs A s.heap ah H locs) {a t : Nat} {x : vp_A} (ho : ah[a]? = some (.inl (t, x))) : ∃ cell : Cell, H[ad a]? = some cell ∧ s.isArrayOf cell (xty t) ∧ cell.vm ≠ .unknown ∧ (x.1 ≤ cell.slots.size ∧ cell.slots.size.toInt32 = Int32.ofNat x.1) ∧ ∀ j, j < x.1 → cell.slots[j]? = some (xel ad x j) := by
  by_cases hE : bs.length ≤ a
  · obtain ⟨ht, h1⟩ := hI.1.2 a _ hE ho
    have h1 : H[ad a]? = some (vp_cell (tyc t) (xmA ad x)) := h1
    have ht : t < 5 := ht
    have hA : ArrOfT s (tyc t) (xty t) := by
      match t, ht with
      | 0, _ => exact (hK.2 0 _ rfl).1
      | 1, _ => exact (hK.2 1 _ rfl).1
      | 2, _ => exact (hK.2 2 _ rfl).1
      | 3, _ => exact (hK.2 3 _ rfl).1
      | 4, _ => exact (hK.2 4 _ rfl).1
    have h2 : vp_cell (tyc t) (xmA ad x) = arrV (tyc t) x.1 (xel ad x) := by
      obtain ⟨n, f | f | f | f | f⟩ := x <;> rfl
    rw [h2] at h1
    exact ⟨_, h1, hA _ _, fun h => (by cases h), ⟨Nat.le_of_eq (arrV_size _ _ _).symm, by rw [arrV_size]⟩, fun j hj => arrV_read _ _ hj⟩
  · rw [hI.1.1 a (by omega)] at ho
    obtain ⟨h10, ht, cell, g1, g2, g3, g4, g5, g6⟩ := hB a _ ho
    refine ⟨cell, by rw [hI.2.2.2.2.1 _ (Array.getElem?_eq_some_iff.mp g1).1 g6]; exact g1, ?_, g3, g4, g5⟩
    have e : xty t = xba t := by
      rcases ht with rfl | rfl | rfl <;> rfl
    rw [e]
    exact g2
theorem xin_lt {i : Int32} {n : Nat} (h : xin i n = true) : i.toNatClampNeg < n := by
  have h2 := xin_ok h
  exact Nat.not_le.mp fun q => h2 (Or.inr q)
def x_ald (T : Nat) (ah : List xO) (st : List Value) : Option (List Value) := match st with
  | .int i :: .ref a :: r => match ah[a]? with
    | some (.inl (t, n, .inl f)) => if (t = T ∨ t = T + 10) ∧ xin i n = true then some (.int (f i.toNatClampNeg) :: r) else none
    | _ => none
  | _ => none
theorem s_iald (hx : p.tables.exec = Jvm.exec) (hb : c.code = cc) (hK : va_K D cl (xtys tyc) s) (hB : xBs clB ad A bs s) (hI : xI D cl tyc ad bs A s.heap ah H locs)
    (hd : decode cc pc = .ok (.iaload, 1)) (h : x_ald 0 ah st = some st') (k : W p l e R s m args below meth c H locs cells slots Q (F0 m (pc + 1) ls (xJ st' ad))) : W p l e R s m args below meth c H locs cells slots Q (F0 m pc ls (xJ st ad)) := by
  unfold x_ald at h
  split at h
  · split at h
    · rename_i t n f ho
      split at h
      · rename_i hc
        obtain ⟨ht, hin⟩ := hc
        cases h
        obtain ⟨cell, g1, g2, g3, g4, g5⟩ := hI.arr hK hB ho
        have e : xty t = .int := by rcases ht with rfl | rfl <;> rfl
        rw [e] at g2
        exact W.iald hx hb g1 g2 g3 (fun q => xin_ok hin (q.imp_right (Nat.le_trans g4.1))) (g5 _ (xin_lt hin)) rfl rfl hd k
      · cases h
    · cases h
  · cases h
def x_bald (ah : List xO) (st : List Value) : Option (List Value) := match x_ald 2 ah st with
  | some z => some z
  | none => x_ald 3 ah st
theorem s_bald (hx : p.tables.exec = Jvm.exec) (hb : c.code = cc) (hK : va_K D cl (xtys tyc) s) (hB : xBs clB ad A bs s) (hI : xI D cl tyc ad bs A s.heap ah H locs)
    (hd : decode cc pc = .ok (.baload, 1)) (h : x_bald ah st = some st') (k : W p l e R s m args below meth c H locs cells slots Q (F0 m (pc + 1) ls (xJ st' ad))) : W p l e R s m args below meth c H locs cells slots Q (F0 m pc ls (xJ st ad)) := by
  unfold x_bald at h
  split at h
  · rename_i z hz
    cases h
    unfold x_ald at hz
    split at hz
    · split at hz
      · rename_i t n f ho
        split at hz
        · rename_i hc
          obtain ⟨ht, hin⟩ := hc
          cases hz
          obtain ⟨cell, g1, g2, g3, g4, g5⟩ := hI.arr hK hB ho
          have e : xty t = .byte := by rcases ht with rfl | rfl <;> rfl
          rw [e] at g2
          exact W.bald hx hb g1 g2 g3 (fun q => xin_ok hin (q.imp_right (Nat.le_trans g4.1))) (g5 _ (xin_lt hin)) rfl rfl hd k
        · cases hz
      · cases hz
    · cases hz
  · unfold x_ald at h
    split at h
    · rename_i a0 r0 h0
      split at h
      · rename_i t n f ho
        split at h
        · rename_i hc
          obtain ⟨ht, hin⟩ := hc
          cases h
          rcases ht with rfl | rfl
          · obtain ⟨cell, g1, g2, g3, g4, g5⟩ := hI.arr hK hB ho
            exact W.zald hx hb g1 g2 g3 (fun q => xin_ok hin (q.imp_right (Nat.le_trans g4.1))) (g5 _ (xin_lt hin)) rfl rfl hd k
          · exfalso
            by_cases hE : bs.length ≤ a0
            · have := (hI.1.2 _ _ hE ho).1
              simp [xnew] at this
            · rw [hI.1.1 _ (by omega)] at ho
              have := (hB _ _ ho).2.1
              omega
        · cases h
      · cases h
    · cases h
def x_lald (ah : List xO) (st : List Value) : Option (List Value) := match st with
  | .int i :: .ref a :: r => match ah[a]? with
    | some (.inl (t, n, .inr (.inl f))) => if t = 1 ∧ xin i n = true then some (.long (f i.toNatClampNeg) :: r) else none
    | _ => none
  | _ => none
theorem s_lald (hx : p.tables.exec = Jvm.exec) (hb : c.code = cc) (hK : va_K D cl (xtys tyc) s) (hB : xBs clB ad A bs s) (hI : xI D cl tyc ad bs A s.heap ah H locs)
    (hd : decode cc pc = .ok (.laload, 1)) (h : x_lald ah st = some st') (k : W p l e R s m args below meth c H locs cells slots Q (F0 m (pc + 1) ls (xJ st' ad))) : W p l e R s m args below meth c H locs cells slots Q (F0 m pc ls (xJ st ad)) := by
  unfold x_lald at h
  split at h
  · split at h
    · rename_i t n f ho
      split at h
      · rename_i hc
        obtain ⟨rfl, hin⟩ := hc
        cases h
        obtain ⟨cell, g1, g2, g3, g4, g5⟩ := hI.arr hK hB ho
        exact W.lald hx hb g1 g2 g3 (fun q => xin_ok hin (q.imp_right (Nat.le_trans g4.1))) (g5 _ (xin_lt hin)) rfl rfl hd k
      · cases h
    · cases h
  · cases h
def x_aald (ah : List xO) (st : List Value) : Option (List Value) := match st with
  | .int i :: .ref a :: r => match ah[a]? with
    | some (.inl (t, n, .inr (.inr (.inr (.inr f))))) => if (t = 4 ∨ t = 14) ∧ xin i n = true then some (va_rf (f i.toNatClampNeg) :: r) else none
    | _ => none
  | _ => none
theorem xm_rf (ad : Nat → Nat) (o : Option Nat) : xm ad (va_rf o) = va_rf (o.map ad) := by cases o <;> rfl
theorem s_aald (hx : p.tables.exec = Jvm.exec) (hb : c.code = cc) (hK : va_K D cl (xtys tyc) s) (hB : xBs clB ad A bs s) (hI : xI D cl tyc ad bs A s.heap ah H locs)
    (hd : decode cc pc = .ok (.aaload, 1)) (h : x_aald ah st = some st') (k : W p l e R s m args below meth c H locs cells slots Q (F0 m (pc + 1) ls (xJ st' ad))) : W p l e R s m args below meth c H locs cells slots Q (F0 m pc ls (xJ st ad)) := by
  unfold x_aald at h
  split at h
  · split at h
    · rename_i t n f ho
      split at h
      · rename_i hc
        obtain ⟨ht, hin⟩ := hc
        cases h
        obtain ⟨cell, g1, g2, g3, g4, g5⟩ := hI.arr hK hB ho
        have e9 : xty t = .object "ReportMill$Kind" := by rcases ht with rfl | rfl <;> rfl
        rw [e9] at g2
        refine W.aald (ty := .object "ReportMill$Kind") hx hb g1 g2 rfl g3 (fun q => xin_ok hin (q.imp_right (Nat.le_trans g4.1))) (g5 _ (xin_lt hin)) rfl rfl hd ?_
        show W p l e R s m args below meth c H locs cells slots Q (F0 m (pc + 1) ls (va_rf ((f _).map ad) :: _))
        rw [← xm_rf]
        exact k
      · cases h
    · cases h
  · cases h
def x_alen (ah : List xO) (st : List Value) : Option (List Value) := match st with
  | .ref a :: r => match ah[a]? with
    | some (.inl (_, x)) => some (.int (Int32.ofNat x.1) :: r)
    | _ => none
  | _ => none
theorem s_alen (hx : p.tables.exec = Jvm.exec) (hb : c.code = cc) (hK : va_K D cl (xtys tyc) s) (hB : xBs clB ad A bs s) (hI : xI D cl tyc ad bs A s.heap ah H locs)
    (hd : decode cc pc = .ok (.arraylength, 1)) (h : x_alen ah st = some st') (k : W p l e R s m args below meth c H locs cells slots Q (F0 m (pc + 1) ls (xJ st' ad))) : W p l e R s m args below meth c H locs cells slots Q (F0 m pc ls (xJ st ad)) := by
  unfold x_alen at h
  split at h
  · split at h
    · rename_i t x ho
      cases h
      obtain ⟨cell, g1, g2, g3, g4, g5⟩ := hI.arr hK hB ho
      exact W.alen (n := Int32.ofNat x.1) hx hb g1 g2 g4.2 rfl rfl hd k
    · cases h
  · cases h
/-! stores -/
def x_iast (E : Nat) (ah : List xO) (st : List Value) : Option (List xO × List Value) := match st with
  | .int x :: .int i :: .ref a :: r => match ah[a]? with
    | some (.inl (t, n, .inl f)) => if t = 0 ∧ xin i n = true ∧ E ≤ a then some (ah.set a (.inl (t, n, .inl (upd f i.toNatClampNeg x))), r) else none
    | _ => none
  | _ => none
theorem s_iast (hx : p.tables.exec = Jvm.exec) (hb : c.code = cc) (hK : va_K D cl (xtys tyc) s) (had : xAd ad bs.length A) (hI : xI D cl tyc ad bs A H0 ah H locs)
    (hd : decode cc pc = .ok (.iastore, 1)) (h : x_iast bs.length ah st = some (ah', st'))
    (k : ∀ (H1 : Heap) (locs1 : List Loc), xI D cl tyc ad bs A H0 ah' H1 locs1 → ah'.length = ah.length → xsum ah' = xsum ah → W p l e R s m args below meth c H1 locs1 cells slots Q (F0 m (pc + 1) ls (xJ st' ad))) : W p l e R s m args below meth c H locs cells slots Q (F0 m pc ls (xJ st ad)) := by
  unfold x_iast at h
  split at h
  · rename_i x i a r
    split at h
    · rename_i t n f ho
      split at h
      · rename_i hc
        obtain ⟨rfl, hin, hE⟩ := hc
        cases h
        refine W.iast hx hb (hI.1.2 a _ hE ho).2 ((hK.2 0 _ rfl).1 n (fun j => .int (f j))) (fun q => by cases q) (by show ¬ (i < 0 ∨ (arrV _ _ _).slots.size ≤ _); rw [arrV_size]; exact xin_ok hin) rfl rfl hd fun H1 e1 z oq => ?_
        refine k H1 _ (hI.set had hE (by first | (show (0:Nat) < 5; omega) | (show (1:Nat) < 5; omega) | (show (2:Nat) < 5; omega) | (show (3:Nat) < 5; omega) | (show (4:Nat) < 5; omega)) ?_ z oq) (List.length_set ..) (xsum_set ho rfl)
        show H1[ad a]? = some (vp_cell _ _)
        rw [e1]
        show some ((vp_cell (tyc 0) (n, .inl f)).setSlot _ _) = some (vp_cell (tyc 0) (n, .inl (upd f i.toNatClampNeg x)))
        rw [vp_cell_i, vp_cell_i, arrV_store]
        congr 2
        funext q
        by_cases hq : q = i.toNatClampNeg
        · subst hq; simp [updV, upd]
        · simp [updV, upd, hq]
      · cases h
    · cases h
  · cases h
def x_last (E : Nat) (ah : List xO) (st : List Value) : Option (List xO × List Value) := match st with
  | .long x :: .int i :: .ref a :: r => match ah[a]? with
    | some (.inl (t, n, .inr (.inl f))) => if t = 1 ∧ xin i n = true ∧ E ≤ a then some (ah.set a (.inl (t, n, .inr (.inl (vp_updL f i.toNatClampNeg x)))), r) else none
    | _ => none
  | _ => none
theorem s_last (hx : p.tables.exec = Jvm.exec) (hb : c.code = cc) (hK : va_K D cl (xtys tyc) s) (had : xAd ad bs.length A) (hI : xI D cl tyc ad bs A H0 ah H locs)
    (hd : decode cc pc = .ok (.lastore, 1)) (h : x_last bs.length ah st = some (ah', st'))
    (k : ∀ (H1 : Heap) (locs1 : List Loc), xI D cl tyc ad bs A H0 ah' H1 locs1 → ah'.length = ah.length → xsum ah' = xsum ah → W p l e R s m args below meth c H1 locs1 cells slots Q (F0 m (pc + 1) ls (xJ st' ad))) : W p l e R s m args below meth c H locs cells slots Q (F0 m pc ls (xJ st ad)) := by
  unfold x_last at h
  split at h
  · rename_i x i a r
    split at h
    · rename_i t n f ho
      split at h
      · rename_i hc
        obtain ⟨rfl, hin, hE⟩ := hc
        cases h
        refine W.last hx hb (hI.1.2 a _ hE ho).2 ((hK.2 1 _ rfl).1 n (fun j => .long (f j))) (fun q => by cases q) (by show ¬ (i < 0 ∨ (arrV _ _ _).slots.size ≤ _); rw [arrV_size]; exact xin_ok hin) rfl rfl hd fun H1 e1 z oq => ?_
        refine k H1 _ (hI.set had hE (by first | (show (0:Nat) < 5; omega) | (show (1:Nat) < 5; omega) | (show (2:Nat) < 5; omega) | (show (3:Nat) < 5; omega) | (show (4:Nat) < 5; omega)) ?_ z oq) (List.length_set ..) (xsum_set ho rfl)
        show H1[ad a]? = some (vp_cell _ _)
        rw [e1]
        show some ((vp_cell (tyc 1) (n, .inr (.inl f))).setSlot _ _) = some (vp_cell (tyc 1) (n, .inr (.inl (vp_updL f i.toNatClampNeg x))))
        rw [vp_cell_l, vp_cell_l, arrV_store]
        congr 2
        funext q
        by_cases hq : q = i.toNatClampNeg
        · subst hq; simp [updV, vp_updL]
        · simp [updV, vp_updL, hq]
      · cases h
    · cases h
  · cases h
def x_bast (E : Nat) (ah : List xO) (st : List Value) : Option (List xO × List Value) := match st with
  | .int x :: .int i :: .ref a :: r => match ah[a]? with
    | some (.inl (t, n, .inl f)) => if xin i n = true ∧ E ≤ a then (if t = 2 then some (ah.set a (.inl (t, n, .inl (upd f i.toNatClampNeg (vp_nar .byte x)))), r) else if t = 3 then some (ah.set a (.inl (t, n, .inl (upd f i.toNatClampNeg (vp_nar .boolean x)))), r) else none) else none
    | _ => none
  | _ => none
theorem s_bast (hx : p.tables.exec = Jvm.exec) (hb : c.code = cc) (hK : va_K D cl (xtys tyc) s) (had : xAd ad bs.length A) (hI : xI D cl tyc ad bs A H0 ah H locs)
    (hd : decode cc pc = .ok (.bastore, 1)) (h : x_bast bs.length ah st = some (ah', st'))
    (k : ∀ (H1 : Heap) (locs1 : List Loc), xI D cl tyc ad bs A H0 ah' H1 locs1 → ah'.length = ah.length → xsum ah' = xsum ah → W p l e R s m args below meth c H1 locs1 cells slots Q (F0 m (pc + 1) ls (xJ st' ad))) : W p l e R s m args below meth c H locs cells slots Q (F0 m pc ls (xJ st ad)) := by
  unfold x_bast at h
  split at h
  · rename_i x i a r
    split at h
    · rename_i t n f ho
      split at h
      · rename_i hc
        obtain ⟨hin, hE⟩ := hc
        split at h
        · rename_i ht
          subst ht
          cases h
          refine W.bast hx hb (hI.1.2 a _ hE ho).2 ((hK.2 2 _ rfl).1 n (fun j => .int (f j))) (fun q => by cases q) (by show ¬ (i < 0 ∨ (arrV _ _ _).slots.size ≤ _); rw [arrV_size]; exact xin_ok hin) rfl rfl hd fun H1 e1 z oq => ?_
          refine k H1 _ (hI.set had hE (by first | (show (0:Nat) < 5; omega) | (show (1:Nat) < 5; omega) | (show (2:Nat) < 5; omega) | (show (3:Nat) < 5; omega) | (show (4:Nat) < 5; omega)) ?_ z oq) (List.length_set ..) (xsum_set ho rfl)
          show H1[ad a]? = some (vp_cell _ _)
          rw [e1]
          show some ((vp_cell (tyc 2) (n, .inl f)).setSlot _ _) = some (vp_cell (tyc 2) (n, .inl (upd f i.toNatClampNeg (vp_nar .byte x))))
          rw [vp_cell_i, vp_cell_i, arrV_store]
          congr 2
          funext q
          by_cases hq : q = i.toNatClampNeg
          · subst hq; simp [updV, upd, vp_nar]; rfl
          · simp [updV, upd, hq]
        · split at h
          · rename_i ht
            subst ht
            cases h
            refine W.zast hx hb (hI.1.2 a _ hE ho).2 ((hK.2 3 _ rfl).1 n (fun j => .int (f j))) (fun q => by cases q) (by show ¬ (i < 0 ∨ (arrV _ _ _).slots.size ≤ _); rw [arrV_size]; exact xin_ok hin) rfl rfl hd fun H1 e1 z oq => ?_
            refine k H1 _ (hI.set had hE (by first | (show (0:Nat) < 5; omega) | (show (1:Nat) < 5; omega) | (show (2:Nat) < 5; omega) | (show (3:Nat) < 5; omega) | (show (4:Nat) < 5; omega)) ?_ z oq) (List.length_set ..) (xsum_set ho rfl)
            show H1[ad a]? = some (vp_cell _ _)
            rw [e1]
            show some ((vp_cell (tyc 3) (n, .inl f)).setSlot _ _) = some (vp_cell (tyc 3) (n, .inl (upd f i.toNatClampNeg (vp_nar .boolean x))))
            rw [vp_cell_i, vp_cell_i, arrV_store]
            congr 2
            funext q
            by_cases hq : q = i.toNatClampNeg
            · subst hq; simp [updV, upd, vp_nar]; rfl
            · simp [updV, upd, hq]
          · cases h
      · cases h
    · cases h
  · cases h
/-- the number of a class whose objects the references' arrays hold -/
def x_aast (E kd : Nat) (ah : List xO) (st : List Value) : Option (List xO × List Value) := match st with
  | .ref v :: .int i :: .ref a :: r => match ah[a]? with
    | some (.inl (t, n, .inr (.inr (.inr (.inr f))))) => match ah[v]? with
      | some (.inr (c, _)) => if t = 4 ∧ xin i n = true ∧ E ≤ a ∧ c = kd then some (ah.set a (.inl (t, n, .inr (.inr (.inr (.inr (va_up f i.toNatClampNeg (some v))))))), r) else none
      | _ => none
    | _ => none
  | _ => none
theorem x_self (vm : Vm) (c : ClassId) : vm.assignable c c = true := by
  first | (show vm.assignableAux _ c c = true; unfold Vm.assignableAux; simp)
theorem s_aast (hx : p.tables.exec = Jvm.exec) (hb : c.code = cc) (hK : va_K D cl (xtys tyc) s) (hB : xBs clB ad A bs s) (had : xAd ad bs.length A) (hI : xI D cl tyc ad bs A s.heap ah H locs) {cK : ClassId} (hkc : s.vm.findClass "ReportMill$Kind" = some cK) {kd : Nat} (hkd : ∀ q : vw_C, clB[kd - 100]? = some q → q.1 = "ReportMill$Kind") (hk100 : 100 ≤ kd ∧ kd ≠ 199)
    (hd : decode cc pc = .ok (.aastore, 1)) (h : x_aast bs.length kd ah st = some (ah', st'))
    (k : ∀ (H1 : Heap) (locs1 : List Loc), xI D cl tyc ad bs A s.heap ah' H1 locs1 → ah'.length = ah.length → xsum ah' = xsum ah → W p l e R s m args below meth c H1 locs1 cells slots Q (F0 m (pc + 1) ls (xJ st' ad))) : W p l e R s m args below meth c H locs cells slots Q (F0 m pc ls (xJ st ad)) := by
  unfold x_aast at h
  split at h
  · rename_i v i a r
    split at h
    · rename_i t n f ho
      split at h
      · rename_i c0 fs hv
        split at h
        · rename_i hc
          obtain ⟨rfl, hin, hE, rfl⟩ := hc
          cases h
          have hin2 := xin_ok hin
          have hlt : i.toNatClampNeg < n := Nat.not_le.mp fun q => hin2 (Or.inr q)
          have h0 : ¬ i < 0 := fun q => hin2 (Or.inl q)
          have hvE : v < bs.length := by
            rcases Nat.lt_or_ge v bs.length with q | q
            · exact q
            · have : c0 < 100 := (hI.1.2 v _ q hv).1
              omega
          rw [hI.1.1 v hvE] at hv
          obtain ⟨-, ⟨h199, -⟩ | ⟨C2, T2, N2, g4, g5, -⟩⟩ := hB v _ hv
          · exact absurd h199 hk100.2
          have e2 := hkd _ g4
          subst e2
          obtain ⟨cellV, g1, gs, g2, -⟩ := g5.kept hI.2.2.2.2.1
          obtain ⟨kA, comp, k1, k2, k3, -⟩ := (hK.2 4 _ rfl).2
          have hcomp : comp = cK := Option.some.inj (k3.symm.trans hkc)
          subst hcomp
          have hcv : cellV.cls = comp := Option.some.inj (g2.symm.trans hkc)
          obtain ⟨kC, hkC, -⟩ := Vm.findClass_spec hkc
          refine W.aast hx hb (hI.1.2 a _ hE ho).2 (fun q h => by cases h) (fun h => by cases h) k1 k2 rfl hkC ⟨h0, by show _ < (arrV _ _ _).slots.size; rw [arrV_size]; exact hlt⟩ g1 (fun q h => by rw [h] at gs; cases gs) (by rw [hcv]; exact hkC) (by rw [hcv]; exact x_self _ _) rfl rfl hd fun H1 e1 z oq => ?_
          refine k H1 _ (hI.set had hE (by first | (show (0:Nat) < 5; omega) | (show (1:Nat) < 5; omega) | (show (2:Nat) < 5; omega) | (show (3:Nat) < 5; omega) | (show (4:Nat) < 5; omega)) ?_ z oq) (List.length_set ..) (xsum_set ho rfl)
          show H1[ad a]? = some (vp_cell _ _)
          rw [e1]
          show some ((vp_cell (tyc 4) (n, .inr (.inr (.inr (.inr (fun j => (f j).map ad)))))).setSlot _ _) = some (vp_cell (tyc 4) (n, .inr (.inr (.inr (.inr (fun j => (va_up f i.toNatClampNeg (some v) j).map ad))))))
          rw [vp_cell_q, vp_cell_q, arrV_store]
          congr 2
          funext q
          by_cases hq : q = i.toNatClampNeg
          · subst hq; simp [updV, va_up, va_rf]
          · simp [updV, va_up, hq]
        · cases h
      · cases h
    · cases h
  · cases h
end XE
