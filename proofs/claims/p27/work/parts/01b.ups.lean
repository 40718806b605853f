/-! PRIVATE METHODS OF THE CLASS ABOVE: a builder selects them -/
section XUP
theorem selects_up {C : String} {x0 y0 y : MethodName} {s : State} {args : Array Value} (hy : y.cls ≠ "java/lang/invoke/MethodHandle" ∧ y.cls ≠ "java/lang/invoke/VarHandle") (h0 : (Cond.selects C x0 y0).before args s = true) (hc : y0.cls = y.cls)
    (hpriv : (Cond.privateMethod y).before args s = true) (hinst : (Cond.instanceMethod y).before args s = true) : (Cond.selects C y y).before args s = true := by
  obtain ⟨c, r, m, g1, g2, g3, g4, mk0, g5, g6⟩ := Cond.selects_spec h0
  obtain ⟨mk, methM, hnamed, hmethM, -, -⟩ := Cond.instanceMethod_spec hinst
  have hfound : s.methodFound? y.cls y.name y.desc = some mk := State.methodFound?_of_named hnamed hy
  have e1 := findClass_of_methodNamed hnamed
  have e2 := findClass_of_methodNamed g3
  rw [hc] at e2
  have hcls : mk.cls = m.cls := Option.some.inj (e1.symm.trans e2)
  have hsel : selectMethod {} s.vm c mk = .method mk := selectMethod_private hmethM (Cond.privateMethod_at hpriv mk methM hnamed hmethM)
  simp only [Cond.before, Cond.holds, Cond.value, g1, hfound, hnamed, hsel, hcls, g5]
  simp
  exact g6
def xw_ups : List Cond := [.selects "java/lang/StringBuilder" ⟨"java/lang/AbstractStringBuilder", "ensureCapacityInternal", "(I)V"⟩ ⟨"java/lang/AbstractStringBuilder", "ensureCapacityInternal", "(I)V"⟩, .selects "java/lang/StringBuilder" ⟨"java/lang/AbstractStringBuilder", "newCapacity", "(I)I"⟩ ⟨"java/lang/AbstractStringBuilder", "newCapacity", "(I)I"⟩, .selects "java/lang/StringBuilder" ⟨"java/lang/AbstractStringBuilder", "putStringAt", "(ILjava/lang/String;)V"⟩ ⟨"java/lang/AbstractStringBuilder", "putStringAt", "(ILjava/lang/String;)V"⟩, .selects "java/lang/StringBuilder" ⟨"java/lang/AbstractStringBuilder", "inflateIfNeededFor", "(Ljava/lang/String;)V"⟩ ⟨"java/lang/AbstractStringBuilder", "inflateIfNeededFor", "(Ljava/lang/String;)V"⟩]
def xw_tbl : List Cond := xw_ups ++ lw_tbl
theorem xw_ok {s : State} {args : Array Value} (hts : ∀ w ∈ lw_tbl, w.before args s = true) : ∀ w ∈ xw_tbl, w.before args s = true := by
  intro w hw
  rcases List.mem_append.mp hw with hw | hw
  · have h0 := hts (.selects "java/lang/StringBuilder" ⟨"java/lang/AbstractStringBuilder", "isLatin1", "()Z"⟩ ⟨"java/lang/AbstractStringBuilder", "isLatin1", "()Z"⟩) (List.mem_append_right _ (List.mem_of_getElem? (i := 1433) (by decide +kernel)))
    rcases List.mem_cons.mp hw with rfl | hw
    · exact selects_up ⟨by decide +kernel, by decide +kernel⟩ h0 rfl (hts _ (List.mem_append_right _ (List.mem_of_getElem? (i := 1400) (by decide +kernel)))) (hts _ (List.mem_append_right _ (List.mem_of_getElem? (i := 1401) (by decide +kernel))))
    rcases List.mem_cons.mp hw with rfl | hw
    · exact selects_up ⟨by decide +kernel, by decide +kernel⟩ h0 rfl (hts _ (List.mem_append_right _ (List.mem_of_getElem? (i := 1404) (by decide +kernel)))) (hts _ (List.mem_append_right _ (List.mem_of_getElem? (i := 1405) (by decide +kernel))))
    rcases List.mem_cons.mp hw with rfl | hw
    · exact selects_up ⟨by decide +kernel, by decide +kernel⟩ h0 rfl (hts _ (List.mem_append_right _ (List.mem_of_getElem? (i := 1452) (by decide +kernel)))) (hts _ (List.mem_append_right _ (List.mem_of_getElem? (i := 1453) (by decide +kernel))))
    rcases List.mem_cons.mp hw with rfl | hw
    · exact selects_up ⟨by decide +kernel, by decide +kernel⟩ h0 rfl (hts _ (List.mem_append_right _ (List.mem_of_getElem? (i := 1456) (by decide +kernel)))) (hts _ (List.mem_append_right _ (List.mem_of_getElem? (i := 1457) (by decide +kernel))))
    cases hw
  · exact hts w hw
end XUP
