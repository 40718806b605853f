/-! A PROGRAM's reading: where it stands does not hang on what was read -/
section YSO
def sShp (F F' : yPS → yPS) : Prop := ∀ σ σ', ssh σ = ssh σ' → ssh (F σ) = ssh (F' σ')
section YSOL
variable {G : yGx} {σ σ' : yPS} {n p n' p' : Nat} {c c' : yPV → Bool} {f f' : yPV → yPV} {g g' : yPS → yPS} {dp i a pl i' a' pl' : Nat}
theorem ssh_gd (h : ssh σ = ssh σ') : ssh (sgd c n p σ) = ssh (sgd c' n' p' σ') := ssh_gd0.trans (h.trans ssh_gd0.symm)
theorem ssh_mp (h : ssh σ = ssh σ') : ssh (smp f σ) = ssh (smp f' σ') := ssh_mp0.trans (h.trans ssh_mp0.symm)
theorem ssh_hd (h : ssh σ = ssh σ') : ssh (shd G c σ) = ssh (shd G c' σ') := ssh_nx (ssh_gd h)
theorem ssh_cm (h : ssh σ = ssh σ') : ssh (scm G σ) = ssh (scm G σ') := ssh_gd (ssh_xp h)
theorem ssh_new (h : ssh σ = ssh σ') : ssh (snew G σ) = ssh (snew G σ') := ssh_gd (ssh_xp h)
theorem ssh_gn (h : ssh σ = ssh σ') : ssh (sgn G σ) = ssh (sgn G σ') := ssh_gd (ssh_xp h)
theorem ssh_scp (h : ssh σ = ssh σ') : ssh (sscp G σ) = ssh (sscp G σ') := by
  unfold sscp
  rw [ssh_kd h]
  split
  · exact ssh_nx h
  · exact ssh_gn h
theorem ssh_page (h : ssh σ = ssh σ') : ssh (spage G σ) = ssh (spage G σ') := ssh_mp (ssh_num (ssh_num (ssh_hd h)))
theorem ssh_ord (h : ssh σ = ssh σ') : ssh (sord G σ) = ssh (sord G σ') := by
  have h1 : ssh (sord1 G σ) = ssh (sord1 G σ') := ssh_hd h
  refine ssh_mp (ssh_cm ?_)
  unfold sord2
  rw [ssh_kd h1]
  split
  · exact ssh_nx h1
  · exact h1
theorem ssh_gro (h : ssh σ = ssh σ') : ssh (sgro G σ) = ssh (sgro G σ') := ssh_mp (ssh_gd (ssh_cm (ssh_hd h)))
theorem ssh_let (h : ssh σ = ssh σ') : ssh (slet G σ) = ssh (slet G σ') := ssh_mp (ssh_ex (ssh_xp (ssh_new (ssh_hd h))))
theorem ssh_tot (h : ssh σ = ssh σ') : ssh (stot G σ) = ssh (stot G σ') := by
  have h3 : ssh (stot3 G σ) = ssh (stot3 G σ') := ssh_xp (ssh_new (ssh_hd h))
  have h4 : ssh (stot4 G σ) = ssh (stot4 G σ') := by
    unfold stot4
    rw [ssh_kd h3]
    split
    · exact ssh_nx h3
    · exact ssh_rf h3
  have h6 : ssh (stot6 G σ) = ssh (stot6 G σ') := ssh_gd (ssh_ex h4)
  refine ssh_mp ?_
  unfold stot7
  rw [ssh_kd h6]
  split
  · exact ssh_scp (ssh_nx h6)
  · exact h6
theorem ssh_dec (h : ssh σ = ssh σ') : ssh (sdec G σ) = ssh (sdec G σ') := by
  unfold sdec
  rw [ssh_kd h]
  split
  · exact ssh_page h
  · split
    · exact ssh_ord h
    · split
      · exact ssh_gro h
      · split
        · exact ssh_let h
        · exact ssh_tot h
theorem ssh_lp {c : Nat → Bool} (hg : sShp g g') : ∀ f, sShp (slp G c g f) (slp G c g' f)
  | 0 => fun _ _ h => h
  | f + 1 => fun σ σ' h => by
    show ssh (if c (skd G σ) = true then slp G c g f (g σ) else σ) = ssh (if c (skd G σ') = true then slp G c g' f (g' σ') else σ')
    rw [ssh_kd h]
    split
    · exact ssh_lp hg f _ _ (hg _ _ h)
    · exact h
theorem ssh_fld {j st j' st' : Nat} (h : ssh σ = ssh σ') : ssh (sfld G j st σ) = ssh (sfld G j' st' σ') := by
  have h1 : ssh (sfld1 G j σ) = ssh (sfld1 G j' σ') := ssh_mp (ssh_num (ssh_nx h))
  unfold sfld
  rw [ssh_kd h, ssh_kd h1]
  split
  · split
    · exact ssh_mp (ssh_nx (ssh_mp h1))
    · exact ssh_mp h1
  · exact ssh_mp h
theorem ssh_pc (h : ssh σ = ssh σ') : ssh (spc G dp σ) = ssh (spc G dp σ') := by
  unfold spc
  rw [ssh_kd h]
  split
  · exact ssh_mp (ssh_mp (ssh_num (ssh_nx h)))
  · exact ssh_fld (ssh_mp (ssh_ex h))
theorem ssh_lin (h : ssh σ = ssh σ') : ssh (slin G dp σ) = ssh (slin G dp σ') := ssh_mp (ssh_lp (fun _ _ => ssh_pc) 2000 _ _ (ssh_mp (ssh_nx h)))
theorem ssh_sk {kd : Nat} (h : ssh σ = ssh σ') : ssh (ssk G i kd σ) = ssh (ssk G i' kd σ') := ssh_mp (ssh_num (ssh_nx h))
theorem ssh_kp (hg : sShp g g') (h : ssh σ = ssh σ') : ssh (skp G a g σ) = ssh (skp G a' g' σ') := ssh_xp (ssh_mp (hg _ _ (ssh_mp (ssh_nx h))))
theorem ssh_ch (hg : sShp g g') (h : ssh σ = ssh σ') : ssh (sch G dp i a pl g σ) = ssh (sch G dp i' a' pl' g' σ') := by
  have h1 : ssh (sch1 i σ) = ssh (sch1 i' σ') := ssh_mp (ssh_nx h)
  have h2 : ssh (sch2 G dp i pl σ) = ssh (sch2 G dp i' pl' σ') := ssh_gd (ssh_ex h1)
  have h3 : ssh (sch3 G dp i pl g σ) = ssh (sch3 G dp i' pl' g' σ') := hg _ _ (ssh_xp (ssh_mp h2))
  have h4 : ssh (sch4 G dp i a pl g σ) = ssh (sch4 G dp i' a' pl' g' σ') := ssh_mp h3
  refine ssh_xp (ssh_mp ?_)
  unfold sch5
  rw [ssh_kd h4]
  split
  · exact hg _ _ (ssh_nx h4)
  · exact h4
theorem ssh_itw {body body' : Bool} {sub sub' : Option (yPS → yPS)} {kd : Nat} (hg : (sub = none ∧ sub' = none) ∨ ∃ g g', sub = some g ∧ sub' = some g' ∧ sShp g g') (h : ssh σ = ssh σ') : ssh (sitw G body dp sub kd i a pl σ) = ssh (sitw G body' dp sub' kd i' a' pl' σ') := by
  unfold sitw
  split
  · exact ssh_lin h
  split
  · exact ssh_sk h
  rcases hg with ⟨rfl, rfl⟩ | ⟨g, g', rfl, rfl, hg⟩
  · split
    · exact ssh_rf h
    split
    · exact ssh_rf h
    · exact ssh_mp (ssh_nx h)
  · split
    · exact ssh_kp hg h
    split
    · exact ssh_ch hg h
    · exact ssh_mp (ssh_nx h)
theorem ssh_itm {body body' : Bool} {sub sub' : Option (yPS → yPS)} (hg : (sub = none ∧ sub' = none) ∨ ∃ g g', sub = some g ∧ sub' = some g' ∧ sShp g g') : sShp (sitm G body dp sub) (sitm G body' dp sub') := by
  intro σ σ' h
  have e : sitm G body dp sub σ = smp (seI (sln (fun V => (zI V).length) (sitm0 G body σ))) (sitw G body dp sub (skd G σ) (sln (fun V => (zI V).length) (sitm0 G body σ)) (sln (fun V => (zP V).length) (sitm0 G body σ)) (spl G σ) (smp (sadI (skd G σ) 0 0) (sitm0 G body σ))) := rfl
  have e' : sitm G body' dp sub' σ' = smp (seI (sln (fun V => (zI V).length) (sitm0 G body' σ'))) (sitw G body' dp sub' (skd G σ') (sln (fun V => (zI V).length) (sitm0 G body' σ')) (sln (fun V => (zP V).length) (sitm0 G body' σ')) (spl G σ') (smp (sadI (skd G σ') 0 0) (sitm0 G body' σ'))) := rfl
  rw [e, e', ← ssh_kd h]
  exact ssh_mp (ssh_itw hg (ssh_mp (ssh_gd h)))
theorem ssh_its {body body' : Bool} : ∀ rd, sShp (sits G body rd) (sits G body' rd)
  | 0 => ssh_lp (ssh_itm (Or.inl ⟨rfl, rfl⟩)) 2000
  | rd + 1 => ssh_lp (ssh_itm (Or.inr ⟨_, _, rfl, rfl, ssh_its rd⟩)) 2000
theorem ssh_bnd : sShp (sbnd G) (sbnd G) := by
  intro σ σ' h
  have h1 : ssh (sbn1 G σ) = ssh (sbn1 G σ') := ssh_nx (ssh_mp h)
  have h2 : ssh (sbn2 G σ) = ssh (sbn2 G σ') := by
    unfold sbn2
    rw [ssh_kd h1]
    split
    · exact ssh_nx h1
    · exact ssh_rf h1
  have h3 : ssh (sbn3 G σ) = ssh (sbn3 G σ') := by
    unfold sbn3
    rw [ssh_kd h1]
    split
    · exact ssh_gn h2
    · exact h2
  have h5 : ssh (sbn5 G σ) = ssh (sbn5 G σ') := ssh_mp (ssh_gd h3)
  exact ssh_mp (ssh_xp (ssh_mp (ssh_its 12 _ _ h5)))
/-- a program, whole -/
theorem ssh_pro : sShp (sprc G) (sprc G) := by
  intro σ σ' h
  have h2 : ssh (sbds G 2000 (slp G sisD (sdec G) 2000 σ)) = ssh (sbds G 2000 (slp G sisD (sdec G) 2000 σ')) := ssh_lp ssh_bnd 2000 _ _ (ssh_lp (fun _ _ => ssh_dec) 2000 _ _ h)
  unfold sprc send
  rw [ssh_kd h2]
  split
  · exact h2
  · exact ssh_rf h2
theorem spro_c : spro G = sprc G := rfl
/-- the first pass: dead at the place where the class is dead; else it comes through -/
theorem spro_1 {e : Nat × Nat} {V : yPV} {t : Nat} : (∀ p, sprc G (.inr (t, .inr V)) = .inl p → spro G (.inr (t, .inl e)) = .inl p) ∧ ∀ t1 κ, sprc G (.inr (t, .inr V)) = .inr (t1, κ) → ∃ κ', spro G (.inr (t, .inl e)) = .inr (t1, κ') := by
  have h : ssh (spro G (.inr (t, .inl e))) = ssh (sprc G (.inr (t, .inr V))) := ssh_pro _ _ rfl
  constructor
  · intro p hp
    rw [hp] at h
    rcases hs : spro G (.inr (t, .inl e)) with p' | ⟨t', κ'⟩
    · rw [hs] at h
      injection h with h
      rw [h]
    · rw [hs] at h
      nomatch h
  · intro t1 κ hp
    rw [hp] at h
    rcases hs : spro G (.inr (t, .inl e)) with p' | ⟨t', κ'⟩
    · rw [hs] at h
      nomatch h
    · rw [hs] at h
      injection h with h
      exact ⟨κ', by rw [h]⟩
end YSOL
end YSO
