/-! ===== the class: the best pattern; digits ===== -/
section KZK
variable {xm : Nat → Option kE} {mem m0 : kM} {Ts : kTyL} {F A : kSg} {S T : kO × kM → Prop} {N i j a b n nb q cap : Nat} {x y z : Int32} {X : dRes} {t : fTy}
theorem k_ends (H : HpT (cT nb q cap) F mem) : ∃ v, m_K_endsWhole xm N 1000 x mem = some (.inl (some (.int v)), mem) := by
  have go : dOk (m_K_endsWhole xm N 1000 x mem) (fun w => ∃ v, w = (.inl (some (.int v)), mem)) := by
    unfold m_K_endsWhole
    refine t_gR H 0 rfl rfl ?_
    refine t_rc H 12 rfl ?_
    obtain ⟨v, hv⟩ := tb_get (xm := xm) (N := N) (x := x) (y := 1) (f := 5) (mr := 6) (n := 30) (j := 12) (a := 1012) (b := 1013) (by decide) (by decide) (by decide) H rfl rfl
    refine ok_eI hv ?_
    refine ok_if (fun g => ?_) (fun _ => ⟨_, rfl, _, rfl⟩)
    refine t_gR H 0 rfl rfl ?_
    refine t_gI H 104 rfl rfl fun v18 => ?_
    refine ok_if (fun _ => ?_) (fun _ => ⟨_, rfl, _, rfl⟩)
    refine t_gR H 0 rfl rfl ?_
    refine t_gB H 104 rfl rfl fun d hd => ?_
    refine ok_nz (by rintro rfl; exact absurd g (by decide)) ?_
    exact ok_if (fun _ => ⟨_, rfl, _, rfl⟩) (fun _ => ⟨_, rfl, _, rfl⟩)
  obtain ⟨w, h1, v, rfl⟩ := go
  exact ⟨v, h1⟩
theorem k_best22 (hX : kXok xm) (hN : 100 ≤ N) : ∀ (k d f : Nat) (a1 a2 : Int32) (mem : kM), d + k = 7 → k < f → HpT (cT nb q cap) F mem → dOk (m_K_bestPattern_22 xm N f 1000 a1 a2 (Int32.ofNat d) mem) (rI fun _ m => HpT (cT nb q cap) F m ∧ St xm mem m 0 0) := by
  intro k
  induction k with
  | zero =>
    intro d f a1 a2 mem hd hf H
    obtain ⟨f, rfl⟩ : ∃ f', f = f' + 1 := ⟨f - 1, by omega⟩
    rw [m_K_bestPattern_22]
    refine t_gB H 0 rfl rfl fun c hc => ?_
    rw [if_neg (fun z => by have := (i_lt (by omega) (by omega)).mp z; omega)]
    exact ok_I ⟨H, St.refl⟩
  | succ k ih =>
    intro d f a1 a2 mem hd hf H
    obtain ⟨f, rfl⟩ : ∃ f', f = f' + 1 := ⟨f - 1, by omega⟩
    rw [m_K_bestPattern_22]
    refine t_gB H 0 rfl rfl fun c hc => ?_
    refine ok_if (fun _ => ?_) (fun _ => ok_I ⟨H, St.refl⟩)
    refine t_rc H 0 rfl ?_
    refine ok_cV (k_tryOut hX hN H) fun m1 hh => ?_
    obtain ⟨H1, S1⟩ := hh
    refine t_rc H1 0 rfl ?_
    obtain ⟨v, hv⟩ := k_ends (xm := xm) (N := N) (x := Int32.ofNat d) H1
    refine ok_eI hv ?_
    have go : ∀ x1 x2 : Int32, dOk (m_K_bestPattern_22 xm N f 1000 x1 x2 (Int32.ofNat d + 1) m1) (rI fun _ m => HpT (cT nb q cap) F m ∧ St xm mem m 0 0) := by
      intro x1 x2
      rw [i_add1]
      refine ok_mono (ih (d + 1) f x1 x2 m1 (by omega) (by omega) H1) ?_
      rintro w ⟨v, q1, q2, q3⟩
      exact ⟨v, q1, q2, (S1.trans q3).mono (by omega) (by omega)⟩
    unfold m_K_bestPattern_59 m_K_bestPattern_69
    refine ok_if (fun _ => go _ _) (fun _ => ?_)
    have g59 : dOk (dGR xm m1 1000 11 6 fun v62 => dGI xm m1 v62 9 3 fun v65 => m_K_bestPattern_22 xm N f 1000 (Int32.ofNat d) v65 (Int32.ofNat d + 1) m1) (rI fun _ m => HpT (cT nb q cap) F m ∧ St xm mem m 0 0) := by
      refine t_gR H1 0 rfl rfl ?_
      refine t_gI H1 104 rfl rfl fun v65 => ?_
      exact go _ _
    refine ok_if (fun _ => g59) (fun _ => ?_)
    refine t_gR H1 0 rfl rfl ?_
    refine t_gI H1 104 rfl rfl fun v52 => ?_
    exact ok_if (fun _ => g59) (fun _ => go _ _)
theorem k_best (hX : kXok xm) (hN : 100 ≤ N) (H : HpT (cT nb q cap) F mem) : dOk (m_K_bestPattern xm N 1000 mem) (rI fun _ m => HpT (cT nb q cap) F m ∧ St xm mem m 0 0) := by
  unfold m_K_bestPattern
  refine t_gR H 0 rfl rfl ?_
  refine t_gR H 3 rfl rfl ?_
  refine t_gB H 4 rfl rfl fun c hc => ?_
  refine ok_if (fun _ => ok_I ⟨H, St.refl⟩) (fun _ => ?_)
  exact k_best22 hX hN 7 0 N (-1) 0 mem (by omega) (by omega) H
end KZK
