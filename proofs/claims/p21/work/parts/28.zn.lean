/-! ===== the class: can it be done; digits ===== -/
section KZL
variable {xm : Nat → Option kE} {mem m0 : kM} {F : kSg} {S T : kO × kM → Prop} {N i j a b n nb q cap : Nat} {x y z : Int32}
theorem k_fits01 (hX : kXok xm) {x1 x2 x3 x4 : Int32} : ∃ v, (v = 0 ∨ v = 1) ∧ m_K_fits xm N x1 x2 x3 x4 mem = some (.inl (some (.int v)), mem) := by
  have go : dOk (m_K_fits xm N x1 x2 x3 x4 mem) (fun w => ∃ v, (v = 0 ∨ v = 1) ∧ w = (.inl (some (.int v)), mem)) := by
    unfold m_K_fits
    obtain ⟨v5, h5⟩ := sf (N := N) (x := x1) (mem := mem) hX (r := 5) (by decide)
    obtain ⟨v3, h3⟩ := sf (N := N) (x := x1) (mem := mem) hX (r := 3) (by decide)
    obtain ⟨v6, h6⟩ := sf (N := N) (x := x1) (mem := mem) hX (r := 6) (by decide)
    obtain ⟨v4, h4⟩ := sf (N := N) (x := x1) (mem := mem) hX (r := 4) (by decide)
    refine ok_eI h5 (ok_eI h3 (ok_eI h6 ?_))
    refine ok_if (fun _ => ⟨_, rfl, 0, Or.inl rfl, rfl⟩) (fun _ => ?_)
    refine ok_if (fun _ => ⟨_, rfl, 0, Or.inl rfl, rfl⟩) (fun _ => ?_)
    refine ok_eI h4 ?_
    exact ok_if (fun _ => ⟨_, rfl, 0, Or.inl rfl, rfl⟩) (fun _ => ⟨_, rfl, 1, Or.inr rfl, rfl⟩)
  obtain ⟨w, h1, v, h2, rfl⟩ := go
  exact ⟨v, h2, h1⟩
theorem k_canDo (hX : kXok xm) (H : HpT (cT nb q cap) F mem) : ∃ v, m_K_canDo xm N 1000 x mem = some (.inl (some (.int v)), mem) := by
  have go : dOk (m_K_canDo xm N 1000 x mem) (fun w => ∃ v, w = (.inl (some (.int v)), mem)) := by
    unfold m_K_canDo
    refine t_gR H 0 rfl rfl ?_
    refine t_gR H 3 rfl rfl ?_
    refine t_gB H 4 rfl rfl fun c hc => ?_
    refine t_gR H 0 rfl rfl ?_
    refine t_rc H 3 rfl ?_
    obtain ⟨v, -, hv⟩ := w_onBoth (xm := xm) (N := N) (i := 3) H isWk_now
    refine ok_eI hv ?_
    refine t_gR H 0 rfl rfl ?_
    refine t_rc H 1 rfl ?_
    obtain ⟨w, hw⟩ := b_ofJoined (xm := xm) (N := N) (a := 1001) (b := 1002) (nb := nb) (j := 1) H rfl rfl
    refine ok_eI hw ?_
    obtain ⟨u, hu, hu'⟩ := k_fits01 (N := N) (mem := mem) hX (x1 := x) (x2 := Int32.ofNat c) (x3 := Int32.ofNat v) (x4 := w)
    refine ok_eI hu' ?_
    unfold dRt
    rw [if_pos (by rcases hu with rfl | rfl <;> rfl)]
    exact ⟨_, rfl, u, rfl⟩
  obtain ⟨w, h1, v, rfl⟩ := go
  exact ⟨v, h1⟩
theorem k_hasPattern (H : HpT (cT nb q cap) F mem) : ∃ v, m_K_hasPattern xm N 1000 x mem = some (.inl (some (.int v)), mem) := by
  have go : dOk (m_K_hasPattern xm N 1000 x mem) (fun w => ∃ v, w = (.inl (some (.int v)), mem)) := by
    unfold m_K_hasPattern
    refine ok_if (fun _ => ⟨_, rfl, _, rfl⟩) (fun _ => ?_)
    refine t_gB H 0 rfl rfl fun c hc => ?_
    exact ok_if (fun _ => ⟨_, rfl, _, rfl⟩) (fun _ => ⟨_, rfl, _, rfl⟩)
  obtain ⟨w, h1, v, rfl⟩ := go
  exact ⟨v, h1⟩
end KZL
