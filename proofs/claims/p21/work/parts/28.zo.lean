/-! ===== the class: digits ===== -/
section KZM
variable {xm : Nat → Option kE} {mem m0 : kM} {F : kSg} {N i j a b n nb q cap : Nat} {x y z : Int32}
theorem k_hasZero4 : ∀ (k d f : Nat) (x : Int32), d + k = 9 → k < f → ∃ v, m_K_hasZero_4 xm N f x (Int32.ofNat d) mem = some (.inl (some (.int v)), mem) := by
  intro k
  induction k with
  | zero =>
    intro d f x hd hf
    obtain ⟨f, rfl⟩ : ∃ f', f = f' + 1 := ⟨f - 1, by omega⟩
    rw [m_K_hasZero_4, if_neg (fun z => by have := (i_lt (a := d) (b := 9) (by omega) (by omega)).mp z; omega)]
    exact ⟨_, rfl⟩
  | succ k ih =>
    intro d f x hd hf
    obtain ⟨f, rfl⟩ : ∃ f', f = f' + 1 := ⟨f - 1, by omega⟩
    have go : dOk (m_K_hasZero_4 xm N (f + 1) x (Int32.ofNat d) mem) (fun w => ∃ v, w = (.inl (some (.int v)), mem)) := by
      rw [m_K_hasZero_4]
      refine ok_if (fun _ => ?_) (fun _ => ⟨_, rfl, _, rfl⟩)
      refine ok_if (fun _ => ?_) (fun _ => ⟨_, rfl, _, rfl⟩)
      refine ok_nz (by decide) ?_
      refine ok_if (fun _ => ⟨_, rfl, _, rfl⟩) (fun _ => ?_)
      refine ok_nz (by decide) ?_
      rw [i_add1]
      obtain ⟨v, hv⟩ := ih (d + 1) f (x / 10) (by omega) (by omega)
      exact ⟨_, hv, v, rfl⟩
    obtain ⟨w, h1, v, rfl⟩ := go
    exact ⟨v, h1⟩
theorem k_hasZero (hN : 10 ≤ N) : ∃ v, m_K_hasZero xm N x mem = some (.inl (some (.int v)), mem) := k_hasZero4 9 0 N x (by omega) (by omega)
theorem k_digits6 : ∀ (k d f c : Nat) (x : Int32), d + k = 9 → c ≤ d → k < f → ∃ v : Nat, v ≤ 9 ∧ m_K_digitsIn_6 xm N f (Int32.ofNat c) x (Int32.ofNat d) mem = some (.inl (some (.int (Int32.ofNat v))), mem) := by
  intro k
  induction k with
  | zero =>
    intro d f c x hd hc hf
    obtain ⟨f, rfl⟩ : ∃ f', f = f' + 1 := ⟨f - 1, by omega⟩
    rw [m_K_digitsIn_6, if_neg (fun z => by have := (i_lt (a := d) (b := 9) (by omega) (by omega)).mp z; omega)]
    exact ⟨c, by omega, rfl⟩
  | succ k ih =>
    intro d f c x hd hc hf
    obtain ⟨f, rfl⟩ : ∃ f', f = f' + 1 := ⟨f - 1, by omega⟩
    have go : dOk (m_K_digitsIn_6 xm N (f + 1) (Int32.ofNat c) x (Int32.ofNat d) mem) (fun w => ∃ v : Nat, v ≤ 9 ∧ w = (.inl (some (.int (Int32.ofNat v))), mem)) := by
      rw [m_K_digitsIn_6]
      refine ok_if (fun _ => ?_) (fun _ => ⟨_, rfl, c, by omega, rfl⟩)
      refine ok_if (fun _ => ?_) (fun _ => ⟨_, rfl, c, by omega, rfl⟩)
      refine ok_nz (by decide) ?_
      rw [i_add1, i_add1]
      obtain ⟨v, hv, hv'⟩ := ih (d + 1) f (c + 1) (x / 10) (by omega) (by omega) (by omega)
      exact ⟨_, hv', v, hv, rfl⟩
    obtain ⟨w, h1, v, h2, rfl⟩ := go
    exact ⟨v, h2, h1⟩
theorem k_digits (hN : 10 ≤ N) : ∃ v : Nat, v ≤ 9 ∧ m_K_digitsIn xm N x mem = some (.inl (some (.int (Int32.ofNat v))), mem) := k_digits6 9 0 N 0 x (by omega) (by omega) (by omega)
end KZM
