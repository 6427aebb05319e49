/-! ===== the class: needles copied and swapped, tables, balls ===== -/
section KZC
variable {xm : Nat → Option kE} {mem : kM} {Ts : kTyL} {F A : kSg} {S : kO × kM → Prop} {N i j a b a1 b1 c f mr n jo : Nat} {x y z : Int32}
theorem n_copyFrom (hij : i ≠ j) (H : HpT Ts F mem) (hj : Ts[j]? = some (a, nT b)) (hb : Ts[j + 1]? = some (b, cA 24)) (hi : Ts[i]? = some (a1, nT b1)) (hb1 : Ts[i + 1]? = some (b1, cA 24)) : dOk (m_Needle_copyFrom xm N a a1 mem) (rV fun m => HpT Ts F m ∧ St xm mem m 0 0) := by
  unfold m_Needle_copyFrom
  refine t_gB H i hi rfl fun c hc => ?_
  refine t_p H j hj rfl rfl ⟨c, hc, rfl⟩ fun m1 H1 S1 => ?_
  refine t_gR H1 i hi rfl ?_
  refine t_gR H1 j hj rfl ?_
  refine t_gR H1 j hj rfl ?_
  refine t_len H1 (j + 1) hb ?_
  refine t_gR H1 i hi rfl ?_
  refine t_len H1 (i + 1) hb1 ?_
  refine ok_eI m_min ?_
  refine t_cpy H1 (i + 1) (j + 1) hb1 hb (by decide) fun m2 H2 S2 => ?_
  exact ok_V ⟨H2, S1.trans S2⟩
theorem n_swap20 (hj : Ts[j]? = some (a, nT b)) (hb : Ts[j + 1]? = some (b, cA 24)) (hi : Ts[i]? = some (a1, nT b1)) (hb1 : Ts[i + 1]? = some (b1, cA 24)) : ∀ (k d f : Nat) (mem : kM), d + k = 24 → k < f → HpT Ts F mem → dOk (m_Needle_swapWith_20 xm N f a a1 (Int32.ofNat d) mem) (rV fun m => HpT Ts F m ∧ St xm mem m 0 0) := by
  intro k
  induction k with
  | zero =>
    intro d f mem hd hf H
    obtain ⟨f, rfl⟩ : ∃ f', f = f' + 1 := ⟨f - 1, by omega⟩
    rw [m_Needle_swapWith_20]
    refine t_gR H j hj rfl ?_
    refine t_len H (j + 1) hb ?_
    rw [if_neg (fun z => by have := (i_lt (by omega) (by omega)).mp z; omega)]
    exact ok_V ⟨H, St.refl⟩
  | succ k ih =>
    intro d f mem hd hf H
    obtain ⟨f, rfl⟩ : ∃ f', f = f' + 1 := ⟨f - 1, by omega⟩
    have g : kInB (Int32.ofNat d) 24 = true := i_inB (by omega) (by decide)
    rw [m_Needle_swapWith_20]
    refine t_gR H j hj rfl ?_
    refine t_len H (j + 1) hb ?_
    refine ok_if (fun _ => ?_) (fun _ => ok_V ⟨H, St.refl⟩)
    refine t_gR H i hi rfl ?_
    refine t_len H (i + 1) hb1 ?_
    refine ok_if (fun _ => ?_) (fun _ => ok_V ⟨H, St.refl⟩)
    refine t_gR H j hj rfl ?_
    refine t_iL H (j + 1) hb g fun v => ?_
    refine t_gR H j hj rfl ?_
    refine t_gR H i hi rfl ?_
    refine t_iL H (i + 1) hb1 g fun w => ?_
    refine t_iS H (j + 1) hb g fun m1 H1 S1 => ?_
    refine t_gR H1 i hi rfl ?_
    refine t_iS H1 (i + 1) hb1 g fun m2 H2 S2 => ?_
    rw [i_add1]
    refine ok_mono (ih (d + 1) f m2 (by omega) (by omega) H2) ?_
    rintro w ⟨q1, q2, q3⟩
    exact ⟨q1, q2, (S1.trans (S2.trans q3)).mono (by omega) (by omega)⟩
theorem n_swap (hN : 25 ≤ N) (H : HpT Ts F mem) (hj : Ts[j]? = some (a, nT b)) (hb : Ts[j + 1]? = some (b, cA 24)) (hi : Ts[i]? = some (a1, nT b1)) (hb1 : Ts[i + 1]? = some (b1, cA 24)) : dOk (m_Needle_swapWith xm N a a1 mem) (rV fun m => HpT Ts F m ∧ St xm mem m 0 0) := by
  unfold m_Needle_swapWith
  refine t_gB H j hj rfl fun c hc => ?_
  refine t_gB H i hi rfl fun c1 hc1 => ?_
  refine t_p H j hj rfl rfl ⟨c1, hc1, rfl⟩ fun m1 H1 S1 => ?_
  refine t_p H1 i hi rfl rfl ⟨c, hc, rfl⟩ fun m2 H2 S2 => ?_
  refine ok_mono (n_swap20 hj hb hi hb1 24 0 N m2 (by omega) (by omega) H2) ?_
  rintro w ⟨q1, q2, q3⟩
  exact ⟨q1, q2, (S1.trans (S2.trans q3)).mono (by omega) (by omega)⟩
/-! tables -/
/-- a table's type: so many facts a row, so many rows at most, its cells -/
abbrev tT (f mr b : Nat) : cTy := cO 8 [fE (Int32.ofNat f), fE (Int32.ofNat mr), fR b]
theorem tb_cellOf (hf : f ≤ 9) (hm : mr ≤ 19998) (H : HpT Ts F mem) (hj : Ts[j]? = some (a, tT f mr b)) : ∃ v, (v = -1 ∨ ∃ c : Nat, c < f * mr ∧ v = Int32.ofNat c) ∧ m_Table_cellOf xm N a x y mem = some (.inl (some (.int v)), mem) := by
  have go : dOk (m_Table_cellOf xm N a x y mem) (fun w => ∃ v, (v = -1 ∨ ∃ c : Nat, c < f * mr ∧ v = Int32.ofNat c) ∧ w = (.inl (some (.int v)), mem)) := by
    have no : dOk (m_Table_cellOf_28 xm N a x y mem) (fun w => ∃ v, (v = -1 ∨ ∃ c : Nat, c < f * mr ∧ v = Int32.ofNat c) ∧ w = (.inl (some (.int v)), mem)) := by
      unfold m_Table_cellOf_28 m_Table_cellOf_29
      rw [if_pos rfl]
      exact ⟨_, rfl, -1, Or.inl rfl, rfl⟩
    unfold m_Table_cellOf
    refine ok_if (fun _ => no) (fun g1 => ?_)
    refine t_gE H j hj rfl ?_
    refine ok_if (fun g2 => ?_) (fun _ => no)
    refine ok_if (fun _ => no) (fun g3 => ?_)
    refine t_gE H j hj rfl ?_
    refine ok_if (fun g4 => ?_) (fun _ => no)
    unfold m_Table_cellOf_29
    rw [if_neg (show ¬ ((1 : Int32) = 0) by decide)]
    refine t_gE H j hj rfl ?_
    obtain ⟨e1, l1⟩ := i_of (Int32.not_lt.mp g1)
    obtain ⟨e3, l3⟩ := i_of (Int32.not_lt.mp g3)
    generalize x.toNatClampNeg = r at e1 l1
    generalize y.toNatClampNeg = w at e3 l3
    subst e1
    subst e3
    have g2 := (i_lt l1 (by omega)).mp g2
    have g4 := (i_lt l3 (by omega)).mp g4
    rw [i_mul, i_add]
    refine ⟨_, rfl, _, Or.inr ⟨r * f + w, ?_, rfl⟩, rfl⟩
    have h5 : (r + 1) * f ≤ mr * f := Nat.mul_le_mul_right f g2
    rw [Nat.add_mul, Nat.mul_comm mr f] at h5
    omega
  obtain ⟨w, h1, v, h2, rfl⟩ := go
  exact ⟨v, h2, h1⟩
theorem tb_get (hf : f ≤ 9) (hm : mr ≤ 19998) (hn : n < 2 ^ 31) (H : HpT Ts F mem) (hj : Ts[j]? = some (a, tT f mr b)) (hb : Ts[j + 1]? = some (b, cA n)) : ∃ v, m_Table_get xm N a x y mem = some (.inl (some (.int v)), mem) := by
  have go : dOk (m_Table_get xm N a x y mem) (fun w => ∃ v, w = (.inl (some (.int v)), mem)) := by
    unfold m_Table_get
    refine t_rc H j hj ?_
    obtain ⟨v, -, hv⟩ := tb_cellOf (xm := xm) (N := N) (x := x) (y := y) hf hm H hj
    refine ok_eI hv ?_
    refine ok_if (fun _ => ⟨_, rfl, _, rfl⟩) (fun g1 => ?_)
    refine t_gR H j hj rfl ?_
    refine t_len H (j + 1) hb ?_
    refine ok_if (fun g2 => ?_) (fun _ => ⟨_, rfl, _, rfl⟩)
    refine t_gR H j hj rfl ?_
    exact t_iL H (j + 1) hb (i_guard g1 g2 hn) fun v => ⟨_, rfl, v, rfl⟩
  obtain ⟨w, h1, v, rfl⟩ := go
  exact ⟨v, h1⟩
/-- into a table that is as roomy as it can be -/
theorem tb_set (hf : f ≤ 9) (hm : mr ≤ 19998) (H : HpT Ts F mem) (hj : Ts[j]? = some (a, tT f mr b)) (hb : Ts[j + 1]? = some (b, cA (f * mr))) : dOk (m_Table_set xm N a x y z mem) (rV fun m => HpT Ts F m ∧ St xm mem m 0 0) := by
  have hn : f * mr < 2 ^ 31 := by
    have : f * mr ≤ 9 * 19998 := Nat.mul_le_mul hf hm
    omega
  unfold m_Table_set
  refine t_rc H j hj ?_
  obtain ⟨v, hv0, hv⟩ := tb_cellOf (xm := xm) (N := N) (x := x) (y := y) hf hm H hj
  refine ok_eI hv ?_
  refine t_rc H j hj ?_
  have key : m_Table_growTo xm N a (v + 1) mem = some (.inl none, mem) := by
    have go : dOk (m_Table_growTo xm N a (v + 1) mem) (fun w => w = (.inl none, mem)) := by
      unfold m_Table_growTo
      refine t_gR H j hj rfl ?_
      refine t_len H (j + 1) hb ?_
      rw [if_neg]
      · exact ⟨_, rfl, rfl⟩
      · rcases hv0 with rfl | ⟨c, hc, rfl⟩
        · intro g
          have : (-1 : Int32) + 1 = Int32.ofNat 0 := by decide
          rw [this] at g
          have := (i_lt hn (by decide)).mp g
          omega
        · rw [i_add1]
          intro g
          have := (i_lt hn (by omega)).mp g
          omega
    obtain ⟨w, h1, rfl⟩ := go
    exact h1
  refine ok_eV key ?_
  refine ok_if (fun _ => ok_V ⟨H, St.refl⟩) (fun g1 => ?_)
  refine t_gR H j hj rfl ?_
  refine t_len H (j + 1) hb ?_
  refine ok_if (fun g2 => ?_) (fun _ => ok_V ⟨H, St.refl⟩)
  refine t_gR H j hj rfl ?_
  exact t_iS H (j + 1) hb (i_guard g1 g2 hn) fun m H1 S1 => ok_V ⟨H1, S1⟩
/-- from a table as roomy as this one -/
theorem tb_copyFrom (hn : n < 2 ^ 31) {f1 mr1 : Nat} (H : HpT Ts F mem) (hj : Ts[j]? = some (a, tT f mr b)) (hb : Ts[j + 1]? = some (b, cA n)) (hi : Ts[i]? = some (a1, tT f1 mr1 b1)) (hb1 : Ts[i + 1]? = some (b1, cA n)) : dOk (m_Table_copyFrom xm N a a1 mem) (rV fun m => HpT Ts F m ∧ St xm mem m 0 0) := by
  unfold m_Table_copyFrom
  refine t_gR H j hj rfl ?_
  refine t_len H (j + 1) hb ?_
  refine t_gR H i hi rfl ?_
  refine t_len H (i + 1) hb1 ?_
  refine ok_eI m_min ?_
  refine t_gR H i hi rfl ?_
  refine t_gR H j hj rfl ?_
  have e1 : (if Int32.ofNat n < Int32.ofNat n then Int32.ofNat n else Int32.ofNat n) = Int32.ofNat n := by split <;> rfl
  rw [e1]
  refine t_cpy H (i + 1) (j + 1) hb1 hb ?_ fun m2 H2 S2 => ok_V ⟨H2, S2⟩
  unfold kOkR
  rw [i_nat hn]
  have e0 : (0 : Int32).toNatClampNeg = 0 := by decide
  rw [e0]
  simp [i_nn hn]
/-! balls -/
/-- the balls' type: the yarn, how many, which is joined -/
abbrev bT (b nb : Nat) : cTy := cO 5 [fR b, fE (Int32.ofNat nb), fI]
theorem b_has {nb : Nat} (H : HpT Ts F mem) (hj : Ts[j]? = some (a, bT b nb)) (hb : Ts[j + 1]? = some (b, cA 4)) : ∃ v, (v ≠ 0 → kInB x 4 = true) ∧ m_Balls_has xm N a x mem = some (.inl (some (.int v)), mem) := by
  have go : dOk (m_Balls_has xm N a x mem) (fun w => ∃ v, (v ≠ 0 → kInB x 4 = true) ∧ w = (.inl (some (.int v)), mem)) := by
    have no : dOk (some (.inl (some (.int 0)), mem)) (fun w => ∃ v, (v ≠ 0 → kInB x 4 = true) ∧ w = (.inl (some (.int v)), mem)) := ⟨_, rfl, 0, fun h => absurd rfl h, rfl⟩
    unfold m_Balls_has
    refine ok_if (fun _ => no) (fun g1 => ?_)
    refine t_gE H j hj rfl ?_
    refine ok_if (fun _ => ?_) (fun _ => no)
    refine t_gR H j hj rfl ?_
    refine t_len H (j + 1) hb ?_
    refine ok_if (fun g2 => ?_) (fun _ => no)
    exact ⟨_, rfl, 1, fun _ => i_guard g1 g2 (by decide), rfl⟩
  obtain ⟨w, h1, v, h2, rfl⟩ := go
  exact ⟨v, h2, h1⟩
theorem b_of {nb : Nat} (H : HpT Ts F mem) (hj : Ts[j]? = some (a, bT b nb)) (hb : Ts[j + 1]? = some (b, cA 4)) : ∃ v, m_Balls_of xm N a x mem = some (.inl (some (.int v)), mem) := by
  have go : dOk (m_Balls_of xm N a x mem) (fun w => ∃ v, w = (.inl (some (.int v)), mem)) := by
    unfold m_Balls_of
    refine t_rc H j hj ?_
    obtain ⟨v, hv0, hv⟩ := b_has (xm := xm) (N := N) (x := x) H hj hb
    refine ok_eI hv ?_
    refine ok_if (fun _ => ⟨_, rfl, _, rfl⟩) (fun g1 => ?_)
    refine t_gR H j hj rfl ?_
    exact t_iL H (j + 1) hb (hv0 g1) fun v => ⟨_, rfl, v, rfl⟩
  obtain ⟨w, h1, v, rfl⟩ := go
  exact ⟨v, h1⟩
theorem b_ofJoined {nb : Nat} (H : HpT Ts F mem) (hj : Ts[j]? = some (a, bT b nb)) (hb : Ts[j + 1]? = some (b, cA 4)) : ∃ v, m_Balls_ofJoined xm N a mem = some (.inl (some (.int v)), mem) := by
  have go : dOk (m_Balls_ofJoined xm N a mem) (fun w => ∃ v, w = (.inl (some (.int v)), mem)) := by
    unfold m_Balls_ofJoined
    refine t_gI H j hj rfl fun jo => ?_
    refine t_rc H j hj ?_
    obtain ⟨v, hv⟩ := b_of (xm := xm) (N := N) (x := jo) H hj hb
    exact ok_eI hv ⟨_, rfl, v, rfl⟩
  obtain ⟨w, h1, v, rfl⟩ := go
  exact ⟨v, h1⟩
theorem b_set {nb : Nat} (H : HpT Ts F mem) (hj : Ts[j]? = some (a, bT b nb)) (hb : Ts[j + 1]? = some (b, cA 4)) : dOk (m_Balls_set xm N a x y mem) (rV fun m => HpT Ts F m ∧ St xm mem m 0 0) := by
  unfold m_Balls_set
  refine t_rc H j hj ?_
  obtain ⟨v, hv0, hv⟩ := b_has (xm := xm) (N := N) (x := x) H hj hb
  refine ok_eI hv ?_
  refine ok_if (fun _ => ok_V ⟨H, St.refl⟩) (fun g1 => ?_)
  refine t_gR H j hj rfl ?_
  exact t_iS H (j + 1) hb (hv0 g1) fun m H1 S1 => ok_V ⟨H1, S1⟩
theorem b_spend {nb : Nat} (H : HpT Ts F mem) (hj : Ts[j]? = some (a, bT b nb)) (hb : Ts[j + 1]? = some (b, cA 4)) : dOk (m_Balls_spend xm N a x mem) (rV fun m => HpT Ts F m ∧ St xm mem m 0 0) := by
  unfold m_Balls_spend
  refine t_gI H j hj rfl fun jo => ?_
  refine t_gI H j hj rfl fun jo2 => ?_
  refine t_rc H j hj ?_
  obtain ⟨v, hv⟩ := b_of (xm := xm) (N := N) (x := jo2) H hj hb
  refine ok_eI hv ?_
  refine t_rc H j hj ?_
  exact ok_cV (b_set H hj hb) fun m hh => ok_V hh
theorem b_ofAll4 {nb : Nat} (hnb : nb ≤ 4) (H : HpT Ts F mem) (hj : Ts[j]? = some (a, bT b nb)) (hb : Ts[j + 1]? = some (b, cA 4)) : ∀ (k d f : Nat) (s : Int32), d + k = nb → k < f → ∃ v, m_Balls_ofAll_4 xm N f a s (Int32.ofNat d) mem = some (.inl (some (.int v)), mem) := by
  intro k
  induction k with
  | zero =>
    intro d f s hd hf
    obtain ⟨f, rfl⟩ : ∃ f', f = f' + 1 := ⟨f - 1, by omega⟩
    have go : dOk (m_Balls_ofAll_4 xm N (f + 1) a s (Int32.ofNat d) mem) (fun w => ∃ v, w = (.inl (some (.int v)), mem)) := by
      rw [m_Balls_ofAll_4]
      refine t_gE H j hj rfl ?_
      rw [if_neg (fun z => by have := (i_lt (by omega) (by omega)).mp z; omega)]
      exact ⟨_, rfl, _, rfl⟩
    obtain ⟨w, h1, v, rfl⟩ := go
    exact ⟨v, h1⟩
  | succ k ih =>
    intro d f s hd hf
    obtain ⟨f, rfl⟩ : ∃ f', f = f' + 1 := ⟨f - 1, by omega⟩
    have go : dOk (m_Balls_ofAll_4 xm N (f + 1) a s (Int32.ofNat d) mem) (fun w => ∃ v, w = (.inl (some (.int v)), mem)) := by
      rw [m_Balls_ofAll_4]
      refine t_gE H j hj rfl ?_
      refine ok_if (fun _ => ?_) (fun _ => ⟨_, rfl, _, rfl⟩)
      refine t_rc H j hj ?_
      obtain ⟨w, hw⟩ := b_of (xm := xm) (N := N) (x := Int32.ofNat d) H hj hb
      refine ok_eI hw ?_
      rw [i_add1]
      obtain ⟨v, hv⟩ := ih (d + 1) f (s + w) (by omega) (by omega)
      exact ⟨_, hv, v, rfl⟩
    obtain ⟨w, h1, v, rfl⟩ := go
    exact ⟨v, h1⟩
theorem b_ofAll {nb : Nat} (hN : 5 ≤ N) (hnb : nb ≤ 4) (H : HpT Ts F mem) (hj : Ts[j]? = some (a, bT b nb)) (hb : Ts[j + 1]? = some (b, cA 4)) : ∃ v, m_Balls_ofAll xm N a mem = some (.inl (some (.int v)), mem) := b_ofAll4 hnb H hj hb nb 0 N 0 (by omega) (by omega)
theorem b_add {nb : Nat} (hnb : nb < 4) (H : HpT Ts F mem) (hj : Ts[j]? = some (a, bT b nb)) (hb : Ts[j + 1]? = some (b, cA 4)) : dOk (m_Balls_add xm N a x mem) (rI fun v m => v = Int32.ofNat nb ∧ HpT (Ts.set j (a, bT b (nb + 1))) F m ∧ St xm mem m 0 0) := by
  unfold m_Balls_add
  refine t_gE H j hj rfl ?_
  rw [if_neg (i_nn (by omega))]
  refine t_gR H j hj rfl ?_
  refine t_len H (j + 1) hb ?_
  rw [if_pos ((i_lt (by omega) (by decide)).mpr hnb)]
  refine t_gR H j hj rfl ?_
  refine t_iS H (j + 1) hb (i_inB hnb (by decide)) fun m1 H1 S1 => ?_
  refine t_gE H1 j hj rfl ?_
  refine t_pT (t' := fE (Int32.ofNat (nb + 1))) H1 j hj rfl rfl (by rw [i_add1]; rfl) fun m2 H2 S2 => ?_
  exact ok_I ⟨rfl, H2, S1.trans S2⟩
end KZC
