/-! ===== the class: works ===== -/
/-- a work: itself, two needles with their rows, the runs with their cells -/
def wT (a : Nat) : kTyL := [(a, cO 10 [fR (a + 1), fR (a + 3), fR (a + 5), fB 9, fI, fI, fI, fI, fI, fI]), (a + 1, nT (a + 2)), (a + 2, cA 24), (a + 3, nT (a + 4)), (a + 4, cA 24), (a + 5, tT 4 9 (a + 6)), (a + 6, cA 36)]
def isWk (Ts : kTyL) (i a : Nat) : Prop := ∀ d < 7, Ts[i + d]? = (wT a)[d]?
section KZD
variable {xm : Nat → Option kE} {mem : kM} {Ts : kTyL} {F A : kSg} {S : kO × kM → Prop} {N i j a b a1 b1 c f mr n jo : Nat} {x y z : Int32}
theorem w_onBoth (H : HpT Ts F mem) (W : isWk Ts i a) : ∃ v : Nat, v ≤ 48 ∧ m_Work_onBoth xm N a mem = some (.inl (some (.int (Int32.ofNat v))), mem) := by
  have go : dOk (m_Work_onBoth xm N a mem) (fun w => ∃ v : Nat, v ≤ 48 ∧ w = (.inl (some (.int (Int32.ofNat v))), mem)) := by
    unfold m_Work_onBoth
    refine t_gR H i (W 0 (by decide)) rfl ?_
    refine t_gB H (i + 1) (W 1 (by decide)) rfl fun c hc => ?_
    refine t_gR H i (W 0 (by decide)) rfl ?_
    refine t_gB H (i + 3) (W 3 (by decide)) rfl fun d hd => ?_
    rw [i_add]
    exact ⟨_, rfl, c + d, by omega, rfl⟩
  obtain ⟨w, h1, v, h2, rfl⟩ := go
  exact ⟨v, h2, h1⟩
theorem w_runGet (H : HpT Ts F mem) (W : isWk Ts i a) : ∃ v, m_Table_get xm N (a + 5) x y mem = some (.inl (some (.int v)), mem) := tb_get (f := 4) (mr := 9) (n := 36) (by decide) (by decide) (by decide) H (W 5 (by decide)) (W 6 (by decide))
theorem w_runSet (H : HpT Ts F mem) (W : isWk Ts i a) : dOk (m_Table_set xm N (a + 5) x y z mem) (rV fun m => HpT Ts F m ∧ St xm mem m 0 0) := tb_set (f := 4) (mr := 9) (by decide) (by decide) H (W 5 (by decide)) (W 6 (by decide))
theorem w_isOpen (H : HpT Ts F mem) (W : isWk Ts i a) : ∃ v, m_Work_isOpen xm N a x mem = some (.inl (some (.int v)), mem) := by
  have go : dOk (m_Work_isOpen xm N a x mem) (fun w => ∃ v, w = (.inl (some (.int v)), mem)) := by
    unfold m_Work_isOpen
    refine t_gR H i (W 0 (by decide)) rfl ?_
    refine t_rc H (i + 5) (W 5 (by decide)) ?_
    obtain ⟨v, hv⟩ := w_runGet (xm := xm) (N := N) (x := x) (y := 3) H W
    refine ok_eI hv ?_
    exact ok_if (fun _ => ⟨_, rfl, _, rfl⟩) (fun _ => ⟨_, rfl, _, rfl⟩)
  obtain ⟨w, h1, v, rfl⟩ := go
  exact ⟨v, h1⟩
theorem w_openRuns4 (H : HpT Ts F mem) (W : isWk Ts i a) : ∀ (k d f : Nat) (s : Int32), d + k = 10 → k < f → ∃ v, m_Work_openRuns_4 xm N f a s (Int32.ofNat d) mem = some (.inl (some (.int v)), mem) := by
  intro k
  induction k with
  | zero =>
    intro d f s hd hf
    obtain ⟨f, rfl⟩ : ∃ f', f = f' + 1 := ⟨f - 1, by omega⟩
    have go : dOk (m_Work_openRuns_4 xm N (f + 1) a s (Int32.ofNat d) mem) (fun w => ∃ v, w = (.inl (some (.int v)), mem)) := by
      rw [m_Work_openRuns_4]
      refine t_gB H i (W 0 (by decide)) rfl fun c hc => ?_
      rw [if_neg (fun z => by have := (i_lt (by omega) (by omega)).mp z; omega)]
      exact ⟨_, rfl, _, rfl⟩
    obtain ⟨w, h1, v, rfl⟩ := go
    exact ⟨v, h1⟩
  | succ k ih =>
    intro d f s hd hf
    obtain ⟨f, rfl⟩ : ∃ f', f = f' + 1 := ⟨f - 1, by omega⟩
    have go : dOk (m_Work_openRuns_4 xm N (f + 1) a s (Int32.ofNat d) mem) (fun w => ∃ v, w = (.inl (some (.int v)), mem)) := by
      rw [m_Work_openRuns_4]
      refine t_gB H i (W 0 (by decide)) rfl fun c hc => ?_
      refine ok_if (fun _ => ?_) (fun _ => ⟨_, rfl, _, rfl⟩)
      refine t_rc H i (W 0 (by decide)) ?_
      obtain ⟨w, hw⟩ := w_isOpen (xm := xm) (N := N) (x := Int32.ofNat d) H W
      refine ok_eI hw ?_
      unfold m_Work_openRuns_23
      rw [i_add1]
      refine ok_if (fun _ => ?_) (fun _ => ?_)
      · obtain ⟨v, hv⟩ := ih (d + 1) f s (by omega) (by omega)
        exact ⟨_, hv, v, rfl⟩
      · obtain ⟨v, hv⟩ := ih (d + 1) f (s + 1) (by omega) (by omega)
        exact ⟨_, hv, v, rfl⟩
    obtain ⟨w, h1, v, rfl⟩ := go
    exact ⟨v, h1⟩
theorem w_openRuns (hN : 11 ≤ N) (H : HpT Ts F mem) (W : isWk Ts i a) : ∃ v, m_Work_openRuns xm N a mem = some (.inl (some (.int v)), mem) := w_openRuns4 H W 10 0 N 0 (by omega) (by omega)
theorem w_hasIn2 (H : HpT Ts F mem) (W : isWk Ts i a) : ∀ (k d f : Nat), d + k = 10 → k < f → ∃ v, m_Work_hasInOpenRun_2 xm N f a x (Int32.ofNat d) mem = some (.inl (some (.int v)), mem) := by
  intro k
  induction k with
  | zero =>
    intro d f hd hf
    obtain ⟨f, rfl⟩ : ∃ f', f = f' + 1 := ⟨f - 1, by omega⟩
    have go : dOk (m_Work_hasInOpenRun_2 xm N (f + 1) a x (Int32.ofNat d) mem) (fun w => ∃ v, w = (.inl (some (.int v)), mem)) := by
      rw [m_Work_hasInOpenRun_2]
      refine t_gB H i (W 0 (by decide)) rfl fun c hc => ?_
      rw [if_neg (fun z => by have := (i_lt (by omega) (by omega)).mp z; omega)]
      exact ⟨_, rfl, _, rfl⟩
    obtain ⟨w, h1, v, rfl⟩ := go
    exact ⟨v, h1⟩
  | succ k ih =>
    intro d f hd hf
    obtain ⟨f, rfl⟩ : ∃ f', f = f' + 1 := ⟨f - 1, by omega⟩
    have go : dOk (m_Work_hasInOpenRun_2 xm N (f + 1) a x (Int32.ofNat d) mem) (fun w => ∃ v, w = (.inl (some (.int v)), mem)) := by
      rw [m_Work_hasInOpenRun_2]
      refine t_gB H i (W 0 (by decide)) rfl fun c hc => ?_
      refine ok_if (fun _ => ?_) (fun _ => ⟨_, rfl, _, rfl⟩)
      refine t_rc H i (W 0 (by decide)) ?_
      obtain ⟨w, hw⟩ := w_isOpen (xm := xm) (N := N) (x := Int32.ofNat d) H W
      refine ok_eI hw ?_
      unfold m_Work_hasInOpenRun_33
      rw [i_add1]
      obtain ⟨v, hv⟩ := ih (d + 1) f (by omega) (by omega)
      refine ok_if (fun _ => ⟨_, hv, v, rfl⟩) (fun _ => ?_)
      refine t_gR H i (W 0 (by decide)) rfl ?_
      refine t_rc H (i + 5) (W 5 (by decide)) ?_
      obtain ⟨v2, hv2⟩ := w_runGet (xm := xm) (N := N) (x := Int32.ofNat d) (y := 0) H W
      refine ok_eI hv2 ?_
      exact ok_if (fun _ => ⟨_, rfl, _, rfl⟩) (fun _ => ⟨_, hv, v, rfl⟩)
    obtain ⟨w, h1, v, rfl⟩ := go
    exact ⟨v, h1⟩
theorem w_hasIn (hN : 11 ≤ N) (H : HpT Ts F mem) (W : isWk Ts i a) : ∃ v, m_Work_hasInOpenRun xm N a x mem = some (.inl (some (.int v)), mem) := w_hasIn2 H W 10 0 N (by omega) (by omega)
theorem w_fall2 (W : isWk Ts i a) : ∀ (k d f : Nat) (mem : kM), d + k = 10 → k < f → HpT Ts F mem → dOk (m_Work_letRunsFall_2 xm N f a (Int32.ofNat d) mem) (rV fun m => HpT Ts F m ∧ St xm mem m 0 0) := by
  intro k
  induction k with
  | zero =>
    intro d f mem hd hf H
    obtain ⟨f, rfl⟩ : ∃ f', f = f' + 1 := ⟨f - 1, by omega⟩
    rw [m_Work_letRunsFall_2]
    refine t_gB H i (W 0 (by decide)) rfl fun c hc => ?_
    rw [if_neg (fun z => by have := (i_lt (by omega) (by omega)).mp z; omega)]
    exact ok_V ⟨H, St.refl⟩
  | succ k ih =>
    intro d f mem hd hf H
    obtain ⟨f, rfl⟩ : ∃ f', f = f' + 1 := ⟨f - 1, by omega⟩
    rw [m_Work_letRunsFall_2]
    refine t_gB H i (W 0 (by decide)) rfl fun c hc => ?_
    refine ok_if (fun _ => ?_) (fun _ => ok_V ⟨H, St.refl⟩)
    refine t_rc H i (W 0 (by decide)) ?_
    obtain ⟨w, hw⟩ := w_isOpen (xm := xm) (N := N) (x := Int32.ofNat d) H W
    refine ok_eI hw ?_
    unfold m_Work_letRunsFall_52
    rw [i_add1]
    refine ok_if (fun _ => ih (d + 1) f mem (by omega) (by omega) H) (fun _ => ?_)
    refine t_gR H i (W 0 (by decide)) rfl ?_
    refine t_rc H (i + 5) (W 5 (by decide)) ?_
    obtain ⟨v2, hv2⟩ := w_runGet (xm := xm) (N := N) (x := Int32.ofNat d) (y := 2) H W
    refine ok_eI hv2 ?_
    refine t_gR H i (W 0 (by decide)) rfl ?_
    refine t_gR H i (W 0 (by decide)) rfl ?_
    refine t_rc H (i + 5) (W 5 (by decide)) ?_
    obtain ⟨v3, hv3⟩ := w_runGet (xm := xm) (N := N) (x := Int32.ofNat d) (y := 1) H W
    refine ok_eI hv3 ?_
    refine ok_eI m_min ?_
    refine t_rc H (i + 5) (W 5 (by decide)) ?_
    refine ok_cV (w_runSet H W) fun m2 hh => ?_
    refine ok_mono (ih (d + 1) f m2 (by omega) (by omega) hh.1) ?_
    rintro w ⟨q1, q2, q3⟩
    exact ⟨q1, q2, (hh.2.trans q3).mono (by omega) (by omega)⟩
theorem w_fall (hN : 11 ≤ N) (H : HpT Ts F mem) (W : isWk Ts i a) : dOk (m_Work_letRunsFall xm N a mem) (rV fun m => HpT Ts F m ∧ St xm mem m 0 0) := w_fall2 W 10 0 N mem (by omega) (by omega) H
theorem w_copyFrom (hij : i + 7 ≤ j ∨ j + 7 ≤ i) (H : HpT Ts F mem) (W : isWk Ts j a) (V : isWk Ts i a1) : dOk (m_Work_copyFrom xm N a a1 mem) (rV fun m => HpT Ts F m ∧ St xm mem m 0 0) := by
  unfold m_Work_copyFrom
  refine t_gR H j (W 0 (by decide)) rfl ?_
  refine t_gR H i (V 0 (by decide)) rfl ?_
  refine t_rc H (j + 1) (W 1 (by decide)) ?_
  refine ok_cV (n_copyFrom (i := i + 1) (j := j + 1) (by omega) H (W 1 (by decide)) (W 2 (by decide)) (V 1 (by decide)) (V 2 (by decide))) fun m1 h1 => ?_
  obtain ⟨H1, S1⟩ := h1
  refine t_gR H1 j (W 0 (by decide)) rfl ?_
  refine t_gR H1 i (V 0 (by decide)) rfl ?_
  refine t_rc H1 (j + 3) (W 3 (by decide)) ?_
  refine ok_cV (n_copyFrom (i := i + 3) (j := j + 3) (by omega) H1 (W 3 (by decide)) (W 4 (by decide)) (V 3 (by decide)) (V 4 (by decide))) fun m2 h2 => ?_
  obtain ⟨H2, S2⟩ := h2
  refine t_gR H2 j (W 0 (by decide)) rfl ?_
  refine t_gR H2 i (V 0 (by decide)) rfl ?_
  refine t_rc H2 (j + 5) (W 5 (by decide)) ?_
  refine ok_cV (tb_copyFrom (i := i + 5) (j := j + 5) (n := 36) (f := 4) (mr := 9) (f1 := 4) (mr1 := 9) (by decide) H2 (W 5 (by decide)) (W 6 (by decide)) (V 5 (by decide)) (V 6 (by decide))) fun m3 h3 => ?_
  obtain ⟨H3, S3⟩ := h3
  refine t_gB H3 i (V 0 (by decide)) rfl fun c hc => ?_
  refine t_p H3 j (W 0 (by decide)) rfl rfl ⟨c, hc, rfl⟩ fun m4 H4 S4 => ?_
  refine t_gI H4 i (V 0 (by decide)) rfl fun x1 => ?_
  refine t_p H4 j (W 0 (by decide)) rfl rfl ⟨_, rfl⟩ fun m5 H5 S5 => ?_
  refine t_gI H5 i (V 0 (by decide)) rfl fun x1 => ?_
  refine t_p H5 j (W 0 (by decide)) rfl rfl ⟨_, rfl⟩ fun m6 H6 S6 => ?_
  refine t_gI H6 i (V 0 (by decide)) rfl fun x1 => ?_
  refine t_p H6 j (W 0 (by decide)) rfl rfl ⟨_, rfl⟩ fun m7 H7 S7 => ?_
  refine t_gI H7 i (V 0 (by decide)) rfl fun x1 => ?_
  refine t_p H7 j (W 0 (by decide)) rfl rfl ⟨_, rfl⟩ fun m8 H8 S8 => ?_
  refine t_gI H8 i (V 0 (by decide)) rfl fun x1 => ?_
  refine t_p H8 j (W 0 (by decide)) rfl rfl ⟨_, rfl⟩ fun m9 H9 S9 => ?_
  refine t_gI H9 i (V 0 (by decide)) rfl fun x1 => ?_
  refine t_p H9 j (W 0 (by decide)) rfl rfl ⟨_, rfl⟩ fun m10 H10 S10 => ?_
  exact ok_V ⟨H10, S1.trans (S2.trans (S3.trans (S4.trans (S5.trans (S6.trans (S7.trans (S8.trans (S9.trans S10))))))))⟩
end KZD
