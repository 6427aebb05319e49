/-! ===== the class: all its cells; steps, trials, the history ===== -/
def kW12 : List (Option Nat) := [some 1020, some 1027, some 1034, some 1041, some 1048, some 1055, some 1062, some 1069, some 1076, some 1083, some 1090, some 1097]
abbrev tr (t : fTy) : cTy := cO 9 [fI, fI, fI, fI, t]
/-- the class's cells: nb balls were bought; the loops' cells lie at q, so many -/
def cT (nb q cap : Nat) : kTyL := [(1000, cO 11 [fR 1001, fR 1003, fR 1010, fR 1012, fR 1014, fR 1016, fR 1104, fB 6]), (1001, bT 1002 nb), (1002, cA 4)] ++ (wT 1003 ++ ([(1010, tT 6 19998 q), (q, cA cap), (1012, tT 5 6 1013), (1013, cA 30), (1014, tT 9 6 1015), (1015, cA 54), (1016, cO 6 [fR 1017, fR 1018, fR 1019, fI, fI]), (1017, cQ 3 kW12), (1018, cA 12), (1019, cA 12)] ++ (wT 1020 ++ (wT 1027 ++ (wT 1034 ++ (wT 1041 ++ (wT 1048 ++ (wT 1055 ++ (wT 1062 ++ (wT 1069 ++ (wT 1076 ++ (wT 1083 ++ (wT 1090 ++ (wT 1097 ++ [(1104, tr (fB 99))]))))))))))))))
section KZE
variable {xm : Nat → Option kE} {mem : kM} {Ts : kTyL} {F A : kSg} {S : kO × kM → Prop} {N i j a b a1 b1 c f mr n jo nb q cap : Nat} {x y z : Int32}
theorem HpT.weak {r ci k : Nat} {ts : List fTy} {t t' : fTy} (H : HpT Ts F mem) (j : Nat) (hj : Ts[j]? = some (r, cO ci ts)) (hk : ts[k]? = some t) (hx : ∀ v, t v → t' v) : HpT (Ts.set j (r, cO ci (ts.set k t'))) F mem := by
  obtain ⟨A, hA, h3⟩ := H
  obtain ⟨e, h4, fs, rfl, h5, h6⟩ := hA.2 j r _ hj
  obtain ⟨v, h7, h7'⟩ := h6 k _ hk
  have hkl : k < ts.length := (List.getElem?_eq_some_iff.mp hk).1
  refine ⟨A, ?_, h3⟩
  have h8 := hA.set (t' := cO ci (ts.set k t')) (e := .inl (ci, fs)) hj ⟨fs, rfl, by simp [h5], fun i' t'' hi' => ?_⟩
  · rw [set_self h4] at h8
    exact h8
  · rw [List.getElem?_set] at hi'
    by_cases g : k = i'
    · subst g
      rw [if_pos rfl, if_pos hkl] at hi'
      cases hi'
      exact ⟨_, h7, hx v h7'⟩
    · rw [if_neg g] at hi'
      exact h6 i' t'' hi'
theorem isWk_now : isWk (cT nb q cap) 3 1003 := by
  intro d hd
  match d, hd with
  | 0, _ => rfl
  | 1, _ => rfl
  | 2, _ => rfl
  | 3, _ => rfl
  | 4, _ => rfl
  | 5, _ => rfl
  | 6, _ => rfl
theorem isWk_12 {k : Nat} (hk : k < 12) : isWk (cT nb q cap) (20 + 7 * k) (1020 + 7 * k) := by
  intro d hd
  have all : ∀ k < 12, ∀ d < 7, (cT nb q cap)[20 + 7 * k + d]? = (wT (1020 + 7 * k))[d]? := by
    intro k hk d hd
    match k, hk with
    | 0, _ | 1, _ | 2, _ | 3, _ | 4, _ | 5, _ | 6, _ | 7, _ | 8, _ | 9, _ | 10, _ | 11, _ =>
      match d, hd with
      | 0, _ | 1, _ | 2, _ | 3, _ | 4, _ | 5, _ | 6, _ => rfl
  exact all k hk d hd
theorem kW12_at {k : Nat} (hk : k < 12) : kW12.getD k none = some (1020 + 7 * k) := by
  match k, hk with
  | 0, _ | 1, _ | 2, _ | 3, _ | 4, _ | 5, _ | 6, _ | 7, _ | 8, _ | 9, _ | 10, _ | 11, _ => rfl
theorem sf_ {r : Nat} {xs : List Int32} (hk : kLook xm mem r = some (.inr (.inl (0, xs)))) (hn : xs.length < 2 ^ 31) : ∃ v, m_K_stepFact xm N r x mem = some (.inl (some (.int v)), mem) := by
  have go : dOk (m_K_stepFact xm N r x mem) (fun w => ∃ v, w = (.inl (some (.int v)), mem)) := by
    unfold m_K_stepFact
    refine ok_if (fun _ => ⟨_, rfl, _, rfl⟩) (fun g1 => ?_)
    refine ok_lenI hk (by decide) ?_
    refine ok_if (fun g2 => ?_) (fun _ => ⟨_, rfl, _, rfl⟩)
    exact ok_iL hk (i_guard g1 g2 hn) ⟨_, rfl, _, rfl⟩
  obtain ⟨w, h1, v, rfl⟩ := go
  exact ⟨v, h1⟩
theorem sf (hX : kXok xm) {r : Nat} (hr : r = 3 ∨ r = 4 ∨ r = 5 ∨ r = 6) : ∃ v, m_K_stepFact xm N r x mem = some (.inl (some (.int v)), mem) := by
  obtain ⟨-, -, -, h3, h4, h5, h6⟩ := hX
  have lk : ∀ r e, r < 1000 → xm r = some e → kLook xm mem r = some e := by
    intro r e hr h
    unfold kLook
    rw [if_pos hr]
    exact h
  rcases hr with rfl | rfl | rfl | rfl
  · exact sf_ (lk _ _ (by decide) h3) (by decide)
  · exact sf_ (lk _ _ (by decide) h4) (by decide)
  · exact sf_ (lk _ _ (by decide) h5) (by decide)
  · exact sf_ (lk _ _ (by decide) h6) (by decide)
theorem k_fits (hX : kXok xm) {x1 x2 x3 x4 : Int32} : ∃ v, m_K_fits xm N x1 x2 x3 x4 mem = some (.inl (some (.int v)), mem) := by
  have go : dOk (m_K_fits xm N x1 x2 x3 x4 mem) (fun w => ∃ v, w = (.inl (some (.int v)), mem)) := by
    unfold m_K_fits
    obtain ⟨v5, h5⟩ := sf (N := N) (x := x1) (mem := mem) hX (r := 5) (by decide)
    obtain ⟨v3, h3⟩ := sf (N := N) (x := x1) (mem := mem) hX (r := 3) (by decide)
    obtain ⟨v6, h6⟩ := sf (N := N) (x := x1) (mem := mem) hX (r := 6) (by decide)
    obtain ⟨v4, h4⟩ := sf (N := N) (x := x1) (mem := mem) hX (r := 4) (by decide)
    refine ok_eI h5 (ok_eI h3 (ok_eI h6 ?_))
    refine ok_if (fun _ => ⟨_, rfl, _, rfl⟩) (fun _ => ?_)
    refine ok_if (fun _ => ⟨_, rfl, _, rfl⟩) (fun _ => ?_)
    refine ok_eI h4 ?_
    exact ok_if (fun _ => ⟨_, rfl, _, rfl⟩) (fun _ => ⟨_, rfl, _, rfl⟩)
  obtain ⟨w, h1, v, rfl⟩ := go
  exact ⟨v, h1⟩
theorem tr_start {t : fTy} {x1 x2 x3 : Int32} (H : HpT Ts F mem) (hj : Ts[j]? = some (a, tr t)) : dOk (m_Trial_start xm N a x1 x2 x3 mem) (rV fun m => HpT (Ts.set j (a, tr (fB 0))) F m ∧ St xm mem m 0 0) := by
  unfold m_Trial_start
  refine t_p H j hj rfl rfl ⟨_, rfl⟩ fun m1 H1 S1 => ?_
  refine t_p H1 j hj rfl rfl ⟨_, rfl⟩ fun m2 H2 S2 => ?_
  refine t_p H2 j hj rfl rfl ⟨_, rfl⟩ fun m3 H3 S3 => ?_
  refine t_p H3 j hj rfl rfl ⟨_, rfl⟩ fun m4 H4 S4 => ?_
  refine t_pT (t' := fB 0) H4 j hj rfl rfl ⟨0, Nat.le_refl _, rfl⟩ fun m5 H5 S5 => ?_
  exact ok_V ⟨H5, S1.trans (S2.trans (S3.trans (S4.trans S5)))⟩
theorem tr_step (hX : kXok xm) {d : Nat} (H : HpT Ts F mem) (hj : Ts[j]? = some (a, tr (fB d))) : dOk (m_Trial_takesStep xm N a x mem) (rI fun _ m => HpT (Ts.set j (a, tr (fB (d + 1)))) F m ∧ St xm mem m 0 0) := by
  have up : ∀ m, HpT Ts F m → HpT (Ts.set j (a, tr (fB (d + 1)))) F m := fun m h => h.weak (k := 4) (t' := fB (d + 1)) j hj rfl (by rintro v ⟨i, h1, h2⟩; exact ⟨i, by omega, h2⟩)
  unfold m_Trial_takesStep
  refine t_gI H j hj rfl fun v1 => ?_
  refine ok_if (fun _ => ok_I ⟨up _ H, St.refl⟩) (fun _ => ?_)
  refine t_gI H j hj rfl fun v2 => ?_
  refine t_gI H j hj rfl fun v3 => ?_
  refine t_gI H j hj rfl fun v4 => ?_
  obtain ⟨w, hw⟩ := k_fits (N := N) (mem := mem) hX (x1 := x) (x2 := v2) (x3 := v3) (x4 := v4)
  refine ok_eI hw ?_
  refine ok_if (fun _ => ok_I ⟨up _ H, St.refl⟩) (fun _ => ?_)
  obtain ⟨u3, h3⟩ := sf (N := N) (x := x) (mem := mem) hX (r := 3) (by decide)
  obtain ⟨u4, h4⟩ := sf (N := N) (x := x) (mem := mem) hX (r := 4) (by decide)
  refine ok_eI h3 (ok_eI h4 ?_)
  refine t_gI H j hj rfl fun v5 => ?_
  refine t_p H j hj rfl rfl ⟨_, rfl⟩ fun m1 H1 S1 => ?_
  refine t_gI H1 j hj rfl fun v6 => ?_
  obtain ⟨u5, h5⟩ := sf (N := N) (x := x) (mem := m1) hX (r := 5) (by decide)
  refine ok_eI h5 ?_
  refine t_p H1 j hj rfl rfl ⟨_, rfl⟩ fun m2 H2 S2 => ?_
  refine t_gI H2 j hj rfl fun v7 => ?_
  refine t_p H2 j hj rfl rfl ⟨_, rfl⟩ fun m3 H3 S3 => ?_
  refine t_gI H3 j hj rfl fun v8 => ?_
  refine t_p H3 j hj rfl rfl ⟨_, rfl⟩ fun m4 H4 S4 => ?_
  refine t_gB H4 j hj rfl fun i hi => ?_
  refine t_pT (t' := fB (d + 1)) H4 j hj rfl rfl ⟨i + 1, by omega, by rw [i_add1]⟩ fun m5 H5 S5 => ?_
  exact ok_I ⟨H5, S1.trans (S2.trans (S3.trans (S4.trans S5)))⟩
theorem h_isSlot (H : HpT (cT nb q cap) F mem) : ∃ v, (v ≠ 0 → kInB x 12 = true) ∧ m_History_isSlot xm N 1016 x mem = some (.inl (some (.int v)), mem) := by
  have go : dOk (m_History_isSlot xm N 1016 x mem) (fun w => ∃ v, (v ≠ 0 → kInB x 12 = true) ∧ w = (.inl (some (.int v)), mem)) := by
    have no : dOk (some (.inl (some (.int 0)), mem)) (fun w => ∃ v, (v ≠ 0 → kInB x 12 = true) ∧ w = (.inl (some (.int v)), mem)) := ⟨_, rfl, 0, fun h => absurd rfl h, rfl⟩
    unfold m_History_isSlot
    refine ok_if (fun _ => no) (fun g1 => ?_)
    refine t_gR H 16 rfl rfl ?_
    refine t_lenQ H 17 rfl (by decide) ?_
    refine ok_if (fun g2 => ?_) (fun _ => no)
    refine t_gR H 16 rfl rfl ?_
    refine t_len H 18 rfl ?_
    refine ok_if (fun _ => ?_) (fun _ => no)
    refine t_gR H 16 rfl rfl ?_
    refine t_len H 19 rfl ?_
    refine ok_if (fun _ => ?_) (fun _ => no)
    exact ⟨_, rfl, 1, fun _ => i_guard g1 g2 (by decide), rfl⟩
  obtain ⟨w, h1, v, h2, rfl⟩ := go
  exact ⟨v, h2, h1⟩
end KZE
