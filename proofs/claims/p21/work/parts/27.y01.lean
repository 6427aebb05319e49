set_option maxRecDepth 20000
/-- Knitstead$Trial.takesStep(I)Z -/
def m_Trial_takesStep (xm : Nat → Option kE) (N : Nat) (a0 : Nat) (a1 : Int32) (mem : kM) : dRes :=
  dGI xm mem a0 9 0 fun v1 =>
  if v1 < 1 then (
    some (.inl (some (.int 0)), mem)
  ) else (
    dGI xm mem a0 9 0 fun v10 =>
    dGI xm mem a0 9 1 fun v14 =>
    dGI xm mem a0 9 2 fun v18 =>
    dCI (m_K_fits xm N a1 v10 v14 v18 mem) fun v21 m21 =>
    if v21 = 0 then (
      some (.inl (some (.int 0)), m21)
    ) else (
      dCI (m_K_stepFact xm N 3 a1 m21) fun v33 m33 =>
      dCI (m_K_stepFact xm N 4 a1 m33) fun v41 m41 =>
      dGI xm m41 a0 9 0 fun v47 =>
      dP xm m41 a0 9 0 (.int (v47 - v33)) fun m52 =>
      dGI xm m52 a0 9 1 fun v57 =>
      dCI (m_K_stepFact xm N 5 a1 m52) fun v64 m64 =>
      dP xm m64 a0 9 1 (.int (v57 + (v64 - v33))) fun m70 =>
      dGI xm m70 a0 9 2 fun v75 =>
      dP xm m70 a0 9 2 (.int (v75 - v41)) fun m80 =>
      dGI xm m80 a0 9 3 fun v85 =>
      dP xm m80 a0 9 3 (.int (v85 + v41)) fun m90 =>
      dGI xm m90 a0 9 4 fun v95 =>
      dP xm m90 a0 9 4 (.int (v95 + 1)) fun m100 =>
      some (.inl (some (.int 1)), m100)
    )
  )
theorem m_Trial_takesStep_ok (xm : Nat → Option kE) (N : Nat) {a0 : Nat} {a1 : Int32} {mem : kM} {R : kO × kM} (h : m_Trial_takesStep xm N a0 a1 mem = some R) : kCa xm kSm kDfl kFty kG 3 30 [.ref a0, .int a1] mem (dEq R) := by
  refine wq_ca (show 2 ≤ 4 by decide) ?_
  change kGo xm kSm kDfl kFty kG 2 30 0 [(0, .ref a0), (1, .int a1)] [] mem (dEq R)
  unfold m_Trial_takesStep at h
  refine wp_run 1 (pc' := 1) (lv' := [(0, .ref a0), (1, .int a1)]) (st' := [.ref a0]) (mem' := mem) rfl ?_
  refine wq_gI rfl h (fun v1 h => ?_)
  refine wp_run 1 (pc' := 5) (lv' := [(0, .ref a0), (1, .int a1)]) (st' := [.int 1, .int v1]) (mem' := mem) rfl ?_
  refine wq_lt2 rfl h (fun h => ?_) (fun h => ?_)
  · refine wp_run 1 (pc' := 28) (lv' := [(0, .ref a0), (1, .int a1)]) (st' := [.int 0]) (mem' := mem) rfl ?_
    exact wq_ret rfl rfl h
  · refine wp_run 2 (pc' := 10) (lv' := [(0, .ref a0), (1, .int a1)]) (st' := [.ref a0, .int a1]) (mem' := mem) rfl ?_
    refine wq_gI rfl h (fun v10 h => ?_)
    refine wp_run 1 (pc' := 14) (lv' := [(0, .ref a0), (1, .int a1)]) (st' := [.ref a0, .int v10, .int a1]) (mem' := mem) rfl ?_
    refine wq_gI rfl h (fun v14 h => ?_)
    refine wp_run 1 (pc' := 18) (lv' := [(0, .ref a0), (1, .int a1)]) (st' := [.ref a0, .int v14, .int v10, .int a1]) (mem' := mem) rfl ?_
    refine wq_gI rfl h (fun v18 h => ?_)
    refine wq_cI rfl (kCall_s (as := [.int a1, .int v10, .int v14, .int v18]) (rest := []) ⟨by decide, rfl⟩ (show 0 ≤ 8 by decide) (by decide)) h (fun r hr => ca_up (by decide) (m_K_fits_ok xm N hr)) (fun v21 m21 h => ?_)
    refine wq_ne rfl h (fun h => ?_) (fun h => ?_)
    · refine wp_run 1 (pc' := 28) (lv' := [(0, .ref a0), (1, .int a1)]) (st' := [.int 0]) (mem' := m21) rfl ?_
      exact wq_ret rfl rfl h
    · refine wp_run 2 (pc' := 33) (lv' := [(0, .ref a0), (1, .int a1)]) (st' := [.int a1, .ref 3]) (mem' := m21) rfl ?_
      refine wq_cI rfl (kCall_s (as := [.ref 3, .int a1]) (rest := []) ⟨by decide, rfl⟩ (show 0 ≤ 8 by decide) (by decide)) h (fun r hr => ca_up (by decide) (m_K_stepFact_ok xm N hr)) (fun v33 m33 h => ?_)
      refine wp_run 3 (pc' := 41) (lv' := [(2, .int v33), (0, .ref a0), (1, .int a1)]) (st' := [.int a1, .ref 4]) (mem' := m33) rfl ?_
      refine wq_cI rfl (kCall_s (as := [.ref 4, .int a1]) (rest := []) ⟨by decide, rfl⟩ (show 0 ≤ 8 by decide) (by decide)) h (fun r hr => ca_up (by decide) (m_K_stepFact_ok xm N hr)) (fun v41 m41 h => ?_)
      refine wp_run 3 (pc' := 47) (lv' := [(3, .int v41), (2, .int v33), (0, .ref a0), (1, .int a1)]) (st' := [.ref a0, .ref a0]) (mem' := m41) rfl ?_
      refine wq_gI rfl h (fun v47 h => ?_)
      refine wp_run 2 (pc' := 52) (lv' := [(3, .int v41), (2, .int v33), (0, .ref a0), (1, .int a1)]) (st' := [.int (v47 - v33), .ref a0]) (mem' := m41) rfl ?_
      refine wq_p rfl rfl h (fun m52 h => ?_)
      refine wp_run 2 (pc' := 57) (lv' := [(3, .int v41), (2, .int v33), (0, .ref a0), (1, .int a1)]) (st' := [.ref a0, .ref a0]) (mem' := m52) rfl ?_
      refine wq_gI rfl h (fun v57 h => ?_)
      refine wp_run 2 (pc' := 64) (lv' := [(3, .int v41), (2, .int v33), (0, .ref a0), (1, .int a1)]) (st' := [.int a1, .ref 5, .int v57, .ref a0]) (mem' := m52) rfl ?_
      refine wq_cI rfl (kCall_s (as := [.ref 5, .int a1]) (rest := [.int v57, .ref a0]) ⟨by decide, rfl⟩ (show 2 ≤ 8 by decide) (by decide)) h (fun r hr => ca_up (by decide) (m_K_stepFact_ok xm N hr)) (fun v64 m64 h => ?_)
      refine wp_run 3 (pc' := 70) (lv' := [(3, .int v41), (2, .int v33), (0, .ref a0), (1, .int a1)]) (st' := [.int (v57 + (v64 - v33)), .ref a0]) (mem' := m64) rfl ?_
      refine wq_p rfl rfl h (fun m70 h => ?_)
      refine wp_run 2 (pc' := 75) (lv' := [(3, .int v41), (2, .int v33), (0, .ref a0), (1, .int a1)]) (st' := [.ref a0, .ref a0]) (mem' := m70) rfl ?_
      refine wq_gI rfl h (fun v75 h => ?_)
      refine wp_run 2 (pc' := 80) (lv' := [(3, .int v41), (2, .int v33), (0, .ref a0), (1, .int a1)]) (st' := [.int (v75 - v41), .ref a0]) (mem' := m70) rfl ?_
      refine wq_p rfl rfl h (fun m80 h => ?_)
      refine wp_run 2 (pc' := 85) (lv' := [(3, .int v41), (2, .int v33), (0, .ref a0), (1, .int a1)]) (st' := [.ref a0, .ref a0]) (mem' := m80) rfl ?_
      refine wq_gI rfl h (fun v85 h => ?_)
      refine wp_run 2 (pc' := 90) (lv' := [(3, .int v41), (2, .int v33), (0, .ref a0), (1, .int a1)]) (st' := [.int (v85 + v41), .ref a0]) (mem' := m80) rfl ?_
      refine wq_p rfl rfl h (fun m90 h => ?_)
      refine wp_run 2 (pc' := 95) (lv' := [(3, .int v41), (2, .int v33), (0, .ref a0), (1, .int a1)]) (st' := [.ref a0, .ref a0]) (mem' := m90) rfl ?_
      refine wq_gI rfl h (fun v95 h => ?_)
      refine wp_run 2 (pc' := 100) (lv' := [(3, .int v41), (2, .int v33), (0, .ref a0), (1, .int a1)]) (st' := [.int (v95 + 1), .ref a0]) (mem' := m90) rfl ?_
      refine wq_p rfl rfl h (fun m100 h => ?_)
      refine wp_run 1 (pc' := 104) (lv' := [(3, .int v41), (2, .int v33), (0, .ref a0), (1, .int a1)]) (st' := [.int 1]) (mem' := m100) rfl ?_
      exact wq_ret rfl rfl h
/-- Knitstead$Work.onBoth()I -/
def m_Work_onBoth (xm : Nat → Option kE) (N : Nat) (a0 : Nat) (mem : kM) : dRes :=
  dGR xm mem a0 10 0 fun v1 =>
  dGI xm mem v1 7 1 fun v4 =>
  dGR xm mem a0 10 1 fun v8 =>
  dGI xm mem v8 7 1 fun v11 =>
  some (.inl (some (.int (v4 + v11))), mem)
theorem m_Work_onBoth_ok (xm : Nat → Option kE) (N : Nat) {a0 : Nat} {mem : kM} {R : kO × kM} (h : m_Work_onBoth xm N a0 mem = some R) : kCa xm kSm kDfl kFty kG 1 32 [.ref a0] mem (dEq R) := by
  refine wq_ca (show 1 ≤ 1 by decide) ?_
  change kGo xm kSm kDfl kFty kG 0 32 0 [(0, .ref a0)] [] mem (dEq R)
  unfold m_Work_onBoth at h
  refine wp_run 1 (pc' := 1) (lv' := [(0, .ref a0)]) (st' := [.ref a0]) (mem' := mem) rfl ?_
  refine wq_gR rfl h (fun v1 h => ?_)
  refine wq_gI rfl h (fun v4 h => ?_)
  refine wp_run 1 (pc' := 8) (lv' := [(0, .ref a0)]) (st' := [.ref a0, .int v4]) (mem' := mem) rfl ?_
  refine wq_gR rfl h (fun v8 h => ?_)
  refine wq_gI rfl h (fun v11 h => ?_)
  refine wp_run 1 (pc' := 15) (lv' := [(0, .ref a0)]) (st' := [.int (v4 + v11)]) (mem' := mem) rfl ?_
  exact wq_ret rfl rfl h
/-- Knitstead.stepAt(II)I -/
def m_K_stepAt (xm : Nat → Option kE) (N : Nat) (a0 : Nat) (a1 : Int32) (a2 : Int32) (mem : kM) : dRes :=
  dGR xm mem a0 11 3 fun v1 =>
  dRc xm mem v1 8 <|
  dCI (m_Table_get xm N v1 a1 1 mem) fun v6 m6 =>
  if v6 < 1 then (
    some (.inl (some (.int 0)), m6)
  ) else (
    dGR xm m6 a0 11 4 fun v20 =>
    dNz v6 <|
    dRc xm m6 v20 8 <|
    dCI (m_Table_get xm N v20 a1 (a2 - a2 / v6 * v6) m6) fun v27 m27 =>
    some (.inl (some (.int v27)), m27)
  )
theorem m_K_stepAt_ok (xm : Nat → Option kE) (N : Nat) {a0 : Nat} {a1 : Int32} {a2 : Int32} {mem : kM} {R : kO × kM} (h : m_K_stepAt xm N a0 a1 a2 mem = some R) : kCa xm kSm kDfl kFty kG 3 85 [.ref a0, .int a1, .int a2] mem (dEq R) := by
  refine wq_ca (show 3 ≤ 4 by decide) ?_
  change kGo xm kSm kDfl kFty kG 2 85 0 [(0, .ref a0), (1, .int a1), (2, .int a2)] [] mem (dEq R)
  unfold m_K_stepAt at h
  refine wp_run 1 (pc' := 1) (lv' := [(0, .ref a0), (1, .int a1), (2, .int a2)]) (st' := [.ref a0]) (mem' := mem) rfl ?_
  refine wq_gR rfl h (fun v1 h => ?_)
  refine wp_run 2 (pc' := 6) (lv' := [(0, .ref a0), (1, .int a1), (2, .int a2)]) (st' := [.int 1, .int a1, .ref v1]) (mem' := mem) rfl ?_
  obtain ⟨fk6, hk6, h⟩ := dRc_some h
  refine wq_cI rfl (kCall_v hk6 (as := [.int a1, .int 1]) (rest := []) ⟨by decide, rfl, (show 2 < 90 by decide), by decide⟩ (show 0 ≤ 8 by decide)) h (fun r hr => ca_up (by decide) (m_Table_get_ok xm N hr)) (fun v6 m6 h => ?_)
  refine wp_run 3 (pc' := 12) (lv' := [(3, .int v6), (0, .ref a0), (1, .int a1), (2, .int a2)]) (st' := [.int 1, .int v6]) (mem' := m6) rfl ?_
  refine wq_ge2 rfl h (fun h => ?_) (fun h => ?_)
  · refine wp_run 2 (pc' := 30) (lv' := [(3, .int v6), (0, .ref a0), (1, .int a1), (2, .int a2)]) (st' := [.int 0]) (mem' := m6) rfl ?_
    exact wq_ret rfl rfl h
  · refine wp_run 1 (pc' := 20) (lv' := [(3, .int v6), (0, .ref a0), (1, .int a1), (2, .int a2)]) (st' := [.ref a0]) (mem' := m6) rfl ?_
    refine wq_gR rfl h (fun v20 h => ?_)
    refine wp_run 3 (pc' := 26) (lv' := [(3, .int v6), (0, .ref a0), (1, .int a1), (2, .int a2)]) (st' := [.int v6, .int a2, .int a1, .ref v20]) (mem' := m6) rfl ?_
    refine wq_irem rfl h (fun h => ?_)
    obtain ⟨fk27, hk27, h⟩ := dRc_some h
    refine wq_cI rfl (kCall_v hk27 (as := [.int a1, .int (a2 - a2 / v6 * v6)]) (rest := []) ⟨by decide, rfl, (show 2 < 90 by decide), by decide⟩ (show 0 ≤ 8 by decide)) h (fun r hr => ca_up (by decide) (m_Table_get_ok xm N hr)) (fun v27 m27 h => ?_)
    exact wq_ret rfl rfl h
/-- Knitstead.tryOut(I)V -/
def m_K_tryOut_33 (xm : Nat → Option kE) (N : Nat) : Nat → Nat → Int32 → Int32 → kM → dRes
  | 0, _, _, _, _ => none
  | n + 1, a0, a1, a2, mem =>
    if a2 < 99 then (
      dGR xm mem a0 11 6 fun v40 =>
      dRc xm mem a0 11 <|
      dCI (m_K_stepAt xm N a0 a1 a2 mem) fun v46 m46 =>
      dRc xm m46 v40 9 <|
      dCI (m_Trial_takesStep xm N v40 v46 m46) fun v49 m49 =>
      if v49 = 0 then (
        some (.inl none, m49)
      ) else (
        m_K_tryOut_33 xm N n a0 a1 (a2 + 1) m49
      )
    ) else (
      some (.inl none, mem)
    )
theorem m_K_tryOut_33_ok (xm : Nat → Option kE) (N : Nat) : ∀ (n : Nat) (a0 : Nat) (a1 : Int32) (a2 : Int32) (mem : kM) (R : kO × kM), m_K_tryOut_33 xm N n a0 a1 a2 mem = some R → kGo xm kSm kDfl kFty kG 3 86 33 [(0, .ref a0), (1, .int a1), (2, .int a2)] [] mem (dEq R) := by
  intro n
  induction n with
  | zero => intro a0 a1 a2 mem R h; cases h
  | succ n ih =>
    intro a0 a1 a2 mem R h
    rw [m_K_tryOut_33] at h
    refine wp_run 2 (pc' := 36) (lv' := [(0, .ref a0), (1, .int a1), (2, .int a2)]) (st' := [.int 99, .int a2]) (mem' := mem) rfl ?_
    refine wq_ge2 rfl h (fun h => ?_) (fun h => ?_)
    · refine wp_run 1 (pc' := 40) (lv' := [(0, .ref a0), (1, .int a1), (2, .int a2)]) (st' := [.ref a0]) (mem' := mem) rfl ?_
      refine wq_gR rfl h (fun v40 h => ?_)
      refine wp_run 3 (pc' := 46) (lv' := [(0, .ref a0), (1, .int a1), (2, .int a2)]) (st' := [.int a2, .int a1, .ref a0, .ref v40]) (mem' := mem) rfl ?_
      obtain ⟨fk46, hk46, h⟩ := dRc_some h
      refine wq_cI rfl (kCall_v hk46 (as := [.int a1, .int a2]) (rest := [.ref v40]) ⟨by decide, rfl, (show 2 < 90 by decide), by decide⟩ (show 1 ≤ 8 by decide)) h (fun r hr => ca_up (by decide) (m_K_stepAt_ok xm N hr)) (fun v46 m46 h => ?_)
      obtain ⟨fk49, hk49, h⟩ := dRc_some h
      refine wq_cI rfl (kCall_v hk49 (as := [.int v46]) (rest := []) ⟨by decide, rfl, (show 1 < 90 by decide), by decide⟩ (show 0 ≤ 8 by decide)) h (fun r hr => ca_up (by decide) (m_Trial_takesStep_ok xm N hr)) (fun v49 m49 h => ?_)
      refine wq_ne rfl h (fun h => ?_) (fun h => ?_)
      · refine wp_run 1 (pc' := 64) (lv' := [(0, .ref a0), (1, .int a1), (2, .int a2)]) (st' := []) (mem' := m49) rfl ?_
        exact wq_end rfl rfl h
      · refine wp_run 2 (pc' := 33) (lv' := [(2, .int (a2 + 1)), (0, .ref a0), (1, .int a1)]) (st' := []) (mem' := m49) rfl ?_
        refine kGo_sub (lvS_of [1, 2, 0] rfl [2, 0, 1] rfl (by decide)) ?_
        exact ih _ _ _ m49 R h
    · exact wq_end rfl rfl h
def m_K_tryOut (xm : Nat → Option kE) (N : Nat) (a0 : Nat) (a1 : Int32) (mem : kM) : dRes :=
  dGR xm mem a0 11 6 fun v1 =>
  dGR xm mem a0 11 1 fun v5 =>
  dGR xm mem v5 10 0 fun v8 =>
  dGI xm mem v8 7 1 fun v11 =>
  dGR xm mem a0 11 1 fun v15 =>
  dRc xm mem v15 10 <|
  dCI (m_Work_onBoth xm N v15 mem) fun v18 m18 =>
  dGR xm m18 a0 11 0 fun v22 =>
  dRc xm m18 v22 5 <|
  dCI (m_Balls_ofJoined xm N v22 m18) fun v25 m25 =>
  dRc xm m25 v1 9 <|
  dCV (m_Trial_start xm N v1 v11 v18 v25 m25) fun m28 =>
  m_K_tryOut_33 xm N N a0 a1 0 m28
theorem m_K_tryOut_ok (xm : Nat → Option kE) (N : Nat) {a0 : Nat} {a1 : Int32} {mem : kM} {R : kO × kM} (h : m_K_tryOut xm N a0 a1 mem = some R) : kCa xm kSm kDfl kFty kG 4 86 [.ref a0, .int a1] mem (dEq R) := by
  refine wq_ca (show 2 ≤ 3 by decide) ?_
  change kGo xm kSm kDfl kFty kG 3 86 0 [(0, .ref a0), (1, .int a1)] [] mem (dEq R)
  unfold m_K_tryOut at h
  refine wp_run 1 (pc' := 1) (lv' := [(0, .ref a0), (1, .int a1)]) (st' := [.ref a0]) (mem' := mem) rfl ?_
  refine wq_gR rfl h (fun v1 h => ?_)
  refine wp_run 1 (pc' := 5) (lv' := [(0, .ref a0), (1, .int a1)]) (st' := [.ref a0, .ref v1]) (mem' := mem) rfl ?_
  refine wq_gR rfl h (fun v5 h => ?_)
  refine wq_gR rfl h (fun v8 h => ?_)
  refine wq_gI rfl h (fun v11 h => ?_)
  refine wp_run 1 (pc' := 15) (lv' := [(0, .ref a0), (1, .int a1)]) (st' := [.ref a0, .int v11, .ref v1]) (mem' := mem) rfl ?_
  refine wq_gR rfl h (fun v15 h => ?_)
  obtain ⟨fk18, hk18, h⟩ := dRc_some h
  refine wq_cI rfl (kCall_v hk18 (as := []) (rest := [.int v11, .ref v1]) ⟨by decide, rfl, (show 0 < 90 by decide), by decide⟩ (show 2 ≤ 8 by decide)) h (fun r hr => ca_up (by decide) (m_Work_onBoth_ok xm N hr)) (fun v18 m18 h => ?_)
  refine wp_run 1 (pc' := 22) (lv' := [(0, .ref a0), (1, .int a1)]) (st' := [.ref a0, .int v18, .int v11, .ref v1]) (mem' := m18) rfl ?_
  refine wq_gR rfl h (fun v22 h => ?_)
  obtain ⟨fk25, hk25, h⟩ := dRc_some h
  refine wq_cI rfl (kCall_v hk25 (as := []) (rest := [.int v18, .int v11, .ref v1]) ⟨by decide, rfl, (show 0 < 90 by decide), by decide⟩ (show 3 ≤ 8 by decide)) h (fun r hr => ca_up (by decide) (m_Balls_ofJoined_ok xm N hr)) (fun v25 m25 h => ?_)
  obtain ⟨fk28, hk28, h⟩ := dRc_some h
  refine wq_cV rfl (kCall_v hk28 (as := [.int v11, .int v18, .int v25]) (rest := []) ⟨by decide, rfl, (show 3 < 90 by decide), by decide⟩ (show 0 ≤ 8 by decide)) h (fun r hr => ca_up (by decide) (m_Trial_start_ok xm N hr)) (fun m28 h => ?_)
  refine wp_run 2 (pc' := 33) (lv' := [(2, .int 0), (0, .ref a0), (1, .int a1)]) (st' := []) (mem' := m28) rfl ?_
  refine kGo_sub (lvS_of [1, 2, 0] rfl [2, 0, 1] rfl (by decide)) ?_
  exact m_K_tryOut_33_ok xm N N _ _ _ m28 R h
/-- Knitstead.endsWhole(I)Z -/
def m_K_endsWhole (xm : Nat → Option kE) (N : Nat) (a0 : Nat) (a1 : Int32) (mem : kM) : dRes :=
  dGR xm mem a0 11 3 fun v1 =>
  dRc xm mem v1 8 <|
  dCI (m_Table_get xm N v1 a1 1 mem) fun v6 m6 =>
  if 0 < v6 then (
    dGR xm m6 a0 11 6 fun v15 =>
    dGI xm m6 v15 9 0 fun v18 =>
    if v18 = 0 then (
      dGR xm m6 a0 11 6 fun v25 =>
      dGI xm m6 v25 9 4 fun v28 =>
      dNz v6 <|
      if (v28 - v28 / v6 * v6) = 0 then (
        some (.inl (some (.int 1)), m6)
      ) else (
        some (.inl (some (.int 0)), m6)
      )
    ) else (
      some (.inl (some (.int 0)), m6)
    )
  ) else (
    some (.inl (some (.int 0)), m6)
  )
theorem m_K_endsWhole_ok (xm : Nat → Option kE) (N : Nat) {a0 : Nat} {a1 : Int32} {mem : kM} {R : kO × kM} (h : m_K_endsWhole xm N a0 a1 mem = some R) : kCa xm kSm kDfl kFty kG 3 87 [.ref a0, .int a1] mem (dEq R) := by
  refine wq_ca (show 2 ≤ 3 by decide) ?_
  change kGo xm kSm kDfl kFty kG 2 87 0 [(0, .ref a0), (1, .int a1)] [] mem (dEq R)
  unfold m_K_endsWhole at h
  refine wp_run 1 (pc' := 1) (lv' := [(0, .ref a0), (1, .int a1)]) (st' := [.ref a0]) (mem' := mem) rfl ?_
  refine wq_gR rfl h (fun v1 h => ?_)
  refine wp_run 2 (pc' := 6) (lv' := [(0, .ref a0), (1, .int a1)]) (st' := [.int 1, .int a1, .ref v1]) (mem' := mem) rfl ?_
  obtain ⟨fk6, hk6, h⟩ := dRc_some h
  refine wq_cI rfl (kCall_v hk6 (as := [.int a1, .int 1]) (rest := []) ⟨by decide, rfl, (show 2 < 90 by decide), by decide⟩ (show 0 ≤ 8 by decide)) h (fun r hr => ca_up (by decide) (m_Table_get_ok xm N hr)) (fun v6 m6 h => ?_)
  refine wp_run 2 (pc' := 11) (lv' := [(2, .int v6), (0, .ref a0), (1, .int a1)]) (st' := [.int v6]) (mem' := m6) rfl ?_
  refine wq_le rfl h (fun h => ?_) (fun h => ?_)
  · refine wp_run 1 (pc' := 15) (lv' := [(2, .int v6), (0, .ref a0), (1, .int a1)]) (st' := [.ref a0]) (mem' := m6) rfl ?_
    refine wq_gR rfl h (fun v15 h => ?_)
    refine wq_gI rfl h (fun v18 h => ?_)
    refine wq_ne rfl h (fun h => ?_) (fun h => ?_)
    · refine wp_run 1 (pc' := 25) (lv' := [(2, .int v6), (0, .ref a0), (1, .int a1)]) (st' := [.ref a0]) (mem' := m6) rfl ?_
      refine wq_gR rfl h (fun v25 h => ?_)
      refine wq_gI rfl h (fun v28 h => ?_)
      refine wp_run 1 (pc' := 32) (lv' := [(2, .int v6), (0, .ref a0), (1, .int a1)]) (st' := [.int v6, .int v28]) (mem' := m6) rfl ?_
      refine wq_irem rfl h (fun h => ?_)
      refine wq_ne rfl h (fun h => ?_) (fun h => ?_)
      · refine wp_run 2 (pc' := 41) (lv' := [(2, .int v6), (0, .ref a0), (1, .int a1)]) (st' := [.int 1]) (mem' := m6) rfl ?_
        exact wq_ret rfl rfl h
      · refine wp_run 1 (pc' := 41) (lv' := [(2, .int v6), (0, .ref a0), (1, .int a1)]) (st' := [.int 0]) (mem' := m6) rfl ?_
        exact wq_ret rfl rfl h
    · refine wp_run 1 (pc' := 41) (lv' := [(2, .int v6), (0, .ref a0), (1, .int a1)]) (st' := [.int 0]) (mem' := m6) rfl ?_
      exact wq_ret rfl rfl h
  · refine wp_run 1 (pc' := 41) (lv' := [(2, .int v6), (0, .ref a0), (1, .int a1)]) (st' := [.int 0]) (mem' := m6) rfl ?_
    exact wq_ret rfl rfl h
/-- Knitstead.bestPattern()I -/
def m_K_bestPattern_69 (xm : Nat → Option kE) (N : Nat) (K22 : Nat → Int32 → Int32 → Int32 → kM → dRes) (a0 : Nat) (a1 : Int32) (a2 : Int32) (a3 : Int32) (mem : kM) : dRes :=
  K22 a0 a1 a2 (a3 + 1) mem
theorem m_K_bestPattern_69_ok (xm : Nat → Option kE) (N : Nat) (K22 : Nat → Int32 → Int32 → Int32 → kM → dRes) (hK22 : ∀ (a0 : Nat) (a1 : Int32) (a2 : Int32) (a3 : Int32) (mem : kM) (R : kO × kM), K22 a0 a1 a2 a3 mem = some R → kGo xm kSm kDfl kFty kG 4 88 22 [(0, .ref a0), (1, .int a1), (2, .int a2), (3, .int a3)] [] mem (dEq R)) : ∀ (a0 : Nat) (a1 : Int32) (a2 : Int32) (a3 : Int32) (mem : kM) (R : kO × kM), m_K_bestPattern_69 xm N K22 a0 a1 a2 a3 mem = some R → kGo xm kSm kDfl kFty kG 4 88 69 [(0, .ref a0), (1, .int a1), (2, .int a2), (3, .int a3)] [] mem (dEq R) := by
  intro a0 a1 a2 a3 mem R h
  unfold m_K_bestPattern_69 at h
  refine wp_run 2 (pc' := 22) (lv' := [(3, .int (a3 + 1)), (0, .ref a0), (1, .int a1), (2, .int a2)]) (st' := []) (mem' := mem) rfl ?_
  refine kGo_sub (lvS_of [1, 2, 3, 0] rfl [3, 0, 1, 2] rfl (by decide)) ?_
  exact hK22 _ _ _ _ mem R h
def m_K_bestPattern_59 (xm : Nat → Option kE) (N : Nat) (K22 : Nat → Int32 → Int32 → Int32 → kM → dRes) (a0 : Nat) (a3 : Int32) (mem : kM) : dRes :=
  dGR xm mem a0 11 6 fun v62 =>
  dGI xm mem v62 9 3 fun v65 =>
  m_K_bestPattern_69 xm N K22 a0 a3 v65 a3 mem
theorem m_K_bestPattern_59_ok (xm : Nat → Option kE) (N : Nat) (K22 : Nat → Int32 → Int32 → Int32 → kM → dRes) (hK22 : ∀ (a0 : Nat) (a1 : Int32) (a2 : Int32) (a3 : Int32) (mem : kM) (R : kO × kM), K22 a0 a1 a2 a3 mem = some R → kGo xm kSm kDfl kFty kG 4 88 22 [(0, .ref a0), (1, .int a1), (2, .int a2), (3, .int a3)] [] mem (dEq R)) : ∀ (a0 : Nat) (a3 : Int32) (mem : kM) (R : kO × kM), m_K_bestPattern_59 xm N K22 a0 a3 mem = some R → kGo xm kSm kDfl kFty kG 4 88 59 [(0, .ref a0), (3, .int a3)] [] mem (dEq R) := by
  intro a0 a3 mem R h
  unfold m_K_bestPattern_59 at h
  refine wp_run 3 (pc' := 62) (lv' := [(1, .int a3), (0, .ref a0), (3, .int a3)]) (st' := [.ref a0]) (mem' := mem) rfl ?_
  refine wq_gR rfl h (fun v62 h => ?_)
  refine wq_gI rfl h (fun v65 h => ?_)
  refine wp_run 1 (pc' := 69) (lv' := [(2, .int v65), (1, .int a3), (0, .ref a0), (3, .int a3)]) (st' := []) (mem' := mem) rfl ?_
  refine kGo_sub (lvS_of [2, 1, 0, 3] rfl [2, 1, 0, 3] rfl (by decide)) ?_
  exact m_K_bestPattern_69_ok xm N _ hK22 _ _ _ _ mem R h
def m_K_bestPattern_22 (xm : Nat → Option kE) (N : Nat) : Nat → Nat → Int32 → Int32 → Int32 → kM → dRes
  | 0, _, _, _, _, _ => none
  | n + 1, a0, a1, a2, a3, mem =>
    dGI xm mem a0 11 7 fun v24 =>
    if a3 < v24 then (
      dRc xm mem a0 11 <|
      dCV (m_K_tryOut xm N a0 a3 mem) fun m32 =>
      dRc xm m32 a0 11 <|
      dCI (m_K_endsWhole xm N a0 a3 m32) fun v37 m37 =>
      if v37 = 0 then (
        m_K_bestPattern_69 xm N (fun a0 a1 a2 a3 mem => m_K_bestPattern_22 xm N n a0 a1 a2 a3 mem) a0 a1 a2 a3 m37
      ) else (
        if a1 = (-1) then (
          m_K_bestPattern_59 xm N (fun a0 a1 a2 a3 mem => m_K_bestPattern_22 xm N n a0 a1 a2 a3 mem) a0 a3 m37
        ) else (
          dGR xm m37 a0 11 6 fun v49 =>
          dGI xm m37 v49 9 3 fun v52 =>
          if v52 < a2 then (
            m_K_bestPattern_59 xm N (fun a0 a1 a2 a3 mem => m_K_bestPattern_22 xm N n a0 a1 a2 a3 mem) a0 a3 m37
          ) else (
            m_K_bestPattern_69 xm N (fun a0 a1 a2 a3 mem => m_K_bestPattern_22 xm N n a0 a1 a2 a3 mem) a0 a1 a2 a3 m37
          )
        )
      )
    ) else (
      some (.inl (some (.int a1)), mem)
    )
theorem m_K_bestPattern_22_ok (xm : Nat → Option kE) (N : Nat) : ∀ (n : Nat) (a0 : Nat) (a1 : Int32) (a2 : Int32) (a3 : Int32) (mem : kM) (R : kO × kM), m_K_bestPattern_22 xm N n a0 a1 a2 a3 mem = some R → kGo xm kSm kDfl kFty kG 4 88 22 [(0, .ref a0), (1, .int a1), (2, .int a2), (3, .int a3)] [] mem (dEq R) := by
  intro n
  induction n with
  | zero => intro a0 a1 a2 a3 mem R h; cases h
  | succ n ih =>
    intro a0 a1 a2 a3 mem R h
    rw [m_K_bestPattern_22] at h
    refine wp_run 2 (pc' := 24) (lv' := [(0, .ref a0), (1, .int a1), (2, .int a2), (3, .int a3)]) (st' := [.ref a0, .int a3]) (mem' := mem) rfl ?_
    refine wq_gI rfl h (fun v24 h => ?_)
    refine wq_ge2 rfl h (fun h => ?_) (fun h => ?_)
    · refine wp_run 2 (pc' := 32) (lv' := [(0, .ref a0), (1, .int a1), (2, .int a2), (3, .int a3)]) (st' := [.int a3, .ref a0]) (mem' := mem) rfl ?_
      obtain ⟨fk32, hk32, h⟩ := dRc_some h
      refine wq_cV rfl (kCall_v hk32 (as := [.int a3]) (rest := []) ⟨by decide, rfl, (show 1 < 90 by decide), by decide⟩ (show 0 ≤ 8 by decide)) h (fun r hr => ca_up (by decide) (m_K_tryOut_ok xm N hr)) (fun m32 h => ?_)
      refine wp_run 2 (pc' := 37) (lv' := [(0, .ref a0), (1, .int a1), (2, .int a2), (3, .int a3)]) (st' := [.int a3, .ref a0]) (mem' := m32) rfl ?_
      obtain ⟨fk37, hk37, h⟩ := dRc_some h
      refine wq_cI rfl (kCall_v hk37 (as := [.int a3]) (rest := []) ⟨by decide, rfl, (show 1 < 90 by decide), by decide⟩ (show 0 ≤ 8 by decide)) h (fun r hr => ca_up (by decide) (m_K_endsWhole_ok xm N hr)) (fun v37 m37 h => ?_)
      refine wq_eq rfl h (fun h => ?_) (fun h => ?_)
      · exact m_K_bestPattern_69_ok xm N _ ih _ _ _ _ m37 R h
      · refine wp_run 2 (pc' := 45) (lv' := [(0, .ref a0), (1, .int a1), (2, .int a2), (3, .int a3)]) (st' := [.int (-1), .int a1]) (mem' := m37) rfl ?_
        refine wq_eq2 rfl h (fun h => ?_) (fun h => ?_)
        · refine kGo_sub (lvS_of [0, 3] rfl [0, 1, 2, 3] rfl (by decide)) ?_
          exact m_K_bestPattern_59_ok xm N _ ih _ _ m37 R h
        · refine wp_run 1 (pc' := 49) (lv' := [(0, .ref a0), (1, .int a1), (2, .int a2), (3, .int a3)]) (st' := [.ref a0]) (mem' := m37) rfl ?_
          refine wq_gR rfl h (fun v49 h => ?_)
          refine wq_gI rfl h (fun v52 h => ?_)
          refine wp_run 1 (pc' := 56) (lv' := [(0, .ref a0), (1, .int a1), (2, .int a2), (3, .int a3)]) (st' := [.int a2, .int v52]) (mem' := m37) rfl ?_
          refine wq_ge2 rfl h (fun h => ?_) (fun h => ?_)
          · refine kGo_sub (lvS_of [0, 3] rfl [0, 1, 2, 3] rfl (by decide)) ?_
            exact m_K_bestPattern_59_ok xm N _ ih _ _ m37 R h
          · exact m_K_bestPattern_69_ok xm N _ ih _ _ _ _ m37 R h
    · refine wp_run 1 (pc' := 76) (lv' := [(0, .ref a0), (1, .int a1), (2, .int a2), (3, .int a3)]) (st' := [.int a1]) (mem' := mem) rfl ?_
      exact wq_ret rfl rfl h
def m_K_bestPattern (xm : Nat → Option kE) (N : Nat) (a0 : Nat) (mem : kM) : dRes :=
  dGR xm mem a0 11 1 fun v1 =>
  dGR xm mem v1 10 0 fun v4 =>
  dGI xm mem v4 7 1 fun v7 =>
  if v7 < 1 then (
    some (.inl (some (.int (-1))), mem)
  ) else (
    m_K_bestPattern_22 xm N N a0 (-1) 0 0 mem
  )
theorem m_K_bestPattern_ok (xm : Nat → Option kE) (N : Nat) {a0 : Nat} {mem : kM} {R : kO × kM} (h : m_K_bestPattern xm N a0 mem = some R) : kCa xm kSm kDfl kFty kG 5 88 [.ref a0] mem (dEq R) := by
  refine wq_ca (show 1 ≤ 4 by decide) ?_
  change kGo xm kSm kDfl kFty kG 4 88 0 [(0, .ref a0)] [] mem (dEq R)
  unfold m_K_bestPattern at h
  refine wp_run 1 (pc' := 1) (lv' := [(0, .ref a0)]) (st' := [.ref a0]) (mem' := mem) rfl ?_
  refine wq_gR rfl h (fun v1 h => ?_)
  refine wq_gR rfl h (fun v4 h => ?_)
  refine wq_gI rfl h (fun v7 h => ?_)
  refine wp_run 1 (pc' := 11) (lv' := [(0, .ref a0)]) (st' := [.int 1, .int v7]) (mem' := mem) rfl ?_
  refine wq_ge2 rfl h (fun h => ?_) (fun h => ?_)
  · refine wp_run 1 (pc' := 15) (lv' := [(0, .ref a0)]) (st' := [.int (-1)]) (mem' := mem) rfl ?_
    exact wq_ret rfl rfl h
  · refine wp_run 6 (pc' := 22) (lv' := [(3, .int 0), (2, .int 0), (1, .int (-1)), (0, .ref a0)]) (st' := []) (mem' := mem) rfl ?_
    refine kGo_sub (lvS_of [3, 2, 1, 0] rfl [3, 2, 1, 0] rfl (by decide)) ?_
    exact m_K_bestPattern_22_ok xm N N _ _ _ _ mem R h
/-- Knitstead.best()I -/
def m_K_best (xm : Nat → Option kE) (N : Nat) (a0 : Nat) (mem : kM) : dRes :=
  dRc xm mem a0 11 <|
  dCI (m_K_bestPattern xm N a0 mem) fun v1 m1 =>
  some (.inl (some (.int v1)), m1)
theorem m_K_best_ok (xm : Nat → Option kE) (N : Nat) {a0 : Nat} {mem : kM} {R : kO × kM} (h : m_K_best xm N a0 mem = some R) : kCa xm kSm kDfl kFty kG 6 65 [.ref a0] mem (dEq R) := by
  refine wq_ca (show 1 ≤ 1 by decide) ?_
  change kGo xm kSm kDfl kFty kG 5 65 0 [(0, .ref a0)] [] mem (dEq R)
  unfold m_K_best at h
  refine wp_run 1 (pc' := 1) (lv' := [(0, .ref a0)]) (st' := [.ref a0]) (mem' := mem) rfl ?_
  obtain ⟨fk1, hk1, h⟩ := dRc_some h
  refine wq_cI rfl (kCall_v hk1 (as := []) (rest := []) ⟨by decide, rfl, (show 0 < 90 by decide), by decide⟩ (show 0 ≤ 8 by decide)) h (fun r hr => ca_up (by decide) (m_K_bestPattern_ok xm N hr)) (fun v1 m1 h => ?_)
  exact wq_ret rfl rfl h
/-- Knitstead$Balls.ofAll()I -/
def m_Balls_ofAll_4 (xm : Nat → Option kE) (N : Nat) : Nat → Nat → Int32 → Int32 → kM → dRes
  | 0, _, _, _, _ => none
  | n + 1, a0, a1, a2, mem =>
    dGI xm mem a0 5 1 fun v6 =>
    if a2 < v6 then (
      dRc xm mem a0 5 <|
      dCI (m_Balls_of xm N a0 a2 mem) fun v15 m15 =>
      m_Balls_ofAll_4 xm N n a0 (a1 + v15) (a2 + 1) m15
    ) else (
      some (.inl (some (.int a1)), mem)
    )
theorem m_Balls_ofAll_4_ok (xm : Nat → Option kE) (N : Nat) : ∀ (n : Nat) (a0 : Nat) (a1 : Int32) (a2 : Int32) (mem : kM) (R : kO × kM), m_Balls_ofAll_4 xm N n a0 a1 a2 mem = some R → kGo xm kSm kDfl kFty kG 2 8 4 [(0, .ref a0), (1, .int a1), (2, .int a2)] [] mem (dEq R) := by
  intro n
  induction n with
  | zero => intro a0 a1 a2 mem R h; cases h
  | succ n ih =>
    intro a0 a1 a2 mem R h
    rw [m_Balls_ofAll_4] at h
    refine wp_run 2 (pc' := 6) (lv' := [(0, .ref a0), (1, .int a1), (2, .int a2)]) (st' := [.ref a0, .int a2]) (mem' := mem) rfl ?_
    refine wq_gI rfl h (fun v6 h => ?_)
    refine wq_ge2 rfl h (fun h => ?_) (fun h => ?_)
    · refine wp_run 3 (pc' := 15) (lv' := [(0, .ref a0), (1, .int a1), (2, .int a2)]) (st' := [.int a2, .ref a0, .int a1]) (mem' := mem) rfl ?_
      obtain ⟨fk15, hk15, h⟩ := dRc_some h
      refine wq_cI rfl (kCall_v hk15 (as := [.int a2]) (rest := [.int a1]) ⟨by decide, rfl, (show 1 < 90 by decide), by decide⟩ (show 1 ≤ 8 by decide)) h (fun r hr => ca_up (by decide) (m_Balls_of_ok xm N hr)) (fun v15 m15 h => ?_)
      refine wp_run 4 (pc' := 4) (lv' := [(2, .int (a2 + 1)), (1, .int (a1 + v15)), (0, .ref a0)]) (st' := []) (mem' := m15) rfl ?_
      refine kGo_sub (lvS_of [2, 1, 0] rfl [2, 1, 0] rfl (by decide)) ?_
      exact ih _ _ _ m15 R h
    · refine wp_run 1 (pc' := 27) (lv' := [(0, .ref a0), (1, .int a1), (2, .int a2)]) (st' := [.int a1]) (mem' := mem) rfl ?_
      exact wq_ret rfl rfl h
def m_Balls_ofAll (xm : Nat → Option kE) (N : Nat) (a0 : Nat) (mem : kM) : dRes :=
  m_Balls_ofAll_4 xm N N a0 0 0 mem
theorem m_Balls_ofAll_ok (xm : Nat → Option kE) (N : Nat) {a0 : Nat} {mem : kM} {R : kO × kM} (h : m_Balls_ofAll xm N a0 mem = some R) : kCa xm kSm kDfl kFty kG 3 8 [.ref a0] mem (dEq R) := by
  refine wq_ca (show 1 ≤ 3 by decide) ?_
  change kGo xm kSm kDfl kFty kG 2 8 0 [(0, .ref a0)] [] mem (dEq R)
  unfold m_Balls_ofAll at h
  refine wp_run 4 (pc' := 4) (lv' := [(2, .int 0), (1, .int 0), (0, .ref a0)]) (st' := []) (mem' := mem) rfl ?_
  refine kGo_sub (lvS_of [2, 1, 0] rfl [2, 1, 0] rfl (by decide)) ?_
  exact m_Balls_ofAll_4_ok xm N N _ _ _ mem R h
/-- Knitstead$Work.isOpen(I)Z -/
def m_Work_isOpen (xm : Nat → Option kE) (N : Nat) (a0 : Nat) (a1 : Int32) (mem : kM) : dRes :=
  dGR xm mem a0 10 2 fun v1 =>
  dRc xm mem v1 8 <|
  dCI (m_Table_get xm N v1 a1 3 mem) fun v6 m6 =>
  if v6 = 1 then (
    some (.inl (some (.int 1)), m6)
  ) else (
    some (.inl (some (.int 0)), m6)
  )
theorem m_Work_isOpen_ok (xm : Nat → Option kE) (N : Nat) {a0 : Nat} {a1 : Int32} {mem : kM} {R : kO × kM} (h : m_Work_isOpen xm N a0 a1 mem = some R) : kCa xm kSm kDfl kFty kG 3 34 [.ref a0, .int a1] mem (dEq R) := by
  refine wq_ca (show 2 ≤ 2 by decide) ?_
  change kGo xm kSm kDfl kFty kG 2 34 0 [(0, .ref a0), (1, .int a1)] [] mem (dEq R)
  unfold m_Work_isOpen at h
  refine wp_run 1 (pc' := 1) (lv' := [(0, .ref a0), (1, .int a1)]) (st' := [.ref a0]) (mem' := mem) rfl ?_
  refine wq_gR rfl h (fun v1 h => ?_)
  refine wp_run 2 (pc' := 6) (lv' := [(0, .ref a0), (1, .int a1)]) (st' := [.int 3, .int a1, .ref v1]) (mem' := mem) rfl ?_
  obtain ⟨fk6, hk6, h⟩ := dRc_some h
  refine wq_cI rfl (kCall_v hk6 (as := [.int a1, .int 3]) (rest := []) ⟨by decide, rfl, (show 2 < 90 by decide), by decide⟩ (show 0 ≤ 8 by decide)) h (fun r hr => ca_up (by decide) (m_Table_get_ok xm N hr)) (fun v6 m6 h => ?_)
  refine wp_run 1 (pc' := 10) (lv' := [(0, .ref a0), (1, .int a1)]) (st' := [.int 1, .int v6]) (mem' := m6) rfl ?_
  refine wq_ne2 rfl h (fun h => ?_) (fun h => ?_)
  · refine wp_run 2 (pc' := 18) (lv' := [(0, .ref a0), (1, .int a1)]) (st' := [.int 1]) (mem' := m6) rfl ?_
    exact wq_ret rfl rfl h
  · refine wp_run 1 (pc' := 18) (lv' := [(0, .ref a0), (1, .int a1)]) (st' := [.int 0]) (mem' := m6) rfl ?_
    exact wq_ret rfl rfl h
/-- Knitstead$Work.openRuns()I -/
def m_Work_openRuns_23 (xm : Nat → Option kE) (N : Nat) (K4 : Nat → Int32 → Int32 → kM → dRes) (a0 : Nat) (a1 : Int32) (a2 : Int32) (mem : kM) : dRes :=
  K4 a0 a1 (a2 + 1) mem
theorem m_Work_openRuns_23_ok (xm : Nat → Option kE) (N : Nat) (K4 : Nat → Int32 → Int32 → kM → dRes) (hK4 : ∀ (a0 : Nat) (a1 : Int32) (a2 : Int32) (mem : kM) (R : kO × kM), K4 a0 a1 a2 mem = some R → kGo xm kSm kDfl kFty kG 3 35 4 [(0, .ref a0), (1, .int a1), (2, .int a2)] [] mem (dEq R)) : ∀ (a0 : Nat) (a1 : Int32) (a2 : Int32) (mem : kM) (R : kO × kM), m_Work_openRuns_23 xm N K4 a0 a1 a2 mem = some R → kGo xm kSm kDfl kFty kG 3 35 23 [(0, .ref a0), (1, .int a1), (2, .int a2)] [] mem (dEq R) := by
  intro a0 a1 a2 mem R h
  unfold m_Work_openRuns_23 at h
  refine wp_run 2 (pc' := 4) (lv' := [(2, .int (a2 + 1)), (0, .ref a0), (1, .int a1)]) (st' := []) (mem' := mem) rfl ?_
  refine kGo_sub (lvS_of [1, 2, 0] rfl [2, 0, 1] rfl (by decide)) ?_
  exact hK4 _ _ _ mem R h
def m_Work_openRuns_4 (xm : Nat → Option kE) (N : Nat) : Nat → Nat → Int32 → Int32 → kM → dRes
  | 0, _, _, _, _ => none
  | n + 1, a0, a1, a2, mem =>
    dGI xm mem a0 10 3 fun v6 =>
    if a2 < v6 then (
      dRc xm mem a0 10 <|
      dCI (m_Work_isOpen xm N a0 a2 mem) fun v14 m14 =>
      if v14 = 0 then (
        m_Work_openRuns_23 xm N (fun a0 a1 a2 mem => m_Work_openRuns_4 xm N n a0 a1 a2 mem) a0 a1 a2 m14
      ) else (
        m_Work_openRuns_23 xm N (fun a0 a1 a2 mem => m_Work_openRuns_4 xm N n a0 a1 a2 mem) a0 (a1 + 1) a2 m14
      )
    ) else (
      some (.inl (some (.int a1)), mem)
    )
theorem m_Work_openRuns_4_ok (xm : Nat → Option kE) (N : Nat) : ∀ (n : Nat) (a0 : Nat) (a1 : Int32) (a2 : Int32) (mem : kM) (R : kO × kM), m_Work_openRuns_4 xm N n a0 a1 a2 mem = some R → kGo xm kSm kDfl kFty kG 3 35 4 [(0, .ref a0), (1, .int a1), (2, .int a2)] [] mem (dEq R) := by
  intro n
  induction n with
  | zero => intro a0 a1 a2 mem R h; cases h
  | succ n ih =>
    intro a0 a1 a2 mem R h
    rw [m_Work_openRuns_4] at h
    refine wp_run 2 (pc' := 6) (lv' := [(0, .ref a0), (1, .int a1), (2, .int a2)]) (st' := [.ref a0, .int a2]) (mem' := mem) rfl ?_
    refine wq_gI rfl h (fun v6 h => ?_)
    refine wq_ge2 rfl h (fun h => ?_) (fun h => ?_)
    · refine wp_run 2 (pc' := 14) (lv' := [(0, .ref a0), (1, .int a1), (2, .int a2)]) (st' := [.int a2, .ref a0]) (mem' := mem) rfl ?_
      obtain ⟨fk14, hk14, h⟩ := dRc_some h
      refine wq_cI rfl (kCall_v hk14 (as := [.int a2]) (rest := []) ⟨by decide, rfl, (show 1 < 90 by decide), by decide⟩ (show 0 ≤ 8 by decide)) h (fun r hr => ca_up (by decide) (m_Work_isOpen_ok xm N hr)) (fun v14 m14 h => ?_)
      refine wq_eq rfl h (fun h => ?_) (fun h => ?_)
      · exact m_Work_openRuns_23_ok xm N _ ih _ _ _ m14 R h
      · refine wp_run 1 (pc' := 23) (lv' := [(1, .int (a1 + 1)), (0, .ref a0), (2, .int a2)]) (st' := []) (mem' := m14) rfl ?_
        refine kGo_sub (lvS_of [1, 0, 2] rfl [1, 0, 2] rfl (by decide)) ?_
        exact m_Work_openRuns_23_ok xm N _ ih _ _ _ m14 R h
    · refine wp_run 1 (pc' := 30) (lv' := [(0, .ref a0), (1, .int a1), (2, .int a2)]) (st' := [.int a1]) (mem' := mem) rfl ?_
      exact wq_ret rfl rfl h
def m_Work_openRuns (xm : Nat → Option kE) (N : Nat) (a0 : Nat) (mem : kM) : dRes :=
  m_Work_openRuns_4 xm N N a0 0 0 mem
theorem m_Work_openRuns_ok (xm : Nat → Option kE) (N : Nat) {a0 : Nat} {mem : kM} {R : kO × kM} (h : m_Work_openRuns xm N a0 mem = some R) : kCa xm kSm kDfl kFty kG 4 35 [.ref a0] mem (dEq R) := by
  refine wq_ca (show 1 ≤ 3 by decide) ?_
  change kGo xm kSm kDfl kFty kG 3 35 0 [(0, .ref a0)] [] mem (dEq R)
  unfold m_Work_openRuns at h
  refine wp_run 4 (pc' := 4) (lv' := [(2, .int 0), (1, .int 0), (0, .ref a0)]) (st' := []) (mem' := mem) rfl ?_
  refine kGo_sub (lvS_of [2, 1, 0] rfl [2, 1, 0] rfl (by decide)) ?_
  exact m_Work_openRuns_4_ok xm N N _ _ _ mem R h
/-- Knitstead.number(I)I -/
def m_K_number (xm : Nat → Option kE) (N : Nat) (a0 : Nat) (a1 : Int32) (mem : kM) : dRes :=
  dSw a1 0 14 (
    dGR xm mem a0 11 5 fun v202 =>
    dGI xm mem v202 6 4 fun v205 =>
    some (.inl (some (.int v205)), mem)
  ) [
  (
    dGR xm mem a0 11 0 fun v77 =>
    dGI xm mem v77 5 1 fun v80 =>
    some (.inl (some (.int v80)), mem)
  ),
  (
    dGR xm mem a0 11 0 fun v85 =>
    dRc xm mem v85 5 <|
    dCI (m_Balls_ofAll xm N v85 mem) fun v88 m88 =>
    some (.inl (some (.int v88)), m88)
  ),
  (
    dGR xm mem a0 11 0 fun v93 =>
    dGI xm mem v93 5 2 fun v96 =>
    some (.inl (some (.int v96)), mem)
  ),
  (
    dGR xm mem a0 11 1 fun v101 =>
    dGR xm mem v101 10 0 fun v104 =>
    dGI xm mem v104 7 1 fun v107 =>
    some (.inl (some (.int v107)), mem)
  ),
  (
    dGR xm mem a0 11 1 fun v112 =>
    dGR xm mem v112 10 1 fun v115 =>
    dGI xm mem v115 7 1 fun v118 =>
    some (.inl (some (.int v118)), mem)
  ),
  (
    dGR xm mem a0 11 1 fun v123 =>
    dGI xm mem v123 10 5 fun v126 =>
    some (.inl (some (.int (v126 &&& 1))), mem)
  ),
  (
    dGR xm mem a0 11 1 fun v133 =>
    dGI xm mem v133 10 5 fun v136 =>
    some (.inl (some (.int v136)), mem)
  ),
  (
    dGR xm mem a0 11 1 fun v141 =>
    dGI xm mem v141 10 4 fun v144 =>
    some (.inl (some (.int v144)), mem)
  ),
  (
    dGR xm mem a0 11 1 fun v149 =>
    dGI xm mem v149 10 6 fun v152 =>
    some (.inl (some (.int v152)), mem)
  ),
  (
    dGR xm mem a0 11 1 fun v157 =>
    dGI xm mem v157 10 7 fun v160 =>
    some (.inl (some (.int v160)), mem)
  ),
  (
    dGR xm mem a0 11 1 fun v165 =>
    dGI xm mem v165 10 8 fun v168 =>
    some (.inl (some (.int v168)), mem)
  ),
  (
    dGR xm mem a0 11 1 fun v173 =>
    dGI xm mem v173 10 9 fun v176 =>
    some (.inl (some (.int v176)), mem)
  ),
  (
    dGR xm mem a0 11 1 fun v181 =>
    dGI xm mem v181 10 3 fun v184 =>
    some (.inl (some (.int v184)), mem)
  ),
  (
    dGR xm mem a0 11 1 fun v189 =>
    dRc xm mem v189 10 <|
    dCI (m_Work_openRuns xm N v189 mem) fun v192 m192 =>
    some (.inl (some (.int v192)), m192)
  ),
  (
    dGI xm mem a0 11 7 fun v197 =>
    some (.inl (some (.int v197)), mem)
  )
  ]
theorem m_K_number_ok (xm : Nat → Option kE) (N : Nat) {a0 : Nat} {a1 : Int32} {mem : kM} {R : kO × kM} (h : m_K_number xm N a0 a1 mem = some R) : kCa xm kSm kDfl kFty kG 5 96 [.ref a0, .int a1] mem (dEq R) := by
  refine wq_ca (show 2 ≤ 2 by decide) ?_
  change kGo xm kSm kDfl kFty kG 4 96 0 [(0, .ref a0), (1, .int a1)] [] mem (dEq R)
  unfold m_K_number at h
  refine wp_run 1 (pc' := 1) (lv' := [(0, .ref a0), (1, .int a1)]) (st' := [.int a1]) (mem' := mem) rfl ?_
  refine wq_sw rfl h rfl (fun h => ?_) (And.intro (fun h => ?_) (And.intro (fun h => ?_) (And.intro (fun h => ?_) (And.intro (fun h => ?_) (And.intro (fun h => ?_) (And.intro (fun h => ?_) (And.intro (fun h => ?_) (And.intro (fun h => ?_) (And.intro (fun h => ?_) (And.intro (fun h => ?_) (And.intro (fun h => ?_) (And.intro (fun h => ?_) (And.intro (fun h => ?_) (And.intro (fun h => ?_) (And.intro (fun h => ?_) (True.intro))))))))))))))))
  · change kGo xm kSm kDfl kFty kG 4 96 201 [(0, .ref a0), (1, .int a1)] [] mem (dEq R)
    refine wp_run 1 (pc' := 202) (lv' := [(0, .ref a0), (1, .int a1)]) (st' := [.ref a0]) (mem' := mem) rfl ?_
    refine wq_gR rfl h (fun v202 h => ?_)
    refine wq_gI rfl h (fun v205 h => ?_)
    exact wq_ret rfl rfl h
  · change kGo xm kSm kDfl kFty kG 4 96 76 [(0, .ref a0), (1, .int a1)] [] mem (dEq R)
    refine wp_run 1 (pc' := 77) (lv' := [(0, .ref a0), (1, .int a1)]) (st' := [.ref a0]) (mem' := mem) rfl ?_
    refine wq_gR rfl h (fun v77 h => ?_)
    refine wq_gI rfl h (fun v80 h => ?_)
    exact wq_ret rfl rfl h
  · change kGo xm kSm kDfl kFty kG 4 96 84 [(0, .ref a0), (1, .int a1)] [] mem (dEq R)
    refine wp_run 1 (pc' := 85) (lv' := [(0, .ref a0), (1, .int a1)]) (st' := [.ref a0]) (mem' := mem) rfl ?_
    refine wq_gR rfl h (fun v85 h => ?_)
    obtain ⟨fk88, hk88, h⟩ := dRc_some h
    refine wq_cI rfl (kCall_v hk88 (as := []) (rest := []) ⟨by decide, rfl, (show 0 < 90 by decide), by decide⟩ (show 0 ≤ 8 by decide)) h (fun r hr => ca_up (by decide) (m_Balls_ofAll_ok xm N hr)) (fun v88 m88 h => ?_)
    exact wq_ret rfl rfl h
  · change kGo xm kSm kDfl kFty kG 4 96 92 [(0, .ref a0), (1, .int a1)] [] mem (dEq R)
    refine wp_run 1 (pc' := 93) (lv' := [(0, .ref a0), (1, .int a1)]) (st' := [.ref a0]) (mem' := mem) rfl ?_
    refine wq_gR rfl h (fun v93 h => ?_)
    refine wq_gI rfl h (fun v96 h => ?_)
    exact wq_ret rfl rfl h
  · change kGo xm kSm kDfl kFty kG 4 96 100 [(0, .ref a0), (1, .int a1)] [] mem (dEq R)
    refine wp_run 1 (pc' := 101) (lv' := [(0, .ref a0), (1, .int a1)]) (st' := [.ref a0]) (mem' := mem) rfl ?_
    refine wq_gR rfl h (fun v101 h => ?_)
    refine wq_gR rfl h (fun v104 h => ?_)
    refine wq_gI rfl h (fun v107 h => ?_)
    exact wq_ret rfl rfl h
  · change kGo xm kSm kDfl kFty kG 4 96 111 [(0, .ref a0), (1, .int a1)] [] mem (dEq R)
    refine wp_run 1 (pc' := 112) (lv' := [(0, .ref a0), (1, .int a1)]) (st' := [.ref a0]) (mem' := mem) rfl ?_
    refine wq_gR rfl h (fun v112 h => ?_)
    refine wq_gR rfl h (fun v115 h => ?_)
    refine wq_gI rfl h (fun v118 h => ?_)
    exact wq_ret rfl rfl h
  · change kGo xm kSm kDfl kFty kG 4 96 122 [(0, .ref a0), (1, .int a1)] [] mem (dEq R)
    refine wp_run 1 (pc' := 123) (lv' := [(0, .ref a0), (1, .int a1)]) (st' := [.ref a0]) (mem' := mem) rfl ?_
    refine wq_gR rfl h (fun v123 h => ?_)
    refine wq_gI rfl h (fun v126 h => ?_)
    refine wp_run 2 (pc' := 131) (lv' := [(0, .ref a0), (1, .int a1)]) (st' := [.int (v126 &&& 1)]) (mem' := mem) rfl ?_
    exact wq_ret rfl rfl h
  · change kGo xm kSm kDfl kFty kG 4 96 132 [(0, .ref a0), (1, .int a1)] [] mem (dEq R)
    refine wp_run 1 (pc' := 133) (lv' := [(0, .ref a0), (1, .int a1)]) (st' := [.ref a0]) (mem' := mem) rfl ?_
    refine wq_gR rfl h (fun v133 h => ?_)
    refine wq_gI rfl h (fun v136 h => ?_)
    exact wq_ret rfl rfl h
  · change kGo xm kSm kDfl kFty kG 4 96 140 [(0, .ref a0), (1, .int a1)] [] mem (dEq R)
    refine wp_run 1 (pc' := 141) (lv' := [(0, .ref a0), (1, .int a1)]) (st' := [.ref a0]) (mem' := mem) rfl ?_
    refine wq_gR rfl h (fun v141 h => ?_)
    refine wq_gI rfl h (fun v144 h => ?_)
    exact wq_ret rfl rfl h
  · change kGo xm kSm kDfl kFty kG 4 96 148 [(0, .ref a0), (1, .int a1)] [] mem (dEq R)
    refine wp_run 1 (pc' := 149) (lv' := [(0, .ref a0), (1, .int a1)]) (st' := [.ref a0]) (mem' := mem) rfl ?_
    refine wq_gR rfl h (fun v149 h => ?_)
    refine wq_gI rfl h (fun v152 h => ?_)
    exact wq_ret rfl rfl h
  · change kGo xm kSm kDfl kFty kG 4 96 156 [(0, .ref a0), (1, .int a1)] [] mem (dEq R)
    refine wp_run 1 (pc' := 157) (lv' := [(0, .ref a0), (1, .int a1)]) (st' := [.ref a0]) (mem' := mem) rfl ?_
    refine wq_gR rfl h (fun v157 h => ?_)
    refine wq_gI rfl h (fun v160 h => ?_)
    exact wq_ret rfl rfl h
  · change kGo xm kSm kDfl kFty kG 4 96 164 [(0, .ref a0), (1, .int a1)] [] mem (dEq R)
    refine wp_run 1 (pc' := 165) (lv' := [(0, .ref a0), (1, .int a1)]) (st' := [.ref a0]) (mem' := mem) rfl ?_
    refine wq_gR rfl h (fun v165 h => ?_)
    refine wq_gI rfl h (fun v168 h => ?_)
    exact wq_ret rfl rfl h
  · change kGo xm kSm kDfl kFty kG 4 96 172 [(0, .ref a0), (1, .int a1)] [] mem (dEq R)
    refine wp_run 1 (pc' := 173) (lv' := [(0, .ref a0), (1, .int a1)]) (st' := [.ref a0]) (mem' := mem) rfl ?_
    refine wq_gR rfl h (fun v173 h => ?_)
    refine wq_gI rfl h (fun v176 h => ?_)
    exact wq_ret rfl rfl h
  · change kGo xm kSm kDfl kFty kG 4 96 180 [(0, .ref a0), (1, .int a1)] [] mem (dEq R)
    refine wp_run 1 (pc' := 181) (lv' := [(0, .ref a0), (1, .int a1)]) (st' := [.ref a0]) (mem' := mem) rfl ?_
    refine wq_gR rfl h (fun v181 h => ?_)
    refine wq_gI rfl h (fun v184 h => ?_)
    exact wq_ret rfl rfl h
  · change kGo xm kSm kDfl kFty kG 4 96 188 [(0, .ref a0), (1, .int a1)] [] mem (dEq R)
    refine wp_run 1 (pc' := 189) (lv' := [(0, .ref a0), (1, .int a1)]) (st' := [.ref a0]) (mem' := mem) rfl ?_
    refine wq_gR rfl h (fun v189 h => ?_)
    obtain ⟨fk192, hk192, h⟩ := dRc_some h
    refine wq_cI rfl (kCall_v hk192 (as := []) (rest := []) ⟨by decide, rfl, (show 0 < 90 by decide), by decide⟩ (show 0 ≤ 8 by decide)) h (fun r hr => ca_up (by decide) (m_Work_openRuns_ok xm N hr)) (fun v192 m192 h => ?_)
    exact wq_ret rfl rfl h
  · change kGo xm kSm kDfl kFty kG 4 96 196 [(0, .ref a0), (1, .int a1)] [] mem (dEq R)
    refine wp_run 1 (pc' := 197) (lv' := [(0, .ref a0), (1, .int a1)]) (st' := [.ref a0]) (mem' := mem) rfl ?_
    refine wq_gI rfl h (fun v197 h => ?_)
    exact wq_ret rfl rfl h
/-- Knitstead.mixed(JJ)J -/
def m_K_mixed (xm : Nat → Option kE) (N : Nat) (a0 : Int64) (a2 : Int64) (mem : kM) : dRes :=
  some (.inl (some (.long ((a0 * 31) + a2))), mem)
theorem m_K_mixed_ok (xm : Nat → Option kE) (N : Nat) {a0 : Int64} {a2 : Int64} {mem : kM} {R : kO × kM} (h : m_K_mixed xm N a0 a2 mem = some R) : kCa xm kSm kDfl kFty kG 1 97 [.long a0, .long a2] mem (dEq R) := by
  refine wq_ca (show 4 ≤ 4 by decide) ?_
  change kGo xm kSm kDfl kFty kG 0 97 0 [(0, .long a0), (2, .long a2)] [] mem (dEq R)
  unfold m_K_mixed at h
  refine wp_run 5 (pc' := 7) (lv' := [(0, .long a0), (2, .long a2)]) (st' := [.long ((a0 * 31) + a2)]) (mem' := mem) rfl ?_
  exact wq_end rfl rfl h
/-- Knitstead.mixedRow(JLKnitstead$Table;II)J -/
def m_K_mixedRow_6 (xm : Nat → Option kE) (N : Nat) : Nat → Nat → Int32 → Int32 → Int64 → Int32 → kM → dRes
  | 0, _, _, _, _, _, _ => none
  | n + 1, a2, a3, a4, a5, a7, mem =>
    if a7 < a4 then (
      dRc xm mem a2 8 <|
      dCI (m_Table_get xm N a2 a3 a7 mem) fun v19 m19 =>
      dCJ (m_K_mixed xm N a5 (Int32.toInt64 v19) m19) fun v23 m23 =>
      m_K_mixedRow_6 xm N n a2 a3 a4 v23 (a7 + 1) m23
    ) else (
      some (.inl (some (.long a5)), mem)
    )
theorem m_K_mixedRow_6_ok (xm : Nat → Option kE) (N : Nat) : ∀ (n : Nat) (a2 : Nat) (a3 : Int32) (a4 : Int32) (a5 : Int64) (a7 : Int32) (mem : kM) (R : kO × kM), m_K_mixedRow_6 xm N n a2 a3 a4 a5 a7 mem = some R → kGo xm kSm kDfl kFty kG 2 98 6 [(2, .ref a2), (3, .int a3), (4, .int a4), (5, .long a5), (7, .int a7)] [] mem (dEq R) := by
  intro n
  induction n with
  | zero => intro a2 a3 a4 a5 a7 mem R h; cases h
  | succ n ih =>
    intro a2 a3 a4 a5 a7 mem R h
    rw [m_K_mixedRow_6] at h
    refine wp_run 2 (pc' := 10) (lv' := [(2, .ref a2), (3, .int a3), (4, .int a4), (5, .long a5), (7, .int a7)]) (st' := [.int a4, .int a7]) (mem' := mem) rfl ?_
    refine wq_ge2 rfl h (fun h => ?_) (fun h => ?_)
    · refine wp_run 4 (pc' := 19) (lv' := [(2, .ref a2), (3, .int a3), (4, .int a4), (5, .long a5), (7, .int a7)]) (st' := [.int a7, .int a3, .ref a2, .long a5]) (mem' := mem) rfl ?_
      obtain ⟨fk19, hk19, h⟩ := dRc_some h
      refine wq_cI rfl (kCall_v hk19 (as := [.int a3, .int a7]) (rest := [.long a5]) ⟨by decide, rfl, (show 2 < 90 by decide), by decide⟩ (show 2 ≤ 8 by decide)) h (fun r hr => ca_up (by decide) (m_Table_get_ok xm N hr)) (fun v19 m19 h => ?_)
      refine wp_run 1 (pc' := 23) (lv' := [(2, .ref a2), (3, .int a3), (4, .int a4), (5, .long a5), (7, .int a7)]) (st' := [.long (Int32.toInt64 v19), .long a5]) (mem' := m19) rfl ?_
      refine wq_cJ rfl (kCall_s (as := [.long a5, .long (Int32.toInt64 v19)]) (rest := []) ⟨by decide, rfl⟩ (show 0 ≤ 8 by decide) (by decide)) h (fun r hr => ca_up (by decide) (m_K_mixed_ok xm N hr)) (fun v23 m23 h => ?_)
      refine wp_run 3 (pc' := 6) (lv' := [(7, .int (a7 + 1)), (5, .long v23), (2, .ref a2), (3, .int a3), (4, .int a4)]) (st' := []) (mem' := m23) rfl ?_
      refine kGo_sub (lvS_of [2, 3, 4, 1, 0] rfl [7, 5, 2, 3, 4] rfl (by decide)) ?_
      exact ih _ _ _ _ _ m23 R h
    · refine wp_run 1 (pc' := 36) (lv' := [(2, .ref a2), (3, .int a3), (4, .int a4), (5, .long a5), (7, .int a7)]) (st' := [.long a5]) (mem' := mem) rfl ?_
      exact wq_end rfl rfl h
def m_K_mixedRow (xm : Nat → Option kE) (N : Nat) (a0 : Int64) (a2 : Nat) (a3 : Int32) (a4 : Int32) (mem : kM) : dRes :=
  m_K_mixedRow_6 xm N N a2 a3 a4 a0 0 mem
theorem m_K_mixedRow_ok (xm : Nat → Option kE) (N : Nat) {a0 : Int64} {a2 : Nat} {a3 : Int32} {a4 : Int32} {mem : kM} {R : kO × kM} (h : m_K_mixedRow xm N a0 a2 a3 a4 mem = some R) : kCa xm kSm kDfl kFty kG 3 98 [.long a0, .ref a2, .int a3, .int a4] mem (dEq R) := by
  refine wq_ca (show 5 ≤ 8 by decide) ?_
  change kGo xm kSm kDfl kFty kG 2 98 0 [(0, .long a0), (2, .ref a2), (3, .int a3), (4, .int a4)] [] mem (dEq R)
  unfold m_K_mixedRow at h
  refine wp_run 4 (pc' := 6) (lv' := [(7, .int 0), (5, .long a0), (0, .long a0), (2, .ref a2), (3, .int a3), (4, .int a4)]) (st' := []) (mem' := mem) rfl ?_
  refine kGo_sub (lvS_of [3, 4, 5, 1, 0] rfl [7, 5, 0, 2, 3, 4] rfl (by decide)) ?_
  exact m_K_mixedRow_6_ok xm N N _ _ _ _ _ mem R h
/-- Knitstead$Needle.holds(I)Z -/
def m_Needle_holds_2 (xm : Nat → Option kE) (N : Nat) : Nat → Nat → Int32 → Int32 → kM → dRes
  | 0, _, _, _, _ => none
  | n + 1, a0, a1, a2, mem =>
    dGI xm mem a0 7 1 fun v4 =>
    if a2 < v4 then (
      dRc xm mem a0 7 <|
      dCI (m_Needle_at xm N a0 a2 mem) fun v12 m12 =>
      if v12 = a1 then (
        some (.inl (some (.int 1)), m12)
      ) else (
        m_Needle_holds_2 xm N n a0 a1 (a2 + 1) m12
      )
    ) else (
      some (.inl (some (.int 0)), mem)
    )
theorem m_Needle_holds_2_ok (xm : Nat → Option kE) (N : Nat) : ∀ (n : Nat) (a0 : Nat) (a1 : Int32) (a2 : Int32) (mem : kM) (R : kO × kM), m_Needle_holds_2 xm N n a0 a1 a2 mem = some R → kGo xm kSm kDfl kFty kG 1 16 2 [(0, .ref a0), (1, .int a1), (2, .int a2)] [] mem (dEq R) := by
  intro n
  induction n with
  | zero => intro a0 a1 a2 mem R h; cases h
  | succ n ih =>
    intro a0 a1 a2 mem R h
    rw [m_Needle_holds_2] at h
    refine wp_run 2 (pc' := 4) (lv' := [(0, .ref a0), (1, .int a1), (2, .int a2)]) (st' := [.ref a0, .int a2]) (mem' := mem) rfl ?_
    refine wq_gI rfl h (fun v4 h => ?_)
    refine wq_ge2 rfl h (fun h => ?_) (fun h => ?_)
    · refine wp_run 2 (pc' := 12) (lv' := [(0, .ref a0), (1, .int a1), (2, .int a2)]) (st' := [.int a2, .ref a0]) (mem' := mem) rfl ?_
      obtain ⟨fk12, hk12, h⟩ := dRc_some h
      refine wq_cI rfl (kCall_v hk12 (as := [.int a2]) (rest := []) ⟨by decide, rfl, (show 1 < 90 by decide), by decide⟩ (show 0 ≤ 8 by decide)) h (fun r hr => ca_up (by decide) (m_Needle_at_ok xm N hr)) (fun v12 m12 h => ?_)
      refine wp_run 1 (pc' := 16) (lv' := [(0, .ref a0), (1, .int a1), (2, .int a2)]) (st' := [.int a1, .int v12]) (mem' := m12) rfl ?_
      refine wq_ne2 rfl h (fun h => ?_) (fun h => ?_)
      · refine wp_run 1 (pc' := 20) (lv' := [(0, .ref a0), (1, .int a1), (2, .int a2)]) (st' := [.int 1]) (mem' := m12) rfl ?_
        exact wq_ret rfl rfl h
      · refine wp_run 2 (pc' := 2) (lv' := [(2, .int (a2 + 1)), (0, .ref a0), (1, .int a1)]) (st' := []) (mem' := m12) rfl ?_
        refine kGo_sub (lvS_of [1, 2, 0] rfl [2, 0, 1] rfl (by decide)) ?_
        exact ih _ _ _ m12 R h
    · refine wp_run 1 (pc' := 28) (lv' := [(0, .ref a0), (1, .int a1), (2, .int a2)]) (st' := [.int 0]) (mem' := mem) rfl ?_
      exact wq_ret rfl rfl h
def m_Needle_holds (xm : Nat → Option kE) (N : Nat) (a0 : Nat) (a1 : Int32) (mem : kM) : dRes :=
  m_Needle_holds_2 xm N N a0 a1 0 mem
theorem m_Needle_holds_ok (xm : Nat → Option kE) (N : Nat) {a0 : Nat} {a1 : Int32} {mem : kM} {R : kO × kM} (h : m_Needle_holds xm N a0 a1 mem = some R) : kCa xm kSm kDfl kFty kG 2 16 [.ref a0, .int a1] mem (dEq R) := by
  refine wq_ca (show 2 ≤ 3 by decide) ?_
  change kGo xm kSm kDfl kFty kG 1 16 0 [(0, .ref a0), (1, .int a1)] [] mem (dEq R)
  unfold m_Needle_holds at h
  refine wp_run 2 (pc' := 2) (lv' := [(2, .int 0), (0, .ref a0), (1, .int a1)]) (st' := []) (mem' := mem) rfl ?_
  refine kGo_sub (lvS_of [1, 2, 0] rfl [2, 0, 1] rfl (by decide)) ?_
  exact m_Needle_holds_2_ok xm N N _ _ _ mem R h
/-- Knitstead$Work.hasInOpenRun(I)Z -/
def m_Work_hasInOpenRun_33 (xm : Nat → Option kE) (N : Nat) (K2 : Nat → Int32 → Int32 → kM → dRes) (a0 : Nat) (a1 : Int32) (a2 : Int32) (mem : kM) : dRes :=
  K2 a0 a1 (a2 + 1) mem
theorem m_Work_hasInOpenRun_33_ok (xm : Nat → Option kE) (N : Nat) (K2 : Nat → Int32 → Int32 → kM → dRes) (hK2 : ∀ (a0 : Nat) (a1 : Int32) (a2 : Int32) (mem : kM) (R : kO × kM), K2 a0 a1 a2 mem = some R → kGo xm kSm kDfl kFty kG 3 36 2 [(0, .ref a0), (1, .int a1), (2, .int a2)] [] mem (dEq R)) : ∀ (a0 : Nat) (a1 : Int32) (a2 : Int32) (mem : kM) (R : kO × kM), m_Work_hasInOpenRun_33 xm N K2 a0 a1 a2 mem = some R → kGo xm kSm kDfl kFty kG 3 36 33 [(0, .ref a0), (1, .int a1), (2, .int a2)] [] mem (dEq R) := by
  intro a0 a1 a2 mem R h
  unfold m_Work_hasInOpenRun_33 at h
  refine wp_run 2 (pc' := 2) (lv' := [(2, .int (a2 + 1)), (0, .ref a0), (1, .int a1)]) (st' := []) (mem' := mem) rfl ?_
  refine kGo_sub (lvS_of [1, 2, 0] rfl [2, 0, 1] rfl (by decide)) ?_
  exact hK2 _ _ _ mem R h
def m_Work_hasInOpenRun_2 (xm : Nat → Option kE) (N : Nat) : Nat → Nat → Int32 → Int32 → kM → dRes
  | 0, _, _, _, _ => none
  | n + 1, a0, a1, a2, mem =>
    dGI xm mem a0 10 3 fun v4 =>
    if a2 < v4 then (
      dRc xm mem a0 10 <|
      dCI (m_Work_isOpen xm N a0 a2 mem) fun v12 m12 =>
      if v12 = 0 then (
        m_Work_hasInOpenRun_33 xm N (fun a0 a1 a2 mem => m_Work_hasInOpenRun_2 xm N n a0 a1 a2 mem) a0 a1 a2 m12
      ) else (
        dGR xm m12 a0 10 2 fun v19 =>
        dRc xm m12 v19 8 <|
        dCI (m_Table_get xm N v19 a2 0 m12) fun v24 m24 =>
        if v24 = a1 then (
          some (.inl (some (.int 1)), m24)
        ) else (
          m_Work_hasInOpenRun_33 xm N (fun a0 a1 a2 mem => m_Work_hasInOpenRun_2 xm N n a0 a1 a2 mem) a0 a1 a2 m24
        )
      )
    ) else (
      some (.inl (some (.int 0)), mem)
    )
theorem m_Work_hasInOpenRun_2_ok (xm : Nat → Option kE) (N : Nat) : ∀ (n : Nat) (a0 : Nat) (a1 : Int32) (a2 : Int32) (mem : kM) (R : kO × kM), m_Work_hasInOpenRun_2 xm N n a0 a1 a2 mem = some R → kGo xm kSm kDfl kFty kG 3 36 2 [(0, .ref a0), (1, .int a1), (2, .int a2)] [] mem (dEq R) := by
  intro n
  induction n with
  | zero => intro a0 a1 a2 mem R h; cases h
  | succ n ih =>
    intro a0 a1 a2 mem R h
    rw [m_Work_hasInOpenRun_2] at h
    refine wp_run 2 (pc' := 4) (lv' := [(0, .ref a0), (1, .int a1), (2, .int a2)]) (st' := [.ref a0, .int a2]) (mem' := mem) rfl ?_
    refine wq_gI rfl h (fun v4 h => ?_)
    refine wq_ge2 rfl h (fun h => ?_) (fun h => ?_)
    · refine wp_run 2 (pc' := 12) (lv' := [(0, .ref a0), (1, .int a1), (2, .int a2)]) (st' := [.int a2, .ref a0]) (mem' := mem) rfl ?_
      obtain ⟨fk12, hk12, h⟩ := dRc_some h
      refine wq_cI rfl (kCall_v hk12 (as := [.int a2]) (rest := []) ⟨by decide, rfl, (show 1 < 90 by decide), by decide⟩ (show 0 ≤ 8 by decide)) h (fun r hr => ca_up (by decide) (m_Work_isOpen_ok xm N hr)) (fun v12 m12 h => ?_)
      refine wq_eq rfl h (fun h => ?_) (fun h => ?_)
      · exact m_Work_hasInOpenRun_33_ok xm N _ ih _ _ _ m12 R h
      · refine wp_run 1 (pc' := 19) (lv' := [(0, .ref a0), (1, .int a1), (2, .int a2)]) (st' := [.ref a0]) (mem' := m12) rfl ?_
        refine wq_gR rfl h (fun v19 h => ?_)
        refine wp_run 2 (pc' := 24) (lv' := [(0, .ref a0), (1, .int a1), (2, .int a2)]) (st' := [.int 0, .int a2, .ref v19]) (mem' := m12) rfl ?_
        obtain ⟨fk24, hk24, h⟩ := dRc_some h
        refine wq_cI rfl (kCall_v hk24 (as := [.int a2, .int 0]) (rest := []) ⟨by decide, rfl, (show 2 < 90 by decide), by decide⟩ (show 0 ≤ 8 by decide)) h (fun r hr => ca_up (by decide) (m_Table_get_ok xm N hr)) (fun v24 m24 h => ?_)
        refine wp_run 1 (pc' := 28) (lv' := [(0, .ref a0), (1, .int a1), (2, .int a2)]) (st' := [.int a1, .int v24]) (mem' := m24) rfl ?_
        refine wq_ne2 rfl h (fun h => ?_) (fun h => ?_)
        · refine wp_run 1 (pc' := 32) (lv' := [(0, .ref a0), (1, .int a1), (2, .int a2)]) (st' := [.int 1]) (mem' := m24) rfl ?_
          exact wq_ret rfl rfl h
        · exact m_Work_hasInOpenRun_33_ok xm N _ ih _ _ _ m24 R h
    · refine wp_run 1 (pc' := 40) (lv' := [(0, .ref a0), (1, .int a1), (2, .int a2)]) (st' := [.int 0]) (mem' := mem) rfl ?_
      exact wq_ret rfl rfl h
def m_Work_hasInOpenRun (xm : Nat → Option kE) (N : Nat) (a0 : Nat) (a1 : Int32) (mem : kM) : dRes :=
  m_Work_hasInOpenRun_2 xm N N a0 a1 0 mem
theorem m_Work_hasInOpenRun_ok (xm : Nat → Option kE) (N : Nat) {a0 : Nat} {a1 : Int32} {mem : kM} {R : kO × kM} (h : m_Work_hasInOpenRun xm N a0 a1 mem = some R) : kCa xm kSm kDfl kFty kG 4 36 [.ref a0, .int a1] mem (dEq R) := by
  refine wq_ca (show 2 ≤ 3 by decide) ?_
  change kGo xm kSm kDfl kFty kG 3 36 0 [(0, .ref a0), (1, .int a1)] [] mem (dEq R)
  unfold m_Work_hasInOpenRun at h
  refine wp_run 2 (pc' := 2) (lv' := [(2, .int 0), (0, .ref a0), (1, .int a1)]) (st' := []) (mem' := mem) rfl ?_
  refine kGo_sub (lvS_of [1, 2, 0] rfl [2, 0, 1] rfl (by decide)) ?_
  exact m_Work_hasInOpenRun_2_ok xm N N _ _ _ mem R h
/-- Knitstead.whereIs(I)I -/
def m_K_whereIs (xm : Nat → Option kE) (N : Nat) (a0 : Nat) (a1 : Int32) (mem : kM) : dRes :=
  dGR xm mem a0 11 1 fun v1 =>
  dGR xm mem v1 10 0 fun v4 =>
  dRc xm mem v4 7 <|
  dCI (m_Needle_holds xm N v4 a1 mem) fun v8 m8 =>
  if v8 = 0 then (
    dGR xm m8 a0 11 1 fun v17 =>
    dGR xm m8 v17 10 1 fun v20 =>
    dRc xm m8 v20 7 <|
    dCI (m_Needle_holds xm N v20 a1 m8) fun v24 m24 =>
    if v24 = 0 then (
      dGR xm m24 a0 11 1 fun v33 =>
      dRc xm m24 v33 10 <|
      dCI (m_Work_hasInOpenRun xm N v33 a1 m24) fun v37 m37 =>
      if v37 = 0 then (
        dGR xm m37 a0 11 2 fun v46 =>
        dRc xm m37 v46 8 <|
        dCI (m_Table_get xm N v46 a1 5 m37) fun v51 m51 =>
        some (.inl (some (.int v51)), m51)
      ) else (
        some (.inl (some (.int 4)), m37)
      )
    ) else (
      some (.inl (some (.int 1)), m24)
    )
  ) else (
    some (.inl (some (.int 0)), m8)
  )
theorem m_K_whereIs_ok (xm : Nat → Option kE) (N : Nat) {a0 : Nat} {a1 : Int32} {mem : kM} {R : kO × kM} (h : m_K_whereIs xm N a0 a1 mem = some R) : kCa xm kSm kDfl kFty kG 5 91 [.ref a0, .int a1] mem (dEq R) := by
  refine wq_ca (show 2 ≤ 2 by decide) ?_
  change kGo xm kSm kDfl kFty kG 4 91 0 [(0, .ref a0), (1, .int a1)] [] mem (dEq R)
  unfold m_K_whereIs at h
  refine wp_run 1 (pc' := 1) (lv' := [(0, .ref a0), (1, .int a1)]) (st' := [.ref a0]) (mem' := mem) rfl ?_
  refine wq_gR rfl h (fun v1 h => ?_)
  refine wq_gR rfl h (fun v4 h => ?_)
  refine wp_run 1 (pc' := 8) (lv' := [(0, .ref a0), (1, .int a1)]) (st' := [.int a1, .ref v4]) (mem' := mem) rfl ?_
  obtain ⟨fk8, hk8, h⟩ := dRc_some h
  refine wq_cI rfl (kCall_v hk8 (as := [.int a1]) (rest := []) ⟨by decide, rfl, (show 1 < 90 by decide), by decide⟩ (show 0 ≤ 8 by decide)) h (fun r hr => ca_up (by decide) (m_Needle_holds_ok xm N hr)) (fun v8 m8 h => ?_)
  refine wq_eq rfl h (fun h => ?_) (fun h => ?_)
  · refine wp_run 1 (pc' := 17) (lv' := [(0, .ref a0), (1, .int a1)]) (st' := [.ref a0]) (mem' := m8) rfl ?_
    refine wq_gR rfl h (fun v17 h => ?_)
    refine wq_gR rfl h (fun v20 h => ?_)
    refine wp_run 1 (pc' := 24) (lv' := [(0, .ref a0), (1, .int a1)]) (st' := [.int a1, .ref v20]) (mem' := m8) rfl ?_
    obtain ⟨fk24, hk24, h⟩ := dRc_some h
    refine wq_cI rfl (kCall_v hk24 (as := [.int a1]) (rest := []) ⟨by decide, rfl, (show 1 < 90 by decide), by decide⟩ (show 0 ≤ 8 by decide)) h (fun r hr => ca_up (by decide) (m_Needle_holds_ok xm N hr)) (fun v24 m24 h => ?_)
    refine wq_eq rfl h (fun h => ?_) (fun h => ?_)
    · refine wp_run 1 (pc' := 33) (lv' := [(0, .ref a0), (1, .int a1)]) (st' := [.ref a0]) (mem' := m24) rfl ?_
      refine wq_gR rfl h (fun v33 h => ?_)
      refine wp_run 1 (pc' := 37) (lv' := [(0, .ref a0), (1, .int a1)]) (st' := [.int a1, .ref v33]) (mem' := m24) rfl ?_
      obtain ⟨fk37, hk37, h⟩ := dRc_some h
      refine wq_cI rfl (kCall_v hk37 (as := [.int a1]) (rest := []) ⟨by decide, rfl, (show 1 < 90 by decide), by decide⟩ (show 0 ≤ 8 by decide)) h (fun r hr => ca_up (by decide) (m_Work_hasInOpenRun_ok xm N hr)) (fun v37 m37 h => ?_)
      refine wq_eq rfl h (fun h => ?_) (fun h => ?_)
      · refine wp_run 1 (pc' := 46) (lv' := [(0, .ref a0), (1, .int a1)]) (st' := [.ref a0]) (mem' := m37) rfl ?_
        refine wq_gR rfl h (fun v46 h => ?_)
        refine wp_run 2 (pc' := 51) (lv' := [(0, .ref a0), (1, .int a1)]) (st' := [.int 5, .int a1, .ref v46]) (mem' := m37) rfl ?_
        obtain ⟨fk51, hk51, h⟩ := dRc_some h
        refine wq_cI rfl (kCall_v hk51 (as := [.int a1, .int 5]) (rest := []) ⟨by decide, rfl, (show 2 < 90 by decide), by decide⟩ (show 0 ≤ 8 by decide)) h (fun r hr => ca_up (by decide) (m_Table_get_ok xm N hr)) (fun v51 m51 h => ?_)
        exact wq_ret rfl rfl h
      · refine wp_run 1 (pc' := 44) (lv' := [(0, .ref a0), (1, .int a1)]) (st' := [.int 4]) (mem' := m37) rfl ?_
        exact wq_ret rfl rfl h
    · refine wp_run 1 (pc' := 31) (lv' := [(0, .ref a0), (1, .int a1)]) (st' := [.int 1]) (mem' := m24) rfl ?_
      exact wq_ret rfl rfl h
  · refine wp_run 1 (pc' := 15) (lv' := [(0, .ref a0), (1, .int a1)]) (st' := [.int 0]) (mem' := m8) rfl ?_
    exact wq_ret rfl rfl h
/-- Knitstead.loopFact(II)I -/
def m_K_loopFact (xm : Nat → Option kE) (N : Nat) (a0 : Nat) (a1 : Int32) (a2 : Int32) (mem : kM) : dRes :=
  if a2 = 5 then (
    dRc xm mem a0 11 <|
    dCI (m_K_whereIs xm N a0 a1 mem) fun v7 m7 =>
    some (.inl (some (.int v7)), m7)
  ) else (
    dGR xm mem a0 11 2 fun v14 =>
    dRc xm mem v14 8 <|
    dCI (m_Table_get xm N v14 a1 a2 mem) fun v19 m19 =>
    some (.inl (some (.int v19)), m19)
  )
theorem m_K_loopFact_ok (xm : Nat → Option kE) (N : Nat) {a0 : Nat} {a1 : Int32} {a2 : Int32} {mem : kM} {R : kO × kM} (h : m_K_loopFact xm N a0 a1 a2 mem = some R) : kCa xm kSm kDfl kFty kG 6 90 [.ref a0, .int a1, .int a2] mem (dEq R) := by
  refine wq_ca (show 3 ≤ 3 by decide) ?_
  change kGo xm kSm kDfl kFty kG 5 90 0 [(0, .ref a0), (1, .int a1), (2, .int a2)] [] mem (dEq R)
  unfold m_K_loopFact at h
  refine wp_run 2 (pc' := 2) (lv' := [(0, .ref a0), (1, .int a1), (2, .int a2)]) (st' := [.int 5, .int a2]) (mem' := mem) rfl ?_
  refine wq_ne2 rfl h (fun h => ?_) (fun h => ?_)
  · refine wp_run 2 (pc' := 7) (lv' := [(0, .ref a0), (1, .int a1), (2, .int a2)]) (st' := [.int a1, .ref a0]) (mem' := mem) rfl ?_
    obtain ⟨fk7, hk7, h⟩ := dRc_some h
    refine wq_cI rfl (kCall_v hk7 (as := [.int a1]) (rest := []) ⟨by decide, rfl, (show 1 < 90 by decide), by decide⟩ (show 0 ≤ 8 by decide)) h (fun r hr => ca_up (by decide) (m_K_whereIs_ok xm N hr)) (fun v7 m7 h => ?_)
    refine wp_run 1 (pc' := 22) (lv' := [(0, .ref a0), (1, .int a1), (2, .int a2)]) (st' := [.int v7]) (mem' := m7) rfl ?_
    exact wq_ret rfl rfl h
  · refine wp_run 1 (pc' := 14) (lv' := [(0, .ref a0), (1, .int a1), (2, .int a2)]) (st' := [.ref a0]) (mem' := mem) rfl ?_
    refine wq_gR rfl h (fun v14 h => ?_)
    refine wp_run 2 (pc' := 19) (lv' := [(0, .ref a0), (1, .int a1), (2, .int a2)]) (st' := [.int a2, .int a1, .ref v14]) (mem' := mem) rfl ?_
    obtain ⟨fk19, hk19, h⟩ := dRc_some h
    refine wq_cI rfl (kCall_v hk19 (as := [.int a1, .int a2]) (rest := []) ⟨by decide, rfl, (show 2 < 90 by decide), by decide⟩ (show 0 ≤ 8 by decide)) h (fun r hr => ca_up (by decide) (m_Table_get_ok xm N hr)) (fun v19 m19 h => ?_)
    exact wq_ret rfl rfl h
/-- Knitstead.mixedLoops(JLKnitstead$Needle;)J -/
def m_K_mixedLoops_36 (xm : Nat → Option kE) (N : Nat) (K6 : Nat → Nat → Int64 → Int32 → kM → dRes) : Nat → Nat → Nat → Int64 → Int32 → Int32 → Int32 → kM → dRes
  | 0, _, _, _, _, _, _, _ => none
  | n + 1, a0, a3, a4, a6, a7, a8, mem =>
    if a8 < 6 then (
      dRc xm mem a0 11 <|
      dCI (m_K_loopFact xm N a0 a7 a8 mem) fun v50 m50 =>
      dCJ (m_K_mixed xm N a4 (Int32.toInt64 v50) m50) fun v54 m54 =>
      m_K_mixedLoops_36 xm N K6 n a0 a3 v54 a6 a7 (a8 + 1) m54
    ) else (
      K6 a0 a3 a4 (a6 + 1) mem
    )
theorem m_K_mixedLoops_36_ok (xm : Nat → Option kE) (N : Nat) (K6 : Nat → Nat → Int64 → Int32 → kM → dRes) (hK6 : ∀ (a0 : Nat) (a3 : Nat) (a4 : Int64) (a6 : Int32) (mem : kM) (R : kO × kM), K6 a0 a3 a4 a6 mem = some R → kGo xm kSm kDfl kFty kG 6 99 6 [(0, .ref a0), (3, .ref a3), (4, .long a4), (6, .int a6)] [] mem (dEq R)) : ∀ (n : Nat) (a0 : Nat) (a3 : Nat) (a4 : Int64) (a6 : Int32) (a7 : Int32) (a8 : Int32) (mem : kM) (R : kO × kM), m_K_mixedLoops_36 xm N K6 n a0 a3 a4 a6 a7 a8 mem = some R → kGo xm kSm kDfl kFty kG 6 99 36 [(0, .ref a0), (3, .ref a3), (4, .long a4), (6, .int a6), (7, .int a7), (8, .int a8)] [] mem (dEq R) := by
  intro n
  induction n with
  | zero => intro a0 a3 a4 a6 a7 a8 mem R h; cases h
  | succ n ih =>
    intro a0 a3 a4 a6 a7 a8 mem R h
    rw [m_K_mixedLoops_36] at h
    refine wp_run 2 (pc' := 40) (lv' := [(0, .ref a0), (3, .ref a3), (4, .long a4), (6, .int a6), (7, .int a7), (8, .int a8)]) (st' := [.int 6, .int a8]) (mem' := mem) rfl ?_
    refine wq_ge2 rfl h (fun h => ?_) (fun h => ?_)
    · refine wp_run 4 (pc' := 50) (lv' := [(0, .ref a0), (3, .ref a3), (4, .long a4), (6, .int a6), (7, .int a7), (8, .int a8)]) (st' := [.int a8, .int a7, .ref a0, .long a4]) (mem' := mem) rfl ?_
      obtain ⟨fk50, hk50, h⟩ := dRc_some h
      refine wq_cI rfl (kCall_v hk50 (as := [.int a7, .int a8]) (rest := [.long a4]) ⟨by decide, rfl, (show 2 < 90 by decide), by decide⟩ (show 2 ≤ 8 by decide)) h (fun r hr => ca_up (by decide) (m_K_loopFact_ok xm N hr)) (fun v50 m50 h => ?_)
      refine wp_run 1 (pc' := 54) (lv' := [(0, .ref a0), (3, .ref a3), (4, .long a4), (6, .int a6), (7, .int a7), (8, .int a8)]) (st' := [.long (Int32.toInt64 v50), .long a4]) (mem' := m50) rfl ?_
      refine wq_cJ rfl (kCall_s (as := [.long a4, .long (Int32.toInt64 v50)]) (rest := []) ⟨by decide, rfl⟩ (show 0 ≤ 8 by decide) (by decide)) h (fun r hr => ca_up (by decide) (m_K_mixed_ok xm N hr)) (fun v54 m54 h => ?_)
      refine wp_run 3 (pc' := 36) (lv' := [(8, .int (a8 + 1)), (4, .long v54), (0, .ref a0), (3, .ref a3), (6, .int a6), (7, .int a7)]) (st' := []) (mem' := m54) rfl ?_
      refine kGo_sub (lvS_of [2, 3, 1, 4, 5, 0] rfl [8, 4, 0, 3, 6, 7] rfl (by decide)) ?_
      exact ih _ _ _ _ _ _ m54 R h
    · refine wp_run 2 (pc' := 6) (lv' := [(6, .int (a6 + 1)), (0, .ref a0), (3, .ref a3), (4, .long a4), (7, .int a7), (8, .int a8)]) (st' := []) (mem' := mem) rfl ?_
      refine kGo_sub (lvS_of [1, 2, 3, 0] rfl [6, 0, 3, 4, 7, 8] rfl (by decide)) ?_
      exact hK6 _ _ _ _ mem R h
def m_K_mixedLoops_6 (xm : Nat → Option kE) (N : Nat) : Nat → Nat → Nat → Int64 → Int32 → kM → dRes
  | 0, _, _, _, _, _ => none
  | n + 1, a0, a3, a4, a6, mem =>
    dGI xm mem a3 7 1 fun v9 =>
    if a6 < v9 then (
      dRc xm mem a3 7 <|
      dCI (m_Needle_at xm N a3 a6 mem) fun v18 m18 =>
      dCJ (m_K_mixed xm N a4 (Int32.toInt64 v18) m18) fun v28 m28 =>
      m_K_mixedLoops_36 xm N (fun a0 a3 a4 a6 mem => m_K_mixedLoops_6 xm N n a0 a3 a4 a6 mem) N a0 a3 v28 a6 v18 0 m28
    ) else (
      some (.inl (some (.long a4)), mem)
    )
theorem m_K_mixedLoops_6_ok (xm : Nat → Option kE) (N : Nat) : ∀ (n : Nat) (a0 : Nat) (a3 : Nat) (a4 : Int64) (a6 : Int32) (mem : kM) (R : kO × kM), m_K_mixedLoops_6 xm N n a0 a3 a4 a6 mem = some R → kGo xm kSm kDfl kFty kG 6 99 6 [(0, .ref a0), (3, .ref a3), (4, .long a4), (6, .int a6)] [] mem (dEq R) := by
  intro n
  induction n with
  | zero => intro a0 a3 a4 a6 mem R h; cases h
  | succ n ih =>
    intro a0 a3 a4 a6 mem R h
    rw [m_K_mixedLoops_6] at h
    refine wp_run 2 (pc' := 9) (lv' := [(0, .ref a0), (3, .ref a3), (4, .long a4), (6, .int a6)]) (st' := [.ref a3, .int a6]) (mem' := mem) rfl ?_
    refine wq_gI rfl h (fun v9 h => ?_)
    refine wq_ge2 rfl h (fun h => ?_) (fun h => ?_)
    · refine wp_run 2 (pc' := 18) (lv' := [(0, .ref a0), (3, .ref a3), (4, .long a4), (6, .int a6)]) (st' := [.int a6, .ref a3]) (mem' := mem) rfl ?_
      obtain ⟨fk18, hk18, h⟩ := dRc_some h
      refine wq_cI rfl (kCall_v hk18 (as := [.int a6]) (rest := []) ⟨by decide, rfl, (show 1 < 90 by decide), by decide⟩ (show 0 ≤ 8 by decide)) h (fun r hr => ca_up (by decide) (m_Needle_at_ok xm N hr)) (fun v18 m18 h => ?_)
      refine wp_run 4 (pc' := 28) (lv' := [(7, .int v18), (0, .ref a0), (3, .ref a3), (4, .long a4), (6, .int a6)]) (st' := [.long (Int32.toInt64 v18), .long a4]) (mem' := m18) rfl ?_
      refine wq_cJ rfl (kCall_s (as := [.long a4, .long (Int32.toInt64 v18)]) (rest := []) ⟨by decide, rfl⟩ (show 0 ≤ 8 by decide) (by decide)) h (fun r hr => ca_up (by decide) (m_K_mixed_ok xm N hr)) (fun v28 m28 h => ?_)
      refine wp_run 3 (pc' := 36) (lv' := [(8, .int 0), (4, .long v28), (7, .int v18), (0, .ref a0), (3, .ref a3), (6, .int a6)]) (st' := []) (mem' := m28) rfl ?_
      refine kGo_sub (lvS_of [3, 4, 1, 5, 2, 0] rfl [8, 4, 7, 0, 3, 6] rfl (by decide)) ?_
      exact m_K_mixedLoops_36_ok xm N _ ih N _ _ _ _ _ _ m28 R h
    · refine wp_run 1 (pc' := 73) (lv' := [(0, .ref a0), (3, .ref a3), (4, .long a4), (6, .int a6)]) (st' := [.long a4]) (mem' := mem) rfl ?_
      exact wq_end rfl rfl h
def m_K_mixedLoops (xm : Nat → Option kE) (N : Nat) (a0 : Nat) (a1 : Int64) (a3 : Nat) (mem : kM) : dRes :=
  m_K_mixedLoops_6 xm N N a0 a3 a1 0 mem
theorem m_K_mixedLoops_ok (xm : Nat → Option kE) (N : Nat) {a0 : Nat} {a1 : Int64} {a3 : Nat} {mem : kM} {R : kO × kM} (h : m_K_mixedLoops xm N a0 a1 a3 mem = some R) : kCa xm kSm kDfl kFty kG 7 99 [.ref a0, .long a1, .ref a3] mem (dEq R) := by
  refine wq_ca (show 4 ≤ 9 by decide) ?_
  change kGo xm kSm kDfl kFty kG 6 99 0 [(0, .ref a0), (1, .long a1), (3, .ref a3)] [] mem (dEq R)
  unfold m_K_mixedLoops at h
  refine wp_run 4 (pc' := 6) (lv' := [(6, .int 0), (4, .long a1), (0, .ref a0), (1, .long a1), (3, .ref a3)]) (st' := []) (mem' := mem) rfl ?_
  refine kGo_sub (lvS_of [2, 4, 1, 0] rfl [6, 4, 0, 1, 3] rfl (by decide)) ?_
  exact m_K_mixedLoops_6_ok xm N N _ _ _ _ mem R h
/-- Knitstead.mixedPatterns(J)J -/
def m_K_mixedPatterns_5 (xm : Nat → Option kE) (N : Nat) : Nat → Nat → Int64 → Int32 → kM → dRes
  | 0, _, _, _, _ => none
  | n + 1, a0, a3, a5, mem =>
    dGI xm mem a0 11 7 fun v8 =>
    if a5 < v8 then (
      dGR xm mem a0 11 3 fun v16 =>
      dCJ (m_K_mixedRow xm N a3 v16 a5 5 mem) fun v22 m22 =>
      dRc xm m22 a0 11 <|
      dCV (m_K_tryOut xm N a0 a5 m22) fun m29 =>
      dGR xm m29 a0 11 6 fun v34 =>
      dGI xm m29 v34 9 1 fun v37 =>
      dCJ (m_K_mixed xm N v22 (Int32.toInt64 v37) m29) fun v41 m41 =>
      dGR xm m41 a0 11 6 fun v47 =>
      dGI xm m41 v47 9 3 fun v50 =>
      dCJ (m_K_mixed xm N v41 (Int32.toInt64 v50) m41) fun v54 m54 =>
      m_K_mixedPatterns_5 xm N n a0 v54 (a5 + 1) m54
    ) else (
      some (.inl (some (.long a3)), mem)
    )
theorem m_K_mixedPatterns_5_ok (xm : Nat → Option kE) (N : Nat) : ∀ (n : Nat) (a0 : Nat) (a3 : Int64) (a5 : Int32) (mem : kM) (R : kO × kM), m_K_mixedPatterns_5 xm N n a0 a3 a5 mem = some R → kGo xm kSm kDfl kFty kG 4 100 5 [(0, .ref a0), (3, .long a3), (5, .int a5)] [] mem (dEq R) := by
  intro n
  induction n with
  | zero => intro a0 a3 a5 mem R h; cases h
  | succ n ih =>
    intro a0 a3 a5 mem R h
    rw [m_K_mixedPatterns_5] at h
    refine wp_run 2 (pc' := 8) (lv' := [(0, .ref a0), (3, .long a3), (5, .int a5)]) (st' := [.ref a0, .int a5]) (mem' := mem) rfl ?_
    refine wq_gI rfl h (fun v8 h => ?_)
    refine wq_ge2 rfl h (fun h => ?_) (fun h => ?_)
    · refine wp_run 2 (pc' := 16) (lv' := [(0, .ref a0), (3, .long a3), (5, .int a5)]) (st' := [.ref a0, .long a3]) (mem' := mem) rfl ?_
      refine wq_gR rfl h (fun v16 h => ?_)
      refine wp_run 2 (pc' := 22) (lv' := [(0, .ref a0), (3, .long a3), (5, .int a5)]) (st' := [.int 5, .int a5, .ref v16, .long a3]) (mem' := mem) rfl ?_
      refine wq_cJ rfl (kCall_s (as := [.long a3, .ref v16, .int a5, .int 5]) (rest := []) ⟨by decide, rfl⟩ (show 0 ≤ 8 by decide) (by decide)) h (fun r hr => ca_up (by decide) (m_K_mixedRow_ok xm N hr)) (fun v22 m22 h => ?_)
      refine wp_run 3 (pc' := 29) (lv' := [(3, .long v22), (0, .ref a0), (5, .int a5)]) (st' := [.int a5, .ref a0]) (mem' := m22) rfl ?_
      obtain ⟨fk29, hk29, h⟩ := dRc_some h
      refine wq_cV rfl (kCall_v hk29 (as := [.int a5]) (rest := []) ⟨by decide, rfl, (show 1 < 90 by decide), by decide⟩ (show 0 ≤ 8 by decide)) h (fun r hr => ca_up (by decide) (m_K_tryOut_ok xm N hr)) (fun m29 h => ?_)
      refine wp_run 2 (pc' := 34) (lv' := [(3, .long v22), (0, .ref a0), (5, .int a5)]) (st' := [.ref a0, .long v22]) (mem' := m29) rfl ?_
      refine wq_gR rfl h (fun v34 h => ?_)
      refine wq_gI rfl h (fun v37 h => ?_)
      refine wp_run 1 (pc' := 41) (lv' := [(3, .long v22), (0, .ref a0), (5, .int a5)]) (st' := [.long (Int32.toInt64 v37), .long v22]) (mem' := m29) rfl ?_
      refine wq_cJ rfl (kCall_s (as := [.long v22, .long (Int32.toInt64 v37)]) (rest := []) ⟨by decide, rfl⟩ (show 0 ≤ 8 by decide) (by decide)) h (fun r hr => ca_up (by decide) (m_K_mixed_ok xm N hr)) (fun v41 m41 h => ?_)
      refine wp_run 3 (pc' := 47) (lv' := [(3, .long v41), (0, .ref a0), (5, .int a5)]) (st' := [.ref a0, .long v41]) (mem' := m41) rfl ?_
      refine wq_gR rfl h (fun v47 h => ?_)
      refine wq_gI rfl h (fun v50 h => ?_)
      refine wp_run 1 (pc' := 54) (lv' := [(3, .long v41), (0, .ref a0), (5, .int a5)]) (st' := [.long (Int32.toInt64 v50), .long v41]) (mem' := m41) rfl ?_
      refine wq_cJ rfl (kCall_s (as := [.long v41, .long (Int32.toInt64 v50)]) (rest := []) ⟨by decide, rfl⟩ (show 0 ≤ 8 by decide) (by decide)) h (fun r hr => ca_up (by decide) (m_K_mixed_ok xm N hr)) (fun v54 m54 h => ?_)
      refine wp_run 3 (pc' := 5) (lv' := [(5, .int (a5 + 1)), (3, .long v54), (0, .ref a0)]) (st' := []) (mem' := m54) rfl ?_
      refine kGo_sub (lvS_of [2, 1, 0] rfl [5, 3, 0] rfl (by decide)) ?_
      exact ih _ _ _ m54 R h
    · refine wp_run 1 (pc' := 65) (lv' := [(0, .ref a0), (3, .long a3), (5, .int a5)]) (st' := [.long a3]) (mem' := mem) rfl ?_
      exact wq_end rfl rfl h
def m_K_mixedPatterns (xm : Nat → Option kE) (N : Nat) (a0 : Nat) (a1 : Int64) (mem : kM) : dRes :=
  m_K_mixedPatterns_5 xm N N a0 a1 0 mem
theorem m_K_mixedPatterns_ok (xm : Nat → Option kE) (N : Nat) {a0 : Nat} {a1 : Int64} {mem : kM} {R : kO × kM} (h : m_K_mixedPatterns xm N a0 a1 mem = some R) : kCa xm kSm kDfl kFty kG 5 100 [.ref a0, .long a1] mem (dEq R) := by
  refine wq_ca (show 3 ≤ 6 by decide) ?_
  change kGo xm kSm kDfl kFty kG 4 100 0 [(0, .ref a0), (1, .long a1)] [] mem (dEq R)
  unfold m_K_mixedPatterns at h
  refine wp_run 4 (pc' := 5) (lv' := [(5, .int 0), (3, .long a1), (0, .ref a0), (1, .long a1)]) (st' := []) (mem' := mem) rfl ?_
  refine kGo_sub (lvS_of [2, 1, 0] rfl [5, 3, 0, 1] rfl (by decide)) ?_
  exact m_K_mixedPatterns_5_ok xm N N _ _ _ mem R h
/-- Knitstead.digest()J -/
def m_K_digest_132 (xm : Nat → Option kE) (N : Nat) : Nat → Nat → Int64 → Int32 → kM → dRes
  | 0, _, _, _, _ => none
  | n + 1, a0, a1, a3, mem =>
    dGR xm mem a0 11 1 fun v134 =>
    dGI xm mem v134 10 3 fun v137 =>
    if a3 < v137 then (
      dGR xm mem a0 11 1 fun v145 =>
      dGR xm mem v145 10 2 fun v148 =>
      dCJ (m_K_mixedRow xm N a1 v148 a3 4 mem) fun v153 m153 =>
      m_K_digest_132 xm N n a0 v153 (a3 + 1) m153
    ) else (
      dRc xm mem a0 11 <|
      dCJ (m_K_mixedPatterns xm N a0 a1 mem) fun v165 m165 =>
      dRc xm m165 a0 11 <|
      dCI (m_K_bestPattern xm N a0 m165) fun v171 m171 =>
      dCJ (m_K_mixed xm N v165 (Int32.toInt64 v171) m171) fun v175 m175 =>
      some (.inl (some (.long v175)), m175)
    )
theorem m_K_digest_132_ok (xm : Nat → Option kE) (N : Nat) : ∀ (n : Nat) (a0 : Nat) (a1 : Int64) (a3 : Int32) (mem : kM) (R : kO × kM), m_K_digest_132 xm N n a0 a1 a3 mem = some R → kGo xm kSm kDfl kFty kG 7 66 132 [(0, .ref a0), (1, .long a1), (3, .int a3)] [] mem (dEq R) := by
  intro n
  induction n with
  | zero => intro a0 a1 a3 mem R h; cases h
  | succ n ih =>
    intro a0 a1 a3 mem R h
    rw [m_K_digest_132] at h
    refine wp_run 2 (pc' := 134) (lv' := [(0, .ref a0), (1, .long a1), (3, .int a3)]) (st' := [.ref a0, .int a3]) (mem' := mem) rfl ?_
    refine wq_gR rfl h (fun v134 h => ?_)
    refine wq_gI rfl h (fun v137 h => ?_)
    refine wq_ge2 rfl h (fun h => ?_) (fun h => ?_)
    · refine wp_run 2 (pc' := 145) (lv' := [(0, .ref a0), (1, .long a1), (3, .int a3)]) (st' := [.ref a0, .long a1]) (mem' := mem) rfl ?_
      refine wq_gR rfl h (fun v145 h => ?_)
      refine wq_gR rfl h (fun v148 h => ?_)
      refine wp_run 2 (pc' := 153) (lv' := [(0, .ref a0), (1, .long a1), (3, .int a3)]) (st' := [.int 4, .int a3, .ref v148, .long a1]) (mem' := mem) rfl ?_
      refine wq_cJ rfl (kCall_s (as := [.long a1, .ref v148, .int a3, .int 4]) (rest := []) ⟨by decide, rfl⟩ (show 0 ≤ 8 by decide) (by decide)) h (fun r hr => ca_up (by decide) (m_K_mixedRow_ok xm N hr)) (fun v153 m153 h => ?_)
      refine wp_run 3 (pc' := 132) (lv' := [(3, .int (a3 + 1)), (1, .long v153), (0, .ref a0)]) (st' := []) (mem' := m153) rfl ?_
      refine kGo_sub (lvS_of [2, 1, 0] rfl [3, 1, 0] rfl (by decide)) ?_
      exact ih _ _ _ m153 R h
    · refine wp_run 2 (pc' := 165) (lv' := [(0, .ref a0), (1, .long a1), (3, .int a3)]) (st' := [.long a1, .ref a0]) (mem' := mem) rfl ?_
      obtain ⟨fk165, hk165, h⟩ := dRc_some h
      refine wq_cJ rfl (kCall_v hk165 (as := [.long a1]) (rest := []) ⟨by decide, rfl, (show 1 < 90 by decide), by decide⟩ (show 0 ≤ 8 by decide)) h (fun r hr => ca_up (by decide) (m_K_mixedPatterns_ok xm N hr)) (fun v165 m165 h => ?_)
      refine wp_run 3 (pc' := 171) (lv' := [(1, .long v165), (0, .ref a0), (3, .int a3)]) (st' := [.ref a0, .long v165]) (mem' := m165) rfl ?_
      obtain ⟨fk171, hk171, h⟩ := dRc_some h
      refine wq_cI rfl (kCall_v hk171 (as := []) (rest := [.long v165]) ⟨by decide, rfl, (show 0 < 90 by decide), by decide⟩ (show 2 ≤ 8 by decide)) h (fun r hr => ca_up (by decide) (m_K_bestPattern_ok xm N hr)) (fun v171 m171 h => ?_)
      refine wp_run 1 (pc' := 175) (lv' := [(1, .long v165), (0, .ref a0), (3, .int a3)]) (st' := [.long (Int32.toInt64 v171), .long v165]) (mem' := m171) rfl ?_
      refine wq_cJ rfl (kCall_s (as := [.long v165, .long (Int32.toInt64 v171)]) (rest := []) ⟨by decide, rfl⟩ (show 0 ≤ 8 by decide) (by decide)) h (fun r hr => ca_up (by decide) (m_K_mixed_ok xm N hr)) (fun v175 m175 h => ?_)
      exact wq_end rfl rfl h
def m_K_digest_31 (xm : Nat → Option kE) (N : Nat) : Nat → Nat → Int64 → Int32 → kM → dRes
  | 0, _, _, _, _ => none
  | n + 1, a0, a1, a3, mem =>
    dGR xm mem a0 11 0 fun v33 =>
    dGI xm mem v33 5 1 fun v36 =>
    if a3 < v36 then (
      dGR xm mem a0 11 0 fun v44 =>
      dRc xm mem v44 5 <|
      dCI (m_Balls_of xm N v44 a3 mem) fun v48 m48 =>
      dCJ (m_K_mixed xm N a1 (Int32.toInt64 v48) m48) fun v52 m52 =>
      m_K_digest_31 xm N n a0 v52 (a3 + 1) m52
    ) else (
      dGR xm mem a0 11 1 fun v65 =>
      dGR xm mem v65 10 0 fun v68 =>
      dRc xm mem a0 11 <|
      dCJ (m_K_mixedLoops xm N a0 a1 v68 mem) fun v71 m71 =>
      dGR xm m71 a0 11 1 fun v78 =>
      dGR xm m71 v78 10 1 fun v81 =>
      dRc xm m71 a0 11 <|
      dCJ (m_K_mixedLoops xm N a0 v71 v81 m71) fun v84 m84 =>
      dGR xm m84 a0 11 1 fun v94 =>
      dGR xm m84 v94 10 0 fun v97 =>
      dRc xm m84 a0 11 <|
      dCF (m_K_widthOf xm N a0 v97 m84) fun v100 m100 =>
      dF32 (FP.fmul 1090519040 v100) fun v103 =>
      dCJ (m_K_mixed xm N v84 (FP.f2l v103) m100) fun v105 m105 =>
      dGR xm m105 a0 11 1 fun v115 =>
      dGR xm m105 v115 10 1 fun v118 =>
      dRc xm m105 a0 11 <|
      dCF (m_K_widthOf xm N a0 v118 m105) fun v121 m121 =>
      dF32 (FP.fmul 1090519040 v121) fun v124 =>
      dCJ (m_K_mixed xm N v105 (FP.f2l v124) m121) fun v126 m126 =>
      m_K_digest_132 xm N N a0 v126 0 m126
    )
theorem m_K_digest_31_ok (xm : Nat → Option kE) (N : Nat) : ∀ (n : Nat) (a0 : Nat) (a1 : Int64) (a3 : Int32) (mem : kM) (R : kO × kM), m_K_digest_31 xm N n a0 a1 a3 mem = some R → kGo xm kSm kDfl kFty kG 7 66 31 [(0, .ref a0), (1, .long a1), (3, .int a3)] [] mem (dEq R) := by
  intro n
  induction n with
  | zero => intro a0 a1 a3 mem R h; cases h
  | succ n ih =>
    intro a0 a1 a3 mem R h
    rw [m_K_digest_31] at h
    refine wp_run 2 (pc' := 33) (lv' := [(0, .ref a0), (1, .long a1), (3, .int a3)]) (st' := [.ref a0, .int a3]) (mem' := mem) rfl ?_
    refine wq_gR rfl h (fun v33 h => ?_)
    refine wq_gI rfl h (fun v36 h => ?_)
    refine wq_ge2 rfl h (fun h => ?_) (fun h => ?_)
    · refine wp_run 2 (pc' := 44) (lv' := [(0, .ref a0), (1, .long a1), (3, .int a3)]) (st' := [.ref a0, .long a1]) (mem' := mem) rfl ?_
      refine wq_gR rfl h (fun v44 h => ?_)
      refine wp_run 1 (pc' := 48) (lv' := [(0, .ref a0), (1, .long a1), (3, .int a3)]) (st' := [.int a3, .ref v44, .long a1]) (mem' := mem) rfl ?_
      obtain ⟨fk48, hk48, h⟩ := dRc_some h
      refine wq_cI rfl (kCall_v hk48 (as := [.int a3]) (rest := [.long a1]) ⟨by decide, rfl, (show 1 < 90 by decide), by decide⟩ (show 2 ≤ 8 by decide)) h (fun r hr => ca_up (by decide) (m_Balls_of_ok xm N hr)) (fun v48 m48 h => ?_)
      refine wp_run 1 (pc' := 52) (lv' := [(0, .ref a0), (1, .long a1), (3, .int a3)]) (st' := [.long (Int32.toInt64 v48), .long a1]) (mem' := m48) rfl ?_
      refine wq_cJ rfl (kCall_s (as := [.long a1, .long (Int32.toInt64 v48)]) (rest := []) ⟨by decide, rfl⟩ (show 0 ≤ 8 by decide) (by decide)) h (fun r hr => ca_up (by decide) (m_K_mixed_ok xm N hr)) (fun v52 m52 h => ?_)
      refine wp_run 3 (pc' := 31) (lv' := [(3, .int (a3 + 1)), (1, .long v52), (0, .ref a0)]) (st' := []) (mem' := m52) rfl ?_
      refine kGo_sub (lvS_of [2, 1, 0] rfl [3, 1, 0] rfl (by decide)) ?_
      exact ih _ _ _ m52 R h
    · refine wp_run 3 (pc' := 65) (lv' := [(0, .ref a0), (1, .long a1), (3, .int a3)]) (st' := [.ref a0, .long a1, .ref a0]) (mem' := mem) rfl ?_
      refine wq_gR rfl h (fun v65 h => ?_)
      refine wq_gR rfl h (fun v68 h => ?_)
      obtain ⟨fk71, hk71, h⟩ := dRc_some h
      refine wq_cJ rfl (kCall_v hk71 (as := [.long a1, .ref v68]) (rest := []) ⟨by decide, rfl, (show 2 < 90 by decide), by decide⟩ (show 0 ≤ 8 by decide)) h (fun r hr => ca_up (by decide) (m_K_mixedLoops_ok xm N hr)) (fun v71 m71 h => ?_)
      refine wp_run 4 (pc' := 78) (lv' := [(1, .long v71), (0, .ref a0), (3, .int a3)]) (st' := [.ref a0, .long v71, .ref a0]) (mem' := m71) rfl ?_
      refine wq_gR rfl h (fun v78 h => ?_)
      refine wq_gR rfl h (fun v81 h => ?_)
      obtain ⟨fk84, hk84, h⟩ := dRc_some h
      refine wq_cJ rfl (kCall_v hk84 (as := [.long v71, .ref v81]) (rest := []) ⟨by decide, rfl, (show 2 < 90 by decide), by decide⟩ (show 0 ≤ 8 by decide)) h (fun r hr => ca_up (by decide) (m_K_mixedLoops_ok xm N hr)) (fun v84 m84 h => ?_)
      refine wp_run 5 (pc' := 94) (lv' := [(1, .long v84), (0, .ref a0), (3, .int a3)]) (st' := [.ref a0, .ref a0, .float 1090519040, .long v84]) (mem' := m84) rfl ?_
      refine wq_gR rfl h (fun v94 h => ?_)
      refine wq_gR rfl h (fun v97 h => ?_)
      obtain ⟨fk100, hk100, h⟩ := dRc_some h
      refine wq_cF rfl (kCall_v hk100 (as := [.ref v97]) (rest := [.float 1090519040, .long v84]) ⟨by decide, rfl, (show 1 < 90 by decide), by decide⟩ (show 3 ≤ 8 by decide)) h (fun r hr => ca_up (by decide) (m_K_widthOf_ok xm N hr)) (fun v100 m100 h => ?_)
      refine wq_fmul rfl h (fun v103 h => ?_)
      refine wp_run 1 (pc' := 105) (lv' := [(1, .long v84), (0, .ref a0), (3, .int a3)]) (st' := [.long (FP.f2l v103), .long v84]) (mem' := m100) rfl ?_
      refine wq_cJ rfl (kCall_s (as := [.long v84, .long (FP.f2l v103)]) (rest := []) ⟨by decide, rfl⟩ (show 0 ≤ 8 by decide) (by decide)) h (fun r hr => ca_up (by decide) (m_K_mixed_ok xm N hr)) (fun v105 m105 h => ?_)
      refine wp_run 5 (pc' := 115) (lv' := [(1, .long v105), (0, .ref a0), (3, .int a3)]) (st' := [.ref a0, .ref a0, .float 1090519040, .long v105]) (mem' := m105) rfl ?_
      refine wq_gR rfl h (fun v115 h => ?_)
      refine wq_gR rfl h (fun v118 h => ?_)
      obtain ⟨fk121, hk121, h⟩ := dRc_some h
      refine wq_cF rfl (kCall_v hk121 (as := [.ref v118]) (rest := [.float 1090519040, .long v105]) ⟨by decide, rfl, (show 1 < 90 by decide), by decide⟩ (show 3 ≤ 8 by decide)) h (fun r hr => ca_up (by decide) (m_K_widthOf_ok xm N hr)) (fun v121 m121 h => ?_)
      refine wq_fmul rfl h (fun v124 h => ?_)
      refine wp_run 1 (pc' := 126) (lv' := [(1, .long v105), (0, .ref a0), (3, .int a3)]) (st' := [.long (FP.f2l v124), .long v105]) (mem' := m121) rfl ?_
      refine wq_cJ rfl (kCall_s (as := [.long v105, .long (FP.f2l v124)]) (rest := []) ⟨by decide, rfl⟩ (show 0 ≤ 8 by decide) (by decide)) h (fun r hr => ca_up (by decide) (m_K_mixed_ok xm N hr)) (fun v126 m126 h => ?_)
      refine wp_run 3 (pc' := 132) (lv' := [(3, .int 0), (1, .long v126), (0, .ref a0)]) (st' := []) (mem' := m126) rfl ?_
      refine kGo_sub (lvS_of [2, 1, 0] rfl [3, 1, 0] rfl (by decide)) ?_
      exact m_K_digest_132_ok xm N N _ _ _ m126 R h
def m_K_digest_6 (xm : Nat → Option kE) (N : Nat) : Nat → Nat → Int64 → Int32 → kM → dRes
  | 0, _, _, _, _ => none
  | n + 1, a0, a1, a3, mem =>
    if a3 < 16 then (
      dRc xm mem a0 11 <|
      dCI (m_K_number xm N a0 a3 mem) fun v15 m15 =>
      dCJ (m_K_mixed xm N a1 (Int32.toInt64 v15) m15) fun v19 m19 =>
      m_K_digest_6 xm N n a0 v19 (a3 + 1) m19
    ) else (
      m_K_digest_31 xm N N a0 a1 0 mem
    )
theorem m_K_digest_6_ok (xm : Nat → Option kE) (N : Nat) : ∀ (n : Nat) (a0 : Nat) (a1 : Int64) (a3 : Int32) (mem : kM) (R : kO × kM), m_K_digest_6 xm N n a0 a1 a3 mem = some R → kGo xm kSm kDfl kFty kG 7 66 6 [(0, .ref a0), (1, .long a1), (3, .int a3)] [] mem (dEq R) := by
  intro n
  induction n with
  | zero => intro a0 a1 a3 mem R h; cases h
  | succ n ih =>
    intro a0 a1 a3 mem R h
    rw [m_K_digest_6] at h
    refine wp_run 2 (pc' := 9) (lv' := [(0, .ref a0), (1, .long a1), (3, .int a3)]) (st' := [.int 16, .int a3]) (mem' := mem) rfl ?_
    refine wq_ge2 rfl h (fun h => ?_) (fun h => ?_)
    · refine wp_run 3 (pc' := 15) (lv' := [(0, .ref a0), (1, .long a1), (3, .int a3)]) (st' := [.int a3, .ref a0, .long a1]) (mem' := mem) rfl ?_
      obtain ⟨fk15, hk15, h⟩ := dRc_some h
      refine wq_cI rfl (kCall_v hk15 (as := [.int a3]) (rest := [.long a1]) ⟨by decide, rfl, (show 1 < 90 by decide), by decide⟩ (show 2 ≤ 8 by decide)) h (fun r hr => ca_up (by decide) (m_K_number_ok xm N hr)) (fun v15 m15 h => ?_)
      refine wp_run 1 (pc' := 19) (lv' := [(0, .ref a0), (1, .long a1), (3, .int a3)]) (st' := [.long (Int32.toInt64 v15), .long a1]) (mem' := m15) rfl ?_
      refine wq_cJ rfl (kCall_s (as := [.long a1, .long (Int32.toInt64 v15)]) (rest := []) ⟨by decide, rfl⟩ (show 0 ≤ 8 by decide) (by decide)) h (fun r hr => ca_up (by decide) (m_K_mixed_ok xm N hr)) (fun v19 m19 h => ?_)
      refine wp_run 3 (pc' := 6) (lv' := [(3, .int (a3 + 1)), (1, .long v19), (0, .ref a0)]) (st' := []) (mem' := m19) rfl ?_
      refine kGo_sub (lvS_of [2, 1, 0] rfl [3, 1, 0] rfl (by decide)) ?_
      exact ih _ _ _ m19 R h
    · refine wp_run 2 (pc' := 31) (lv' := [(3, .int 0), (0, .ref a0), (1, .long a1)]) (st' := []) (mem' := mem) rfl ?_
      refine kGo_sub (lvS_of [1, 2, 0] rfl [3, 0, 1] rfl (by decide)) ?_
      exact m_K_digest_31_ok xm N N _ _ _ mem R h
def m_K_digest (xm : Nat → Option kE) (N : Nat) (a0 : Nat) (mem : kM) : dRes :=
  m_K_digest_6 xm N N a0 58309 0 mem
theorem m_K_digest_ok (xm : Nat → Option kE) (N : Nat) {a0 : Nat} {mem : kM} {R : kO × kM} (h : m_K_digest xm N a0 mem = some R) : kCa xm kSm kDfl kFty kG 8 66 [.ref a0] mem (dEq R) := by
  refine wq_ca (show 1 ≤ 4 by decide) ?_
  change kGo xm kSm kDfl kFty kG 7 66 0 [(0, .ref a0)] [] mem (dEq R)
  unfold m_K_digest at h
  refine wp_run 4 (pc' := 6) (lv' := [(3, .int 0), (1, .long 58309), (0, .ref a0)]) (st' := []) (mem' := mem) rfl ?_
  refine kGo_sub (lvS_of [2, 1, 0] rfl [3, 1, 0] rfl (by decide)) ?_
  exact m_K_digest_6_ok xm N N _ _ _ mem R h
/-- KnitsteadLaw$Out.init()V -/
def m_Out_new (xm : Nat → Option kE) (N : Nat) (a0 : Nat) (mem : kM) : dRes :=
  some (.inl none, mem)
theorem m_Out_new_ok (xm : Nat → Option kE) (N : Nat) {a0 : Nat} {mem : kM} {R : kO × kM} (h : m_Out_new xm N a0 mem = some R) : kCa xm kSm kDfl kFty kG 1 101 [.ref a0] mem (dEq R) := by
  refine wq_ca (show 1 ≤ 1 by decide) ?_
  change kGo xm kSm kDfl kFty kG 0 101 0 [(0, .ref a0)] [] mem (dEq R)
  unfold m_Out_new at h
  refine wp_run 2 (pc' := 4) (lv' := [(0, .ref a0)]) (st' := []) (mem' := mem) rfl ?_
  exact wq_end rfl rfl h
/-- java/util/AbstractCollection.init()V -/
def m_AC_new (xm : Nat → Option kE) (N : Nat) (a0 : Nat) (mem : kM) : dRes :=
  some (.inl none, mem)
theorem m_AC_new_ok (xm : Nat → Option kE) (N : Nat) {a0 : Nat} {mem : kM} {R : kO × kM} (h : m_AC_new xm N a0 mem = some R) : kCa xm kSm kDfl kFty kG 1 204 [.ref a0] mem (dEq R) := by
  refine wq_ca (show 1 ≤ 1 by decide) ?_
  change kGo xm kSm kDfl kFty kG 0 204 0 [(0, .ref a0)] [] mem (dEq R)
  unfold m_AC_new at h
  refine wp_run 2 (pc' := 4) (lv' := [(0, .ref a0)]) (st' := []) (mem' := mem) rfl ?_
  exact wq_end rfl rfl h
/-- java/util/AbstractList.init()V -/
def m_ALs_new (xm : Nat → Option kE) (N : Nat) (a0 : Nat) (mem : kM) : dRes :=
  dCV (m_AC_new xm N a0 mem) fun m1 =>
  dP xm m1 a0 4 0 (.int 0) fun m6 =>
  some (.inl none, m6)
theorem m_ALs_new_ok (xm : Nat → Option kE) (N : Nat) {a0 : Nat} {mem : kM} {R : kO × kM} (h : m_ALs_new xm N a0 mem = some R) : kCa xm kSm kDfl kFty kG 2 205 [.ref a0] mem (dEq R) := by
  refine wq_ca (show 1 ≤ 1 by decide) ?_
  change kGo xm kSm kDfl kFty kG 1 205 0 [(0, .ref a0)] [] mem (dEq R)
  unfold m_ALs_new at h
  refine wp_run 1 (pc' := 1) (lv' := [(0, .ref a0)]) (st' := [.ref a0]) (mem' := mem) rfl ?_
  refine wq_cV rfl (kCall_i (as := []) (rest := []) ⟨by decide, rfl, (show 0 < 90 by decide)⟩ (show 0 ≤ 8 by decide)) h (fun r hr => ca_up (by decide) (m_AC_new_ok xm N hr)) (fun m1 h => ?_)
  refine wp_run 2 (pc' := 6) (lv' := [(0, .ref a0)]) (st' := [.int 0, .ref a0]) (mem' := m1) rfl ?_
  refine wq_p rfl rfl h (fun m6 h => ?_)
  exact wq_end rfl rfl h
/-- java/util/ArrayList.init()V -/
def m_AL_new (xm : Nat → Option kE) (N : Nat) (a0 : Nat) (mem : kM) : dRes :=
  dCV (m_ALs_new xm N a0 mem) fun m1 =>
  dP xm m1 a0 4 1 (.ref 1) fun m8 =>
  some (.inl none, m8)
theorem m_AL_new_ok (xm : Nat → Option kE) (N : Nat) {a0 : Nat} {mem : kM} {R : kO × kM} (h : m_AL_new xm N a0 mem = some R) : kCa xm kSm kDfl kFty kG 3 210 [.ref a0] mem (dEq R) := by
  refine wq_ca (show 1 ≤ 1 by decide) ?_
  change kGo xm kSm kDfl kFty kG 2 210 0 [(0, .ref a0)] [] mem (dEq R)
  unfold m_AL_new at h
  refine wp_run 1 (pc' := 1) (lv' := [(0, .ref a0)]) (st' := [.ref a0]) (mem' := mem) rfl ?_
  refine wq_cV rfl (kCall_i (as := []) (rest := []) ⟨by decide, rfl, (show 0 < 90 by decide)⟩ (show 0 ≤ 8 by decide)) h (fun r hr => ca_up (by decide) (m_ALs_new_ok xm N hr)) (fun m1 h => ?_)
  refine wp_run 2 (pc' := 8) (lv' := [(0, .ref a0)]) (st' := [.ref 1, .ref a0]) (mem' := m1) rfl ?_
  refine wq_p rfl rfl h (fun m8 h => ?_)
  exact wq_end rfl rfl h
/-- KnitsteadModel$State.init()V -/
def m_MS_new (xm : Nat → Option kE) (N : Nat) (a0 : Nat) (mem : kM) : dRes :=
  dN mem (.inl (4, [.int 0, .null, .int 0])) fun m5 p5 =>
  dCV (m_AL_new xm N p5 m5) fun m9 =>
  dP xm m9 a0 14 0 (.ref p5) fun m12 =>
  dN m12 (.inl (4, [.int 0, .null, .int 0])) fun m16 p16 =>
  dCV (m_AL_new xm N p16 m16) fun m20 =>
  dP xm m20 a0 14 1 (.ref p16) fun m23 =>
  dN m23 (.inl (4, [.int 0, .null, .int 0])) fun m27 p27 =>
  dCV (m_AL_new xm N p27 m27) fun m31 =>
  dP xm m31 a0 14 2 (.ref p27) fun m34 =>
  dNI 0 m34 4 fun m39 p39 =>
  dP xm m39 a0 14 3 (.ref p39) fun m41 =>
  some (.inl none, m41)
theorem m_MS_new_ok (xm : Nat → Option kE) (N : Nat) {a0 : Nat} {mem : kM} {R : kO × kM} (h : m_MS_new xm N a0 mem = some R) : kCa xm kSm kDfl kFty kG 4 104 [.ref a0] mem (dEq R) := by
  refine wq_ca (show 1 ≤ 1 by decide) ?_
  change kGo xm kSm kDfl kFty kG 3 104 0 [(0, .ref a0)] [] mem (dEq R)
  unfold m_MS_new at h
  refine wp_run 3 (pc' := 5) (lv' := [(0, .ref a0)]) (st' := [.ref a0]) (mem' := mem) rfl ?_
  refine wq_n rfl (by decide) rfl h (fun m5 p5 h => ?_)
  refine wp_run 1 (pc' := 9) (lv' := [(0, .ref a0)]) (st' := [.ref p5, .ref p5, .ref a0]) (mem' := m5) rfl ?_
  refine wq_cV rfl (kCall_i (as := []) (rest := [.ref p5, .ref a0]) ⟨by decide, rfl, (show 0 < 90 by decide)⟩ (show 2 ≤ 8 by decide)) h (fun r hr => ca_up (by decide) (m_AL_new_ok xm N hr)) (fun m9 h => ?_)
  refine wq_p rfl rfl h (fun m12 h => ?_)
  refine wp_run 1 (pc' := 16) (lv' := [(0, .ref a0)]) (st' := [.ref a0]) (mem' := m12) rfl ?_
  refine wq_n rfl (by decide) rfl h (fun m16 p16 h => ?_)
  refine wp_run 1 (pc' := 20) (lv' := [(0, .ref a0)]) (st' := [.ref p16, .ref p16, .ref a0]) (mem' := m16) rfl ?_
  refine wq_cV rfl (kCall_i (as := []) (rest := [.ref p16, .ref a0]) ⟨by decide, rfl, (show 0 < 90 by decide)⟩ (show 2 ≤ 8 by decide)) h (fun r hr => ca_up (by decide) (m_AL_new_ok xm N hr)) (fun m20 h => ?_)
  refine wq_p rfl rfl h (fun m23 h => ?_)
  refine wp_run 1 (pc' := 27) (lv' := [(0, .ref a0)]) (st' := [.ref a0]) (mem' := m23) rfl ?_
  refine wq_n rfl (by decide) rfl h (fun m27 p27 h => ?_)
  refine wp_run 1 (pc' := 31) (lv' := [(0, .ref a0)]) (st' := [.ref p27, .ref p27, .ref a0]) (mem' := m27) rfl ?_
  refine wq_cV rfl (kCall_i (as := []) (rest := [.ref p27, .ref a0]) ⟨by decide, rfl, (show 0 < 90 by decide)⟩ (show 2 ≤ 8 by decide)) h (fun r hr => ca_up (by decide) (m_AL_new_ok xm N hr)) (fun m31 h => ?_)
  refine wq_p rfl rfl h (fun m34 h => ?_)
  refine wp_run 2 (pc' := 39) (lv' := [(0, .ref a0)]) (st' := [.int 4, .ref a0]) (mem' := m34) rfl ?_
  refine wq_nI rfl rfl h (fun m39 p39 h => ?_)
  refine wq_p rfl rfl h (fun m41 h => ?_)
  exact wq_end rfl rfl h
/-- KnitsteadModel.init()V -/
def m_M_new (xm : Nat → Option kE) (N : Nat) (a0 : Nat) (mem : kM) : dRes :=
  dN mem (.inl (4, [.int 0, .null, .int 0])) fun m5 p5 =>
  dCV (m_AL_new xm N p5 m5) fun m9 =>
  dP xm m9 a0 15 1 (.ref p5) fun m12 =>
  dN m12 (.inl (4, [.int 0, .null, .int 0])) fun m16 p16 =>
  dCV (m_AL_new xm N p16 m16) fun m20 =>
  dP xm m20 a0 15 2 (.ref p16) fun m23 =>
  dN m23 (.inl (4, [.int 0, .null, .int 0])) fun m27 p27 =>
  dCV (m_AL_new xm N p27 m27) fun m31 =>
  dP xm m31 a0 15 3 (.ref p27) fun m34 =>
  dN m34 (.inl (4, [.int 0, .null, .int 0])) fun m38 p38 =>
  dCV (m_AL_new xm N p38 m38) fun m42 =>
  dP xm m42 a0 15 4 (.ref p38) fun m45 =>
  dN m45 (.inl (14, [.null, .null, .null, .null, .int 0, .int 0, .int 0, .int 0, .int 0, .int 0, .int 0])) fun m49 p49 =>
  dCV (m_MS_new xm N p49 m49) fun m53 =>
  dP xm m53 a0 15 5 (.ref p49) fun m56 =>
  dP xm m56 a0 15 7 (.int (-1)) fun m61 =>
  some (.inl none, m61)
theorem m_M_new_ok (xm : Nat → Option kE) (N : Nat) {a0 : Nat} {mem : kM} {R : kO × kM} (h : m_M_new xm N a0 mem = some R) : kCa xm kSm kDfl kFty kG 5 107 [.ref a0] mem (dEq R) := by
  refine wq_ca (show 1 ≤ 1 by decide) ?_
  change kGo xm kSm kDfl kFty kG 4 107 0 [(0, .ref a0)] [] mem (dEq R)
  unfold m_M_new at h
  refine wp_run 3 (pc' := 5) (lv' := [(0, .ref a0)]) (st' := [.ref a0]) (mem' := mem) rfl ?_
  refine wq_n rfl (by decide) rfl h (fun m5 p5 h => ?_)
  refine wp_run 1 (pc' := 9) (lv' := [(0, .ref a0)]) (st' := [.ref p5, .ref p5, .ref a0]) (mem' := m5) rfl ?_
  refine wq_cV rfl (kCall_i (as := []) (rest := [.ref p5, .ref a0]) ⟨by decide, rfl, (show 0 < 90 by decide)⟩ (show 2 ≤ 8 by decide)) h (fun r hr => ca_up (by decide) (m_AL_new_ok xm N hr)) (fun m9 h => ?_)
  refine wq_p rfl rfl h (fun m12 h => ?_)
  refine wp_run 1 (pc' := 16) (lv' := [(0, .ref a0)]) (st' := [.ref a0]) (mem' := m12) rfl ?_
  refine wq_n rfl (by decide) rfl h (fun m16 p16 h => ?_)
  refine wp_run 1 (pc' := 20) (lv' := [(0, .ref a0)]) (st' := [.ref p16, .ref p16, .ref a0]) (mem' := m16) rfl ?_
  refine wq_cV rfl (kCall_i (as := []) (rest := [.ref p16, .ref a0]) ⟨by decide, rfl, (show 0 < 90 by decide)⟩ (show 2 ≤ 8 by decide)) h (fun r hr => ca_up (by decide) (m_AL_new_ok xm N hr)) (fun m20 h => ?_)
  refine wq_p rfl rfl h (fun m23 h => ?_)
  refine wp_run 1 (pc' := 27) (lv' := [(0, .ref a0)]) (st' := [.ref a0]) (mem' := m23) rfl ?_
  refine wq_n rfl (by decide) rfl h (fun m27 p27 h => ?_)
  refine wp_run 1 (pc' := 31) (lv' := [(0, .ref a0)]) (st' := [.ref p27, .ref p27, .ref a0]) (mem' := m27) rfl ?_
  refine wq_cV rfl (kCall_i (as := []) (rest := [.ref p27, .ref a0]) ⟨by decide, rfl, (show 0 < 90 by decide)⟩ (show 2 ≤ 8 by decide)) h (fun r hr => ca_up (by decide) (m_AL_new_ok xm N hr)) (fun m31 h => ?_)
  refine wq_p rfl rfl h (fun m34 h => ?_)
  refine wp_run 1 (pc' := 38) (lv' := [(0, .ref a0)]) (st' := [.ref a0]) (mem' := m34) rfl ?_
  refine wq_n rfl (by decide) rfl h (fun m38 p38 h => ?_)
  refine wp_run 1 (pc' := 42) (lv' := [(0, .ref a0)]) (st' := [.ref p38, .ref p38, .ref a0]) (mem' := m38) rfl ?_
  refine wq_cV rfl (kCall_i (as := []) (rest := [.ref p38, .ref a0]) ⟨by decide, rfl, (show 0 < 90 by decide)⟩ (show 2 ≤ 8 by decide)) h (fun r hr => ca_up (by decide) (m_AL_new_ok xm N hr)) (fun m42 h => ?_)
  refine wq_p rfl rfl h (fun m45 h => ?_)
  refine wp_run 1 (pc' := 49) (lv' := [(0, .ref a0)]) (st' := [.ref a0]) (mem' := m45) rfl ?_
  refine wq_n rfl (by decide) rfl h (fun m49 p49 h => ?_)
  refine wp_run 1 (pc' := 53) (lv' := [(0, .ref a0)]) (st' := [.ref p49, .ref p49, .ref a0]) (mem' := m49) rfl ?_
  refine wq_cV rfl (kCall_i (as := []) (rest := [.ref p49, .ref a0]) ⟨by decide, rfl, (show 0 < 90 by decide)⟩ (show 2 ≤ 8 by decide)) h (fun r hr => ca_up (by decide) (m_MS_new_ok xm N hr)) (fun m53 h => ?_)
  refine wq_p rfl rfl h (fun m56 h => ?_)
  refine wp_run 2 (pc' := 61) (lv' := [(0, .ref a0)]) (st' := [.int (-1), .ref a0]) (mem' := m56) rfl ?_
  refine wq_p rfl rfl h (fun m61 h => ?_)
  exact wq_end rfl rfl h
/-- KnitsteadModel.refuse(I)I -/
def m_M_refuse (xm : Nat → Option kE) (N : Nat) (a0 : Nat) (a1 : Int32) (mem : kM) : dRes :=
  dP xm mem a0 15 0 (.int a1) fun m2 =>
  some (.inl (some (.int 0)), m2)
theorem m_M_refuse_ok (xm : Nat → Option kE) (N : Nat) {a0 : Nat} {a1 : Int32} {mem : kM} {R : kO × kM} (h : m_M_refuse xm N a0 a1 mem = some R) : kCa xm kSm kDfl kFty kG 1 108 [.ref a0, .int a1] mem (dEq R) := by
  refine wq_ca (show 2 ≤ 2 by decide) ?_
  change kGo xm kSm kDfl kFty kG 0 108 0 [(0, .ref a0), (1, .int a1)] [] mem (dEq R)
  unfold m_M_refuse at h
  refine wp_run 2 (pc' := 2) (lv' := [(0, .ref a0), (1, .int a1)]) (st' := [.int a1, .ref a0]) (mem' := mem) rfl ?_
  refine wq_p rfl rfl h (fun m2 h => ?_)
  refine wp_run 1 (pc' := 6) (lv' := [(0, .ref a0), (1, .int a1)]) (st' := [.int 0]) (mem' := m2) rfl ?_
  exact wq_ret rfl rfl h
/-- KnitsteadModel.is(III)Z -/
def m_M_is (xm : Nat → Option kE) (N : Nat) (a0 : Int32) (a1 : Int32) (a2 : Int32) (mem : kM) : dRes :=
  if a0 < a1 then (
    some (.inl (some (.int 0)), mem)
  ) else (
    if a2 < a0 then (
      some (.inl (some (.int 0)), mem)
    ) else (
      some (.inl (some (.int 1)), mem)
    )
  )
theorem m_M_is_ok (xm : Nat → Option kE) (N : Nat) {a0 : Int32} {a1 : Int32} {a2 : Int32} {mem : kM} {R : kO × kM} (h : m_M_is xm N a0 a1 a2 mem = some R) : kCa xm kSm kDfl kFty kG 1 109 [.int a0, .int a1, .int a2] mem (dEq R) := by
  refine wq_ca (show 3 ≤ 3 by decide) ?_
  change kGo xm kSm kDfl kFty kG 0 109 0 [(0, .int a0), (1, .int a1), (2, .int a2)] [] mem (dEq R)
  unfold m_M_is at h
  refine wp_run 2 (pc' := 2) (lv' := [(0, .int a0), (1, .int a1), (2, .int a2)]) (st' := [.int a1, .int a0]) (mem' := mem) rfl ?_
  refine wq_lt2 rfl h (fun h => ?_) (fun h => ?_)
  · refine wp_run 1 (pc' := 15) (lv' := [(0, .int a0), (1, .int a1), (2, .int a2)]) (st' := [.int 0]) (mem' := mem) rfl ?_
    exact wq_ret rfl rfl h
  · refine wp_run 2 (pc' := 7) (lv' := [(0, .int a0), (1, .int a1), (2, .int a2)]) (st' := [.int a2, .int a0]) (mem' := mem) rfl ?_
    refine wq_gt2 rfl h (fun h => ?_) (fun h => ?_)
    · refine wp_run 1 (pc' := 15) (lv' := [(0, .int a0), (1, .int a1), (2, .int a2)]) (st' := [.int 0]) (mem' := mem) rfl ?_
      exact wq_ret rfl rfl h
    · refine wp_run 2 (pc' := 15) (lv' := [(0, .int a0), (1, .int a1), (2, .int a2)]) (st' := [.int 1]) (mem' := mem) rfl ?_
      exact wq_ret rfl rfl h
/-- java/util/ArrayList$Itr.hasNext()Z -/
def m_Itr_hasNext (xm : Nat → Option kE) (N : Nat) (a0 : Nat) (mem : kM) : dRes :=
  dGI xm mem a0 3 0 fun v1 =>
  dGR xm mem a0 3 3 fun v5 =>
  dGI xm mem v5 4 2 fun v8 =>
  if v1 = v8 then (
    some (.inl (some (.int 0)), mem)
  ) else (
    some (.inl (some (.int 1)), mem)
  )
theorem m_Itr_hasNext_ok (xm : Nat → Option kE) (N : Nat) {a0 : Nat} {mem : kM} {R : kO × kM} (h : m_Itr_hasNext xm N a0 mem = some R) : kCa xm kSm kDfl kFty kG 1 207 [.ref a0] mem (dEq R) := by
  refine wq_ca (show 1 ≤ 1 by decide) ?_
  change kGo xm kSm kDfl kFty kG 0 207 0 [(0, .ref a0)] [] mem (dEq R)
  unfold m_Itr_hasNext at h
  refine wp_run 1 (pc' := 1) (lv' := [(0, .ref a0)]) (st' := [.ref a0]) (mem' := mem) rfl ?_
  refine wq_gI rfl h (fun v1 h => ?_)
  refine wp_run 1 (pc' := 5) (lv' := [(0, .ref a0)]) (st' := [.ref a0, .int v1]) (mem' := mem) rfl ?_
  refine wq_gR rfl h (fun v5 h => ?_)
  refine wq_gI rfl h (fun v8 h => ?_)
  refine wq_eq2 rfl h (fun h => ?_) (fun h => ?_)
  · refine wp_run 1 (pc' := 19) (lv' := [(0, .ref a0)]) (st' := [.int 0]) (mem' := mem) rfl ?_
    exact wq_ret rfl rfl h
  · refine wp_run 2 (pc' := 19) (lv' := [(0, .ref a0)]) (st' := [.int 1]) (mem' := mem) rfl ?_
    exact wq_ret rfl rfl h
/-- java/util/ArrayList$Itr.checkForComodification()V -/
def m_Itr_checkForComodification (xm : Nat → Option kE) (N : Nat) (a0 : Nat) (mem : kM) : dRes :=
  dGR xm mem a0 3 3 fun v1 =>
  dGI xm mem v1 4 0 fun v4 =>
  dGI xm mem a0 3 2 fun v8 =>
  if v4 = v8 then (
    some (.inl none, mem)
  ) else (
    none
  )
theorem m_Itr_checkForComodification_ok (xm : Nat → Option kE) (N : Nat) {a0 : Nat} {mem : kM} {R : kO × kM} (h : m_Itr_checkForComodification xm N a0 mem = some R) : kCa xm kSm kDfl kFty kG 1 209 [.ref a0] mem (dEq R) := by
  refine wq_ca (show 1 ≤ 1 by decide) ?_
  change kGo xm kSm kDfl kFty kG 0 209 0 [(0, .ref a0)] [] mem (dEq R)
  unfold m_Itr_checkForComodification at h
  refine wp_run 1 (pc' := 1) (lv' := [(0, .ref a0)]) (st' := [.ref a0]) (mem' := mem) rfl ?_
  refine wq_gR rfl h (fun v1 h => ?_)
  refine wq_gI rfl h (fun v4 h => ?_)
  refine wp_run 1 (pc' := 8) (lv' := [(0, .ref a0)]) (st' := [.ref a0, .int v4]) (mem' := mem) rfl ?_
  refine wq_gI rfl h (fun v8 h => ?_)
  refine wq_eq2 rfl h (fun h => ?_) (fun h => ?_)
  · exact wq_end rfl rfl h
  · cases h
/-- java/util/ArrayList$Itr.next()Ljava/lang/Object; -/
def m_Itr_next (xm : Nat → Option kE) (N : Nat) (a0 : Nat) (mem : kM) : dRes :=
  dRc xm mem a0 3 <|
  dCV (m_Itr_checkForComodification xm N a0 mem) fun m1 =>
  dGI xm m1 a0 3 0 fun v5 =>
  dGR xm m1 a0 3 3 fun v11 =>
  dGI xm m1 v11 4 2 fun v14 =>
  if v5 < v14 then (
    dGR xm m1 a0 3 3 fun v29 =>
    dGR xm m1 v29 4 1 fun v32 =>
    dLen xm m1 v32 fun v38 =>
    if v5 < v38 then (
      dP xm m1 a0 3 0 (.int (v5 + 1)) fun m54 =>
      dP xm m54 a0 3 1 (.int v5) fun m61 =>
      dAL xm m61 v32 v5 fun v64 =>
      some (.inl (some (.ref v64)), m61)
    ) else (
      none
    )
  ) else (
    none
  )
theorem m_Itr_next_ok (xm : Nat → Option kE) (N : Nat) {a0 : Nat} {mem : kM} {R : kO × kM} (h : m_Itr_next xm N a0 mem = some R) : kCa xm kSm kDfl kFty kG 2 208 [.ref a0] mem (dEq R) := by
  refine wq_ca (show 1 ≤ 3 by decide) ?_
  change kGo xm kSm kDfl kFty kG 1 208 0 [(0, .ref a0)] [] mem (dEq R)
  unfold m_Itr_next at h
  refine wp_run 1 (pc' := 1) (lv' := [(0, .ref a0)]) (st' := [.ref a0]) (mem' := mem) rfl ?_
  obtain ⟨fk1, hk1, h⟩ := dRc_some h
  refine wq_cV rfl (kCall_v hk1 (as := []) (rest := []) ⟨by decide, rfl, (show 0 < 90 by decide), by decide⟩ (show 0 ≤ 8 by decide)) h (fun r hr => ca_up (by decide) (m_Itr_checkForComodification_ok xm N hr)) (fun m1 h => ?_)
  refine wp_run 1 (pc' := 5) (lv' := [(0, .ref a0)]) (st' := [.ref a0]) (mem' := m1) rfl ?_
  refine wq_gI rfl h (fun v5 h => ?_)
  refine wp_run 3 (pc' := 11) (lv' := [(1, .int v5), (0, .ref a0)]) (st' := [.ref a0, .int v5]) (mem' := m1) rfl ?_
  refine wq_gR rfl h (fun v11 h => ?_)
  refine wq_gI rfl h (fun v14 h => ?_)
  refine wq_lt2 rfl h (fun h => ?_) (fun h => ?_)
  · refine wp_run 1 (pc' := 29) (lv' := [(1, .int v5), (0, .ref a0)]) (st' := [.ref a0]) (mem' := m1) rfl ?_
    refine wq_gR rfl h (fun v29 h => ?_)
    refine wq_gR rfl h (fun v32 h => ?_)
    refine wp_run 3 (pc' := 38) (lv' := [(2, .ref v32), (1, .int v5), (0, .ref a0)]) (st' := [.ref v32, .int v5]) (mem' := m1) rfl ?_
    refine wq_len rfl h (fun v38 h => ?_)
    refine wq_lt2 rfl h (fun h => ?_) (fun h => ?_)
    · refine wp_run 4 (pc' := 54) (lv' := [(2, .ref v32), (1, .int v5), (0, .ref a0)]) (st' := [.int (v5 + 1), .ref a0]) (mem' := m1) rfl ?_
      refine wq_p rfl rfl h (fun m54 h => ?_)
      refine wp_run 4 (pc' := 61) (lv' := [(2, .ref v32), (1, .int v5), (0, .ref a0)]) (st' := [.int v5, .ref a0, .int v5, .ref v32]) (mem' := m54) rfl ?_
      refine wq_p rfl rfl h (fun m61 h => ?_)
      refine wq_aL rfl h (fun v64 h => ?_)
      exact wq_end rfl rfl h
    · cases h
  · cases h
/-- java/util/ArrayList$Itr.init(Ljava/util/ArrayList;)V -/
def m_Itr_new (xm : Nat → Option kE) (N : Nat) (a0 : Nat) (a1 : Nat) (mem : kM) : dRes :=
  dP xm mem a0 3 3 (.ref a1) fun m2 =>
  dP xm m2 a0 3 1 (.int (-1)) fun m11 =>
  dGR xm m11 a0 3 3 fun v16 =>
  dGI xm m11 v16 4 0 fun v19 =>
  dP xm m11 a0 3 2 (.int v19) fun m22 =>
  some (.inl none, m22)
theorem m_Itr_new_ok (xm : Nat → Option kE) (N : Nat) {a0 : Nat} {a1 : Nat} {mem : kM} {R : kO × kM} (h : m_Itr_new xm N a0 a1 mem = some R) : kCa xm kSm kDfl kFty kG 1 206 [.ref a0, .ref a1] mem (dEq R) := by
  refine wq_ca (show 2 ≤ 2 by decide) ?_
  change kGo xm kSm kDfl kFty kG 0 206 0 [(0, .ref a0), (1, .ref a1)] [] mem (dEq R)
  unfold m_Itr_new at h
  refine wp_run 2 (pc' := 2) (lv' := [(0, .ref a0), (1, .ref a1)]) (st' := [.ref a1, .ref a0]) (mem' := mem) rfl ?_
  refine wq_p rfl rfl h (fun m2 h => ?_)
  refine wp_run 4 (pc' := 11) (lv' := [(0, .ref a0), (1, .ref a1)]) (st' := [.int (-1), .ref a0]) (mem' := m2) rfl ?_
  refine wq_p rfl rfl h (fun m11 h => ?_)
  refine wp_run 2 (pc' := 16) (lv' := [(0, .ref a0), (1, .ref a1)]) (st' := [.ref a0, .ref a0]) (mem' := m11) rfl ?_
  refine wq_gR rfl h (fun v16 h => ?_)
  refine wq_gI rfl h (fun v19 h => ?_)
  refine wq_p rfl rfl h (fun m22 h => ?_)
  exact wq_end rfl rfl h
/-- java/util/ArrayList.iterator()Ljava/util/Iterator; -/
def m_AL_iterator (xm : Nat → Option kE) (N : Nat) (a0 : Nat) (mem : kM) : dRes :=
  dN mem (.inl (3, [.int 0, .int 0, .int 0, .null])) fun m0 p0 =>
  dCV (m_Itr_new xm N p0 a0 m0) fun m5 =>
  some (.inl (some (.ref p0)), m5)
theorem m_AL_iterator_ok (xm : Nat → Option kE) (N : Nat) {a0 : Nat} {mem : kM} {R : kO × kM} (h : m_AL_iterator xm N a0 mem = some R) : kCa xm kSm kDfl kFty kG 2 226 [.ref a0] mem (dEq R) := by
  refine wq_ca (show 1 ≤ 1 by decide) ?_
  change kGo xm kSm kDfl kFty kG 1 226 0 [(0, .ref a0)] [] mem (dEq R)
  unfold m_AL_iterator at h
  refine wq_n rfl (by decide) rfl h (fun m0 p0 h => ?_)
  refine wp_run 2 (pc' := 5) (lv' := [(0, .ref a0)]) (st' := [.ref a0, .ref p0, .ref p0]) (mem' := m0) rfl ?_
  refine wq_cV rfl (kCall_i (as := [.ref a0]) (rest := [.ref p0]) ⟨by decide, rfl, (show 1 < 90 by decide)⟩ (show 1 ≤ 8 by decide)) h (fun r hr => ca_up (by decide) (m_Itr_new_ok xm N hr)) (fun m5 h => ?_)
  exact wq_end rfl rfl h
