set_option maxRecDepth 20000
/-- KnitsteadModel.follow(I)I -/
def m_M_follow_59 (xm : Nat → Option kE) (N : Nat) : Nat → Nat → Int32 → Int32 → kM → dRes
  | 0, _, _, _, _ => none
  | n + 1, a0, a2, a3, mem =>
    if a3 < 99 then (
      dGR xm mem a0 15 5 fun v66 =>
      dGR xm mem v66 14 0 fun v69 =>
      dRc xm mem v69 4 <|
      dCI (m_AL_isEmpty xm N v69 mem) fun v72 m72 =>
      if v72 = 0 then (
        dCI (m_M_length xm N a2 m72) fun v81 m81 =>
        dNz v81 <|
        dCI (m_M_step xm N a2 (a3 - a3 / v81 * v81) m81) fun v85 m85 =>
        dGR xm m85 a0 15 5 fun v93 =>
        dGR xm m85 v93 14 0 fun v96 =>
        dRc xm m85 v96 4 <|
        dCI (m_AL_size xm N v96 m85) fun v99 m99 =>
        dGR xm m99 a0 15 5 fun v103 =>
        dRc xm m99 v103 14 <|
        dCI (m_MS_all xm N v103 m99) fun v106 m106 =>
        dRc xm m106 a0 15 <|
        dCI (m_M_yarn xm N a0 m106) fun v110 m110 =>
        dCI (m_M_can xm N v85 v99 v106 v110 m110) fun v113 m113 =>
        if v113 = 0 then (
          some (.inl (some (.int a3)), m113)
        ) else (
          dRc xm m113 a0 15 <|
          dCV (m_M_doStep xm N a0 v85 m113) fun m125 =>
          m_M_follow_59 xm N n a0 a2 (a3 + 1) m125
        )
      ) else (
        some (.inl (some (.int a3)), m72)
      )
    ) else (
      some (.inl (some (.int a3)), mem)
    )
theorem m_M_follow_59_ok (xm : Nat → Option kE) (N : Nat) : ∀ (n : Nat) (a0 : Nat) (a2 : Int32) (a3 : Int32) (mem : kM) (R : kO × kM), m_M_follow_59 xm N n a0 a2 a3 mem = some R → kGo xm kSm kDfl kFty kG 10 141 59 [(0, .ref a0), (2, .int a2), (3, .int a3)] [] mem (dEq R) := by
  intro n
  induction n with
  | zero => intro a0 a2 a3 mem R h; cases h
  | succ n ih =>
    intro a0 a2 a3 mem R h
    rw [m_M_follow_59] at h
    refine wp_run 2 (pc' := 62) (lv' := [(0, .ref a0), (2, .int a2), (3, .int a3)]) (st' := [.int 99, .int a3]) (mem' := mem) rfl ?_
    refine wq_ge2 rfl h (fun h => ?_) (fun h => ?_)
    · refine wp_run 1 (pc' := 66) (lv' := [(0, .ref a0), (2, .int a2), (3, .int a3)]) (st' := [.ref a0]) (mem' := mem) rfl ?_
      refine wq_gR rfl h (fun v66 h => ?_)
      refine wq_gR rfl h (fun v69 h => ?_)
      obtain ⟨fk72, hk72, h⟩ := dRc_some h
      refine wq_cI rfl (kCall_v hk72 (as := []) (rest := []) ⟨by decide, rfl, (show 0 < 90 by decide), by decide⟩ (show 0 ≤ 8 by decide)) h (fun r hr => ca_up (by decide) (m_AL_isEmpty_ok xm N hr)) (fun v72 m72 h => ?_)
      refine wq_ne rfl h (fun h => ?_) (fun h => ?_)
      · refine wp_run 3 (pc' := 81) (lv' := [(0, .ref a0), (2, .int a2), (3, .int a3)]) (st' := [.int a2, .int a3, .int a2]) (mem' := m72) rfl ?_
        refine wq_cI rfl (kCall_s (as := [.int a2]) (rest := [.int a3, .int a2]) ⟨by decide, rfl⟩ (show 2 ≤ 8 by decide) (by decide)) h (fun r hr => ca_up (by decide) (m_M_length_ok xm N hr)) (fun v81 m81 h => ?_)
        refine wq_irem rfl h (fun h => ?_)
        refine wq_cI rfl (kCall_s (as := [.int a2, .int (a3 - a3 / v81 * v81)]) (rest := []) ⟨by decide, rfl⟩ (show 0 ≤ 8 by decide) (by decide)) h (fun r hr => ca_up (by decide) (m_M_step_ok xm N hr)) (fun v85 m85 h => ?_)
        refine wp_run 3 (pc' := 93) (lv' := [(4, .int v85), (0, .ref a0), (2, .int a2), (3, .int a3)]) (st' := [.ref a0, .int v85]) (mem' := m85) rfl ?_
        refine wq_gR rfl h (fun v93 h => ?_)
        refine wq_gR rfl h (fun v96 h => ?_)
        obtain ⟨fk99, hk99, h⟩ := dRc_some h
        refine wq_cI rfl (kCall_v hk99 (as := []) (rest := [.int v85]) ⟨by decide, rfl, (show 0 < 90 by decide), by decide⟩ (show 1 ≤ 8 by decide)) h (fun r hr => ca_up (by decide) (m_AL_size_ok xm N hr)) (fun v99 m99 h => ?_)
        refine wp_run 1 (pc' := 103) (lv' := [(4, .int v85), (0, .ref a0), (2, .int a2), (3, .int a3)]) (st' := [.ref a0, .int v99, .int v85]) (mem' := m99) rfl ?_
        refine wq_gR rfl h (fun v103 h => ?_)
        obtain ⟨fk106, hk106, h⟩ := dRc_some h
        refine wq_cI rfl (kCall_v hk106 (as := []) (rest := [.int v99, .int v85]) ⟨by decide, rfl, (show 0 < 90 by decide), by decide⟩ (show 2 ≤ 8 by decide)) h (fun r hr => ca_up (by decide) (m_MS_all_ok xm N hr)) (fun v106 m106 h => ?_)
        refine wp_run 1 (pc' := 110) (lv' := [(4, .int v85), (0, .ref a0), (2, .int a2), (3, .int a3)]) (st' := [.ref a0, .int v106, .int v99, .int v85]) (mem' := m106) rfl ?_
        obtain ⟨fk110, hk110, h⟩ := dRc_some h
        refine wq_cI rfl (kCall_v hk110 (as := []) (rest := [.int v106, .int v99, .int v85]) ⟨by decide, rfl, (show 0 < 90 by decide), by decide⟩ (show 3 ≤ 8 by decide)) h (fun r hr => ca_up (by decide) (m_M_yarn_ok xm N hr)) (fun v110 m110 h => ?_)
        refine wq_cI rfl (kCall_s (as := [.int v85, .int v99, .int v106, .int v110]) (rest := []) ⟨by decide, rfl⟩ (show 0 ≤ 8 by decide) (by decide)) h (fun r hr => ca_up (by decide) (m_M_can_ok xm N hr)) (fun v113 m113 h => ?_)
        refine wq_ne rfl h (fun h => ?_) (fun h => ?_)
        · refine wp_run 2 (pc' := 135) (lv' := [(4, .int v85), (0, .ref a0), (2, .int a2), (3, .int a3)]) (st' := [.int a3]) (mem' := m113) rfl ?_
          exact wq_ret rfl rfl h
        · refine wp_run 2 (pc' := 125) (lv' := [(4, .int v85), (0, .ref a0), (2, .int a2), (3, .int a3)]) (st' := [.int v85, .ref a0]) (mem' := m113) rfl ?_
          obtain ⟨fk125, hk125, h⟩ := dRc_some h
          refine wq_cV rfl (kCall_v hk125 (as := [.int v85]) (rest := []) ⟨by decide, rfl, (show 1 < 90 by decide), by decide⟩ (show 0 ≤ 8 by decide)) h (fun r hr => ca_up (by decide) (m_M_doStep_ok xm N hr)) (fun m125 h => ?_)
          refine wp_run 2 (pc' := 59) (lv' := [(3, .int (a3 + 1)), (4, .int v85), (0, .ref a0), (2, .int a2)]) (st' := []) (mem' := m125) rfl ?_
          refine kGo_sub (lvS_of [2, 3, 0] rfl [3, 4, 0, 2] rfl (by decide)) ?_
          exact ih _ _ _ m125 R h
      · refine wp_run 1 (pc' := 135) (lv' := [(0, .ref a0), (2, .int a2), (3, .int a3)]) (st' := [.int a3]) (mem' := m72) rfl ?_
        exact wq_ret rfl rfl h
    · refine wp_run 1 (pc' := 135) (lv' := [(0, .ref a0), (2, .int a2), (3, .int a3)]) (st' := [.int a3]) (mem' := mem) rfl ?_
      exact wq_ret rfl rfl h
def m_M_follow (xm : Nat → Option kE) (N : Nat) (a0 : Nat) (a1 : Int32) (mem : kM) : dRes :=
  dP xm mem a0 15 0 (.int 0) fun m2 =>
  dRc xm m2 a0 15 <|
  dCI (m_M_isPattern xm N a0 a1 m2) fun v7 m7 =>
  if v7 = 0 then (
    dRc xm m7 a0 15 <|
    dCI (m_M_refuse xm N a0 1 m7) fun v15 m15 =>
    some (.inl (some (.int v15)), m15)
  ) else (
    dGR xm m7 a0 15 5 fun v20 =>
    dGR xm m7 v20 14 0 fun v23 =>
    dRc xm m7 v23 4 <|
    dCI (m_AL_isEmpty xm N v23 m7) fun v26 m26 =>
    if v26 = 0 then (
      dRc xm m26 a0 15 <|
      dCV (m_M_keep xm N a0 m26) fun m39 =>
      dGR xm m39 a0 15 3 fun v43 =>
      dRc xm m39 v43 4 <|
      dCR (m_AL_get xm N v43 a1 m39) fun v47 m47 =>
      dCC xm m47 v47 0 2 <|
      dRc xm m47 v47 2 <|
      dCI (m_Int_intValue xm N v47 m47) fun v53 m53 =>
      m_M_follow_59 xm N N a0 v53 0 m53
    ) else (
      dRc xm m26 a0 15 <|
      dCI (m_M_refuse xm N a0 2 m26) fun v34 m34 =>
      some (.inl (some (.int v34)), m34)
    )
  )
theorem m_M_follow_ok (xm : Nat → Option kE) (N : Nat) {a0 : Nat} {a1 : Int32} {mem : kM} {R : kO × kM} (h : m_M_follow xm N a0 a1 mem = some R) : kCa xm kSm kDfl kFty kG 11 141 [.ref a0, .int a1] mem (dEq R) := by
  refine wq_ca (show 2 ≤ 5 by decide) ?_
  change kGo xm kSm kDfl kFty kG 10 141 0 [(0, .ref a0), (1, .int a1)] [] mem (dEq R)
  unfold m_M_follow at h
  refine wp_run 2 (pc' := 2) (lv' := [(0, .ref a0), (1, .int a1)]) (st' := [.int 0, .ref a0]) (mem' := mem) rfl ?_
  refine wq_p rfl rfl h (fun m2 h => ?_)
  refine wp_run 2 (pc' := 7) (lv' := [(0, .ref a0), (1, .int a1)]) (st' := [.int a1, .ref a0]) (mem' := m2) rfl ?_
  obtain ⟨fk7, hk7, h⟩ := dRc_some h
  refine wq_cI rfl (kCall_v hk7 (as := [.int a1]) (rest := []) ⟨by decide, rfl, (show 1 < 90 by decide), by decide⟩ (show 0 ≤ 8 by decide)) h (fun r hr => ca_up (by decide) (m_M_isPattern_ok xm N hr)) (fun v7 m7 h => ?_)
  refine wq_ne rfl h (fun h => ?_) (fun h => ?_)
  · refine wp_run 2 (pc' := 15) (lv' := [(0, .ref a0), (1, .int a1)]) (st' := [.int 1, .ref a0]) (mem' := m7) rfl ?_
    obtain ⟨fk15, hk15, h⟩ := dRc_some h
    refine wq_cI rfl (kCall_v hk15 (as := [.int 1]) (rest := []) ⟨by decide, rfl, (show 1 < 90 by decide), by decide⟩ (show 0 ≤ 8 by decide)) h (fun r hr => ca_up (by decide) (m_M_refuse_ok xm N hr)) (fun v15 m15 h => ?_)
    exact wq_ret rfl rfl h
  · refine wp_run 1 (pc' := 20) (lv' := [(0, .ref a0), (1, .int a1)]) (st' := [.ref a0]) (mem' := m7) rfl ?_
    refine wq_gR rfl h (fun v20 h => ?_)
    refine wq_gR rfl h (fun v23 h => ?_)
    obtain ⟨fk26, hk26, h⟩ := dRc_some h
    refine wq_cI rfl (kCall_v hk26 (as := []) (rest := []) ⟨by decide, rfl, (show 0 < 90 by decide), by decide⟩ (show 0 ≤ 8 by decide)) h (fun r hr => ca_up (by decide) (m_AL_isEmpty_ok xm N hr)) (fun v26 m26 h => ?_)
    refine wq_eq rfl h (fun h => ?_) (fun h => ?_)
    · refine wp_run 1 (pc' := 39) (lv' := [(0, .ref a0), (1, .int a1)]) (st' := [.ref a0]) (mem' := m26) rfl ?_
      obtain ⟨fk39, hk39, h⟩ := dRc_some h
      refine wq_cV rfl (kCall_v hk39 (as := []) (rest := []) ⟨by decide, rfl, (show 0 < 90 by decide), by decide⟩ (show 0 ≤ 8 by decide)) h (fun r hr => ca_up (by decide) (m_M_keep_ok xm N hr)) (fun m39 h => ?_)
      refine wp_run 1 (pc' := 43) (lv' := [(0, .ref a0), (1, .int a1)]) (st' := [.ref a0]) (mem' := m39) rfl ?_
      refine wq_gR rfl h (fun v43 h => ?_)
      refine wp_run 1 (pc' := 47) (lv' := [(0, .ref a0), (1, .int a1)]) (st' := [.int a1, .ref v43]) (mem' := m39) rfl ?_
      obtain ⟨fk47, hk47, h⟩ := dRc_some h
      refine wq_cR rfl (kCall_v hk47 (as := [.int a1]) (rest := []) ⟨by decide, rfl, (show 1 < 90 by decide), by decide⟩ (show 0 ≤ 8 by decide)) h (fun r hr => ca_up (by decide) (m_AL_get_ok xm N hr)) (fun v47 m47 h => ?_)
      refine wq_cc rfl h (fun h => ?_)
      obtain ⟨fk53, hk53, h⟩ := dRc_some h
      refine wq_cI rfl (kCall_v hk53 (as := []) (rest := []) ⟨by decide, rfl, (show 0 < 90 by decide), by decide⟩ (show 0 ≤ 8 by decide)) h (fun r hr => ca_up (by decide) (m_Int_intValue_ok xm N hr)) (fun v53 m53 h => ?_)
      refine wp_run 3 (pc' := 59) (lv' := [(3, .int 0), (2, .int v53), (0, .ref a0), (1, .int a1)]) (st' := []) (mem' := m53) rfl ?_
      refine kGo_sub (lvS_of [2, 1, 0] rfl [3, 2, 0, 1] rfl (by decide)) ?_
      exact m_M_follow_59_ok xm N N _ _ _ m53 R h
    · refine wp_run 2 (pc' := 34) (lv' := [(0, .ref a0), (1, .int a1)]) (st' := [.int 2, .ref a0]) (mem' := m26) rfl ?_
      obtain ⟨fk34, hk34, h⟩ := dRc_some h
      refine wq_cI rfl (kCall_v hk34 (as := [.int 2]) (rest := []) ⟨by decide, rfl, (show 1 < 90 by decide), by decide⟩ (show 0 ≤ 8 by decide)) h (fun r hr => ca_up (by decide) (m_M_refuse_ok xm N hr)) (fun v34 m34 h => ?_)
      exact wq_ret rfl rfl h
/-- KnitsteadModel.undo()I -/
def m_M_undo_81 (xm : Nat → Option kE) (N : Nat) : Nat → Nat → kM → dRes
  | 0, _, _ => none
  | n + 1, a0, mem =>
    dGR xm mem a0 15 2 fun v82 =>
    dRc xm mem v82 4 <|
    dCI (m_AL_size xm N v82 mem) fun v85 m85 =>
    dGR xm m85 a0 15 5 fun v89 =>
    dGI xm m85 v89 14 7 fun v92 =>
    if v92 < v85 then (
      dGR xm m85 a0 15 2 fun v99 =>
      dGR xm m85 a0 15 2 fun v103 =>
      dRc xm m85 v103 4 <|
      dCI (m_AL_size xm N v103 m85) fun v106 m106 =>
      dRc xm m106 v99 4 <|
      dCR (m_AL_remove xm N v99 (v106 - 1) m106) fun v111 m111 =>
      m_M_undo_81 xm N n a0 m111
    ) else (
      dGR xm m85 a0 15 4 fun v119 =>
      dRc xm m85 v119 4 <|
      dCI (m_AL_size xm N v119 m85) fun v122 m122 =>
      some (.inl (some (.int v122)), m122)
    )
theorem m_M_undo_81_ok (xm : Nat → Option kE) (N : Nat) : ∀ (n : Nat) (a0 : Nat) (mem : kM) (R : kO × kM), m_M_undo_81 xm N n a0 mem = some R → kGo xm kSm kDfl kFty kG 3 142 81 [(0, .ref a0)] [] mem (dEq R) := by
  intro n
  induction n with
  | zero => intro a0 mem R h; cases h
  | succ n ih =>
    intro a0 mem R h
    rw [m_M_undo_81] at h
    refine wp_run 1 (pc' := 82) (lv' := [(0, .ref a0)]) (st' := [.ref a0]) (mem' := mem) rfl ?_
    refine wq_gR rfl h (fun v82 h => ?_)
    obtain ⟨fk85, hk85, h⟩ := dRc_some h
    refine wq_cI rfl (kCall_v hk85 (as := []) (rest := []) ⟨by decide, rfl, (show 0 < 90 by decide), by decide⟩ (show 0 ≤ 8 by decide)) h (fun r hr => ca_up (by decide) (m_AL_size_ok xm N hr)) (fun v85 m85 h => ?_)
    refine wp_run 1 (pc' := 89) (lv' := [(0, .ref a0)]) (st' := [.ref a0, .int v85]) (mem' := m85) rfl ?_
    refine wq_gR rfl h (fun v89 h => ?_)
    refine wq_gI rfl h (fun v92 h => ?_)
    refine wq_le2 rfl h (fun h => ?_) (fun h => ?_)
    · refine wp_run 1 (pc' := 99) (lv' := [(0, .ref a0)]) (st' := [.ref a0]) (mem' := m85) rfl ?_
      refine wq_gR rfl h (fun v99 h => ?_)
      refine wp_run 1 (pc' := 103) (lv' := [(0, .ref a0)]) (st' := [.ref a0, .ref v99]) (mem' := m85) rfl ?_
      refine wq_gR rfl h (fun v103 h => ?_)
      obtain ⟨fk106, hk106, h⟩ := dRc_some h
      refine wq_cI rfl (kCall_v hk106 (as := []) (rest := [.ref v99]) ⟨by decide, rfl, (show 0 < 90 by decide), by decide⟩ (show 1 ≤ 8 by decide)) h (fun r hr => ca_up (by decide) (m_AL_size_ok xm N hr)) (fun v106 m106 h => ?_)
      refine wp_run 2 (pc' := 111) (lv' := [(0, .ref a0)]) (st' := [.int (v106 - 1), .ref v99]) (mem' := m106) rfl ?_
      obtain ⟨fk111, hk111, h⟩ := dRc_some h
      refine wq_cR rfl (kCall_v hk111 (as := [.int (v106 - 1)]) (rest := []) ⟨by decide, rfl, (show 1 < 90 by decide), by decide⟩ (show 0 ≤ 8 by decide)) h (fun r hr => ca_up (by decide) (m_AL_remove_ok xm N hr)) (fun v111 m111 h => ?_)
      refine wp_run 2 (pc' := 81) (lv' := [(0, .ref a0)]) (st' := []) (mem' := m111) rfl ?_
      exact ih _ m111 R h
    · refine wp_run 1 (pc' := 119) (lv' := [(0, .ref a0)]) (st' := [.ref a0]) (mem' := m85) rfl ?_
      refine wq_gR rfl h (fun v119 h => ?_)
      obtain ⟨fk122, hk122, h⟩ := dRc_some h
      refine wq_cI rfl (kCall_v hk122 (as := []) (rest := []) ⟨by decide, rfl, (show 0 < 90 by decide), by decide⟩ (show 0 ≤ 8 by decide)) h (fun r hr => ca_up (by decide) (m_AL_size_ok xm N hr)) (fun v122 m122 h => ?_)
      exact wq_ret rfl rfl h
def m_M_undo_44 (xm : Nat → Option kE) (N : Nat) : Nat → Nat → kM → dRes
  | 0, _, _ => none
  | n + 1, a0, mem =>
    dGR xm mem a0 15 1 fun v45 =>
    dRc xm mem v45 4 <|
    dCI (m_AL_size xm N v45 mem) fun v48 m48 =>
    dGR xm m48 a0 15 5 fun v52 =>
    dGI xm m48 v52 14 6 fun v55 =>
    if v55 < v48 then (
      dGR xm m48 a0 15 1 fun v62 =>
      dGR xm m48 a0 15 1 fun v66 =>
      dRc xm m48 v66 4 <|
      dCI (m_AL_size xm N v66 m48) fun v69 m69 =>
      dRc xm m69 v62 4 <|
      dCR (m_AL_remove xm N v62 (v69 - 1) m69) fun v74 m74 =>
      m_M_undo_44 xm N n a0 m74
    ) else (
      m_M_undo_81 xm N N a0 m48
    )
theorem m_M_undo_44_ok (xm : Nat → Option kE) (N : Nat) : ∀ (n : Nat) (a0 : Nat) (mem : kM) (R : kO × kM), m_M_undo_44 xm N n a0 mem = some R → kGo xm kSm kDfl kFty kG 3 142 44 [(0, .ref a0)] [] mem (dEq R) := by
  intro n
  induction n with
  | zero => intro a0 mem R h; cases h
  | succ n ih =>
    intro a0 mem R h
    rw [m_M_undo_44] at h
    refine wp_run 1 (pc' := 45) (lv' := [(0, .ref a0)]) (st' := [.ref a0]) (mem' := mem) rfl ?_
    refine wq_gR rfl h (fun v45 h => ?_)
    obtain ⟨fk48, hk48, h⟩ := dRc_some h
    refine wq_cI rfl (kCall_v hk48 (as := []) (rest := []) ⟨by decide, rfl, (show 0 < 90 by decide), by decide⟩ (show 0 ≤ 8 by decide)) h (fun r hr => ca_up (by decide) (m_AL_size_ok xm N hr)) (fun v48 m48 h => ?_)
    refine wp_run 1 (pc' := 52) (lv' := [(0, .ref a0)]) (st' := [.ref a0, .int v48]) (mem' := m48) rfl ?_
    refine wq_gR rfl h (fun v52 h => ?_)
    refine wq_gI rfl h (fun v55 h => ?_)
    refine wq_le2 rfl h (fun h => ?_) (fun h => ?_)
    · refine wp_run 1 (pc' := 62) (lv' := [(0, .ref a0)]) (st' := [.ref a0]) (mem' := m48) rfl ?_
      refine wq_gR rfl h (fun v62 h => ?_)
      refine wp_run 1 (pc' := 66) (lv' := [(0, .ref a0)]) (st' := [.ref a0, .ref v62]) (mem' := m48) rfl ?_
      refine wq_gR rfl h (fun v66 h => ?_)
      obtain ⟨fk69, hk69, h⟩ := dRc_some h
      refine wq_cI rfl (kCall_v hk69 (as := []) (rest := [.ref v62]) ⟨by decide, rfl, (show 0 < 90 by decide), by decide⟩ (show 1 ≤ 8 by decide)) h (fun r hr => ca_up (by decide) (m_AL_size_ok xm N hr)) (fun v69 m69 h => ?_)
      refine wp_run 2 (pc' := 74) (lv' := [(0, .ref a0)]) (st' := [.int (v69 - 1), .ref v62]) (mem' := m69) rfl ?_
      obtain ⟨fk74, hk74, h⟩ := dRc_some h
      refine wq_cR rfl (kCall_v hk74 (as := [.int (v69 - 1)]) (rest := []) ⟨by decide, rfl, (show 1 < 90 by decide), by decide⟩ (show 0 ≤ 8 by decide)) h (fun r hr => ca_up (by decide) (m_AL_remove_ok xm N hr)) (fun v74 m74 h => ?_)
      refine wp_run 2 (pc' := 44) (lv' := [(0, .ref a0)]) (st' := []) (mem' := m74) rfl ?_
      exact ih _ m74 R h
    · exact m_M_undo_81_ok xm N N _ m48 R h
def m_M_undo (xm : Nat → Option kE) (N : Nat) (a0 : Nat) (mem : kM) : dRes :=
  dP xm mem a0 15 0 (.int 0) fun m2 =>
  dGR xm m2 a0 15 4 fun v6 =>
  dRc xm m2 v6 4 <|
  dCI (m_AL_isEmpty xm N v6 m2) fun v9 m9 =>
  if v9 = 0 then (
    dGR xm m9 a0 15 4 fun v23 =>
    dGR xm m9 a0 15 4 fun v27 =>
    dRc xm m9 v27 4 <|
    dCI (m_AL_size xm N v27 m9) fun v30 m30 =>
    dRc xm m30 v23 4 <|
    dCR (m_AL_remove xm N v23 (v30 - 1) m30) fun v35 m35 =>
    dCC xm m35 v35 0 14 <|
    dP xm m35 a0 15 5 (.ref v35) fun m41 =>
    m_M_undo_44 xm N N a0 m41
  ) else (
    dRc xm m9 a0 15 <|
    dCI (m_M_refuse xm N a0 1 m9) fun v17 m17 =>
    some (.inl (some (.int v17)), m17)
  )
theorem m_M_undo_ok (xm : Nat → Option kE) (N : Nat) {a0 : Nat} {mem : kM} {R : kO × kM} (h : m_M_undo xm N a0 mem = some R) : kCa xm kSm kDfl kFty kG 4 142 [.ref a0] mem (dEq R) := by
  refine wq_ca (show 1 ≤ 1 by decide) ?_
  change kGo xm kSm kDfl kFty kG 3 142 0 [(0, .ref a0)] [] mem (dEq R)
  unfold m_M_undo at h
  refine wp_run 2 (pc' := 2) (lv' := [(0, .ref a0)]) (st' := [.int 0, .ref a0]) (mem' := mem) rfl ?_
  refine wq_p rfl rfl h (fun m2 h => ?_)
  refine wp_run 1 (pc' := 6) (lv' := [(0, .ref a0)]) (st' := [.ref a0]) (mem' := m2) rfl ?_
  refine wq_gR rfl h (fun v6 h => ?_)
  obtain ⟨fk9, hk9, h⟩ := dRc_some h
  refine wq_cI rfl (kCall_v hk9 (as := []) (rest := []) ⟨by decide, rfl, (show 0 < 90 by decide), by decide⟩ (show 0 ≤ 8 by decide)) h (fun r hr => ca_up (by decide) (m_AL_isEmpty_ok xm N hr)) (fun v9 m9 h => ?_)
  refine wq_eq rfl h (fun h => ?_) (fun h => ?_)
  · refine wp_run 2 (pc' := 23) (lv' := [(0, .ref a0)]) (st' := [.ref a0, .ref a0]) (mem' := m9) rfl ?_
    refine wq_gR rfl h (fun v23 h => ?_)
    refine wp_run 1 (pc' := 27) (lv' := [(0, .ref a0)]) (st' := [.ref a0, .ref v23, .ref a0]) (mem' := m9) rfl ?_
    refine wq_gR rfl h (fun v27 h => ?_)
    obtain ⟨fk30, hk30, h⟩ := dRc_some h
    refine wq_cI rfl (kCall_v hk30 (as := []) (rest := [.ref v23, .ref a0]) ⟨by decide, rfl, (show 0 < 90 by decide), by decide⟩ (show 2 ≤ 8 by decide)) h (fun r hr => ca_up (by decide) (m_AL_size_ok xm N hr)) (fun v30 m30 h => ?_)
    refine wp_run 2 (pc' := 35) (lv' := [(0, .ref a0)]) (st' := [.int (v30 - 1), .ref v23, .ref a0]) (mem' := m30) rfl ?_
    obtain ⟨fk35, hk35, h⟩ := dRc_some h
    refine wq_cR rfl (kCall_v hk35 (as := [.int (v30 - 1)]) (rest := [.ref a0]) ⟨by decide, rfl, (show 1 < 90 by decide), by decide⟩ (show 1 ≤ 8 by decide)) h (fun r hr => ca_up (by decide) (m_AL_remove_ok xm N hr)) (fun v35 m35 h => ?_)
    refine wq_cc rfl h (fun h => ?_)
    refine wq_p rfl rfl h (fun m41 h => ?_)
    exact m_M_undo_44_ok xm N N _ m41 R h
  · refine wp_run 2 (pc' := 17) (lv' := [(0, .ref a0)]) (st' := [.int 1, .ref a0]) (mem' := m9) rfl ?_
    obtain ⟨fk17, hk17, h⟩ := dRc_some h
    refine wq_cI rfl (kCall_v hk17 (as := [.int 1]) (rest := []) ⟨by decide, rfl, (show 1 < 90 by decide), by decide⟩ (show 0 ≤ 8 by decide)) h (fun r hr => ca_up (by decide) (m_M_refuse_ok xm N hr)) (fun v17 m17 h => ?_)
    exact wq_ret rfl rfl h
/-- KnitsteadModel.needle(Z)Ljava/util/ArrayList; -/
def m_M_needle (xm : Nat → Option kE) (N : Nat) (a0 : Nat) (a1 : Int32) (mem : kM) : dRes :=
  if a1 = 0 then (
    dGR xm mem a0 15 5 fun v15 =>
    dGR xm mem v15 14 0 fun v18 =>
    some (.inl (some (.ref v18)), mem)
  ) else (
    dGR xm mem a0 15 5 fun v5 =>
    dGR xm mem v5 14 1 fun v8 =>
    some (.inl (some (.ref v8)), mem)
  )
theorem m_M_needle_ok (xm : Nat → Option kE) (N : Nat) {a0 : Nat} {a1 : Int32} {mem : kM} {R : kO × kM} (h : m_M_needle xm N a0 a1 mem = some R) : kCa xm kSm kDfl kFty kG 1 143 [.ref a0, .int a1] mem (dEq R) := by
  refine wq_ca (show 2 ≤ 2 by decide) ?_
  change kGo xm kSm kDfl kFty kG 0 143 0 [(0, .ref a0), (1, .int a1)] [] mem (dEq R)
  unfold m_M_needle at h
  refine wp_run 1 (pc' := 1) (lv' := [(0, .ref a0), (1, .int a1)]) (st' := [.int a1]) (mem' := mem) rfl ?_
  refine wq_eq rfl h (fun h => ?_) (fun h => ?_)
  · refine wp_run 1 (pc' := 15) (lv' := [(0, .ref a0), (1, .int a1)]) (st' := [.ref a0]) (mem' := mem) rfl ?_
    refine wq_gR rfl h (fun v15 h => ?_)
    refine wq_gR rfl h (fun v18 h => ?_)
    exact wq_end rfl rfl h
  · refine wp_run 1 (pc' := 5) (lv' := [(0, .ref a0), (1, .int a1)]) (st' := [.ref a0]) (mem' := mem) rfl ?_
    refine wq_gR rfl h (fun v5 h => ?_)
    refine wq_gR rfl h (fun v8 h => ?_)
    refine wp_run 1 (pc' := 21) (lv' := [(0, .ref a0), (1, .int a1)]) (st' := [.ref v8]) (mem' := mem) rfl ?_
    exact wq_end rfl rfl h
/-- KnitsteadModel.on(ZI)I -/
def m_M_on (xm : Nat → Option kE) (N : Nat) (a0 : Nat) (a1 : Int32) (a2 : Int32) (mem : kM) : dRes :=
  dP xm mem a0 15 0 (.int 0) fun m2 =>
  dCI (m_M_is xm N a2 0 23 m2) fun v9 m9 =>
  if v9 = 0 then (
    dRc xm m9 a0 15 <|
    dCI (m_M_refuse xm N a0 1 m9) fun v17 m17 =>
    some (.inl (some (.int v17)), m17)
  ) else (
    dRc xm m9 a0 15 <|
    dCR (m_M_needle xm N a0 a1 m9) fun v23 m23 =>
    dRc xm m23 v23 4 <|
    dCI (m_AL_size xm N v23 m23) fun v29 m29 =>
    if a2 < v29 then (
      dRc xm m29 v23 4 <|
      dCI (m_AL_size xm N v23 m29) fun v37 m37 =>
      dRc xm m37 v23 4 <|
      dCR (m_AL_get xm N v23 ((v37 - 1) - a2) m37) fun v44 m44 =>
      dCC xm m44 v44 0 2 <|
      dRc xm m44 v44 2 <|
      dCI (m_Int_intValue xm N v44 m44) fun v50 m50 =>
      some (.inl (some (.int v50)), m50)
    ) else (
      some (.inl (some (.int (-1))), m29)
    )
  )
theorem m_M_on_ok (xm : Nat → Option kE) (N : Nat) {a0 : Nat} {a1 : Int32} {a2 : Int32} {mem : kM} {R : kO × kM} (h : m_M_on xm N a0 a1 a2 mem = some R) : kCa xm kSm kDfl kFty kG 4 144 [.ref a0, .int a1, .int a2] mem (dEq R) := by
  refine wq_ca (show 3 ≤ 4 by decide) ?_
  change kGo xm kSm kDfl kFty kG 3 144 0 [(0, .ref a0), (1, .int a1), (2, .int a2)] [] mem (dEq R)
  unfold m_M_on at h
  refine wp_run 2 (pc' := 2) (lv' := [(0, .ref a0), (1, .int a1), (2, .int a2)]) (st' := [.int 0, .ref a0]) (mem' := mem) rfl ?_
  refine wq_p rfl rfl h (fun m2 h => ?_)
  refine wp_run 3 (pc' := 9) (lv' := [(0, .ref a0), (1, .int a1), (2, .int a2)]) (st' := [.int 23, .int 0, .int a2]) (mem' := m2) rfl ?_
  refine wq_cI rfl (kCall_s (as := [.int a2, .int 0, .int 23]) (rest := []) ⟨by decide, rfl⟩ (show 0 ≤ 8 by decide) (by decide)) h (fun r hr => ca_up (by decide) (m_M_is_ok xm N hr)) (fun v9 m9 h => ?_)
  refine wq_ne rfl h (fun h => ?_) (fun h => ?_)
  · refine wp_run 2 (pc' := 17) (lv' := [(0, .ref a0), (1, .int a1), (2, .int a2)]) (st' := [.int 1, .ref a0]) (mem' := m9) rfl ?_
    obtain ⟨fk17, hk17, h⟩ := dRc_some h
    refine wq_cI rfl (kCall_v hk17 (as := [.int 1]) (rest := []) ⟨by decide, rfl, (show 1 < 90 by decide), by decide⟩ (show 0 ≤ 8 by decide)) h (fun r hr => ca_up (by decide) (m_M_refuse_ok xm N hr)) (fun v17 m17 h => ?_)
    exact wq_ret rfl rfl h
  · refine wp_run 2 (pc' := 23) (lv' := [(0, .ref a0), (1, .int a1), (2, .int a2)]) (st' := [.int a1, .ref a0]) (mem' := m9) rfl ?_
    obtain ⟨fk23, hk23, h⟩ := dRc_some h
    refine wq_cR rfl (kCall_v hk23 (as := [.int a1]) (rest := []) ⟨by decide, rfl, (show 1 < 90 by decide), by decide⟩ (show 0 ≤ 8 by decide)) h (fun r hr => ca_up (by decide) (m_M_needle_ok xm N hr)) (fun v23 m23 h => ?_)
    refine wp_run 3 (pc' := 29) (lv' := [(3, .ref v23), (0, .ref a0), (1, .int a1), (2, .int a2)]) (st' := [.ref v23, .int a2]) (mem' := m23) rfl ?_
    obtain ⟨fk29, hk29, h⟩ := dRc_some h
    refine wq_cI rfl (kCall_v hk29 (as := []) (rest := [.int a2]) ⟨by decide, rfl, (show 0 < 90 by decide), by decide⟩ (show 1 ≤ 8 by decide)) h (fun r hr => ca_up (by decide) (m_AL_size_ok xm N hr)) (fun v29 m29 h => ?_)
    refine wq_ge2 rfl h (fun h => ?_) (fun h => ?_)
    · refine wp_run 2 (pc' := 37) (lv' := [(3, .ref v23), (0, .ref a0), (1, .int a1), (2, .int a2)]) (st' := [.ref v23, .ref v23]) (mem' := m29) rfl ?_
      obtain ⟨fk37, hk37, h⟩ := dRc_some h
      refine wq_cI rfl (kCall_v hk37 (as := []) (rest := [.ref v23]) ⟨by decide, rfl, (show 0 < 90 by decide), by decide⟩ (show 1 ≤ 8 by decide)) h (fun r hr => ca_up (by decide) (m_AL_size_ok xm N hr)) (fun v37 m37 h => ?_)
      refine wp_run 4 (pc' := 44) (lv' := [(3, .ref v23), (0, .ref a0), (1, .int a1), (2, .int a2)]) (st' := [.int ((v37 - 1) - a2), .ref v23]) (mem' := m37) rfl ?_
      obtain ⟨fk44, hk44, h⟩ := dRc_some h
      refine wq_cR rfl (kCall_v hk44 (as := [.int ((v37 - 1) - a2)]) (rest := []) ⟨by decide, rfl, (show 1 < 90 by decide), by decide⟩ (show 0 ≤ 8 by decide)) h (fun r hr => ca_up (by decide) (m_AL_get_ok xm N hr)) (fun v44 m44 h => ?_)
      refine wq_cc rfl h (fun h => ?_)
      obtain ⟨fk50, hk50, h⟩ := dRc_some h
      refine wq_cI rfl (kCall_v hk50 (as := []) (rest := []) ⟨by decide, rfl, (show 0 < 90 by decide), by decide⟩ (show 0 ≤ 8 by decide)) h (fun r hr => ca_up (by decide) (m_Int_intValue_ok xm N hr)) (fun v50 m50 h => ?_)
      refine wp_run 1 (pc' := 57) (lv' := [(3, .ref v23), (0, .ref a0), (1, .int a1), (2, .int a2)]) (st' := [.int v50]) (mem' := m50) rfl ?_
      exact wq_ret rfl rfl h
    · refine wp_run 1 (pc' := 57) (lv' := [(3, .ref v23), (0, .ref a0), (1, .int a1), (2, .int a2)]) (st' := [.int (-1)]) (mem' := m29) rfl ?_
      exact wq_ret rfl rfl h
/-- KnitsteadModel.has(Ljava/util/ArrayList;I)Z -/
def m_M_has_5 (xm : Nat → Option kE) (N : Nat) : Nat → Int32 → Nat → kM → dRes
  | 0, _, _, _ => none
  | n + 1, a1, a2, mem =>
    dRc xm mem a2 3 <|
    dCI (m_Itr_hasNext xm N a2 mem) fun v6 m6 =>
    if v6 = 0 then (
      some (.inl (some (.int 0)), m6)
    ) else (
      dRc xm m6 a2 3 <|
      dCR (m_Itr_next xm N a2 m6) fun v15 m15 =>
      dCC xm m15 v15 0 2 <|
      dRc xm m15 v15 2 <|
      dCI (m_Int_intValue xm N v15 m15) fun v23 m23 =>
      if v23 = a1 then (
        some (.inl (some (.int 1)), m23)
      ) else (
        m_M_has_5 xm N n a1 a2 m23
      )
    )
theorem m_M_has_5_ok (xm : Nat → Option kE) (N : Nat) : ∀ (n : Nat) (a1 : Int32) (a2 : Nat) (mem : kM) (R : kO × kM), m_M_has_5 xm N n a1 a2 mem = some R → kGo xm kSm kDfl kFty kG 2 145 5 [(1, .int a1), (2, .ref a2)] [] mem (dEq R) := by
  intro n
  induction n with
  | zero => intro a1 a2 mem R h; cases h
  | succ n ih =>
    intro a1 a2 mem R h
    rw [m_M_has_5] at h
    refine wp_run 1 (pc' := 6) (lv' := [(1, .int a1), (2, .ref a2)]) (st' := [.ref a2]) (mem' := mem) rfl ?_
    obtain ⟨fk6, hk6, h⟩ := dRc_some h
    refine wq_cI rfl (kCall_v hk6 (as := []) (rest := []) ⟨by decide, rfl, (show 0 < 90 by decide), by decide⟩ (show 0 ≤ 8 by decide)) h (fun r hr => ca_up (by decide) (m_Itr_hasNext_ok xm N hr)) (fun v6 m6 h => ?_)
    refine wq_eq rfl h (fun h => ?_) (fun h => ?_)
    · refine wp_run 1 (pc' := 38) (lv' := [(1, .int a1), (2, .ref a2)]) (st' := [.int 0]) (mem' := m6) rfl ?_
      exact wq_ret rfl rfl h
    · refine wp_run 1 (pc' := 15) (lv' := [(1, .int a1), (2, .ref a2)]) (st' := [.ref a2]) (mem' := m6) rfl ?_
      obtain ⟨fk15, hk15, h⟩ := dRc_some h
      refine wq_cR rfl (kCall_v hk15 (as := []) (rest := []) ⟨by decide, rfl, (show 0 < 90 by decide), by decide⟩ (show 0 ≤ 8 by decide)) h (fun r hr => ca_up (by decide) (m_Itr_next_ok xm N hr)) (fun v15 m15 h => ?_)
      refine wq_cc rfl h (fun h => ?_)
      obtain ⟨fk23, hk23, h⟩ := dRc_some h
      refine wq_cI rfl (kCall_v hk23 (as := []) (rest := []) ⟨by decide, rfl, (show 0 < 90 by decide), by decide⟩ (show 0 ≤ 8 by decide)) h (fun r hr => ca_up (by decide) (m_Int_intValue_ok xm N hr)) (fun v23 m23 h => ?_)
      refine wp_run 3 (pc' := 29) (lv' := [(3, .int v23), (1, .int a1), (2, .ref a2)]) (st' := [.int a1, .int v23]) (mem' := m23) rfl ?_
      refine wq_ne2 rfl h (fun h => ?_) (fun h => ?_)
      · refine wp_run 1 (pc' := 33) (lv' := [(3, .int v23), (1, .int a1), (2, .ref a2)]) (st' := [.int 1]) (mem' := m23) rfl ?_
        exact wq_ret rfl rfl h
      · refine wp_run 1 (pc' := 5) (lv' := [(3, .int v23), (1, .int a1), (2, .ref a2)]) (st' := []) (mem' := m23) rfl ?_
        refine kGo_sub (lvS_of [1, 2] rfl [3, 1, 2] rfl (by decide)) ?_
        exact ih _ _ m23 R h
def m_M_has (xm : Nat → Option kE) (N : Nat) (a0 : Nat) (a1 : Int32) (mem : kM) : dRes :=
  dRc xm mem a0 4 <|
  dCR (m_AL_iterator xm N a0 mem) fun v1 m1 =>
  m_M_has_5 xm N N a1 v1 m1
theorem m_M_has_ok (xm : Nat → Option kE) (N : Nat) {a0 : Nat} {a1 : Int32} {mem : kM} {R : kO × kM} (h : m_M_has xm N a0 a1 mem = some R) : kCa xm kSm kDfl kFty kG 3 145 [.ref a0, .int a1] mem (dEq R) := by
  refine wq_ca (show 2 ≤ 4 by decide) ?_
  change kGo xm kSm kDfl kFty kG 2 145 0 [(0, .ref a0), (1, .int a1)] [] mem (dEq R)
  unfold m_M_has at h
  refine wp_run 1 (pc' := 1) (lv' := [(0, .ref a0), (1, .int a1)]) (st' := [.ref a0]) (mem' := mem) rfl ?_
  obtain ⟨fk1, hk1, h⟩ := dRc_some h
  refine wq_cR rfl (kCall_v hk1 (as := []) (rest := []) ⟨by decide, rfl, (show 0 < 90 by decide), by decide⟩ (show 0 ≤ 8 by decide)) h (fun r hr => ca_up (by decide) (m_AL_iterator_ok xm N hr)) (fun v1 m1 h => ?_)
  refine wp_run 1 (pc' := 5) (lv' := [(2, .ref v1), (0, .ref a0), (1, .int a1)]) (st' := []) (mem' := m1) rfl ?_
  refine kGo_sub (lvS_of [2, 0] rfl [2, 0, 1] rfl (by decide)) ?_
  exact m_M_has_5_ok xm N N _ _ m1 R h
/-- KnitsteadModel.where(I)I -/
def m_M_where_46 (xm : Nat → Option kE) (N : Nat) (K11 : Nat → Int32 → Nat → kM → dRes) (a0 : Nat) (a1 : Int32) (a2 : Nat) (mem : kM) : dRes :=
  K11 a0 a1 a2 mem
theorem m_M_where_46_ok (xm : Nat → Option kE) (N : Nat) (K11 : Nat → Int32 → Nat → kM → dRes) (hK11 : ∀ (a0 : Nat) (a1 : Int32) (a2 : Nat) (mem : kM) (R : kO × kM), K11 a0 a1 a2 mem = some R → kGo xm kSm kDfl kFty kG 3 146 11 [(0, .ref a0), (1, .int a1), (2, .ref a2)] [] mem (dEq R)) : ∀ (a0 : Nat) (a1 : Int32) (a2 : Nat) (mem : kM) (R : kO × kM), m_M_where_46 xm N K11 a0 a1 a2 mem = some R → kGo xm kSm kDfl kFty kG 3 146 46 [(0, .ref a0), (1, .int a1), (2, .ref a2)] [] mem (dEq R) := by
  intro a0 a1 a2 mem R h
  unfold m_M_where_46 at h
  refine wp_run 1 (pc' := 11) (lv' := [(0, .ref a0), (1, .int a1), (2, .ref a2)]) (st' := []) (mem' := mem) rfl ?_
  exact hK11 _ _ _ mem R h
def m_M_where_11 (xm : Nat → Option kE) (N : Nat) : Nat → Nat → Int32 → Nat → kM → dRes
  | 0, _, _, _, _ => none
  | n + 1, a0, a1, a2, mem =>
    dRc xm mem a2 3 <|
    dCI (m_Itr_hasNext xm N a2 mem) fun v12 m12 =>
    if v12 = 0 then (
      dGR xm m12 a0 15 5 fun v50 =>
      dGR xm m12 v50 14 0 fun v53 =>
      dCI (m_M_has xm N v53 a1 m12) fun v57 m57 =>
      if v57 = 0 then (
        dGR xm m57 a0 15 5 fun v68 =>
        dGR xm m57 v68 14 1 fun v71 =>
        dCI (m_M_has xm N v71 a1 m57) fun v75 m75 =>
        if v75 = 0 then (
          dGR xm m75 a0 15 2 fun v86 =>
          dCI (m_M_has xm N v86 a1 m75) fun v90 m90 =>
          if v90 = 0 then (
            some (.inl (some (.int 2)), m90)
          ) else (
            some (.inl (some (.int 3)), m90)
          )
        ) else (
          some (.inl (some (.int 1)), m75)
        )
      ) else (
        some (.inl (some (.int 0)), m57)
      )
    ) else (
      dRc xm m12 a2 3 <|
      dCR (m_Itr_next xm N a2 m12) fun v21 m21 =>
      dCC xm m21 v21 1 0 <|
      dIL xm 0 m21 v21 0 fun v32 =>
      if v32 = a1 then (
        dIL xm 0 m21 v21 3 fun v39 =>
        if v39 = 1 then (
          some (.inl (some (.int 4)), m21)
        ) else (
          m_M_where_46 xm N (fun a0 a1 a2 mem => m_M_where_11 xm N n a0 a1 a2 mem) a0 a1 a2 m21
        )
      ) else (
        m_M_where_46 xm N (fun a0 a1 a2 mem => m_M_where_11 xm N n a0 a1 a2 mem) a0 a1 a2 m21
      )
    )
theorem m_M_where_11_ok (xm : Nat → Option kE) (N : Nat) : ∀ (n : Nat) (a0 : Nat) (a1 : Int32) (a2 : Nat) (mem : kM) (R : kO × kM), m_M_where_11 xm N n a0 a1 a2 mem = some R → kGo xm kSm kDfl kFty kG 3 146 11 [(0, .ref a0), (1, .int a1), (2, .ref a2)] [] mem (dEq R) := by
  intro n
  induction n with
  | zero => intro a0 a1 a2 mem R h; cases h
  | succ n ih =>
    intro a0 a1 a2 mem R h
    rw [m_M_where_11] at h
    refine wp_run 1 (pc' := 12) (lv' := [(0, .ref a0), (1, .int a1), (2, .ref a2)]) (st' := [.ref a2]) (mem' := mem) rfl ?_
    obtain ⟨fk12, hk12, h⟩ := dRc_some h
    refine wq_cI rfl (kCall_v hk12 (as := []) (rest := []) ⟨by decide, rfl, (show 0 < 90 by decide), by decide⟩ (show 0 ≤ 8 by decide)) h (fun r hr => ca_up (by decide) (m_Itr_hasNext_ok xm N hr)) (fun v12 m12 h => ?_)
    refine wq_eq rfl h (fun h => ?_) (fun h => ?_)
    · refine wp_run 1 (pc' := 50) (lv' := [(0, .ref a0), (1, .int a1), (2, .ref a2)]) (st' := [.ref a0]) (mem' := m12) rfl ?_
      refine wq_gR rfl h (fun v50 h => ?_)
      refine wq_gR rfl h (fun v53 h => ?_)
      refine wp_run 1 (pc' := 57) (lv' := [(0, .ref a0), (1, .int a1), (2, .ref a2)]) (st' := [.int a1, .ref v53]) (mem' := m12) rfl ?_
      refine wq_cI rfl (kCall_s (as := [.ref v53, .int a1]) (rest := []) ⟨by decide, rfl⟩ (show 0 ≤ 8 by decide) (by decide)) h (fun r hr => ca_up (by decide) (m_M_has_ok xm N hr)) (fun v57 m57 h => ?_)
      refine wq_eq rfl h (fun h => ?_) (fun h => ?_)
      · refine wp_run 1 (pc' := 68) (lv' := [(0, .ref a0), (1, .int a1), (2, .ref a2)]) (st' := [.ref a0]) (mem' := m57) rfl ?_
        refine wq_gR rfl h (fun v68 h => ?_)
        refine wq_gR rfl h (fun v71 h => ?_)
        refine wp_run 1 (pc' := 75) (lv' := [(0, .ref a0), (1, .int a1), (2, .ref a2)]) (st' := [.int a1, .ref v71]) (mem' := m57) rfl ?_
        refine wq_cI rfl (kCall_s (as := [.ref v71, .int a1]) (rest := []) ⟨by decide, rfl⟩ (show 0 ≤ 8 by decide) (by decide)) h (fun r hr => ca_up (by decide) (m_M_has_ok xm N hr)) (fun v75 m75 h => ?_)
        refine wq_eq rfl h (fun h => ?_) (fun h => ?_)
        · refine wp_run 1 (pc' := 86) (lv' := [(0, .ref a0), (1, .int a1), (2, .ref a2)]) (st' := [.ref a0]) (mem' := m75) rfl ?_
          refine wq_gR rfl h (fun v86 h => ?_)
          refine wp_run 1 (pc' := 90) (lv' := [(0, .ref a0), (1, .int a1), (2, .ref a2)]) (st' := [.int a1, .ref v86]) (mem' := m75) rfl ?_
          refine wq_cI rfl (kCall_s (as := [.ref v86, .int a1]) (rest := []) ⟨by decide, rfl⟩ (show 0 ≤ 8 by decide) (by decide)) h (fun r hr => ca_up (by decide) (m_M_has_ok xm N hr)) (fun v90 m90 h => ?_)
          refine wq_eq rfl h (fun h => ?_) (fun h => ?_)
          · refine wp_run 1 (pc' := 101) (lv' := [(0, .ref a0), (1, .int a1), (2, .ref a2)]) (st' := [.int 2]) (mem' := m90) rfl ?_
            exact wq_ret rfl rfl h
          · refine wp_run 2 (pc' := 101) (lv' := [(0, .ref a0), (1, .int a1), (2, .ref a2)]) (st' := [.int 3]) (mem' := m90) rfl ?_
            exact wq_ret rfl rfl h
        · refine wp_run 2 (pc' := 101) (lv' := [(0, .ref a0), (1, .int a1), (2, .ref a2)]) (st' := [.int 1]) (mem' := m75) rfl ?_
          exact wq_ret rfl rfl h
      · refine wp_run 2 (pc' := 101) (lv' := [(0, .ref a0), (1, .int a1), (2, .ref a2)]) (st' := [.int 0]) (mem' := m57) rfl ?_
        exact wq_ret rfl rfl h
    · refine wp_run 1 (pc' := 21) (lv' := [(0, .ref a0), (1, .int a1), (2, .ref a2)]) (st' := [.ref a2]) (mem' := m12) rfl ?_
      obtain ⟨fk21, hk21, h⟩ := dRc_some h
      refine wq_cR rfl (kCall_v hk21 (as := []) (rest := []) ⟨by decide, rfl, (show 0 < 90 by decide), by decide⟩ (show 0 ≤ 8 by decide)) h (fun r hr => ca_up (by decide) (m_Itr_next_ok xm N hr)) (fun v21 m21 h => ?_)
      refine wq_cc rfl h (fun h => ?_)
      refine wp_run 3 (pc' := 32) (lv' := [(3, .ref v21), (0, .ref a0), (1, .int a1), (2, .ref a2)]) (st' := [.int 0, .ref v21]) (mem' := m21) rfl ?_
      refine wq_iL rfl h (fun v32 h => ?_)
      refine wp_run 1 (pc' := 34) (lv' := [(3, .ref v21), (0, .ref a0), (1, .int a1), (2, .ref a2)]) (st' := [.int a1, .int v32]) (mem' := m21) rfl ?_
      refine wq_ne2 rfl h (fun h => ?_) (fun h => ?_)
      · refine wp_run 2 (pc' := 39) (lv' := [(3, .ref v21), (0, .ref a0), (1, .int a1), (2, .ref a2)]) (st' := [.int 3, .ref v21]) (mem' := m21) rfl ?_
        refine wq_iL rfl h (fun v39 h => ?_)
        refine wp_run 1 (pc' := 41) (lv' := [(3, .ref v21), (0, .ref a0), (1, .int a1), (2, .ref a2)]) (st' := [.int 1, .int v39]) (mem' := m21) rfl ?_
        refine wq_ne2 rfl h (fun h => ?_) (fun h => ?_)
        · refine wp_run 1 (pc' := 45) (lv' := [(3, .ref v21), (0, .ref a0), (1, .int a1), (2, .ref a2)]) (st' := [.int 4]) (mem' := m21) rfl ?_
          exact wq_ret rfl rfl h
        · refine kGo_sub (lvS_of [1, 2, 3] rfl [3, 0, 1, 2] rfl (by decide)) ?_
          exact m_M_where_46_ok xm N _ ih _ _ _ m21 R h
      · refine kGo_sub (lvS_of [1, 2, 3] rfl [3, 0, 1, 2] rfl (by decide)) ?_
        exact m_M_where_46_ok xm N _ ih _ _ _ m21 R h
def m_M_where (xm : Nat → Option kE) (N : Nat) (a0 : Nat) (a1 : Int32) (mem : kM) : dRes :=
  dGR xm mem a0 15 5 fun v1 =>
  dGR xm mem v1 14 2 fun v4 =>
  dRc xm mem v4 4 <|
  dCR (m_AL_iterator xm N v4 mem) fun v7 m7 =>
  m_M_where_11 xm N N a0 a1 v7 m7
theorem m_M_where_ok (xm : Nat → Option kE) (N : Nat) {a0 : Nat} {a1 : Int32} {mem : kM} {R : kO × kM} (h : m_M_where xm N a0 a1 mem = some R) : kCa xm kSm kDfl kFty kG 4 146 [.ref a0, .int a1] mem (dEq R) := by
  refine wq_ca (show 2 ≤ 4 by decide) ?_
  change kGo xm kSm kDfl kFty kG 3 146 0 [(0, .ref a0), (1, .int a1)] [] mem (dEq R)
  unfold m_M_where at h
  refine wp_run 1 (pc' := 1) (lv' := [(0, .ref a0), (1, .int a1)]) (st' := [.ref a0]) (mem' := mem) rfl ?_
  refine wq_gR rfl h (fun v1 h => ?_)
  refine wq_gR rfl h (fun v4 h => ?_)
  obtain ⟨fk7, hk7, h⟩ := dRc_some h
  refine wq_cR rfl (kCall_v hk7 (as := []) (rest := []) ⟨by decide, rfl, (show 0 < 90 by decide), by decide⟩ (show 0 ≤ 8 by decide)) h (fun r hr => ca_up (by decide) (m_AL_iterator_ok xm N hr)) (fun v7 m7 h => ?_)
  refine wp_run 1 (pc' := 11) (lv' := [(2, .ref v7), (0, .ref a0), (1, .int a1)]) (st' := []) (mem' := m7) rfl ?_
  refine kGo_sub (lvS_of [1, 2, 0] rfl [2, 0, 1] rfl (by decide)) ?_
  exact m_M_where_11_ok xm N N _ _ _ m7 R h
/-- KnitsteadModel.ofLoopNow(II)I -/
def m_M_ofLoopNow (xm : Nat → Option kE) (N : Nat) (a0 : Nat) (a1 : Int32) (a2 : Int32) (mem : kM) : dRes :=
  dGR xm mem a0 15 1 fun v1 =>
  dRc xm mem v1 4 <|
  dCR (m_AL_get xm N v1 a1 mem) fun v5 m5 =>
  dCC xm m5 v5 0 13 <|
  dNI 0 m5 6 fun m14 p14 =>
  dGI xm m14 v5 13 0 fun v19 =>
  dIS xm m14 p14 0 v19 fun m22 =>
  dGI xm m22 v5 13 1 fun v26 =>
  dIS xm m22 p14 1 v26 fun m29 =>
  dGI xm m29 v5 13 2 fun v33 =>
  dIS xm m29 p14 2 v33 fun m36 =>
  dGI xm m36 v5 13 3 fun v40 =>
  dIS xm m36 p14 3 v40 fun m43 =>
  dGI xm m43 v5 13 5 fun v47 =>
  dIS xm m43 p14 4 v47 fun m50 =>
  dRc xm m50 a0 15 <|
  dCI (m_M_where xm N a0 a1 m50) fun v55 m55 =>
  dIS xm m55 p14 5 v55 fun m58 =>
  dIL xm 0 m58 p14 a2 fun v64 =>
  some (.inl (some (.int v64)), m58)
theorem m_M_ofLoopNow_ok (xm : Nat → Option kE) (N : Nat) {a0 : Nat} {a1 : Int32} {a2 : Int32} {mem : kM} {R : kO × kM} (h : m_M_ofLoopNow xm N a0 a1 a2 mem = some R) : kCa xm kSm kDfl kFty kG 5 147 [.ref a0, .int a1, .int a2] mem (dEq R) := by
  refine wq_ca (show 3 ≤ 5 by decide) ?_
  change kGo xm kSm kDfl kFty kG 4 147 0 [(0, .ref a0), (1, .int a1), (2, .int a2)] [] mem (dEq R)
  unfold m_M_ofLoopNow at h
  refine wp_run 1 (pc' := 1) (lv' := [(0, .ref a0), (1, .int a1), (2, .int a2)]) (st' := [.ref a0]) (mem' := mem) rfl ?_
  refine wq_gR rfl h (fun v1 h => ?_)
  refine wp_run 1 (pc' := 5) (lv' := [(0, .ref a0), (1, .int a1), (2, .int a2)]) (st' := [.int a1, .ref v1]) (mem' := mem) rfl ?_
  obtain ⟨fk5, hk5, h⟩ := dRc_some h
  refine wq_cR rfl (kCall_v hk5 (as := [.int a1]) (rest := []) ⟨by decide, rfl, (show 1 < 90 by decide), by decide⟩ (show 0 ≤ 8 by decide)) h (fun r hr => ca_up (by decide) (m_AL_get_ok xm N hr)) (fun v5 m5 h => ?_)
  refine wq_cc rfl h (fun h => ?_)
  refine wp_run 2 (pc' := 14) (lv' := [(3, .ref v5), (0, .ref a0), (1, .int a1), (2, .int a2)]) (st' := [.int 6]) (mem' := m5) rfl ?_
  refine wq_nI rfl rfl h (fun m14 p14 h => ?_)
  refine wp_run 3 (pc' := 19) (lv' := [(3, .ref v5), (0, .ref a0), (1, .int a1), (2, .int a2)]) (st' := [.ref v5, .int 0, .ref p14, .ref p14]) (mem' := m14) rfl ?_
  refine wq_gI rfl h (fun v19 h => ?_)
  refine wq_iS rfl h (fun m22 h => ?_)
  refine wp_run 3 (pc' := 26) (lv' := [(3, .ref v5), (0, .ref a0), (1, .int a1), (2, .int a2)]) (st' := [.ref v5, .int 1, .ref p14, .ref p14]) (mem' := m22) rfl ?_
  refine wq_gI rfl h (fun v26 h => ?_)
  refine wq_iS rfl h (fun m29 h => ?_)
  refine wp_run 3 (pc' := 33) (lv' := [(3, .ref v5), (0, .ref a0), (1, .int a1), (2, .int a2)]) (st' := [.ref v5, .int 2, .ref p14, .ref p14]) (mem' := m29) rfl ?_
  refine wq_gI rfl h (fun v33 h => ?_)
  refine wq_iS rfl h (fun m36 h => ?_)
  refine wp_run 3 (pc' := 40) (lv' := [(3, .ref v5), (0, .ref a0), (1, .int a1), (2, .int a2)]) (st' := [.ref v5, .int 3, .ref p14, .ref p14]) (mem' := m36) rfl ?_
  refine wq_gI rfl h (fun v40 h => ?_)
  refine wq_iS rfl h (fun m43 h => ?_)
  refine wp_run 3 (pc' := 47) (lv' := [(3, .ref v5), (0, .ref a0), (1, .int a1), (2, .int a2)]) (st' := [.ref v5, .int 4, .ref p14, .ref p14]) (mem' := m43) rfl ?_
  refine wq_gI rfl h (fun v47 h => ?_)
  refine wq_iS rfl h (fun m50 h => ?_)
  refine wp_run 4 (pc' := 55) (lv' := [(3, .ref v5), (0, .ref a0), (1, .int a1), (2, .int a2)]) (st' := [.int a1, .ref a0, .int 5, .ref p14, .ref p14]) (mem' := m50) rfl ?_
  obtain ⟨fk55, hk55, h⟩ := dRc_some h
  refine wq_cI rfl (kCall_v hk55 (as := [.int a1]) (rest := [.int 5, .ref p14, .ref p14]) ⟨by decide, rfl, (show 1 < 90 by decide), by decide⟩ (show 3 ≤ 8 by decide)) h (fun r hr => ca_up (by decide) (m_M_where_ok xm N hr)) (fun v55 m55 h => ?_)
  refine wq_iS rfl h (fun m58 h => ?_)
  refine wp_run 3 (pc' := 64) (lv' := [(4, .ref p14), (3, .ref v5), (0, .ref a0), (1, .int a1), (2, .int a2)]) (st' := [.int a2, .ref p14]) (mem' := m58) rfl ?_
  refine wq_iL rfl h (fun v64 h => ?_)
  exact wq_ret rfl rfl h
/-- KnitsteadModel.ofLoop(II)I -/
def m_M_ofLoop (xm : Nat → Option kE) (N : Nat) (a0 : Nat) (a1 : Int32) (a2 : Int32) (mem : kM) : dRes :=
  dP xm mem a0 15 0 (.int 0) fun m2 =>
  dGR xm m2 a0 15 1 fun v8 =>
  dRc xm m2 v8 4 <|
  dCI (m_AL_size xm N v8 m2) fun v11 m11 =>
  dCI (m_M_is xm N a1 0 (v11 - 1) m11) fun v16 m16 =>
  if v16 = 0 then (
    dRc xm m16 a0 15 <|
    dCI (m_M_refuse xm N a0 1 m16) fun v24 m24 =>
    some (.inl (some (.int v24)), m24)
  ) else (
    dCI (m_M_is xm N a2 0 5 m16) fun v31 m31 =>
    if v31 = 0 then (
      dRc xm m31 a0 15 <|
      dCI (m_M_refuse xm N a0 2 m31) fun v48 m48 =>
      some (.inl (some (.int v48)), m48)
    ) else (
      dRc xm m31 a0 15 <|
      dCI (m_M_ofLoopNow xm N a0 a1 a2 m31) fun v40 m40 =>
      some (.inl (some (.int v40)), m40)
    )
  )
theorem m_M_ofLoop_ok (xm : Nat → Option kE) (N : Nat) {a0 : Nat} {a1 : Int32} {a2 : Int32} {mem : kM} {R : kO × kM} (h : m_M_ofLoop xm N a0 a1 a2 mem = some R) : kCa xm kSm kDfl kFty kG 6 148 [.ref a0, .int a1, .int a2] mem (dEq R) := by
  refine wq_ca (show 3 ≤ 3 by decide) ?_
  change kGo xm kSm kDfl kFty kG 5 148 0 [(0, .ref a0), (1, .int a1), (2, .int a2)] [] mem (dEq R)
  unfold m_M_ofLoop at h
  refine wp_run 2 (pc' := 2) (lv' := [(0, .ref a0), (1, .int a1), (2, .int a2)]) (st' := [.int 0, .ref a0]) (mem' := mem) rfl ?_
  refine wq_p rfl rfl h (fun m2 h => ?_)
  refine wp_run 3 (pc' := 8) (lv' := [(0, .ref a0), (1, .int a1), (2, .int a2)]) (st' := [.ref a0, .int 0, .int a1]) (mem' := m2) rfl ?_
  refine wq_gR rfl h (fun v8 h => ?_)
  obtain ⟨fk11, hk11, h⟩ := dRc_some h
  refine wq_cI rfl (kCall_v hk11 (as := []) (rest := [.int 0, .int a1]) ⟨by decide, rfl, (show 0 < 90 by decide), by decide⟩ (show 2 ≤ 8 by decide)) h (fun r hr => ca_up (by decide) (m_AL_size_ok xm N hr)) (fun v11 m11 h => ?_)
  refine wp_run 2 (pc' := 16) (lv' := [(0, .ref a0), (1, .int a1), (2, .int a2)]) (st' := [.int (v11 - 1), .int 0, .int a1]) (mem' := m11) rfl ?_
  refine wq_cI rfl (kCall_s (as := [.int a1, .int 0, .int (v11 - 1)]) (rest := []) ⟨by decide, rfl⟩ (show 0 ≤ 8 by decide) (by decide)) h (fun r hr => ca_up (by decide) (m_M_is_ok xm N hr)) (fun v16 m16 h => ?_)
  refine wq_ne rfl h (fun h => ?_) (fun h => ?_)
  · refine wp_run 2 (pc' := 24) (lv' := [(0, .ref a0), (1, .int a1), (2, .int a2)]) (st' := [.int 1, .ref a0]) (mem' := m16) rfl ?_
    obtain ⟨fk24, hk24, h⟩ := dRc_some h
    refine wq_cI rfl (kCall_v hk24 (as := [.int 1]) (rest := []) ⟨by decide, rfl, (show 1 < 90 by decide), by decide⟩ (show 0 ≤ 8 by decide)) h (fun r hr => ca_up (by decide) (m_M_refuse_ok xm N hr)) (fun v24 m24 h => ?_)
    exact wq_ret rfl rfl h
  · refine wp_run 3 (pc' := 31) (lv' := [(0, .ref a0), (1, .int a1), (2, .int a2)]) (st' := [.int 5, .int 0, .int a2]) (mem' := m16) rfl ?_
    refine wq_cI rfl (kCall_s (as := [.int a2, .int 0, .int 5]) (rest := []) ⟨by decide, rfl⟩ (show 0 ≤ 8 by decide) (by decide)) h (fun r hr => ca_up (by decide) (m_M_is_ok xm N hr)) (fun v31 m31 h => ?_)
    refine wq_eq rfl h (fun h => ?_) (fun h => ?_)
    · refine wp_run 2 (pc' := 48) (lv' := [(0, .ref a0), (1, .int a1), (2, .int a2)]) (st' := [.int 2, .ref a0]) (mem' := m31) rfl ?_
      obtain ⟨fk48, hk48, h⟩ := dRc_some h
      refine wq_cI rfl (kCall_v hk48 (as := [.int 2]) (rest := []) ⟨by decide, rfl, (show 1 < 90 by decide), by decide⟩ (show 0 ≤ 8 by decide)) h (fun r hr => ca_up (by decide) (m_M_refuse_ok xm N hr)) (fun v48 m48 h => ?_)
      exact wq_ret rfl rfl h
    · refine wp_run 3 (pc' := 40) (lv' := [(0, .ref a0), (1, .int a1), (2, .int a2)]) (st' := [.int a2, .int a1, .ref a0]) (mem' := m31) rfl ?_
      obtain ⟨fk40, hk40, h⟩ := dRc_some h
      refine wq_cI rfl (kCall_v hk40 (as := [.int a1, .int a2]) (rest := []) ⟨by decide, rfl, (show 2 < 90 by decide), by decide⟩ (show 0 ≤ 8 by decide)) h (fun r hr => ca_up (by decide) (m_M_ofLoopNow_ok xm N hr)) (fun v40 m40 h => ?_)
      refine wp_run 1 (pc' := 51) (lv' := [(0, .ref a0), (1, .int a1), (2, .int a2)]) (st' := [.int v40]) (mem' := m40) rfl ?_
      exact wq_ret rfl rfl h
/-- KnitsteadModel.ofRun(II)I -/
def m_M_ofRun (xm : Nat → Option kE) (N : Nat) (a0 : Nat) (a1 : Int32) (a2 : Int32) (mem : kM) : dRes :=
  dP xm mem a0 15 0 (.int 0) fun m2 =>
  dRc xm m2 a0 15 <|
  dCI (m_M_isRun xm N a0 a1 m2) fun v7 m7 =>
  if v7 = 0 then (
    dRc xm m7 a0 15 <|
    dCI (m_M_refuse xm N a0 1 m7) fun v15 m15 =>
    some (.inl (some (.int v15)), m15)
  ) else (
    dCI (m_M_is xm N a2 0 3 m7) fun v22 m22 =>
    if v22 = 0 then (
      dRc xm m22 a0 15 <|
      dCI (m_M_refuse xm N a0 2 m22) fun v49 m49 =>
      some (.inl (some (.int v49)), m49)
    ) else (
      dGR xm m22 a0 15 5 fun v29 =>
      dGR xm m22 v29 14 2 fun v32 =>
      dRc xm m22 v32 4 <|
      dCR (m_AL_get xm N v32 a1 m22) fun v36 m36 =>
      dCC xm m36 v36 1 0 <|
      dIL xm 0 m36 v36 a2 fun v43 =>
      some (.inl (some (.int v43)), m36)
    )
  )
theorem m_M_ofRun_ok (xm : Nat → Option kE) (N : Nat) {a0 : Nat} {a1 : Int32} {a2 : Int32} {mem : kM} {R : kO × kM} (h : m_M_ofRun xm N a0 a1 a2 mem = some R) : kCa xm kSm kDfl kFty kG 4 149 [.ref a0, .int a1, .int a2] mem (dEq R) := by
  refine wq_ca (show 3 ≤ 3 by decide) ?_
  change kGo xm kSm kDfl kFty kG 3 149 0 [(0, .ref a0), (1, .int a1), (2, .int a2)] [] mem (dEq R)
  unfold m_M_ofRun at h
  refine wp_run 2 (pc' := 2) (lv' := [(0, .ref a0), (1, .int a1), (2, .int a2)]) (st' := [.int 0, .ref a0]) (mem' := mem) rfl ?_
  refine wq_p rfl rfl h (fun m2 h => ?_)
  refine wp_run 2 (pc' := 7) (lv' := [(0, .ref a0), (1, .int a1), (2, .int a2)]) (st' := [.int a1, .ref a0]) (mem' := m2) rfl ?_
  obtain ⟨fk7, hk7, h⟩ := dRc_some h
  refine wq_cI rfl (kCall_v hk7 (as := [.int a1]) (rest := []) ⟨by decide, rfl, (show 1 < 90 by decide), by decide⟩ (show 0 ≤ 8 by decide)) h (fun r hr => ca_up (by decide) (m_M_isRun_ok xm N hr)) (fun v7 m7 h => ?_)
  refine wq_ne rfl h (fun h => ?_) (fun h => ?_)
  · refine wp_run 2 (pc' := 15) (lv' := [(0, .ref a0), (1, .int a1), (2, .int a2)]) (st' := [.int 1, .ref a0]) (mem' := m7) rfl ?_
    obtain ⟨fk15, hk15, h⟩ := dRc_some h
    refine wq_cI rfl (kCall_v hk15 (as := [.int 1]) (rest := []) ⟨by decide, rfl, (show 1 < 90 by decide), by decide⟩ (show 0 ≤ 8 by decide)) h (fun r hr => ca_up (by decide) (m_M_refuse_ok xm N hr)) (fun v15 m15 h => ?_)
    exact wq_ret rfl rfl h
  · refine wp_run 3 (pc' := 22) (lv' := [(0, .ref a0), (1, .int a1), (2, .int a2)]) (st' := [.int 3, .int 0, .int a2]) (mem' := m7) rfl ?_
    refine wq_cI rfl (kCall_s (as := [.int a2, .int 0, .int 3]) (rest := []) ⟨by decide, rfl⟩ (show 0 ≤ 8 by decide) (by decide)) h (fun r hr => ca_up (by decide) (m_M_is_ok xm N hr)) (fun v22 m22 h => ?_)
    refine wq_eq rfl h (fun h => ?_) (fun h => ?_)
    · refine wp_run 2 (pc' := 49) (lv' := [(0, .ref a0), (1, .int a1), (2, .int a2)]) (st' := [.int 2, .ref a0]) (mem' := m22) rfl ?_
      obtain ⟨fk49, hk49, h⟩ := dRc_some h
      refine wq_cI rfl (kCall_v hk49 (as := [.int 2]) (rest := []) ⟨by decide, rfl, (show 1 < 90 by decide), by decide⟩ (show 0 ≤ 8 by decide)) h (fun r hr => ca_up (by decide) (m_M_refuse_ok xm N hr)) (fun v49 m49 h => ?_)
      exact wq_ret rfl rfl h
    · refine wp_run 1 (pc' := 29) (lv' := [(0, .ref a0), (1, .int a1), (2, .int a2)]) (st' := [.ref a0]) (mem' := m22) rfl ?_
      refine wq_gR rfl h (fun v29 h => ?_)
      refine wq_gR rfl h (fun v32 h => ?_)
      refine wp_run 1 (pc' := 36) (lv' := [(0, .ref a0), (1, .int a1), (2, .int a2)]) (st' := [.int a1, .ref v32]) (mem' := m22) rfl ?_
      obtain ⟨fk36, hk36, h⟩ := dRc_some h
      refine wq_cR rfl (kCall_v hk36 (as := [.int a1]) (rest := []) ⟨by decide, rfl, (show 1 < 90 by decide), by decide⟩ (show 0 ≤ 8 by decide)) h (fun r hr => ca_up (by decide) (m_AL_get_ok xm N hr)) (fun v36 m36 h => ?_)
      refine wq_cc rfl h (fun h => ?_)
      refine wp_run 1 (pc' := 43) (lv' := [(0, .ref a0), (1, .int a1), (2, .int a2)]) (st' := [.int a2, .ref v36]) (mem' := m36) rfl ?_
      refine wq_iL rfl h (fun v43 h => ?_)
      refine wp_run 1 (pc' := 52) (lv' := [(0, .ref a0), (1, .int a1), (2, .int a2)]) (st' := [.int v43]) (mem' := m36) rfl ?_
      exact wq_ret rfl rfl h
/-- KnitsteadModel$Loop.isSmooth(I)Z -/
def m_ML_isSmooth_33 (xm : Nat → Option kE) (N : Nat) (s0 : Int32) (s1 : Int32) (mem : kM) : dRes :=
  if s0 = s1 then (
    some (.inl (some (.int 1)), mem)
  ) else (
    some (.inl (some (.int 0)), mem)
  )
theorem m_ML_isSmooth_33_ok (xm : Nat → Option kE) (N : Nat) : ∀ (s0 : Int32) (s1 : Int32) (mem : kM) (R : kO × kM), m_ML_isSmooth_33 xm N s0 s1 mem = some R → kGo xm kSm kDfl kFty kG 0 103 33 [] [.int s1, .int s0] mem (dEq R) := by
  intro s0 s1 mem R h
  unfold m_ML_isSmooth_33 at h
  refine wq_ne2 rfl h (fun h => ?_) (fun h => ?_)
  · refine wp_run 2 (pc' := 41) (lv' := []) (st' := [.int 1]) (mem' := mem) rfl ?_
    exact wq_ret rfl rfl h
  · refine wp_run 1 (pc' := 41) (lv' := []) (st' := [.int 0]) (mem' := mem) rfl ?_
    exact wq_ret rfl rfl h
def m_ML_isSmooth_20 (xm : Nat → Option kE) (N : Nat) (a0 : Nat) (a1 : Int32) (s0 : Int32) (mem : kM) : dRes :=
  dGI xm mem a0 13 4 fun v22 =>
  if a1 = v22 then (
    m_ML_isSmooth_33 xm N s0 1 mem
  ) else (
    m_ML_isSmooth_33 xm N s0 0 mem
  )
theorem m_ML_isSmooth_20_ok (xm : Nat → Option kE) (N : Nat) : ∀ (a0 : Nat) (a1 : Int32) (s0 : Int32) (mem : kM) (R : kO × kM), m_ML_isSmooth_20 xm N a0 a1 s0 mem = some R → kGo xm kSm kDfl kFty kG 0 103 20 [(0, .ref a0), (1, .int a1)] [.int s0] mem (dEq R) := by
  intro a0 a1 s0 mem R h
  unfold m_ML_isSmooth_20 at h
  refine wp_run 2 (pc' := 22) (lv' := [(0, .ref a0), (1, .int a1)]) (st' := [.ref a0, .int a1, .int s0]) (mem' := mem) rfl ?_
  refine wq_gI rfl h (fun v22 h => ?_)
  refine wq_ne2 rfl h (fun h => ?_) (fun h => ?_)
  · refine wp_run 2 (pc' := 33) (lv' := [(0, .ref a0), (1, .int a1)]) (st' := [.int 1, .int s0]) (mem' := mem) rfl ?_
    refine kGo_sub (lvS_of [] rfl [0, 1] rfl (by decide)) ?_
    exact m_ML_isSmooth_33_ok xm N _ _ mem R h
  · refine wp_run 1 (pc' := 33) (lv' := [(0, .ref a0), (1, .int a1)]) (st' := [.int 0, .int s0]) (mem' := mem) rfl ?_
    refine kGo_sub (lvS_of [] rfl [0, 1] rfl (by decide)) ?_
    exact m_ML_isSmooth_33_ok xm N _ _ mem R h
def m_ML_isSmooth_19 (xm : Nat → Option kE) (N : Nat) (a0 : Nat) (a1 : Int32) (mem : kM) : dRes :=
  m_ML_isSmooth_20 xm N a0 a1 0 mem
theorem m_ML_isSmooth_19_ok (xm : Nat → Option kE) (N : Nat) : ∀ (a0 : Nat) (a1 : Int32) (mem : kM) (R : kO × kM), m_ML_isSmooth_19 xm N a0 a1 mem = some R → kGo xm kSm kDfl kFty kG 0 103 19 [(0, .ref a0), (1, .int a1)] [] mem (dEq R) := by
  intro a0 a1 mem R h
  unfold m_ML_isSmooth_19 at h
  refine wp_run 1 (pc' := 20) (lv' := [(0, .ref a0), (1, .int a1)]) (st' := [.int 0]) (mem' := mem) rfl ?_
  exact m_ML_isSmooth_20_ok xm N _ _ _ mem R h
def m_ML_isSmooth (xm : Nat → Option kE) (N : Nat) (a0 : Nat) (a1 : Int32) (mem : kM) : dRes :=
  dGI xm mem a0 13 0 fun v1 =>
  if v1 = 2 then (
    m_ML_isSmooth_19 xm N a0 a1 mem
  ) else (
    dGI xm mem a0 13 0 fun v9 =>
    if v9 = 0 then (
      m_ML_isSmooth_19 xm N a0 a1 mem
    ) else (
      m_ML_isSmooth_20 xm N a0 a1 1 mem
    )
  )
theorem m_ML_isSmooth_ok (xm : Nat → Option kE) (N : Nat) {a0 : Nat} {a1 : Int32} {mem : kM} {R : kO × kM} (h : m_ML_isSmooth xm N a0 a1 mem = some R) : kCa xm kSm kDfl kFty kG 1 103 [.ref a0, .int a1] mem (dEq R) := by
  refine wq_ca (show 2 ≤ 2 by decide) ?_
  change kGo xm kSm kDfl kFty kG 0 103 0 [(0, .ref a0), (1, .int a1)] [] mem (dEq R)
  unfold m_ML_isSmooth at h
  refine wp_run 1 (pc' := 1) (lv' := [(0, .ref a0), (1, .int a1)]) (st' := [.ref a0]) (mem' := mem) rfl ?_
  refine wq_gI rfl h (fun v1 h => ?_)
  refine wp_run 1 (pc' := 5) (lv' := [(0, .ref a0), (1, .int a1)]) (st' := [.int 2, .int v1]) (mem' := mem) rfl ?_
  refine wq_eq2 rfl h (fun h => ?_) (fun h => ?_)
  · exact m_ML_isSmooth_19_ok xm N _ _ mem R h
  · refine wp_run 1 (pc' := 9) (lv' := [(0, .ref a0), (1, .int a1)]) (st' := [.ref a0]) (mem' := mem) rfl ?_
    refine wq_gI rfl h (fun v9 h => ?_)
    refine wq_eq rfl h (fun h => ?_) (fun h => ?_)
    · exact m_ML_isSmooth_19_ok xm N _ _ mem R h
    · refine wp_run 2 (pc' := 20) (lv' := [(0, .ref a0), (1, .int a1)]) (st' := [.int 1]) (mem' := mem) rfl ?_
      exact m_ML_isSmooth_20_ok xm N _ _ _ mem R h
/-- KnitsteadModel.sign(LKnitsteadModel$Loop;)C -/
def m_M_sign_19 (xm : Nat → Option kE) (N : Nat) (a0 : Nat) (a1 : Nat) (s0 : Int32) (mem : kM) : dRes :=
  dGI xm mem a1 13 0 fun v21 =>
  if v21 = 3 then (
    some (.inl (some (.int 111)), mem)
  ) else (
    dGI xm mem a1 13 0 fun v32 =>
    if v32 = 4 then (
      if s0 = 0 then (
        some (.inl (some (.int 62)), mem)
      ) else (
        some (.inl (some (.int 60)), mem)
      )
    ) else (
      dGI xm mem a1 13 0 fun v52 =>
      if v52 = 5 then (
        if s0 = 0 then (
          some (.inl (some (.int 60)), mem)
        ) else (
          some (.inl (some (.int 62)), mem)
        )
      ) else (
        dGR xm mem a0 15 5 fun v73 =>
        dGI xm mem v73 14 4 fun v76 =>
        dRc xm mem a1 13 <|
        dCI (m_ML_isSmooth xm N a1 v76 mem) fun v79 m79 =>
        if v79 = 0 then (
          some (.inl (some (.int 45)), m79)
        ) else (
          some (.inl (some (.int 118)), m79)
        )
      )
    )
  )
theorem m_M_sign_19_ok (xm : Nat → Option kE) (N : Nat) : ∀ (a0 : Nat) (a1 : Nat) (s0 : Int32) (mem : kM) (R : kO × kM), m_M_sign_19 xm N a0 a1 s0 mem = some R → kGo xm kSm kDfl kFty kG 1 150 19 [(0, .ref a0), (1, .ref a1)] [.int s0] mem (dEq R) := by
  intro a0 a1 s0 mem R h
  unfold m_M_sign_19 at h
  refine wp_run 2 (pc' := 21) (lv' := [(2, .int s0), (0, .ref a0), (1, .ref a1)]) (st' := [.ref a1]) (mem' := mem) rfl ?_
  refine wq_gI rfl h (fun v21 h => ?_)
  refine wp_run 1 (pc' := 25) (lv' := [(2, .int s0), (0, .ref a0), (1, .ref a1)]) (st' := [.int 3, .int v21]) (mem' := mem) rfl ?_
  refine wq_ne2 rfl h (fun h => ?_) (fun h => ?_)
  · refine wp_run 1 (pc' := 30) (lv' := [(2, .int s0), (0, .ref a0), (1, .ref a1)]) (st' := [.int 111]) (mem' := mem) rfl ?_
    exact wq_ret rfl rfl h
  · refine wp_run 1 (pc' := 32) (lv' := [(2, .int s0), (0, .ref a0), (1, .ref a1)]) (st' := [.ref a1]) (mem' := mem) rfl ?_
    refine wq_gI rfl h (fun v32 h => ?_)
    refine wp_run 1 (pc' := 36) (lv' := [(2, .int s0), (0, .ref a0), (1, .ref a1)]) (st' := [.int 4, .int v32]) (mem' := mem) rfl ?_
    refine wq_ne2 rfl h (fun h => ?_) (fun h => ?_)
    · refine wp_run 1 (pc' := 40) (lv' := [(2, .int s0), (0, .ref a0), (1, .ref a1)]) (st' := [.int s0]) (mem' := mem) rfl ?_
      refine wq_eq rfl h (fun h => ?_) (fun h => ?_)
      · refine wp_run 1 (pc' := 50) (lv' := [(2, .int s0), (0, .ref a0), (1, .ref a1)]) (st' := [.int 62]) (mem' := mem) rfl ?_
        exact wq_ret rfl rfl h
      · refine wp_run 2 (pc' := 50) (lv' := [(2, .int s0), (0, .ref a0), (1, .ref a1)]) (st' := [.int 60]) (mem' := mem) rfl ?_
        exact wq_ret rfl rfl h
    · refine wp_run 1 (pc' := 52) (lv' := [(2, .int s0), (0, .ref a0), (1, .ref a1)]) (st' := [.ref a1]) (mem' := mem) rfl ?_
      refine wq_gI rfl h (fun v52 h => ?_)
      refine wp_run 1 (pc' := 56) (lv' := [(2, .int s0), (0, .ref a0), (1, .ref a1)]) (st' := [.int 5, .int v52]) (mem' := mem) rfl ?_
      refine wq_ne2 rfl h (fun h => ?_) (fun h => ?_)
      · refine wp_run 1 (pc' := 60) (lv' := [(2, .int s0), (0, .ref a0), (1, .ref a1)]) (st' := [.int s0]) (mem' := mem) rfl ?_
        refine wq_eq rfl h (fun h => ?_) (fun h => ?_)
        · refine wp_run 1 (pc' := 70) (lv' := [(2, .int s0), (0, .ref a0), (1, .ref a1)]) (st' := [.int 60]) (mem' := mem) rfl ?_
          exact wq_ret rfl rfl h
        · refine wp_run 2 (pc' := 70) (lv' := [(2, .int s0), (0, .ref a0), (1, .ref a1)]) (st' := [.int 62]) (mem' := mem) rfl ?_
          exact wq_ret rfl rfl h
      · refine wp_run 2 (pc' := 73) (lv' := [(2, .int s0), (0, .ref a0), (1, .ref a1)]) (st' := [.ref a0, .ref a1]) (mem' := mem) rfl ?_
        refine wq_gR rfl h (fun v73 h => ?_)
        refine wq_gI rfl h (fun v76 h => ?_)
        obtain ⟨fk79, hk79, h⟩ := dRc_some h
        refine wq_cI rfl (kCall_v hk79 (as := [.int v76]) (rest := []) ⟨by decide, rfl, (show 1 < 90 by decide), by decide⟩ (show 0 ≤ 8 by decide)) h (fun r hr => ca_up (by decide) (m_ML_isSmooth_ok xm N hr)) (fun v79 m79 h => ?_)
        refine wq_eq rfl h (fun h => ?_) (fun h => ?_)
        · refine wp_run 1 (pc' := 92) (lv' := [(2, .int s0), (0, .ref a0), (1, .ref a1)]) (st' := [.int 45]) (mem' := m79) rfl ?_
          exact wq_ret rfl rfl h
        · refine wp_run 2 (pc' := 92) (lv' := [(2, .int s0), (0, .ref a0), (1, .ref a1)]) (st' := [.int 118]) (mem' := m79) rfl ?_
          exact wq_ret rfl rfl h
def m_M_sign (xm : Nat → Option kE) (N : Nat) (a0 : Nat) (a1 : Nat) (mem : kM) : dRes :=
  dGI xm mem a1 13 4 fun v1 =>
  dGR xm mem a0 15 5 fun v5 =>
  dGI xm mem v5 14 4 fun v8 =>
  if v1 = v8 then (
    m_M_sign_19 xm N a0 a1 1 mem
  ) else (
    m_M_sign_19 xm N a0 a1 0 mem
  )
theorem m_M_sign_ok (xm : Nat → Option kE) (N : Nat) {a0 : Nat} {a1 : Nat} {mem : kM} {R : kO × kM} (h : m_M_sign xm N a0 a1 mem = some R) : kCa xm kSm kDfl kFty kG 2 150 [.ref a0, .ref a1] mem (dEq R) := by
  refine wq_ca (show 2 ≤ 3 by decide) ?_
  change kGo xm kSm kDfl kFty kG 1 150 0 [(0, .ref a0), (1, .ref a1)] [] mem (dEq R)
  unfold m_M_sign at h
  refine wp_run 1 (pc' := 1) (lv' := [(0, .ref a0), (1, .ref a1)]) (st' := [.ref a1]) (mem' := mem) rfl ?_
  refine wq_gI rfl h (fun v1 h => ?_)
  refine wp_run 1 (pc' := 5) (lv' := [(0, .ref a0), (1, .ref a1)]) (st' := [.ref a0, .int v1]) (mem' := mem) rfl ?_
  refine wq_gR rfl h (fun v5 h => ?_)
  refine wq_gI rfl h (fun v8 h => ?_)
  refine wq_ne2 rfl h (fun h => ?_) (fun h => ?_)
  · refine wp_run 2 (pc' := 19) (lv' := [(0, .ref a0), (1, .ref a1)]) (st' := [.int 1]) (mem' := mem) rfl ?_
    exact m_M_sign_19_ok xm N _ _ _ mem R h
  · refine wp_run 1 (pc' := 19) (lv' := [(0, .ref a0), (1, .ref a1)]) (st' := [.int 0]) (mem' := mem) rfl ?_
    exact m_M_sign_19_ok xm N _ _ _ mem R h
/-- KnitsteadModel.seen(Z)Ljava/lang/String; -/
def m_M_seen_27 (xm : Nat → Option kE) (N : Nat) : Nat → Nat → Nat → Nat → Int32 → kM → dRes
  | 0, _, _, _, _, _ => none
  | n + 1, a0, a2, a3, a4, mem =>
    if a4 < 0 then (
      dRc xm mem a3 1 <|
      dCR (m_SB_toString xm N a3 mem) fun v70 m70 =>
      some (.inl (some (.ref v70)), m70)
    ) else (
      dGR xm mem a0 15 1 fun v35 =>
      dRc xm mem a2 4 <|
      dCR (m_AL_get xm N a2 a4 mem) fun v41 m41 =>
      dCC xm m41 v41 0 2 <|
      dRc xm m41 v41 2 <|
      dCI (m_Int_intValue xm N v41 m41) fun v47 m47 =>
      dRc xm m47 v35 4 <|
      dCR (m_AL_get xm N v35 v47 m47) fun v50 m50 =>
      dCC xm m50 v50 0 13 <|
      dRc xm m50 a0 15 <|
      dCI (m_M_sign xm N a0 v50 m50) fun v56 m56 =>
      dRc xm m56 a3 1 <|
      dCR (m_SB_append_0 xm N a3 v56 m56) fun v59 m59 =>
      m_M_seen_27 xm N n a0 a2 a3 (a4 + (-1)) m59
    )
theorem m_M_seen_27_ok (xm : Nat → Option kE) (N : Nat) : ∀ (n : Nat) (a0 : Nat) (a2 : Nat) (a3 : Nat) (a4 : Int32) (mem : kM) (R : kO × kM), m_M_seen_27 xm N n a0 a2 a3 a4 mem = some R → kGo xm kSm kDfl kFty kG 6 151 27 [(0, .ref a0), (2, .ref a2), (3, .ref a3), (4, .int a4)] [] mem (dEq R) := by
  intro n
  induction n with
  | zero => intro a0 a2 a3 a4 mem R h; cases h
  | succ n ih =>
    intro a0 a2 a3 a4 mem R h
    rw [m_M_seen_27] at h
    refine wp_run 1 (pc' := 29) (lv' := [(0, .ref a0), (2, .ref a2), (3, .ref a3), (4, .int a4)]) (st' := [.int a4]) (mem' := mem) rfl ?_
    refine wq_lt rfl h (fun h => ?_) (fun h => ?_)
    · refine wp_run 1 (pc' := 70) (lv' := [(0, .ref a0), (2, .ref a2), (3, .ref a3), (4, .int a4)]) (st' := [.ref a3]) (mem' := mem) rfl ?_
      obtain ⟨fk70, hk70, h⟩ := dRc_some h
      refine wq_cR rfl (kCall_v hk70 (as := []) (rest := []) ⟨by decide, rfl, (show 0 < 90 by decide), by decide⟩ (show 0 ≤ 8 by decide)) h (fun r hr => ca_up (by decide) (m_SB_toString_ok xm N hr)) (fun v70 m70 h => ?_)
      exact wq_end rfl rfl h
    · refine wp_run 3 (pc' := 35) (lv' := [(0, .ref a0), (2, .ref a2), (3, .ref a3), (4, .int a4)]) (st' := [.ref a0, .ref a0, .ref a3]) (mem' := mem) rfl ?_
      refine wq_gR rfl h (fun v35 h => ?_)
      refine wp_run 2 (pc' := 41) (lv' := [(0, .ref a0), (2, .ref a2), (3, .ref a3), (4, .int a4)]) (st' := [.int a4, .ref a2, .ref v35, .ref a0, .ref a3]) (mem' := mem) rfl ?_
      obtain ⟨fk41, hk41, h⟩ := dRc_some h
      refine wq_cR rfl (kCall_v hk41 (as := [.int a4]) (rest := [.ref v35, .ref a0, .ref a3]) ⟨by decide, rfl, (show 1 < 90 by decide), by decide⟩ (show 3 ≤ 8 by decide)) h (fun r hr => ca_up (by decide) (m_AL_get_ok xm N hr)) (fun v41 m41 h => ?_)
      refine wq_cc rfl h (fun h => ?_)
      obtain ⟨fk47, hk47, h⟩ := dRc_some h
      refine wq_cI rfl (kCall_v hk47 (as := []) (rest := [.ref v35, .ref a0, .ref a3]) ⟨by decide, rfl, (show 0 < 90 by decide), by decide⟩ (show 3 ≤ 8 by decide)) h (fun r hr => ca_up (by decide) (m_Int_intValue_ok xm N hr)) (fun v47 m47 h => ?_)
      obtain ⟨fk50, hk50, h⟩ := dRc_some h
      refine wq_cR rfl (kCall_v hk50 (as := [.int v47]) (rest := [.ref a0, .ref a3]) ⟨by decide, rfl, (show 1 < 90 by decide), by decide⟩ (show 2 ≤ 8 by decide)) h (fun r hr => ca_up (by decide) (m_AL_get_ok xm N hr)) (fun v50 m50 h => ?_)
      refine wq_cc rfl h (fun h => ?_)
      obtain ⟨fk56, hk56, h⟩ := dRc_some h
      refine wq_cI rfl (kCall_v hk56 (as := [.ref v50]) (rest := [.ref a3]) ⟨by decide, rfl, (show 1 < 90 by decide), by decide⟩ (show 1 ≤ 8 by decide)) h (fun r hr => ca_up (by decide) (m_M_sign_ok xm N hr)) (fun v56 m56 h => ?_)
      obtain ⟨fk59, hk59, h⟩ := dRc_some h
      refine wq_cR rfl (kCall_v hk59 (as := [.int v56]) (rest := []) ⟨by decide, rfl, (show 1 < 90 by decide), by decide⟩ (show 0 ≤ 8 by decide)) h (fun r hr => ca_up (by decide) (m_SB_append_0_ok xm N hr)) (fun v59 m59 h => ?_)
      refine wp_run 3 (pc' := 27) (lv' := [(4, .int (a4 + (-1))), (0, .ref a0), (2, .ref a2), (3, .ref a3)]) (st' := []) (mem' := m59) rfl ?_
      refine kGo_sub (lvS_of [1, 2, 3, 0] rfl [4, 0, 2, 3] rfl (by decide)) ?_
      exact ih _ _ _ _ m59 R h
def m_M_seen (xm : Nat → Option kE) (N : Nat) (a0 : Nat) (a1 : Int32) (mem : kM) : dRes :=
  dP xm mem a0 15 0 (.int 0) fun m2 =>
  dRc xm m2 a0 15 <|
  dCR (m_M_needle xm N a0 a1 m2) fun v7 m7 =>
  dN m7 (.inl (1, [.null, .int 0, .int 0, .int 0])) fun m11 p11 =>
  dCV (m_SB_new xm N p11 m11) fun m15 =>
  dRc xm m15 v7 4 <|
  dCI (m_AL_size xm N v7 m15) fun v20 m20 =>
  m_M_seen_27 xm N N a0 v7 p11 (v20 - 1) m20
theorem m_M_seen_ok (xm : Nat → Option kE) (N : Nat) {a0 : Nat} {a1 : Int32} {mem : kM} {R : kO × kM} (h : m_M_seen xm N a0 a1 mem = some R) : kCa xm kSm kDfl kFty kG 7 151 [.ref a0, .int a1] mem (dEq R) := by
  refine wq_ca (show 2 ≤ 5 by decide) ?_
  change kGo xm kSm kDfl kFty kG 6 151 0 [(0, .ref a0), (1, .int a1)] [] mem (dEq R)
  unfold m_M_seen at h
  refine wp_run 2 (pc' := 2) (lv' := [(0, .ref a0), (1, .int a1)]) (st' := [.int 0, .ref a0]) (mem' := mem) rfl ?_
  refine wq_p rfl rfl h (fun m2 h => ?_)
  refine wp_run 2 (pc' := 7) (lv' := [(0, .ref a0), (1, .int a1)]) (st' := [.int a1, .ref a0]) (mem' := m2) rfl ?_
  obtain ⟨fk7, hk7, h⟩ := dRc_some h
  refine wq_cR rfl (kCall_v hk7 (as := [.int a1]) (rest := []) ⟨by decide, rfl, (show 1 < 90 by decide), by decide⟩ (show 0 ≤ 8 by decide)) h (fun r hr => ca_up (by decide) (m_M_needle_ok xm N hr)) (fun v7 m7 h => ?_)
  refine wp_run 1 (pc' := 11) (lv' := [(2, .ref v7), (0, .ref a0), (1, .int a1)]) (st' := []) (mem' := m7) rfl ?_
  refine wq_n rfl (by decide) rfl h (fun m11 p11 h => ?_)
  refine wp_run 1 (pc' := 15) (lv' := [(2, .ref v7), (0, .ref a0), (1, .int a1)]) (st' := [.ref p11, .ref p11]) (mem' := m11) rfl ?_
  refine wq_cV rfl (kCall_i (as := []) (rest := [.ref p11]) ⟨by decide, rfl, (show 0 < 90 by decide)⟩ (show 1 ≤ 8 by decide)) h (fun r hr => ca_up (by decide) (m_SB_new_ok xm N hr)) (fun m15 h => ?_)
  refine wp_run 2 (pc' := 20) (lv' := [(3, .ref p11), (2, .ref v7), (0, .ref a0), (1, .int a1)]) (st' := [.ref v7]) (mem' := m15) rfl ?_
  obtain ⟨fk20, hk20, h⟩ := dRc_some h
  refine wq_cI rfl (kCall_v hk20 (as := []) (rest := []) ⟨by decide, rfl, (show 0 < 90 by decide), by decide⟩ (show 0 ≤ 8 by decide)) h (fun r hr => ca_up (by decide) (m_AL_size_ok xm N hr)) (fun v20 m20 h => ?_)
  refine wp_run 3 (pc' := 27) (lv' := [(4, .int (v20 - 1)), (3, .ref p11), (2, .ref v7), (0, .ref a0), (1, .int a1)]) (st' := []) (mem' := m20) rfl ?_
  refine kGo_sub (lvS_of [3, 2, 1, 0] rfl [4, 3, 2, 0, 1] rfl (by decide)) ?_
  exact m_M_seen_27_ok xm N N _ _ _ _ m20 R h
/-- KnitsteadModel.widthNow(Z)I -/
def m_M_widthNow_100 (xm : Nat → Option kE) (N : Nat) (K16 : Nat → Nat → Int32 → Int32 → kM → dRes) (a0 : Nat) (a2 : Nat) (a4 : Int32) (s0 : Int32) (s1 : Int32) (mem : kM) : dRes :=
  K16 a0 a2 (s0 - s1) (a4 + 1) mem
theorem m_M_widthNow_100_ok (xm : Nat → Option kE) (N : Nat) (K16 : Nat → Nat → Int32 → Int32 → kM → dRes) (hK16 : ∀ (a0 : Nat) (a2 : Nat) (a3 : Int32) (a4 : Int32) (mem : kM) (R : kO × kM), K16 a0 a2 a3 a4 mem = some R → kGo xm kSm kDfl kFty kG 3 152 16 [(0, .ref a0), (2, .ref a2), (3, .int a3), (4, .int a4)] [] mem (dEq R)) : ∀ (a0 : Nat) (a2 : Nat) (a4 : Int32) (s0 : Int32) (s1 : Int32) (mem : kM) (R : kO × kM), m_M_widthNow_100 xm N K16 a0 a2 a4 s0 s1 mem = some R → kGo xm kSm kDfl kFty kG 3 152 100 [(0, .ref a0), (2, .ref a2), (4, .int a4)] [.int s1, .int s0] mem (dEq R) := by
  intro a0 a2 a4 s0 s1 mem R h
  unfold m_M_widthNow_100 at h
  refine wp_run 4 (pc' := 16) (lv' := [(4, .int (a4 + 1)), (3, .int (s0 - s1)), (0, .ref a0), (2, .ref a2)]) (st' := []) (mem' := mem) rfl ?_
  refine kGo_sub (lvS_of [2, 3, 1, 0] rfl [4, 3, 0, 2] rfl (by decide)) ?_
  exact hK16 _ _ _ _ mem R h
def m_M_widthNow_16 (xm : Nat → Option kE) (N : Nat) : Nat → Nat → Nat → Int32 → Int32 → kM → dRes
  | 0, _, _, _, _, _ => none
  | n + 1, a0, a2, a3, a4, mem =>
    dRc xm mem a2 4 <|
    dCI (m_AL_size xm N a2 mem) fun v19 m19 =>
    if a4 < v19 then (
      dGR xm m19 a0 15 1 fun v27 =>
      dRc xm m19 a2 4 <|
      dCR (m_AL_get xm N a2 a4 m19) fun v33 m33 =>
      dCC xm m33 v33 0 2 <|
      dRc xm m33 v33 2 <|
      dCI (m_Int_intValue xm N v33 m33) fun v39 m39 =>
      dRc xm m39 v27 4 <|
      dCR (m_AL_get xm N v27 v39 m39) fun v42 m42 =>
      dCC xm m42 v42 0 13 <|
      dGR xm m42 a0 15 5 fun v49 =>
      dGI xm m42 v49 14 4 fun v52 =>
      dRc xm m42 v42 13 <|
      dCI (m_ML_isSmooth xm N v42 v52 m42) fun v55 m55 =>
      dGR xm m55 a0 15 1 fun v59 =>
      dRc xm m55 a2 4 <|
      dCR (m_AL_get xm N a2 (a4 - 1) m55) fun v67 m67 =>
      dCC xm m67 v67 0 2 <|
      dRc xm m67 v67 2 <|
      dCI (m_Int_intValue xm N v67 m67) fun v73 m73 =>
      dRc xm m73 v59 4 <|
      dCR (m_AL_get xm N v59 v73 m73) fun v76 m76 =>
      dCC xm m76 v76 0 13 <|
      dGR xm m76 a0 15 5 fun v83 =>
      dGI xm m76 v83 14 4 fun v86 =>
      dRc xm m76 v76 13 <|
      dCI (m_ML_isSmooth xm N v76 v86 m76) fun v89 m89 =>
      if v55 = v89 then (
        m_M_widthNow_100 xm N (fun a0 a2 a3 a4 mem => m_M_widthNow_16 xm N n a0 a2 a3 a4 mem) a0 a2 a4 a3 0 m89
      ) else (
        m_M_widthNow_100 xm N (fun a0 a2 a3 a4 mem => m_M_widthNow_16 xm N n a0 a2 a3 a4 mem) a0 a2 a4 a3 1 m89
      )
    ) else (
      some (.inl (some (.int a3)), m19)
    )
theorem m_M_widthNow_16_ok (xm : Nat → Option kE) (N : Nat) : ∀ (n : Nat) (a0 : Nat) (a2 : Nat) (a3 : Int32) (a4 : Int32) (mem : kM) (R : kO × kM), m_M_widthNow_16 xm N n a0 a2 a3 a4 mem = some R → kGo xm kSm kDfl kFty kG 3 152 16 [(0, .ref a0), (2, .ref a2), (3, .int a3), (4, .int a4)] [] mem (dEq R) := by
  intro n
  induction n with
  | zero => intro a0 a2 a3 a4 mem R h; cases h
  | succ n ih =>
    intro a0 a2 a3 a4 mem R h
    rw [m_M_widthNow_16] at h
    refine wp_run 2 (pc' := 19) (lv' := [(0, .ref a0), (2, .ref a2), (3, .int a3), (4, .int a4)]) (st' := [.ref a2, .int a4]) (mem' := mem) rfl ?_
    obtain ⟨fk19, hk19, h⟩ := dRc_some h
    refine wq_cI rfl (kCall_v hk19 (as := []) (rest := [.int a4]) ⟨by decide, rfl, (show 0 < 90 by decide), by decide⟩ (show 1 ≤ 8 by decide)) h (fun r hr => ca_up (by decide) (m_AL_size_ok xm N hr)) (fun v19 m19 h => ?_)
    refine wq_ge2 rfl h (fun h => ?_) (fun h => ?_)
    · refine wp_run 2 (pc' := 27) (lv' := [(0, .ref a0), (2, .ref a2), (3, .int a3), (4, .int a4)]) (st' := [.ref a0, .int a3]) (mem' := m19) rfl ?_
      refine wq_gR rfl h (fun v27 h => ?_)
      refine wp_run 2 (pc' := 33) (lv' := [(0, .ref a0), (2, .ref a2), (3, .int a3), (4, .int a4)]) (st' := [.int a4, .ref a2, .ref v27, .int a3]) (mem' := m19) rfl ?_
      obtain ⟨fk33, hk33, h⟩ := dRc_some h
      refine wq_cR rfl (kCall_v hk33 (as := [.int a4]) (rest := [.ref v27, .int a3]) ⟨by decide, rfl, (show 1 < 90 by decide), by decide⟩ (show 2 ≤ 8 by decide)) h (fun r hr => ca_up (by decide) (m_AL_get_ok xm N hr)) (fun v33 m33 h => ?_)
      refine wq_cc rfl h (fun h => ?_)
      obtain ⟨fk39, hk39, h⟩ := dRc_some h
      refine wq_cI rfl (kCall_v hk39 (as := []) (rest := [.ref v27, .int a3]) ⟨by decide, rfl, (show 0 < 90 by decide), by decide⟩ (show 2 ≤ 8 by decide)) h (fun r hr => ca_up (by decide) (m_Int_intValue_ok xm N hr)) (fun v39 m39 h => ?_)
      obtain ⟨fk42, hk42, h⟩ := dRc_some h
      refine wq_cR rfl (kCall_v hk42 (as := [.int v39]) (rest := [.int a3]) ⟨by decide, rfl, (show 1 < 90 by decide), by decide⟩ (show 1 ≤ 8 by decide)) h (fun r hr => ca_up (by decide) (m_AL_get_ok xm N hr)) (fun v42 m42 h => ?_)
      refine wq_cc rfl h (fun h => ?_)
      refine wp_run 1 (pc' := 49) (lv' := [(0, .ref a0), (2, .ref a2), (3, .int a3), (4, .int a4)]) (st' := [.ref a0, .ref v42, .int a3]) (mem' := m42) rfl ?_
      refine wq_gR rfl h (fun v49 h => ?_)
      refine wq_gI rfl h (fun v52 h => ?_)
      obtain ⟨fk55, hk55, h⟩ := dRc_some h
      refine wq_cI rfl (kCall_v hk55 (as := [.int v52]) (rest := [.int a3]) ⟨by decide, rfl, (show 1 < 90 by decide), by decide⟩ (show 1 ≤ 8 by decide)) h (fun r hr => ca_up (by decide) (m_ML_isSmooth_ok xm N hr)) (fun v55 m55 h => ?_)
      refine wp_run 1 (pc' := 59) (lv' := [(0, .ref a0), (2, .ref a2), (3, .int a3), (4, .int a4)]) (st' := [.ref a0, .int v55, .int a3]) (mem' := m55) rfl ?_
      refine wq_gR rfl h (fun v59 h => ?_)
      refine wp_run 4 (pc' := 67) (lv' := [(0, .ref a0), (2, .ref a2), (3, .int a3), (4, .int a4)]) (st' := [.int (a4 - 1), .ref a2, .ref v59, .int v55, .int a3]) (mem' := m55) rfl ?_
      obtain ⟨fk67, hk67, h⟩ := dRc_some h
      refine wq_cR rfl (kCall_v hk67 (as := [.int (a4 - 1)]) (rest := [.ref v59, .int v55, .int a3]) ⟨by decide, rfl, (show 1 < 90 by decide), by decide⟩ (show 3 ≤ 8 by decide)) h (fun r hr => ca_up (by decide) (m_AL_get_ok xm N hr)) (fun v67 m67 h => ?_)
      refine wq_cc rfl h (fun h => ?_)
      obtain ⟨fk73, hk73, h⟩ := dRc_some h
      refine wq_cI rfl (kCall_v hk73 (as := []) (rest := [.ref v59, .int v55, .int a3]) ⟨by decide, rfl, (show 0 < 90 by decide), by decide⟩ (show 3 ≤ 8 by decide)) h (fun r hr => ca_up (by decide) (m_Int_intValue_ok xm N hr)) (fun v73 m73 h => ?_)
      obtain ⟨fk76, hk76, h⟩ := dRc_some h
      refine wq_cR rfl (kCall_v hk76 (as := [.int v73]) (rest := [.int v55, .int a3]) ⟨by decide, rfl, (show 1 < 90 by decide), by decide⟩ (show 2 ≤ 8 by decide)) h (fun r hr => ca_up (by decide) (m_AL_get_ok xm N hr)) (fun v76 m76 h => ?_)
      refine wq_cc rfl h (fun h => ?_)
      refine wp_run 1 (pc' := 83) (lv' := [(0, .ref a0), (2, .ref a2), (3, .int a3), (4, .int a4)]) (st' := [.ref a0, .ref v76, .int v55, .int a3]) (mem' := m76) rfl ?_
      refine wq_gR rfl h (fun v83 h => ?_)
      refine wq_gI rfl h (fun v86 h => ?_)
      obtain ⟨fk89, hk89, h⟩ := dRc_some h
      refine wq_cI rfl (kCall_v hk89 (as := [.int v86]) (rest := [.int v55, .int a3]) ⟨by decide, rfl, (show 1 < 90 by decide), by decide⟩ (show 2 ≤ 8 by decide)) h (fun r hr => ca_up (by decide) (m_ML_isSmooth_ok xm N hr)) (fun v89 m89 h => ?_)
      refine wq_ne2 rfl h (fun h => ?_) (fun h => ?_)
      · refine wp_run 2 (pc' := 100) (lv' := [(0, .ref a0), (2, .ref a2), (3, .int a3), (4, .int a4)]) (st' := [.int 0, .int a3]) (mem' := m89) rfl ?_
        refine kGo_sub (lvS_of [0, 1, 3] rfl [0, 2, 3, 4] rfl (by decide)) ?_
        exact m_M_widthNow_100_ok xm N _ ih _ _ _ _ _ m89 R h
      · refine wp_run 1 (pc' := 100) (lv' := [(0, .ref a0), (2, .ref a2), (3, .int a3), (4, .int a4)]) (st' := [.int 1, .int a3]) (mem' := m89) rfl ?_
        refine kGo_sub (lvS_of [0, 1, 3] rfl [0, 2, 3, 4] rfl (by decide)) ?_
        exact m_M_widthNow_100_ok xm N _ ih _ _ _ _ _ m89 R h
    · refine wp_run 1 (pc' := 109) (lv' := [(0, .ref a0), (2, .ref a2), (3, .int a3), (4, .int a4)]) (st' := [.int a3]) (mem' := m19) rfl ?_
      exact wq_ret rfl rfl h
def m_M_widthNow (xm : Nat → Option kE) (N : Nat) (a0 : Nat) (a1 : Int32) (mem : kM) : dRes :=
  dRc xm mem a0 15 <|
  dCR (m_M_needle xm N a0 a1 mem) fun v2 m2 =>
  dRc xm m2 v2 4 <|
  dCI (m_AL_size xm N v2 m2) fun v8 m8 =>
  m_M_widthNow_16 xm N N a0 v2 (4 * v8) 1 m8
theorem m_M_widthNow_ok (xm : Nat → Option kE) (N : Nat) {a0 : Nat} {a1 : Int32} {mem : kM} {R : kO × kM} (h : m_M_widthNow xm N a0 a1 mem = some R) : kCa xm kSm kDfl kFty kG 4 152 [.ref a0, .int a1] mem (dEq R) := by
  refine wq_ca (show 2 ≤ 5 by decide) ?_
  change kGo xm kSm kDfl kFty kG 3 152 0 [(0, .ref a0), (1, .int a1)] [] mem (dEq R)
  unfold m_M_widthNow at h
  refine wp_run 2 (pc' := 2) (lv' := [(0, .ref a0), (1, .int a1)]) (st' := [.int a1, .ref a0]) (mem' := mem) rfl ?_
  obtain ⟨fk2, hk2, h⟩ := dRc_some h
  refine wq_cR rfl (kCall_v hk2 (as := [.int a1]) (rest := []) ⟨by decide, rfl, (show 1 < 90 by decide), by decide⟩ (show 0 ≤ 8 by decide)) h (fun r hr => ca_up (by decide) (m_M_needle_ok xm N hr)) (fun v2 m2 h => ?_)
  refine wp_run 3 (pc' := 8) (lv' := [(2, .ref v2), (0, .ref a0), (1, .int a1)]) (st' := [.ref v2, .int 4]) (mem' := m2) rfl ?_
  obtain ⟨fk8, hk8, h⟩ := dRc_some h
  refine wq_cI rfl (kCall_v hk8 (as := []) (rest := [.int 4]) ⟨by decide, rfl, (show 0 < 90 by decide), by decide⟩ (show 1 ≤ 8 by decide)) h (fun r hr => ca_up (by decide) (m_AL_size_ok xm N hr)) (fun v8 m8 h => ?_)
  refine wp_run 4 (pc' := 16) (lv' := [(4, .int 1), (3, .int (4 * v8)), (2, .ref v2), (0, .ref a0), (1, .int a1)]) (st' := []) (mem' := m8) rfl ?_
  refine kGo_sub (lvS_of [3, 2, 1, 0] rfl [4, 3, 2, 0, 1] rfl (by decide)) ?_
  exact m_M_widthNow_16_ok xm N N _ _ _ _ m8 R h
/-- KnitsteadModel.width(Z)D -/
def m_M_width (xm : Nat → Option kE) (N : Nat) (a0 : Nat) (a1 : Int32) (mem : kM) : dRes :=
  dP xm mem a0 15 0 (.int 0) fun m2 =>
  dRc xm m2 a0 15 <|
  dCI (m_M_widthNow xm N a0 a1 m2) fun v7 m7 =>
  dF64 (FP.ddiv (FP.i2d v7) 4620693217682128896) fun v14 =>
  some (.inl (some (.double v14)), m7)
theorem m_M_width_ok (xm : Nat → Option kE) (N : Nat) {a0 : Nat} {a1 : Int32} {mem : kM} {R : kO × kM} (h : m_M_width xm N a0 a1 mem = some R) : kCa xm kSm kDfl kFty kG 5 153 [.ref a0, .int a1] mem (dEq R) := by
  refine wq_ca (show 2 ≤ 2 by decide) ?_
  change kGo xm kSm kDfl kFty kG 4 153 0 [(0, .ref a0), (1, .int a1)] [] mem (dEq R)
  unfold m_M_width at h
  refine wp_run 2 (pc' := 2) (lv' := [(0, .ref a0), (1, .int a1)]) (st' := [.int 0, .ref a0]) (mem' := mem) rfl ?_
  refine wq_p rfl rfl h (fun m2 h => ?_)
  refine wp_run 2 (pc' := 7) (lv' := [(0, .ref a0), (1, .int a1)]) (st' := [.int a1, .ref a0]) (mem' := m2) rfl ?_
  obtain ⟨fk7, hk7, h⟩ := dRc_some h
  refine wq_cI rfl (kCall_v hk7 (as := [.int a1]) (rest := []) ⟨by decide, rfl, (show 1 < 90 by decide), by decide⟩ (show 0 ≤ 8 by decide)) h (fun r hr => ca_up (by decide) (m_M_widthNow_ok xm N hr)) (fun v7 m7 h => ?_)
  refine wp_run 2 (pc' := 14) (lv' := [(0, .ref a0), (1, .int a1)]) (st' := [.double 4620693217682128896, .double (FP.i2d v7)]) (mem' := m7) rfl ?_
  refine wq_ddiv rfl h (fun v14 h => ?_)
  exact wq_end rfl rfl h
/-- KnitsteadModel.manyNow(I)I -/
def m_M_manyNow_65 (xm : Nat → Option kE) (N : Nat) : Nat → Nat → Int32 → Int32 → Int32 → Nat → Int32 → Int32 → kM → dRes
  | 0, _, _, _, _, _, _, _, _ => none
  | n + 1, a0, a1, a2, a3, a4, a5, a6, mem =>
    if a6 < a5 then (
      dIL xm 0 mem a4 a6 fun v76 =>
      m_M_manyNow_65 xm N n a0 a1 a2 (a3 + v76) a4 a5 (a6 + 1) mem
    ) else (
      dNI 0 mem 16 fun m92 p92 =>
      dGI xm m92 a0 15 6 fun v97 =>
      dIS xm m92 p92 0 v97 fun m100 =>
      dIS xm m100 p92 1 a3 fun m104 =>
      dGI xm m104 a0 15 7 fun v108 =>
      dIS xm m104 p92 2 v108 fun m111 =>
      dGR xm m111 a0 15 5 fun v115 =>
      dGR xm m111 v115 14 0 fun v118 =>
      dRc xm m111 v118 4 <|
      dCI (m_AL_size xm N v118 m111) fun v121 m121 =>
      dIS xm m121 p92 3 v121 fun m124 =>
      dGR xm m124 a0 15 5 fun v128 =>
      dGR xm m124 v128 14 1 fun v131 =>
      dRc xm m124 v131 4 <|
      dCI (m_AL_size xm N v131 m124) fun v134 m134 =>
      dIS xm m134 p92 4 v134 fun m137 =>
      dGR xm m137 a0 15 5 fun v141 =>
      dGI xm m137 v141 14 4 fun v144 =>
      dIS xm m137 p92 5 v144 fun m147 =>
      dGR xm m147 a0 15 5 fun v152 =>
      dGI xm m147 v152 14 5 fun v155 =>
      dIS xm m147 p92 6 v155 fun m158 =>
      dGR xm m158 a0 15 5 fun v163 =>
      dGI xm m158 v163 14 6 fun v166 =>
      dIS xm m158 p92 7 v166 fun m169 =>
      dGR xm m169 a0 15 5 fun v174 =>
      dGI xm m169 v174 14 8 fun v177 =>
      dIS xm m169 p92 8 v177 fun m180 =>
      dGR xm m180 a0 15 5 fun v185 =>
      dGI xm m180 v185 14 9 fun v188 =>
      dIS xm m180 p92 9 v188 fun m191 =>
      dGR xm m191 a0 15 5 fun v196 =>
      dGI xm m191 v196 14 10 fun v199 =>
      dIS xm m191 p92 10 v199 fun m202 =>
      dGR xm m202 a0 15 5 fun v207 =>
      dGI xm m202 v207 14 7 fun v210 =>
      dIS xm m202 p92 11 v210 fun m213 =>
      dGR xm m213 a0 15 5 fun v218 =>
      dGR xm m213 v218 14 2 fun v221 =>
      dRc xm m213 v221 4 <|
      dCI (m_AL_size xm N v221 m213) fun v224 m224 =>
      dIS xm m224 p92 12 v224 fun m227 =>
      dIS xm m227 p92 13 a2 fun m232 =>
      dGR xm m232 a0 15 3 fun v237 =>
      dRc xm m232 v237 4 <|
      dCI (m_AL_size xm N v237 m232) fun v240 m240 =>
      dIS xm m240 p92 14 v240 fun m243 =>
      dGR xm m243 a0 15 4 fun v248 =>
      dRc xm m243 v248 4 <|
      dCI (m_AL_size xm N v248 m243) fun v251 m251 =>
      dIS xm m251 p92 15 v251 fun m254 =>
      dIL xm 0 m254 p92 a1 fun v260 =>
      some (.inl (some (.int v260)), m254)
    )
theorem m_M_manyNow_65_ok (xm : Nat → Option kE) (N : Nat) : ∀ (n : Nat) (a0 : Nat) (a1 : Int32) (a2 : Int32) (a3 : Int32) (a4 : Nat) (a5 : Int32) (a6 : Int32) (mem : kM) (R : kO × kM), m_M_manyNow_65 xm N n a0 a1 a2 a3 a4 a5 a6 mem = some R → kGo xm kSm kDfl kFty kG 2 154 65 [(0, .ref a0), (1, .int a1), (2, .int a2), (3, .int a3), (4, .ref a4), (5, .int a5), (6, .int a6)] [] mem (dEq R) := by
  intro n
  induction n with
  | zero => intro a0 a1 a2 a3 a4 a5 a6 mem R h; cases h
  | succ n ih =>
    intro a0 a1 a2 a3 a4 a5 a6 mem R h
    rw [m_M_manyNow_65] at h
    refine wp_run 2 (pc' := 69) (lv' := [(0, .ref a0), (1, .int a1), (2, .int a2), (3, .int a3), (4, .ref a4), (5, .int a5), (6, .int a6)]) (st' := [.int a5, .int a6]) (mem' := mem) rfl ?_
    refine wq_ge2 rfl h (fun h => ?_) (fun h => ?_)
    · refine wp_run 2 (pc' := 76) (lv' := [(0, .ref a0), (1, .int a1), (2, .int a2), (3, .int a3), (4, .ref a4), (5, .int a5), (6, .int a6)]) (st' := [.int a6, .ref a4]) (mem' := mem) rfl ?_
      refine wq_iL rfl h (fun v76 h => ?_)
      refine wp_run 7 (pc' := 65) (lv' := [(6, .int (a6 + 1)), (3, .int (a3 + v76)), (7, .int v76), (0, .ref a0), (1, .int a1), (2, .int a2), (4, .ref a4), (5, .int a5)]) (st' := []) (mem' := mem) rfl ?_
      refine kGo_sub (lvS_of [3, 4, 5, 1, 6, 7, 0] rfl [6, 3, 7, 0, 1, 2, 4, 5] rfl (by decide)) ?_
      exact ih _ _ _ _ _ _ _ mem R h
    · refine wp_run 1 (pc' := 92) (lv' := [(0, .ref a0), (1, .int a1), (2, .int a2), (3, .int a3), (4, .ref a4), (5, .int a5), (6, .int a6)]) (st' := [.int 16]) (mem' := mem) rfl ?_
      refine wq_nI rfl rfl h (fun m92 p92 h => ?_)
      refine wp_run 3 (pc' := 97) (lv' := [(0, .ref a0), (1, .int a1), (2, .int a2), (3, .int a3), (4, .ref a4), (5, .int a5), (6, .int a6)]) (st' := [.ref a0, .int 0, .ref p92, .ref p92]) (mem' := m92) rfl ?_
      refine wq_gI rfl h (fun v97 h => ?_)
      refine wq_iS rfl h (fun m100 h => ?_)
      refine wp_run 3 (pc' := 104) (lv' := [(0, .ref a0), (1, .int a1), (2, .int a2), (3, .int a3), (4, .ref a4), (5, .int a5), (6, .int a6)]) (st' := [.int a3, .int 1, .ref p92, .ref p92]) (mem' := m100) rfl ?_
      refine wq_iS rfl h (fun m104 h => ?_)
      refine wp_run 3 (pc' := 108) (lv' := [(0, .ref a0), (1, .int a1), (2, .int a2), (3, .int a3), (4, .ref a4), (5, .int a5), (6, .int a6)]) (st' := [.ref a0, .int 2, .ref p92, .ref p92]) (mem' := m104) rfl ?_
      refine wq_gI rfl h (fun v108 h => ?_)
      refine wq_iS rfl h (fun m111 h => ?_)
      refine wp_run 3 (pc' := 115) (lv' := [(0, .ref a0), (1, .int a1), (2, .int a2), (3, .int a3), (4, .ref a4), (5, .int a5), (6, .int a6)]) (st' := [.ref a0, .int 3, .ref p92, .ref p92]) (mem' := m111) rfl ?_
      refine wq_gR rfl h (fun v115 h => ?_)
      refine wq_gR rfl h (fun v118 h => ?_)
      obtain ⟨fk121, hk121, h⟩ := dRc_some h
      refine wq_cI rfl (kCall_v hk121 (as := []) (rest := [.int 3, .ref p92, .ref p92]) ⟨by decide, rfl, (show 0 < 90 by decide), by decide⟩ (show 3 ≤ 8 by decide)) h (fun r hr => ca_up (by decide) (m_AL_size_ok xm N hr)) (fun v121 m121 h => ?_)
      refine wq_iS rfl h (fun m124 h => ?_)
      refine wp_run 3 (pc' := 128) (lv' := [(0, .ref a0), (1, .int a1), (2, .int a2), (3, .int a3), (4, .ref a4), (5, .int a5), (6, .int a6)]) (st' := [.ref a0, .int 4, .ref p92, .ref p92]) (mem' := m124) rfl ?_
      refine wq_gR rfl h (fun v128 h => ?_)
      refine wq_gR rfl h (fun v131 h => ?_)
      obtain ⟨fk134, hk134, h⟩ := dRc_some h
      refine wq_cI rfl (kCall_v hk134 (as := []) (rest := [.int 4, .ref p92, .ref p92]) ⟨by decide, rfl, (show 0 < 90 by decide), by decide⟩ (show 3 ≤ 8 by decide)) h (fun r hr => ca_up (by decide) (m_AL_size_ok xm N hr)) (fun v134 m134 h => ?_)
      refine wq_iS rfl h (fun m137 h => ?_)
      refine wp_run 3 (pc' := 141) (lv' := [(0, .ref a0), (1, .int a1), (2, .int a2), (3, .int a3), (4, .ref a4), (5, .int a5), (6, .int a6)]) (st' := [.ref a0, .int 5, .ref p92, .ref p92]) (mem' := m137) rfl ?_
      refine wq_gR rfl h (fun v141 h => ?_)
      refine wq_gI rfl h (fun v144 h => ?_)
      refine wq_iS rfl h (fun m147 h => ?_)
      refine wp_run 3 (pc' := 152) (lv' := [(0, .ref a0), (1, .int a1), (2, .int a2), (3, .int a3), (4, .ref a4), (5, .int a5), (6, .int a6)]) (st' := [.ref a0, .int 6, .ref p92, .ref p92]) (mem' := m147) rfl ?_
      refine wq_gR rfl h (fun v152 h => ?_)
      refine wq_gI rfl h (fun v155 h => ?_)
      refine wq_iS rfl h (fun m158 h => ?_)
      refine wp_run 3 (pc' := 163) (lv' := [(0, .ref a0), (1, .int a1), (2, .int a2), (3, .int a3), (4, .ref a4), (5, .int a5), (6, .int a6)]) (st' := [.ref a0, .int 7, .ref p92, .ref p92]) (mem' := m158) rfl ?_
      refine wq_gR rfl h (fun v163 h => ?_)
      refine wq_gI rfl h (fun v166 h => ?_)
      refine wq_iS rfl h (fun m169 h => ?_)
      refine wp_run 3 (pc' := 174) (lv' := [(0, .ref a0), (1, .int a1), (2, .int a2), (3, .int a3), (4, .ref a4), (5, .int a5), (6, .int a6)]) (st' := [.ref a0, .int 8, .ref p92, .ref p92]) (mem' := m169) rfl ?_
      refine wq_gR rfl h (fun v174 h => ?_)
      refine wq_gI rfl h (fun v177 h => ?_)
      refine wq_iS rfl h (fun m180 h => ?_)
      refine wp_run 3 (pc' := 185) (lv' := [(0, .ref a0), (1, .int a1), (2, .int a2), (3, .int a3), (4, .ref a4), (5, .int a5), (6, .int a6)]) (st' := [.ref a0, .int 9, .ref p92, .ref p92]) (mem' := m180) rfl ?_
      refine wq_gR rfl h (fun v185 h => ?_)
      refine wq_gI rfl h (fun v188 h => ?_)
      refine wq_iS rfl h (fun m191 h => ?_)
      refine wp_run 3 (pc' := 196) (lv' := [(0, .ref a0), (1, .int a1), (2, .int a2), (3, .int a3), (4, .ref a4), (5, .int a5), (6, .int a6)]) (st' := [.ref a0, .int 10, .ref p92, .ref p92]) (mem' := m191) rfl ?_
      refine wq_gR rfl h (fun v196 h => ?_)
      refine wq_gI rfl h (fun v199 h => ?_)
      refine wq_iS rfl h (fun m202 h => ?_)
      refine wp_run 3 (pc' := 207) (lv' := [(0, .ref a0), (1, .int a1), (2, .int a2), (3, .int a3), (4, .ref a4), (5, .int a5), (6, .int a6)]) (st' := [.ref a0, .int 11, .ref p92, .ref p92]) (mem' := m202) rfl ?_
      refine wq_gR rfl h (fun v207 h => ?_)
      refine wq_gI rfl h (fun v210 h => ?_)
      refine wq_iS rfl h (fun m213 h => ?_)
      refine wp_run 3 (pc' := 218) (lv' := [(0, .ref a0), (1, .int a1), (2, .int a2), (3, .int a3), (4, .ref a4), (5, .int a5), (6, .int a6)]) (st' := [.ref a0, .int 12, .ref p92, .ref p92]) (mem' := m213) rfl ?_
      refine wq_gR rfl h (fun v218 h => ?_)
      refine wq_gR rfl h (fun v221 h => ?_)
      obtain ⟨fk224, hk224, h⟩ := dRc_some h
      refine wq_cI rfl (kCall_v hk224 (as := []) (rest := [.int 12, .ref p92, .ref p92]) ⟨by decide, rfl, (show 0 < 90 by decide), by decide⟩ (show 3 ≤ 8 by decide)) h (fun r hr => ca_up (by decide) (m_AL_size_ok xm N hr)) (fun v224 m224 h => ?_)
      refine wq_iS rfl h (fun m227 h => ?_)
      refine wp_run 3 (pc' := 232) (lv' := [(0, .ref a0), (1, .int a1), (2, .int a2), (3, .int a3), (4, .ref a4), (5, .int a5), (6, .int a6)]) (st' := [.int a2, .int 13, .ref p92, .ref p92]) (mem' := m227) rfl ?_
      refine wq_iS rfl h (fun m232 h => ?_)
      refine wp_run 3 (pc' := 237) (lv' := [(0, .ref a0), (1, .int a1), (2, .int a2), (3, .int a3), (4, .ref a4), (5, .int a5), (6, .int a6)]) (st' := [.ref a0, .int 14, .ref p92, .ref p92]) (mem' := m232) rfl ?_
      refine wq_gR rfl h (fun v237 h => ?_)
      obtain ⟨fk240, hk240, h⟩ := dRc_some h
      refine wq_cI rfl (kCall_v hk240 (as := []) (rest := [.int 14, .ref p92, .ref p92]) ⟨by decide, rfl, (show 0 < 90 by decide), by decide⟩ (show 3 ≤ 8 by decide)) h (fun r hr => ca_up (by decide) (m_AL_size_ok xm N hr)) (fun v240 m240 h => ?_)
      refine wq_iS rfl h (fun m243 h => ?_)
      refine wp_run 3 (pc' := 248) (lv' := [(0, .ref a0), (1, .int a1), (2, .int a2), (3, .int a3), (4, .ref a4), (5, .int a5), (6, .int a6)]) (st' := [.ref a0, .int 15, .ref p92, .ref p92]) (mem' := m243) rfl ?_
      refine wq_gR rfl h (fun v248 h => ?_)
      obtain ⟨fk251, hk251, h⟩ := dRc_some h
      refine wq_cI rfl (kCall_v hk251 (as := []) (rest := [.int 15, .ref p92, .ref p92]) ⟨by decide, rfl, (show 0 < 90 by decide), by decide⟩ (show 3 ≤ 8 by decide)) h (fun r hr => ca_up (by decide) (m_AL_size_ok xm N hr)) (fun v251 m251 h => ?_)
      refine wq_iS rfl h (fun m254 h => ?_)
      refine wp_run 3 (pc' := 260) (lv' := [(4, .ref p92), (0, .ref a0), (1, .int a1), (2, .int a2), (3, .int a3), (5, .int a5), (6, .int a6)]) (st' := [.int a1, .ref p92]) (mem' := m254) rfl ?_
      refine wq_iL rfl h (fun v260 h => ?_)
      exact wq_ret rfl rfl h
def m_M_manyNow_16 (xm : Nat → Option kE) (N : Nat) : Nat → Nat → Int32 → Int32 → Int32 → Nat → kM → dRes
  | 0, _, _, _, _, _, _ => none
  | n + 1, a0, a1, a2, a3, a4, mem =>
    dRc xm mem a4 3 <|
    dCI (m_Itr_hasNext xm N a4 mem) fun v18 m18 =>
    if v18 = 0 then (
      dGR xm m18 a0 15 5 fun v49 =>
      dGR xm m18 v49 14 3 fun v52 =>
      dLen xm m18 v52 fun v59 =>
      m_M_manyNow_65 xm N N a0 a1 a2 a3 v52 v59 0 m18
    ) else (
      dRc xm m18 a4 3 <|
      dCR (m_Itr_next xm N a4 m18) fun v28 m28 =>
      dCC xm m28 v28 1 0 <|
      dIL xm 0 m28 v28 3 fun v42 =>
      m_M_manyNow_16 xm N n a0 a1 (a2 + v42) a3 a4 m28
    )
theorem m_M_manyNow_16_ok (xm : Nat → Option kE) (N : Nat) : ∀ (n : Nat) (a0 : Nat) (a1 : Int32) (a2 : Int32) (a3 : Int32) (a4 : Nat) (mem : kM) (R : kO × kM), m_M_manyNow_16 xm N n a0 a1 a2 a3 a4 mem = some R → kGo xm kSm kDfl kFty kG 2 154 16 [(0, .ref a0), (1, .int a1), (2, .int a2), (3, .int a3), (4, .ref a4)] [] mem (dEq R) := by
  intro n
  induction n with
  | zero => intro a0 a1 a2 a3 a4 mem R h; cases h
  | succ n ih =>
    intro a0 a1 a2 a3 a4 mem R h
    rw [m_M_manyNow_16] at h
    refine wp_run 1 (pc' := 18) (lv' := [(0, .ref a0), (1, .int a1), (2, .int a2), (3, .int a3), (4, .ref a4)]) (st' := [.ref a4]) (mem' := mem) rfl ?_
    obtain ⟨fk18, hk18, h⟩ := dRc_some h
    refine wq_cI rfl (kCall_v hk18 (as := []) (rest := []) ⟨by decide, rfl, (show 0 < 90 by decide), by decide⟩ (show 0 ≤ 8 by decide)) h (fun r hr => ca_up (by decide) (m_Itr_hasNext_ok xm N hr)) (fun v18 m18 h => ?_)
    refine wq_eq rfl h (fun h => ?_) (fun h => ?_)
    · refine wp_run 1 (pc' := 49) (lv' := [(0, .ref a0), (1, .int a1), (2, .int a2), (3, .int a3), (4, .ref a4)]) (st' := [.ref a0]) (mem' := m18) rfl ?_
      refine wq_gR rfl h (fun v49 h => ?_)
      refine wq_gR rfl h (fun v52 h => ?_)
      refine wp_run 2 (pc' := 59) (lv' := [(4, .ref v52), (0, .ref a0), (1, .int a1), (2, .int a2), (3, .int a3)]) (st' := [.ref v52]) (mem' := m18) rfl ?_
      refine wq_len rfl h (fun v59 h => ?_)
      refine wp_run 3 (pc' := 65) (lv' := [(6, .int 0), (5, .int v59), (4, .ref v52), (0, .ref a0), (1, .int a1), (2, .int a2), (3, .int a3)]) (st' := []) (mem' := m18) rfl ?_
      refine kGo_sub (lvS_of [3, 4, 5, 6, 2, 1, 0] rfl [6, 5, 4, 0, 1, 2, 3] rfl (by decide)) ?_
      exact m_M_manyNow_65_ok xm N N _ _ _ _ _ _ _ m18 R h
    · refine wp_run 1 (pc' := 28) (lv' := [(0, .ref a0), (1, .int a1), (2, .int a2), (3, .int a3), (4, .ref a4)]) (st' := [.ref a4]) (mem' := m18) rfl ?_
      obtain ⟨fk28, hk28, h⟩ := dRc_some h
      refine wq_cR rfl (kCall_v hk28 (as := []) (rest := []) ⟨by decide, rfl, (show 0 < 90 by decide), by decide⟩ (show 0 ≤ 8 by decide)) h (fun r hr => ca_up (by decide) (m_Itr_next_ok xm N hr)) (fun v28 m28 h => ?_)
      refine wq_cc rfl h (fun h => ?_)
      refine wp_run 4 (pc' := 42) (lv' := [(5, .ref v28), (0, .ref a0), (1, .int a1), (2, .int a2), (3, .int a3), (4, .ref a4)]) (st' := [.int 3, .ref v28, .int a2]) (mem' := m28) rfl ?_
      refine wq_iL rfl h (fun v42 h => ?_)
      refine wp_run 3 (pc' := 16) (lv' := [(2, .int (a2 + v42)), (5, .ref v28), (0, .ref a0), (1, .int a1), (3, .int a3), (4, .ref a4)]) (st' := []) (mem' := m28) rfl ?_
      refine kGo_sub (lvS_of [2, 3, 0, 4, 5] rfl [2, 5, 0, 1, 3, 4] rfl (by decide)) ?_
      exact ih _ _ _ _ _ m28 R h
def m_M_manyNow (xm : Nat → Option kE) (N : Nat) (a0 : Nat) (a1 : Int32) (mem : kM) : dRes :=
  dGR xm mem a0 15 5 fun v5 =>
  dGR xm mem v5 14 2 fun v8 =>
  dRc xm mem v8 4 <|
  dCR (m_AL_iterator xm N v8 mem) fun v11 m11 =>
  m_M_manyNow_16 xm N N a0 a1 0 0 v11 m11
theorem m_M_manyNow_ok (xm : Nat → Option kE) (N : Nat) {a0 : Nat} {a1 : Int32} {mem : kM} {R : kO × kM} (h : m_M_manyNow xm N a0 a1 mem = some R) : kCa xm kSm kDfl kFty kG 3 154 [.ref a0, .int a1] mem (dEq R) := by
  refine wq_ca (show 2 ≤ 8 by decide) ?_
  change kGo xm kSm kDfl kFty kG 2 154 0 [(0, .ref a0), (1, .int a1)] [] mem (dEq R)
  unfold m_M_manyNow at h
  refine wp_run 5 (pc' := 5) (lv' := [(3, .int 0), (2, .int 0), (0, .ref a0), (1, .int a1)]) (st' := [.ref a0]) (mem' := mem) rfl ?_
  refine wq_gR rfl h (fun v5 h => ?_)
  refine wq_gR rfl h (fun v8 h => ?_)
  obtain ⟨fk11, hk11, h⟩ := dRc_some h
  refine wq_cR rfl (kCall_v hk11 (as := []) (rest := []) ⟨by decide, rfl, (show 0 < 90 by decide), by decide⟩ (show 0 ≤ 8 by decide)) h (fun r hr => ca_up (by decide) (m_AL_iterator_ok xm N hr)) (fun v11 m11 h => ?_)
  refine wp_run 1 (pc' := 16) (lv' := [(4, .ref v11), (3, .int 0), (2, .int 0), (0, .ref a0), (1, .int a1)]) (st' := []) (mem' := m11) rfl ?_
  refine kGo_sub (lvS_of [3, 4, 2, 1, 0] rfl [4, 3, 2, 0, 1] rfl (by decide)) ?_
  exact m_M_manyNow_16_ok xm N N _ _ _ _ _ m11 R h
/-- KnitsteadModel.many(I)I -/
def m_M_many (xm : Nat → Option kE) (N : Nat) (a0 : Nat) (a1 : Int32) (mem : kM) : dRes :=
  dP xm mem a0 15 0 (.int 0) fun m2 =>
  dCI (m_M_is xm N a1 0 15 m2) fun v9 m9 =>
  if v9 = 0 then (
    dRc xm m9 a0 15 <|
    dCI (m_M_refuse xm N a0 1 m9) fun v25 m25 =>
    some (.inl (some (.int v25)), m25)
  ) else (
    dRc xm m9 a0 15 <|
    dCI (m_M_manyNow xm N a0 a1 m9) fun v17 m17 =>
    some (.inl (some (.int v17)), m17)
  )
theorem m_M_many_ok (xm : Nat → Option kE) (N : Nat) {a0 : Nat} {a1 : Int32} {mem : kM} {R : kO × kM} (h : m_M_many xm N a0 a1 mem = some R) : kCa xm kSm kDfl kFty kG 4 155 [.ref a0, .int a1] mem (dEq R) := by
  refine wq_ca (show 2 ≤ 2 by decide) ?_
  change kGo xm kSm kDfl kFty kG 3 155 0 [(0, .ref a0), (1, .int a1)] [] mem (dEq R)
  unfold m_M_many at h
  refine wp_run 2 (pc' := 2) (lv' := [(0, .ref a0), (1, .int a1)]) (st' := [.int 0, .ref a0]) (mem' := mem) rfl ?_
  refine wq_p rfl rfl h (fun m2 h => ?_)
  refine wp_run 3 (pc' := 9) (lv' := [(0, .ref a0), (1, .int a1)]) (st' := [.int 15, .int 0, .int a1]) (mem' := m2) rfl ?_
  refine wq_cI rfl (kCall_s (as := [.int a1, .int 0, .int 15]) (rest := []) ⟨by decide, rfl⟩ (show 0 ≤ 8 by decide) (by decide)) h (fun r hr => ca_up (by decide) (m_M_is_ok xm N hr)) (fun v9 m9 h => ?_)
  refine wq_eq rfl h (fun h => ?_) (fun h => ?_)
  · refine wp_run 2 (pc' := 25) (lv' := [(0, .ref a0), (1, .int a1)]) (st' := [.int 1, .ref a0]) (mem' := m9) rfl ?_
    obtain ⟨fk25, hk25, h⟩ := dRc_some h
    refine wq_cI rfl (kCall_v hk25 (as := [.int 1]) (rest := []) ⟨by decide, rfl, (show 1 < 90 by decide), by decide⟩ (show 0 ≤ 8 by decide)) h (fun r hr => ca_up (by decide) (m_M_refuse_ok xm N hr)) (fun v25 m25 h => ?_)
    exact wq_ret rfl rfl h
  · refine wp_run 2 (pc' := 17) (lv' := [(0, .ref a0), (1, .int a1)]) (st' := [.int a1, .ref a0]) (mem' := m9) rfl ?_
    obtain ⟨fk17, hk17, h⟩ := dRc_some h
    refine wq_cI rfl (kCall_v hk17 (as := [.int a1]) (rest := []) ⟨by decide, rfl, (show 1 < 90 by decide), by decide⟩ (show 0 ≤ 8 by decide)) h (fun r hr => ca_up (by decide) (m_M_manyNow_ok xm N hr)) (fun v17 m17 h => ?_)
    refine wp_run 1 (pc' := 28) (lv' := [(0, .ref a0), (1, .int a1)]) (st' := [.int v17]) (mem' := m17) rfl ?_
    exact wq_ret rfl rfl h
/-- KnitsteadModel.left(I)I -/
def m_M_left (xm : Nat → Option kE) (N : Nat) (a0 : Nat) (a1 : Int32) (mem : kM) : dRes :=
  dP xm mem a0 15 0 (.int 0) fun m2 =>
  dGI xm m2 a0 15 6 fun v8 =>
  dCI (m_M_is xm N a1 0 (v8 - 1) m2) fun v13 m13 =>
  if v13 = 0 then (
    dRc xm m13 a0 15 <|
    dCI (m_M_refuse xm N a0 1 m13) fun v33 m33 =>
    some (.inl (some (.int v33)), m33)
  ) else (
    dGR xm m13 a0 15 5 fun v20 =>
    dGR xm m13 v20 14 3 fun v23 =>
    dIL xm 0 m13 v23 a1 fun v27 =>
    some (.inl (some (.int v27)), m13)
  )
theorem m_M_left_ok (xm : Nat → Option kE) (N : Nat) {a0 : Nat} {a1 : Int32} {mem : kM} {R : kO × kM} (h : m_M_left xm N a0 a1 mem = some R) : kCa xm kSm kDfl kFty kG 2 156 [.ref a0, .int a1] mem (dEq R) := by
  refine wq_ca (show 2 ≤ 2 by decide) ?_
  change kGo xm kSm kDfl kFty kG 1 156 0 [(0, .ref a0), (1, .int a1)] [] mem (dEq R)
  unfold m_M_left at h
  refine wp_run 2 (pc' := 2) (lv' := [(0, .ref a0), (1, .int a1)]) (st' := [.int 0, .ref a0]) (mem' := mem) rfl ?_
  refine wq_p rfl rfl h (fun m2 h => ?_)
  refine wp_run 3 (pc' := 8) (lv' := [(0, .ref a0), (1, .int a1)]) (st' := [.ref a0, .int 0, .int a1]) (mem' := m2) rfl ?_
  refine wq_gI rfl h (fun v8 h => ?_)
  refine wp_run 2 (pc' := 13) (lv' := [(0, .ref a0), (1, .int a1)]) (st' := [.int (v8 - 1), .int 0, .int a1]) (mem' := m2) rfl ?_
  refine wq_cI rfl (kCall_s (as := [.int a1, .int 0, .int (v8 - 1)]) (rest := []) ⟨by decide, rfl⟩ (show 0 ≤ 8 by decide) (by decide)) h (fun r hr => ca_up (by decide) (m_M_is_ok xm N hr)) (fun v13 m13 h => ?_)
  refine wq_eq rfl h (fun h => ?_) (fun h => ?_)
  · refine wp_run 2 (pc' := 33) (lv' := [(0, .ref a0), (1, .int a1)]) (st' := [.int 1, .ref a0]) (mem' := m13) rfl ?_
    obtain ⟨fk33, hk33, h⟩ := dRc_some h
    refine wq_cI rfl (kCall_v hk33 (as := [.int 1]) (rest := []) ⟨by decide, rfl, (show 1 < 90 by decide), by decide⟩ (show 0 ≤ 8 by decide)) h (fun r hr => ca_up (by decide) (m_M_refuse_ok xm N hr)) (fun v33 m33 h => ?_)
    exact wq_ret rfl rfl h
  · refine wp_run 1 (pc' := 20) (lv' := [(0, .ref a0), (1, .int a1)]) (st' := [.ref a0]) (mem' := m13) rfl ?_
    refine wq_gR rfl h (fun v20 h => ?_)
    refine wq_gR rfl h (fun v23 h => ?_)
    refine wp_run 1 (pc' := 27) (lv' := [(0, .ref a0), (1, .int a1)]) (st' := [.int a1, .ref v23]) (mem' := m13) rfl ?_
    refine wq_iL rfl h (fun v27 h => ?_)
    refine wp_run 1 (pc' := 36) (lv' := [(0, .ref a0), (1, .int a1)]) (st' := [.int v27]) (mem' := m13) rfl ?_
    exact wq_ret rfl rfl h
/-- KnitsteadModel.makes(I)I -/
def m_M_makes (xm : Nat → Option kE) (N : Nat) (a0 : Int32) (mem : kM) : dRes :=
  if a0 = 7 then (
    some (.inl (some (.int 0)), mem)
  ) else (
    if a0 = 9 then (
      some (.inl (some (.int 3)), mem)
    ) else (
      some (.inl (some (.int 1)), mem)
    )
  )
theorem m_M_makes_ok (xm : Nat → Option kE) (N : Nat) {a0 : Int32} {mem : kM} {R : kO × kM} (h : m_M_makes xm N a0 mem = some R) : kCa xm kSm kDfl kFty kG 1 137 [.int a0] mem (dEq R) := by
  refine wq_ca (show 1 ≤ 1 by decide) ?_
  change kGo xm kSm kDfl kFty kG 0 137 0 [(0, .int a0)] [] mem (dEq R)
  unfold m_M_makes at h
  refine wp_run 2 (pc' := 3) (lv' := [(0, .int a0)]) (st' := [.int 7, .int a0]) (mem' := mem) rfl ?_
  refine wq_ne2 rfl h (fun h => ?_) (fun h => ?_)
  · refine wp_run 2 (pc' := 21) (lv' := [(0, .int a0)]) (st' := [.int 0]) (mem' := mem) rfl ?_
    exact wq_ret rfl rfl h
  · refine wp_run 2 (pc' := 13) (lv' := [(0, .int a0)]) (st' := [.int 9, .int a0]) (mem' := mem) rfl ?_
    refine wq_ne2 rfl h (fun h => ?_) (fun h => ?_)
    · refine wp_run 2 (pc' := 21) (lv' := [(0, .int a0)]) (st' := [.int 3]) (mem' := mem) rfl ?_
      exact wq_ret rfl rfl h
    · refine wp_run 1 (pc' := 21) (lv' := [(0, .int a0)]) (st' := [.int 1]) (mem' := mem) rfl ?_
      exact wq_ret rfl rfl h
/-- KnitsteadModel.ofPatternNow(II)I -/
def m_M_ofPatternNow_46 (xm : Nat → Option kE) (N : Nat) : Nat → Int32 → Nat → Int32 → kM → dRes
  | 0, _, _, _, _ => none
  | n + 1, a2, a4, a5, mem =>
    if 0 < a5 then (
      dIL xm 0 mem a4 2 fun v55 =>
      dNz 10 <|
      dCI (m_M_eats xm N (a5 - a5 / 10 * 10) mem) fun v61 m61 =>
      dIS xm m61 a4 2 (v55 + v61) fun m65 =>
      dIL xm 0 m65 a4 3 fun v70 =>
      dNz 10 <|
      dCI (m_M_makes xm N (a5 - a5 / 10 * 10) m65) fun v76 m76 =>
      dIS xm m76 a4 3 (v70 + v76) fun m80 =>
      dIL xm 0 m80 a4 4 fun v85 =>
      dNz 10 <|
      dCI (m_M_takes xm N (a5 - a5 / 10 * 10) m80) fun v91 m91 =>
      dIS xm m91 a4 4 (v85 + v91) fun m95 =>
      dNz 10 <|
      m_M_ofPatternNow_46 xm N n a2 a4 (a5 / 10) m95
    ) else (
      dIL xm 0 mem a4 a2 fun v109 =>
      some (.inl (some (.int v109)), mem)
    )
theorem m_M_ofPatternNow_46_ok (xm : Nat → Option kE) (N : Nat) : ∀ (n : Nat) (a2 : Int32) (a4 : Nat) (a5 : Int32) (mem : kM) (R : kO × kM), m_M_ofPatternNow_46 xm N n a2 a4 a5 mem = some R → kGo xm kSm kDfl kFty kG 3 157 46 [(2, .int a2), (4, .ref a4), (5, .int a5)] [] mem (dEq R) := by
  intro n
  induction n with
  | zero => intro a2 a4 a5 mem R h; cases h
  | succ n ih =>
    intro a2 a4 a5 mem R h
    rw [m_M_ofPatternNow_46] at h
    refine wp_run 1 (pc' := 48) (lv' := [(2, .int a2), (4, .ref a4), (5, .int a5)]) (st' := [.int a5]) (mem' := mem) rfl ?_
    refine wq_le rfl h (fun h => ?_) (fun h => ?_)
    · refine wp_run 3 (pc' := 55) (lv' := [(2, .int a2), (4, .ref a4), (5, .int a5)]) (st' := [.int 2, .ref a4, .int 2, .ref a4]) (mem' := mem) rfl ?_
      refine wq_iL rfl h (fun v55 h => ?_)
      refine wp_run 2 (pc' := 60) (lv' := [(2, .int a2), (4, .ref a4), (5, .int a5)]) (st' := [.int 10, .int a5, .int v55, .int 2, .ref a4]) (mem' := mem) rfl ?_
      refine wq_irem rfl h (fun h => ?_)
      refine wq_cI rfl (kCall_s (as := [.int (a5 - a5 / 10 * 10)]) (rest := [.int v55, .int 2, .ref a4]) ⟨by decide, rfl⟩ (show 3 ≤ 8 by decide) (by decide)) h (fun r hr => ca_up (by decide) (m_M_eats_ok xm N hr)) (fun v61 m61 h => ?_)
      refine wp_run 1 (pc' := 65) (lv' := [(2, .int a2), (4, .ref a4), (5, .int a5)]) (st' := [.int (v55 + v61), .int 2, .ref a4]) (mem' := m61) rfl ?_
      refine wq_iS rfl h (fun m65 h => ?_)
      refine wp_run 3 (pc' := 70) (lv' := [(2, .int a2), (4, .ref a4), (5, .int a5)]) (st' := [.int 3, .ref a4, .int 3, .ref a4]) (mem' := m65) rfl ?_
      refine wq_iL rfl h (fun v70 h => ?_)
      refine wp_run 2 (pc' := 75) (lv' := [(2, .int a2), (4, .ref a4), (5, .int a5)]) (st' := [.int 10, .int a5, .int v70, .int 3, .ref a4]) (mem' := m65) rfl ?_
      refine wq_irem rfl h (fun h => ?_)
      refine wq_cI rfl (kCall_s (as := [.int (a5 - a5 / 10 * 10)]) (rest := [.int v70, .int 3, .ref a4]) ⟨by decide, rfl⟩ (show 3 ≤ 8 by decide) (by decide)) h (fun r hr => ca_up (by decide) (m_M_makes_ok xm N hr)) (fun v76 m76 h => ?_)
      refine wp_run 1 (pc' := 80) (lv' := [(2, .int a2), (4, .ref a4), (5, .int a5)]) (st' := [.int (v70 + v76), .int 3, .ref a4]) (mem' := m76) rfl ?_
      refine wq_iS rfl h (fun m80 h => ?_)
      refine wp_run 3 (pc' := 85) (lv' := [(2, .int a2), (4, .ref a4), (5, .int a5)]) (st' := [.int 4, .ref a4, .int 4, .ref a4]) (mem' := m80) rfl ?_
      refine wq_iL rfl h (fun v85 h => ?_)
      refine wp_run 2 (pc' := 90) (lv' := [(2, .int a2), (4, .ref a4), (5, .int a5)]) (st' := [.int 10, .int a5, .int v85, .int 4, .ref a4]) (mem' := m80) rfl ?_
      refine wq_irem rfl h (fun h => ?_)
      refine wq_cI rfl (kCall_s (as := [.int (a5 - a5 / 10 * 10)]) (rest := [.int v85, .int 4, .ref a4]) ⟨by decide, rfl⟩ (show 3 ≤ 8 by decide) (by decide)) h (fun r hr => ca_up (by decide) (m_M_takes_ok xm N hr)) (fun v91 m91 h => ?_)
      refine wp_run 1 (pc' := 95) (lv' := [(2, .int a2), (4, .ref a4), (5, .int a5)]) (st' := [.int (v85 + v91), .int 4, .ref a4]) (mem' := m91) rfl ?_
      refine wq_iS rfl h (fun m95 h => ?_)
      refine wp_run 2 (pc' := 100) (lv' := [(2, .int a2), (4, .ref a4), (5, .int a5)]) (st' := [.int 10, .int a5]) (mem' := m95) rfl ?_
      refine wq_idiv rfl h (fun h => ?_)
      refine wp_run 2 (pc' := 46) (lv' := [(5, .int (a5 / 10)), (2, .int a2), (4, .ref a4)]) (st' := []) (mem' := m95) rfl ?_
      refine kGo_sub (lvS_of [1, 2, 0] rfl [5, 2, 4] rfl (by decide)) ?_
      exact ih _ _ _ m95 R h
    · refine wp_run 2 (pc' := 109) (lv' := [(2, .int a2), (4, .ref a4), (5, .int a5)]) (st' := [.int a2, .ref a4]) (mem' := mem) rfl ?_
      refine wq_iL rfl h (fun v109 h => ?_)
      exact wq_ret rfl rfl h
def m_M_ofPatternNow (xm : Nat → Option kE) (N : Nat) (a0 : Nat) (a1 : Int32) (a2 : Int32) (mem : kM) : dRes :=
  dGR xm mem a0 15 3 fun v1 =>
  dRc xm mem v1 4 <|
  dCR (m_AL_get xm N v1 a1 mem) fun v5 m5 =>
  dCC xm m5 v5 0 2 <|
  dRc xm m5 v5 2 <|
  dCI (m_Int_intValue xm N v5 m5) fun v11 m11 =>
  dNI 0 m11 5 fun m16 p16 =>
  dIS xm m16 p16 0 v11 fun m21 =>
  dCI (m_M_length xm N v11 m21) fun v25 m25 =>
  dIS xm m25 p16 1 v25 fun m28 =>
  dIS xm m28 p16 2 0 fun m32 =>
  dIS xm m32 p16 3 0 fun m36 =>
  dIS xm m36 p16 4 0 fun m40 =>
  m_M_ofPatternNow_46 xm N N a2 p16 v11 m40
theorem m_M_ofPatternNow_ok (xm : Nat → Option kE) (N : Nat) {a0 : Nat} {a1 : Int32} {a2 : Int32} {mem : kM} {R : kO × kM} (h : m_M_ofPatternNow xm N a0 a1 a2 mem = some R) : kCa xm kSm kDfl kFty kG 4 157 [.ref a0, .int a1, .int a2] mem (dEq R) := by
  refine wq_ca (show 3 ≤ 6 by decide) ?_
  change kGo xm kSm kDfl kFty kG 3 157 0 [(0, .ref a0), (1, .int a1), (2, .int a2)] [] mem (dEq R)
  unfold m_M_ofPatternNow at h
  refine wp_run 1 (pc' := 1) (lv' := [(0, .ref a0), (1, .int a1), (2, .int a2)]) (st' := [.ref a0]) (mem' := mem) rfl ?_
  refine wq_gR rfl h (fun v1 h => ?_)
  refine wp_run 1 (pc' := 5) (lv' := [(0, .ref a0), (1, .int a1), (2, .int a2)]) (st' := [.int a1, .ref v1]) (mem' := mem) rfl ?_
  obtain ⟨fk5, hk5, h⟩ := dRc_some h
  refine wq_cR rfl (kCall_v hk5 (as := [.int a1]) (rest := []) ⟨by decide, rfl, (show 1 < 90 by decide), by decide⟩ (show 0 ≤ 8 by decide)) h (fun r hr => ca_up (by decide) (m_AL_get_ok xm N hr)) (fun v5 m5 h => ?_)
  refine wq_cc rfl h (fun h => ?_)
  obtain ⟨fk11, hk11, h⟩ := dRc_some h
  refine wq_cI rfl (kCall_v hk11 (as := []) (rest := []) ⟨by decide, rfl, (show 0 < 90 by decide), by decide⟩ (show 0 ≤ 8 by decide)) h (fun r hr => ca_up (by decide) (m_Int_intValue_ok xm N hr)) (fun v11 m11 h => ?_)
  refine wp_run 2 (pc' := 16) (lv' := [(3, .int v11), (0, .ref a0), (1, .int a1), (2, .int a2)]) (st' := [.int 5]) (mem' := m11) rfl ?_
  refine wq_nI rfl rfl h (fun m16 p16 h => ?_)
  refine wp_run 3 (pc' := 21) (lv' := [(3, .int v11), (0, .ref a0), (1, .int a1), (2, .int a2)]) (st' := [.int v11, .int 0, .ref p16, .ref p16]) (mem' := m16) rfl ?_
  refine wq_iS rfl h (fun m21 h => ?_)
  refine wp_run 3 (pc' := 25) (lv' := [(3, .int v11), (0, .ref a0), (1, .int a1), (2, .int a2)]) (st' := [.int v11, .int 1, .ref p16, .ref p16]) (mem' := m21) rfl ?_
  refine wq_cI rfl (kCall_s (as := [.int v11]) (rest := [.int 1, .ref p16, .ref p16]) ⟨by decide, rfl⟩ (show 3 ≤ 8 by decide) (by decide)) h (fun r hr => ca_up (by decide) (m_M_length_ok xm N hr)) (fun v25 m25 h => ?_)
  refine wq_iS rfl h (fun m28 h => ?_)
  refine wp_run 3 (pc' := 32) (lv' := [(3, .int v11), (0, .ref a0), (1, .int a1), (2, .int a2)]) (st' := [.int 0, .int 2, .ref p16, .ref p16]) (mem' := m28) rfl ?_
  refine wq_iS rfl h (fun m32 h => ?_)
  refine wp_run 3 (pc' := 36) (lv' := [(3, .int v11), (0, .ref a0), (1, .int a1), (2, .int a2)]) (st' := [.int 0, .int 3, .ref p16, .ref p16]) (mem' := m32) rfl ?_
  refine wq_iS rfl h (fun m36 h => ?_)
  refine wp_run 3 (pc' := 40) (lv' := [(3, .int v11), (0, .ref a0), (1, .int a1), (2, .int a2)]) (st' := [.int 0, .int 4, .ref p16, .ref p16]) (mem' := m36) rfl ?_
  refine wq_iS rfl h (fun m40 h => ?_)
  refine wp_run 3 (pc' := 46) (lv' := [(5, .int v11), (4, .ref p16), (3, .int v11), (0, .ref a0), (1, .int a1), (2, .int a2)]) (st' := []) (mem' := m40) rfl ?_
  refine kGo_sub (lvS_of [5, 1, 0] rfl [5, 4, 3, 0, 1, 2] rfl (by decide)) ?_
  exact m_M_ofPatternNow_46_ok xm N N _ _ _ m40 R h
