set_option maxRecDepth 20000
/-- KnitsteadModel.ofPattern(II)I -/
def m_M_ofPattern (xm : Nat → Option kE) (N : Nat) (a0 : Nat) (a1 : Int32) (a2 : Int32) (mem : kM) : dRes :=
  dP xm mem a0 15 0 (.int 0) fun m2 =>
  dRc xm m2 a0 15 <|
  dCI (m_M_isPattern xm N a0 a1 m2) fun v7 m7 =>
  if v7 = 0 then (
    dRc xm m7 a0 15 <|
    dCI (m_M_refuse xm N a0 1 m7) fun v15 m15 =>
    some (.inl (some (.int v15)), m15)
  ) else (
    dCI (m_M_is xm N a2 0 4 m7) fun v22 m22 =>
    if v22 = 0 then (
      dRc xm m22 a0 15 <|
      dCI (m_M_refuse xm N a0 2 m22) fun v39 m39 =>
      some (.inl (some (.int v39)), m39)
    ) else (
      dRc xm m22 a0 15 <|
      dCI (m_M_ofPatternNow xm N a0 a1 a2 m22) fun v31 m31 =>
      some (.inl (some (.int v31)), m31)
    )
  )
theorem m_M_ofPattern_ok (xm : Nat → Option kE) (N : Nat) {a0 : Nat} {a1 : Int32} {a2 : Int32} {mem : kM} {R : kO × kM} (h : m_M_ofPattern xm N a0 a1 a2 mem = some R) : kCa xm kSm kDfl kFty kG 5 158 [.ref a0, .int a1, .int a2] mem (dEq R) := by
  refine wq_ca (show 3 ≤ 3 by decide) ?_
  change kGo xm kSm kDfl kFty kG 4 158 0 [(0, .ref a0), (1, .int a1), (2, .int a2)] [] mem (dEq R)
  unfold m_M_ofPattern at h
  refine wp_run 2 (pc' := 2) (lv' := [(0, .ref a0), (1, .int a1), (2, .int a2)]) (st' := [.int 0, .ref a0]) (mem' := mem) rfl ?_
  refine wq_p rfl rfl h (fun m2 h => ?_)
  refine wp_run 2 (pc' := 7) (lv' := [(0, .ref a0), (1, .int a1), (2, .int a2)]) (st' := [.int a1, .ref a0]) (mem' := m2) rfl ?_
  obtain ⟨fk7, hk7, h⟩ := dRc_some h
  refine wq_cI rfl (kCall_v hk7 (as := [.int a1]) (rest := []) ⟨by decide, rfl, (show 1 < 90 by decide), by decide⟩ (show 0 ≤ 8 by decide)) h (fun r hr => ca_up (by decide) (m_M_isPattern_ok xm N hr)) (fun v7 m7 h => ?_)
  refine wq_ne rfl h (fun h => ?_) (fun h => ?_)
  · refine wp_run 2 (pc' := 15) (lv' := [(0, .ref a0), (1, .int a1), (2, .int a2)]) (st' := [.int 1, .ref a0]) (mem' := m7) rfl ?_
    obtain ⟨fk15, hk15, h⟩ := dRc_some h
    refine wq_cI rfl (kCall_v hk15 (as := [.int 1]) (rest := []) ⟨by decide, rfl, (show 1 < 90 by decide), by decide⟩ (show 0 ≤ 8 by decide)) h (fun r hr => ca_up (by decide) (m_M_refuse_ok xm N hr)) (fun v15 m15 h => ?_)
    exact wq_ret rfl rfl h
  · refine wp_run 3 (pc' := 22) (lv' := [(0, .ref a0), (1, .int a1), (2, .int a2)]) (st' := [.int 4, .int 0, .int a2]) (mem' := m7) rfl ?_
    refine wq_cI rfl (kCall_s (as := [.int a2, .int 0, .int 4]) (rest := []) ⟨by decide, rfl⟩ (show 0 ≤ 8 by decide) (by decide)) h (fun r hr => ca_up (by decide) (m_M_is_ok xm N hr)) (fun v22 m22 h => ?_)
    refine wq_eq rfl h (fun h => ?_) (fun h => ?_)
    · refine wp_run 2 (pc' := 39) (lv' := [(0, .ref a0), (1, .int a1), (2, .int a2)]) (st' := [.int 2, .ref a0]) (mem' := m22) rfl ?_
      obtain ⟨fk39, hk39, h⟩ := dRc_some h
      refine wq_cI rfl (kCall_v hk39 (as := [.int 2]) (rest := []) ⟨by decide, rfl, (show 1 < 90 by decide), by decide⟩ (show 0 ≤ 8 by decide)) h (fun r hr => ca_up (by decide) (m_M_refuse_ok xm N hr)) (fun v39 m39 h => ?_)
      exact wq_ret rfl rfl h
    · refine wp_run 3 (pc' := 31) (lv' := [(0, .ref a0), (1, .int a1), (2, .int a2)]) (st' := [.int a2, .int a1, .ref a0]) (mem' := m22) rfl ?_
      obtain ⟨fk31, hk31, h⟩ := dRc_some h
      refine wq_cI rfl (kCall_v hk31 (as := [.int a1, .int a2]) (rest := []) ⟨by decide, rfl, (show 2 < 90 by decide), by decide⟩ (show 0 ≤ 8 by decide)) h (fun r hr => ca_up (by decide) (m_M_ofPatternNow_ok xm N hr)) (fun v31 m31 h => ?_)
      refine wp_run 1 (pc' := 42) (lv' := [(0, .ref a0), (1, .int a1), (2, .int a2)]) (st' := [.int v31]) (mem' := m31) rfl ?_
      exact wq_ret rfl rfl h
/-- KnitsteadModel.wouldNow(II)I -/
def m_M_wouldNow_129 (xm : Nat → Option kE) (N : Nat) (a0 : Nat) (a2 : Int32) (a3 : Int32) (a4 : Int32) (a5 : Int32) (a6 : Int32) (a7 : Int32) (mem : kM) : dRes :=
  if a2 = 0 then (
    some (.inl (some (.int a5)), mem)
  ) else (
    if a2 = 1 then (
      dRc xm mem a0 15 <|
      dCI (m_M_yarn xm N a0 mem) fun v142 m142 =>
      some (.inl (some (.int (v142 - a6))), m142)
    ) else (
      if a4 = 0 then (
        if 0 < a7 then (
          dCI (m_M_length xm N a3 mem) fun v164 m164 =>
          dNz v164 <|
          if (a7 - a7 / v164 * v164) = 0 then (
            some (.inl (some (.int 1)), m164)
          ) else (
            some (.inl (some (.int 0)), m164)
          )
        ) else (
          some (.inl (some (.int 0)), mem)
        )
      ) else (
        some (.inl (some (.int 0)), mem)
      )
    )
  )
theorem m_M_wouldNow_129_ok (xm : Nat → Option kE) (N : Nat) : ∀ (a0 : Nat) (a2 : Int32) (a3 : Int32) (a4 : Int32) (a5 : Int32) (a6 : Int32) (a7 : Int32) (mem : kM) (R : kO × kM), m_M_wouldNow_129 xm N a0 a2 a3 a4 a5 a6 a7 mem = some R → kGo xm kSm kDfl kFty kG 3 159 129 [(0, .ref a0), (2, .int a2), (3, .int a3), (4, .int a4), (5, .int a5), (6, .int a6), (7, .int a7)] [] mem (dEq R) := by
  intro a0 a2 a3 a4 a5 a6 a7 mem R h
  unfold m_M_wouldNow_129 at h
  refine wp_run 1 (pc' := 130) (lv' := [(0, .ref a0), (2, .int a2), (3, .int a3), (4, .int a4), (5, .int a5), (6, .int a6), (7, .int a7)]) (st' := [.int a2]) (mem' := mem) rfl ?_
  refine wq_ne rfl h (fun h => ?_) (fun h => ?_)
  · refine wp_run 1 (pc' := 135) (lv' := [(0, .ref a0), (2, .int a2), (3, .int a3), (4, .int a4), (5, .int a5), (6, .int a6), (7, .int a7)]) (st' := [.int a5]) (mem' := mem) rfl ?_
    exact wq_ret rfl rfl h
  · refine wp_run 2 (pc' := 138) (lv' := [(0, .ref a0), (2, .int a2), (3, .int a3), (4, .int a4), (5, .int a5), (6, .int a6), (7, .int a7)]) (st' := [.int 1, .int a2]) (mem' := mem) rfl ?_
    refine wq_ne2 rfl h (fun h => ?_) (fun h => ?_)
    · refine wp_run 1 (pc' := 142) (lv' := [(0, .ref a0), (2, .int a2), (3, .int a3), (4, .int a4), (5, .int a5), (6, .int a6), (7, .int a7)]) (st' := [.ref a0]) (mem' := mem) rfl ?_
      obtain ⟨fk142, hk142, h⟩ := dRc_some h
      refine wq_cI rfl (kCall_v hk142 (as := []) (rest := []) ⟨by decide, rfl, (show 0 < 90 by decide), by decide⟩ (show 0 ≤ 8 by decide)) h (fun r hr => ca_up (by decide) (m_M_yarn_ok xm N hr)) (fun v142 m142 h => ?_)
      refine wp_run 3 (pc' := 176) (lv' := [(0, .ref a0), (2, .int a2), (3, .int a3), (4, .int a4), (5, .int a5), (6, .int a6), (7, .int a7)]) (st' := [.int (v142 - a6)]) (mem' := m142) rfl ?_
      exact wq_ret rfl rfl h
    · refine wp_run 1 (pc' := 153) (lv' := [(0, .ref a0), (2, .int a2), (3, .int a3), (4, .int a4), (5, .int a5), (6, .int a6), (7, .int a7)]) (st' := [.int a4]) (mem' := mem) rfl ?_
      refine wq_ne rfl h (fun h => ?_) (fun h => ?_)
      · refine wp_run 1 (pc' := 158) (lv' := [(0, .ref a0), (2, .int a2), (3, .int a3), (4, .int a4), (5, .int a5), (6, .int a6), (7, .int a7)]) (st' := [.int a7]) (mem' := mem) rfl ?_
        refine wq_le rfl h (fun h => ?_) (fun h => ?_)
        · refine wp_run 2 (pc' := 164) (lv' := [(0, .ref a0), (2, .int a2), (3, .int a3), (4, .int a4), (5, .int a5), (6, .int a6), (7, .int a7)]) (st' := [.int a3, .int a7]) (mem' := mem) rfl ?_
          refine wq_cI rfl (kCall_s (as := [.int a3]) (rest := [.int a7]) ⟨by decide, rfl⟩ (show 1 ≤ 8 by decide) (by decide)) h (fun r hr => ca_up (by decide) (m_M_length_ok xm N hr)) (fun v164 m164 h => ?_)
          refine wq_irem rfl h (fun h => ?_)
          refine wq_ne rfl h (fun h => ?_) (fun h => ?_)
          · refine wp_run 2 (pc' := 176) (lv' := [(0, .ref a0), (2, .int a2), (3, .int a3), (4, .int a4), (5, .int a5), (6, .int a6), (7, .int a7)]) (st' := [.int 1]) (mem' := m164) rfl ?_
            exact wq_ret rfl rfl h
          · refine wp_run 1 (pc' := 176) (lv' := [(0, .ref a0), (2, .int a2), (3, .int a3), (4, .int a4), (5, .int a5), (6, .int a6), (7, .int a7)]) (st' := [.int 0]) (mem' := m164) rfl ?_
            exact wq_ret rfl rfl h
        · refine wp_run 1 (pc' := 176) (lv' := [(0, .ref a0), (2, .int a2), (3, .int a3), (4, .int a4), (5, .int a5), (6, .int a6), (7, .int a7)]) (st' := [.int 0]) (mem' := mem) rfl ?_
          exact wq_ret rfl rfl h
      · refine wp_run 1 (pc' := 176) (lv' := [(0, .ref a0), (2, .int a2), (3, .int a3), (4, .int a4), (5, .int a5), (6, .int a6), (7, .int a7)]) (st' := [.int 0]) (mem' := mem) rfl ?_
        exact wq_ret rfl rfl h
def m_M_wouldNow_45 (xm : Nat → Option kE) (N : Nat) : Nat → Nat → Int32 → Int32 → Int32 → Int32 → Int32 → Int32 → kM → dRes
  | 0, _, _, _, _, _, _, _, _ => none
  | n + 1, a0, a2, a3, a4, a5, a6, a7, mem =>
    if a7 < 99 then (
      if 0 < a4 then (
        dCI (m_M_length xm N a3 mem) fun v61 m61 =>
        dNz v61 <|
        dCI (m_M_step xm N a3 (a7 - a7 / v61 * v61) m61) fun v65 m65 =>
        dCI (m_M_can xm N v65 a4 a5 a6 m65) fun v78 m78 =>
        if v78 = 0 then (
          m_M_wouldNow_129 xm N a0 a2 a3 a4 a5 a6 a7 m78
        ) else (
          dCI (m_M_eats xm N v65 m78) fun v91 m91 =>
          dCI (m_M_makes xm N v65 m91) fun v101 m101 =>
          dCI (m_M_eats xm N v65 m101) fun v106 m106 =>
          dCI (m_M_takes xm N v65 m106) fun v117 m117 =>
          m_M_wouldNow_45 xm N n a0 a2 a3 (a4 - v91) (a5 + (v101 - v106)) (a6 - v117) (a7 + 1) m117
        )
      ) else (
        m_M_wouldNow_129 xm N a0 a2 a3 a4 a5 a6 a7 mem
      )
    ) else (
      m_M_wouldNow_129 xm N a0 a2 a3 a4 a5 a6 a7 mem
    )
theorem m_M_wouldNow_45_ok (xm : Nat → Option kE) (N : Nat) : ∀ (n : Nat) (a0 : Nat) (a2 : Int32) (a3 : Int32) (a4 : Int32) (a5 : Int32) (a6 : Int32) (a7 : Int32) (mem : kM) (R : kO × kM), m_M_wouldNow_45 xm N n a0 a2 a3 a4 a5 a6 a7 mem = some R → kGo xm kSm kDfl kFty kG 3 159 45 [(0, .ref a0), (2, .int a2), (3, .int a3), (4, .int a4), (5, .int a5), (6, .int a6), (7, .int a7)] [] mem (dEq R) := by
  intro n
  induction n with
  | zero => intro a0 a2 a3 a4 a5 a6 a7 mem R h; cases h
  | succ n ih =>
    intro a0 a2 a3 a4 a5 a6 a7 mem R h
    rw [m_M_wouldNow_45] at h
    refine wp_run 2 (pc' := 49) (lv' := [(0, .ref a0), (2, .int a2), (3, .int a3), (4, .int a4), (5, .int a5), (6, .int a6), (7, .int a7)]) (st' := [.int 99, .int a7]) (mem' := mem) rfl ?_
    refine wq_ge2 rfl h (fun h => ?_) (fun h => ?_)
    · refine wp_run 1 (pc' := 54) (lv' := [(0, .ref a0), (2, .int a2), (3, .int a3), (4, .int a4), (5, .int a5), (6, .int a6), (7, .int a7)]) (st' := [.int a4]) (mem' := mem) rfl ?_
      refine wq_le rfl h (fun h => ?_) (fun h => ?_)
      · refine wp_run 3 (pc' := 61) (lv' := [(0, .ref a0), (2, .int a2), (3, .int a3), (4, .int a4), (5, .int a5), (6, .int a6), (7, .int a7)]) (st' := [.int a3, .int a7, .int a3]) (mem' := mem) rfl ?_
        refine wq_cI rfl (kCall_s (as := [.int a3]) (rest := [.int a7, .int a3]) ⟨by decide, rfl⟩ (show 2 ≤ 8 by decide) (by decide)) h (fun r hr => ca_up (by decide) (m_M_length_ok xm N hr)) (fun v61 m61 h => ?_)
        refine wq_irem rfl h (fun h => ?_)
        refine wq_cI rfl (kCall_s (as := [.int a3, .int (a7 - a7 / v61 * v61)]) (rest := []) ⟨by decide, rfl⟩ (show 0 ≤ 8 by decide) (by decide)) h (fun r hr => ca_up (by decide) (m_M_step_ok xm N hr)) (fun v65 m65 h => ?_)
        refine wp_run 5 (pc' := 78) (lv' := [(8, .int v65), (0, .ref a0), (2, .int a2), (3, .int a3), (4, .int a4), (5, .int a5), (6, .int a6), (7, .int a7)]) (st' := [.int a6, .int a5, .int a4, .int v65]) (mem' := m65) rfl ?_
        refine wq_cI rfl (kCall_s (as := [.int v65, .int a4, .int a5, .int a6]) (rest := []) ⟨by decide, rfl⟩ (show 0 ≤ 8 by decide) (by decide)) h (fun r hr => ca_up (by decide) (m_M_can_ok xm N hr)) (fun v78 m78 h => ?_)
        refine wq_ne rfl h (fun h => ?_) (fun h => ?_)
        · refine wp_run 1 (pc' := 129) (lv' := [(8, .int v65), (0, .ref a0), (2, .int a2), (3, .int a3), (4, .int a4), (5, .int a5), (6, .int a6), (7, .int a7)]) (st' := []) (mem' := m78) rfl ?_
          refine kGo_sub (lvS_of [1, 2, 3, 4, 5, 6, 7] rfl [8, 0, 2, 3, 4, 5, 6, 7] rfl (by decide)) ?_
          exact m_M_wouldNow_129_ok xm N _ _ _ _ _ _ _ m78 R h
        · refine wp_run 2 (pc' := 91) (lv' := [(8, .int v65), (0, .ref a0), (2, .int a2), (3, .int a3), (4, .int a4), (5, .int a5), (6, .int a6), (7, .int a7)]) (st' := [.int v65, .int a4]) (mem' := m78) rfl ?_
          refine wq_cI rfl (kCall_s (as := [.int v65]) (rest := [.int a4]) ⟨by decide, rfl⟩ (show 1 ≤ 8 by decide) (by decide)) h (fun r hr => ca_up (by decide) (m_M_eats_ok xm N hr)) (fun v91 m91 h => ?_)
          refine wp_run 4 (pc' := 101) (lv' := [(4, .int (a4 - v91)), (8, .int v65), (0, .ref a0), (2, .int a2), (3, .int a3), (5, .int a5), (6, .int a6), (7, .int a7)]) (st' := [.int v65, .int a5]) (mem' := m91) rfl ?_
          refine wq_cI rfl (kCall_s (as := [.int v65]) (rest := [.int a5]) ⟨by decide, rfl⟩ (show 1 ≤ 8 by decide) (by decide)) h (fun r hr => ca_up (by decide) (m_M_makes_ok xm N hr)) (fun v101 m101 h => ?_)
          refine wp_run 1 (pc' := 106) (lv' := [(4, .int (a4 - v91)), (8, .int v65), (0, .ref a0), (2, .int a2), (3, .int a3), (5, .int a5), (6, .int a6), (7, .int a7)]) (st' := [.int v65, .int v101, .int a5]) (mem' := m101) rfl ?_
          refine wq_cI rfl (kCall_s (as := [.int v65]) (rest := [.int v101, .int a5]) ⟨by decide, rfl⟩ (show 2 ≤ 8 by decide) (by decide)) h (fun r hr => ca_up (by decide) (m_M_eats_ok xm N hr)) (fun v106 m106 h => ?_)
          refine wp_run 5 (pc' := 117) (lv' := [(5, .int (a5 + (v101 - v106))), (4, .int (a4 - v91)), (8, .int v65), (0, .ref a0), (2, .int a2), (3, .int a3), (6, .int a6), (7, .int a7)]) (st' := [.int v65, .int a6]) (mem' := m106) rfl ?_
          refine wq_cI rfl (kCall_s (as := [.int v65]) (rest := [.int a6]) ⟨by decide, rfl⟩ (show 1 ≤ 8 by decide) (by decide)) h (fun r hr => ca_up (by decide) (m_M_takes_ok xm N hr)) (fun v117 m117 h => ?_)
          refine wp_run 4 (pc' := 45) (lv' := [(7, .int (a7 + 1)), (6, .int (a6 - v117)), (5, .int (a5 + (v101 - v106))), (4, .int (a4 - v91)), (8, .int v65), (0, .ref a0), (2, .int a2), (3, .int a3)]) (st' := []) (mem' := m117) rfl ?_
          refine kGo_sub (lvS_of [5, 6, 7, 3, 2, 1, 0] rfl [7, 6, 5, 4, 8, 0, 2, 3] rfl (by decide)) ?_
          exact ih _ _ _ _ _ _ _ m117 R h
      · exact m_M_wouldNow_129_ok xm N _ _ _ _ _ _ _ mem R h
    · exact m_M_wouldNow_129_ok xm N _ _ _ _ _ _ _ mem R h
def m_M_wouldNow (xm : Nat → Option kE) (N : Nat) (a0 : Nat) (a1 : Int32) (a2 : Int32) (mem : kM) : dRes :=
  dGR xm mem a0 15 3 fun v1 =>
  dRc xm mem v1 4 <|
  dCR (m_AL_get xm N v1 a1 mem) fun v5 m5 =>
  dCC xm m5 v5 0 2 <|
  dRc xm m5 v5 2 <|
  dCI (m_Int_intValue xm N v5 m5) fun v11 m11 =>
  dGR xm m11 a0 15 5 fun v16 =>
  dGR xm m11 v16 14 0 fun v19 =>
  dRc xm m11 v19 4 <|
  dCI (m_AL_size xm N v19 m11) fun v22 m22 =>
  dGR xm m22 a0 15 5 fun v28 =>
  dRc xm m22 v28 14 <|
  dCI (m_MS_all xm N v28 m22) fun v31 m31 =>
  dRc xm m31 a0 15 <|
  dCI (m_M_yarn xm N a0 m31) fun v37 m37 =>
  m_M_wouldNow_45 xm N N a0 a2 v11 v22 v31 v37 0 m37
theorem m_M_wouldNow_ok (xm : Nat → Option kE) (N : Nat) {a0 : Nat} {a1 : Int32} {a2 : Int32} {mem : kM} {R : kO × kM} (h : m_M_wouldNow xm N a0 a1 a2 mem = some R) : kCa xm kSm kDfl kFty kG 4 159 [.ref a0, .int a1, .int a2] mem (dEq R) := by
  refine wq_ca (show 3 ≤ 9 by decide) ?_
  change kGo xm kSm kDfl kFty kG 3 159 0 [(0, .ref a0), (1, .int a1), (2, .int a2)] [] mem (dEq R)
  unfold m_M_wouldNow at h
  refine wp_run 1 (pc' := 1) (lv' := [(0, .ref a0), (1, .int a1), (2, .int a2)]) (st' := [.ref a0]) (mem' := mem) rfl ?_
  refine wq_gR rfl h (fun v1 h => ?_)
  refine wp_run 1 (pc' := 5) (lv' := [(0, .ref a0), (1, .int a1), (2, .int a2)]) (st' := [.int a1, .ref v1]) (mem' := mem) rfl ?_
  obtain ⟨fk5, hk5, h⟩ := dRc_some h
  refine wq_cR rfl (kCall_v hk5 (as := [.int a1]) (rest := []) ⟨by decide, rfl, (show 1 < 90 by decide), by decide⟩ (show 0 ≤ 8 by decide)) h (fun r hr => ca_up (by decide) (m_AL_get_ok xm N hr)) (fun v5 m5 h => ?_)
  refine wq_cc rfl h (fun h => ?_)
  obtain ⟨fk11, hk11, h⟩ := dRc_some h
  refine wq_cI rfl (kCall_v hk11 (as := []) (rest := []) ⟨by decide, rfl, (show 0 < 90 by decide), by decide⟩ (show 0 ≤ 8 by decide)) h (fun r hr => ca_up (by decide) (m_Int_intValue_ok xm N hr)) (fun v11 m11 h => ?_)
  refine wp_run 2 (pc' := 16) (lv' := [(3, .int v11), (0, .ref a0), (1, .int a1), (2, .int a2)]) (st' := [.ref a0]) (mem' := m11) rfl ?_
  refine wq_gR rfl h (fun v16 h => ?_)
  refine wq_gR rfl h (fun v19 h => ?_)
  obtain ⟨fk22, hk22, h⟩ := dRc_some h
  refine wq_cI rfl (kCall_v hk22 (as := []) (rest := []) ⟨by decide, rfl, (show 0 < 90 by decide), by decide⟩ (show 0 ≤ 8 by decide)) h (fun r hr => ca_up (by decide) (m_AL_size_ok xm N hr)) (fun v22 m22 h => ?_)
  refine wp_run 2 (pc' := 28) (lv' := [(4, .int v22), (3, .int v11), (0, .ref a0), (1, .int a1), (2, .int a2)]) (st' := [.ref a0]) (mem' := m22) rfl ?_
  refine wq_gR rfl h (fun v28 h => ?_)
  obtain ⟨fk31, hk31, h⟩ := dRc_some h
  refine wq_cI rfl (kCall_v hk31 (as := []) (rest := []) ⟨by decide, rfl, (show 0 < 90 by decide), by decide⟩ (show 0 ≤ 8 by decide)) h (fun r hr => ca_up (by decide) (m_MS_all_ok xm N hr)) (fun v31 m31 h => ?_)
  refine wp_run 2 (pc' := 37) (lv' := [(5, .int v31), (4, .int v22), (3, .int v11), (0, .ref a0), (1, .int a1), (2, .int a2)]) (st' := [.ref a0]) (mem' := m31) rfl ?_
  obtain ⟨fk37, hk37, h⟩ := dRc_some h
  refine wq_cI rfl (kCall_v hk37 (as := []) (rest := []) ⟨by decide, rfl, (show 0 < 90 by decide), by decide⟩ (show 0 ≤ 8 by decide)) h (fun r hr => ca_up (by decide) (m_M_yarn_ok xm N hr)) (fun v37 m37 h => ?_)
  refine wp_run 3 (pc' := 45) (lv' := [(7, .int 0), (6, .int v37), (5, .int v31), (4, .int v22), (3, .int v11), (0, .ref a0), (1, .int a1), (2, .int a2)]) (st' := []) (mem' := m37) rfl ?_
  refine kGo_sub (lvS_of [5, 7, 4, 3, 2, 1, 0] rfl [7, 6, 5, 4, 3, 0, 1, 2] rfl (by decide)) ?_
  exact m_M_wouldNow_45_ok xm N N _ _ _ _ _ _ _ m37 R h
/-- KnitsteadModel.would(I)I -/
def m_M_would (xm : Nat → Option kE) (N : Nat) (a0 : Nat) (a1 : Int32) (mem : kM) : dRes :=
  dP xm mem a0 15 0 (.int 0) fun m2 =>
  dRc xm m2 a0 15 <|
  dCI (m_M_isPattern xm N a0 a1 m2) fun v7 m7 =>
  if v7 = 0 then (
    dRc xm m7 a0 15 <|
    dCI (m_M_refuse xm N a0 1 m7) fun v24 m24 =>
    some (.inl (some (.int v24)), m24)
  ) else (
    dRc xm m7 a0 15 <|
    dCI (m_M_wouldNow xm N a0 a1 0 m7) fun v16 m16 =>
    some (.inl (some (.int v16)), m16)
  )
theorem m_M_would_ok (xm : Nat → Option kE) (N : Nat) {a0 : Nat} {a1 : Int32} {mem : kM} {R : kO × kM} (h : m_M_would xm N a0 a1 mem = some R) : kCa xm kSm kDfl kFty kG 5 160 [.ref a0, .int a1] mem (dEq R) := by
  refine wq_ca (show 2 ≤ 2 by decide) ?_
  change kGo xm kSm kDfl kFty kG 4 160 0 [(0, .ref a0), (1, .int a1)] [] mem (dEq R)
  unfold m_M_would at h
  refine wp_run 2 (pc' := 2) (lv' := [(0, .ref a0), (1, .int a1)]) (st' := [.int 0, .ref a0]) (mem' := mem) rfl ?_
  refine wq_p rfl rfl h (fun m2 h => ?_)
  refine wp_run 2 (pc' := 7) (lv' := [(0, .ref a0), (1, .int a1)]) (st' := [.int a1, .ref a0]) (mem' := m2) rfl ?_
  obtain ⟨fk7, hk7, h⟩ := dRc_some h
  refine wq_cI rfl (kCall_v hk7 (as := [.int a1]) (rest := []) ⟨by decide, rfl, (show 1 < 90 by decide), by decide⟩ (show 0 ≤ 8 by decide)) h (fun r hr => ca_up (by decide) (m_M_isPattern_ok xm N hr)) (fun v7 m7 h => ?_)
  refine wq_eq rfl h (fun h => ?_) (fun h => ?_)
  · refine wp_run 2 (pc' := 24) (lv' := [(0, .ref a0), (1, .int a1)]) (st' := [.int 1, .ref a0]) (mem' := m7) rfl ?_
    obtain ⟨fk24, hk24, h⟩ := dRc_some h
    refine wq_cI rfl (kCall_v hk24 (as := [.int 1]) (rest := []) ⟨by decide, rfl, (show 1 < 90 by decide), by decide⟩ (show 0 ≤ 8 by decide)) h (fun r hr => ca_up (by decide) (m_M_refuse_ok xm N hr)) (fun v24 m24 h => ?_)
    exact wq_ret rfl rfl h
  · refine wp_run 3 (pc' := 16) (lv' := [(0, .ref a0), (1, .int a1)]) (st' := [.int 0, .int a1, .ref a0]) (mem' := m7) rfl ?_
    obtain ⟨fk16, hk16, h⟩ := dRc_some h
    refine wq_cI rfl (kCall_v hk16 (as := [.int a1, .int 0]) (rest := []) ⟨by decide, rfl, (show 2 < 90 by decide), by decide⟩ (show 0 ≤ 8 by decide)) h (fun r hr => ca_up (by decide) (m_M_wouldNow_ok xm N hr)) (fun v16 m16 h => ?_)
    refine wp_run 1 (pc' := 27) (lv' := [(0, .ref a0), (1, .int a1)]) (st' := [.int v16]) (mem' := m16) rfl ?_
    exact wq_ret rfl rfl h
/-- KnitsteadModel.needs(I)I -/
def m_M_needs (xm : Nat → Option kE) (N : Nat) (a0 : Nat) (a1 : Int32) (mem : kM) : dRes :=
  dP xm mem a0 15 0 (.int 0) fun m2 =>
  dRc xm m2 a0 15 <|
  dCI (m_M_isPattern xm N a0 a1 m2) fun v7 m7 =>
  if v7 = 0 then (
    dRc xm m7 a0 15 <|
    dCI (m_M_refuse xm N a0 1 m7) fun v24 m24 =>
    some (.inl (some (.int v24)), m24)
  ) else (
    dRc xm m7 a0 15 <|
    dCI (m_M_wouldNow xm N a0 a1 1 m7) fun v16 m16 =>
    some (.inl (some (.int v16)), m16)
  )
theorem m_M_needs_ok (xm : Nat → Option kE) (N : Nat) {a0 : Nat} {a1 : Int32} {mem : kM} {R : kO × kM} (h : m_M_needs xm N a0 a1 mem = some R) : kCa xm kSm kDfl kFty kG 5 161 [.ref a0, .int a1] mem (dEq R) := by
  refine wq_ca (show 2 ≤ 2 by decide) ?_
  change kGo xm kSm kDfl kFty kG 4 161 0 [(0, .ref a0), (1, .int a1)] [] mem (dEq R)
  unfold m_M_needs at h
  refine wp_run 2 (pc' := 2) (lv' := [(0, .ref a0), (1, .int a1)]) (st' := [.int 0, .ref a0]) (mem' := mem) rfl ?_
  refine wq_p rfl rfl h (fun m2 h => ?_)
  refine wp_run 2 (pc' := 7) (lv' := [(0, .ref a0), (1, .int a1)]) (st' := [.int a1, .ref a0]) (mem' := m2) rfl ?_
  obtain ⟨fk7, hk7, h⟩ := dRc_some h
  refine wq_cI rfl (kCall_v hk7 (as := [.int a1]) (rest := []) ⟨by decide, rfl, (show 1 < 90 by decide), by decide⟩ (show 0 ≤ 8 by decide)) h (fun r hr => ca_up (by decide) (m_M_isPattern_ok xm N hr)) (fun v7 m7 h => ?_)
  refine wq_eq rfl h (fun h => ?_) (fun h => ?_)
  · refine wp_run 2 (pc' := 24) (lv' := [(0, .ref a0), (1, .int a1)]) (st' := [.int 1, .ref a0]) (mem' := m7) rfl ?_
    obtain ⟨fk24, hk24, h⟩ := dRc_some h
    refine wq_cI rfl (kCall_v hk24 (as := [.int 1]) (rest := []) ⟨by decide, rfl, (show 1 < 90 by decide), by decide⟩ (show 0 ≤ 8 by decide)) h (fun r hr => ca_up (by decide) (m_M_refuse_ok xm N hr)) (fun v24 m24 h => ?_)
    exact wq_ret rfl rfl h
  · refine wp_run 3 (pc' := 16) (lv' := [(0, .ref a0), (1, .int a1)]) (st' := [.int 1, .int a1, .ref a0]) (mem' := m7) rfl ?_
    obtain ⟨fk16, hk16, h⟩ := dRc_some h
    refine wq_cI rfl (kCall_v hk16 (as := [.int a1, .int 1]) (rest := []) ⟨by decide, rfl, (show 2 < 90 by decide), by decide⟩ (show 0 ≤ 8 by decide)) h (fun r hr => ca_up (by decide) (m_M_wouldNow_ok xm N hr)) (fun v16 m16 h => ?_)
    refine wp_run 1 (pc' := 27) (lv' := [(0, .ref a0), (1, .int a1)]) (st' := [.int v16]) (mem' := m16) rfl ?_
    exact wq_ret rfl rfl h
/-- KnitsteadModel.bestNow()I -/
def m_M_bestNow_47 (xm : Nat → Option kE) (N : Nat) (K4 : Nat → Int32 → Int32 → kM → dRes) (a0 : Nat) (a1 : Int32) (a2 : Int32) (mem : kM) : dRes :=
  K4 a0 a1 (a2 + 1) mem
theorem m_M_bestNow_47_ok (xm : Nat → Option kE) (N : Nat) (K4 : Nat → Int32 → Int32 → kM → dRes) (hK4 : ∀ (a0 : Nat) (a1 : Int32) (a2 : Int32) (mem : kM) (R : kO × kM), K4 a0 a1 a2 mem = some R → kGo xm kSm kDfl kFty kG 4 162 4 [(0, .ref a0), (1, .int a1), (2, .int a2)] [] mem (dEq R)) : ∀ (a0 : Nat) (a1 : Int32) (a2 : Int32) (mem : kM) (R : kO × kM), m_M_bestNow_47 xm N K4 a0 a1 a2 mem = some R → kGo xm kSm kDfl kFty kG 4 162 47 [(0, .ref a0), (1, .int a1), (2, .int a2)] [] mem (dEq R) := by
  intro a0 a1 a2 mem R h
  unfold m_M_bestNow_47 at h
  refine wp_run 2 (pc' := 4) (lv' := [(2, .int (a2 + 1)), (0, .ref a0), (1, .int a1)]) (st' := []) (mem' := mem) rfl ?_
  refine kGo_sub (lvS_of [1, 2, 0] rfl [2, 0, 1] rfl (by decide)) ?_
  exact hK4 _ _ _ mem R h
def m_M_bestNow_45 (xm : Nat → Option kE) (N : Nat) (K4 : Nat → Int32 → Int32 → kM → dRes) (a0 : Nat) (a2 : Int32) (mem : kM) : dRes :=
  m_M_bestNow_47 xm N K4 a0 a2 a2 mem
theorem m_M_bestNow_45_ok (xm : Nat → Option kE) (N : Nat) (K4 : Nat → Int32 → Int32 → kM → dRes) (hK4 : ∀ (a0 : Nat) (a1 : Int32) (a2 : Int32) (mem : kM) (R : kO × kM), K4 a0 a1 a2 mem = some R → kGo xm kSm kDfl kFty kG 4 162 4 [(0, .ref a0), (1, .int a1), (2, .int a2)] [] mem (dEq R)) : ∀ (a0 : Nat) (a2 : Int32) (mem : kM) (R : kO × kM), m_M_bestNow_45 xm N K4 a0 a2 mem = some R → kGo xm kSm kDfl kFty kG 4 162 45 [(0, .ref a0), (2, .int a2)] [] mem (dEq R) := by
  intro a0 a2 mem R h
  unfold m_M_bestNow_45 at h
  refine wp_run 2 (pc' := 47) (lv' := [(1, .int a2), (0, .ref a0), (2, .int a2)]) (st' := []) (mem' := mem) rfl ?_
  refine kGo_sub (lvS_of [1, 0, 2] rfl [1, 0, 2] rfl (by decide)) ?_
  exact m_M_bestNow_47_ok xm N _ hK4 _ _ _ mem R h
def m_M_bestNow_4 (xm : Nat → Option kE) (N : Nat) : Nat → Nat → Int32 → Int32 → kM → dRes
  | 0, _, _, _, _ => none
  | n + 1, a0, a1, a2, mem =>
    dGR xm mem a0 15 3 fun v6 =>
    dRc xm mem v6 4 <|
    dCI (m_AL_size xm N v6 mem) fun v9 m9 =>
    if a2 < v9 then (
      dRc xm m9 a0 15 <|
      dCI (m_M_wouldNow xm N a0 a2 2 m9) fun v18 m18 =>
      if v18 = 1 then (
        if a1 = (-1) then (
          m_M_bestNow_45 xm N (fun a0 a1 a2 mem => m_M_bestNow_4 xm N n a0 a1 a2 mem) a0 a2 m18
        ) else (
          dRc xm m18 a0 15 <|
          dCI (m_M_wouldNow xm N a0 a2 1 m18) fun v33 m33 =>
          dRc xm m33 a0 15 <|
          dCI (m_M_wouldNow xm N a0 a1 1 m33) fun v39 m39 =>
          if v33 < v39 then (
            m_M_bestNow_45 xm N (fun a0 a1 a2 mem => m_M_bestNow_4 xm N n a0 a1 a2 mem) a0 a2 m39
          ) else (
            m_M_bestNow_47 xm N (fun a0 a1 a2 mem => m_M_bestNow_4 xm N n a0 a1 a2 mem) a0 a1 a2 m39
          )
        )
      ) else (
        m_M_bestNow_47 xm N (fun a0 a1 a2 mem => m_M_bestNow_4 xm N n a0 a1 a2 mem) a0 a1 a2 m18
      )
    ) else (
      some (.inl (some (.int a1)), m9)
    )
theorem m_M_bestNow_4_ok (xm : Nat → Option kE) (N : Nat) : ∀ (n : Nat) (a0 : Nat) (a1 : Int32) (a2 : Int32) (mem : kM) (R : kO × kM), m_M_bestNow_4 xm N n a0 a1 a2 mem = some R → kGo xm kSm kDfl kFty kG 4 162 4 [(0, .ref a0), (1, .int a1), (2, .int a2)] [] mem (dEq R) := by
  intro n
  induction n with
  | zero => intro a0 a1 a2 mem R h; cases h
  | succ n ih =>
    intro a0 a1 a2 mem R h
    rw [m_M_bestNow_4] at h
    refine wp_run 2 (pc' := 6) (lv' := [(0, .ref a0), (1, .int a1), (2, .int a2)]) (st' := [.ref a0, .int a2]) (mem' := mem) rfl ?_
    refine wq_gR rfl h (fun v6 h => ?_)
    obtain ⟨fk9, hk9, h⟩ := dRc_some h
    refine wq_cI rfl (kCall_v hk9 (as := []) (rest := [.int a2]) ⟨by decide, rfl, (show 0 < 90 by decide), by decide⟩ (show 1 ≤ 8 by decide)) h (fun r hr => ca_up (by decide) (m_AL_size_ok xm N hr)) (fun v9 m9 h => ?_)
    refine wq_ge2 rfl h (fun h => ?_) (fun h => ?_)
    · refine wp_run 3 (pc' := 18) (lv' := [(0, .ref a0), (1, .int a1), (2, .int a2)]) (st' := [.int 2, .int a2, .ref a0]) (mem' := m9) rfl ?_
      obtain ⟨fk18, hk18, h⟩ := dRc_some h
      refine wq_cI rfl (kCall_v hk18 (as := [.int a2, .int 2]) (rest := []) ⟨by decide, rfl, (show 2 < 90 by decide), by decide⟩ (show 0 ≤ 8 by decide)) h (fun r hr => ca_up (by decide) (m_M_wouldNow_ok xm N hr)) (fun v18 m18 h => ?_)
      refine wp_run 1 (pc' := 22) (lv' := [(0, .ref a0), (1, .int a1), (2, .int a2)]) (st' := [.int 1, .int v18]) (mem' := m18) rfl ?_
      refine wq_ne2 rfl h (fun h => ?_) (fun h => ?_)
      · refine wp_run 2 (pc' := 27) (lv' := [(0, .ref a0), (1, .int a1), (2, .int a2)]) (st' := [.int (-1), .int a1]) (mem' := m18) rfl ?_
        refine wq_eq2 rfl h (fun h => ?_) (fun h => ?_)
        · refine kGo_sub (lvS_of [0, 2] rfl [0, 1, 2] rfl (by decide)) ?_
          exact m_M_bestNow_45_ok xm N _ ih _ _ m18 R h
        · refine wp_run 3 (pc' := 33) (lv' := [(0, .ref a0), (1, .int a1), (2, .int a2)]) (st' := [.int 1, .int a2, .ref a0]) (mem' := m18) rfl ?_
          obtain ⟨fk33, hk33, h⟩ := dRc_some h
          refine wq_cI rfl (kCall_v hk33 (as := [.int a2, .int 1]) (rest := []) ⟨by decide, rfl, (show 2 < 90 by decide), by decide⟩ (show 0 ≤ 8 by decide)) h (fun r hr => ca_up (by decide) (m_M_wouldNow_ok xm N hr)) (fun v33 m33 h => ?_)
          refine wp_run 3 (pc' := 39) (lv' := [(0, .ref a0), (1, .int a1), (2, .int a2)]) (st' := [.int 1, .int a1, .ref a0, .int v33]) (mem' := m33) rfl ?_
          obtain ⟨fk39, hk39, h⟩ := dRc_some h
          refine wq_cI rfl (kCall_v hk39 (as := [.int a1, .int 1]) (rest := [.int v33]) ⟨by decide, rfl, (show 2 < 90 by decide), by decide⟩ (show 1 ≤ 8 by decide)) h (fun r hr => ca_up (by decide) (m_M_wouldNow_ok xm N hr)) (fun v39 m39 h => ?_)
          refine wq_ge2 rfl h (fun h => ?_) (fun h => ?_)
          · refine kGo_sub (lvS_of [0, 2] rfl [0, 1, 2] rfl (by decide)) ?_
            exact m_M_bestNow_45_ok xm N _ ih _ _ m39 R h
          · exact m_M_bestNow_47_ok xm N _ ih _ _ _ m39 R h
      · exact m_M_bestNow_47_ok xm N _ ih _ _ _ m18 R h
    · refine wp_run 1 (pc' := 54) (lv' := [(0, .ref a0), (1, .int a1), (2, .int a2)]) (st' := [.int a1]) (mem' := m9) rfl ?_
      exact wq_ret rfl rfl h
def m_M_bestNow (xm : Nat → Option kE) (N : Nat) (a0 : Nat) (mem : kM) : dRes :=
  m_M_bestNow_4 xm N N a0 (-1) 0 mem
theorem m_M_bestNow_ok (xm : Nat → Option kE) (N : Nat) {a0 : Nat} {mem : kM} {R : kO × kM} (h : m_M_bestNow xm N a0 mem = some R) : kCa xm kSm kDfl kFty kG 5 162 [.ref a0] mem (dEq R) := by
  refine wq_ca (show 1 ≤ 3 by decide) ?_
  change kGo xm kSm kDfl kFty kG 4 162 0 [(0, .ref a0)] [] mem (dEq R)
  unfold m_M_bestNow at h
  refine wp_run 4 (pc' := 4) (lv' := [(2, .int 0), (1, .int (-1)), (0, .ref a0)]) (st' := []) (mem' := mem) rfl ?_
  refine kGo_sub (lvS_of [2, 1, 0] rfl [2, 1, 0] rfl (by decide)) ?_
  exact m_M_bestNow_4_ok xm N N _ _ _ mem R h
/-- KnitsteadModel.best()I -/
def m_M_best (xm : Nat → Option kE) (N : Nat) (a0 : Nat) (mem : kM) : dRes :=
  dP xm mem a0 15 0 (.int 0) fun m2 =>
  dRc xm m2 a0 15 <|
  dCI (m_M_bestNow xm N a0 m2) fun v6 m6 =>
  some (.inl (some (.int v6)), m6)
theorem m_M_best_ok (xm : Nat → Option kE) (N : Nat) {a0 : Nat} {mem : kM} {R : kO × kM} (h : m_M_best xm N a0 mem = some R) : kCa xm kSm kDfl kFty kG 6 163 [.ref a0] mem (dEq R) := by
  refine wq_ca (show 1 ≤ 1 by decide) ?_
  change kGo xm kSm kDfl kFty kG 5 163 0 [(0, .ref a0)] [] mem (dEq R)
  unfold m_M_best at h
  refine wp_run 2 (pc' := 2) (lv' := [(0, .ref a0)]) (st' := [.int 0, .ref a0]) (mem' := mem) rfl ?_
  refine wq_p rfl rfl h (fun m2 h => ?_)
  refine wp_run 1 (pc' := 6) (lv' := [(0, .ref a0)]) (st' := [.ref a0]) (mem' := m2) rfl ?_
  obtain ⟨fk6, hk6, h⟩ := dRc_some h
  refine wq_cI rfl (kCall_v hk6 (as := []) (rest := []) ⟨by decide, rfl, (show 0 < 90 by decide), by decide⟩ (show 0 ≤ 8 by decide)) h (fun r hr => ca_up (by decide) (m_M_bestNow_ok xm N hr)) (fun v6 m6 h => ?_)
  exact wq_ret rfl rfl h
/-- KnitsteadModel.add(I)V -/
def m_M_add (xm : Nat → Option kE) (N : Nat) (a0 : Nat) (a1 : Int32) (mem : kM) : dRes :=
  dGJ xm mem a0 15 8 fun v2 =>
  dP xm mem a0 15 8 (.long ((v2 * 31) + (Int32.toInt64 a1))) fun m12 =>
  some (.inl none, m12)
theorem m_M_add_ok (xm : Nat → Option kE) (N : Nat) {a0 : Nat} {a1 : Int32} {mem : kM} {R : kO × kM} (h : m_M_add xm N a0 a1 mem = some R) : kCa xm kSm kDfl kFty kG 1 164 [.ref a0, .int a1] mem (dEq R) := by
  refine wq_ca (show 2 ≤ 2 by decide) ?_
  change kGo xm kSm kDfl kFty kG 0 164 0 [(0, .ref a0), (1, .int a1)] [] mem (dEq R)
  unfold m_M_add at h
  refine wp_run 2 (pc' := 2) (lv' := [(0, .ref a0), (1, .int a1)]) (st' := [.ref a0, .ref a0]) (mem' := mem) rfl ?_
  refine wq_gJ rfl h (fun v2 h => ?_)
  refine wp_run 5 (pc' := 12) (lv' := [(0, .ref a0), (1, .int a1)]) (st' := [.long ((v2 * 31) + (Int32.toInt64 a1)), .ref a0]) (mem' := mem) rfl ?_
  refine wq_p rfl rfl h (fun m12 h => ?_)
  exact wq_end rfl rfl h
/-- KnitsteadModel.addNeedle(Z)V -/
def m_M_addNeedle_35 (xm : Nat → Option kE) (N : Nat) (K13 : Nat → Nat → Int32 → kM → dRes) : Nat → Nat → Nat → Int32 → Int32 → kM → dRes
  | 0, _, _, _, _, _ => none
  | n + 1, a0, a2, a3, a4, mem =>
    if a4 < 6 then (
      dRc xm mem a2 4 <|
      dCR (m_AL_get xm N a2 a3 mem) fun v46 m46 =>
      dCC xm m46 v46 0 2 <|
      dRc xm m46 v46 2 <|
      dCI (m_Int_intValue xm N v46 m46) fun v52 m52 =>
      dRc xm m52 a0 15 <|
      dCI (m_M_ofLoopNow xm N a0 v52 a4 m52) fun v57 m57 =>
      dRc xm m57 a0 15 <|
      dCV (m_M_add xm N a0 v57 m57) fun m60 =>
      m_M_addNeedle_35 xm N K13 n a0 a2 a3 (a4 + 1) m60
    ) else (
      K13 a0 a2 (a3 + (-1)) mem
    )
theorem m_M_addNeedle_35_ok (xm : Nat → Option kE) (N : Nat) (K13 : Nat → Nat → Int32 → kM → dRes) (hK13 : ∀ (a0 : Nat) (a2 : Nat) (a3 : Int32) (mem : kM) (R : kO × kM), K13 a0 a2 a3 mem = some R → kGo xm kSm kDfl kFty kG 5 165 13 [(0, .ref a0), (2, .ref a2), (3, .int a3)] [] mem (dEq R)) : ∀ (n : Nat) (a0 : Nat) (a2 : Nat) (a3 : Int32) (a4 : Int32) (mem : kM) (R : kO × kM), m_M_addNeedle_35 xm N K13 n a0 a2 a3 a4 mem = some R → kGo xm kSm kDfl kFty kG 5 165 35 [(0, .ref a0), (2, .ref a2), (3, .int a3), (4, .int a4)] [] mem (dEq R) := by
  intro n
  induction n with
  | zero => intro a0 a2 a3 a4 mem R h; cases h
  | succ n ih =>
    intro a0 a2 a3 a4 mem R h
    rw [m_M_addNeedle_35] at h
    refine wp_run 2 (pc' := 39) (lv' := [(0, .ref a0), (2, .ref a2), (3, .int a3), (4, .int a4)]) (st' := [.int 6, .int a4]) (mem' := mem) rfl ?_
    refine wq_ge2 rfl h (fun h => ?_) (fun h => ?_)
    · refine wp_run 4 (pc' := 46) (lv' := [(0, .ref a0), (2, .ref a2), (3, .int a3), (4, .int a4)]) (st' := [.int a3, .ref a2, .ref a0, .ref a0]) (mem' := mem) rfl ?_
      obtain ⟨fk46, hk46, h⟩ := dRc_some h
      refine wq_cR rfl (kCall_v hk46 (as := [.int a3]) (rest := [.ref a0, .ref a0]) ⟨by decide, rfl, (show 1 < 90 by decide), by decide⟩ (show 2 ≤ 8 by decide)) h (fun r hr => ca_up (by decide) (m_AL_get_ok xm N hr)) (fun v46 m46 h => ?_)
      refine wq_cc rfl h (fun h => ?_)
      obtain ⟨fk52, hk52, h⟩ := dRc_some h
      refine wq_cI rfl (kCall_v hk52 (as := []) (rest := [.ref a0, .ref a0]) ⟨by decide, rfl, (show 0 < 90 by decide), by decide⟩ (show 2 ≤ 8 by decide)) h (fun r hr => ca_up (by decide) (m_Int_intValue_ok xm N hr)) (fun v52 m52 h => ?_)
      refine wp_run 1 (pc' := 57) (lv' := [(0, .ref a0), (2, .ref a2), (3, .int a3), (4, .int a4)]) (st' := [.int a4, .int v52, .ref a0, .ref a0]) (mem' := m52) rfl ?_
      obtain ⟨fk57, hk57, h⟩ := dRc_some h
      refine wq_cI rfl (kCall_v hk57 (as := [.int v52, .int a4]) (rest := [.ref a0]) ⟨by decide, rfl, (show 2 < 90 by decide), by decide⟩ (show 1 ≤ 8 by decide)) h (fun r hr => ca_up (by decide) (m_M_ofLoopNow_ok xm N hr)) (fun v57 m57 h => ?_)
      obtain ⟨fk60, hk60, h⟩ := dRc_some h
      refine wq_cV rfl (kCall_v hk60 (as := [.int v57]) (rest := []) ⟨by decide, rfl, (show 1 < 90 by decide), by decide⟩ (show 0 ≤ 8 by decide)) h (fun r hr => ca_up (by decide) (m_M_add_ok xm N hr)) (fun m60 h => ?_)
      refine wp_run 2 (pc' := 35) (lv' := [(4, .int (a4 + 1)), (0, .ref a0), (2, .ref a2), (3, .int a3)]) (st' := []) (mem' := m60) rfl ?_
      refine kGo_sub (lvS_of [1, 2, 3, 0] rfl [4, 0, 2, 3] rfl (by decide)) ?_
      exact ih _ _ _ _ m60 R h
    · refine wp_run 2 (pc' := 13) (lv' := [(3, .int (a3 + (-1))), (0, .ref a0), (2, .ref a2), (4, .int a4)]) (st' := []) (mem' := mem) rfl ?_
      refine kGo_sub (lvS_of [1, 2, 0] rfl [3, 0, 2, 4] rfl (by decide)) ?_
      exact hK13 _ _ _ mem R h
def m_M_addNeedle_13 (xm : Nat → Option kE) (N : Nat) : Nat → Nat → Nat → Int32 → kM → dRes
  | 0, _, _, _, _ => none
  | n + 1, a0, a2, a3, mem =>
    if a3 < 0 then (
      some (.inl none, mem)
    ) else (
      dRc xm mem a2 4 <|
      dCR (m_AL_get xm N a2 a3 mem) fun v20 m20 =>
      dCC xm m20 v20 0 2 <|
      dRc xm m20 v20 2 <|
      dCI (m_Int_intValue xm N v20 m20) fun v26 m26 =>
      dRc xm m26 a0 15 <|
      dCV (m_M_add xm N a0 v26 m26) fun m29 =>
      m_M_addNeedle_35 xm N (fun a0 a2 a3 mem => m_M_addNeedle_13 xm N n a0 a2 a3 mem) N a0 a2 a3 0 m29
    )
theorem m_M_addNeedle_13_ok (xm : Nat → Option kE) (N : Nat) : ∀ (n : Nat) (a0 : Nat) (a2 : Nat) (a3 : Int32) (mem : kM) (R : kO × kM), m_M_addNeedle_13 xm N n a0 a2 a3 mem = some R → kGo xm kSm kDfl kFty kG 5 165 13 [(0, .ref a0), (2, .ref a2), (3, .int a3)] [] mem (dEq R) := by
  intro n
  induction n with
  | zero => intro a0 a2 a3 mem R h; cases h
  | succ n ih =>
    intro a0 a2 a3 mem R h
    rw [m_M_addNeedle_13] at h
    refine wp_run 1 (pc' := 14) (lv' := [(0, .ref a0), (2, .ref a2), (3, .int a3)]) (st' := [.int a3]) (mem' := mem) rfl ?_
    refine wq_lt rfl h (fun h => ?_) (fun h => ?_)
    · exact wq_end rfl rfl h
    · refine wp_run 3 (pc' := 20) (lv' := [(0, .ref a0), (2, .ref a2), (3, .int a3)]) (st' := [.int a3, .ref a2, .ref a0]) (mem' := mem) rfl ?_
      obtain ⟨fk20, hk20, h⟩ := dRc_some h
      refine wq_cR rfl (kCall_v hk20 (as := [.int a3]) (rest := [.ref a0]) ⟨by decide, rfl, (show 1 < 90 by decide), by decide⟩ (show 1 ≤ 8 by decide)) h (fun r hr => ca_up (by decide) (m_AL_get_ok xm N hr)) (fun v20 m20 h => ?_)
      refine wq_cc rfl h (fun h => ?_)
      obtain ⟨fk26, hk26, h⟩ := dRc_some h
      refine wq_cI rfl (kCall_v hk26 (as := []) (rest := [.ref a0]) ⟨by decide, rfl, (show 0 < 90 by decide), by decide⟩ (show 1 ≤ 8 by decide)) h (fun r hr => ca_up (by decide) (m_Int_intValue_ok xm N hr)) (fun v26 m26 h => ?_)
      obtain ⟨fk29, hk29, h⟩ := dRc_some h
      refine wq_cV rfl (kCall_v hk29 (as := [.int v26]) (rest := []) ⟨by decide, rfl, (show 1 < 90 by decide), by decide⟩ (show 0 ≤ 8 by decide)) h (fun r hr => ca_up (by decide) (m_M_add_ok xm N hr)) (fun m29 h => ?_)
      refine wp_run 2 (pc' := 35) (lv' := [(4, .int 0), (0, .ref a0), (2, .ref a2), (3, .int a3)]) (st' := []) (mem' := m29) rfl ?_
      refine kGo_sub (lvS_of [1, 2, 3, 0] rfl [4, 0, 2, 3] rfl (by decide)) ?_
      exact m_M_addNeedle_35_ok xm N _ ih N _ _ _ _ m29 R h
def m_M_addNeedle (xm : Nat → Option kE) (N : Nat) (a0 : Nat) (a1 : Int32) (mem : kM) : dRes :=
  dRc xm mem a0 15 <|
  dCR (m_M_needle xm N a0 a1 mem) fun v2 m2 =>
  dRc xm m2 v2 4 <|
  dCI (m_AL_size xm N v2 m2) fun v7 m7 =>
  m_M_addNeedle_13 xm N N a0 v2 (v7 - 1) m7
theorem m_M_addNeedle_ok (xm : Nat → Option kE) (N : Nat) {a0 : Nat} {a1 : Int32} {mem : kM} {R : kO × kM} (h : m_M_addNeedle xm N a0 a1 mem = some R) : kCa xm kSm kDfl kFty kG 6 165 [.ref a0, .int a1] mem (dEq R) := by
  refine wq_ca (show 2 ≤ 5 by decide) ?_
  change kGo xm kSm kDfl kFty kG 5 165 0 [(0, .ref a0), (1, .int a1)] [] mem (dEq R)
  unfold m_M_addNeedle at h
  refine wp_run 2 (pc' := 2) (lv' := [(0, .ref a0), (1, .int a1)]) (st' := [.int a1, .ref a0]) (mem' := mem) rfl ?_
  obtain ⟨fk2, hk2, h⟩ := dRc_some h
  refine wq_cR rfl (kCall_v hk2 (as := [.int a1]) (rest := []) ⟨by decide, rfl, (show 1 < 90 by decide), by decide⟩ (show 0 ≤ 8 by decide)) h (fun r hr => ca_up (by decide) (m_M_needle_ok xm N hr)) (fun v2 m2 h => ?_)
  refine wp_run 2 (pc' := 7) (lv' := [(2, .ref v2), (0, .ref a0), (1, .int a1)]) (st' := [.ref v2]) (mem' := m2) rfl ?_
  obtain ⟨fk7, hk7, h⟩ := dRc_some h
  refine wq_cI rfl (kCall_v hk7 (as := []) (rest := []) ⟨by decide, rfl, (show 0 < 90 by decide), by decide⟩ (show 0 ≤ 8 by decide)) h (fun r hr => ca_up (by decide) (m_AL_size_ok xm N hr)) (fun v7 m7 h => ?_)
  refine wp_run 3 (pc' := 13) (lv' := [(3, .int (v7 - 1)), (2, .ref v2), (0, .ref a0), (1, .int a1)]) (st' := []) (mem' := m7) rfl ?_
  refine kGo_sub (lvS_of [2, 1, 0] rfl [3, 2, 0, 1] rfl (by decide)) ?_
  exact m_M_addNeedle_13_ok xm N N _ _ _ m7 R h
/-- KnitsteadModel.digest()J -/
def m_M_digest_174 (xm : Nat → Option kE) (N : Nat) (K161 : Nat → Int32 → kM → dRes) : Nat → Nat → Int32 → Int32 → kM → dRes
  | 0, _, _, _, _ => none
  | n + 1, a0, a1, a2, mem =>
    if a2 < 5 then (
      dRc xm mem a0 15 <|
      dCI (m_M_ofPatternNow xm N a0 a1 a2 mem) fun v183 m183 =>
      dRc xm m183 a0 15 <|
      dCV (m_M_add xm N a0 v183 m183) fun m186 =>
      m_M_digest_174 xm N K161 n a0 a1 (a2 + 1) m186
    ) else (
      dRc xm mem a0 15 <|
      dCI (m_M_wouldNow xm N a0 a1 0 mem) fun v199 m199 =>
      dRc xm m199 a0 15 <|
      dCV (m_M_add xm N a0 v199 m199) fun m202 =>
      dRc xm m202 a0 15 <|
      dCI (m_M_wouldNow xm N a0 a1 1 m202) fun v209 m209 =>
      dRc xm m209 a0 15 <|
      dCV (m_M_add xm N a0 v209 m209) fun m212 =>
      K161 a0 (a1 + 1) m212
    )
theorem m_M_digest_174_ok (xm : Nat → Option kE) (N : Nat) (K161 : Nat → Int32 → kM → dRes) (hK161 : ∀ (a0 : Nat) (a1 : Int32) (mem : kM) (R : kO × kM), K161 a0 a1 mem = some R → kGo xm kSm kDfl kFty kG 6 166 161 [(0, .ref a0), (1, .int a1)] [] mem (dEq R)) : ∀ (n : Nat) (a0 : Nat) (a1 : Int32) (a2 : Int32) (mem : kM) (R : kO × kM), m_M_digest_174 xm N K161 n a0 a1 a2 mem = some R → kGo xm kSm kDfl kFty kG 6 166 174 [(0, .ref a0), (1, .int a1), (2, .int a2)] [] mem (dEq R) := by
  intro n
  induction n with
  | zero => intro a0 a1 a2 mem R h; cases h
  | succ n ih =>
    intro a0 a1 a2 mem R h
    rw [m_M_digest_174] at h
    refine wp_run 2 (pc' := 176) (lv' := [(0, .ref a0), (1, .int a1), (2, .int a2)]) (st' := [.int 5, .int a2]) (mem' := mem) rfl ?_
    refine wq_ge2 rfl h (fun h => ?_) (fun h => ?_)
    · refine wp_run 4 (pc' := 183) (lv' := [(0, .ref a0), (1, .int a1), (2, .int a2)]) (st' := [.int a2, .int a1, .ref a0, .ref a0]) (mem' := mem) rfl ?_
      obtain ⟨fk183, hk183, h⟩ := dRc_some h
      refine wq_cI rfl (kCall_v hk183 (as := [.int a1, .int a2]) (rest := [.ref a0]) ⟨by decide, rfl, (show 2 < 90 by decide), by decide⟩ (show 1 ≤ 8 by decide)) h (fun r hr => ca_up (by decide) (m_M_ofPatternNow_ok xm N hr)) (fun v183 m183 h => ?_)
      obtain ⟨fk186, hk186, h⟩ := dRc_some h
      refine wq_cV rfl (kCall_v hk186 (as := [.int v183]) (rest := []) ⟨by decide, rfl, (show 1 < 90 by decide), by decide⟩ (show 0 ≤ 8 by decide)) h (fun r hr => ca_up (by decide) (m_M_add_ok xm N hr)) (fun m186 h => ?_)
      refine wp_run 2 (pc' := 174) (lv' := [(2, .int (a2 + 1)), (0, .ref a0), (1, .int a1)]) (st' := []) (mem' := m186) rfl ?_
      refine kGo_sub (lvS_of [1, 2, 0] rfl [2, 0, 1] rfl (by decide)) ?_
      exact ih _ _ _ m186 R h
    · refine wp_run 4 (pc' := 199) (lv' := [(0, .ref a0), (1, .int a1), (2, .int a2)]) (st' := [.int 0, .int a1, .ref a0, .ref a0]) (mem' := mem) rfl ?_
      obtain ⟨fk199, hk199, h⟩ := dRc_some h
      refine wq_cI rfl (kCall_v hk199 (as := [.int a1, .int 0]) (rest := [.ref a0]) ⟨by decide, rfl, (show 2 < 90 by decide), by decide⟩ (show 1 ≤ 8 by decide)) h (fun r hr => ca_up (by decide) (m_M_wouldNow_ok xm N hr)) (fun v199 m199 h => ?_)
      obtain ⟨fk202, hk202, h⟩ := dRc_some h
      refine wq_cV rfl (kCall_v hk202 (as := [.int v199]) (rest := []) ⟨by decide, rfl, (show 1 < 90 by decide), by decide⟩ (show 0 ≤ 8 by decide)) h (fun r hr => ca_up (by decide) (m_M_add_ok xm N hr)) (fun m202 h => ?_)
      refine wp_run 4 (pc' := 209) (lv' := [(0, .ref a0), (1, .int a1), (2, .int a2)]) (st' := [.int 1, .int a1, .ref a0, .ref a0]) (mem' := m202) rfl ?_
      obtain ⟨fk209, hk209, h⟩ := dRc_some h
      refine wq_cI rfl (kCall_v hk209 (as := [.int a1, .int 1]) (rest := [.ref a0]) ⟨by decide, rfl, (show 2 < 90 by decide), by decide⟩ (show 1 ≤ 8 by decide)) h (fun r hr => ca_up (by decide) (m_M_wouldNow_ok xm N hr)) (fun v209 m209 h => ?_)
      obtain ⟨fk212, hk212, h⟩ := dRc_some h
      refine wq_cV rfl (kCall_v hk212 (as := [.int v209]) (rest := []) ⟨by decide, rfl, (show 1 < 90 by decide), by decide⟩ (show 0 ≤ 8 by decide)) h (fun r hr => ca_up (by decide) (m_M_add_ok xm N hr)) (fun m212 h => ?_)
      refine wp_run 2 (pc' := 161) (lv' := [(1, .int (a1 + 1)), (0, .ref a0), (2, .int a2)]) (st' := []) (mem' := m212) rfl ?_
      refine kGo_sub (lvS_of [1, 0] rfl [1, 0, 2] rfl (by decide)) ?_
      exact hK161 _ _ m212 R h
def m_M_digest_161 (xm : Nat → Option kE) (N : Nat) : Nat → Nat → Int32 → kM → dRes
  | 0, _, _, _ => none
  | n + 1, a0, a1, mem =>
    dGR xm mem a0 15 3 fun v163 =>
    dRc xm mem v163 4 <|
    dCI (m_AL_size xm N v163 mem) fun v166 m166 =>
    if a1 < v166 then (
      m_M_digest_174 xm N (fun a0 a1 mem => m_M_digest_161 xm N n a0 a1 mem) N a0 a1 0 m166
    ) else (
      dRc xm m166 a0 15 <|
      dCI (m_M_bestNow xm N a0 m166) fun v223 m223 =>
      dRc xm m223 a0 15 <|
      dCV (m_M_add xm N a0 v223 m223) fun m226 =>
      dGJ xm m226 a0 15 8 fun v230 =>
      some (.inl (some (.long v230)), m226)
    )
theorem m_M_digest_161_ok (xm : Nat → Option kE) (N : Nat) : ∀ (n : Nat) (a0 : Nat) (a1 : Int32) (mem : kM) (R : kO × kM), m_M_digest_161 xm N n a0 a1 mem = some R → kGo xm kSm kDfl kFty kG 6 166 161 [(0, .ref a0), (1, .int a1)] [] mem (dEq R) := by
  intro n
  induction n with
  | zero => intro a0 a1 mem R h; cases h
  | succ n ih =>
    intro a0 a1 mem R h
    rw [m_M_digest_161] at h
    refine wp_run 2 (pc' := 163) (lv' := [(0, .ref a0), (1, .int a1)]) (st' := [.ref a0, .int a1]) (mem' := mem) rfl ?_
    refine wq_gR rfl h (fun v163 h => ?_)
    obtain ⟨fk166, hk166, h⟩ := dRc_some h
    refine wq_cI rfl (kCall_v hk166 (as := []) (rest := [.int a1]) ⟨by decide, rfl, (show 0 < 90 by decide), by decide⟩ (show 1 ≤ 8 by decide)) h (fun r hr => ca_up (by decide) (m_AL_size_ok xm N hr)) (fun v166 m166 h => ?_)
    refine wq_ge2 rfl h (fun h => ?_) (fun h => ?_)
    · refine wp_run 2 (pc' := 174) (lv' := [(2, .int 0), (0, .ref a0), (1, .int a1)]) (st' := []) (mem' := m166) rfl ?_
      refine kGo_sub (lvS_of [1, 2, 0] rfl [2, 0, 1] rfl (by decide)) ?_
      exact m_M_digest_174_ok xm N _ ih N _ _ _ m166 R h
    · refine wp_run 2 (pc' := 223) (lv' := [(0, .ref a0), (1, .int a1)]) (st' := [.ref a0, .ref a0]) (mem' := m166) rfl ?_
      obtain ⟨fk223, hk223, h⟩ := dRc_some h
      refine wq_cI rfl (kCall_v hk223 (as := []) (rest := [.ref a0]) ⟨by decide, rfl, (show 0 < 90 by decide), by decide⟩ (show 1 ≤ 8 by decide)) h (fun r hr => ca_up (by decide) (m_M_bestNow_ok xm N hr)) (fun v223 m223 h => ?_)
      obtain ⟨fk226, hk226, h⟩ := dRc_some h
      refine wq_cV rfl (kCall_v hk226 (as := [.int v223]) (rest := []) ⟨by decide, rfl, (show 1 < 90 by decide), by decide⟩ (show 0 ≤ 8 by decide)) h (fun r hr => ca_up (by decide) (m_M_add_ok xm N hr)) (fun m226 h => ?_)
      refine wp_run 1 (pc' := 230) (lv' := [(0, .ref a0), (1, .int a1)]) (st' := [.ref a0]) (mem' := m226) rfl ?_
      refine wq_gJ rfl h (fun v230 h => ?_)
      exact wq_end rfl rfl h
def m_M_digest_131 (xm : Nat → Option kE) (N : Nat) (K103 : Nat → Nat → kM → dRes) : Nat → Nat → Nat → Nat → Int32 → Int32 → kM → dRes
  | 0, _, _, _, _, _, _ => none
  | n + 1, a0, a1, a3, a4, a5, mem =>
    if a5 < a4 then (
      dIL xm 0 mem a3 a5 fun v141 =>
      dRc xm mem a0 15 <|
      dCV (m_M_add xm N a0 v141 mem) fun m147 =>
      m_M_digest_131 xm N K103 n a0 a1 a3 a4 (a5 + 1) m147
    ) else (
      K103 a0 a1 mem
    )
theorem m_M_digest_131_ok (xm : Nat → Option kE) (N : Nat) (K103 : Nat → Nat → kM → dRes) (hK103 : ∀ (a0 : Nat) (a1 : Nat) (mem : kM) (R : kO × kM), K103 a0 a1 mem = some R → kGo xm kSm kDfl kFty kG 6 166 103 [(0, .ref a0), (1, .ref a1)] [] mem (dEq R)) : ∀ (n : Nat) (a0 : Nat) (a1 : Nat) (a3 : Nat) (a4 : Int32) (a5 : Int32) (mem : kM) (R : kO × kM), m_M_digest_131 xm N K103 n a0 a1 a3 a4 a5 mem = some R → kGo xm kSm kDfl kFty kG 6 166 131 [(0, .ref a0), (1, .ref a1), (3, .ref a3), (4, .int a4), (5, .int a5)] [] mem (dEq R) := by
  intro n
  induction n with
  | zero => intro a0 a1 a3 a4 a5 mem R h; cases h
  | succ n ih =>
    intro a0 a1 a3 a4 a5 mem R h
    rw [m_M_digest_131] at h
    refine wp_run 2 (pc' := 135) (lv' := [(0, .ref a0), (1, .ref a1), (3, .ref a3), (4, .int a4), (5, .int a5)]) (st' := [.int a4, .int a5]) (mem' := mem) rfl ?_
    refine wq_ge2 rfl h (fun h => ?_) (fun h => ?_)
    · refine wp_run 2 (pc' := 141) (lv' := [(0, .ref a0), (1, .ref a1), (3, .ref a3), (4, .int a4), (5, .int a5)]) (st' := [.int a5, .ref a3]) (mem' := mem) rfl ?_
      refine wq_iL rfl h (fun v141 h => ?_)
      refine wp_run 3 (pc' := 147) (lv' := [(6, .int v141), (0, .ref a0), (1, .ref a1), (3, .ref a3), (4, .int a4), (5, .int a5)]) (st' := [.int v141, .ref a0]) (mem' := mem) rfl ?_
      obtain ⟨fk147, hk147, h⟩ := dRc_some h
      refine wq_cV rfl (kCall_v hk147 (as := [.int v141]) (rest := []) ⟨by decide, rfl, (show 1 < 90 by decide), by decide⟩ (show 0 ≤ 8 by decide)) h (fun r hr => ca_up (by decide) (m_M_add_ok xm N hr)) (fun m147 h => ?_)
      refine wp_run 2 (pc' := 131) (lv' := [(5, .int (a5 + 1)), (6, .int v141), (0, .ref a0), (1, .ref a1), (3, .ref a3), (4, .int a4)]) (st' := []) (mem' := m147) rfl ?_
      refine kGo_sub (lvS_of [2, 3, 4, 5, 0] rfl [5, 6, 0, 1, 3, 4] rfl (by decide)) ?_
      exact ih _ _ _ _ _ m147 R h
    · refine wp_run 1 (pc' := 103) (lv' := [(0, .ref a0), (1, .ref a1), (3, .ref a3), (4, .int a4), (5, .int a5)]) (st' := []) (mem' := mem) rfl ?_
      refine kGo_sub (lvS_of [0, 1] rfl [0, 1, 3, 4, 5] rfl (by decide)) ?_
      exact hK103 _ _ mem R h
def m_M_digest_103 (xm : Nat → Option kE) (N : Nat) : Nat → Nat → Nat → kM → dRes
  | 0, _, _, _ => none
  | n + 1, a0, a1, mem =>
    dRc xm mem a1 3 <|
    dCI (m_Itr_hasNext xm N a1 mem) fun v104 m104 =>
    if v104 = 0 then (
      m_M_digest_161 xm N N a0 0 m104
    ) else (
      dRc xm m104 a1 3 <|
      dCR (m_Itr_next xm N a1 m104) fun v113 m113 =>
      dCC xm m113 v113 1 0 <|
      dLen xm m113 v113 fun v125 =>
      m_M_digest_131 xm N (fun a0 a1 mem => m_M_digest_103 xm N n a0 a1 mem) N a0 a1 v113 v125 0 m113
    )
theorem m_M_digest_103_ok (xm : Nat → Option kE) (N : Nat) : ∀ (n : Nat) (a0 : Nat) (a1 : Nat) (mem : kM) (R : kO × kM), m_M_digest_103 xm N n a0 a1 mem = some R → kGo xm kSm kDfl kFty kG 6 166 103 [(0, .ref a0), (1, .ref a1)] [] mem (dEq R) := by
  intro n
  induction n with
  | zero => intro a0 a1 mem R h; cases h
  | succ n ih =>
    intro a0 a1 mem R h
    rw [m_M_digest_103] at h
    refine wp_run 1 (pc' := 104) (lv' := [(0, .ref a0), (1, .ref a1)]) (st' := [.ref a1]) (mem' := mem) rfl ?_
    obtain ⟨fk104, hk104, h⟩ := dRc_some h
    refine wq_cI rfl (kCall_v hk104 (as := []) (rest := []) ⟨by decide, rfl, (show 0 < 90 by decide), by decide⟩ (show 0 ≤ 8 by decide)) h (fun r hr => ca_up (by decide) (m_Itr_hasNext_ok xm N hr)) (fun v104 m104 h => ?_)
    refine wq_eq rfl h (fun h => ?_) (fun h => ?_)
    · refine wp_run 2 (pc' := 161) (lv' := [(1, .int 0), (0, .ref a0)]) (st' := []) (mem' := m104) rfl ?_
      refine kGo_sub (lvS_of [1, 0] rfl [1, 0] rfl (by decide)) ?_
      exact m_M_digest_161_ok xm N N _ _ m104 R h
    · refine wp_run 1 (pc' := 113) (lv' := [(0, .ref a0), (1, .ref a1)]) (st' := [.ref a1]) (mem' := m104) rfl ?_
      obtain ⟨fk113, hk113, h⟩ := dRc_some h
      refine wq_cR rfl (kCall_v hk113 (as := []) (rest := []) ⟨by decide, rfl, (show 0 < 90 by decide), by decide⟩ (show 0 ≤ 8 by decide)) h (fun r hr => ca_up (by decide) (m_Itr_next_ok xm N hr)) (fun v113 m113 h => ?_)
      refine wq_cc rfl h (fun h => ?_)
      refine wp_run 4 (pc' := 125) (lv' := [(3, .ref v113), (2, .ref v113), (0, .ref a0), (1, .ref a1)]) (st' := [.ref v113]) (mem' := m113) rfl ?_
      refine wq_len rfl h (fun v125 h => ?_)
      refine wp_run 3 (pc' := 131) (lv' := [(5, .int 0), (4, .int v125), (3, .ref v113), (2, .ref v113), (0, .ref a0), (1, .ref a1)]) (st' := []) (mem' := m113) rfl ?_
      refine kGo_sub (lvS_of [4, 5, 2, 1, 0] rfl [5, 4, 3, 2, 0, 1] rfl (by decide)) ?_
      exact m_M_digest_131_ok xm N _ ih N _ _ _ _ _ m113 R h
def m_M_digest_37 (xm : Nat → Option kE) (N : Nat) : Nat → Nat → Int32 → kM → dRes
  | 0, _, _, _ => none
  | n + 1, a0, a1, mem =>
    dGI xm mem a0 15 6 fun v39 =>
    if a1 < v39 then (
      dGR xm mem a0 15 5 fun v47 =>
      dGR xm mem v47 14 3 fun v50 =>
      dIL xm 0 mem v50 a1 fun v54 =>
      dRc xm mem a0 15 <|
      dCV (m_M_add xm N a0 v54 mem) fun m55 =>
      m_M_digest_37 xm N n a0 (a1 + 1) m55
    ) else (
      dRc xm mem a0 15 <|
      dCV (m_M_addNeedle xm N a0 0 mem) fun m66 =>
      dRc xm m66 a0 15 <|
      dCV (m_M_addNeedle xm N a0 1 m66) fun m71 =>
      dRc xm m71 a0 15 <|
      dCI (m_M_widthNow xm N a0 0 m71) fun v77 m77 =>
      dRc xm m77 a0 15 <|
      dCV (m_M_add xm N a0 v77 m77) fun m80 =>
      dRc xm m80 a0 15 <|
      dCI (m_M_widthNow xm N a0 1 m80) fun v86 m86 =>
      dRc xm m86 a0 15 <|
      dCV (m_M_add xm N a0 v86 m86) fun m89 =>
      dGR xm m89 a0 15 5 fun v93 =>
      dGR xm m89 v93 14 2 fun v96 =>
      dRc xm m89 v96 4 <|
      dCR (m_AL_iterator xm N v96 m89) fun v99 m99 =>
      m_M_digest_103 xm N N a0 v99 m99
    )
theorem m_M_digest_37_ok (xm : Nat → Option kE) (N : Nat) : ∀ (n : Nat) (a0 : Nat) (a1 : Int32) (mem : kM) (R : kO × kM), m_M_digest_37 xm N n a0 a1 mem = some R → kGo xm kSm kDfl kFty kG 6 166 37 [(0, .ref a0), (1, .int a1)] [] mem (dEq R) := by
  intro n
  induction n with
  | zero => intro a0 a1 mem R h; cases h
  | succ n ih =>
    intro a0 a1 mem R h
    rw [m_M_digest_37] at h
    refine wp_run 2 (pc' := 39) (lv' := [(0, .ref a0), (1, .int a1)]) (st' := [.ref a0, .int a1]) (mem' := mem) rfl ?_
    refine wq_gI rfl h (fun v39 h => ?_)
    refine wq_ge2 rfl h (fun h => ?_) (fun h => ?_)
    · refine wp_run 2 (pc' := 47) (lv' := [(0, .ref a0), (1, .int a1)]) (st' := [.ref a0, .ref a0]) (mem' := mem) rfl ?_
      refine wq_gR rfl h (fun v47 h => ?_)
      refine wq_gR rfl h (fun v50 h => ?_)
      refine wp_run 1 (pc' := 54) (lv' := [(0, .ref a0), (1, .int a1)]) (st' := [.int a1, .ref v50, .ref a0]) (mem' := mem) rfl ?_
      refine wq_iL rfl h (fun v54 h => ?_)
      obtain ⟨fk55, hk55, h⟩ := dRc_some h
      refine wq_cV rfl (kCall_v hk55 (as := [.int v54]) (rest := []) ⟨by decide, rfl, (show 1 < 90 by decide), by decide⟩ (show 0 ≤ 8 by decide)) h (fun r hr => ca_up (by decide) (m_M_add_ok xm N hr)) (fun m55 h => ?_)
      refine wp_run 2 (pc' := 37) (lv' := [(1, .int (a1 + 1)), (0, .ref a0)]) (st' := []) (mem' := m55) rfl ?_
      refine kGo_sub (lvS_of [1, 0] rfl [1, 0] rfl (by decide)) ?_
      exact ih _ _ m55 R h
    · refine wp_run 2 (pc' := 66) (lv' := [(0, .ref a0), (1, .int a1)]) (st' := [.int 0, .ref a0]) (mem' := mem) rfl ?_
      obtain ⟨fk66, hk66, h⟩ := dRc_some h
      refine wq_cV rfl (kCall_v hk66 (as := [.int 0]) (rest := []) ⟨by decide, rfl, (show 1 < 90 by decide), by decide⟩ (show 0 ≤ 8 by decide)) h (fun r hr => ca_up (by decide) (m_M_addNeedle_ok xm N hr)) (fun m66 h => ?_)
      refine wp_run 2 (pc' := 71) (lv' := [(0, .ref a0), (1, .int a1)]) (st' := [.int 1, .ref a0]) (mem' := m66) rfl ?_
      obtain ⟨fk71, hk71, h⟩ := dRc_some h
      refine wq_cV rfl (kCall_v hk71 (as := [.int 1]) (rest := []) ⟨by decide, rfl, (show 1 < 90 by decide), by decide⟩ (show 0 ≤ 8 by decide)) h (fun r hr => ca_up (by decide) (m_M_addNeedle_ok xm N hr)) (fun m71 h => ?_)
      refine wp_run 3 (pc' := 77) (lv' := [(0, .ref a0), (1, .int a1)]) (st' := [.int 0, .ref a0, .ref a0]) (mem' := m71) rfl ?_
      obtain ⟨fk77, hk77, h⟩ := dRc_some h
      refine wq_cI rfl (kCall_v hk77 (as := [.int 0]) (rest := [.ref a0]) ⟨by decide, rfl, (show 1 < 90 by decide), by decide⟩ (show 1 ≤ 8 by decide)) h (fun r hr => ca_up (by decide) (m_M_widthNow_ok xm N hr)) (fun v77 m77 h => ?_)
      obtain ⟨fk80, hk80, h⟩ := dRc_some h
      refine wq_cV rfl (kCall_v hk80 (as := [.int v77]) (rest := []) ⟨by decide, rfl, (show 1 < 90 by decide), by decide⟩ (show 0 ≤ 8 by decide)) h (fun r hr => ca_up (by decide) (m_M_add_ok xm N hr)) (fun m80 h => ?_)
      refine wp_run 3 (pc' := 86) (lv' := [(0, .ref a0), (1, .int a1)]) (st' := [.int 1, .ref a0, .ref a0]) (mem' := m80) rfl ?_
      obtain ⟨fk86, hk86, h⟩ := dRc_some h
      refine wq_cI rfl (kCall_v hk86 (as := [.int 1]) (rest := [.ref a0]) ⟨by decide, rfl, (show 1 < 90 by decide), by decide⟩ (show 1 ≤ 8 by decide)) h (fun r hr => ca_up (by decide) (m_M_widthNow_ok xm N hr)) (fun v86 m86 h => ?_)
      obtain ⟨fk89, hk89, h⟩ := dRc_some h
      refine wq_cV rfl (kCall_v hk89 (as := [.int v86]) (rest := []) ⟨by decide, rfl, (show 1 < 90 by decide), by decide⟩ (show 0 ≤ 8 by decide)) h (fun r hr => ca_up (by decide) (m_M_add_ok xm N hr)) (fun m89 h => ?_)
      refine wp_run 1 (pc' := 93) (lv' := [(0, .ref a0), (1, .int a1)]) (st' := [.ref a0]) (mem' := m89) rfl ?_
      refine wq_gR rfl h (fun v93 h => ?_)
      refine wq_gR rfl h (fun v96 h => ?_)
      obtain ⟨fk99, hk99, h⟩ := dRc_some h
      refine wq_cR rfl (kCall_v hk99 (as := []) (rest := []) ⟨by decide, rfl, (show 0 < 90 by decide), by decide⟩ (show 0 ≤ 8 by decide)) h (fun r hr => ca_up (by decide) (m_AL_iterator_ok xm N hr)) (fun v99 m99 h => ?_)
      refine wp_run 1 (pc' := 103) (lv' := [(1, .ref v99), (0, .ref a0)]) (st' := []) (mem' := m99) rfl ?_
      refine kGo_sub (lvS_of [1, 0] rfl [1, 0] rfl (by decide)) ?_
      exact m_M_digest_103_ok xm N N _ _ m99 R h
def m_M_digest_14 (xm : Nat → Option kE) (N : Nat) : Nat → Nat → Int32 → kM → dRes
  | 0, _, _, _ => none
  | n + 1, a0, a1, mem =>
    if a1 < 16 then (
      dRc xm mem a0 15 <|
      dCI (m_M_manyNow xm N a0 a1 mem) fun v23 m23 =>
      dRc xm m23 a0 15 <|
      dCV (m_M_add xm N a0 v23 m23) fun m26 =>
      m_M_digest_14 xm N n a0 (a1 + 1) m26
    ) else (
      m_M_digest_37 xm N N a0 0 mem
    )
theorem m_M_digest_14_ok (xm : Nat → Option kE) (N : Nat) : ∀ (n : Nat) (a0 : Nat) (a1 : Int32) (mem : kM) (R : kO × kM), m_M_digest_14 xm N n a0 a1 mem = some R → kGo xm kSm kDfl kFty kG 6 166 14 [(0, .ref a0), (1, .int a1)] [] mem (dEq R) := by
  intro n
  induction n with
  | zero => intro a0 a1 mem R h; cases h
  | succ n ih =>
    intro a0 a1 mem R h
    rw [m_M_digest_14] at h
    refine wp_run 2 (pc' := 17) (lv' := [(0, .ref a0), (1, .int a1)]) (st' := [.int 16, .int a1]) (mem' := mem) rfl ?_
    refine wq_ge2 rfl h (fun h => ?_) (fun h => ?_)
    · refine wp_run 3 (pc' := 23) (lv' := [(0, .ref a0), (1, .int a1)]) (st' := [.int a1, .ref a0, .ref a0]) (mem' := mem) rfl ?_
      obtain ⟨fk23, hk23, h⟩ := dRc_some h
      refine wq_cI rfl (kCall_v hk23 (as := [.int a1]) (rest := [.ref a0]) ⟨by decide, rfl, (show 1 < 90 by decide), by decide⟩ (show 1 ≤ 8 by decide)) h (fun r hr => ca_up (by decide) (m_M_manyNow_ok xm N hr)) (fun v23 m23 h => ?_)
      obtain ⟨fk26, hk26, h⟩ := dRc_some h
      refine wq_cV rfl (kCall_v hk26 (as := [.int v23]) (rest := []) ⟨by decide, rfl, (show 1 < 90 by decide), by decide⟩ (show 0 ≤ 8 by decide)) h (fun r hr => ca_up (by decide) (m_M_add_ok xm N hr)) (fun m26 h => ?_)
      refine wp_run 2 (pc' := 14) (lv' := [(1, .int (a1 + 1)), (0, .ref a0)]) (st' := []) (mem' := m26) rfl ?_
      refine kGo_sub (lvS_of [1, 0] rfl [1, 0] rfl (by decide)) ?_
      exact ih _ _ m26 R h
    · refine wp_run 2 (pc' := 37) (lv' := [(1, .int 0), (0, .ref a0)]) (st' := []) (mem' := mem) rfl ?_
      refine kGo_sub (lvS_of [1, 0] rfl [1, 0] rfl (by decide)) ?_
      exact m_M_digest_37_ok xm N N _ _ mem R h
def m_M_digest (xm : Nat → Option kE) (N : Nat) (a0 : Nat) (mem : kM) : dRes :=
  dP xm mem a0 15 0 (.int 0) fun m2 =>
  dP xm m2 a0 15 8 (.long 58309) fun m9 =>
  m_M_digest_14 xm N N a0 0 m9
theorem m_M_digest_ok (xm : Nat → Option kE) (N : Nat) {a0 : Nat} {mem : kM} {R : kO × kM} (h : m_M_digest xm N a0 mem = some R) : kCa xm kSm kDfl kFty kG 7 166 [.ref a0] mem (dEq R) := by
  refine wq_ca (show 1 ≤ 7 by decide) ?_
  change kGo xm kSm kDfl kFty kG 6 166 0 [(0, .ref a0)] [] mem (dEq R)
  unfold m_M_digest at h
  refine wp_run 2 (pc' := 2) (lv' := [(0, .ref a0)]) (st' := [.int 0, .ref a0]) (mem' := mem) rfl ?_
  refine wq_p rfl rfl h (fun m2 h => ?_)
  refine wp_run 2 (pc' := 9) (lv' := [(0, .ref a0)]) (st' := [.long 58309, .ref a0]) (mem' := m2) rfl ?_
  refine wq_p rfl rfl h (fun m9 h => ?_)
  refine wp_run 2 (pc' := 14) (lv' := [(1, .int 0), (0, .ref a0)]) (st' := []) (mem' := m9) rfl ?_
  refine kGo_sub (lvS_of [1, 0] rfl [1, 0] rfl (by decide)) ?_
  exact m_M_digest_14_ok xm N N _ _ m9 R h
/-- Knitstead$Balls.add(I)I -/
def m_Balls_add (xm : Nat → Option kE) (N : Nat) (a0 : Nat) (a1 : Int32) (mem : kM) : dRes :=
  dGI xm mem a0 5 1 fun v1 =>
  if v1 < 0 then (
    some (.inl (some (.int (-1))), mem)
  ) else (
    dGR xm mem a0 5 0 fun v11 =>
    dLen xm mem v11 fun v14 =>
    if v1 < v14 then (
      dGR xm mem a0 5 0 fun v21 =>
      dIS xm mem v21 v1 a1 fun m26 =>
      dGI xm m26 a0 5 1 fun v29 =>
      dP xm m26 a0 5 1 (.int (v29 + 1)) fun m34 =>
      some (.inl (some (.int v1)), m34)
    ) else (
      some (.inl (some (.int (-1))), mem)
    )
  )
theorem m_Balls_add_ok (xm : Nat → Option kE) (N : Nat) {a0 : Nat} {a1 : Int32} {mem : kM} {R : kO × kM} (h : m_Balls_add xm N a0 a1 mem = some R) : kCa xm kSm kDfl kFty kG 1 3 [.ref a0, .int a1] mem (dEq R) := by
  refine wq_ca (show 2 ≤ 3 by decide) ?_
  change kGo xm kSm kDfl kFty kG 0 3 0 [(0, .ref a0), (1, .int a1)] [] mem (dEq R)
  unfold m_Balls_add at h
  refine wp_run 1 (pc' := 1) (lv' := [(0, .ref a0), (1, .int a1)]) (st' := [.ref a0]) (mem' := mem) rfl ?_
  refine wq_gI rfl h (fun v1 h => ?_)
  refine wp_run 2 (pc' := 6) (lv' := [(2, .int v1), (0, .ref a0), (1, .int a1)]) (st' := [.int v1]) (mem' := mem) rfl ?_
  refine wq_lt rfl h (fun h => ?_) (fun h => ?_)
  · refine wp_run 1 (pc' := 19) (lv' := [(2, .int v1), (0, .ref a0), (1, .int a1)]) (st' := [.int (-1)]) (mem' := mem) rfl ?_
    exact wq_ret rfl rfl h
  · refine wp_run 2 (pc' := 11) (lv' := [(2, .int v1), (0, .ref a0), (1, .int a1)]) (st' := [.ref a0, .int v1]) (mem' := mem) rfl ?_
    refine wq_gR rfl h (fun v11 h => ?_)
    refine wq_len rfl h (fun v14 h => ?_)
    refine wq_lt2 rfl h (fun h => ?_) (fun h => ?_)
    · refine wp_run 1 (pc' := 21) (lv' := [(2, .int v1), (0, .ref a0), (1, .int a1)]) (st' := [.ref a0]) (mem' := mem) rfl ?_
      refine wq_gR rfl h (fun v21 h => ?_)
      refine wp_run 2 (pc' := 26) (lv' := [(2, .int v1), (0, .ref a0), (1, .int a1)]) (st' := [.int a1, .int v1, .ref v21]) (mem' := mem) rfl ?_
      refine wq_iS rfl h (fun m26 h => ?_)
      refine wp_run 2 (pc' := 29) (lv' := [(2, .int v1), (0, .ref a0), (1, .int a1)]) (st' := [.ref a0, .ref a0]) (mem' := m26) rfl ?_
      refine wq_gI rfl h (fun v29 h => ?_)
      refine wp_run 2 (pc' := 34) (lv' := [(2, .int v1), (0, .ref a0), (1, .int a1)]) (st' := [.int (v29 + 1), .ref a0]) (mem' := m26) rfl ?_
      refine wq_p rfl rfl h (fun m34 h => ?_)
      refine wp_run 1 (pc' := 38) (lv' := [(2, .int v1), (0, .ref a0), (1, .int a1)]) (st' := [.int v1]) (mem' := m34) rfl ?_
      exact wq_ret rfl rfl h
    · refine wp_run 1 (pc' := 19) (lv' := [(2, .int v1), (0, .ref a0), (1, .int a1)]) (st' := [.int (-1)]) (mem' := mem) rfl ?_
      exact wq_ret rfl rfl h
/-- Knitstead.buy(I)I -/
def m_K_buy (xm : Nat → Option kE) (N : Nat) (a0 : Nat) (a1 : Int32) (mem : kM) : dRes :=
  if a1 < 1 then (
    some (.inr 0, mem ++ [.inl (1000, [.null, .null, .null, .null, .null, .null])])
  ) else (
    if 9999 < a1 then (
      some (.inr 0, mem ++ [.inl (1000, [.null, .null, .null, .null, .null, .null])])
    ) else (
      dGR xm mem a0 11 0 fun v23 =>
      dGI xm mem v23 5 1 fun v26 =>
      if v26 < 4 then (
        dGR xm mem a0 11 0 fun v44 =>
        dRc xm mem v44 5 <|
        dCI (m_Balls_add xm N v44 a1 mem) fun v48 m48 =>
        some (.inl (some (.int v48)), m48)
      ) else (
        some (.inr 1, mem ++ [.inl (1000, [.null, .null, .null, .null, .null, .null])])
      )
    )
  )
theorem m_K_buy_ok (xm : Nat → Option kE) (N : Nat) {a0 : Nat} {a1 : Int32} {mem : kM} {R : kO × kM} (h : m_K_buy xm N a0 a1 mem = some R) : kCa xm kSm kDfl kFty kG 2 40 [.ref a0, .int a1] mem (dEq R) := by
  refine wq_ca (show 2 ≤ 2 by decide) ?_
  change kGo xm kSm kDfl kFty kG 1 40 0 [(0, .ref a0), (1, .int a1)] [] mem (dEq R)
  unfold m_K_buy at h
  refine wp_run 2 (pc' := 2) (lv' := [(0, .ref a0), (1, .int a1)]) (st' := [.int 1, .int a1]) (mem' := mem) rfl ?_
  refine wq_lt2 rfl h (fun h => ?_) (fun h => ?_)
  · exact wq_end rfl rfl h
  · refine wp_run 2 (pc' := 9) (lv' := [(0, .ref a0), (1, .int a1)]) (st' := [.int 9999, .int a1]) (mem' := mem) rfl ?_
    refine wq_le2 rfl h (fun h => ?_) (fun h => ?_)
    · exact wq_end rfl rfl h
    · refine wp_run 1 (pc' := 23) (lv' := [(0, .ref a0), (1, .int a1)]) (st' := [.ref a0]) (mem' := mem) rfl ?_
      refine wq_gR rfl h (fun v23 h => ?_)
      refine wq_gI rfl h (fun v26 h => ?_)
      refine wp_run 1 (pc' := 30) (lv' := [(0, .ref a0), (1, .int a1)]) (st' := [.int 4, .int v26]) (mem' := mem) rfl ?_
      refine wq_lt2 rfl h (fun h => ?_) (fun h => ?_)
      · refine wp_run 1 (pc' := 44) (lv' := [(0, .ref a0), (1, .int a1)]) (st' := [.ref a0]) (mem' := mem) rfl ?_
        refine wq_gR rfl h (fun v44 h => ?_)
        refine wp_run 1 (pc' := 48) (lv' := [(0, .ref a0), (1, .int a1)]) (st' := [.int a1, .ref v44]) (mem' := mem) rfl ?_
        obtain ⟨fk48, hk48, h⟩ := dRc_some h
        refine wq_cI rfl (kCall_v hk48 (as := [.int a1]) (rest := []) ⟨by decide, rfl, (show 1 < 90 by decide), by decide⟩ (show 0 ≤ 8 by decide)) h (fun r hr => ca_up (by decide) (m_Balls_add_ok xm N hr)) (fun v48 m48 h => ?_)
        exact wq_ret rfl rfl h
      · exact wq_end rfl rfl h
/-- KnitsteadLaw.buy(LKnitstead;ILKnitsteadLaw$Out;)I -/
def m_law_buy (xm : Nat → Option kE) (N : Nat) (a0 : Nat) (a1 : Int32) (a2 : Nat) (mem : kM) : dRes :=
  dRc xm mem a0 11 <|
  dCX (m_K_buy xm N a0 a1 mem) (fun v3 m3 =>
    dP xm m3 a2 12 0 (.long (Int32.toInt64 v3)) fun m7 =>
    some (.inl (some (.int 0)), m7)
  ) (fun E m3 => match E with
    | 0 =>
      some (.inl (some (.int 1)), m3)
    | 1 =>
      some (.inl (some (.int 2)), m3)
    | _ => none)
theorem m_law_buy_ok (xm : Nat → Option kE) (N : Nat) {a0 : Nat} {a1 : Int32} {a2 : Nat} {mem : kM} {R : kO × kM} (h : m_law_buy xm N a0 a1 a2 mem = some R) : kCa xm kSm kDfl kFty kG 3 240 [.ref a0, .int a1, .ref a2] mem (dEq R) := by
  refine wq_ca (show 3 ≤ 4 by decide) ?_
  change kGo xm kSm kDfl kFty kG 2 240 0 [(0, .ref a0), (1, .int a1), (2, .ref a2)] [] mem (dEq R)
  unfold m_law_buy at h
  refine wp_run 3 (pc' := 3) (lv' := [(0, .ref a0), (1, .int a1), (2, .ref a2)]) (st' := [.int a1, .ref a0, .ref a2]) (mem' := mem) rfl ?_
  obtain ⟨fk3, hk3, h⟩ := dRc_some h
  refine wq_cX rfl (kCall_v hk3 (as := [.int a1]) (rest := [.ref a2]) ⟨by decide, rfl, (show 1 < 90 by decide), by decide⟩ (show 1 ≤ 8 by decide)) h (fun r hr => ca_up (by decide) (m_K_buy_ok xm N hr)) (fun v3 m3 h => ?_) (fun E m3 h => ?_)
  · refine wp_run 1 (pc' := 7) (lv' := [(0, .ref a0), (1, .int a1), (2, .ref a2)]) (st' := [.long (Int32.toInt64 v3), .ref a2]) (mem' := m3) rfl ?_
    refine wq_p rfl rfl h (fun m7 h => ?_)
    refine wp_run 2 (pc' := 20) (lv' := [(0, .ref a0), (1, .int a1), (2, .ref a2)]) (st' := [.int 0]) (mem' := m7) rfl ?_
    exact wq_ret rfl rfl h
  · match E, h with
    | 0, h =>
      refine ⟨14, 3, rfl, ?_⟩
      change kGo xm kSm kDfl kFty kG 2 240 14 [(0, .ref a0), (1, .int a1), (2, .ref a2)] [] m3 (dEq R)
      refine wp_run 1 (pc' := 15) (lv' := [(0, .ref a0), (1, .int a1), (2, .ref a2)]) (st' := [.int 1]) (mem' := m3) rfl ?_
      exact wq_ret rfl rfl h
    | 1, h =>
      refine ⟨17, 3, rfl, ?_⟩
      change kGo xm kSm kDfl kFty kG 2 240 17 [(0, .ref a0), (1, .int a1), (2, .ref a2)] [] m3 (dEq R)
      refine wp_run 1 (pc' := 18) (lv' := [(0, .ref a0), (1, .int a1), (2, .ref a2)]) (st' := [.int 2]) (mem' := m3) rfl ?_
      exact wq_ret rfl rfl h
    | 2, h => cases h
    | (k + 3), h => cases h
/-- Knitstead.join(I)I -/
def m_K_join (xm : Nat → Option kE) (N : Nat) (a0 : Nat) (a1 : Int32) (mem : kM) : dRes :=
  dGR xm mem a0 11 0 fun v1 =>
  dRc xm mem v1 5 <|
  dCI (m_Balls_has xm N v1 a1 mem) fun v5 m5 =>
  if v5 = 0 then (
    some (.inr 2, m5 ++ [.inl (1000, [.null, .null, .null, .null, .null, .null])])
  ) else (
    dGR xm m5 a0 11 0 fun v22 =>
    dGI xm m5 v22 5 2 fun v25 =>
    dGR xm m5 a0 11 0 fun v30 =>
    dP xm m5 v30 5 2 (.int a1) fun m34 =>
    some (.inl (some (.int v25)), m34)
  )
theorem m_K_join_ok (xm : Nat → Option kE) (N : Nat) {a0 : Nat} {a1 : Int32} {mem : kM} {R : kO × kM} (h : m_K_join xm N a0 a1 mem = some R) : kCa xm kSm kDfl kFty kG 2 41 [.ref a0, .int a1] mem (dEq R) := by
  refine wq_ca (show 2 ≤ 3 by decide) ?_
  change kGo xm kSm kDfl kFty kG 1 41 0 [(0, .ref a0), (1, .int a1)] [] mem (dEq R)
  unfold m_K_join at h
  refine wp_run 1 (pc' := 1) (lv' := [(0, .ref a0), (1, .int a1)]) (st' := [.ref a0]) (mem' := mem) rfl ?_
  refine wq_gR rfl h (fun v1 h => ?_)
  refine wp_run 1 (pc' := 5) (lv' := [(0, .ref a0), (1, .int a1)]) (st' := [.int a1, .ref v1]) (mem' := mem) rfl ?_
  obtain ⟨fk5, hk5, h⟩ := dRc_some h
  refine wq_cI rfl (kCall_v hk5 (as := [.int a1]) (rest := []) ⟨by decide, rfl, (show 1 < 90 by decide), by decide⟩ (show 0 ≤ 8 by decide)) h (fun r hr => ca_up (by decide) (m_Balls_has_ok xm N hr)) (fun v5 m5 h => ?_)
  refine wq_ne rfl h (fun h => ?_) (fun h => ?_)
  · exact wq_end rfl rfl h
  · refine wp_run 1 (pc' := 22) (lv' := [(0, .ref a0), (1, .int a1)]) (st' := [.ref a0]) (mem' := m5) rfl ?_
    refine wq_gR rfl h (fun v22 h => ?_)
    refine wq_gI rfl h (fun v25 h => ?_)
    refine wp_run 2 (pc' := 30) (lv' := [(2, .int v25), (0, .ref a0), (1, .int a1)]) (st' := [.ref a0]) (mem' := m5) rfl ?_
    refine wq_gR rfl h (fun v30 h => ?_)
    refine wp_run 1 (pc' := 34) (lv' := [(2, .int v25), (0, .ref a0), (1, .int a1)]) (st' := [.int a1, .ref v30]) (mem' := m5) rfl ?_
    refine wq_p rfl rfl h (fun m34 h => ?_)
    refine wp_run 1 (pc' := 38) (lv' := [(2, .int v25), (0, .ref a0), (1, .int a1)]) (st' := [.int v25]) (mem' := m34) rfl ?_
    exact wq_ret rfl rfl h
/-- KnitsteadLaw.join(LKnitstead;ILKnitsteadLaw$Out;)I -/
def m_law_join (xm : Nat → Option kE) (N : Nat) (a0 : Nat) (a1 : Int32) (a2 : Nat) (mem : kM) : dRes :=
  dRc xm mem a0 11 <|
  dCX (m_K_join xm N a0 a1 mem) (fun v3 m3 =>
    dP xm m3 a2 12 0 (.long (Int32.toInt64 v3)) fun m7 =>
    some (.inl (some (.int 0)), m7)
  ) (fun E m3 => match E with
    | 2 =>
      some (.inl (some (.int 1)), m3)
    | _ => none)
theorem m_law_join_ok (xm : Nat → Option kE) (N : Nat) {a0 : Nat} {a1 : Int32} {a2 : Nat} {mem : kM} {R : kO × kM} (h : m_law_join xm N a0 a1 a2 mem = some R) : kCa xm kSm kDfl kFty kG 3 241 [.ref a0, .int a1, .ref a2] mem (dEq R) := by
  refine wq_ca (show 3 ≤ 4 by decide) ?_
  change kGo xm kSm kDfl kFty kG 2 241 0 [(0, .ref a0), (1, .int a1), (2, .ref a2)] [] mem (dEq R)
  unfold m_law_join at h
  refine wp_run 3 (pc' := 3) (lv' := [(0, .ref a0), (1, .int a1), (2, .ref a2)]) (st' := [.int a1, .ref a0, .ref a2]) (mem' := mem) rfl ?_
  obtain ⟨fk3, hk3, h⟩ := dRc_some h
  refine wq_cX rfl (kCall_v hk3 (as := [.int a1]) (rest := [.ref a2]) ⟨by decide, rfl, (show 1 < 90 by decide), by decide⟩ (show 1 ≤ 8 by decide)) h (fun r hr => ca_up (by decide) (m_K_join_ok xm N hr)) (fun v3 m3 h => ?_) (fun E m3 h => ?_)
  · refine wp_run 1 (pc' := 7) (lv' := [(0, .ref a0), (1, .int a1), (2, .ref a2)]) (st' := [.long (Int32.toInt64 v3), .ref a2]) (mem' := m3) rfl ?_
    refine wq_p rfl rfl h (fun m7 h => ?_)
    refine wp_run 2 (pc' := 17) (lv' := [(0, .ref a0), (1, .int a1), (2, .ref a2)]) (st' := [.int 0]) (mem' := m7) rfl ?_
    exact wq_ret rfl rfl h
  · match E, h with
    | 2, h =>
      refine ⟨14, 3, rfl, ?_⟩
      change kGo xm kSm kDfl kFty kG 2 241 14 [(0, .ref a0), (1, .int a1), (2, .ref a2)] [] m3 (dEq R)
      refine wp_run 1 (pc' := 15) (lv' := [(0, .ref a0), (1, .int a1), (2, .ref a2)]) (st' := [.int 1]) (mem' := m3) rfl ?_
      exact wq_ret rfl rfl h
    | 0, h => cases h
    | 1, h => cases h
    | (k + 3), h => cases h
/-- Knitstead$History.isSlot(I)Z -/
def m_History_isSlot (xm : Nat → Option kE) (N : Nat) (a0 : Nat) (a1 : Int32) (mem : kM) : dRes :=
  if a1 < 0 then (
    some (.inl (some (.int 0)), mem)
  ) else (
    dGR xm mem a0 6 0 fun v6 =>
    dLen xm mem v6 fun v9 =>
    if a1 < v9 then (
      dGR xm mem a0 6 1 fun v15 =>
      dLen xm mem v15 fun v18 =>
      if a1 < v18 then (
        dGR xm mem a0 6 2 fun v24 =>
        dLen xm mem v24 fun v27 =>
        if a1 < v27 then (
          some (.inl (some (.int 1)), mem)
        ) else (
          some (.inl (some (.int 0)), mem)
        )
      ) else (
        some (.inl (some (.int 0)), mem)
      )
    ) else (
      some (.inl (some (.int 0)), mem)
    )
  )
theorem m_History_isSlot_ok (xm : Nat → Option kE) (N : Nat) {a0 : Nat} {a1 : Int32} {mem : kM} {R : kO × kM} (h : m_History_isSlot xm N a0 a1 mem = some R) : kCa xm kSm kDfl kFty kG 1 10 [.ref a0, .int a1] mem (dEq R) := by
  refine wq_ca (show 2 ≤ 2 by decide) ?_
  change kGo xm kSm kDfl kFty kG 0 10 0 [(0, .ref a0), (1, .int a1)] [] mem (dEq R)
  unfold m_History_isSlot at h
  refine wp_run 1 (pc' := 1) (lv' := [(0, .ref a0), (1, .int a1)]) (st' := [.int a1]) (mem' := mem) rfl ?_
  refine wq_lt rfl h (fun h => ?_) (fun h => ?_)
  · refine wp_run 1 (pc' := 36) (lv' := [(0, .ref a0), (1, .int a1)]) (st' := [.int 0]) (mem' := mem) rfl ?_
    exact wq_ret rfl rfl h
  · refine wp_run 2 (pc' := 6) (lv' := [(0, .ref a0), (1, .int a1)]) (st' := [.ref a0, .int a1]) (mem' := mem) rfl ?_
    refine wq_gR rfl h (fun v6 h => ?_)
    refine wq_len rfl h (fun v9 h => ?_)
    refine wq_ge2 rfl h (fun h => ?_) (fun h => ?_)
    · refine wp_run 2 (pc' := 15) (lv' := [(0, .ref a0), (1, .int a1)]) (st' := [.ref a0, .int a1]) (mem' := mem) rfl ?_
      refine wq_gR rfl h (fun v15 h => ?_)
      refine wq_len rfl h (fun v18 h => ?_)
      refine wq_ge2 rfl h (fun h => ?_) (fun h => ?_)
      · refine wp_run 2 (pc' := 24) (lv' := [(0, .ref a0), (1, .int a1)]) (st' := [.ref a0, .int a1]) (mem' := mem) rfl ?_
        refine wq_gR rfl h (fun v24 h => ?_)
        refine wq_len rfl h (fun v27 h => ?_)
        refine wq_ge2 rfl h (fun h => ?_) (fun h => ?_)
        · refine wp_run 2 (pc' := 36) (lv' := [(0, .ref a0), (1, .int a1)]) (st' := [.int 1]) (mem' := mem) rfl ?_
          exact wq_ret rfl rfl h
        · refine wp_run 1 (pc' := 36) (lv' := [(0, .ref a0), (1, .int a1)]) (st' := [.int 0]) (mem' := mem) rfl ?_
          exact wq_ret rfl rfl h
      · refine wp_run 1 (pc' := 36) (lv' := [(0, .ref a0), (1, .int a1)]) (st' := [.int 0]) (mem' := mem) rfl ?_
        exact wq_ret rfl rfl h
    · refine wp_run 1 (pc' := 36) (lv' := [(0, .ref a0), (1, .int a1)]) (st' := [.int 0]) (mem' := mem) rfl ?_
      exact wq_ret rfl rfl h
/-- Knitstead$Needle.copyFrom(LKnitstead$Needle;)V -/
def m_Needle_copyFrom (xm : Nat → Option kE) (N : Nat) (a0 : Nat) (a1 : Nat) (mem : kM) : dRes :=
  dGI xm mem a1 7 1 fun v2 =>
  dP xm mem a0 7 1 (.int v2) fun m5 =>
  dGR xm m5 a1 7 0 fun v9 =>
  dGR xm m5 a0 7 0 fun v14 =>
  dGR xm m5 a0 7 0 fun v19 =>
  dLen xm m5 v19 fun v22 =>
  dGR xm m5 a1 7 0 fun v24 =>
  dLen xm m5 v24 fun v27 =>
  dCI (m_Math_min xm N v22 v27 m5) fun v28 m28 =>
  dCpy xm m28 v9 0 v14 0 v28 fun m31 =>
  some (.inl none, m31)
theorem m_Needle_copyFrom_ok (xm : Nat → Option kE) (N : Nat) {a0 : Nat} {a1 : Nat} {mem : kM} {R : kO × kM} (h : m_Needle_copyFrom xm N a0 a1 mem = some R) : kCa xm kSm kDfl kFty kG 2 21 [.ref a0, .ref a1] mem (dEq R) := by
  refine wq_ca (show 2 ≤ 2 by decide) ?_
  change kGo xm kSm kDfl kFty kG 1 21 0 [(0, .ref a0), (1, .ref a1)] [] mem (dEq R)
  unfold m_Needle_copyFrom at h
  refine wp_run 2 (pc' := 2) (lv' := [(0, .ref a0), (1, .ref a1)]) (st' := [.ref a1, .ref a0]) (mem' := mem) rfl ?_
  refine wq_gI rfl h (fun v2 h => ?_)
  refine wq_p rfl rfl h (fun m5 h => ?_)
  refine wp_run 1 (pc' := 9) (lv' := [(0, .ref a0), (1, .ref a1)]) (st' := [.ref a1]) (mem' := m5) rfl ?_
  refine wq_gR rfl h (fun v9 h => ?_)
  refine wp_run 2 (pc' := 14) (lv' := [(0, .ref a0), (1, .ref a1)]) (st' := [.ref a0, .int 0, .ref v9]) (mem' := m5) rfl ?_
  refine wq_gR rfl h (fun v14 h => ?_)
  refine wp_run 2 (pc' := 19) (lv' := [(0, .ref a0), (1, .ref a1)]) (st' := [.ref a0, .int 0, .ref v14, .int 0, .ref v9]) (mem' := m5) rfl ?_
  refine wq_gR rfl h (fun v19 h => ?_)
  refine wq_len rfl h (fun v22 h => ?_)
  refine wp_run 1 (pc' := 24) (lv' := [(0, .ref a0), (1, .ref a1)]) (st' := [.ref a1, .int v22, .int 0, .ref v14, .int 0, .ref v9]) (mem' := m5) rfl ?_
  refine wq_gR rfl h (fun v24 h => ?_)
  refine wq_len rfl h (fun v27 h => ?_)
  refine wq_cI rfl (kCall_s (as := [.int v22, .int v27]) (rest := [.int 0, .ref v14, .int 0, .ref v9]) ⟨by decide, rfl⟩ (show 4 ≤ 8 by decide) (by decide)) h (fun r hr => ca_up (by decide) (m_Math_min_ok xm N hr)) (fun v28 m28 h => ?_)
  refine wq_cpy rfl h (show 0 ≤ 90 by decide) (fun m31 h => ?_)
  exact wq_end rfl rfl h
/-- Knitstead$Table.copyFrom(LKnitstead$Table;)V -/
def m_Table_copyFrom (xm : Nat → Option kE) (N : Nat) (a0 : Nat) (a1 : Nat) (mem : kM) : dRes :=
  dGR xm mem a0 8 2 fun v1 =>
  dLen xm mem v1 fun v4 =>
  dGR xm mem a1 8 2 fun v6 =>
  dLen xm mem v6 fun v9 =>
  dCI (m_Math_min xm N v4 v9 mem) fun v10 m10 =>
  dGR xm m10 a1 8 2 fun v15 =>
  dGR xm m10 a0 8 2 fun v20 =>
  dCpy xm m10 v15 0 v20 0 v10 fun m25 =>
  some (.inl none, m25)
theorem m_Table_copyFrom_ok (xm : Nat → Option kE) (N : Nat) {a0 : Nat} {a1 : Nat} {mem : kM} {R : kO × kM} (h : m_Table_copyFrom xm N a0 a1 mem = some R) : kCa xm kSm kDfl kFty kG 2 27 [.ref a0, .ref a1] mem (dEq R) := by
  refine wq_ca (show 2 ≤ 3 by decide) ?_
  change kGo xm kSm kDfl kFty kG 1 27 0 [(0, .ref a0), (1, .ref a1)] [] mem (dEq R)
  unfold m_Table_copyFrom at h
  refine wp_run 1 (pc' := 1) (lv' := [(0, .ref a0), (1, .ref a1)]) (st' := [.ref a0]) (mem' := mem) rfl ?_
  refine wq_gR rfl h (fun v1 h => ?_)
  refine wq_len rfl h (fun v4 h => ?_)
  refine wp_run 1 (pc' := 6) (lv' := [(0, .ref a0), (1, .ref a1)]) (st' := [.ref a1, .int v4]) (mem' := mem) rfl ?_
  refine wq_gR rfl h (fun v6 h => ?_)
  refine wq_len rfl h (fun v9 h => ?_)
  refine wq_cI rfl (kCall_s (as := [.int v4, .int v9]) (rest := []) ⟨by decide, rfl⟩ (show 0 ≤ 8 by decide) (by decide)) h (fun r hr => ca_up (by decide) (m_Math_min_ok xm N hr)) (fun v10 m10 h => ?_)
  refine wp_run 2 (pc' := 15) (lv' := [(2, .int v10), (0, .ref a0), (1, .ref a1)]) (st' := [.ref a1]) (mem' := m10) rfl ?_
  refine wq_gR rfl h (fun v15 h => ?_)
  refine wp_run 2 (pc' := 20) (lv' := [(2, .int v10), (0, .ref a0), (1, .ref a1)]) (st' := [.ref a0, .int 0, .ref v15]) (mem' := m10) rfl ?_
  refine wq_gR rfl h (fun v20 h => ?_)
  refine wp_run 2 (pc' := 25) (lv' := [(2, .int v10), (0, .ref a0), (1, .ref a1)]) (st' := [.int v10, .int 0, .ref v20, .int 0, .ref v15]) (mem' := m10) rfl ?_
  refine wq_cpy rfl h (show 0 ≤ 90 by decide) (fun m25 h => ?_)
  exact wq_end rfl rfl h
/-- Knitstead$Work.copyFrom(LKnitstead$Work;)V -/
def m_Work_copyFrom (xm : Nat → Option kE) (N : Nat) (a0 : Nat) (a1 : Nat) (mem : kM) : dRes :=
  dGR xm mem a0 10 0 fun v1 =>
  dGR xm mem a1 10 0 fun v5 =>
  dRc xm mem v1 7 <|
  dCV (m_Needle_copyFrom xm N v1 v5 mem) fun m8 =>
  dGR xm m8 a0 10 1 fun v12 =>
  dGR xm m8 a1 10 1 fun v16 =>
  dRc xm m8 v12 7 <|
  dCV (m_Needle_copyFrom xm N v12 v16 m8) fun m19 =>
  dGR xm m19 a0 10 2 fun v23 =>
  dGR xm m19 a1 10 2 fun v27 =>
  dRc xm m19 v23 8 <|
  dCV (m_Table_copyFrom xm N v23 v27 m19) fun m30 =>
  dGI xm m30 a1 10 3 fun v35 =>
  dP xm m30 a0 10 3 (.int v35) fun m38 =>
  dGI xm m38 a1 10 4 fun v43 =>
  dP xm m38 a0 10 4 (.int v43) fun m46 =>
  dGI xm m46 a1 10 5 fun v51 =>
  dP xm m46 a0 10 5 (.int v51) fun m54 =>
  dGI xm m54 a1 10 6 fun v59 =>
  dP xm m54 a0 10 6 (.int v59) fun m62 =>
  dGI xm m62 a1 10 7 fun v67 =>
  dP xm m62 a0 10 7 (.int v67) fun m70 =>
  dGI xm m70 a1 10 8 fun v75 =>
  dP xm m70 a0 10 8 (.int v75) fun m78 =>
  dGI xm m78 a1 10 9 fun v83 =>
  dP xm m78 a0 10 9 (.int v83) fun m86 =>
  some (.inl none, m86)
theorem m_Work_copyFrom_ok (xm : Nat → Option kE) (N : Nat) {a0 : Nat} {a1 : Nat} {mem : kM} {R : kO × kM} (h : m_Work_copyFrom xm N a0 a1 mem = some R) : kCa xm kSm kDfl kFty kG 3 38 [.ref a0, .ref a1] mem (dEq R) := by
  refine wq_ca (show 2 ≤ 2 by decide) ?_
  change kGo xm kSm kDfl kFty kG 2 38 0 [(0, .ref a0), (1, .ref a1)] [] mem (dEq R)
  unfold m_Work_copyFrom at h
  refine wp_run 1 (pc' := 1) (lv' := [(0, .ref a0), (1, .ref a1)]) (st' := [.ref a0]) (mem' := mem) rfl ?_
  refine wq_gR rfl h (fun v1 h => ?_)
  refine wp_run 1 (pc' := 5) (lv' := [(0, .ref a0), (1, .ref a1)]) (st' := [.ref a1, .ref v1]) (mem' := mem) rfl ?_
  refine wq_gR rfl h (fun v5 h => ?_)
  obtain ⟨fk8, hk8, h⟩ := dRc_some h
  refine wq_cV rfl (kCall_v hk8 (as := [.ref v5]) (rest := []) ⟨by decide, rfl, (show 1 < 90 by decide), by decide⟩ (show 0 ≤ 8 by decide)) h (fun r hr => ca_up (by decide) (m_Needle_copyFrom_ok xm N hr)) (fun m8 h => ?_)
  refine wp_run 1 (pc' := 12) (lv' := [(0, .ref a0), (1, .ref a1)]) (st' := [.ref a0]) (mem' := m8) rfl ?_
  refine wq_gR rfl h (fun v12 h => ?_)
  refine wp_run 1 (pc' := 16) (lv' := [(0, .ref a0), (1, .ref a1)]) (st' := [.ref a1, .ref v12]) (mem' := m8) rfl ?_
  refine wq_gR rfl h (fun v16 h => ?_)
  obtain ⟨fk19, hk19, h⟩ := dRc_some h
  refine wq_cV rfl (kCall_v hk19 (as := [.ref v16]) (rest := []) ⟨by decide, rfl, (show 1 < 90 by decide), by decide⟩ (show 0 ≤ 8 by decide)) h (fun r hr => ca_up (by decide) (m_Needle_copyFrom_ok xm N hr)) (fun m19 h => ?_)
  refine wp_run 1 (pc' := 23) (lv' := [(0, .ref a0), (1, .ref a1)]) (st' := [.ref a0]) (mem' := m19) rfl ?_
  refine wq_gR rfl h (fun v23 h => ?_)
  refine wp_run 1 (pc' := 27) (lv' := [(0, .ref a0), (1, .ref a1)]) (st' := [.ref a1, .ref v23]) (mem' := m19) rfl ?_
  refine wq_gR rfl h (fun v27 h => ?_)
  obtain ⟨fk30, hk30, h⟩ := dRc_some h
  refine wq_cV rfl (kCall_v hk30 (as := [.ref v27]) (rest := []) ⟨by decide, rfl, (show 1 < 90 by decide), by decide⟩ (show 0 ≤ 8 by decide)) h (fun r hr => ca_up (by decide) (m_Table_copyFrom_ok xm N hr)) (fun m30 h => ?_)
  refine wp_run 2 (pc' := 35) (lv' := [(0, .ref a0), (1, .ref a1)]) (st' := [.ref a1, .ref a0]) (mem' := m30) rfl ?_
  refine wq_gI rfl h (fun v35 h => ?_)
  refine wq_p rfl rfl h (fun m38 h => ?_)
  refine wp_run 2 (pc' := 43) (lv' := [(0, .ref a0), (1, .ref a1)]) (st' := [.ref a1, .ref a0]) (mem' := m38) rfl ?_
  refine wq_gI rfl h (fun v43 h => ?_)
  refine wq_p rfl rfl h (fun m46 h => ?_)
  refine wp_run 2 (pc' := 51) (lv' := [(0, .ref a0), (1, .ref a1)]) (st' := [.ref a1, .ref a0]) (mem' := m46) rfl ?_
  refine wq_gI rfl h (fun v51 h => ?_)
  refine wq_p rfl rfl h (fun m54 h => ?_)
  refine wp_run 2 (pc' := 59) (lv' := [(0, .ref a0), (1, .ref a1)]) (st' := [.ref a1, .ref a0]) (mem' := m54) rfl ?_
  refine wq_gI rfl h (fun v59 h => ?_)
  refine wq_p rfl rfl h (fun m62 h => ?_)
  refine wp_run 2 (pc' := 67) (lv' := [(0, .ref a0), (1, .ref a1)]) (st' := [.ref a1, .ref a0]) (mem' := m62) rfl ?_
  refine wq_gI rfl h (fun v67 h => ?_)
  refine wq_p rfl rfl h (fun m70 h => ?_)
  refine wp_run 2 (pc' := 75) (lv' := [(0, .ref a0), (1, .ref a1)]) (st' := [.ref a1, .ref a0]) (mem' := m70) rfl ?_
  refine wq_gI rfl h (fun v75 h => ?_)
  refine wq_p rfl rfl h (fun m78 h => ?_)
  refine wp_run 2 (pc' := 83) (lv' := [(0, .ref a0), (1, .ref a1)]) (st' := [.ref a1, .ref a0]) (mem' := m78) rfl ?_
  refine wq_gI rfl h (fun v83 h => ?_)
  refine wq_p rfl rfl h (fun m86 h => ?_)
  exact wq_end rfl rfl h
/-- Knitstead$History.keep(LKnitstead$Work;LKnitstead$Balls;)V -/
def m_History_keep_85 (xm : Nat → Option kE) (N : Nat) (a0 : Nat) (s0 : Nat) (s1 : Int32) (mem : kM) : dRes :=
  dP xm mem s0 6 3 (.int s1) fun m85 =>
  dGI xm m85 a0 6 4 fun v90 =>
  dCI (m_Math_min xm N (v90 + 1) 12 m85) fun v97 m97 =>
  dP xm m97 a0 6 4 (.int v97) fun m100 =>
  some (.inl none, m100)
theorem m_History_keep_85_ok (xm : Nat → Option kE) (N : Nat) : ∀ (a0 : Nat) (s0 : Nat) (s1 : Int32) (mem : kM) (R : kO × kM), m_History_keep_85 xm N a0 s0 s1 mem = some R → kGo xm kSm kDfl kFty kG 3 11 85 [(0, .ref a0)] [.int s1, .ref s0] mem (dEq R) := by
  intro a0 s0 s1 mem R h
  unfold m_History_keep_85 at h
  refine wq_p rfl rfl h (fun m85 h => ?_)
  refine wp_run 2 (pc' := 90) (lv' := [(0, .ref a0)]) (st' := [.ref a0, .ref a0]) (mem' := m85) rfl ?_
  refine wq_gI rfl h (fun v90 h => ?_)
  refine wp_run 3 (pc' := 97) (lv' := [(0, .ref a0)]) (st' := [.int 12, .int (v90 + 1), .ref a0]) (mem' := m85) rfl ?_
  refine wq_cI rfl (kCall_s (as := [.int (v90 + 1), .int 12]) (rest := [.ref a0]) ⟨by decide, rfl⟩ (show 1 ≤ 8 by decide) (by decide)) h (fun r hr => ca_up (by decide) (m_Math_min_ok xm N hr)) (fun v97 m97 h => ?_)
  refine wq_p rfl rfl h (fun m100 h => ?_)
  exact wq_end rfl rfl h
def m_History_keep (xm : Nat → Option kE) (N : Nat) (a0 : Nat) (a1 : Nat) (a2 : Nat) (mem : kM) : dRes :=
  dGI xm mem a0 6 3 fun v2 =>
  dRc xm mem a0 6 <|
  dCI (m_History_isSlot xm N a0 v2 mem) fun v5 m5 =>
  if v5 = 0 then (
    some (.inl none, m5)
  ) else (
    dGR xm m5 a0 6 0 fun v12 =>
    dGI xm m5 a0 6 3 fun v16 =>
    dALn xm m5 v12 v16 (
      some (.inl none, m5)
    ) (
      dGR xm m5 a0 6 0 fun v25 =>
      dGI xm m5 a0 6 3 fun v29 =>
      dAL xm m5 v25 v29 fun v32 =>
      dRc xm m5 v32 10 <|
      dCV (m_Work_copyFrom xm N v32 a1 m5) fun m34 =>
      dGR xm m34 a0 6 1 fun v38 =>
      dGI xm m34 a0 6 3 fun v42 =>
      dGI xm m34 a2 5 2 fun v46 =>
      dIS xm m34 v38 v42 v46 fun m49 =>
      dGR xm m49 a0 6 2 fun v51 =>
      dGI xm m49 a0 6 3 fun v55 =>
      dRc xm m49 a2 5 <|
      dCI (m_Balls_ofJoined xm N a2 m49) fun v59 m59 =>
      dIS xm m59 v51 v55 v59 fun m62 =>
      dGI xm m62 a0 6 3 fun v65 =>
      if (v65 + 1) < 12 then (
        dGI xm m62 a0 6 3 fun v76 =>
        m_History_keep_85 xm N a0 a0 (v76 + 1) m62
      ) else (
        m_History_keep_85 xm N a0 a0 0 m62
      )
    )
  )
theorem m_History_keep_ok (xm : Nat → Option kE) (N : Nat) {a0 : Nat} {a1 : Nat} {a2 : Nat} {mem : kM} {R : kO × kM} (h : m_History_keep xm N a0 a1 a2 mem = some R) : kCa xm kSm kDfl kFty kG 4 11 [.ref a0, .ref a1, .ref a2] mem (dEq R) := by
  refine wq_ca (show 3 ≤ 3 by decide) ?_
  change kGo xm kSm kDfl kFty kG 3 11 0 [(0, .ref a0), (1, .ref a1), (2, .ref a2)] [] mem (dEq R)
  unfold m_History_keep at h
  refine wp_run 2 (pc' := 2) (lv' := [(0, .ref a0), (1, .ref a1), (2, .ref a2)]) (st' := [.ref a0, .ref a0]) (mem' := mem) rfl ?_
  refine wq_gI rfl h (fun v2 h => ?_)
  obtain ⟨fk5, hk5, h⟩ := dRc_some h
  refine wq_cI rfl (kCall_v hk5 (as := [.int v2]) (rest := []) ⟨by decide, rfl, (show 1 < 90 by decide), by decide⟩ (show 0 ≤ 8 by decide)) h (fun r hr => ca_up (by decide) (m_History_isSlot_ok xm N hr)) (fun v5 m5 h => ?_)
  refine wq_eq rfl h (fun h => ?_) (fun h => ?_)
  · exact wq_end rfl rfl h
  · refine wp_run 1 (pc' := 12) (lv' := [(0, .ref a0), (1, .ref a1), (2, .ref a2)]) (st' := [.ref a0]) (mem' := m5) rfl ?_
    refine wq_gR rfl h (fun v12 h => ?_)
    refine wp_run 1 (pc' := 16) (lv' := [(0, .ref a0), (1, .ref a1), (2, .ref a2)]) (st' := [.ref a0, .ref v12]) (mem' := m5) rfl ?_
    refine wq_gI rfl h (fun v16 h => ?_)
    refine wq_aLn rfl rfl h (fun h => ?_) (fun h => ?_)
    · exact wq_end rfl rfl h
    · refine wp_run 1 (pc' := 25) (lv' := [(0, .ref a0), (1, .ref a1), (2, .ref a2)]) (st' := [.ref a0]) (mem' := m5) rfl ?_
      refine wq_gR rfl h (fun v25 h => ?_)
      refine wp_run 1 (pc' := 29) (lv' := [(0, .ref a0), (1, .ref a1), (2, .ref a2)]) (st' := [.ref a0, .ref v25]) (mem' := m5) rfl ?_
      refine wq_gI rfl h (fun v29 h => ?_)
      refine wq_aL rfl h (fun v32 h => ?_)
      refine wp_run 1 (pc' := 34) (lv' := [(0, .ref a0), (1, .ref a1), (2, .ref a2)]) (st' := [.ref a1, .ref v32]) (mem' := m5) rfl ?_
      obtain ⟨fk34, hk34, h⟩ := dRc_some h
      refine wq_cV rfl (kCall_v hk34 (as := [.ref a1]) (rest := []) ⟨by decide, rfl, (show 1 < 90 by decide), by decide⟩ (show 0 ≤ 8 by decide)) h (fun r hr => ca_up (by decide) (m_Work_copyFrom_ok xm N hr)) (fun m34 h => ?_)
      refine wp_run 1 (pc' := 38) (lv' := [(0, .ref a0), (1, .ref a1), (2, .ref a2)]) (st' := [.ref a0]) (mem' := m34) rfl ?_
      refine wq_gR rfl h (fun v38 h => ?_)
      refine wp_run 1 (pc' := 42) (lv' := [(0, .ref a0), (1, .ref a1), (2, .ref a2)]) (st' := [.ref a0, .ref v38]) (mem' := m34) rfl ?_
      refine wq_gI rfl h (fun v42 h => ?_)
      refine wp_run 1 (pc' := 46) (lv' := [(0, .ref a0), (1, .ref a1), (2, .ref a2)]) (st' := [.ref a2, .int v42, .ref v38]) (mem' := m34) rfl ?_
      refine wq_gI rfl h (fun v46 h => ?_)
      refine wq_iS rfl h (fun m49 h => ?_)
      refine wp_run 1 (pc' := 51) (lv' := [(0, .ref a0), (1, .ref a1), (2, .ref a2)]) (st' := [.ref a0]) (mem' := m49) rfl ?_
      refine wq_gR rfl h (fun v51 h => ?_)
      refine wp_run 1 (pc' := 55) (lv' := [(0, .ref a0), (1, .ref a1), (2, .ref a2)]) (st' := [.ref a0, .ref v51]) (mem' := m49) rfl ?_
      refine wq_gI rfl h (fun v55 h => ?_)
      refine wp_run 1 (pc' := 59) (lv' := [(0, .ref a0), (1, .ref a1), (2, .ref a2)]) (st' := [.ref a2, .int v55, .ref v51]) (mem' := m49) rfl ?_
      obtain ⟨fk59, hk59, h⟩ := dRc_some h
      refine wq_cI rfl (kCall_v hk59 (as := []) (rest := [.int v55, .ref v51]) ⟨by decide, rfl, (show 0 < 90 by decide), by decide⟩ (show 2 ≤ 8 by decide)) h (fun r hr => ca_up (by decide) (m_Balls_ofJoined_ok xm N hr)) (fun v59 m59 h => ?_)
      refine wq_iS rfl h (fun m62 h => ?_)
      refine wp_run 2 (pc' := 65) (lv' := [(0, .ref a0), (1, .ref a1), (2, .ref a2)]) (st' := [.ref a0, .ref a0]) (mem' := m62) rfl ?_
      refine wq_gI rfl h (fun v65 h => ?_)
      refine wp_run 3 (pc' := 72) (lv' := [(0, .ref a0), (1, .ref a1), (2, .ref a2)]) (st' := [.int 12, .int (v65 + 1), .ref a0]) (mem' := m62) rfl ?_
      refine wq_ge2 rfl h (fun h => ?_) (fun h => ?_)
      · refine wp_run 1 (pc' := 76) (lv' := [(0, .ref a0), (1, .ref a1), (2, .ref a2)]) (st' := [.ref a0, .ref a0]) (mem' := m62) rfl ?_
        refine wq_gI rfl h (fun v76 h => ?_)
        refine wp_run 3 (pc' := 85) (lv' := [(0, .ref a0), (1, .ref a1), (2, .ref a2)]) (st' := [.int (v76 + 1), .ref a0]) (mem' := m62) rfl ?_
        refine kGo_sub (lvS_of [0] rfl [0, 1, 2] rfl (by decide)) ?_
        exact m_History_keep_85_ok xm N _ _ _ m62 R h
      · refine wp_run 1 (pc' := 85) (lv' := [(0, .ref a0), (1, .ref a1), (2, .ref a2)]) (st' := [.int 0, .ref a0]) (mem' := m62) rfl ?_
        refine kGo_sub (lvS_of [0] rfl [0, 1, 2] rfl (by decide)) ?_
        exact m_History_keep_85_ok xm N _ _ _ m62 R h
/-- Knitstead$Balls.set(II)V -/
def m_Balls_set (xm : Nat → Option kE) (N : Nat) (a0 : Nat) (a1 : Int32) (a2 : Int32) (mem : kM) : dRes :=
  dRc xm mem a0 5 <|
  dCI (m_Balls_has xm N a0 a1 mem) fun v2 m2 =>
  if v2 = 0 then (
    some (.inl none, m2)
  ) else (
    dGR xm m2 a0 5 0 fun v9 =>
    dIS xm m2 v9 a1 a2 fun m14 =>
    some (.inl none, m14)
  )
theorem m_Balls_set_ok (xm : Nat → Option kE) (N : Nat) {a0 : Nat} {a1 : Int32} {a2 : Int32} {mem : kM} {R : kO × kM} (h : m_Balls_set xm N a0 a1 a2 mem = some R) : kCa xm kSm kDfl kFty kG 2 5 [.ref a0, .int a1, .int a2] mem (dEq R) := by
  refine wq_ca (show 3 ≤ 3 by decide) ?_
  change kGo xm kSm kDfl kFty kG 1 5 0 [(0, .ref a0), (1, .int a1), (2, .int a2)] [] mem (dEq R)
  unfold m_Balls_set at h
  refine wp_run 2 (pc' := 2) (lv' := [(0, .ref a0), (1, .int a1), (2, .int a2)]) (st' := [.int a1, .ref a0]) (mem' := mem) rfl ?_
  obtain ⟨fk2, hk2, h⟩ := dRc_some h
  refine wq_cI rfl (kCall_v hk2 (as := [.int a1]) (rest := []) ⟨by decide, rfl, (show 1 < 90 by decide), by decide⟩ (show 0 ≤ 8 by decide)) h (fun r hr => ca_up (by decide) (m_Balls_has_ok xm N hr)) (fun v2 m2 h => ?_)
  refine wq_eq rfl h (fun h => ?_) (fun h => ?_)
  · exact wq_end rfl rfl h
  · refine wp_run 1 (pc' := 9) (lv' := [(0, .ref a0), (1, .int a1), (2, .int a2)]) (st' := [.ref a0]) (mem' := m2) rfl ?_
    refine wq_gR rfl h (fun v9 h => ?_)
    refine wp_run 2 (pc' := 14) (lv' := [(0, .ref a0), (1, .int a1), (2, .int a2)]) (st' := [.int a2, .int a1, .ref v9]) (mem' := m2) rfl ?_
    refine wq_iS rfl h (fun m14 h => ?_)
    exact wq_end rfl rfl h
/-- Knitstead$Balls.spend(I)V -/
def m_Balls_spend (xm : Nat → Option kE) (N : Nat) (a0 : Nat) (a1 : Int32) (mem : kM) : dRes :=
  dGI xm mem a0 5 2 fun v2 =>
  dGI xm mem a0 5 2 fun v7 =>
  dRc xm mem a0 5 <|
  dCI (m_Balls_of xm N a0 v7 mem) fun v10 m10 =>
  dRc xm m10 a0 5 <|
  dCV (m_Balls_set xm N a0 v2 (v10 - a1) m10) fun m15 =>
  some (.inl none, m15)
theorem m_Balls_spend_ok (xm : Nat → Option kE) (N : Nat) {a0 : Nat} {a1 : Int32} {mem : kM} {R : kO × kM} (h : m_Balls_spend xm N a0 a1 mem = some R) : kCa xm kSm kDfl kFty kG 3 7 [.ref a0, .int a1] mem (dEq R) := by
  refine wq_ca (show 2 ≤ 2 by decide) ?_
  change kGo xm kSm kDfl kFty kG 2 7 0 [(0, .ref a0), (1, .int a1)] [] mem (dEq R)
  unfold m_Balls_spend at h
  refine wp_run 2 (pc' := 2) (lv' := [(0, .ref a0), (1, .int a1)]) (st' := [.ref a0, .ref a0]) (mem' := mem) rfl ?_
  refine wq_gI rfl h (fun v2 h => ?_)
  refine wp_run 2 (pc' := 7) (lv' := [(0, .ref a0), (1, .int a1)]) (st' := [.ref a0, .ref a0, .int v2, .ref a0]) (mem' := mem) rfl ?_
  refine wq_gI rfl h (fun v7 h => ?_)
  obtain ⟨fk10, hk10, h⟩ := dRc_some h
  refine wq_cI rfl (kCall_v hk10 (as := [.int v7]) (rest := [.int v2, .ref a0]) ⟨by decide, rfl, (show 1 < 90 by decide), by decide⟩ (show 2 ≤ 8 by decide)) h (fun r hr => ca_up (by decide) (m_Balls_of_ok xm N hr)) (fun v10 m10 h => ?_)
  refine wp_run 2 (pc' := 15) (lv' := [(0, .ref a0), (1, .int a1)]) (st' := [.int (v10 - a1), .int v2, .ref a0]) (mem' := m10) rfl ?_
  obtain ⟨fk15, hk15, h⟩ := dRc_some h
  refine wq_cV rfl (kCall_v hk15 (as := [.int v2, .int (v10 - a1)]) (rest := []) ⟨by decide, rfl, (show 2 < 90 by decide), by decide⟩ (show 0 ≤ 8 by decide)) h (fun r hr => ca_up (by decide) (m_Balls_set_ok xm N hr)) (fun m15 h => ?_)
  exact wq_end rfl rfl h
/-- Knitstead$Needle.put(I)V -/
def m_Needle_put (xm : Nat → Option kE) (N : Nat) (a0 : Nat) (a1 : Int32) (mem : kM) : dRes :=
  dGI xm mem a0 7 1 fun v1 =>
  if v1 < 0 then (
    some (.inl none, mem)
  ) else (
    dGI xm mem a0 7 1 fun v8 =>
    dGR xm mem a0 7 0 fun v12 =>
    dLen xm mem v12 fun v15 =>
    if v8 < v15 then (
      dGR xm mem a0 7 0 fun v20 =>
      dGI xm mem a0 7 1 fun v24 =>
      dIS xm mem v20 v24 a1 fun m28 =>
      dGI xm m28 a0 7 1 fun v31 =>
      dP xm m28 a0 7 1 (.int (v31 + 1)) fun m36 =>
      some (.inl none, m36)
    ) else (
      some (.inl none, mem)
    )
  )
theorem m_Needle_put_ok (xm : Nat → Option kE) (N : Nat) {a0 : Nat} {a1 : Int32} {mem : kM} {R : kO × kM} (h : m_Needle_put xm N a0 a1 mem = some R) : kCa xm kSm kDfl kFty kG 1 17 [.ref a0, .int a1] mem (dEq R) := by
  refine wq_ca (show 2 ≤ 2 by decide) ?_
  change kGo xm kSm kDfl kFty kG 0 17 0 [(0, .ref a0), (1, .int a1)] [] mem (dEq R)
  unfold m_Needle_put at h
  refine wp_run 1 (pc' := 1) (lv' := [(0, .ref a0), (1, .int a1)]) (st' := [.ref a0]) (mem' := mem) rfl ?_
  refine wq_gI rfl h (fun v1 h => ?_)
  refine wq_lt rfl h (fun h => ?_) (fun h => ?_)
  · exact wq_end rfl rfl h
  · refine wp_run 1 (pc' := 8) (lv' := [(0, .ref a0), (1, .int a1)]) (st' := [.ref a0]) (mem' := mem) rfl ?_
    refine wq_gI rfl h (fun v8 h => ?_)
    refine wp_run 1 (pc' := 12) (lv' := [(0, .ref a0), (1, .int a1)]) (st' := [.ref a0, .int v8]) (mem' := mem) rfl ?_
    refine wq_gR rfl h (fun v12 h => ?_)
    refine wq_len rfl h (fun v15 h => ?_)
    refine wq_ge2 rfl h (fun h => ?_) (fun h => ?_)
    · refine wp_run 1 (pc' := 20) (lv' := [(0, .ref a0), (1, .int a1)]) (st' := [.ref a0]) (mem' := mem) rfl ?_
      refine wq_gR rfl h (fun v20 h => ?_)
      refine wp_run 1 (pc' := 24) (lv' := [(0, .ref a0), (1, .int a1)]) (st' := [.ref a0, .ref v20]) (mem' := mem) rfl ?_
      refine wq_gI rfl h (fun v24 h => ?_)
      refine wp_run 1 (pc' := 28) (lv' := [(0, .ref a0), (1, .int a1)]) (st' := [.int a1, .int v24, .ref v20]) (mem' := mem) rfl ?_
      refine wq_iS rfl h (fun m28 h => ?_)
      refine wp_run 2 (pc' := 31) (lv' := [(0, .ref a0), (1, .int a1)]) (st' := [.ref a0, .ref a0]) (mem' := m28) rfl ?_
      refine wq_gI rfl h (fun v31 h => ?_)
      refine wp_run 2 (pc' := 36) (lv' := [(0, .ref a0), (1, .int a1)]) (st' := [.int (v31 + 1), .ref a0]) (mem' := m28) rfl ?_
      refine wq_p rfl rfl h (fun m36 h => ?_)
      exact wq_end rfl rfl h
    · exact wq_end rfl rfl h
/-- java/util/Arrays.copyOf([II)[I -/
def m_Ars_copyOf_1 (xm : Nat → Option kE) (N : Nat) (a0 : Nat) (a1 : Int32) (mem : kM) : dRes :=
  dLen xm mem a0 fun v2 =>
  if a1 = v2 then (
    dSp xm 9002 mem a0 fun m7 p7 =>
    dCC xm m7 p7 1 0 <|
    some (.inl (some (.ref p7)), m7)
  ) else (
    dNI 0 mem a1 fun m15 p15 =>
    dLen xm m15 a0 fun v23 =>
    dCI (m_Math_min xm N v23 a1 m15) fun v25 m25 =>
    dCpy xm m25 a0 0 p15 0 v25 fun m28 =>
    some (.inl (some (.ref p15)), m28)
  )
theorem m_Ars_copyOf_1_ok (xm : Nat → Option kE) (N : Nat) {a0 : Nat} {a1 : Int32} {mem : kM} {R : kO × kM} (h : m_Ars_copyOf_1 xm N a0 a1 mem = some R) : kCa xm kSm kDfl kFty kG 2 230 [.ref a0, .int a1] mem (dEq R) := by
  refine wq_ca (show 2 ≤ 3 by decide) ?_
  change kGo xm kSm kDfl kFty kG 1 230 0 [(0, .ref a0), (1, .int a1)] [] mem (dEq R)
  unfold m_Ars_copyOf_1 at h
  refine wp_run 2 (pc' := 2) (lv' := [(0, .ref a0), (1, .int a1)]) (st' := [.ref a0, .int a1]) (mem' := mem) rfl ?_
  refine wq_len rfl h (fun v2 h => ?_)
  refine wq_ne2 rfl h (fun h => ?_) (fun h => ?_)
  · refine wp_run 1 (pc' := 7) (lv' := [(0, .ref a0), (1, .int a1)]) (st' := [.ref a0]) (mem' := mem) rfl ?_
    refine wq_sp rfl (by decide) h (show 0 ≤ 90 by decide) (fun m7 p7 h => ?_)
    refine wq_cc rfl h (fun h => ?_)
    exact wq_end rfl rfl h
  · refine wp_run 1 (pc' := 15) (lv' := [(0, .ref a0), (1, .int a1)]) (st' := [.int a1]) (mem' := mem) rfl ?_
    refine wq_nI rfl rfl h (fun m15 p15 h => ?_)
    refine wp_run 6 (pc' := 23) (lv' := [(2, .ref p15), (0, .ref a0), (1, .int a1)]) (st' := [.ref a0, .int 0, .ref p15, .int 0, .ref a0]) (mem' := m15) rfl ?_
    refine wq_len rfl h (fun v23 h => ?_)
    refine wp_run 1 (pc' := 25) (lv' := [(2, .ref p15), (0, .ref a0), (1, .int a1)]) (st' := [.int a1, .int v23, .int 0, .ref p15, .int 0, .ref a0]) (mem' := m15) rfl ?_
    refine wq_cI rfl (kCall_s (as := [.int v23, .int a1]) (rest := [.int 0, .ref p15, .int 0, .ref a0]) ⟨by decide, rfl⟩ (show 4 ≤ 8 by decide) (by decide)) h (fun r hr => ca_up (by decide) (m_Math_min_ok xm N hr)) (fun v25 m25 h => ?_)
    refine wq_cpy rfl h (show 0 ≤ 90 by decide) (fun m28 h => ?_)
    refine wp_run 1 (pc' := 32) (lv' := [(2, .ref p15), (0, .ref a0), (1, .int a1)]) (st' := [.ref p15]) (mem' := m28) rfl ?_
    exact wq_end rfl rfl h
/-- Knitstead$Table.growTo(I)V -/
def m_Table_growTo (xm : Nat → Option kE) (N : Nat) (a0 : Nat) (a1 : Int32) (mem : kM) : dRes :=
  dGR xm mem a0 8 2 fun v2 =>
  dLen xm mem v2 fun v5 =>
  if v5 < a1 then (
    dGR xm mem a0 8 2 fun v12 =>
    dLen xm mem v12 fun v15 =>
    dCI (m_Math_max xm N a1 (v15 * 2) mem) fun v18 m18 =>
    dGI xm m18 a0 8 1 fun v22 =>
    dGI xm m18 a0 8 0 fun v26 =>
    dCI (m_Math_min xm N v18 (v22 * v26) m18) fun v30 m30 =>
    dGR xm m30 a0 8 2 fun v36 =>
    dLen xm m30 v36 fun v39 =>
    if v39 < v30 then (
      dGR xm m30 a0 8 2 fun v45 =>
      dCR (m_Ars_copyOf_1 xm N v45 v30 m30) fun v49 m49 =>
      dP xm m49 a0 8 2 (.ref v49) fun m52 =>
      some (.inl none, m52)
    ) else (
      some (.inl none, m30)
    )
  ) else (
    some (.inl none, mem)
  )
theorem m_Table_growTo_ok (xm : Nat → Option kE) (N : Nat) {a0 : Nat} {a1 : Int32} {mem : kM} {R : kO × kM} (h : m_Table_growTo xm N a0 a1 mem = some R) : kCa xm kSm kDfl kFty kG 3 26 [.ref a0, .int a1] mem (dEq R) := by
  refine wq_ca (show 2 ≤ 3 by decide) ?_
  change kGo xm kSm kDfl kFty kG 2 26 0 [(0, .ref a0), (1, .int a1)] [] mem (dEq R)
  unfold m_Table_growTo at h
  refine wp_run 2 (pc' := 2) (lv' := [(0, .ref a0), (1, .int a1)]) (st' := [.ref a0, .int a1]) (mem' := mem) rfl ?_
  refine wq_gR rfl h (fun v2 h => ?_)
  refine wq_len rfl h (fun v5 h => ?_)
  refine wq_gt2 rfl h (fun h => ?_) (fun h => ?_)
  · refine wp_run 2 (pc' := 12) (lv' := [(0, .ref a0), (1, .int a1)]) (st' := [.ref a0, .int a1]) (mem' := mem) rfl ?_
    refine wq_gR rfl h (fun v12 h => ?_)
    refine wq_len rfl h (fun v15 h => ?_)
    refine wp_run 2 (pc' := 18) (lv' := [(0, .ref a0), (1, .int a1)]) (st' := [.int (v15 * 2), .int a1]) (mem' := mem) rfl ?_
    refine wq_cI rfl (kCall_s (as := [.int a1, .int (v15 * 2)]) (rest := []) ⟨by decide, rfl⟩ (show 0 ≤ 8 by decide) (by decide)) h (fun r hr => ca_up (by decide) (m_Math_max_ok xm N hr)) (fun v18 m18 h => ?_)
    refine wp_run 1 (pc' := 22) (lv' := [(0, .ref a0), (1, .int a1)]) (st' := [.ref a0, .int v18]) (mem' := m18) rfl ?_
    refine wq_gI rfl h (fun v22 h => ?_)
    refine wp_run 1 (pc' := 26) (lv' := [(0, .ref a0), (1, .int a1)]) (st' := [.ref a0, .int v22, .int v18]) (mem' := m18) rfl ?_
    refine wq_gI rfl h (fun v26 h => ?_)
    refine wp_run 1 (pc' := 30) (lv' := [(0, .ref a0), (1, .int a1)]) (st' := [.int (v22 * v26), .int v18]) (mem' := m18) rfl ?_
    refine wq_cI rfl (kCall_s (as := [.int v18, .int (v22 * v26)]) (rest := []) ⟨by decide, rfl⟩ (show 0 ≤ 8 by decide) (by decide)) h (fun r hr => ca_up (by decide) (m_Math_min_ok xm N hr)) (fun v30 m30 h => ?_)
    refine wp_run 3 (pc' := 36) (lv' := [(2, .int v30), (0, .ref a0), (1, .int a1)]) (st' := [.ref a0, .int v30]) (mem' := m30) rfl ?_
    refine wq_gR rfl h (fun v36 h => ?_)
    refine wq_len rfl h (fun v39 h => ?_)
    refine wq_le2 rfl h (fun h => ?_) (fun h => ?_)
    · refine wp_run 2 (pc' := 45) (lv' := [(2, .int v30), (0, .ref a0), (1, .int a1)]) (st' := [.ref a0, .ref a0]) (mem' := m30) rfl ?_
      refine wq_gR rfl h (fun v45 h => ?_)
      refine wp_run 1 (pc' := 49) (lv' := [(2, .int v30), (0, .ref a0), (1, .int a1)]) (st' := [.int v30, .ref v45, .ref a0]) (mem' := m30) rfl ?_
      refine wq_cR rfl (kCall_s (as := [.ref v45, .int v30]) (rest := [.ref a0]) ⟨by decide, rfl⟩ (show 1 ≤ 8 by decide) (by decide)) h (fun r hr => ca_up (by decide) (m_Ars_copyOf_1_ok xm N hr)) (fun v49 m49 h => ?_)
      refine wq_p rfl rfl h (fun m52 h => ?_)
      exact wq_end rfl rfl h
    · exact wq_end rfl rfl h
  · exact wq_end rfl rfl h
/-- Knitstead$Table.set(III)V -/
def m_Table_set (xm : Nat → Option kE) (N : Nat) (a0 : Nat) (a1 : Int32) (a2 : Int32) (a3 : Int32) (mem : kM) : dRes :=
  dRc xm mem a0 8 <|
  dCI (m_Table_cellOf xm N a0 a1 a2 mem) fun v3 m3 =>
  dRc xm m3 a0 8 <|
  dCV (m_Table_growTo xm N a0 (v3 + 1) m3) fun m13 =>
  if v3 < 0 then (
    some (.inl none, m13)
  ) else (
    dGR xm m13 a0 8 2 fun v24 =>
    dLen xm m13 v24 fun v27 =>
    if v3 < v27 then (
      dGR xm m13 a0 8 2 fun v32 =>
      dIS xm m13 v32 v3 a3 fun m38 =>
      some (.inl none, m38)
    ) else (
      some (.inl none, m13)
    )
  )
theorem m_Table_set_ok (xm : Nat → Option kE) (N : Nat) {a0 : Nat} {a1 : Int32} {a2 : Int32} {a3 : Int32} {mem : kM} {R : kO × kM} (h : m_Table_set xm N a0 a1 a2 a3 mem = some R) : kCa xm kSm kDfl kFty kG 4 25 [.ref a0, .int a1, .int a2, .int a3] mem (dEq R) := by
  refine wq_ca (show 4 ≤ 5 by decide) ?_
  change kGo xm kSm kDfl kFty kG 3 25 0 [(0, .ref a0), (1, .int a1), (2, .int a2), (3, .int a3)] [] mem (dEq R)
  unfold m_Table_set at h
  refine wp_run 3 (pc' := 3) (lv' := [(0, .ref a0), (1, .int a1), (2, .int a2), (3, .int a3)]) (st' := [.int a2, .int a1, .ref a0]) (mem' := mem) rfl ?_
  obtain ⟨fk3, hk3, h⟩ := dRc_some h
  refine wq_cI rfl (kCall_v hk3 (as := [.int a1, .int a2]) (rest := []) ⟨by decide, rfl, (show 2 < 90 by decide), by decide⟩ (show 0 ≤ 8 by decide)) h (fun r hr => ca_up (by decide) (m_Table_cellOf_ok xm N hr)) (fun v3 m3 h => ?_)
  refine wp_run 5 (pc' := 13) (lv' := [(4, .int v3), (0, .ref a0), (1, .int a1), (2, .int a2), (3, .int a3)]) (st' := [.int (v3 + 1), .ref a0]) (mem' := m3) rfl ?_
  obtain ⟨fk13, hk13, h⟩ := dRc_some h
  refine wq_cV rfl (kCall_v hk13 (as := [.int (v3 + 1)]) (rest := []) ⟨by decide, rfl, (show 1 < 90 by decide), by decide⟩ (show 0 ≤ 8 by decide)) h (fun r hr => ca_up (by decide) (m_Table_growTo_ok xm N hr)) (fun m13 h => ?_)
  refine wp_run 1 (pc' := 18) (lv' := [(4, .int v3), (0, .ref a0), (1, .int a1), (2, .int a2), (3, .int a3)]) (st' := [.int v3]) (mem' := m13) rfl ?_
  refine wq_lt rfl h (fun h => ?_) (fun h => ?_)
  · exact wq_end rfl rfl h
  · refine wp_run 2 (pc' := 24) (lv' := [(4, .int v3), (0, .ref a0), (1, .int a1), (2, .int a2), (3, .int a3)]) (st' := [.ref a0, .int v3]) (mem' := m13) rfl ?_
    refine wq_gR rfl h (fun v24 h => ?_)
    refine wq_len rfl h (fun v27 h => ?_)
    refine wq_ge2 rfl h (fun h => ?_) (fun h => ?_)
    · refine wp_run 1 (pc' := 32) (lv' := [(4, .int v3), (0, .ref a0), (1, .int a1), (2, .int a2), (3, .int a3)]) (st' := [.ref a0]) (mem' := m13) rfl ?_
      refine wq_gR rfl h (fun v32 h => ?_)
      refine wp_run 2 (pc' := 38) (lv' := [(4, .int v3), (0, .ref a0), (1, .int a1), (2, .int a2), (3, .int a3)]) (st' := [.int a3, .int v3, .ref v32]) (mem' := m13) rfl ?_
      refine wq_iS rfl h (fun m38 h => ?_)
      exact wq_end rfl rfl h
    · exact wq_end rfl rfl h
/-- Knitstead$Work.letRunsFall()V -/
def m_Work_letRunsFall_52 (xm : Nat → Option kE) (N : Nat) (K2 : Nat → Int32 → kM → dRes) (a0 : Nat) (a1 : Int32) (mem : kM) : dRes :=
  K2 a0 (a1 + 1) mem
theorem m_Work_letRunsFall_52_ok (xm : Nat → Option kE) (N : Nat) (K2 : Nat → Int32 → kM → dRes) (hK2 : ∀ (a0 : Nat) (a1 : Int32) (mem : kM) (R : kO × kM), K2 a0 a1 mem = some R → kGo xm kSm kDfl kFty kG 4 37 2 [(0, .ref a0), (1, .int a1)] [] mem (dEq R)) : ∀ (a0 : Nat) (a1 : Int32) (mem : kM) (R : kO × kM), m_Work_letRunsFall_52 xm N K2 a0 a1 mem = some R → kGo xm kSm kDfl kFty kG 4 37 52 [(0, .ref a0), (1, .int a1)] [] mem (dEq R) := by
  intro a0 a1 mem R h
  unfold m_Work_letRunsFall_52 at h
  refine wp_run 2 (pc' := 2) (lv' := [(1, .int (a1 + 1)), (0, .ref a0)]) (st' := []) (mem' := mem) rfl ?_
  refine kGo_sub (lvS_of [1, 0] rfl [1, 0] rfl (by decide)) ?_
  exact hK2 _ _ mem R h
def m_Work_letRunsFall_2 (xm : Nat → Option kE) (N : Nat) : Nat → Nat → Int32 → kM → dRes
  | 0, _, _, _ => none
  | n + 1, a0, a1, mem =>
    dGI xm mem a0 10 3 fun v4 =>
    if a1 < v4 then (
      dRc xm mem a0 10 <|
      dCI (m_Work_isOpen xm N a0 a1 mem) fun v12 m12 =>
      if v12 = 0 then (
        m_Work_letRunsFall_52 xm N (fun a0 a1 mem => m_Work_letRunsFall_2 xm N n a0 a1 mem) a0 a1 m12
      ) else (
        dGR xm m12 a0 10 2 fun v19 =>
        dRc xm m12 v19 8 <|
        dCI (m_Table_get xm N v19 a1 2 m12) fun v24 m24 =>
        dGR xm m24 a0 10 2 fun v31 =>
        dGR xm m24 a0 10 2 fun v38 =>
        dRc xm m24 v38 8 <|
        dCI (m_Table_get xm N v38 a1 1 m24) fun v43 m43 =>
        dCI (m_Math_min xm N (v24 + 1) v43 m43) fun v46 m46 =>
        dRc xm m46 v31 8 <|
        dCV (m_Table_set xm N v31 a1 2 v46 m46) fun m49 =>
        m_Work_letRunsFall_52 xm N (fun a0 a1 mem => m_Work_letRunsFall_2 xm N n a0 a1 mem) a0 a1 m49
      )
    ) else (
      some (.inl none, mem)
    )
theorem m_Work_letRunsFall_2_ok (xm : Nat → Option kE) (N : Nat) : ∀ (n : Nat) (a0 : Nat) (a1 : Int32) (mem : kM) (R : kO × kM), m_Work_letRunsFall_2 xm N n a0 a1 mem = some R → kGo xm kSm kDfl kFty kG 4 37 2 [(0, .ref a0), (1, .int a1)] [] mem (dEq R) := by
  intro n
  induction n with
  | zero => intro a0 a1 mem R h; cases h
  | succ n ih =>
    intro a0 a1 mem R h
    rw [m_Work_letRunsFall_2] at h
    refine wp_run 2 (pc' := 4) (lv' := [(0, .ref a0), (1, .int a1)]) (st' := [.ref a0, .int a1]) (mem' := mem) rfl ?_
    refine wq_gI rfl h (fun v4 h => ?_)
    refine wq_ge2 rfl h (fun h => ?_) (fun h => ?_)
    · refine wp_run 2 (pc' := 12) (lv' := [(0, .ref a0), (1, .int a1)]) (st' := [.int a1, .ref a0]) (mem' := mem) rfl ?_
      obtain ⟨fk12, hk12, h⟩ := dRc_some h
      refine wq_cI rfl (kCall_v hk12 (as := [.int a1]) (rest := []) ⟨by decide, rfl, (show 1 < 90 by decide), by decide⟩ (show 0 ≤ 8 by decide)) h (fun r hr => ca_up (by decide) (m_Work_isOpen_ok xm N hr)) (fun v12 m12 h => ?_)
      refine wq_eq rfl h (fun h => ?_) (fun h => ?_)
      · exact m_Work_letRunsFall_52_ok xm N _ ih _ _ m12 R h
      · refine wp_run 1 (pc' := 19) (lv' := [(0, .ref a0), (1, .int a1)]) (st' := [.ref a0]) (mem' := m12) rfl ?_
        refine wq_gR rfl h (fun v19 h => ?_)
        refine wp_run 2 (pc' := 24) (lv' := [(0, .ref a0), (1, .int a1)]) (st' := [.int 2, .int a1, .ref v19]) (mem' := m12) rfl ?_
        obtain ⟨fk24, hk24, h⟩ := dRc_some h
        refine wq_cI rfl (kCall_v hk24 (as := [.int a1, .int 2]) (rest := []) ⟨by decide, rfl, (show 2 < 90 by decide), by decide⟩ (show 0 ≤ 8 by decide)) h (fun r hr => ca_up (by decide) (m_Table_get_ok xm N hr)) (fun v24 m24 h => ?_)
        refine wp_run 4 (pc' := 31) (lv' := [(2, .int (v24 + 1)), (0, .ref a0), (1, .int a1)]) (st' := [.ref a0]) (mem' := m24) rfl ?_
        refine wq_gR rfl h (fun v31 h => ?_)
        refine wp_run 4 (pc' := 38) (lv' := [(2, .int (v24 + 1)), (0, .ref a0), (1, .int a1)]) (st' := [.ref a0, .int (v24 + 1), .int 2, .int a1, .ref v31]) (mem' := m24) rfl ?_
        refine wq_gR rfl h (fun v38 h => ?_)
        refine wp_run 2 (pc' := 43) (lv' := [(2, .int (v24 + 1)), (0, .ref a0), (1, .int a1)]) (st' := [.int 1, .int a1, .ref v38, .int (v24 + 1), .int 2, .int a1, .ref v31]) (mem' := m24) rfl ?_
        obtain ⟨fk43, hk43, h⟩ := dRc_some h
        refine wq_cI rfl (kCall_v hk43 (as := [.int a1, .int 1]) (rest := [.int (v24 + 1), .int 2, .int a1, .ref v31]) ⟨by decide, rfl, (show 2 < 90 by decide), by decide⟩ (show 4 ≤ 8 by decide)) h (fun r hr => ca_up (by decide) (m_Table_get_ok xm N hr)) (fun v43 m43 h => ?_)
        refine wq_cI rfl (kCall_s (as := [.int (v24 + 1), .int v43]) (rest := [.int 2, .int a1, .ref v31]) ⟨by decide, rfl⟩ (show 3 ≤ 8 by decide) (by decide)) h (fun r hr => ca_up (by decide) (m_Math_min_ok xm N hr)) (fun v46 m46 h => ?_)
        obtain ⟨fk49, hk49, h⟩ := dRc_some h
        refine wq_cV rfl (kCall_v hk49 (as := [.int a1, .int 2, .int v46]) (rest := []) ⟨by decide, rfl, (show 3 < 90 by decide), by decide⟩ (show 0 ≤ 8 by decide)) h (fun r hr => ca_up (by decide) (m_Table_set_ok xm N hr)) (fun m49 h => ?_)
        refine kGo_sub (lvS_of [1, 2] rfl [2, 0, 1] rfl (by decide)) ?_
        exact m_Work_letRunsFall_52_ok xm N _ ih _ _ m49 R h
    · exact wq_end rfl rfl h
def m_Work_letRunsFall (xm : Nat → Option kE) (N : Nat) (a0 : Nat) (mem : kM) : dRes :=
  m_Work_letRunsFall_2 xm N N a0 0 mem
theorem m_Work_letRunsFall_ok (xm : Nat → Option kE) (N : Nat) {a0 : Nat} {mem : kM} {R : kO × kM} (h : m_Work_letRunsFall xm N a0 mem = some R) : kCa xm kSm kDfl kFty kG 5 37 [.ref a0] mem (dEq R) := by
  refine wq_ca (show 1 ≤ 3 by decide) ?_
  change kGo xm kSm kDfl kFty kG 4 37 0 [(0, .ref a0)] [] mem (dEq R)
  unfold m_Work_letRunsFall at h
  refine wp_run 2 (pc' := 2) (lv' := [(1, .int 0), (0, .ref a0)]) (st' := []) (mem' := mem) rfl ?_
  refine kGo_sub (lvS_of [1, 0] rfl [1, 0] rfl (by decide)) ?_
  exact m_Work_letRunsFall_2_ok xm N N _ _ mem R h
