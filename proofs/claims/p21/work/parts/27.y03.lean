set_option maxRecDepth 20000
/-- KnitsteadModel.slip()I -/
def m_M_slip (xm : Nat → Option kE) (N : Nat) (a0 : Nat) (mem : kM) : dRes :=
  dP xm mem a0 15 0 (.int 0) fun m2 =>
  dGR xm m2 a0 15 5 fun v6 =>
  dGR xm m2 v6 14 0 fun v9 =>
  dRc xm m2 v9 4 <|
  dCI (m_AL_isEmpty xm N v9 m2) fun v12 m12 =>
  if v12 = 0 then (
    dRc xm m12 a0 15 <|
    dCV (m_M_keep xm N a0 m12) fun m25 =>
    dRc xm m25 a0 15 <|
    dCI (m_M_slipNow xm N a0 m25) fun v29 m29 =>
    some (.inl (some (.int v29)), m29)
  ) else (
    dRc xm m12 a0 15 <|
    dCI (m_M_refuse xm N a0 1 m12) fun v20 m20 =>
    some (.inl (some (.int v20)), m20)
  )
theorem m_M_slip_ok (xm : Nat → Option kE) (N : Nat) {a0 : Nat} {mem : kM} {R : kO × kM} (h : m_M_slip xm N a0 mem = some R) : kCa xm kSm kDfl kFty kG 10 124 [.ref a0] mem (dEq R) := by
  refine wq_ca (show 1 ≤ 1 by decide) ?_
  change kGo xm kSm kDfl kFty kG 9 124 0 [(0, .ref a0)] [] mem (dEq R)
  unfold m_M_slip at h
  refine wp_run 2 (pc' := 2) (lv' := [(0, .ref a0)]) (st' := [.int 0, .ref a0]) (mem' := mem) rfl ?_
  refine wq_p rfl rfl h (fun m2 h => ?_)
  refine wp_run 1 (pc' := 6) (lv' := [(0, .ref a0)]) (st' := [.ref a0]) (mem' := m2) rfl ?_
  refine wq_gR rfl h (fun v6 h => ?_)
  refine wq_gR rfl h (fun v9 h => ?_)
  obtain ⟨fk12, hk12, h⟩ := dRc_some h
  refine wq_cI rfl (kCall_v hk12 (as := []) (rest := []) ⟨by decide, rfl, (show 0 < 90 by decide), by decide⟩ (show 0 ≤ 8 by decide)) h (fun r hr => ca_up (by decide) (m_AL_isEmpty_ok xm N hr)) (fun v12 m12 h => ?_)
  refine wq_eq rfl h (fun h => ?_) (fun h => ?_)
  · refine wp_run 1 (pc' := 25) (lv' := [(0, .ref a0)]) (st' := [.ref a0]) (mem' := m12) rfl ?_
    obtain ⟨fk25, hk25, h⟩ := dRc_some h
    refine wq_cV rfl (kCall_v hk25 (as := []) (rest := []) ⟨by decide, rfl, (show 0 < 90 by decide), by decide⟩ (show 0 ≤ 8 by decide)) h (fun r hr => ca_up (by decide) (m_M_keep_ok xm N hr)) (fun m25 h => ?_)
    refine wp_run 1 (pc' := 29) (lv' := [(0, .ref a0)]) (st' := [.ref a0]) (mem' := m25) rfl ?_
    obtain ⟨fk29, hk29, h⟩ := dRc_some h
    refine wq_cI rfl (kCall_v hk29 (as := []) (rest := []) ⟨by decide, rfl, (show 0 < 90 by decide), by decide⟩ (show 0 ≤ 8 by decide)) h (fun r hr => ca_up (by decide) (m_M_slipNow_ok xm N hr)) (fun v29 m29 h => ?_)
    exact wq_ret rfl rfl h
  · refine wp_run 2 (pc' := 20) (lv' := [(0, .ref a0)]) (st' := [.int 1, .ref a0]) (mem' := m12) rfl ?_
    obtain ⟨fk20, hk20, h⟩ := dRc_some h
    refine wq_cI rfl (kCall_v hk20 (as := [.int 1]) (rest := []) ⟨by decide, rfl, (show 1 < 90 by decide), by decide⟩ (show 0 ≤ 8 by decide)) h (fun r hr => ca_up (by decide) (m_M_refuse_ok xm N hr)) (fun v20 m20 h => ?_)
    exact wq_ret rfl rfl h
/-- java/util/ArrayList.rangeCheckForAdd(I)V -/
def m_AL_rangeCheckForAdd (xm : Nat → Option kE) (N : Nat) (a0 : Nat) (a1 : Int32) (mem : kM) : dRes :=
  dGI xm mem a0 4 2 fun v2 =>
  if v2 < a1 then (
    none
  ) else (
    if a1 < 0 then (
      none
    ) else (
      some (.inl none, mem)
    )
  )
theorem m_AL_rangeCheckForAdd_ok (xm : Nat → Option kE) (N : Nat) {a0 : Nat} {a1 : Int32} {mem : kM} {R : kO × kM} (h : m_AL_rangeCheckForAdd xm N a0 a1 mem = some R) : kCa xm kSm kDfl kFty kG 1 224 [.ref a0, .int a1] mem (dEq R) := by
  refine wq_ca (show 2 ≤ 2 by decide) ?_
  change kGo xm kSm kDfl kFty kG 0 224 0 [(0, .ref a0), (1, .int a1)] [] mem (dEq R)
  unfold m_AL_rangeCheckForAdd at h
  refine wp_run 2 (pc' := 2) (lv' := [(0, .ref a0), (1, .int a1)]) (st' := [.ref a0, .int a1]) (mem' := mem) rfl ?_
  refine wq_gI rfl h (fun v2 h => ?_)
  refine wq_gt2 rfl h (fun h => ?_) (fun h => ?_)
  · cases h
  · refine wp_run 1 (pc' := 9) (lv' := [(0, .ref a0), (1, .int a1)]) (st' := [.int a1]) (mem' := mem) rfl ?_
    refine wq_ge rfl h (fun h => ?_) (fun h => ?_)
    · cases h
    · exact wq_end rfl rfl h
/-- java/util/ArrayList.add(ILjava/lang/Object;)V -/
def m_AL_add_0_38 (xm : Nat → Option kE) (N : Nat) (a0 : Nat) (a1 : Int32) (a2 : Nat) (a3 : Int32) (a4 : Nat) (mem : kM) : dRes :=
  dCpy xm mem a4 a1 a4 (a1 + 1) (a3 - a1) fun m49 =>
  dAS xm m49 a4 a1 (some a2) fun m56 =>
  dP xm m56 a0 4 2 (.int (a3 + 1)) fun m61 =>
  some (.inl none, m61)
theorem m_AL_add_0_38_ok (xm : Nat → Option kE) (N : Nat) : ∀ (a0 : Nat) (a1 : Int32) (a2 : Nat) (a3 : Int32) (a4 : Nat) (mem : kM) (R : kO × kM), m_AL_add_0_38 xm N a0 a1 a2 a3 a4 mem = some R → kGo xm kSm kDfl kFty kG 5 220 38 [(0, .ref a0), (1, .int a1), (2, .ref a2), (3, .int a3), (4, .ref a4)] [] mem (dEq R) := by
  intro a0 a1 a2 a3 a4 mem R h
  unfold m_AL_add_0_38 at h
  refine wp_run 9 (pc' := 49) (lv' := [(0, .ref a0), (1, .int a1), (2, .ref a2), (3, .int a3), (4, .ref a4)]) (st' := [.int (a3 - a1), .int (a1 + 1), .ref a4, .int a1, .ref a4]) (mem' := mem) rfl ?_
  refine wq_cpy rfl h (show 0 ≤ 90 by decide) (fun m49 h => ?_)
  refine wp_run 3 (pc' := 56) (lv' := [(0, .ref a0), (1, .int a1), (2, .ref a2), (3, .int a3), (4, .ref a4)]) (st' := [.ref a2, .int a1, .ref a4]) (mem' := m49) rfl ?_
  refine wq_aS rfl h (fun m56 h => ?_)
  refine wp_run 4 (pc' := 61) (lv' := [(0, .ref a0), (1, .int a1), (2, .ref a2), (3, .int a3), (4, .ref a4)]) (st' := [.int (a3 + 1), .ref a0]) (mem' := m56) rfl ?_
  refine wq_p rfl rfl h (fun m61 h => ?_)
  exact wq_end rfl rfl h
def m_AL_add_0 (xm : Nat → Option kE) (N : Nat) (a0 : Nat) (a1 : Int32) (a2 : Nat) (mem : kM) : dRes :=
  dRc xm mem a0 4 <|
  dCV (m_AL_rangeCheckForAdd xm N a0 a1 mem) fun m2 =>
  dGI xm m2 a0 4 0 fun v7 =>
  dP xm m2 a0 4 0 (.int (v7 + 1)) fun m12 =>
  dGI xm m12 a0 4 2 fun v16 =>
  dGR xm m12 a0 4 1 fun v22 =>
  dLen xm m12 v22 fun v28 =>
  if v16 = v28 then (
    dRc xm m12 a0 4 <|
    dCR (m_AL_grow_0 xm N a0 m12) fun v33 m33 =>
    m_AL_add_0_38 xm N a0 a1 a2 v16 v33 m33
  ) else (
    m_AL_add_0_38 xm N a0 a1 a2 v16 v22 m12
  )
theorem m_AL_add_0_ok (xm : Nat → Option kE) (N : Nat) {a0 : Nat} {a1 : Int32} {a2 : Nat} {mem : kM} {R : kO × kM} (h : m_AL_add_0 xm N a0 a1 a2 mem = some R) : kCa xm kSm kDfl kFty kG 6 220 [.ref a0, .int a1, .ref a2] mem (dEq R) := by
  refine wq_ca (show 3 ≤ 5 by decide) ?_
  change kGo xm kSm kDfl kFty kG 5 220 0 [(0, .ref a0), (1, .int a1), (2, .ref a2)] [] mem (dEq R)
  unfold m_AL_add_0 at h
  refine wp_run 2 (pc' := 2) (lv' := [(0, .ref a0), (1, .int a1), (2, .ref a2)]) (st' := [.int a1, .ref a0]) (mem' := mem) rfl ?_
  obtain ⟨fk2, hk2, h⟩ := dRc_some h
  refine wq_cV rfl (kCall_v hk2 (as := [.int a1]) (rest := []) ⟨by decide, rfl, (show 1 < 90 by decide), by decide⟩ (show 0 ≤ 8 by decide)) h (fun r hr => ca_up (by decide) (m_AL_rangeCheckForAdd_ok xm N hr)) (fun m2 h => ?_)
  refine wp_run 2 (pc' := 7) (lv' := [(0, .ref a0), (1, .int a1), (2, .ref a2)]) (st' := [.ref a0, .ref a0]) (mem' := m2) rfl ?_
  refine wq_gI rfl h (fun v7 h => ?_)
  refine wp_run 2 (pc' := 12) (lv' := [(0, .ref a0), (1, .int a1), (2, .ref a2)]) (st' := [.int (v7 + 1), .ref a0]) (mem' := m2) rfl ?_
  refine wq_p rfl rfl h (fun m12 h => ?_)
  refine wp_run 1 (pc' := 16) (lv' := [(0, .ref a0), (1, .int a1), (2, .ref a2)]) (st' := [.ref a0]) (mem' := m12) rfl ?_
  refine wq_gI rfl h (fun v16 h => ?_)
  refine wp_run 3 (pc' := 22) (lv' := [(3, .int v16), (0, .ref a0), (1, .int a1), (2, .ref a2)]) (st' := [.ref a0, .int v16]) (mem' := m12) rfl ?_
  refine wq_gR rfl h (fun v22 h => ?_)
  refine wp_run 2 (pc' := 28) (lv' := [(4, .ref v22), (3, .int v16), (0, .ref a0), (1, .int a1), (2, .ref a2)]) (st' := [.ref v22, .int v16]) (mem' := m12) rfl ?_
  refine wq_len rfl h (fun v28 h => ?_)
  refine wq_ne2 rfl h (fun h => ?_) (fun h => ?_)
  · refine wp_run 1 (pc' := 33) (lv' := [(4, .ref v22), (3, .int v16), (0, .ref a0), (1, .int a1), (2, .ref a2)]) (st' := [.ref a0]) (mem' := m12) rfl ?_
    obtain ⟨fk33, hk33, h⟩ := dRc_some h
    refine wq_cR rfl (kCall_v hk33 (as := []) (rest := []) ⟨by decide, rfl, (show 0 < 90 by decide), by decide⟩ (show 0 ≤ 8 by decide)) h (fun r hr => ca_up (by decide) (m_AL_grow_0_ok xm N hr)) (fun v33 m33 h => ?_)
    refine wp_run 1 (pc' := 38) (lv' := [(4, .ref v33), (3, .int v16), (0, .ref a0), (1, .int a1), (2, .ref a2)]) (st' := []) (mem' := m33) rfl ?_
    refine kGo_sub (lvS_of [2, 3, 4, 1, 0] rfl [4, 3, 0, 1, 2] rfl (by decide)) ?_
    exact m_AL_add_0_38_ok xm N _ _ _ _ _ m33 R h
  · refine kGo_sub (lvS_of [2, 3, 4, 1, 0] rfl [4, 3, 0, 1, 2] rfl (by decide)) ?_
    exact m_AL_add_0_38_ok xm N _ _ _ _ _ m12 R h
/-- KnitsteadModel.crossNow(II)I -/
def m_M_crossNow_53 (xm : Nat → Option kE) (N : Nat) : Nat → Nat → Int32 → Nat → Nat → Int32 → kM → dRes
  | 0, _, _, _, _, _, _ => none
  | n + 1, a0, a2, a3, a4, a5, mem =>
    if a5 < a2 then (
      dGR xm mem a0 15 5 fun v63 =>
      dGR xm mem v63 14 0 fun v66 =>
      dCI (m_M_pull xm N v66 mem) fun v69 m69 =>
      dCR (m_Int_valueOf xm N v69 m69) fun v72 m72 =>
      dRc xm m72 a4 4 <|
      dCV (m_AL_add_0 xm N a4 0 v72 m72) fun m75 =>
      m_M_crossNow_53 xm N n a0 a2 a3 a4 (a5 + 1) m75
    ) else (
      dGR xm mem a0 15 5 fun v85 =>
      dGR xm mem v85 14 0 fun v88 =>
      dRc xm mem v88 4 <|
      dCI (m_AL_addAll xm N v88 a3 mem) fun v92 m92 =>
      dGR xm m92 a0 15 5 fun v97 =>
      dGR xm m92 v97 14 0 fun v100 =>
      dRc xm m92 v100 4 <|
      dCI (m_AL_addAll xm N v100 a4 m92) fun v105 m105 =>
      dGR xm m105 a0 15 5 fun v110 =>
      dGI xm m105 v110 14 9 fun v114 =>
      dP xm m105 v110 14 9 (.int (v114 + 1)) fun m119 =>
      dGR xm m119 a0 15 5 fun v123 =>
      dGR xm m119 v123 14 0 fun v126 =>
      dGR xm m119 a0 15 5 fun v130 =>
      dGR xm m119 v130 14 0 fun v133 =>
      dRc xm m119 v133 4 <|
      dCI (m_AL_size xm N v133 m119) fun v136 m136 =>
      dRc xm m136 v126 4 <|
      dCR (m_AL_get xm N v126 (v136 - 1) m136) fun v141 m141 =>
      dCC xm m141 v141 0 2 <|
      dRc xm m141 v141 2 <|
      dCI (m_Int_intValue xm N v141 m141) fun v147 m147 =>
      some (.inl (some (.int v147)), m147)
    )
theorem m_M_crossNow_53_ok (xm : Nat → Option kE) (N : Nat) : ∀ (n : Nat) (a0 : Nat) (a2 : Int32) (a3 : Nat) (a4 : Nat) (a5 : Int32) (mem : kM) (R : kO × kM), m_M_crossNow_53 xm N n a0 a2 a3 a4 a5 mem = some R → kGo xm kSm kDfl kFty kG 6 125 53 [(0, .ref a0), (2, .int a2), (3, .ref a3), (4, .ref a4), (5, .int a5)] [] mem (dEq R) := by
  intro n
  induction n with
  | zero => intro a0 a2 a3 a4 a5 mem R h; cases h
  | succ n ih =>
    intro a0 a2 a3 a4 a5 mem R h
    rw [m_M_crossNow_53] at h
    refine wp_run 2 (pc' := 56) (lv' := [(0, .ref a0), (2, .int a2), (3, .ref a3), (4, .ref a4), (5, .int a5)]) (st' := [.int a2, .int a5]) (mem' := mem) rfl ?_
    refine wq_ge2 rfl h (fun h => ?_) (fun h => ?_)
    · refine wp_run 3 (pc' := 63) (lv' := [(0, .ref a0), (2, .int a2), (3, .ref a3), (4, .ref a4), (5, .int a5)]) (st' := [.ref a0, .int 0, .ref a4]) (mem' := mem) rfl ?_
      refine wq_gR rfl h (fun v63 h => ?_)
      refine wq_gR rfl h (fun v66 h => ?_)
      refine wq_cI rfl (kCall_s (as := [.ref v66]) (rest := [.int 0, .ref a4]) ⟨by decide, rfl⟩ (show 2 ≤ 8 by decide) (by decide)) h (fun r hr => ca_up (by decide) (m_M_pull_ok xm N hr)) (fun v69 m69 h => ?_)
      refine wq_cR rfl (kCall_s (as := [.int v69]) (rest := [.int 0, .ref a4]) ⟨by decide, rfl⟩ (show 2 ≤ 8 by decide) (by decide)) h (fun r hr => ca_up (by decide) (m_Int_valueOf_ok xm N hr)) (fun v72 m72 h => ?_)
      obtain ⟨fk75, hk75, h⟩ := dRc_some h
      refine wq_cV rfl (kCall_v hk75 (as := [.int 0, .ref v72]) (rest := []) ⟨by decide, rfl, (show 2 < 90 by decide), by decide⟩ (show 0 ≤ 8 by decide)) h (fun r hr => ca_up (by decide) (m_AL_add_0_ok xm N hr)) (fun m75 h => ?_)
      refine wp_run 2 (pc' := 53) (lv' := [(5, .int (a5 + 1)), (0, .ref a0), (2, .int a2), (3, .ref a3), (4, .ref a4)]) (st' := []) (mem' := m75) rfl ?_
      refine kGo_sub (lvS_of [1, 2, 3, 4, 0] rfl [5, 0, 2, 3, 4] rfl (by decide)) ?_
      exact ih _ _ _ _ _ m75 R h
    · refine wp_run 1 (pc' := 85) (lv' := [(0, .ref a0), (2, .int a2), (3, .ref a3), (4, .ref a4), (5, .int a5)]) (st' := [.ref a0]) (mem' := mem) rfl ?_
      refine wq_gR rfl h (fun v85 h => ?_)
      refine wq_gR rfl h (fun v88 h => ?_)
      refine wp_run 1 (pc' := 92) (lv' := [(0, .ref a0), (2, .int a2), (3, .ref a3), (4, .ref a4), (5, .int a5)]) (st' := [.ref a3, .ref v88]) (mem' := mem) rfl ?_
      obtain ⟨fk92, hk92, h⟩ := dRc_some h
      refine wq_cI rfl (kCall_v hk92 (as := [.ref a3]) (rest := []) ⟨by decide, rfl, (show 1 < 90 by decide), by decide⟩ (show 0 ≤ 8 by decide)) h (fun r hr => ca_up (by decide) (m_AL_addAll_ok xm N hr)) (fun v92 m92 h => ?_)
      refine wp_run 2 (pc' := 97) (lv' := [(0, .ref a0), (2, .int a2), (3, .ref a3), (4, .ref a4), (5, .int a5)]) (st' := [.ref a0]) (mem' := m92) rfl ?_
      refine wq_gR rfl h (fun v97 h => ?_)
      refine wq_gR rfl h (fun v100 h => ?_)
      refine wp_run 1 (pc' := 105) (lv' := [(0, .ref a0), (2, .int a2), (3, .ref a3), (4, .ref a4), (5, .int a5)]) (st' := [.ref a4, .ref v100]) (mem' := m92) rfl ?_
      obtain ⟨fk105, hk105, h⟩ := dRc_some h
      refine wq_cI rfl (kCall_v hk105 (as := [.ref a4]) (rest := []) ⟨by decide, rfl, (show 1 < 90 by decide), by decide⟩ (show 0 ≤ 8 by decide)) h (fun r hr => ca_up (by decide) (m_AL_addAll_ok xm N hr)) (fun v105 m105 h => ?_)
      refine wp_run 2 (pc' := 110) (lv' := [(0, .ref a0), (2, .int a2), (3, .ref a3), (4, .ref a4), (5, .int a5)]) (st' := [.ref a0]) (mem' := m105) rfl ?_
      refine wq_gR rfl h (fun v110 h => ?_)
      refine wp_run 1 (pc' := 114) (lv' := [(0, .ref a0), (2, .int a2), (3, .ref a3), (4, .ref a4), (5, .int a5)]) (st' := [.ref v110, .ref v110]) (mem' := m105) rfl ?_
      refine wq_gI rfl h (fun v114 h => ?_)
      refine wp_run 2 (pc' := 119) (lv' := [(0, .ref a0), (2, .int a2), (3, .ref a3), (4, .ref a4), (5, .int a5)]) (st' := [.int (v114 + 1), .ref v110]) (mem' := m105) rfl ?_
      refine wq_p rfl rfl h (fun m119 h => ?_)
      refine wp_run 1 (pc' := 123) (lv' := [(0, .ref a0), (2, .int a2), (3, .ref a3), (4, .ref a4), (5, .int a5)]) (st' := [.ref a0]) (mem' := m119) rfl ?_
      refine wq_gR rfl h (fun v123 h => ?_)
      refine wq_gR rfl h (fun v126 h => ?_)
      refine wp_run 1 (pc' := 130) (lv' := [(0, .ref a0), (2, .int a2), (3, .ref a3), (4, .ref a4), (5, .int a5)]) (st' := [.ref a0, .ref v126]) (mem' := m119) rfl ?_
      refine wq_gR rfl h (fun v130 h => ?_)
      refine wq_gR rfl h (fun v133 h => ?_)
      obtain ⟨fk136, hk136, h⟩ := dRc_some h
      refine wq_cI rfl (kCall_v hk136 (as := []) (rest := [.ref v126]) ⟨by decide, rfl, (show 0 < 90 by decide), by decide⟩ (show 1 ≤ 8 by decide)) h (fun r hr => ca_up (by decide) (m_AL_size_ok xm N hr)) (fun v136 m136 h => ?_)
      refine wp_run 2 (pc' := 141) (lv' := [(0, .ref a0), (2, .int a2), (3, .ref a3), (4, .ref a4), (5, .int a5)]) (st' := [.int (v136 - 1), .ref v126]) (mem' := m136) rfl ?_
      obtain ⟨fk141, hk141, h⟩ := dRc_some h
      refine wq_cR rfl (kCall_v hk141 (as := [.int (v136 - 1)]) (rest := []) ⟨by decide, rfl, (show 1 < 90 by decide), by decide⟩ (show 0 ≤ 8 by decide)) h (fun r hr => ca_up (by decide) (m_AL_get_ok xm N hr)) (fun v141 m141 h => ?_)
      refine wq_cc rfl h (fun h => ?_)
      obtain ⟨fk147, hk147, h⟩ := dRc_some h
      refine wq_cI rfl (kCall_v hk147 (as := []) (rest := []) ⟨by decide, rfl, (show 0 < 90 by decide), by decide⟩ (show 0 ≤ 8 by decide)) h (fun r hr => ca_up (by decide) (m_Int_intValue_ok xm N hr)) (fun v147 m147 h => ?_)
      exact wq_ret rfl rfl h
def m_M_crossNow_20 (xm : Nat → Option kE) (N : Nat) : Nat → Nat → Int32 → Int32 → Nat → Nat → Int32 → kM → dRes
  | 0, _, _, _, _, _, _, _ => none
  | n + 1, a0, a1, a2, a3, a4, a5, mem =>
    if a5 < a1 then (
      dGR xm mem a0 15 5 fun v29 =>
      dGR xm mem v29 14 0 fun v32 =>
      dCI (m_M_pull xm N v32 mem) fun v35 m35 =>
      dCR (m_Int_valueOf xm N v35 m35) fun v38 m38 =>
      dRc xm m38 a3 4 <|
      dCV (m_AL_add_0 xm N a3 0 v38 m38) fun m41 =>
      m_M_crossNow_20 xm N n a0 a1 a2 a3 a4 (a5 + 1) m41
    ) else (
      m_M_crossNow_53 xm N N a0 a2 a3 a4 0 mem
    )
theorem m_M_crossNow_20_ok (xm : Nat → Option kE) (N : Nat) : ∀ (n : Nat) (a0 : Nat) (a1 : Int32) (a2 : Int32) (a3 : Nat) (a4 : Nat) (a5 : Int32) (mem : kM) (R : kO × kM), m_M_crossNow_20 xm N n a0 a1 a2 a3 a4 a5 mem = some R → kGo xm kSm kDfl kFty kG 6 125 20 [(0, .ref a0), (1, .int a1), (2, .int a2), (3, .ref a3), (4, .ref a4), (5, .int a5)] [] mem (dEq R) := by
  intro n
  induction n with
  | zero => intro a0 a1 a2 a3 a4 a5 mem R h; cases h
  | succ n ih =>
    intro a0 a1 a2 a3 a4 a5 mem R h
    rw [m_M_crossNow_20] at h
    refine wp_run 2 (pc' := 23) (lv' := [(0, .ref a0), (1, .int a1), (2, .int a2), (3, .ref a3), (4, .ref a4), (5, .int a5)]) (st' := [.int a1, .int a5]) (mem' := mem) rfl ?_
    refine wq_ge2 rfl h (fun h => ?_) (fun h => ?_)
    · refine wp_run 3 (pc' := 29) (lv' := [(0, .ref a0), (1, .int a1), (2, .int a2), (3, .ref a3), (4, .ref a4), (5, .int a5)]) (st' := [.ref a0, .int 0, .ref a3]) (mem' := mem) rfl ?_
      refine wq_gR rfl h (fun v29 h => ?_)
      refine wq_gR rfl h (fun v32 h => ?_)
      refine wq_cI rfl (kCall_s (as := [.ref v32]) (rest := [.int 0, .ref a3]) ⟨by decide, rfl⟩ (show 2 ≤ 8 by decide) (by decide)) h (fun r hr => ca_up (by decide) (m_M_pull_ok xm N hr)) (fun v35 m35 h => ?_)
      refine wq_cR rfl (kCall_s (as := [.int v35]) (rest := [.int 0, .ref a3]) ⟨by decide, rfl⟩ (show 2 ≤ 8 by decide) (by decide)) h (fun r hr => ca_up (by decide) (m_Int_valueOf_ok xm N hr)) (fun v38 m38 h => ?_)
      obtain ⟨fk41, hk41, h⟩ := dRc_some h
      refine wq_cV rfl (kCall_v hk41 (as := [.int 0, .ref v38]) (rest := []) ⟨by decide, rfl, (show 2 < 90 by decide), by decide⟩ (show 0 ≤ 8 by decide)) h (fun r hr => ca_up (by decide) (m_AL_add_0_ok xm N hr)) (fun m41 h => ?_)
      refine wp_run 2 (pc' := 20) (lv' := [(5, .int (a5 + 1)), (0, .ref a0), (1, .int a1), (2, .int a2), (3, .ref a3), (4, .ref a4)]) (st' := []) (mem' := m41) rfl ?_
      refine kGo_sub (lvS_of [1, 2, 3, 4, 5, 0] rfl [5, 0, 1, 2, 3, 4] rfl (by decide)) ?_
      exact ih _ _ _ _ _ _ m41 R h
    · refine wp_run 2 (pc' := 53) (lv' := [(5, .int 0), (0, .ref a0), (1, .int a1), (2, .int a2), (3, .ref a3), (4, .ref a4)]) (st' := []) (mem' := mem) rfl ?_
      refine kGo_sub (lvS_of [1, 3, 4, 5, 0] rfl [5, 0, 1, 2, 3, 4] rfl (by decide)) ?_
      exact m_M_crossNow_53_ok xm N N _ _ _ _ _ mem R h
def m_M_crossNow (xm : Nat → Option kE) (N : Nat) (a0 : Nat) (a1 : Int32) (a2 : Int32) (mem : kM) : dRes :=
  dN mem (.inl (4, [.int 0, .null, .int 0])) fun m0 p0 =>
  dCV (m_AL_new xm N p0 m0) fun m4 =>
  dN m4 (.inl (4, [.int 0, .null, .int 0])) fun m8 p8 =>
  dCV (m_AL_new xm N p8 m8) fun m12 =>
  m_M_crossNow_20 xm N N a0 a1 a2 p0 p8 0 m12
theorem m_M_crossNow_ok (xm : Nat → Option kE) (N : Nat) {a0 : Nat} {a1 : Int32} {a2 : Int32} {mem : kM} {R : kO × kM} (h : m_M_crossNow xm N a0 a1 a2 mem = some R) : kCa xm kSm kDfl kFty kG 7 125 [.ref a0, .int a1, .int a2] mem (dEq R) := by
  refine wq_ca (show 3 ≤ 6 by decide) ?_
  change kGo xm kSm kDfl kFty kG 6 125 0 [(0, .ref a0), (1, .int a1), (2, .int a2)] [] mem (dEq R)
  unfold m_M_crossNow at h
  refine wq_n rfl (by decide) rfl h (fun m0 p0 h => ?_)
  refine wp_run 1 (pc' := 4) (lv' := [(0, .ref a0), (1, .int a1), (2, .int a2)]) (st' := [.ref p0, .ref p0]) (mem' := m0) rfl ?_
  refine wq_cV rfl (kCall_i (as := []) (rest := [.ref p0]) ⟨by decide, rfl, (show 0 < 90 by decide)⟩ (show 1 ≤ 8 by decide)) h (fun r hr => ca_up (by decide) (m_AL_new_ok xm N hr)) (fun m4 h => ?_)
  refine wp_run 1 (pc' := 8) (lv' := [(3, .ref p0), (0, .ref a0), (1, .int a1), (2, .int a2)]) (st' := []) (mem' := m4) rfl ?_
  refine wq_n rfl (by decide) rfl h (fun m8 p8 h => ?_)
  refine wp_run 1 (pc' := 12) (lv' := [(3, .ref p0), (0, .ref a0), (1, .int a1), (2, .int a2)]) (st' := [.ref p8, .ref p8]) (mem' := m8) rfl ?_
  refine wq_cV rfl (kCall_i (as := []) (rest := [.ref p8]) ⟨by decide, rfl, (show 0 < 90 by decide)⟩ (show 1 ≤ 8 by decide)) h (fun r hr => ca_up (by decide) (m_AL_new_ok xm N hr)) (fun m12 h => ?_)
  refine wp_run 3 (pc' := 20) (lv' := [(5, .int 0), (4, .ref p8), (3, .ref p0), (0, .ref a0), (1, .int a1), (2, .int a2)]) (st' := []) (mem' := m12) rfl ?_
  refine kGo_sub (lvS_of [3, 4, 5, 2, 1, 0] rfl [5, 4, 3, 0, 1, 2] rfl (by decide)) ?_
  exact m_M_crossNow_20_ok xm N N _ _ _ _ _ _ m12 R h
/-- KnitsteadModel.cross(II)I -/
def m_M_cross_23 (xm : Nat → Option kE) (N : Nat) (a0 : Nat) (mem : kM) : dRes :=
  dRc xm mem a0 15 <|
  dCI (m_M_refuse xm N a0 1 mem) fun v25 m25 =>
  some (.inl (some (.int v25)), m25)
theorem m_M_cross_23_ok (xm : Nat → Option kE) (N : Nat) : ∀ (a0 : Nat) (mem : kM) (R : kO × kM), m_M_cross_23 xm N a0 mem = some R → kGo xm kSm kDfl kFty kG 9 126 23 [(0, .ref a0)] [] mem (dEq R) := by
  intro a0 mem R h
  unfold m_M_cross_23 at h
  refine wp_run 2 (pc' := 25) (lv' := [(0, .ref a0)]) (st' := [.int 1, .ref a0]) (mem' := mem) rfl ?_
  obtain ⟨fk25, hk25, h⟩ := dRc_some h
  refine wq_cI rfl (kCall_v hk25 (as := [.int 1]) (rest := []) ⟨by decide, rfl, (show 1 < 90 by decide), by decide⟩ (show 0 ≤ 8 by decide)) h (fun r hr => ca_up (by decide) (m_M_refuse_ok xm N hr)) (fun v25 m25 h => ?_)
  exact wq_ret rfl rfl h
def m_M_cross (xm : Nat → Option kE) (N : Nat) (a0 : Nat) (a1 : Int32) (a2 : Int32) (mem : kM) : dRes :=
  dP xm mem a0 15 0 (.int 0) fun m2 =>
  dCI (m_M_is xm N a1 1 3 m2) fun v8 m8 =>
  if v8 = 0 then (
    m_M_cross_23 xm N a0 m8
  ) else (
    dCI (m_M_is xm N a2 1 3 m8) fun v17 m17 =>
    if v17 = 0 then (
      m_M_cross_23 xm N a0 m17
    ) else (
      dGR xm m17 a0 15 5 fun v30 =>
      dGR xm m17 v30 14 0 fun v33 =>
      dRc xm m17 v33 4 <|
      dCI (m_AL_size xm N v33 m17) fun v36 m36 =>
      if v36 < (a1 + a2) then (
        dRc xm m36 a0 15 <|
        dCI (m_M_refuse xm N a0 2 m36) fun v47 m47 =>
        some (.inl (some (.int v47)), m47)
      ) else (
        dRc xm m36 a0 15 <|
        dCV (m_M_keep xm N a0 m36) fun m52 =>
        dRc xm m52 a0 15 <|
        dCI (m_M_crossNow xm N a0 a1 a2 m52) fun v58 m58 =>
        some (.inl (some (.int v58)), m58)
      )
    )
  )
theorem m_M_cross_ok (xm : Nat → Option kE) (N : Nat) {a0 : Nat} {a1 : Int32} {a2 : Int32} {mem : kM} {R : kO × kM} (h : m_M_cross xm N a0 a1 a2 mem = some R) : kCa xm kSm kDfl kFty kG 10 126 [.ref a0, .int a1, .int a2] mem (dEq R) := by
  refine wq_ca (show 3 ≤ 3 by decide) ?_
  change kGo xm kSm kDfl kFty kG 9 126 0 [(0, .ref a0), (1, .int a1), (2, .int a2)] [] mem (dEq R)
  unfold m_M_cross at h
  refine wp_run 2 (pc' := 2) (lv' := [(0, .ref a0), (1, .int a1), (2, .int a2)]) (st' := [.int 0, .ref a0]) (mem' := mem) rfl ?_
  refine wq_p rfl rfl h (fun m2 h => ?_)
  refine wp_run 3 (pc' := 8) (lv' := [(0, .ref a0), (1, .int a1), (2, .int a2)]) (st' := [.int 3, .int 1, .int a1]) (mem' := m2) rfl ?_
  refine wq_cI rfl (kCall_s (as := [.int a1, .int 1, .int 3]) (rest := []) ⟨by decide, rfl⟩ (show 0 ≤ 8 by decide) (by decide)) h (fun r hr => ca_up (by decide) (m_M_is_ok xm N hr)) (fun v8 m8 h => ?_)
  refine wq_eq rfl h (fun h => ?_) (fun h => ?_)
  · refine kGo_sub (lvS_of [0] rfl [0, 1, 2] rfl (by decide)) ?_
    exact m_M_cross_23_ok xm N _ m8 R h
  · refine wp_run 3 (pc' := 17) (lv' := [(0, .ref a0), (1, .int a1), (2, .int a2)]) (st' := [.int 3, .int 1, .int a2]) (mem' := m8) rfl ?_
    refine wq_cI rfl (kCall_s (as := [.int a2, .int 1, .int 3]) (rest := []) ⟨by decide, rfl⟩ (show 0 ≤ 8 by decide) (by decide)) h (fun r hr => ca_up (by decide) (m_M_is_ok xm N hr)) (fun v17 m17 h => ?_)
    refine wq_ne rfl h (fun h => ?_) (fun h => ?_)
    · refine kGo_sub (lvS_of [0] rfl [0, 1, 2] rfl (by decide)) ?_
      exact m_M_cross_23_ok xm N _ m17 R h
    · refine wp_run 1 (pc' := 30) (lv' := [(0, .ref a0), (1, .int a1), (2, .int a2)]) (st' := [.ref a0]) (mem' := m17) rfl ?_
      refine wq_gR rfl h (fun v30 h => ?_)
      refine wq_gR rfl h (fun v33 h => ?_)
      obtain ⟨fk36, hk36, h⟩ := dRc_some h
      refine wq_cI rfl (kCall_v hk36 (as := []) (rest := []) ⟨by decide, rfl, (show 0 < 90 by decide), by decide⟩ (show 0 ≤ 8 by decide)) h (fun r hr => ca_up (by decide) (m_AL_size_ok xm N hr)) (fun v36 m36 h => ?_)
      refine wp_run 3 (pc' := 42) (lv' := [(0, .ref a0), (1, .int a1), (2, .int a2)]) (st' := [.int (a1 + a2), .int v36]) (mem' := m36) rfl ?_
      refine wq_ge2 rfl h (fun h => ?_) (fun h => ?_)
      · refine wp_run 2 (pc' := 47) (lv' := [(0, .ref a0), (1, .int a1), (2, .int a2)]) (st' := [.int 2, .ref a0]) (mem' := m36) rfl ?_
        obtain ⟨fk47, hk47, h⟩ := dRc_some h
        refine wq_cI rfl (kCall_v hk47 (as := [.int 2]) (rest := []) ⟨by decide, rfl, (show 1 < 90 by decide), by decide⟩ (show 0 ≤ 8 by decide)) h (fun r hr => ca_up (by decide) (m_M_refuse_ok xm N hr)) (fun v47 m47 h => ?_)
        exact wq_ret rfl rfl h
      · refine wp_run 1 (pc' := 52) (lv' := [(0, .ref a0), (1, .int a1), (2, .int a2)]) (st' := [.ref a0]) (mem' := m36) rfl ?_
        obtain ⟨fk52, hk52, h⟩ := dRc_some h
        refine wq_cV rfl (kCall_v hk52 (as := []) (rest := []) ⟨by decide, rfl, (show 0 < 90 by decide), by decide⟩ (show 0 ≤ 8 by decide)) h (fun r hr => ca_up (by decide) (m_M_keep_ok xm N hr)) (fun m52 h => ?_)
        refine wp_run 3 (pc' := 58) (lv' := [(0, .ref a0), (1, .int a1), (2, .int a2)]) (st' := [.int a2, .int a1, .ref a0]) (mem' := m52) rfl ?_
        obtain ⟨fk58, hk58, h⟩ := dRc_some h
        refine wq_cI rfl (kCall_v hk58 (as := [.int a1, .int a2]) (rest := []) ⟨by decide, rfl, (show 2 < 90 by decide), by decide⟩ (show 0 ≤ 8 by decide)) h (fun r hr => ca_up (by decide) (m_M_crossNow_ok xm N hr)) (fun v58 m58 h => ?_)
        exact wq_ret rfl rfl h
/-- KnitsteadModel.turn()I -/
def m_M_turn_51 (xm : Nat → Option kE) (N : Nat) (a0 : Nat) (s0 : Nat) (s1 : Int32) (s2 : Int32) (mem : kM) : dRes :=
  dP xm mem s0 14 10 (.int (s1 + s2)) fun m52 =>
  dGR xm m52 a0 15 5 fun v56 =>
  dGR xm m52 v56 14 0 fun v59 =>
  dGR xm m52 a0 15 5 fun v64 =>
  dGR xm m52 a0 15 5 fun v68 =>
  dGR xm m52 v68 14 1 fun v71 =>
  dP xm m52 v64 14 0 (.ref v71) fun m74 =>
  dGR xm m74 a0 15 5 fun v78 =>
  dP xm m74 v78 14 1 (.ref v59) fun m82 =>
  dGR xm m82 a0 15 5 fun v86 =>
  dGR xm m82 a0 15 5 fun v91 =>
  dGI xm m82 v91 14 4 fun v94 =>
  dP xm m82 v86 14 4 (.int (1 - v94)) fun m98 =>
  dGR xm m98 a0 15 5 fun v102 =>
  dGI xm m98 v102 14 5 fun v106 =>
  dP xm m98 v102 14 5 (.int (v106 + 1)) fun m111 =>
  dGR xm m111 a0 15 5 fun v115 =>
  dGR xm m111 v115 14 0 fun v118 =>
  dRc xm m111 v118 4 <|
  dCI (m_AL_size xm N v118 m111) fun v121 m121 =>
  some (.inl (some (.int v121)), m121)
theorem m_M_turn_51_ok (xm : Nat → Option kE) (N : Nat) : ∀ (a0 : Nat) (s0 : Nat) (s1 : Int32) (s2 : Int32) (mem : kM) (R : kO × kM), m_M_turn_51 xm N a0 s0 s1 s2 mem = some R → kGo xm kSm kDfl kFty kG 9 127 51 [(0, .ref a0)] [.int s2, .int s1, .ref s0] mem (dEq R) := by
  intro a0 s0 s1 s2 mem R h
  unfold m_M_turn_51 at h
  refine wp_run 1 (pc' := 52) (lv' := [(0, .ref a0)]) (st' := [.int (s1 + s2), .ref s0]) (mem' := mem) rfl ?_
  refine wq_p rfl rfl h (fun m52 h => ?_)
  refine wp_run 1 (pc' := 56) (lv' := [(0, .ref a0)]) (st' := [.ref a0]) (mem' := m52) rfl ?_
  refine wq_gR rfl h (fun v56 h => ?_)
  refine wq_gR rfl h (fun v59 h => ?_)
  refine wp_run 2 (pc' := 64) (lv' := [(1, .ref v59), (0, .ref a0)]) (st' := [.ref a0]) (mem' := m52) rfl ?_
  refine wq_gR rfl h (fun v64 h => ?_)
  refine wp_run 1 (pc' := 68) (lv' := [(1, .ref v59), (0, .ref a0)]) (st' := [.ref a0, .ref v64]) (mem' := m52) rfl ?_
  refine wq_gR rfl h (fun v68 h => ?_)
  refine wq_gR rfl h (fun v71 h => ?_)
  refine wq_p rfl rfl h (fun m74 h => ?_)
  refine wp_run 1 (pc' := 78) (lv' := [(1, .ref v59), (0, .ref a0)]) (st' := [.ref a0]) (mem' := m74) rfl ?_
  refine wq_gR rfl h (fun v78 h => ?_)
  refine wp_run 1 (pc' := 82) (lv' := [(1, .ref v59), (0, .ref a0)]) (st' := [.ref v59, .ref v78]) (mem' := m74) rfl ?_
  refine wq_p rfl rfl h (fun m82 h => ?_)
  refine wp_run 1 (pc' := 86) (lv' := [(1, .ref v59), (0, .ref a0)]) (st' := [.ref a0]) (mem' := m82) rfl ?_
  refine wq_gR rfl h (fun v86 h => ?_)
  refine wp_run 2 (pc' := 91) (lv' := [(1, .ref v59), (0, .ref a0)]) (st' := [.ref a0, .int 1, .ref v86]) (mem' := m82) rfl ?_
  refine wq_gR rfl h (fun v91 h => ?_)
  refine wq_gI rfl h (fun v94 h => ?_)
  refine wp_run 1 (pc' := 98) (lv' := [(1, .ref v59), (0, .ref a0)]) (st' := [.int (1 - v94), .ref v86]) (mem' := m82) rfl ?_
  refine wq_p rfl rfl h (fun m98 h => ?_)
  refine wp_run 1 (pc' := 102) (lv' := [(1, .ref v59), (0, .ref a0)]) (st' := [.ref a0]) (mem' := m98) rfl ?_
  refine wq_gR rfl h (fun v102 h => ?_)
  refine wp_run 1 (pc' := 106) (lv' := [(1, .ref v59), (0, .ref a0)]) (st' := [.ref v102, .ref v102]) (mem' := m98) rfl ?_
  refine wq_gI rfl h (fun v106 h => ?_)
  refine wp_run 2 (pc' := 111) (lv' := [(1, .ref v59), (0, .ref a0)]) (st' := [.int (v106 + 1), .ref v102]) (mem' := m98) rfl ?_
  refine wq_p rfl rfl h (fun m111 h => ?_)
  refine wp_run 1 (pc' := 115) (lv' := [(1, .ref v59), (0, .ref a0)]) (st' := [.ref a0]) (mem' := m111) rfl ?_
  refine wq_gR rfl h (fun v115 h => ?_)
  refine wq_gR rfl h (fun v118 h => ?_)
  obtain ⟨fk121, hk121, h⟩ := dRc_some h
  refine wq_cI rfl (kCall_v hk121 (as := []) (rest := []) ⟨by decide, rfl, (show 0 < 90 by decide), by decide⟩ (show 0 ≤ 8 by decide)) h (fun r hr => ca_up (by decide) (m_AL_size_ok xm N hr)) (fun v121 m121 h => ?_)
  exact wq_ret rfl rfl h
def m_M_turn (xm : Nat → Option kE) (N : Nat) (a0 : Nat) (mem : kM) : dRes :=
  dP xm mem a0 15 0 (.int 0) fun m2 =>
  dGR xm m2 a0 15 5 fun v6 =>
  dRc xm m2 v6 14 <|
  dCI (m_MS_all xm N v6 m2) fun v9 m9 =>
  if v9 = 0 then (
    dRc xm m9 a0 15 <|
    dCI (m_M_refuse xm N a0 1 m9) fun v17 m17 =>
    some (.inl (some (.int v17)), m17)
  ) else (
    dRc xm m9 a0 15 <|
    dCV (m_M_keep xm N a0 m9) fun m22 =>
    dGR xm m22 a0 15 5 fun v26 =>
    dGI xm m22 v26 14 10 fun v30 =>
    dGR xm m22 a0 15 5 fun v34 =>
    dGR xm m22 v34 14 0 fun v37 =>
    dRc xm m22 v37 4 <|
    dCI (m_AL_isEmpty xm N v37 m22) fun v40 m40 =>
    if v40 = 0 then (
      m_M_turn_51 xm N a0 v26 v30 1 m40
    ) else (
      m_M_turn_51 xm N a0 v26 v30 0 m40
    )
  )
theorem m_M_turn_ok (xm : Nat → Option kE) (N : Nat) {a0 : Nat} {mem : kM} {R : kO × kM} (h : m_M_turn xm N a0 mem = some R) : kCa xm kSm kDfl kFty kG 10 127 [.ref a0] mem (dEq R) := by
  refine wq_ca (show 1 ≤ 2 by decide) ?_
  change kGo xm kSm kDfl kFty kG 9 127 0 [(0, .ref a0)] [] mem (dEq R)
  unfold m_M_turn at h
  refine wp_run 2 (pc' := 2) (lv' := [(0, .ref a0)]) (st' := [.int 0, .ref a0]) (mem' := mem) rfl ?_
  refine wq_p rfl rfl h (fun m2 h => ?_)
  refine wp_run 1 (pc' := 6) (lv' := [(0, .ref a0)]) (st' := [.ref a0]) (mem' := m2) rfl ?_
  refine wq_gR rfl h (fun v6 h => ?_)
  obtain ⟨fk9, hk9, h⟩ := dRc_some h
  refine wq_cI rfl (kCall_v hk9 (as := []) (rest := []) ⟨by decide, rfl, (show 0 < 90 by decide), by decide⟩ (show 0 ≤ 8 by decide)) h (fun r hr => ca_up (by decide) (m_MS_all_ok xm N hr)) (fun v9 m9 h => ?_)
  refine wq_ne rfl h (fun h => ?_) (fun h => ?_)
  · refine wp_run 2 (pc' := 17) (lv' := [(0, .ref a0)]) (st' := [.int 1, .ref a0]) (mem' := m9) rfl ?_
    obtain ⟨fk17, hk17, h⟩ := dRc_some h
    refine wq_cI rfl (kCall_v hk17 (as := [.int 1]) (rest := []) ⟨by decide, rfl, (show 1 < 90 by decide), by decide⟩ (show 0 ≤ 8 by decide)) h (fun r hr => ca_up (by decide) (m_M_refuse_ok xm N hr)) (fun v17 m17 h => ?_)
    exact wq_ret rfl rfl h
  · refine wp_run 1 (pc' := 22) (lv' := [(0, .ref a0)]) (st' := [.ref a0]) (mem' := m9) rfl ?_
    obtain ⟨fk22, hk22, h⟩ := dRc_some h
    refine wq_cV rfl (kCall_v hk22 (as := []) (rest := []) ⟨by decide, rfl, (show 0 < 90 by decide), by decide⟩ (show 0 ≤ 8 by decide)) h (fun r hr => ca_up (by decide) (m_M_keep_ok xm N hr)) (fun m22 h => ?_)
    refine wp_run 1 (pc' := 26) (lv' := [(0, .ref a0)]) (st' := [.ref a0]) (mem' := m22) rfl ?_
    refine wq_gR rfl h (fun v26 h => ?_)
    refine wp_run 1 (pc' := 30) (lv' := [(0, .ref a0)]) (st' := [.ref v26, .ref v26]) (mem' := m22) rfl ?_
    refine wq_gI rfl h (fun v30 h => ?_)
    refine wp_run 1 (pc' := 34) (lv' := [(0, .ref a0)]) (st' := [.ref a0, .int v30, .ref v26]) (mem' := m22) rfl ?_
    refine wq_gR rfl h (fun v34 h => ?_)
    refine wq_gR rfl h (fun v37 h => ?_)
    obtain ⟨fk40, hk40, h⟩ := dRc_some h
    refine wq_cI rfl (kCall_v hk40 (as := []) (rest := [.int v30, .ref v26]) ⟨by decide, rfl, (show 0 < 90 by decide), by decide⟩ (show 2 ≤ 8 by decide)) h (fun r hr => ca_up (by decide) (m_AL_isEmpty_ok xm N hr)) (fun v40 m40 h => ?_)
    refine wq_eq rfl h (fun h => ?_) (fun h => ?_)
    · refine wp_run 1 (pc' := 51) (lv' := [(0, .ref a0)]) (st' := [.int 1, .int v30, .ref v26]) (mem' := m40) rfl ?_
      exact m_M_turn_51_ok xm N _ _ _ _ m40 R h
    · refine wp_run 2 (pc' := 51) (lv' := [(0, .ref a0)]) (st' := [.int 0, .int v30, .ref v26]) (mem' := m40) rfl ?_
      exact m_M_turn_51_ok xm N _ _ _ _ m40 R h
/-- KnitsteadModel.bind(I)I -/
def m_M_bind_147 (xm : Nat → Option kE) (N : Nat) (K112 : Nat → Int32 → Int32 → kM → dRes) (a0 : Nat) (a1 : Int32) (a4 : Int32) (s0 : Int32) (s1 : Int32) (mem : kM) : dRes :=
  dGR xm mem a0 15 2 fun v151 =>
  dGR xm mem a0 15 5 fun v155 =>
  dGR xm mem v155 14 1 fun v158 =>
  dRc xm mem v158 4 <|
  dCR (m_AL_remove xm N v158 (s0 - s1) mem) fun v163 m163 =>
  dCC xm m163 v163 0 2 <|
  dRc xm m163 v151 4 <|
  dCI (m_AL_add_1 xm N v151 v163 m163) fun v169 m169 =>
  dGR xm m169 a0 15 5 fun v174 =>
  dGI xm m169 v174 14 7 fun v178 =>
  dP xm m169 v174 14 7 (.int (v178 + 1)) fun m183 =>
  K112 a0 a1 (a4 + 1) m183
theorem m_M_bind_147_ok (xm : Nat → Option kE) (N : Nat) (K112 : Nat → Int32 → Int32 → kM → dRes) (hK112 : ∀ (a0 : Nat) (a1 : Int32) (a4 : Int32) (mem : kM) (R : kO × kM), K112 a0 a1 a4 mem = some R → kGo xm kSm kDfl kFty kG 9 128 112 [(0, .ref a0), (1, .int a1), (4, .int a4)] [] mem (dEq R)) : ∀ (a0 : Nat) (a1 : Int32) (a4 : Int32) (s0 : Int32) (s1 : Int32) (mem : kM) (R : kO × kM), m_M_bind_147 xm N K112 a0 a1 a4 s0 s1 mem = some R → kGo xm kSm kDfl kFty kG 9 128 147 [(0, .ref a0), (1, .int a1), (4, .int a4)] [.int s1, .int s0] mem (dEq R) := by
  intro a0 a1 a4 s0 s1 mem R h
  unfold m_M_bind_147 at h
  refine wp_run 3 (pc' := 151) (lv' := [(5, .int (s0 - s1)), (0, .ref a0), (1, .int a1), (4, .int a4)]) (st' := [.ref a0]) (mem' := mem) rfl ?_
  refine wq_gR rfl h (fun v151 h => ?_)
  refine wp_run 1 (pc' := 155) (lv' := [(5, .int (s0 - s1)), (0, .ref a0), (1, .int a1), (4, .int a4)]) (st' := [.ref a0, .ref v151]) (mem' := mem) rfl ?_
  refine wq_gR rfl h (fun v155 h => ?_)
  refine wq_gR rfl h (fun v158 h => ?_)
  refine wp_run 1 (pc' := 163) (lv' := [(5, .int (s0 - s1)), (0, .ref a0), (1, .int a1), (4, .int a4)]) (st' := [.int (s0 - s1), .ref v158, .ref v151]) (mem' := mem) rfl ?_
  obtain ⟨fk163, hk163, h⟩ := dRc_some h
  refine wq_cR rfl (kCall_v hk163 (as := [.int (s0 - s1)]) (rest := [.ref v151]) ⟨by decide, rfl, (show 1 < 90 by decide), by decide⟩ (show 1 ≤ 8 by decide)) h (fun r hr => ca_up (by decide) (m_AL_remove_ok xm N hr)) (fun v163 m163 h => ?_)
  refine wq_cc rfl h (fun h => ?_)
  obtain ⟨fk169, hk169, h⟩ := dRc_some h
  refine wq_cI rfl (kCall_v hk169 (as := [.ref v163]) (rest := []) ⟨by decide, rfl, (show 1 < 90 by decide), by decide⟩ (show 0 ≤ 8 by decide)) h (fun r hr => ca_up (by decide) (m_AL_add_1_ok xm N hr)) (fun v169 m169 h => ?_)
  refine wp_run 2 (pc' := 174) (lv' := [(5, .int (s0 - s1)), (0, .ref a0), (1, .int a1), (4, .int a4)]) (st' := [.ref a0]) (mem' := m169) rfl ?_
  refine wq_gR rfl h (fun v174 h => ?_)
  refine wp_run 1 (pc' := 178) (lv' := [(5, .int (s0 - s1)), (0, .ref a0), (1, .int a1), (4, .int a4)]) (st' := [.ref v174, .ref v174]) (mem' := m169) rfl ?_
  refine wq_gI rfl h (fun v178 h => ?_)
  refine wp_run 2 (pc' := 183) (lv' := [(5, .int (s0 - s1)), (0, .ref a0), (1, .int a1), (4, .int a4)]) (st' := [.int (v178 + 1), .ref v174]) (mem' := m169) rfl ?_
  refine wq_p rfl rfl h (fun m183 h => ?_)
  refine wp_run 2 (pc' := 112) (lv' := [(4, .int (a4 + 1)), (5, .int (s0 - s1)), (0, .ref a0), (1, .int a1)]) (st' := []) (mem' := m183) rfl ?_
  refine kGo_sub (lvS_of [2, 3, 0] rfl [4, 5, 0, 1] rfl (by decide)) ?_
  exact hK112 _ _ _ m183 R h
def m_M_bind_112 (xm : Nat → Option kE) (N : Nat) : Nat → Nat → Int32 → Int32 → kM → dRes
  | 0, _, _, _, _ => none
  | n + 1, a0, a1, a4, mem =>
    if a4 < a1 then (
      dGR xm mem a0 15 5 fun v119 =>
      dGR xm mem v119 14 1 fun v122 =>
      dRc xm mem v122 4 <|
      dCI (m_AL_size xm N v122 mem) fun v125 m125 =>
      dGR xm m125 a0 15 5 fun v129 =>
      dGR xm m125 v129 14 1 fun v132 =>
      dRc xm m125 v132 4 <|
      dCI (m_AL_size xm N v132 m125) fun v135 m135 =>
      if v135 = 1 then (
        m_M_bind_147 xm N (fun a0 a1 a4 mem => m_M_bind_112 xm N n a0 a1 a4 mem) a0 a1 a4 v125 1 m135
      ) else (
        m_M_bind_147 xm N (fun a0 a1 a4 mem => m_M_bind_112 xm N n a0 a1 a4 mem) a0 a1 a4 v125 2 m135
      )
    ) else (
      dGR xm mem a0 15 5 fun v193 =>
      dRc xm mem v193 14 <|
      dCI (m_MS_all xm N v193 mem) fun v196 m196 =>
      some (.inl (some (.int v196)), m196)
    )
theorem m_M_bind_112_ok (xm : Nat → Option kE) (N : Nat) : ∀ (n : Nat) (a0 : Nat) (a1 : Int32) (a4 : Int32) (mem : kM) (R : kO × kM), m_M_bind_112 xm N n a0 a1 a4 mem = some R → kGo xm kSm kDfl kFty kG 9 128 112 [(0, .ref a0), (1, .int a1), (4, .int a4)] [] mem (dEq R) := by
  intro n
  induction n with
  | zero => intro a0 a1 a4 mem R h; cases h
  | succ n ih =>
    intro a0 a1 a4 mem R h
    rw [m_M_bind_112] at h
    refine wp_run 2 (pc' := 115) (lv' := [(0, .ref a0), (1, .int a1), (4, .int a4)]) (st' := [.int a1, .int a4]) (mem' := mem) rfl ?_
    refine wq_ge2 rfl h (fun h => ?_) (fun h => ?_)
    · refine wp_run 1 (pc' := 119) (lv' := [(0, .ref a0), (1, .int a1), (4, .int a4)]) (st' := [.ref a0]) (mem' := mem) rfl ?_
      refine wq_gR rfl h (fun v119 h => ?_)
      refine wq_gR rfl h (fun v122 h => ?_)
      obtain ⟨fk125, hk125, h⟩ := dRc_some h
      refine wq_cI rfl (kCall_v hk125 (as := []) (rest := []) ⟨by decide, rfl, (show 0 < 90 by decide), by decide⟩ (show 0 ≤ 8 by decide)) h (fun r hr => ca_up (by decide) (m_AL_size_ok xm N hr)) (fun v125 m125 h => ?_)
      refine wp_run 1 (pc' := 129) (lv' := [(0, .ref a0), (1, .int a1), (4, .int a4)]) (st' := [.ref a0, .int v125]) (mem' := m125) rfl ?_
      refine wq_gR rfl h (fun v129 h => ?_)
      refine wq_gR rfl h (fun v132 h => ?_)
      obtain ⟨fk135, hk135, h⟩ := dRc_some h
      refine wq_cI rfl (kCall_v hk135 (as := []) (rest := [.int v125]) ⟨by decide, rfl, (show 0 < 90 by decide), by decide⟩ (show 1 ≤ 8 by decide)) h (fun r hr => ca_up (by decide) (m_AL_size_ok xm N hr)) (fun v135 m135 h => ?_)
      refine wp_run 1 (pc' := 139) (lv' := [(0, .ref a0), (1, .int a1), (4, .int a4)]) (st' := [.int 1, .int v135, .int v125]) (mem' := m135) rfl ?_
      refine wq_ne2 rfl h (fun h => ?_) (fun h => ?_)
      · refine wp_run 2 (pc' := 147) (lv' := [(0, .ref a0), (1, .int a1), (4, .int a4)]) (st' := [.int 1, .int v125]) (mem' := m135) rfl ?_
        exact m_M_bind_147_ok xm N _ ih _ _ _ _ _ m135 R h
      · refine wp_run 1 (pc' := 147) (lv' := [(0, .ref a0), (1, .int a1), (4, .int a4)]) (st' := [.int 2, .int v125]) (mem' := m135) rfl ?_
        exact m_M_bind_147_ok xm N _ ih _ _ _ _ _ m135 R h
    · refine wp_run 1 (pc' := 193) (lv' := [(0, .ref a0), (1, .int a1), (4, .int a4)]) (st' := [.ref a0]) (mem' := mem) rfl ?_
      refine wq_gR rfl h (fun v193 h => ?_)
      obtain ⟨fk196, hk196, h⟩ := dRc_some h
      refine wq_cI rfl (kCall_v hk196 (as := []) (rest := []) ⟨by decide, rfl, (show 0 < 90 by decide), by decide⟩ (show 0 ≤ 8 by decide)) h (fun r hr => ca_up (by decide) (m_MS_all_ok xm N hr)) (fun v196 m196 h => ?_)
      exact wq_ret rfl rfl h
def m_M_bind_109 (xm : Nat → Option kE) (N : Nat) (a0 : Nat) (a1 : Int32) (mem : kM) : dRes :=
  m_M_bind_112 xm N N a0 a1 0 mem
theorem m_M_bind_109_ok (xm : Nat → Option kE) (N : Nat) : ∀ (a0 : Nat) (a1 : Int32) (mem : kM) (R : kO × kM), m_M_bind_109 xm N a0 a1 mem = some R → kGo xm kSm kDfl kFty kG 9 128 109 [(0, .ref a0), (1, .int a1)] [] mem (dEq R) := by
  intro a0 a1 mem R h
  unfold m_M_bind_109 at h
  refine wp_run 2 (pc' := 112) (lv' := [(4, .int 0), (0, .ref a0), (1, .int a1)]) (st' := []) (mem' := mem) rfl ?_
  refine kGo_sub (lvS_of [1, 2, 0] rfl [4, 0, 1] rfl (by decide)) ?_
  exact m_M_bind_112_ok xm N N _ _ _ mem R h
def m_M_bind_84 (xm : Nat → Option kE) (N : Nat) (a0 : Nat) (a1 : Int32) (a3 : Int32) (mem : kM) : dRes :=
  dRc xm mem a0 15 <|
  dCV (m_M_keep xm N a0 mem) fun m85 =>
  if a3 = 0 then (
    m_M_bind_109 xm N a0 a1 m85
  ) else (
    dGR xm m85 a0 15 5 fun v93 =>
    dGR xm m85 v93 14 3 fun v96 =>
    dGI xm m85 a0 15 7 fun v100 =>
    dIL xm 0 m85 v96 v100 fun v104 =>
    dIS xm m85 v96 v100 (v104 - 6) fun m108 =>
    m_M_bind_109 xm N a0 a1 m108
  )
theorem m_M_bind_84_ok (xm : Nat → Option kE) (N : Nat) : ∀ (a0 : Nat) (a1 : Int32) (a3 : Int32) (mem : kM) (R : kO × kM), m_M_bind_84 xm N a0 a1 a3 mem = some R → kGo xm kSm kDfl kFty kG 9 128 84 [(0, .ref a0), (1, .int a1), (3, .int a3)] [] mem (dEq R) := by
  intro a0 a1 a3 mem R h
  unfold m_M_bind_84 at h
  refine wp_run 1 (pc' := 85) (lv' := [(0, .ref a0), (1, .int a1), (3, .int a3)]) (st' := [.ref a0]) (mem' := mem) rfl ?_
  obtain ⟨fk85, hk85, h⟩ := dRc_some h
  refine wq_cV rfl (kCall_v hk85 (as := []) (rest := []) ⟨by decide, rfl, (show 0 < 90 by decide), by decide⟩ (show 0 ≤ 8 by decide)) h (fun r hr => ca_up (by decide) (m_M_keep_ok xm N hr)) (fun m85 h => ?_)
  refine wp_run 1 (pc' := 89) (lv' := [(0, .ref a0), (1, .int a1), (3, .int a3)]) (st' := [.int a3]) (mem' := m85) rfl ?_
  refine wq_eq rfl h (fun h => ?_) (fun h => ?_)
  · refine kGo_sub (lvS_of [0, 1] rfl [0, 1, 3] rfl (by decide)) ?_
    exact m_M_bind_109_ok xm N _ _ m85 R h
  · refine wp_run 1 (pc' := 93) (lv' := [(0, .ref a0), (1, .int a1), (3, .int a3)]) (st' := [.ref a0]) (mem' := m85) rfl ?_
    refine wq_gR rfl h (fun v93 h => ?_)
    refine wq_gR rfl h (fun v96 h => ?_)
    refine wp_run 1 (pc' := 100) (lv' := [(0, .ref a0), (1, .int a1), (3, .int a3)]) (st' := [.ref a0, .ref v96]) (mem' := m85) rfl ?_
    refine wq_gI rfl h (fun v100 h => ?_)
    refine wp_run 1 (pc' := 104) (lv' := [(0, .ref a0), (1, .int a1), (3, .int a3)]) (st' := [.int v100, .ref v96, .int v100, .ref v96]) (mem' := m85) rfl ?_
    refine wq_iL rfl h (fun v104 h => ?_)
    refine wp_run 2 (pc' := 108) (lv' := [(0, .ref a0), (1, .int a1), (3, .int a3)]) (st' := [.int (v104 - 6), .int v100, .ref v96]) (mem' := m85) rfl ?_
    refine wq_iS rfl h (fun m108 h => ?_)
    refine kGo_sub (lvS_of [0, 1] rfl [0, 1, 3] rfl (by decide)) ?_
    exact m_M_bind_109_ok xm N _ _ m108 R h
def m_M_bind_78 (xm : Nat → Option kE) (N : Nat) (a0 : Nat) (mem : kM) : dRes :=
  dRc xm mem a0 15 <|
  dCI (m_M_refuse xm N a0 2 mem) fun v80 m80 =>
  some (.inl (some (.int v80)), m80)
theorem m_M_bind_78_ok (xm : Nat → Option kE) (N : Nat) : ∀ (a0 : Nat) (mem : kM) (R : kO × kM), m_M_bind_78 xm N a0 mem = some R → kGo xm kSm kDfl kFty kG 9 128 78 [(0, .ref a0)] [] mem (dEq R) := by
  intro a0 mem R h
  unfold m_M_bind_78 at h
  refine wp_run 2 (pc' := 80) (lv' := [(0, .ref a0)]) (st' := [.int 2, .ref a0]) (mem' := mem) rfl ?_
  obtain ⟨fk80, hk80, h⟩ := dRc_some h
  refine wq_cI rfl (kCall_v hk80 (as := [.int 2]) (rest := []) ⟨by decide, rfl, (show 1 < 90 by decide), by decide⟩ (show 0 ≤ 8 by decide)) h (fun r hr => ca_up (by decide) (m_M_refuse_ok xm N hr)) (fun v80 m80 h => ?_)
  exact wq_ret rfl rfl h
def m_M_bind_65 (xm : Nat → Option kE) (N : Nat) (a0 : Nat) (a1 : Int32) (a3 : Int32) (mem : kM) : dRes :=
  if a3 = 0 then (
    m_M_bind_84 xm N a0 a1 a3 mem
  ) else (
    dRc xm mem a0 15 <|
    dCI (m_M_yarn xm N a0 mem) fun v70 m70 =>
    if v70 < 6 then (
      m_M_bind_78 xm N a0 m70
    ) else (
      m_M_bind_84 xm N a0 a1 a3 m70
    )
  )
theorem m_M_bind_65_ok (xm : Nat → Option kE) (N : Nat) : ∀ (a0 : Nat) (a1 : Int32) (a3 : Int32) (mem : kM) (R : kO × kM), m_M_bind_65 xm N a0 a1 a3 mem = some R → kGo xm kSm kDfl kFty kG 9 128 65 [(0, .ref a0), (1, .int a1), (3, .int a3)] [] mem (dEq R) := by
  intro a0 a1 a3 mem R h
  unfold m_M_bind_65 at h
  refine wp_run 1 (pc' := 66) (lv' := [(0, .ref a0), (1, .int a1), (3, .int a3)]) (st' := [.int a3]) (mem' := mem) rfl ?_
  refine wq_eq rfl h (fun h => ?_) (fun h => ?_)
  · exact m_M_bind_84_ok xm N _ _ _ mem R h
  · refine wp_run 1 (pc' := 70) (lv' := [(0, .ref a0), (1, .int a1), (3, .int a3)]) (st' := [.ref a0]) (mem' := mem) rfl ?_
    obtain ⟨fk70, hk70, h⟩ := dRc_some h
    refine wq_cI rfl (kCall_v hk70 (as := []) (rest := []) ⟨by decide, rfl, (show 0 < 90 by decide), by decide⟩ (show 0 ≤ 8 by decide)) h (fun r hr => ca_up (by decide) (m_M_yarn_ok xm N hr)) (fun v70 m70 h => ?_)
    refine wp_run 1 (pc' := 75) (lv' := [(0, .ref a0), (1, .int a1), (3, .int a3)]) (st' := [.int 6, .int v70]) (mem' := m70) rfl ?_
    refine wq_ge2 rfl h (fun h => ?_) (fun h => ?_)
    · refine kGo_sub (lvS_of [0] rfl [0, 1, 3] rfl (by decide)) ?_
      exact m_M_bind_78_ok xm N _ m70 R h
    · exact m_M_bind_84_ok xm N _ _ _ m70 R h
def m_M_bind_55 (xm : Nat → Option kE) (N : Nat) (a0 : Nat) (a1 : Int32) (a2 : Int32) (s0 : Int32) (mem : kM) : dRes :=
  if a1 < a2 then (
    m_M_bind_65 xm N a0 a1 s0 mem
  ) else (
    if s0 = 0 then (
      m_M_bind_78 xm N a0 mem
    ) else (
      m_M_bind_65 xm N a0 a1 s0 mem
    )
  )
theorem m_M_bind_55_ok (xm : Nat → Option kE) (N : Nat) : ∀ (a0 : Nat) (a1 : Int32) (a2 : Int32) (s0 : Int32) (mem : kM) (R : kO × kM), m_M_bind_55 xm N a0 a1 a2 s0 mem = some R → kGo xm kSm kDfl kFty kG 9 128 55 [(0, .ref a0), (1, .int a1), (2, .int a2)] [.int s0] mem (dEq R) := by
  intro a0 a1 a2 s0 mem R h
  unfold m_M_bind_55 at h
  refine wp_run 3 (pc' := 58) (lv' := [(3, .int s0), (0, .ref a0), (1, .int a1), (2, .int a2)]) (st' := [.int a2, .int a1]) (mem' := mem) rfl ?_
  refine wq_lt2 rfl h (fun h => ?_) (fun h => ?_)
  · refine kGo_sub (lvS_of [1, 2, 0] rfl [3, 0, 1, 2] rfl (by decide)) ?_
    exact m_M_bind_65_ok xm N _ _ _ mem R h
  · refine wp_run 1 (pc' := 62) (lv' := [(3, .int s0), (0, .ref a0), (1, .int a1), (2, .int a2)]) (st' := [.int s0]) (mem' := mem) rfl ?_
    refine wq_eq rfl h (fun h => ?_) (fun h => ?_)
    · refine kGo_sub (lvS_of [1] rfl [3, 0, 1, 2] rfl (by decide)) ?_
      exact m_M_bind_78_ok xm N _ mem R h
    · refine kGo_sub (lvS_of [1, 2, 0] rfl [3, 0, 1, 2] rfl (by decide)) ?_
      exact m_M_bind_65_ok xm N _ _ _ mem R h
def m_M_bind_54 (xm : Nat → Option kE) (N : Nat) (a0 : Nat) (a1 : Int32) (a2 : Int32) (mem : kM) : dRes :=
  m_M_bind_55 xm N a0 a1 a2 0 mem
theorem m_M_bind_54_ok (xm : Nat → Option kE) (N : Nat) : ∀ (a0 : Nat) (a1 : Int32) (a2 : Int32) (mem : kM) (R : kO × kM), m_M_bind_54 xm N a0 a1 a2 mem = some R → kGo xm kSm kDfl kFty kG 9 128 54 [(0, .ref a0), (1, .int a1), (2, .int a2)] [] mem (dEq R) := by
  intro a0 a1 a2 mem R h
  unfold m_M_bind_54 at h
  refine wp_run 1 (pc' := 55) (lv' := [(0, .ref a0), (1, .int a1), (2, .int a2)]) (st' := [.int 0]) (mem' := mem) rfl ?_
  exact m_M_bind_55_ok xm N _ _ _ _ mem R h
def m_M_bind (xm : Nat → Option kE) (N : Nat) (a0 : Nat) (a1 : Int32) (mem : kM) : dRes :=
  dP xm mem a0 15 0 (.int 0) fun m2 =>
  dCI (m_M_is xm N a1 1 24 m2) fun v9 m9 =>
  if v9 = 0 then (
    dRc xm m9 a0 15 <|
    dCI (m_M_refuse xm N a0 1 m9) fun v17 m17 =>
    some (.inl (some (.int v17)), m17)
  ) else (
    dGR xm m9 a0 15 5 fun v22 =>
    dGR xm m9 v22 14 1 fun v25 =>
    dRc xm m9 v25 4 <|
    dCI (m_AL_size xm N v25 m9) fun v28 m28 =>
    if a1 = v28 then (
      dGR xm m28 a0 15 5 fun v38 =>
      dGR xm m28 v38 14 0 fun v41 =>
      dRc xm m28 v41 4 <|
      dCI (m_AL_isEmpty xm N v41 m28) fun v44 m44 =>
      if v44 = 0 then (
        m_M_bind_54 xm N a0 a1 v28 m44
      ) else (
        m_M_bind_55 xm N a0 a1 v28 1 m44
      )
    ) else (
      m_M_bind_54 xm N a0 a1 v28 m28
    )
  )
theorem m_M_bind_ok (xm : Nat → Option kE) (N : Nat) {a0 : Nat} {a1 : Int32} {mem : kM} {R : kO × kM} (h : m_M_bind xm N a0 a1 mem = some R) : kCa xm kSm kDfl kFty kG 10 128 [.ref a0, .int a1] mem (dEq R) := by
  refine wq_ca (show 2 ≤ 6 by decide) ?_
  change kGo xm kSm kDfl kFty kG 9 128 0 [(0, .ref a0), (1, .int a1)] [] mem (dEq R)
  unfold m_M_bind at h
  refine wp_run 2 (pc' := 2) (lv' := [(0, .ref a0), (1, .int a1)]) (st' := [.int 0, .ref a0]) (mem' := mem) rfl ?_
  refine wq_p rfl rfl h (fun m2 h => ?_)
  refine wp_run 3 (pc' := 9) (lv' := [(0, .ref a0), (1, .int a1)]) (st' := [.int 24, .int 1, .int a1]) (mem' := m2) rfl ?_
  refine wq_cI rfl (kCall_s (as := [.int a1, .int 1, .int 24]) (rest := []) ⟨by decide, rfl⟩ (show 0 ≤ 8 by decide) (by decide)) h (fun r hr => ca_up (by decide) (m_M_is_ok xm N hr)) (fun v9 m9 h => ?_)
  refine wq_ne rfl h (fun h => ?_) (fun h => ?_)
  · refine wp_run 2 (pc' := 17) (lv' := [(0, .ref a0), (1, .int a1)]) (st' := [.int 1, .ref a0]) (mem' := m9) rfl ?_
    obtain ⟨fk17, hk17, h⟩ := dRc_some h
    refine wq_cI rfl (kCall_v hk17 (as := [.int 1]) (rest := []) ⟨by decide, rfl, (show 1 < 90 by decide), by decide⟩ (show 0 ≤ 8 by decide)) h (fun r hr => ca_up (by decide) (m_M_refuse_ok xm N hr)) (fun v17 m17 h => ?_)
    exact wq_ret rfl rfl h
  · refine wp_run 1 (pc' := 22) (lv' := [(0, .ref a0), (1, .int a1)]) (st' := [.ref a0]) (mem' := m9) rfl ?_
    refine wq_gR rfl h (fun v22 h => ?_)
    refine wq_gR rfl h (fun v25 h => ?_)
    obtain ⟨fk28, hk28, h⟩ := dRc_some h
    refine wq_cI rfl (kCall_v hk28 (as := []) (rest := []) ⟨by decide, rfl, (show 0 < 90 by decide), by decide⟩ (show 0 ≤ 8 by decide)) h (fun r hr => ca_up (by decide) (m_AL_size_ok xm N hr)) (fun v28 m28 h => ?_)
    refine wp_run 3 (pc' := 34) (lv' := [(2, .int v28), (0, .ref a0), (1, .int a1)]) (st' := [.int v28, .int a1]) (mem' := m28) rfl ?_
    refine wq_ne2 rfl h (fun h => ?_) (fun h => ?_)
    · refine wp_run 1 (pc' := 38) (lv' := [(2, .int v28), (0, .ref a0), (1, .int a1)]) (st' := [.ref a0]) (mem' := m28) rfl ?_
      refine wq_gR rfl h (fun v38 h => ?_)
      refine wq_gR rfl h (fun v41 h => ?_)
      obtain ⟨fk44, hk44, h⟩ := dRc_some h
      refine wq_cI rfl (kCall_v hk44 (as := []) (rest := []) ⟨by decide, rfl, (show 0 < 90 by decide), by decide⟩ (show 0 ≤ 8 by decide)) h (fun r hr => ca_up (by decide) (m_AL_isEmpty_ok xm N hr)) (fun v44 m44 h => ?_)
      refine wq_eq rfl h (fun h => ?_) (fun h => ?_)
      · refine kGo_sub (lvS_of [1, 2, 0] rfl [2, 0, 1] rfl (by decide)) ?_
        exact m_M_bind_54_ok xm N _ _ _ m44 R h
      · refine wp_run 2 (pc' := 55) (lv' := [(2, .int v28), (0, .ref a0), (1, .int a1)]) (st' := [.int 1]) (mem' := m44) rfl ?_
        refine kGo_sub (lvS_of [1, 2, 0] rfl [2, 0, 1] rfl (by decide)) ?_
        exact m_M_bind_55_ok xm N _ _ _ _ m44 R h
    · refine kGo_sub (lvS_of [1, 2, 0] rfl [2, 0, 1] rfl (by decide)) ?_
      exact m_M_bind_54_ok xm N _ _ _ m28 R h
/-- KnitsteadModel.drop()I -/
def m_M_drop_33 (xm : Nat → Option kE) (N : Nat) (a0 : Nat) (mem : kM) : dRes :=
  dRc xm mem a0 15 <|
  dCI (m_M_refuse xm N a0 1 mem) fun v35 m35 =>
  some (.inl (some (.int v35)), m35)
theorem m_M_drop_33_ok (xm : Nat → Option kE) (N : Nat) : ∀ (a0 : Nat) (mem : kM) (R : kO × kM), m_M_drop_33 xm N a0 mem = some R → kGo xm kSm kDfl kFty kG 9 129 33 [(0, .ref a0)] [] mem (dEq R) := by
  intro a0 mem R h
  unfold m_M_drop_33 at h
  refine wp_run 2 (pc' := 35) (lv' := [(0, .ref a0)]) (st' := [.int 1, .ref a0]) (mem' := mem) rfl ?_
  obtain ⟨fk35, hk35, h⟩ := dRc_some h
  refine wq_cI rfl (kCall_v hk35 (as := [.int 1]) (rest := []) ⟨by decide, rfl, (show 1 < 90 by decide), by decide⟩ (show 0 ≤ 8 by decide)) h (fun r hr => ca_up (by decide) (m_M_refuse_ok xm N hr)) (fun v35 m35 h => ?_)
  exact wq_ret rfl rfl h
def m_M_drop (xm : Nat → Option kE) (N : Nat) (a0 : Nat) (mem : kM) : dRes :=
  dP xm mem a0 15 0 (.int 0) fun m2 =>
  dGR xm m2 a0 15 5 fun v6 =>
  dGR xm m2 v6 14 0 fun v9 =>
  dRc xm m2 v9 4 <|
  dCI (m_AL_isEmpty xm N v9 m2) fun v12 m12 =>
  if v12 = 0 then (
    dGR xm m12 a0 15 5 fun v19 =>
    dGR xm m12 v19 14 2 fun v22 =>
    dRc xm m12 v22 4 <|
    dCI (m_AL_size xm N v22 m12) fun v25 m25 =>
    if v25 = 9 then (
      m_M_drop_33 xm N a0 m25
    ) else (
      dRc xm m25 a0 15 <|
      dCV (m_M_keep xm N a0 m25) fun m40 =>
      dGR xm m40 a0 15 5 fun v44 =>
      dGR xm m40 v44 14 0 fun v47 =>
      dCI (m_M_pull xm N v47 m40) fun v50 m50 =>
      dNI 0 m50 4 fun m55 p55 =>
      dIS xm m55 p55 0 v50 fun m60 =>
      dGR xm m60 a0 15 1 fun v64 =>
      dRc xm m60 v64 4 <|
      dCR (m_AL_get xm N v64 v50 m60) fun v68 m68 =>
      dCC xm m68 v68 0 13 <|
      dGI xm m68 v68 13 3 fun v74 =>
      dIS xm m68 p55 1 v74 fun m77 =>
      dIS xm m77 p55 2 0 fun m81 =>
      dIS xm m81 p55 3 1 fun m85 =>
      dGR xm m85 a0 15 5 fun v88 =>
      dGR xm m85 v88 14 2 fun v91 =>
      dRc xm m85 v91 4 <|
      dCI (m_AL_add_1 xm N v91 p55 m85) fun v95 m95 =>
      dGR xm m95 a0 15 5 fun v100 =>
      dGR xm m95 v100 14 2 fun v103 =>
      dRc xm m95 v103 4 <|
      dCI (m_AL_size xm N v103 m95) fun v106 m106 =>
      some (.inl (some (.int (v106 - 1))), m106)
    )
  ) else (
    m_M_drop_33 xm N a0 m12
  )
theorem m_M_drop_ok (xm : Nat → Option kE) (N : Nat) {a0 : Nat} {mem : kM} {R : kO × kM} (h : m_M_drop xm N a0 mem = some R) : kCa xm kSm kDfl kFty kG 10 129 [.ref a0] mem (dEq R) := by
  refine wq_ca (show 1 ≤ 3 by decide) ?_
  change kGo xm kSm kDfl kFty kG 9 129 0 [(0, .ref a0)] [] mem (dEq R)
  unfold m_M_drop at h
  refine wp_run 2 (pc' := 2) (lv' := [(0, .ref a0)]) (st' := [.int 0, .ref a0]) (mem' := mem) rfl ?_
  refine wq_p rfl rfl h (fun m2 h => ?_)
  refine wp_run 1 (pc' := 6) (lv' := [(0, .ref a0)]) (st' := [.ref a0]) (mem' := m2) rfl ?_
  refine wq_gR rfl h (fun v6 h => ?_)
  refine wq_gR rfl h (fun v9 h => ?_)
  obtain ⟨fk12, hk12, h⟩ := dRc_some h
  refine wq_cI rfl (kCall_v hk12 (as := []) (rest := []) ⟨by decide, rfl, (show 0 < 90 by decide), by decide⟩ (show 0 ≤ 8 by decide)) h (fun r hr => ca_up (by decide) (m_AL_isEmpty_ok xm N hr)) (fun v12 m12 h => ?_)
  refine wq_ne rfl h (fun h => ?_) (fun h => ?_)
  · refine wp_run 1 (pc' := 19) (lv' := [(0, .ref a0)]) (st' := [.ref a0]) (mem' := m12) rfl ?_
    refine wq_gR rfl h (fun v19 h => ?_)
    refine wq_gR rfl h (fun v22 h => ?_)
    obtain ⟨fk25, hk25, h⟩ := dRc_some h
    refine wq_cI rfl (kCall_v hk25 (as := []) (rest := []) ⟨by decide, rfl, (show 0 < 90 by decide), by decide⟩ (show 0 ≤ 8 by decide)) h (fun r hr => ca_up (by decide) (m_AL_size_ok xm N hr)) (fun v25 m25 h => ?_)
    refine wp_run 1 (pc' := 30) (lv' := [(0, .ref a0)]) (st' := [.int 9, .int v25]) (mem' := m25) rfl ?_
    refine wq_ne2 rfl h (fun h => ?_) (fun h => ?_)
    · exact m_M_drop_33_ok xm N _ m25 R h
    · refine wp_run 1 (pc' := 40) (lv' := [(0, .ref a0)]) (st' := [.ref a0]) (mem' := m25) rfl ?_
      obtain ⟨fk40, hk40, h⟩ := dRc_some h
      refine wq_cV rfl (kCall_v hk40 (as := []) (rest := []) ⟨by decide, rfl, (show 0 < 90 by decide), by decide⟩ (show 0 ≤ 8 by decide)) h (fun r hr => ca_up (by decide) (m_M_keep_ok xm N hr)) (fun m40 h => ?_)
      refine wp_run 1 (pc' := 44) (lv' := [(0, .ref a0)]) (st' := [.ref a0]) (mem' := m40) rfl ?_
      refine wq_gR rfl h (fun v44 h => ?_)
      refine wq_gR rfl h (fun v47 h => ?_)
      refine wq_cI rfl (kCall_s (as := [.ref v47]) (rest := []) ⟨by decide, rfl⟩ (show 0 ≤ 8 by decide) (by decide)) h (fun r hr => ca_up (by decide) (m_M_pull_ok xm N hr)) (fun v50 m50 h => ?_)
      refine wp_run 2 (pc' := 55) (lv' := [(1, .int v50), (0, .ref a0)]) (st' := [.int 4]) (mem' := m50) rfl ?_
      refine wq_nI rfl rfl h (fun m55 p55 h => ?_)
      refine wp_run 3 (pc' := 60) (lv' := [(1, .int v50), (0, .ref a0)]) (st' := [.int v50, .int 0, .ref p55, .ref p55]) (mem' := m55) rfl ?_
      refine wq_iS rfl h (fun m60 h => ?_)
      refine wp_run 3 (pc' := 64) (lv' := [(1, .int v50), (0, .ref a0)]) (st' := [.ref a0, .int 1, .ref p55, .ref p55]) (mem' := m60) rfl ?_
      refine wq_gR rfl h (fun v64 h => ?_)
      refine wp_run 1 (pc' := 68) (lv' := [(1, .int v50), (0, .ref a0)]) (st' := [.int v50, .ref v64, .int 1, .ref p55, .ref p55]) (mem' := m60) rfl ?_
      obtain ⟨fk68, hk68, h⟩ := dRc_some h
      refine wq_cR rfl (kCall_v hk68 (as := [.int v50]) (rest := [.int 1, .ref p55, .ref p55]) ⟨by decide, rfl, (show 1 < 90 by decide), by decide⟩ (show 3 ≤ 8 by decide)) h (fun r hr => ca_up (by decide) (m_AL_get_ok xm N hr)) (fun v68 m68 h => ?_)
      refine wq_cc rfl h (fun h => ?_)
      refine wq_gI rfl h (fun v74 h => ?_)
      refine wq_iS rfl h (fun m77 h => ?_)
      refine wp_run 3 (pc' := 81) (lv' := [(1, .int v50), (0, .ref a0)]) (st' := [.int 0, .int 2, .ref p55, .ref p55]) (mem' := m77) rfl ?_
      refine wq_iS rfl h (fun m81 h => ?_)
      refine wp_run 3 (pc' := 85) (lv' := [(1, .int v50), (0, .ref a0)]) (st' := [.int 1, .int 3, .ref p55, .ref p55]) (mem' := m81) rfl ?_
      refine wq_iS rfl h (fun m85 h => ?_)
      refine wp_run 2 (pc' := 88) (lv' := [(2, .ref p55), (1, .int v50), (0, .ref a0)]) (st' := [.ref a0]) (mem' := m85) rfl ?_
      refine wq_gR rfl h (fun v88 h => ?_)
      refine wq_gR rfl h (fun v91 h => ?_)
      refine wp_run 1 (pc' := 95) (lv' := [(2, .ref p55), (1, .int v50), (0, .ref a0)]) (st' := [.ref p55, .ref v91]) (mem' := m85) rfl ?_
      obtain ⟨fk95, hk95, h⟩ := dRc_some h
      refine wq_cI rfl (kCall_v hk95 (as := [.ref p55]) (rest := []) ⟨by decide, rfl, (show 1 < 90 by decide), by decide⟩ (show 0 ≤ 8 by decide)) h (fun r hr => ca_up (by decide) (m_AL_add_1_ok xm N hr)) (fun v95 m95 h => ?_)
      refine wp_run 2 (pc' := 100) (lv' := [(2, .ref p55), (1, .int v50), (0, .ref a0)]) (st' := [.ref a0]) (mem' := m95) rfl ?_
      refine wq_gR rfl h (fun v100 h => ?_)
      refine wq_gR rfl h (fun v103 h => ?_)
      obtain ⟨fk106, hk106, h⟩ := dRc_some h
      refine wq_cI rfl (kCall_v hk106 (as := []) (rest := []) ⟨by decide, rfl, (show 0 < 90 by decide), by decide⟩ (show 0 ≤ 8 by decide)) h (fun r hr => ca_up (by decide) (m_AL_size_ok xm N hr)) (fun v106 m106 h => ?_)
      refine wp_run 2 (pc' := 111) (lv' := [(2, .ref p55), (1, .int v50), (0, .ref a0)]) (st' := [.int (v106 - 1)]) (mem' := m106) rfl ?_
      exact wq_ret rfl rfl h
  · exact m_M_drop_33_ok xm N _ m12 R h
/-- KnitsteadModel.isRun(I)Z -/
def m_M_isRun (xm : Nat → Option kE) (N : Nat) (a0 : Nat) (a1 : Int32) (mem : kM) : dRes :=
  dGR xm mem a0 15 5 fun v3 =>
  dGR xm mem v3 14 2 fun v6 =>
  dRc xm mem v6 4 <|
  dCI (m_AL_size xm N v6 mem) fun v9 m9 =>
  dCI (m_M_is xm N a1 0 (v9 - 1) m9) fun v14 m14 =>
  dRt (some .boolean) v14 m14
theorem m_M_isRun_ok (xm : Nat → Option kE) (N : Nat) {a0 : Nat} {a1 : Int32} {mem : kM} {R : kO × kM} (h : m_M_isRun xm N a0 a1 mem = some R) : kCa xm kSm kDfl kFty kG 2 130 [.ref a0, .int a1] mem (dEq R) := by
  refine wq_ca (show 2 ≤ 2 by decide) ?_
  change kGo xm kSm kDfl kFty kG 1 130 0 [(0, .ref a0), (1, .int a1)] [] mem (dEq R)
  unfold m_M_isRun at h
  refine wp_run 3 (pc' := 3) (lv' := [(0, .ref a0), (1, .int a1)]) (st' := [.ref a0, .int 0, .int a1]) (mem' := mem) rfl ?_
  refine wq_gR rfl h (fun v3 h => ?_)
  refine wq_gR rfl h (fun v6 h => ?_)
  obtain ⟨fk9, hk9, h⟩ := dRc_some h
  refine wq_cI rfl (kCall_v hk9 (as := []) (rest := [.int 0, .int a1]) ⟨by decide, rfl, (show 0 < 90 by decide), by decide⟩ (show 2 ≤ 8 by decide)) h (fun r hr => ca_up (by decide) (m_AL_size_ok xm N hr)) (fun v9 m9 h => ?_)
  refine wp_run 2 (pc' := 14) (lv' := [(0, .ref a0), (1, .int a1)]) (st' := [.int (v9 - 1), .int 0, .int a1]) (mem' := m9) rfl ?_
  refine wq_cI rfl (kCall_s (as := [.int a1, .int 0, .int (v9 - 1)]) (rest := []) ⟨by decide, rfl⟩ (show 0 ≤ 8 by decide) (by decide)) h (fun r hr => ca_up (by decide) (m_M_is_ok xm N hr)) (fun v14 m14 h => ?_)
  exact wq_retB rfl rfl h
/-- KnitsteadModel.latch(I)I -/
def m_M_latch_50 (xm : Nat → Option kE) (N : Nat) (a0 : Nat) (mem : kM) : dRes :=
  dRc xm mem a0 15 <|
  dCI (m_M_refuse xm N a0 2 mem) fun v52 m52 =>
  some (.inl (some (.int v52)), m52)
theorem m_M_latch_50_ok (xm : Nat → Option kE) (N : Nat) : ∀ (a0 : Nat) (mem : kM) (R : kO × kM), m_M_latch_50 xm N a0 mem = some R → kGo xm kSm kDfl kFty kG 9 131 50 [(0, .ref a0)] [] mem (dEq R) := by
  intro a0 mem R h
  unfold m_M_latch_50 at h
  refine wp_run 2 (pc' := 52) (lv' := [(0, .ref a0)]) (st' := [.int 2, .ref a0]) (mem' := mem) rfl ?_
  obtain ⟨fk52, hk52, h⟩ := dRc_some h
  refine wq_cI rfl (kCall_v hk52 (as := [.int 2]) (rest := []) ⟨by decide, rfl, (show 1 < 90 by decide), by decide⟩ (show 0 ≤ 8 by decide)) h (fun r hr => ca_up (by decide) (m_M_refuse_ok xm N hr)) (fun v52 m52 h => ?_)
  exact wq_ret rfl rfl h
def m_M_latch (xm : Nat → Option kE) (N : Nat) (a0 : Nat) (a1 : Int32) (mem : kM) : dRes :=
  dP xm mem a0 15 0 (.int 0) fun m2 =>
  dRc xm m2 a0 15 <|
  dCI (m_M_isRun xm N a0 a1 m2) fun v7 m7 =>
  if v7 = 0 then (
    dRc xm m7 a0 15 <|
    dCI (m_M_refuse xm N a0 1 m7) fun v15 m15 =>
    some (.inl (some (.int v15)), m15)
  ) else (
    dGR xm m7 a0 15 5 fun v20 =>
    dGR xm m7 v20 14 2 fun v23 =>
    dRc xm m7 v23 4 <|
    dCR (m_AL_get xm N v23 a1 m7) fun v27 m27 =>
    dCC xm m27 v27 1 0 <|
    dIL xm 0 m27 v27 3 fun v34 =>
    if v34 = 0 then (
      m_M_latch_50 xm N a0 m27
    ) else (
      dGR xm m27 a0 15 5 fun v39 =>
      dRc xm m27 v39 14 <|
      dCI (m_MS_all xm N v39 m27) fun v42 m42 =>
      if v42 = 24 then (
        m_M_latch_50 xm N a0 m42
      ) else (
        dRc xm m42 a0 15 <|
        dCV (m_M_keep xm N a0 m42) fun m57 =>
        dGR xm m57 a0 15 5 fun v61 =>
        dGR xm m57 v61 14 2 fun v64 =>
        dRc xm m57 v64 4 <|
        dCR (m_AL_get xm N v64 a1 m57) fun v68 m68 =>
        dCC xm m68 v68 1 0 <|
        dIS xm m68 v68 3 0 fun m78 =>
        dGR xm m78 a0 15 5 fun v80 =>
        dGR xm m78 v80 14 0 fun v83 =>
        dIL xm 0 m78 v68 0 fun v88 =>
        dCR (m_Int_valueOf xm N v88 m78) fun v89 m89 =>
        dRc xm m89 v83 4 <|
        dCI (m_AL_add_1 xm N v83 v89 m89) fun v92 m92 =>
        dIL xm 0 m92 v68 2 fun v98 =>
        some (.inl (some (.int v98)), m92)
      )
    )
  )
theorem m_M_latch_ok (xm : Nat → Option kE) (N : Nat) {a0 : Nat} {a1 : Int32} {mem : kM} {R : kO × kM} (h : m_M_latch xm N a0 a1 mem = some R) : kCa xm kSm kDfl kFty kG 10 131 [.ref a0, .int a1] mem (dEq R) := by
  refine wq_ca (show 2 ≤ 3 by decide) ?_
  change kGo xm kSm kDfl kFty kG 9 131 0 [(0, .ref a0), (1, .int a1)] [] mem (dEq R)
  unfold m_M_latch at h
  refine wp_run 2 (pc' := 2) (lv' := [(0, .ref a0), (1, .int a1)]) (st' := [.int 0, .ref a0]) (mem' := mem) rfl ?_
  refine wq_p rfl rfl h (fun m2 h => ?_)
  refine wp_run 2 (pc' := 7) (lv' := [(0, .ref a0), (1, .int a1)]) (st' := [.int a1, .ref a0]) (mem' := m2) rfl ?_
  obtain ⟨fk7, hk7, h⟩ := dRc_some h
  refine wq_cI rfl (kCall_v hk7 (as := [.int a1]) (rest := []) ⟨by decide, rfl, (show 1 < 90 by decide), by decide⟩ (show 0 ≤ 8 by decide)) h (fun r hr => ca_up (by decide) (m_M_isRun_ok xm N hr)) (fun v7 m7 h => ?_)
  refine wq_ne rfl h (fun h => ?_) (fun h => ?_)
  · refine wp_run 2 (pc' := 15) (lv' := [(0, .ref a0), (1, .int a1)]) (st' := [.int 1, .ref a0]) (mem' := m7) rfl ?_
    obtain ⟨fk15, hk15, h⟩ := dRc_some h
    refine wq_cI rfl (kCall_v hk15 (as := [.int 1]) (rest := []) ⟨by decide, rfl, (show 1 < 90 by decide), by decide⟩ (show 0 ≤ 8 by decide)) h (fun r hr => ca_up (by decide) (m_M_refuse_ok xm N hr)) (fun v15 m15 h => ?_)
    exact wq_ret rfl rfl h
  · refine wp_run 1 (pc' := 20) (lv' := [(0, .ref a0), (1, .int a1)]) (st' := [.ref a0]) (mem' := m7) rfl ?_
    refine wq_gR rfl h (fun v20 h => ?_)
    refine wq_gR rfl h (fun v23 h => ?_)
    refine wp_run 1 (pc' := 27) (lv' := [(0, .ref a0), (1, .int a1)]) (st' := [.int a1, .ref v23]) (mem' := m7) rfl ?_
    obtain ⟨fk27, hk27, h⟩ := dRc_some h
    refine wq_cR rfl (kCall_v hk27 (as := [.int a1]) (rest := []) ⟨by decide, rfl, (show 1 < 90 by decide), by decide⟩ (show 0 ≤ 8 by decide)) h (fun r hr => ca_up (by decide) (m_AL_get_ok xm N hr)) (fun v27 m27 h => ?_)
    refine wq_cc rfl h (fun h => ?_)
    refine wp_run 1 (pc' := 34) (lv' := [(0, .ref a0), (1, .int a1)]) (st' := [.int 3, .ref v27]) (mem' := m27) rfl ?_
    refine wq_iL rfl h (fun v34 h => ?_)
    refine wq_eq rfl h (fun h => ?_) (fun h => ?_)
    · refine kGo_sub (lvS_of [0] rfl [0, 1] rfl (by decide)) ?_
      exact m_M_latch_50_ok xm N _ m27 R h
    · refine wp_run 1 (pc' := 39) (lv' := [(0, .ref a0), (1, .int a1)]) (st' := [.ref a0]) (mem' := m27) rfl ?_
      refine wq_gR rfl h (fun v39 h => ?_)
      obtain ⟨fk42, hk42, h⟩ := dRc_some h
      refine wq_cI rfl (kCall_v hk42 (as := []) (rest := []) ⟨by decide, rfl, (show 0 < 90 by decide), by decide⟩ (show 0 ≤ 8 by decide)) h (fun r hr => ca_up (by decide) (m_MS_all_ok xm N hr)) (fun v42 m42 h => ?_)
      refine wp_run 1 (pc' := 47) (lv' := [(0, .ref a0), (1, .int a1)]) (st' := [.int 24, .int v42]) (mem' := m42) rfl ?_
      refine wq_ne2 rfl h (fun h => ?_) (fun h => ?_)
      · refine kGo_sub (lvS_of [0] rfl [0, 1] rfl (by decide)) ?_
        exact m_M_latch_50_ok xm N _ m42 R h
      · refine wp_run 1 (pc' := 57) (lv' := [(0, .ref a0), (1, .int a1)]) (st' := [.ref a0]) (mem' := m42) rfl ?_
        obtain ⟨fk57, hk57, h⟩ := dRc_some h
        refine wq_cV rfl (kCall_v hk57 (as := []) (rest := []) ⟨by decide, rfl, (show 0 < 90 by decide), by decide⟩ (show 0 ≤ 8 by decide)) h (fun r hr => ca_up (by decide) (m_M_keep_ok xm N hr)) (fun m57 h => ?_)
        refine wp_run 1 (pc' := 61) (lv' := [(0, .ref a0), (1, .int a1)]) (st' := [.ref a0]) (mem' := m57) rfl ?_
        refine wq_gR rfl h (fun v61 h => ?_)
        refine wq_gR rfl h (fun v64 h => ?_)
        refine wp_run 1 (pc' := 68) (lv' := [(0, .ref a0), (1, .int a1)]) (st' := [.int a1, .ref v64]) (mem' := m57) rfl ?_
        obtain ⟨fk68, hk68, h⟩ := dRc_some h
        refine wq_cR rfl (kCall_v hk68 (as := [.int a1]) (rest := []) ⟨by decide, rfl, (show 1 < 90 by decide), by decide⟩ (show 0 ≤ 8 by decide)) h (fun r hr => ca_up (by decide) (m_AL_get_ok xm N hr)) (fun v68 m68 h => ?_)
        refine wq_cc rfl h (fun h => ?_)
        refine wp_run 4 (pc' := 78) (lv' := [(2, .ref v68), (0, .ref a0), (1, .int a1)]) (st' := [.int 0, .int 3, .ref v68]) (mem' := m68) rfl ?_
        refine wq_iS rfl h (fun m78 h => ?_)
        refine wp_run 1 (pc' := 80) (lv' := [(2, .ref v68), (0, .ref a0), (1, .int a1)]) (st' := [.ref a0]) (mem' := m78) rfl ?_
        refine wq_gR rfl h (fun v80 h => ?_)
        refine wq_gR rfl h (fun v83 h => ?_)
        refine wp_run 2 (pc' := 88) (lv' := [(2, .ref v68), (0, .ref a0), (1, .int a1)]) (st' := [.int 0, .ref v68, .ref v83]) (mem' := m78) rfl ?_
        refine wq_iL rfl h (fun v88 h => ?_)
        refine wq_cR rfl (kCall_s (as := [.int v88]) (rest := [.ref v83]) ⟨by decide, rfl⟩ (show 1 ≤ 8 by decide) (by decide)) h (fun r hr => ca_up (by decide) (m_Int_valueOf_ok xm N hr)) (fun v89 m89 h => ?_)
        obtain ⟨fk92, hk92, h⟩ := dRc_some h
        refine wq_cI rfl (kCall_v hk92 (as := [.ref v89]) (rest := []) ⟨by decide, rfl, (show 1 < 90 by decide), by decide⟩ (show 0 ≤ 8 by decide)) h (fun r hr => ca_up (by decide) (m_AL_add_1_ok xm N hr)) (fun v92 m92 h => ?_)
        refine wp_run 3 (pc' := 98) (lv' := [(2, .ref v68), (0, .ref a0), (1, .int a1)]) (st' := [.int 2, .ref v68]) (mem' := m92) rfl ?_
        refine wq_iL rfl h (fun v98 h => ?_)
        exact wq_ret rfl rfl h
/-- KnitsteadModel.pattern(I)I -/
def m_M_pattern_23 (xm : Nat → Option kE) (N : Nat) : Nat → Nat → Int32 → Int32 → kM → dRes
  | 0, _, _, _, _ => none
  | n + 1, a0, a1, a2, mem =>
    if 0 < a2 then (
      dNz 10 <|
      if (a2 - a2 / 10 * 10) = 0 then (
        dRc xm mem a0 15 <|
        dCI (m_M_refuse xm N a0 1 mem) fun v36 m36 =>
        some (.inl (some (.int v36)), m36)
      ) else (
        dNz 10 <|
        m_M_pattern_23 xm N n a0 a1 (a2 / 10) mem
      )
    ) else (
      dGR xm mem a0 15 3 fun v49 =>
      dRc xm mem v49 4 <|
      dCI (m_AL_size xm N v49 mem) fun v52 m52 =>
      if v52 = 6 then (
        dRc xm m52 a0 15 <|
        dCI (m_M_refuse xm N a0 2 m52) fun v62 m62 =>
        some (.inl (some (.int v62)), m62)
      ) else (
        dGR xm m52 a0 15 3 fun v67 =>
        dCR (m_Int_valueOf xm N a1 m52) fun v71 m71 =>
        dRc xm m71 v67 4 <|
        dCI (m_AL_add_1 xm N v67 v71 m71) fun v74 m74 =>
        dGR xm m74 a0 15 3 fun v79 =>
        dRc xm m74 v79 4 <|
        dCI (m_AL_size xm N v79 m74) fun v82 m82 =>
        some (.inl (some (.int (v82 - 1))), m82)
      )
    )
theorem m_M_pattern_23_ok (xm : Nat → Option kE) (N : Nat) : ∀ (n : Nat) (a0 : Nat) (a1 : Int32) (a2 : Int32) (mem : kM) (R : kO × kM), m_M_pattern_23 xm N n a0 a1 a2 mem = some R → kGo xm kSm kDfl kFty kG 7 132 23 [(0, .ref a0), (1, .int a1), (2, .int a2)] [] mem (dEq R) := by
  intro n
  induction n with
  | zero => intro a0 a1 a2 mem R h; cases h
  | succ n ih =>
    intro a0 a1 a2 mem R h
    rw [m_M_pattern_23] at h
    refine wp_run 1 (pc' := 24) (lv' := [(0, .ref a0), (1, .int a1), (2, .int a2)]) (st' := [.int a2]) (mem' := mem) rfl ?_
    refine wq_le rfl h (fun h => ?_) (fun h => ?_)
    · refine wp_run 2 (pc' := 30) (lv' := [(0, .ref a0), (1, .int a1), (2, .int a2)]) (st' := [.int 10, .int a2]) (mem' := mem) rfl ?_
      refine wq_irem rfl h (fun h => ?_)
      refine wq_ne rfl h (fun h => ?_) (fun h => ?_)
      · refine wp_run 2 (pc' := 36) (lv' := [(0, .ref a0), (1, .int a1), (2, .int a2)]) (st' := [.int 1, .ref a0]) (mem' := mem) rfl ?_
        obtain ⟨fk36, hk36, h⟩ := dRc_some h
        refine wq_cI rfl (kCall_v hk36 (as := [.int 1]) (rest := []) ⟨by decide, rfl, (show 1 < 90 by decide), by decide⟩ (show 0 ≤ 8 by decide)) h (fun r hr => ca_up (by decide) (m_M_refuse_ok xm N hr)) (fun v36 m36 h => ?_)
        exact wq_ret rfl rfl h
      · refine wp_run 2 (pc' := 43) (lv' := [(0, .ref a0), (1, .int a1), (2, .int a2)]) (st' := [.int 10, .int a2]) (mem' := mem) rfl ?_
        refine wq_idiv rfl h (fun h => ?_)
        refine wp_run 2 (pc' := 23) (lv' := [(2, .int (a2 / 10)), (0, .ref a0), (1, .int a1)]) (st' := []) (mem' := mem) rfl ?_
        refine kGo_sub (lvS_of [1, 2, 0] rfl [2, 0, 1] rfl (by decide)) ?_
        exact ih _ _ _ mem R h
    · refine wp_run 1 (pc' := 49) (lv' := [(0, .ref a0), (1, .int a1), (2, .int a2)]) (st' := [.ref a0]) (mem' := mem) rfl ?_
      refine wq_gR rfl h (fun v49 h => ?_)
      obtain ⟨fk52, hk52, h⟩ := dRc_some h
      refine wq_cI rfl (kCall_v hk52 (as := []) (rest := []) ⟨by decide, rfl, (show 0 < 90 by decide), by decide⟩ (show 0 ≤ 8 by decide)) h (fun r hr => ca_up (by decide) (m_AL_size_ok xm N hr)) (fun v52 m52 h => ?_)
      refine wp_run 1 (pc' := 57) (lv' := [(0, .ref a0), (1, .int a1), (2, .int a2)]) (st' := [.int 6, .int v52]) (mem' := m52) rfl ?_
      refine wq_ne2 rfl h (fun h => ?_) (fun h => ?_)
      · refine wp_run 2 (pc' := 62) (lv' := [(0, .ref a0), (1, .int a1), (2, .int a2)]) (st' := [.int 2, .ref a0]) (mem' := m52) rfl ?_
        obtain ⟨fk62, hk62, h⟩ := dRc_some h
        refine wq_cI rfl (kCall_v hk62 (as := [.int 2]) (rest := []) ⟨by decide, rfl, (show 1 < 90 by decide), by decide⟩ (show 0 ≤ 8 by decide)) h (fun r hr => ca_up (by decide) (m_M_refuse_ok xm N hr)) (fun v62 m62 h => ?_)
        exact wq_ret rfl rfl h
      · refine wp_run 1 (pc' := 67) (lv' := [(0, .ref a0), (1, .int a1), (2, .int a2)]) (st' := [.ref a0]) (mem' := m52) rfl ?_
        refine wq_gR rfl h (fun v67 h => ?_)
        refine wp_run 1 (pc' := 71) (lv' := [(0, .ref a0), (1, .int a1), (2, .int a2)]) (st' := [.int a1, .ref v67]) (mem' := m52) rfl ?_
        refine wq_cR rfl (kCall_s (as := [.int a1]) (rest := [.ref v67]) ⟨by decide, rfl⟩ (show 1 ≤ 8 by decide) (by decide)) h (fun r hr => ca_up (by decide) (m_Int_valueOf_ok xm N hr)) (fun v71 m71 h => ?_)
        obtain ⟨fk74, hk74, h⟩ := dRc_some h
        refine wq_cI rfl (kCall_v hk74 (as := [.ref v71]) (rest := []) ⟨by decide, rfl, (show 1 < 90 by decide), by decide⟩ (show 0 ≤ 8 by decide)) h (fun r hr => ca_up (by decide) (m_AL_add_1_ok xm N hr)) (fun v74 m74 h => ?_)
        refine wp_run 2 (pc' := 79) (lv' := [(0, .ref a0), (1, .int a1), (2, .int a2)]) (st' := [.ref a0]) (mem' := m74) rfl ?_
        refine wq_gR rfl h (fun v79 h => ?_)
        obtain ⟨fk82, hk82, h⟩ := dRc_some h
        refine wq_cI rfl (kCall_v hk82 (as := []) (rest := []) ⟨by decide, rfl, (show 0 < 90 by decide), by decide⟩ (show 0 ≤ 8 by decide)) h (fun r hr => ca_up (by decide) (m_AL_size_ok xm N hr)) (fun v82 m82 h => ?_)
        refine wp_run 2 (pc' := 87) (lv' := [(0, .ref a0), (1, .int a1), (2, .int a2)]) (st' := [.int (v82 - 1)]) (mem' := m82) rfl ?_
        exact wq_ret rfl rfl h
def m_M_pattern (xm : Nat → Option kE) (N : Nat) (a0 : Nat) (a1 : Int32) (mem : kM) : dRes :=
  dP xm mem a0 15 0 (.int 0) fun m2 =>
  dCI (m_M_is xm N a1 1 999999999 m2) fun v9 m9 =>
  if v9 = 0 then (
    dRc xm m9 a0 15 <|
    dCI (m_M_refuse xm N a0 1 m9) fun v17 m17 =>
    some (.inl (some (.int v17)), m17)
  ) else (
    m_M_pattern_23 xm N N a0 a1 a1 m9
  )
theorem m_M_pattern_ok (xm : Nat → Option kE) (N : Nat) {a0 : Nat} {a1 : Int32} {mem : kM} {R : kO × kM} (h : m_M_pattern xm N a0 a1 mem = some R) : kCa xm kSm kDfl kFty kG 8 132 [.ref a0, .int a1] mem (dEq R) := by
  refine wq_ca (show 2 ≤ 3 by decide) ?_
  change kGo xm kSm kDfl kFty kG 7 132 0 [(0, .ref a0), (1, .int a1)] [] mem (dEq R)
  unfold m_M_pattern at h
  refine wp_run 2 (pc' := 2) (lv' := [(0, .ref a0), (1, .int a1)]) (st' := [.int 0, .ref a0]) (mem' := mem) rfl ?_
  refine wq_p rfl rfl h (fun m2 h => ?_)
  refine wp_run 3 (pc' := 9) (lv' := [(0, .ref a0), (1, .int a1)]) (st' := [.int 999999999, .int 1, .int a1]) (mem' := m2) rfl ?_
  refine wq_cI rfl (kCall_s (as := [.int a1, .int 1, .int 999999999]) (rest := []) ⟨by decide, rfl⟩ (show 0 ≤ 8 by decide) (by decide)) h (fun r hr => ca_up (by decide) (m_M_is_ok xm N hr)) (fun v9 m9 h => ?_)
  refine wq_ne rfl h (fun h => ?_) (fun h => ?_)
  · refine wp_run 2 (pc' := 17) (lv' := [(0, .ref a0), (1, .int a1)]) (st' := [.int 1, .ref a0]) (mem' := m9) rfl ?_
    obtain ⟨fk17, hk17, h⟩ := dRc_some h
    refine wq_cI rfl (kCall_v hk17 (as := [.int 1]) (rest := []) ⟨by decide, rfl, (show 1 < 90 by decide), by decide⟩ (show 0 ≤ 8 by decide)) h (fun r hr => ca_up (by decide) (m_M_refuse_ok xm N hr)) (fun v17 m17 h => ?_)
    exact wq_ret rfl rfl h
  · refine wp_run 2 (pc' := 23) (lv' := [(2, .int a1), (0, .ref a0), (1, .int a1)]) (st' := []) (mem' := m9) rfl ?_
    refine kGo_sub (lvS_of [1, 2, 0] rfl [2, 0, 1] rfl (by decide)) ?_
    exact m_M_pattern_23_ok xm N N _ _ _ m9 R h
/-- KnitsteadModel.isPattern(I)Z -/
def m_M_isPattern (xm : Nat → Option kE) (N : Nat) (a0 : Nat) (a1 : Int32) (mem : kM) : dRes :=
  dGR xm mem a0 15 3 fun v3 =>
  dRc xm mem v3 4 <|
  dCI (m_AL_size xm N v3 mem) fun v6 m6 =>
  dCI (m_M_is xm N a1 0 (v6 - 1) m6) fun v11 m11 =>
  dRt (some .boolean) v11 m11
theorem m_M_isPattern_ok (xm : Nat → Option kE) (N : Nat) {a0 : Nat} {a1 : Int32} {mem : kM} {R : kO × kM} (h : m_M_isPattern xm N a0 a1 mem = some R) : kCa xm kSm kDfl kFty kG 2 133 [.ref a0, .int a1] mem (dEq R) := by
  refine wq_ca (show 2 ≤ 2 by decide) ?_
  change kGo xm kSm kDfl kFty kG 1 133 0 [(0, .ref a0), (1, .int a1)] [] mem (dEq R)
  unfold m_M_isPattern at h
  refine wp_run 3 (pc' := 3) (lv' := [(0, .ref a0), (1, .int a1)]) (st' := [.ref a0, .int 0, .int a1]) (mem' := mem) rfl ?_
  refine wq_gR rfl h (fun v3 h => ?_)
  obtain ⟨fk6, hk6, h⟩ := dRc_some h
  refine wq_cI rfl (kCall_v hk6 (as := []) (rest := [.int 0, .int a1]) ⟨by decide, rfl, (show 0 < 90 by decide), by decide⟩ (show 2 ≤ 8 by decide)) h (fun r hr => ca_up (by decide) (m_AL_size_ok xm N hr)) (fun v6 m6 h => ?_)
  refine wp_run 2 (pc' := 11) (lv' := [(0, .ref a0), (1, .int a1)]) (st' := [.int (v6 - 1), .int 0, .int a1]) (mem' := m6) rfl ?_
  refine wq_cI rfl (kCall_s (as := [.int a1, .int 0, .int (v6 - 1)]) (rest := []) ⟨by decide, rfl⟩ (show 0 ≤ 8 by decide) (by decide)) h (fun r hr => ca_up (by decide) (m_M_is_ok xm N hr)) (fun v11 m11 h => ?_)
  exact wq_retB rfl rfl h
/-- KnitsteadModel.length(I)I -/
def m_M_length_4 (xm : Nat → Option kE) (N : Nat) : Nat → Int32 → Int32 → kM → dRes
  | 0, _, _, _ => none
  | n + 1, a1, a2, mem =>
    if 0 < a2 then (
      dNz 10 <|
      m_M_length_4 xm N n (a1 + 1) (a2 / 10) mem
    ) else (
      some (.inl (some (.int a1)), mem)
    )
theorem m_M_length_4_ok (xm : Nat → Option kE) (N : Nat) : ∀ (n : Nat) (a1 : Int32) (a2 : Int32) (mem : kM) (R : kO × kM), m_M_length_4 xm N n a1 a2 mem = some R → kGo xm kSm kDfl kFty kG 0 134 4 [(1, .int a1), (2, .int a2)] [] mem (dEq R) := by
  intro n
  induction n with
  | zero => intro a1 a2 mem R h; cases h
  | succ n ih =>
    intro a1 a2 mem R h
    rw [m_M_length_4] at h
    refine wp_run 1 (pc' := 5) (lv' := [(1, .int a1), (2, .int a2)]) (st' := [.int a2]) (mem' := mem) rfl ?_
    refine wq_le rfl h (fun h => ?_) (fun h => ?_)
    · refine wp_run 3 (pc' := 14) (lv' := [(1, .int (a1 + 1)), (2, .int a2)]) (st' := [.int 10, .int a2]) (mem' := mem) rfl ?_
      refine wq_idiv rfl h (fun h => ?_)
      refine wp_run 2 (pc' := 4) (lv' := [(2, .int (a2 / 10)), (1, .int (a1 + 1))]) (st' := []) (mem' := mem) rfl ?_
      refine kGo_sub (lvS_of [1, 0] rfl [2, 1] rfl (by decide)) ?_
      exact ih _ _ mem R h
    · refine wp_run 1 (pc' := 20) (lv' := [(1, .int a1), (2, .int a2)]) (st' := [.int a1]) (mem' := mem) rfl ?_
      exact wq_ret rfl rfl h
def m_M_length (xm : Nat → Option kE) (N : Nat) (a0 : Int32) (mem : kM) : dRes :=
  m_M_length_4 xm N N 0 a0 mem
theorem m_M_length_ok (xm : Nat → Option kE) (N : Nat) {a0 : Int32} {mem : kM} {R : kO × kM} (h : m_M_length xm N a0 mem = some R) : kCa xm kSm kDfl kFty kG 1 134 [.int a0] mem (dEq R) := by
  refine wq_ca (show 1 ≤ 3 by decide) ?_
  change kGo xm kSm kDfl kFty kG 0 134 0 [(0, .int a0)] [] mem (dEq R)
  unfold m_M_length at h
  refine wp_run 4 (pc' := 4) (lv' := [(2, .int a0), (1, .int 0), (0, .int a0)]) (st' := []) (mem' := mem) rfl ?_
  refine kGo_sub (lvS_of [1, 0] rfl [2, 1, 0] rfl (by decide)) ?_
  exact m_M_length_4_ok xm N N _ _ mem R h
/-- KnitsteadModel.step(II)I -/
def m_M_step_9 (xm : Nat → Option kE) (N : Nat) : Nat → Int32 → Int32 → Int32 → kM → dRes
  | 0, _, _, _, _ => none
  | n + 1, a1, a2, a3, mem =>
    if a1 < a3 then (
      dNz 10 <|
      m_M_step_9 xm N n a1 (a2 / 10) (a3 + (-1)) mem
    ) else (
      dNz 10 <|
      some (.inl (some (.int (a2 - a2 / 10 * 10))), mem)
    )
theorem m_M_step_9_ok (xm : Nat → Option kE) (N : Nat) : ∀ (n : Nat) (a1 : Int32) (a2 : Int32) (a3 : Int32) (mem : kM) (R : kO × kM), m_M_step_9 xm N n a1 a2 a3 mem = some R → kGo xm kSm kDfl kFty kG 1 135 9 [(1, .int a1), (2, .int a2), (3, .int a3)] [] mem (dEq R) := by
  intro n
  induction n with
  | zero => intro a1 a2 a3 mem R h; cases h
  | succ n ih =>
    intro a1 a2 a3 mem R h
    rw [m_M_step_9] at h
    refine wp_run 2 (pc' := 11) (lv' := [(1, .int a1), (2, .int a2), (3, .int a3)]) (st' := [.int a1, .int a3]) (mem' := mem) rfl ?_
    refine wq_le2 rfl h (fun h => ?_) (fun h => ?_)
    · refine wp_run 2 (pc' := 17) (lv' := [(1, .int a1), (2, .int a2), (3, .int a3)]) (st' := [.int 10, .int a2]) (mem' := mem) rfl ?_
      refine wq_idiv rfl h (fun h => ?_)
      refine wp_run 3 (pc' := 9) (lv' := [(3, .int (a3 + (-1))), (2, .int (a2 / 10)), (1, .int a1)]) (st' := []) (mem' := mem) rfl ?_
      refine kGo_sub (lvS_of [2, 1, 0] rfl [3, 2, 1] rfl (by decide)) ?_
      exact ih _ _ _ mem R h
    · refine wp_run 2 (pc' := 28) (lv' := [(1, .int a1), (2, .int a2), (3, .int a3)]) (st' := [.int 10, .int a2]) (mem' := mem) rfl ?_
      refine wq_irem rfl h (fun h => ?_)
      exact wq_ret rfl rfl h
def m_M_step (xm : Nat → Option kE) (N : Nat) (a0 : Int32) (a1 : Int32) (mem : kM) : dRes :=
  dCI (m_M_length xm N a0 mem) fun v3 m3 =>
  m_M_step_9 xm N N a1 a0 (v3 - 1) m3
theorem m_M_step_ok (xm : Nat → Option kE) (N : Nat) {a0 : Int32} {a1 : Int32} {mem : kM} {R : kO × kM} (h : m_M_step xm N a0 a1 mem = some R) : kCa xm kSm kDfl kFty kG 2 135 [.int a0, .int a1] mem (dEq R) := by
  refine wq_ca (show 2 ≤ 4 by decide) ?_
  change kGo xm kSm kDfl kFty kG 1 135 0 [(0, .int a0), (1, .int a1)] [] mem (dEq R)
  unfold m_M_step at h
  refine wp_run 3 (pc' := 3) (lv' := [(2, .int a0), (0, .int a0), (1, .int a1)]) (st' := [.int a0]) (mem' := mem) rfl ?_
  refine wq_cI rfl (kCall_s (as := [.int a0]) (rest := []) ⟨by decide, rfl⟩ (show 0 ≤ 8 by decide) (by decide)) h (fun r hr => ca_up (by decide) (m_M_length_ok xm N hr)) (fun v3 m3 h => ?_)
  refine wp_run 3 (pc' := 9) (lv' := [(3, .int (v3 - 1)), (2, .int a0), (0, .int a0), (1, .int a1)]) (st' := []) (mem' := m3) rfl ?_
  refine kGo_sub (lvS_of [3, 1, 0] rfl [3, 2, 0, 1] rfl (by decide)) ?_
  exact m_M_step_9_ok xm N N _ _ _ m3 R h
/-- KnitsteadModel.eats(I)I -/
def m_M_eats_11 (xm : Nat → Option kE) (N : Nat)  (mem : kM) : dRes :=
  some (.inl (some (.int 0)), mem)
theorem m_M_eats_11_ok (xm : Nat → Option kE) (N : Nat) : ∀ (mem : kM) (R : kO × kM), m_M_eats_11 xm N  mem = some R → kGo xm kSm kDfl kFty kG 0 136 11 [] [] mem (dEq R) := by
  intro  mem R h
  unfold m_M_eats_11 at h
  refine wp_run 2 (pc' := 46) (lv' := []) (st' := [.int 0]) (mem' := mem) rfl ?_
  exact wq_ret rfl rfl h
def m_M_eats_31 (xm : Nat → Option kE) (N : Nat)  (mem : kM) : dRes :=
  some (.inl (some (.int 2)), mem)
theorem m_M_eats_31_ok (xm : Nat → Option kE) (N : Nat) : ∀ (mem : kM) (R : kO × kM), m_M_eats_31 xm N  mem = some R → kGo xm kSm kDfl kFty kG 0 136 31 [] [] mem (dEq R) := by
  intro  mem R h
  unfold m_M_eats_31 at h
  refine wp_run 2 (pc' := 46) (lv' := []) (st' := [.int 2]) (mem' := mem) rfl ?_
  exact wq_ret rfl rfl h
def m_M_eats (xm : Nat → Option kE) (N : Nat) (a0 : Int32) (mem : kM) : dRes :=
  if a0 = 3 then (
    m_M_eats_11 xm N  mem
  ) else (
    if a0 = 7 then (
      m_M_eats_11 xm N  mem
    ) else (
      if a0 = 4 then (
        m_M_eats_31 xm N  mem
      ) else (
        if a0 = 5 then (
          m_M_eats_31 xm N  mem
        ) else (
          if a0 = 9 then (
            m_M_eats_31 xm N  mem
          ) else (
            if a0 = 8 then (
              some (.inl (some (.int 3)), mem)
            ) else (
              some (.inl (some (.int 1)), mem)
            )
          )
        )
      )
    )
  )
theorem m_M_eats_ok (xm : Nat → Option kE) (N : Nat) {a0 : Int32} {mem : kM} {R : kO × kM} (h : m_M_eats xm N a0 mem = some R) : kCa xm kSm kDfl kFty kG 1 136 [.int a0] mem (dEq R) := by
  refine wq_ca (show 1 ≤ 1 by decide) ?_
  change kGo xm kSm kDfl kFty kG 0 136 0 [(0, .int a0)] [] mem (dEq R)
  unfold m_M_eats at h
  refine wp_run 2 (pc' := 2) (lv' := [(0, .int a0)]) (st' := [.int 3, .int a0]) (mem' := mem) rfl ?_
  refine wq_eq2 rfl h (fun h => ?_) (fun h => ?_)
  · refine kGo_sub (lvS_of [] rfl [0] rfl (by decide)) ?_
    exact m_M_eats_11_ok xm N  mem R h
  · refine wp_run 2 (pc' := 8) (lv' := [(0, .int a0)]) (st' := [.int 7, .int a0]) (mem' := mem) rfl ?_
    refine wq_ne2 rfl h (fun h => ?_) (fun h => ?_)
    · refine kGo_sub (lvS_of [] rfl [0] rfl (by decide)) ?_
      exact m_M_eats_11_ok xm N  mem R h
    · refine wp_run 2 (pc' := 17) (lv' := [(0, .int a0)]) (st' := [.int 4, .int a0]) (mem' := mem) rfl ?_
      refine wq_eq2 rfl h (fun h => ?_) (fun h => ?_)
      · refine kGo_sub (lvS_of [] rfl [0] rfl (by decide)) ?_
        exact m_M_eats_31_ok xm N  mem R h
      · refine wp_run 2 (pc' := 22) (lv' := [(0, .int a0)]) (st' := [.int 5, .int a0]) (mem' := mem) rfl ?_
        refine wq_eq2 rfl h (fun h => ?_) (fun h => ?_)
        · refine kGo_sub (lvS_of [] rfl [0] rfl (by decide)) ?_
          exact m_M_eats_31_ok xm N  mem R h
        · refine wp_run 2 (pc' := 28) (lv' := [(0, .int a0)]) (st' := [.int 9, .int a0]) (mem' := mem) rfl ?_
          refine wq_ne2 rfl h (fun h => ?_) (fun h => ?_)
          · refine kGo_sub (lvS_of [] rfl [0] rfl (by decide)) ?_
            exact m_M_eats_31_ok xm N  mem R h
          · refine wp_run 2 (pc' := 38) (lv' := [(0, .int a0)]) (st' := [.int 8, .int a0]) (mem' := mem) rfl ?_
            refine wq_ne2 rfl h (fun h => ?_) (fun h => ?_)
            · refine wp_run 2 (pc' := 46) (lv' := [(0, .int a0)]) (st' := [.int 3]) (mem' := mem) rfl ?_
              exact wq_ret rfl rfl h
            · refine wp_run 1 (pc' := 46) (lv' := [(0, .int a0)]) (st' := [.int 1]) (mem' := mem) rfl ?_
              exact wq_ret rfl rfl h
/-- KnitsteadModel.takes(I)I -/
def m_M_takes_30 (xm : Nat → Option kE) (N : Nat)  (mem : kM) : dRes :=
  some (.inl (some (.int 0)), mem)
theorem m_M_takes_30_ok (xm : Nat → Option kE) (N : Nat) : ∀ (mem : kM) (R : kO × kM), m_M_takes_30 xm N  mem = some R → kGo xm kSm kDfl kFty kG 0 138 30 [] [] mem (dEq R) := by
  intro  mem R h
  unfold m_M_takes_30 at h
  refine wp_run 2 (pc' := 46) (lv' := []) (st' := [.int 0]) (mem' := mem) rfl ?_
  exact wq_ret rfl rfl h
def m_M_takes (xm : Nat → Option kE) (N : Nat) (a0 : Int32) (mem : kM) : dRes :=
  if a0 < 3 then (
    some (.inl (some (.int 4)), mem)
  ) else (
    if a0 = 3 then (
      some (.inl (some (.int 3)), mem)
    ) else (
      if a0 = 6 then (
        m_M_takes_30 xm N  mem
      ) else (
        if a0 = 7 then (
          m_M_takes_30 xm N  mem
        ) else (
          if a0 = 9 then (
            some (.inl (some (.int 11)), mem)
          ) else (
            some (.inl (some (.int 5)), mem)
          )
        )
      )
    )
  )
theorem m_M_takes_ok (xm : Nat → Option kE) (N : Nat) {a0 : Int32} {mem : kM} {R : kO × kM} (h : m_M_takes xm N a0 mem = some R) : kCa xm kSm kDfl kFty kG 1 138 [.int a0] mem (dEq R) := by
  refine wq_ca (show 1 ≤ 1 by decide) ?_
  change kGo xm kSm kDfl kFty kG 0 138 0 [(0, .int a0)] [] mem (dEq R)
  unfold m_M_takes at h
  refine wp_run 2 (pc' := 2) (lv' := [(0, .int a0)]) (st' := [.int 3, .int a0]) (mem' := mem) rfl ?_
  refine wq_ge2 rfl h (fun h => ?_) (fun h => ?_)
  · refine wp_run 2 (pc' := 46) (lv' := [(0, .int a0)]) (st' := [.int 4]) (mem' := mem) rfl ?_
    exact wq_ret rfl rfl h
  · refine wp_run 2 (pc' := 11) (lv' := [(0, .int a0)]) (st' := [.int 3, .int a0]) (mem' := mem) rfl ?_
    refine wq_ne2 rfl h (fun h => ?_) (fun h => ?_)
    · refine wp_run 2 (pc' := 46) (lv' := [(0, .int a0)]) (st' := [.int 3]) (mem' := mem) rfl ?_
      exact wq_ret rfl rfl h
    · refine wp_run 2 (pc' := 21) (lv' := [(0, .int a0)]) (st' := [.int 6, .int a0]) (mem' := mem) rfl ?_
      refine wq_eq2 rfl h (fun h => ?_) (fun h => ?_)
      · refine kGo_sub (lvS_of [] rfl [0] rfl (by decide)) ?_
        exact m_M_takes_30_ok xm N  mem R h
      · refine wp_run 2 (pc' := 27) (lv' := [(0, .int a0)]) (st' := [.int 7, .int a0]) (mem' := mem) rfl ?_
        refine wq_ne2 rfl h (fun h => ?_) (fun h => ?_)
        · refine kGo_sub (lvS_of [] rfl [0] rfl (by decide)) ?_
          exact m_M_takes_30_ok xm N  mem R h
        · refine wp_run 2 (pc' := 37) (lv' := [(0, .int a0)]) (st' := [.int 9, .int a0]) (mem' := mem) rfl ?_
          refine wq_ne2 rfl h (fun h => ?_) (fun h => ?_)
          · refine wp_run 2 (pc' := 46) (lv' := [(0, .int a0)]) (st' := [.int 11]) (mem' := mem) rfl ?_
            exact wq_ret rfl rfl h
          · refine wp_run 1 (pc' := 46) (lv' := [(0, .int a0)]) (st' := [.int 5]) (mem' := mem) rfl ?_
            exact wq_ret rfl rfl h
/-- KnitsteadModel.can(IIII)Z -/
def m_M_can_52 (xm : Nat → Option kE) (N : Nat)  (mem : kM) : dRes :=
  some (.inl (some (.int 1)), mem)
theorem m_M_can_52_ok (xm : Nat → Option kE) (N : Nat) : ∀ (mem : kM) (R : kO × kM), m_M_can_52 xm N  mem = some R → kGo xm kSm kDfl kFty kG 1 139 52 [] [] mem (dEq R) := by
  intro  mem R h
  unfold m_M_can_52 at h
  refine wp_run 2 (pc' := 57) (lv' := []) (st' := [.int 1]) (mem' := mem) rfl ?_
  exact wq_ret rfl rfl h
def m_M_can_46 (xm : Nat → Option kE) (N : Nat) (a2 : Int32) (mem : kM) : dRes :=
  if a2 < 24 then (
    m_M_can_52 xm N  mem
  ) else (
    some (.inl (some (.int 0)), mem)
  )
theorem m_M_can_46_ok (xm : Nat → Option kE) (N : Nat) : ∀ (a2 : Int32) (mem : kM) (R : kO × kM), m_M_can_46 xm N a2 mem = some R → kGo xm kSm kDfl kFty kG 1 139 46 [(2, .int a2)] [] mem (dEq R) := by
  intro a2 mem R h
  unfold m_M_can_46 at h
  refine wp_run 2 (pc' := 49) (lv' := [(2, .int a2)]) (st' := [.int 24, .int a2]) (mem' := mem) rfl ?_
  refine wq_ge2 rfl h (fun h => ?_) (fun h => ?_)
  · refine kGo_sub (lvS_of [] rfl [2] rfl (by decide)) ?_
    exact m_M_can_52_ok xm N  mem R h
  · refine wp_run 1 (pc' := 57) (lv' := [(2, .int a2)]) (st' := [.int 0]) (mem' := mem) rfl ?_
    exact wq_ret rfl rfl h
def m_M_can_35 (xm : Nat → Option kE) (N : Nat) (a0 : Int32) (a2 : Int32) (mem : kM) : dRes :=
  if a0 = 3 then (
    m_M_can_46 xm N a2 mem
  ) else (
    if a0 = 9 then (
      m_M_can_46 xm N a2 mem
    ) else (
      m_M_can_52 xm N  mem
    )
  )
theorem m_M_can_35_ok (xm : Nat → Option kE) (N : Nat) : ∀ (a0 : Int32) (a2 : Int32) (mem : kM) (R : kO × kM), m_M_can_35 xm N a0 a2 mem = some R → kGo xm kSm kDfl kFty kG 1 139 35 [(0, .int a0), (2, .int a2)] [] mem (dEq R) := by
  intro a0 a2 mem R h
  unfold m_M_can_35 at h
  refine wp_run 2 (pc' := 37) (lv' := [(0, .int a0), (2, .int a2)]) (st' := [.int 3, .int a0]) (mem' := mem) rfl ?_
  refine wq_eq2 rfl h (fun h => ?_) (fun h => ?_)
  · refine kGo_sub (lvS_of [1] rfl [0, 2] rfl (by decide)) ?_
    exact m_M_can_46_ok xm N _ mem R h
  · refine wp_run 2 (pc' := 43) (lv' := [(0, .int a0), (2, .int a2)]) (st' := [.int 9, .int a0]) (mem' := mem) rfl ?_
    refine wq_ne2 rfl h (fun h => ?_) (fun h => ?_)
    · refine kGo_sub (lvS_of [1] rfl [0, 2] rfl (by decide)) ?_
      exact m_M_can_46_ok xm N _ mem R h
    · refine kGo_sub (lvS_of [] rfl [0, 2] rfl (by decide)) ?_
      exact m_M_can_52_ok xm N  mem R h
def m_M_can_21 (xm : Nat → Option kE) (N : Nat) (a0 : Int32) (a2 : Int32) (a3 : Int32) (a4 : Int32) (s0 : Int32) (s1 : Int32) (mem : kM) : dRes :=
  if s0 < s1 then (
    some (.inl (some (.int 0)), mem)
  ) else (
    if a4 = 0 then (
      m_M_can_35 xm N a0 a2 mem
    ) else (
      if a3 < a4 then (
        some (.inl (some (.int 0)), mem)
      ) else (
        m_M_can_35 xm N a0 a2 mem
      )
    )
  )
theorem m_M_can_21_ok (xm : Nat → Option kE) (N : Nat) : ∀ (a0 : Int32) (a2 : Int32) (a3 : Int32) (a4 : Int32) (s0 : Int32) (s1 : Int32) (mem : kM) (R : kO × kM), m_M_can_21 xm N a0 a2 a3 a4 s0 s1 mem = some R → kGo xm kSm kDfl kFty kG 1 139 21 [(0, .int a0), (2, .int a2), (3, .int a3), (4, .int a4)] [.int s1, .int s0] mem (dEq R) := by
  intro a0 a2 a3 a4 s0 s1 mem R h
  unfold m_M_can_21 at h
  refine wq_lt2 rfl h (fun h => ?_) (fun h => ?_)
  · refine wp_run 1 (pc' := 57) (lv' := [(0, .int a0), (2, .int a2), (3, .int a3), (4, .int a4)]) (st' := [.int 0]) (mem' := mem) rfl ?_
    exact wq_ret rfl rfl h
  · refine wp_run 1 (pc' := 26) (lv' := [(0, .int a0), (2, .int a2), (3, .int a3), (4, .int a4)]) (st' := [.int a4]) (mem' := mem) rfl ?_
    refine wq_eq rfl h (fun h => ?_) (fun h => ?_)
    · refine kGo_sub (lvS_of [0, 1] rfl [0, 2, 3, 4] rfl (by decide)) ?_
      exact m_M_can_35_ok xm N _ _ mem R h
    · refine wp_run 2 (pc' := 32) (lv' := [(0, .int a0), (2, .int a2), (3, .int a3), (4, .int a4)]) (st' := [.int a4, .int a3]) (mem' := mem) rfl ?_
      refine wq_lt2 rfl h (fun h => ?_) (fun h => ?_)
      · refine wp_run 1 (pc' := 57) (lv' := [(0, .int a0), (2, .int a2), (3, .int a3), (4, .int a4)]) (st' := [.int 0]) (mem' := mem) rfl ?_
        exact wq_ret rfl rfl h
      · refine kGo_sub (lvS_of [0, 1] rfl [0, 2, 3, 4] rfl (by decide)) ?_
        exact m_M_can_35_ok xm N _ _ mem R h
def m_M_can (xm : Nat → Option kE) (N : Nat) (a0 : Int32) (a1 : Int32) (a2 : Int32) (a3 : Int32) (mem : kM) : dRes :=
  dCI (m_M_takes xm N a0 mem) fun v1 m1 =>
  if a0 = 7 then (
    m_M_can_21 xm N a0 a2 a3 v1 a1 2 m1
  ) else (
    dCI (m_M_eats xm N a0 m1) fun v18 m18 =>
    m_M_can_21 xm N a0 a2 a3 v1 a1 v18 m18
  )
theorem m_M_can_ok (xm : Nat → Option kE) (N : Nat) {a0 : Int32} {a1 : Int32} {a2 : Int32} {a3 : Int32} {mem : kM} {R : kO × kM} (h : m_M_can xm N a0 a1 a2 a3 mem = some R) : kCa xm kSm kDfl kFty kG 2 139 [.int a0, .int a1, .int a2, .int a3] mem (dEq R) := by
  refine wq_ca (show 4 ≤ 5 by decide) ?_
  change kGo xm kSm kDfl kFty kG 1 139 0 [(0, .int a0), (1, .int a1), (2, .int a2), (3, .int a3)] [] mem (dEq R)
  unfold m_M_can at h
  refine wp_run 1 (pc' := 1) (lv' := [(0, .int a0), (1, .int a1), (2, .int a2), (3, .int a3)]) (st' := [.int a0]) (mem' := mem) rfl ?_
  refine wq_cI rfl (kCall_s (as := [.int a0]) (rest := []) ⟨by decide, rfl⟩ (show 0 ≤ 8 by decide) (by decide)) h (fun r hr => ca_up (by decide) (m_M_takes_ok xm N hr)) (fun v1 m1 h => ?_)
  refine wp_run 4 (pc' := 10) (lv' := [(4, .int v1), (0, .int a0), (1, .int a1), (2, .int a2), (3, .int a3)]) (st' := [.int 7, .int a0, .int a1]) (mem' := m1) rfl ?_
  refine wq_ne2 rfl h (fun h => ?_) (fun h => ?_)
  · refine wp_run 2 (pc' := 21) (lv' := [(4, .int v1), (0, .int a0), (1, .int a1), (2, .int a2), (3, .int a3)]) (st' := [.int 2, .int a1]) (mem' := m1) rfl ?_
    refine kGo_sub (lvS_of [1, 3, 4, 0] rfl [4, 0, 1, 2, 3] rfl (by decide)) ?_
    exact m_M_can_21_ok xm N _ _ _ _ _ _ m1 R h
  · refine wp_run 1 (pc' := 18) (lv' := [(4, .int v1), (0, .int a0), (1, .int a1), (2, .int a2), (3, .int a3)]) (st' := [.int a0, .int a1]) (mem' := m1) rfl ?_
    refine wq_cI rfl (kCall_s (as := [.int a0]) (rest := [.int a1]) ⟨by decide, rfl⟩ (show 1 ≤ 8 by decide) (by decide)) h (fun r hr => ca_up (by decide) (m_M_eats_ok xm N hr)) (fun v18 m18 h => ?_)
    refine kGo_sub (lvS_of [1, 3, 4, 0] rfl [4, 0, 1, 2, 3] rfl (by decide)) ?_
    exact m_M_can_21_ok xm N _ _ _ _ _ _ m18 R h
/-- KnitsteadModel.doStep(I)V -/
def m_M_doStep_59 (xm : Nat → Option kE) (N : Nat) (s0 : Nat) (s1 : Int32) (mem : kM) : dRes :=
  dRc xm mem s0 15 <|
  dCI (m_M_workNow xm N s0 s1 mem) fun v59 m59 =>
  some (.inl none, m59)
theorem m_M_doStep_59_ok (xm : Nat → Option kE) (N : Nat) : ∀ (s0 : Nat) (s1 : Int32) (mem : kM) (R : kO × kM), m_M_doStep_59 xm N s0 s1 mem = some R → kGo xm kSm kDfl kFty kG 9 140 59 [] [.int s1, .ref s0] mem (dEq R) := by
  intro s0 s1 mem R h
  unfold m_M_doStep_59 at h
  obtain ⟨fk59, hk59, h⟩ := dRc_some h
  refine wq_cI rfl (kCall_v hk59 (as := [.int s1]) (rest := []) ⟨by decide, rfl, (show 1 < 90 by decide), by decide⟩ (show 0 ≤ 8 by decide)) h (fun r hr => ca_up (by decide) (m_M_workNow_ok xm N hr)) (fun v59 m59 h => ?_)
  refine wp_run 2 (pc' := 138) (lv' := []) (st' := []) (mem' := m59) rfl ?_
  exact wq_end rfl rfl h
def m_M_doStep_48 (xm : Nat → Option kE) (N : Nat) (a0 : Nat) (a1 : Int32) (mem : kM) : dRes :=
  if a1 = 2 then (
    m_M_doStep_59 xm N a0 1 mem
  ) else (
    m_M_doStep_59 xm N a0 0 mem
  )
theorem m_M_doStep_48_ok (xm : Nat → Option kE) (N : Nat) : ∀ (a0 : Nat) (a1 : Int32) (mem : kM) (R : kO × kM), m_M_doStep_48 xm N a0 a1 mem = some R → kGo xm kSm kDfl kFty kG 9 140 48 [(0, .ref a0), (1, .int a1)] [] mem (dEq R) := by
  intro a0 a1 mem R h
  unfold m_M_doStep_48 at h
  refine wp_run 3 (pc' := 51) (lv' := [(0, .ref a0), (1, .int a1)]) (st' := [.int 2, .int a1, .ref a0]) (mem' := mem) rfl ?_
  refine wq_ne2 rfl h (fun h => ?_) (fun h => ?_)
  · refine wp_run 2 (pc' := 59) (lv' := [(0, .ref a0), (1, .int a1)]) (st' := [.int 1, .ref a0]) (mem' := mem) rfl ?_
    refine kGo_sub (lvS_of [] rfl [0, 1] rfl (by decide)) ?_
    exact m_M_doStep_59_ok xm N _ _ mem R h
  · refine wp_run 1 (pc' := 59) (lv' := [(0, .ref a0), (1, .int a1)]) (st' := [.int 0, .ref a0]) (mem' := mem) rfl ?_
    refine kGo_sub (lvS_of [] rfl [0, 1] rfl (by decide)) ?_
    exact m_M_doStep_59_ok xm N _ _ mem R h
def m_M_doStep_86 (xm : Nat → Option kE) (N : Nat) (s0 : Nat) (s1 : Int32) (s2 : Int32) (mem : kM) : dRes :=
  dRc xm mem s0 15 <|
  dCI (m_M_togetherNow xm N s0 s1 s2 mem) fun v86 m86 =>
  some (.inl none, m86)
theorem m_M_doStep_86_ok (xm : Nat → Option kE) (N : Nat) : ∀ (s0 : Nat) (s1 : Int32) (s2 : Int32) (mem : kM) (R : kO × kM), m_M_doStep_86 xm N s0 s1 s2 mem = some R → kGo xm kSm kDfl kFty kG 9 140 86 [] [.int s2, .int s1, .ref s0] mem (dEq R) := by
  intro s0 s1 s2 mem R h
  unfold m_M_doStep_86 at h
  obtain ⟨fk86, hk86, h⟩ := dRc_some h
  refine wq_cI rfl (kCall_v hk86 (as := [.int s1, .int s2]) (rest := []) ⟨by decide, rfl, (show 2 < 90 by decide), by decide⟩ (show 0 ≤ 8 by decide)) h (fun r hr => ca_up (by decide) (m_M_togetherNow_ok xm N hr)) (fun v86 m86 h => ?_)
  refine wp_run 2 (pc' := 138) (lv' := []) (st' := []) (mem' := m86) rfl ?_
  exact wq_end rfl rfl h
def m_M_doStep_74 (xm : Nat → Option kE) (N : Nat) (a0 : Nat) (a1 : Int32) (mem : kM) : dRes :=
  if a1 = 5 then (
    m_M_doStep_86 xm N a0 2 1 mem
  ) else (
    m_M_doStep_86 xm N a0 2 0 mem
  )
theorem m_M_doStep_74_ok (xm : Nat → Option kE) (N : Nat) : ∀ (a0 : Nat) (a1 : Int32) (mem : kM) (R : kO × kM), m_M_doStep_74 xm N a0 a1 mem = some R → kGo xm kSm kDfl kFty kG 9 140 74 [(0, .ref a0), (1, .int a1)] [] mem (dEq R) := by
  intro a0 a1 mem R h
  unfold m_M_doStep_74 at h
  refine wp_run 4 (pc' := 78) (lv' := [(0, .ref a0), (1, .int a1)]) (st' := [.int 5, .int a1, .int 2, .ref a0]) (mem' := mem) rfl ?_
  refine wq_ne2 rfl h (fun h => ?_) (fun h => ?_)
  · refine wp_run 2 (pc' := 86) (lv' := [(0, .ref a0), (1, .int a1)]) (st' := [.int 1, .int 2, .ref a0]) (mem' := mem) rfl ?_
    refine kGo_sub (lvS_of [] rfl [0, 1] rfl (by decide)) ?_
    exact m_M_doStep_86_ok xm N _ _ _ mem R h
  · refine wp_run 1 (pc' := 86) (lv' := [(0, .ref a0), (1, .int a1)]) (st' := [.int 0, .int 2, .ref a0]) (mem' := mem) rfl ?_
    refine kGo_sub (lvS_of [] rfl [0, 1] rfl (by decide)) ?_
    exact m_M_doStep_86_ok xm N _ _ _ mem R h
def m_M_doStep (xm : Nat → Option kE) (N : Nat) (a0 : Nat) (a1 : Int32) (mem : kM) : dRes :=
  dSw a1 1 8 (
    dRc xm mem a0 15 <|
    dCI (m_M_workNow xm N a0 0 mem) fun v123 m123 =>
    dRc xm m123 a0 15 <|
    dCI (m_M_overNow xm N a0 m123) fun v128 m128 =>
    dRc xm m128 a0 15 <|
    dCI (m_M_workNow xm N a0 0 m128) fun v134 m134 =>
    some (.inl none, m134)
  ) [
  (
    m_M_doStep_48 xm N a0 a1 mem
  ),
  (
    m_M_doStep_48 xm N a0 a1 mem
  ),
  (
    dRc xm mem a0 15 <|
    dCI (m_M_overNow xm N a0 mem) fun v67 m67 =>
    some (.inl none, m67)
  ),
  (
    m_M_doStep_74 xm N a0 a1 mem
  ),
  (
    m_M_doStep_74 xm N a0 a1 mem
  ),
  (
    dRc xm mem a0 15 <|
    dCI (m_M_slipNow xm N a0 mem) fun v94 m94 =>
    some (.inl none, m94)
  ),
  (
    dRc xm mem a0 15 <|
    dCI (m_M_crossNow xm N a0 1 1 mem) fun v104 m104 =>
    some (.inl none, m104)
  ),
  (
    dRc xm mem a0 15 <|
    dCI (m_M_togetherNow xm N a0 3 0 mem) fun v114 m114 =>
    some (.inl none, m114)
  )
  ]
theorem m_M_doStep_ok (xm : Nat → Option kE) (N : Nat) {a0 : Nat} {a1 : Int32} {mem : kM} {R : kO × kM} (h : m_M_doStep xm N a0 a1 mem = some R) : kCa xm kSm kDfl kFty kG 10 140 [.ref a0, .int a1] mem (dEq R) := by
  refine wq_ca (show 2 ≤ 2 by decide) ?_
  change kGo xm kSm kDfl kFty kG 9 140 0 [(0, .ref a0), (1, .int a1)] [] mem (dEq R)
  unfold m_M_doStep at h
  refine wp_run 1 (pc' := 1) (lv' := [(0, .ref a0), (1, .int a1)]) (st' := [.int a1]) (mem' := mem) rfl ?_
  refine wq_sw rfl h rfl (fun h => ?_) (And.intro (fun h => ?_) (And.intro (fun h => ?_) (And.intro (fun h => ?_) (And.intro (fun h => ?_) (And.intro (fun h => ?_) (And.intro (fun h => ?_) (And.intro (fun h => ?_) (And.intro (fun h => ?_) (True.intro)))))))))
  · change kGo xm kSm kDfl kFty kG 9 140 121 [(0, .ref a0), (1, .int a1)] [] mem (dEq R)
    refine wp_run 2 (pc' := 123) (lv' := [(0, .ref a0), (1, .int a1)]) (st' := [.int 0, .ref a0]) (mem' := mem) rfl ?_
    obtain ⟨fk123, hk123, h⟩ := dRc_some h
    refine wq_cI rfl (kCall_v hk123 (as := [.int 0]) (rest := []) ⟨by decide, rfl, (show 1 < 90 by decide), by decide⟩ (show 0 ≤ 8 by decide)) h (fun r hr => ca_up (by decide) (m_M_workNow_ok xm N hr)) (fun v123 m123 h => ?_)
    refine wp_run 2 (pc' := 128) (lv' := [(0, .ref a0), (1, .int a1)]) (st' := [.ref a0]) (mem' := m123) rfl ?_
    obtain ⟨fk128, hk128, h⟩ := dRc_some h
    refine wq_cI rfl (kCall_v hk128 (as := []) (rest := []) ⟨by decide, rfl, (show 0 < 90 by decide), by decide⟩ (show 0 ≤ 8 by decide)) h (fun r hr => ca_up (by decide) (m_M_overNow_ok xm N hr)) (fun v128 m128 h => ?_)
    refine wp_run 3 (pc' := 134) (lv' := [(0, .ref a0), (1, .int a1)]) (st' := [.int 0, .ref a0]) (mem' := m128) rfl ?_
    obtain ⟨fk134, hk134, h⟩ := dRc_some h
    refine wq_cI rfl (kCall_v hk134 (as := [.int 0]) (rest := []) ⟨by decide, rfl, (show 1 < 90 by decide), by decide⟩ (show 0 ≤ 8 by decide)) h (fun r hr => ca_up (by decide) (m_M_workNow_ok xm N hr)) (fun v134 m134 h => ?_)
    refine wp_run 1 (pc' := 138) (lv' := [(0, .ref a0), (1, .int a1)]) (st' := []) (mem' := m134) rfl ?_
    exact wq_end rfl rfl h
  · change kGo xm kSm kDfl kFty kG 9 140 48 [(0, .ref a0), (1, .int a1)] [] mem (dEq R)
    exact m_M_doStep_48_ok xm N _ _ mem R h
  · change kGo xm kSm kDfl kFty kG 9 140 48 [(0, .ref a0), (1, .int a1)] [] mem (dEq R)
    exact m_M_doStep_48_ok xm N _ _ mem R h
  · change kGo xm kSm kDfl kFty kG 9 140 66 [(0, .ref a0), (1, .int a1)] [] mem (dEq R)
    refine wp_run 1 (pc' := 67) (lv' := [(0, .ref a0), (1, .int a1)]) (st' := [.ref a0]) (mem' := mem) rfl ?_
    obtain ⟨fk67, hk67, h⟩ := dRc_some h
    refine wq_cI rfl (kCall_v hk67 (as := []) (rest := []) ⟨by decide, rfl, (show 0 < 90 by decide), by decide⟩ (show 0 ≤ 8 by decide)) h (fun r hr => ca_up (by decide) (m_M_overNow_ok xm N hr)) (fun v67 m67 h => ?_)
    refine wp_run 2 (pc' := 138) (lv' := [(0, .ref a0), (1, .int a1)]) (st' := []) (mem' := m67) rfl ?_
    exact wq_end rfl rfl h
  · change kGo xm kSm kDfl kFty kG 9 140 74 [(0, .ref a0), (1, .int a1)] [] mem (dEq R)
    exact m_M_doStep_74_ok xm N _ _ mem R h
  · change kGo xm kSm kDfl kFty kG 9 140 74 [(0, .ref a0), (1, .int a1)] [] mem (dEq R)
    exact m_M_doStep_74_ok xm N _ _ mem R h
  · change kGo xm kSm kDfl kFty kG 9 140 93 [(0, .ref a0), (1, .int a1)] [] mem (dEq R)
    refine wp_run 1 (pc' := 94) (lv' := [(0, .ref a0), (1, .int a1)]) (st' := [.ref a0]) (mem' := mem) rfl ?_
    obtain ⟨fk94, hk94, h⟩ := dRc_some h
    refine wq_cI rfl (kCall_v hk94 (as := []) (rest := []) ⟨by decide, rfl, (show 0 < 90 by decide), by decide⟩ (show 0 ≤ 8 by decide)) h (fun r hr => ca_up (by decide) (m_M_slipNow_ok xm N hr)) (fun v94 m94 h => ?_)
    refine wp_run 2 (pc' := 138) (lv' := [(0, .ref a0), (1, .int a1)]) (st' := []) (mem' := m94) rfl ?_
    exact wq_end rfl rfl h
  · change kGo xm kSm kDfl kFty kG 9 140 101 [(0, .ref a0), (1, .int a1)] [] mem (dEq R)
    refine wp_run 3 (pc' := 104) (lv' := [(0, .ref a0), (1, .int a1)]) (st' := [.int 1, .int 1, .ref a0]) (mem' := mem) rfl ?_
    obtain ⟨fk104, hk104, h⟩ := dRc_some h
    refine wq_cI rfl (kCall_v hk104 (as := [.int 1, .int 1]) (rest := []) ⟨by decide, rfl, (show 2 < 90 by decide), by decide⟩ (show 0 ≤ 8 by decide)) h (fun r hr => ca_up (by decide) (m_M_crossNow_ok xm N hr)) (fun v104 m104 h => ?_)
    refine wp_run 2 (pc' := 138) (lv' := [(0, .ref a0), (1, .int a1)]) (st' := []) (mem' := m104) rfl ?_
    exact wq_end rfl rfl h
  · change kGo xm kSm kDfl kFty kG 9 140 111 [(0, .ref a0), (1, .int a1)] [] mem (dEq R)
    refine wp_run 3 (pc' := 114) (lv' := [(0, .ref a0), (1, .int a1)]) (st' := [.int 0, .int 3, .ref a0]) (mem' := mem) rfl ?_
    obtain ⟨fk114, hk114, h⟩ := dRc_some h
    refine wq_cI rfl (kCall_v hk114 (as := [.int 3, .int 0]) (rest := []) ⟨by decide, rfl, (show 2 < 90 by decide), by decide⟩ (show 0 ≤ 8 by decide)) h (fun r hr => ca_up (by decide) (m_M_togetherNow_ok xm N hr)) (fun v114 m114 h => ?_)
    refine wp_run 2 (pc' := 138) (lv' := [(0, .ref a0), (1, .int a1)]) (st' := []) (mem' := m114) rfl ?_
    exact wq_end rfl rfl h
