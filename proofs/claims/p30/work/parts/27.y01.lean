set_option maxRecDepth 20000
section
variable {z : Value}
/-- Knitstead.bind(I)I -/
def m_K_bind_148 (xm : Nat → Option kE) (N : Nat) (a0 : Nat) (mem : kM) : dRes :=
  dGR xm mem a0 11 1 fun v149 =>
  dRc xm mem v149 10 <|
  dCI (m_Work_onBoth xm N v149 mem) fun v152 m152 =>
  some (.inl (some (.int v152)), m152)
theorem m_K_bind_148_ok (hz : z.category = 1) (xm : Nat → Option kE) (N : Nat) : ∀ (a0 : Nat) (mem : kM) (R : kO × kM), m_K_bind_148 xm N a0 mem = some R → kGo xm (kSm z) kDfl kFty kG 6 49 148 [(0, .ref a0)] [] mem (dEq R) := by
  intro a0 mem R h
  unfold m_K_bind_148 at h
  refine wp_run 1 (pc' := 149) (lv' := [(0, .ref a0)]) (st' := [.ref a0]) (mem' := mem) rfl ?_
  refine wq_gR rfl h (fun v149 h => ?_)
  obtain ⟨fk152, hk152, h⟩ := dRc_some h
  refine wq_cI rfl (kCall_v hk152 (as := []) (rest := []) ⟨by decide, rfl, (show 0 < 90 by decide), by decide⟩ (show 0 ≤ 8 by decide)) h (fun r hr => ca_up (by decide) (m_Work_onBoth_ok hz xm N hr)) (fun v152 m152 h => ?_)
  exact wq_ret rfl rfl h
def m_K_bind_137 (xm : Nat → Option kE) (N : Nat) (a0 : Nat) (a2 : Int32) (s0 : Nat) (s1 : Int32) (mem : kM) : dRes :=
  dRc xm mem s0 11 <|
  dCV (m_K_bindSeconds xm N s0 s1 mem) fun m137 =>
  if a2 = 0 then (
    m_K_bind_148 xm N a0 m137
  ) else (
    dRc xm m137 a0 11 <|
    dCV (m_K_fastenLast xm N a0 m137) fun m145 =>
    m_K_bind_148 xm N a0 m145
  )
theorem m_K_bind_137_ok (hz : z.category = 1) (xm : Nat → Option kE) (N : Nat) : ∀ (a0 : Nat) (a2 : Int32) (s0 : Nat) (s1 : Int32) (mem : kM) (R : kO × kM), m_K_bind_137 xm N a0 a2 s0 s1 mem = some R → kGo xm (kSm z) kDfl kFty kG 6 49 137 [(0, .ref a0), (2, .int a2)] [.int s1, .ref s0] mem (dEq R) := by
  intro a0 a2 s0 s1 mem R h
  unfold m_K_bind_137 at h
  obtain ⟨fk137, hk137, h⟩ := dRc_some h
  refine wq_cV rfl (kCall_v hk137 (as := [.int s1]) (rest := []) ⟨by decide, rfl, (show 1 < 90 by decide), by decide⟩ (show 0 ≤ 8 by decide)) h (fun r hr => ca_up (by decide) (m_K_bindSeconds_ok hz xm N hr)) (fun m137 h => ?_)
  refine wp_run 1 (pc' := 141) (lv' := [(0, .ref a0), (2, .int a2)]) (st' := [.int a2]) (mem' := m137) rfl ?_
  refine wq_eq rfl h (fun h => ?_) (fun h => ?_)
  · refine kGo_sub (lvS_of [0] rfl [0, 2] rfl (by decide)) ?_
    exact m_K_bind_148_ok hz xm N _ m137 R h
  · refine wp_run 1 (pc' := 145) (lv' := [(0, .ref a0), (2, .int a2)]) (st' := [.ref a0]) (mem' := m137) rfl ?_
    obtain ⟨fk145, hk145, h⟩ := dRc_some h
    refine wq_cV rfl (kCall_v hk145 (as := []) (rest := []) ⟨by decide, rfl, (show 0 < 90 by decide), by decide⟩ (show 0 ≤ 8 by decide)) h (fun r hr => ca_up (by decide) (m_K_fastenLast_ok hz xm N hr)) (fun m145 h => ?_)
    refine kGo_sub (lvS_of [0] rfl [0, 2] rfl (by decide)) ?_
    exact m_K_bind_148_ok hz xm N _ m145 R h
def m_K_bind_110 (xm : Nat → Option kE) (N : Nat) (a0 : Nat) (a1 : Int32) (a2 : Int32) (mem : kM) : dRes :=
  dGR xm mem a0 11 5 fun v111 =>
  dGR xm mem a0 11 1 fun v115 =>
  dGR xm mem a0 11 0 fun v119 =>
  dRc xm mem v111 6 <|
  dCV (m_History_keep xm N v111 v115 v119 mem) fun m122 =>
  if a2 = 0 then (
    m_K_bind_137 xm N a0 a2 a0 a1 m122
  ) else (
    m_K_bind_137 xm N a0 a2 a0 (a1 - 1) m122
  )
theorem m_K_bind_110_ok (hz : z.category = 1) (xm : Nat → Option kE) (N : Nat) : ∀ (a0 : Nat) (a1 : Int32) (a2 : Int32) (mem : kM) (R : kO × kM), m_K_bind_110 xm N a0 a1 a2 mem = some R → kGo xm (kSm z) kDfl kFty kG 6 49 110 [(0, .ref a0), (1, .int a1), (2, .int a2)] [] mem (dEq R) := by
  intro a0 a1 a2 mem R h
  unfold m_K_bind_110 at h
  refine wp_run 1 (pc' := 111) (lv' := [(0, .ref a0), (1, .int a1), (2, .int a2)]) (st' := [.ref a0]) (mem' := mem) rfl ?_
  refine wq_gR rfl h (fun v111 h => ?_)
  refine wp_run 1 (pc' := 115) (lv' := [(0, .ref a0), (1, .int a1), (2, .int a2)]) (st' := [.ref a0, .ref v111]) (mem' := mem) rfl ?_
  refine wq_gR rfl h (fun v115 h => ?_)
  refine wp_run 1 (pc' := 119) (lv' := [(0, .ref a0), (1, .int a1), (2, .int a2)]) (st' := [.ref a0, .ref v115, .ref v111]) (mem' := mem) rfl ?_
  refine wq_gR rfl h (fun v119 h => ?_)
  obtain ⟨fk122, hk122, h⟩ := dRc_some h
  refine wq_cV rfl (kCall_v hk122 (as := [.ref v115, .ref v119]) (rest := []) ⟨by decide, rfl, (show 2 < 90 by decide), by decide⟩ (show 0 ≤ 8 by decide)) h (fun r hr => ca_up (by decide) (m_History_keep_ok hz xm N hr)) (fun m122 h => ?_)
  refine wp_run 2 (pc' := 127) (lv' := [(0, .ref a0), (1, .int a1), (2, .int a2)]) (st' := [.int a2, .ref a0]) (mem' := m122) rfl ?_
  refine wq_eq rfl h (fun h => ?_) (fun h => ?_)
  · refine wp_run 1 (pc' := 137) (lv' := [(0, .ref a0), (1, .int a1), (2, .int a2)]) (st' := [.int a1, .ref a0]) (mem' := m122) rfl ?_
    refine kGo_sub (lvS_of [0, 2] rfl [0, 1, 2] rfl (by decide)) ?_
    exact m_K_bind_137_ok hz xm N _ _ _ _ m122 R h
  · refine wp_run 4 (pc' := 137) (lv' := [(0, .ref a0), (1, .int a1), (2, .int a2)]) (st' := [.int (a1 - 1), .ref a0]) (mem' := m122) rfl ?_
    refine kGo_sub (lvS_of [0, 2] rfl [0, 1, 2] rfl (by decide)) ?_
    exact m_K_bind_137_ok hz xm N _ _ _ _ m122 R h
def m_K_bind_84 (xm : Nat → Option kE) (N : Nat) (a0 : Nat) (a1 : Int32) (a2 : Int32) (mem : kM) : dRes :=
  if a2 = 0 then (
    m_K_bind_110 xm N a0 a1 a2 mem
  ) else (
    dGR xm mem a0 11 0 fun v89 =>
    dRc xm mem v89 5 <|
    dCI (m_Balls_ofJoined xm N v89 mem) fun v92 m92 =>
    if v92 < 6 then (
      some (.inr 1, m92 ++ [.inl (1000, [.null, .null, .null, .null, .null, .null])])
    ) else (
      m_K_bind_110 xm N a0 a1 a2 m92
    )
  )
theorem m_K_bind_84_ok (hz : z.category = 1) (xm : Nat → Option kE) (N : Nat) : ∀ (a0 : Nat) (a1 : Int32) (a2 : Int32) (mem : kM) (R : kO × kM), m_K_bind_84 xm N a0 a1 a2 mem = some R → kGo xm (kSm z) kDfl kFty kG 6 49 84 [(0, .ref a0), (1, .int a1), (2, .int a2)] [] mem (dEq R) := by
  intro a0 a1 a2 mem R h
  unfold m_K_bind_84 at h
  refine wp_run 1 (pc' := 85) (lv' := [(0, .ref a0), (1, .int a1), (2, .int a2)]) (st' := [.int a2]) (mem' := mem) rfl ?_
  refine wq_eq rfl h (fun h => ?_) (fun h => ?_)
  · exact m_K_bind_110_ok hz xm N _ _ _ mem R h
  · refine wp_run 1 (pc' := 89) (lv' := [(0, .ref a0), (1, .int a1), (2, .int a2)]) (st' := [.ref a0]) (mem' := mem) rfl ?_
    refine wq_gR rfl h (fun v89 h => ?_)
    obtain ⟨fk92, hk92, h⟩ := dRc_some h
    refine wq_cI rfl (kCall_v hk92 (as := []) (rest := []) ⟨by decide, rfl, (show 0 < 90 by decide), by decide⟩ (show 0 ≤ 8 by decide)) h (fun r hr => ca_up (by decide) (m_Balls_ofJoined_ok hz xm N hr)) (fun v92 m92 h => ?_)
    refine wp_run 1 (pc' := 97) (lv' := [(0, .ref a0), (1, .int a1), (2, .int a2)]) (st' := [.int 6, .int v92]) (mem' := m92) rfl ?_
    refine wq_ge2 rfl h (fun h => ?_) (fun h => ?_)
    · exact wq_end rfl rfl h
    · exact m_K_bind_110_ok hz xm N _ _ _ m92 R h
def m_K_bind_53 (xm : Nat → Option kE) (N : Nat) (a0 : Nat) (a1 : Int32) (s0 : Int32) (mem : kM) : dRes :=
  if s0 = 0 then (
    dGR xm mem a0 11 1 fun v60 =>
    dGR xm mem v60 10 1 fun v63 =>
    dGI xm mem v63 7 1 fun v66 =>
    if (v66 - 1) < a1 then (
      some (.inr 1, mem ++ [.inl (1000, [.null, .null, .null, .null, .null, .null])])
    ) else (
      m_K_bind_84 xm N a0 a1 s0 mem
    )
  ) else (
    m_K_bind_84 xm N a0 a1 s0 mem
  )
theorem m_K_bind_53_ok (hz : z.category = 1) (xm : Nat → Option kE) (N : Nat) : ∀ (a0 : Nat) (a1 : Int32) (s0 : Int32) (mem : kM) (R : kO × kM), m_K_bind_53 xm N a0 a1 s0 mem = some R → kGo xm (kSm z) kDfl kFty kG 6 49 53 [(0, .ref a0), (1, .int a1)] [.int s0] mem (dEq R) := by
  intro a0 a1 s0 mem R h
  unfold m_K_bind_53 at h
  refine wp_run 2 (pc' := 55) (lv' := [(2, .int s0), (0, .ref a0), (1, .int a1)]) (st' := [.int s0]) (mem' := mem) rfl ?_
  refine wq_ne rfl h (fun h => ?_) (fun h => ?_)
  · refine wp_run 2 (pc' := 60) (lv' := [(2, .int s0), (0, .ref a0), (1, .int a1)]) (st' := [.ref a0, .int a1]) (mem' := mem) rfl ?_
    refine wq_gR rfl h (fun v60 h => ?_)
    refine wq_gR rfl h (fun v63 h => ?_)
    refine wq_gI rfl h (fun v66 h => ?_)
    refine wp_run 2 (pc' := 71) (lv' := [(2, .int s0), (0, .ref a0), (1, .int a1)]) (st' := [.int (v66 - 1), .int a1]) (mem' := mem) rfl ?_
    refine wq_le2 rfl h (fun h => ?_) (fun h => ?_)
    · exact wq_end rfl rfl h
    · refine kGo_sub (lvS_of [1, 2, 0] rfl [2, 0, 1] rfl (by decide)) ?_
      exact m_K_bind_84_ok hz xm N _ _ _ mem R h
  · refine kGo_sub (lvS_of [1, 2, 0] rfl [2, 0, 1] rfl (by decide)) ?_
    exact m_K_bind_84_ok hz xm N _ _ _ mem R h
def m_K_bind_52 (xm : Nat → Option kE) (N : Nat) (a0 : Nat) (a1 : Int32) (mem : kM) : dRes :=
  m_K_bind_53 xm N a0 a1 0 mem
theorem m_K_bind_52_ok (hz : z.category = 1) (xm : Nat → Option kE) (N : Nat) : ∀ (a0 : Nat) (a1 : Int32) (mem : kM) (R : kO × kM), m_K_bind_52 xm N a0 a1 mem = some R → kGo xm (kSm z) kDfl kFty kG 6 49 52 [(0, .ref a0), (1, .int a1)] [] mem (dEq R) := by
  intro a0 a1 mem R h
  unfold m_K_bind_52 at h
  refine wp_run 1 (pc' := 53) (lv' := [(0, .ref a0), (1, .int a1)]) (st' := [.int 0]) (mem' := mem) rfl ?_
  exact m_K_bind_53_ok hz xm N _ _ _ mem R h
def m_K_bind (xm : Nat → Option kE) (N : Nat) (a0 : Nat) (a1 : Int32) (mem : kM) : dRes :=
  if a1 < 1 then (
    some (.inr 0, mem ++ [.inl (1000, [.null, .null, .null, .null, .null, .null])])
  ) else (
    if 24 < a1 then (
      some (.inr 0, mem ++ [.inl (1000, [.null, .null, .null, .null, .null, .null])])
    ) else (
      dGR xm mem a0 11 1 fun v23 =>
      dGR xm mem v23 10 1 fun v26 =>
      dGI xm mem v26 7 1 fun v29 =>
      if a1 = v29 then (
        dGR xm mem a0 11 1 fun v36 =>
        dGR xm mem v36 10 0 fun v39 =>
        dGI xm mem v39 7 1 fun v42 =>
        if v42 = 0 then (
          m_K_bind_53 xm N a0 a1 1 mem
        ) else (
          m_K_bind_52 xm N a0 a1 mem
        )
      ) else (
        m_K_bind_52 xm N a0 a1 mem
      )
    )
  )
theorem m_K_bind_ok (hz : z.category = 1) (xm : Nat → Option kE) (N : Nat) {a0 : Nat} {a1 : Int32} {mem : kM} {R : kO × kM} (h : m_K_bind xm N a0 a1 mem = some R) : kCa xm (kSm z) kDfl kFty kG 7 49 [.ref a0, .int a1] mem (dEq R) := by
  refine wq_ca (show 2 ≤ 3 by decide) ?_
  change kGo xm (kSm z) kDfl kFty kG 6 49 0 [(0, .ref a0), (1, .int a1)] [] mem (dEq R)
  unfold m_K_bind at h
  refine wp_run 2 (pc' := 2) (lv' := [(0, .ref a0), (1, .int a1)]) (st' := [.int 1, .int a1]) (mem' := mem) rfl ?_
  refine wq_lt2 rfl h (fun h => ?_) (fun h => ?_)
  · exact wq_end rfl rfl h
  · refine wp_run 2 (pc' := 8) (lv' := [(0, .ref a0), (1, .int a1)]) (st' := [.int 24, .int a1]) (mem' := mem) rfl ?_
    refine wq_le2 rfl h (fun h => ?_) (fun h => ?_)
    · exact wq_end rfl rfl h
    · refine wp_run 2 (pc' := 23) (lv' := [(0, .ref a0), (1, .int a1)]) (st' := [.ref a0, .int a1]) (mem' := mem) rfl ?_
      refine wq_gR rfl h (fun v23 h => ?_)
      refine wq_gR rfl h (fun v26 h => ?_)
      refine wq_gI rfl h (fun v29 h => ?_)
      refine wq_ne2 rfl h (fun h => ?_) (fun h => ?_)
      · refine wp_run 1 (pc' := 36) (lv' := [(0, .ref a0), (1, .int a1)]) (st' := [.ref a0]) (mem' := mem) rfl ?_
        refine wq_gR rfl h (fun v36 h => ?_)
        refine wq_gR rfl h (fun v39 h => ?_)
        refine wq_gI rfl h (fun v42 h => ?_)
        refine wq_ne rfl h (fun h => ?_) (fun h => ?_)
        · refine wp_run 2 (pc' := 53) (lv' := [(0, .ref a0), (1, .int a1)]) (st' := [.int 1]) (mem' := mem) rfl ?_
          exact m_K_bind_53_ok hz xm N _ _ _ mem R h
        · exact m_K_bind_52_ok hz xm N _ _ mem R h
      · exact m_K_bind_52_ok hz xm N _ _ mem R h
/-- Knitstead$Work.openRun(II)I -/
def m_Work_openRun (xm : Nat → Option kE) (N : Nat) (a0 : Nat) (a1 : Int32) (a2 : Int32) (mem : kM) : dRes :=
  dGI xm mem a0 10 3 fun v1 =>
  dGI xm mem a0 10 3 fun v7 =>
  dP xm mem a0 10 3 (.int (v7 + 1)) fun m12 =>
  dGR xm m12 a0 10 2 fun v16 =>
  dRc xm m12 v16 8 <|
  dCV (m_Table_set xm N v16 v1 0 a1 m12) fun m22 =>
  dGR xm m22 a0 10 2 fun v26 =>
  dRc xm m22 v26 8 <|
  dCV (m_Table_set xm N v26 v1 1 a2 m22) fun m32 =>
  dGR xm m32 a0 10 2 fun v36 =>
  dRc xm m32 v36 8 <|
  dCV (m_Table_set xm N v36 v1 2 0 m32) fun m42 =>
  dGR xm m42 a0 10 2 fun v46 =>
  dRc xm m42 v46 8 <|
  dCV (m_Table_set xm N v46 v1 3 1 m42) fun m52 =>
  some (.inl (some (.int v1)), m52)
theorem m_Work_openRun_ok (hz : z.category = 1) (xm : Nat → Option kE) (N : Nat) {a0 : Nat} {a1 : Int32} {a2 : Int32} {mem : kM} {R : kO × kM} (h : m_Work_openRun xm N a0 a1 a2 mem = some R) : kCa xm (kSm z) kDfl kFty kG 5 33 [.ref a0, .int a1, .int a2] mem (dEq R) := by
  refine wq_ca (show 3 ≤ 4 by decide) ?_
  change kGo xm (kSm z) kDfl kFty kG 4 33 0 [(0, .ref a0), (1, .int a1), (2, .int a2)] [] mem (dEq R)
  unfold m_Work_openRun at h
  refine wp_run 1 (pc' := 1) (lv' := [(0, .ref a0), (1, .int a1), (2, .int a2)]) (st' := [.ref a0]) (mem' := mem) rfl ?_
  refine wq_gI rfl h (fun v1 h => ?_)
  refine wp_run 3 (pc' := 7) (lv' := [(3, .int v1), (0, .ref a0), (1, .int a1), (2, .int a2)]) (st' := [.ref a0, .ref a0]) (mem' := mem) rfl ?_
  refine wq_gI rfl h (fun v7 h => ?_)
  refine wp_run 2 (pc' := 12) (lv' := [(3, .int v1), (0, .ref a0), (1, .int a1), (2, .int a2)]) (st' := [.int (v7 + 1), .ref a0]) (mem' := mem) rfl ?_
  refine wq_p rfl rfl h (fun m12 h => ?_)
  refine wp_run 1 (pc' := 16) (lv' := [(3, .int v1), (0, .ref a0), (1, .int a1), (2, .int a2)]) (st' := [.ref a0]) (mem' := m12) rfl ?_
  refine wq_gR rfl h (fun v16 h => ?_)
  refine wp_run 3 (pc' := 22) (lv' := [(3, .int v1), (0, .ref a0), (1, .int a1), (2, .int a2)]) (st' := [.int a1, .int 0, .int v1, .ref v16]) (mem' := m12) rfl ?_
  obtain ⟨fk22, hk22, h⟩ := dRc_some h
  refine wq_cV rfl (kCall_v hk22 (as := [.int v1, .int 0, .int a1]) (rest := []) ⟨by decide, rfl, (show 3 < 90 by decide), by decide⟩ (show 0 ≤ 8 by decide)) h (fun r hr => ca_up (by decide) (m_Table_set_ok hz xm N hr)) (fun m22 h => ?_)
  refine wp_run 1 (pc' := 26) (lv' := [(3, .int v1), (0, .ref a0), (1, .int a1), (2, .int a2)]) (st' := [.ref a0]) (mem' := m22) rfl ?_
  refine wq_gR rfl h (fun v26 h => ?_)
  refine wp_run 3 (pc' := 32) (lv' := [(3, .int v1), (0, .ref a0), (1, .int a1), (2, .int a2)]) (st' := [.int a2, .int 1, .int v1, .ref v26]) (mem' := m22) rfl ?_
  obtain ⟨fk32, hk32, h⟩ := dRc_some h
  refine wq_cV rfl (kCall_v hk32 (as := [.int v1, .int 1, .int a2]) (rest := []) ⟨by decide, rfl, (show 3 < 90 by decide), by decide⟩ (show 0 ≤ 8 by decide)) h (fun r hr => ca_up (by decide) (m_Table_set_ok hz xm N hr)) (fun m32 h => ?_)
  refine wp_run 1 (pc' := 36) (lv' := [(3, .int v1), (0, .ref a0), (1, .int a1), (2, .int a2)]) (st' := [.ref a0]) (mem' := m32) rfl ?_
  refine wq_gR rfl h (fun v36 h => ?_)
  refine wp_run 3 (pc' := 42) (lv' := [(3, .int v1), (0, .ref a0), (1, .int a1), (2, .int a2)]) (st' := [.int 0, .int 2, .int v1, .ref v36]) (mem' := m32) rfl ?_
  obtain ⟨fk42, hk42, h⟩ := dRc_some h
  refine wq_cV rfl (kCall_v hk42 (as := [.int v1, .int 2, .int 0]) (rest := []) ⟨by decide, rfl, (show 3 < 90 by decide), by decide⟩ (show 0 ≤ 8 by decide)) h (fun r hr => ca_up (by decide) (m_Table_set_ok hz xm N hr)) (fun m42 h => ?_)
  refine wp_run 1 (pc' := 46) (lv' := [(3, .int v1), (0, .ref a0), (1, .int a1), (2, .int a2)]) (st' := [.ref a0]) (mem' := m42) rfl ?_
  refine wq_gR rfl h (fun v46 h => ?_)
  refine wp_run 3 (pc' := 52) (lv' := [(3, .int v1), (0, .ref a0), (1, .int a1), (2, .int a2)]) (st' := [.int 1, .int 3, .int v1, .ref v46]) (mem' := m42) rfl ?_
  obtain ⟨fk52, hk52, h⟩ := dRc_some h
  refine wq_cV rfl (kCall_v hk52 (as := [.int v1, .int 3, .int 1]) (rest := []) ⟨by decide, rfl, (show 3 < 90 by decide), by decide⟩ (show 0 ≤ 8 by decide)) h (fun r hr => ca_up (by decide) (m_Table_set_ok hz xm N hr)) (fun m52 h => ?_)
  refine wp_run 1 (pc' := 56) (lv' := [(3, .int v1), (0, .ref a0), (1, .int a1), (2, .int a2)]) (st' := [.int v1]) (mem' := m52) rfl ?_
  exact wq_ret rfl rfl h
/-- Knitstead.drop()I -/
def m_K_drop (xm : Nat → Option kE) (N : Nat) (a0 : Nat) (mem : kM) : dRes :=
  dGR xm mem a0 11 1 fun v1 =>
  dGR xm mem v1 10 0 fun v4 =>
  dGI xm mem v4 7 1 fun v7 =>
  if v7 < 1 then (
    some (.inr 1, mem ++ [.inl (1000, [.null, .null, .null, .null, .null, .null])])
  ) else (
    dGR xm mem a0 11 1 fun v15 =>
    dGI xm mem v15 10 3 fun v18 =>
    if v18 < 9 then (
      dGR xm mem a0 11 5 fun v37 =>
      dGR xm mem a0 11 1 fun v41 =>
      dGR xm mem a0 11 0 fun v45 =>
      dRc xm mem v37 6 <|
      dCV (m_History_keep xm N v37 v41 v45 mem) fun m48 =>
      dGR xm m48 a0 11 1 fun v52 =>
      dGR xm m48 v52 10 0 fun v55 =>
      dRc xm m48 v55 7 <|
      dCI (m_Needle_takeAt xm N v55 0 m48) fun v59 m59 =>
      dGR xm m59 a0 11 1 fun v64 =>
      dGR xm m59 a0 11 2 fun v69 =>
      dRc xm m59 v69 8 <|
      dCI (m_Table_get xm N v69 v59 3 m59) fun v74 m74 =>
      dRc xm m74 v64 10 <|
      dCI (m_Work_openRun xm N v64 v59 v74 m74) fun v77 m77 =>
      some (.inl (some (.int v77)), m77)
    ) else (
      some (.inr 1, mem ++ [.inl (1000, [.null, .null, .null, .null, .null, .null])])
    )
  )
theorem m_K_drop_ok (hz : z.category = 1) (xm : Nat → Option kE) (N : Nat) {a0 : Nat} {mem : kM} {R : kO × kM} (h : m_K_drop xm N a0 mem = some R) : kCa xm (kSm z) kDfl kFty kG 6 50 [.ref a0] mem (dEq R) := by
  refine wq_ca (show 1 ≤ 2 by decide) ?_
  change kGo xm (kSm z) kDfl kFty kG 5 50 0 [(0, .ref a0)] [] mem (dEq R)
  unfold m_K_drop at h
  refine wp_run 1 (pc' := 1) (lv' := [(0, .ref a0)]) (st' := [.ref a0]) (mem' := mem) rfl ?_
  refine wq_gR rfl h (fun v1 h => ?_)
  refine wq_gR rfl h (fun v4 h => ?_)
  refine wq_gI rfl h (fun v7 h => ?_)
  refine wp_run 1 (pc' := 11) (lv' := [(0, .ref a0)]) (st' := [.int 1, .int v7]) (mem' := mem) rfl ?_
  refine wq_lt2 rfl h (fun h => ?_) (fun h => ?_)
  · exact wq_end rfl rfl h
  · refine wp_run 1 (pc' := 15) (lv' := [(0, .ref a0)]) (st' := [.ref a0]) (mem' := mem) rfl ?_
    refine wq_gR rfl h (fun v15 h => ?_)
    refine wq_gI rfl h (fun v18 h => ?_)
    refine wp_run 1 (pc' := 23) (lv' := [(0, .ref a0)]) (st' := [.int 9, .int v18]) (mem' := mem) rfl ?_
    refine wq_lt2 rfl h (fun h => ?_) (fun h => ?_)
    · refine wp_run 1 (pc' := 37) (lv' := [(0, .ref a0)]) (st' := [.ref a0]) (mem' := mem) rfl ?_
      refine wq_gR rfl h (fun v37 h => ?_)
      refine wp_run 1 (pc' := 41) (lv' := [(0, .ref a0)]) (st' := [.ref a0, .ref v37]) (mem' := mem) rfl ?_
      refine wq_gR rfl h (fun v41 h => ?_)
      refine wp_run 1 (pc' := 45) (lv' := [(0, .ref a0)]) (st' := [.ref a0, .ref v41, .ref v37]) (mem' := mem) rfl ?_
      refine wq_gR rfl h (fun v45 h => ?_)
      obtain ⟨fk48, hk48, h⟩ := dRc_some h
      refine wq_cV rfl (kCall_v hk48 (as := [.ref v41, .ref v45]) (rest := []) ⟨by decide, rfl, (show 2 < 90 by decide), by decide⟩ (show 0 ≤ 8 by decide)) h (fun r hr => ca_up (by decide) (m_History_keep_ok hz xm N hr)) (fun m48 h => ?_)
      refine wp_run 1 (pc' := 52) (lv' := [(0, .ref a0)]) (st' := [.ref a0]) (mem' := m48) rfl ?_
      refine wq_gR rfl h (fun v52 h => ?_)
      refine wq_gR rfl h (fun v55 h => ?_)
      refine wp_run 1 (pc' := 59) (lv' := [(0, .ref a0)]) (st' := [.int 0, .ref v55]) (mem' := m48) rfl ?_
      obtain ⟨fk59, hk59, h⟩ := dRc_some h
      refine wq_cI rfl (kCall_v hk59 (as := [.int 0]) (rest := []) ⟨by decide, rfl, (show 1 < 90 by decide), by decide⟩ (show 0 ≤ 8 by decide)) h (fun r hr => ca_up (by decide) (m_Needle_takeAt_ok hz xm N hr)) (fun v59 m59 h => ?_)
      refine wp_run 2 (pc' := 64) (lv' := [(1, .int v59), (0, .ref a0)]) (st' := [.ref a0]) (mem' := m59) rfl ?_
      refine wq_gR rfl h (fun v64 h => ?_)
      refine wp_run 2 (pc' := 69) (lv' := [(1, .int v59), (0, .ref a0)]) (st' := [.ref a0, .int v59, .ref v64]) (mem' := m59) rfl ?_
      refine wq_gR rfl h (fun v69 h => ?_)
      refine wp_run 2 (pc' := 74) (lv' := [(1, .int v59), (0, .ref a0)]) (st' := [.int 3, .int v59, .ref v69, .int v59, .ref v64]) (mem' := m59) rfl ?_
      obtain ⟨fk74, hk74, h⟩ := dRc_some h
      refine wq_cI rfl (kCall_v hk74 (as := [.int v59, .int 3]) (rest := [.int v59, .ref v64]) ⟨by decide, rfl, (show 2 < 90 by decide), by decide⟩ (show 2 ≤ 8 by decide)) h (fun r hr => ca_up (by decide) (m_Table_get_ok hz xm N hr)) (fun v74 m74 h => ?_)
      obtain ⟨fk77, hk77, h⟩ := dRc_some h
      refine wq_cI rfl (kCall_v hk77 (as := [.int v59, .int v74]) (rest := []) ⟨by decide, rfl, (show 2 < 90 by decide), by decide⟩ (show 0 ≤ 8 by decide)) h (fun r hr => ca_up (by decide) (m_Work_openRun_ok hz xm N hr)) (fun v77 m77 h => ?_)
      exact wq_ret rfl rfl h
    · exact wq_end rfl rfl h
/-- Knitstead.latch(I)I -/
def m_K_latch (xm : Nat → Option kE) (N : Nat) (a0 : Nat) (a1 : Int32) (mem : kM) : dRes :=
  if a1 < 0 then (
    some (.inr 2, mem ++ [.inl (1000, [.null, .null, .null, .null, .null, .null])])
  ) else (
    dGR xm mem a0 11 1 fun v6 =>
    dGI xm mem v6 10 3 fun v9 =>
    if a1 < v9 then (
      dGR xm mem a0 11 1 fun v26 =>
      dGR xm mem v26 10 2 fun v29 =>
      dRc xm mem v29 8 <|
      dCI (m_Table_get xm N v29 a1 3 mem) fun v34 m34 =>
      if v34 = 0 then (
        some (.inr 1, m34 ++ [.inl (1000, [.null, .null, .null, .null, .null, .null])])
      ) else (
        dGR xm m34 a0 11 1 fun v41 =>
        dRc xm m34 v41 10 <|
        dCI (m_Work_onBoth xm N v41 m34) fun v44 m44 =>
        if v44 < 24 then (
          dGR xm m44 a0 11 5 fun v63 =>
          dGR xm m44 a0 11 1 fun v67 =>
          dGR xm m44 a0 11 0 fun v71 =>
          dRc xm m44 v63 6 <|
          dCV (m_History_keep xm N v63 v67 v71 m44) fun m74 =>
          dGR xm m74 a0 11 1 fun v78 =>
          dGR xm m74 v78 10 2 fun v81 =>
          dRc xm m74 v81 8 <|
          dCV (m_Table_set xm N v81 a1 3 0 m74) fun m87 =>
          dGR xm m87 a0 11 1 fun v91 =>
          dGR xm m87 v91 10 0 fun v94 =>
          dGR xm m87 a0 11 1 fun v98 =>
          dGR xm m87 v98 10 2 fun v101 =>
          dRc xm m87 v101 8 <|
          dCI (m_Table_get xm N v101 a1 0 m87) fun v106 m106 =>
          dRc xm m106 v94 7 <|
          dCV (m_Needle_put xm N v94 v106 m106) fun m109 =>
          dGR xm m109 a0 11 1 fun v113 =>
          dGR xm m109 v113 10 2 fun v116 =>
          dRc xm m109 v116 8 <|
          dCI (m_Table_get xm N v116 a1 2 m109) fun v121 m121 =>
          some (.inl (some (.int v121)), m121)
        ) else (
          some (.inr 1, m44 ++ [.inl (1000, [.null, .null, .null, .null, .null, .null])])
        )
      )
    ) else (
      some (.inr 2, mem ++ [.inl (1000, [.null, .null, .null, .null, .null, .null])])
    )
  )
theorem m_K_latch_ok (hz : z.category = 1) (xm : Nat → Option kE) (N : Nat) {a0 : Nat} {a1 : Int32} {mem : kM} {R : kO × kM} (h : m_K_latch xm N a0 a1 mem = some R) : kCa xm (kSm z) kDfl kFty kG 5 51 [.ref a0, .int a1] mem (dEq R) := by
  refine wq_ca (show 2 ≤ 2 by decide) ?_
  change kGo xm (kSm z) kDfl kFty kG 4 51 0 [(0, .ref a0), (1, .int a1)] [] mem (dEq R)
  unfold m_K_latch at h
  refine wp_run 1 (pc' := 1) (lv' := [(0, .ref a0), (1, .int a1)]) (st' := [.int a1]) (mem' := mem) rfl ?_
  refine wq_lt rfl h (fun h => ?_) (fun h => ?_)
  · exact wq_end rfl rfl h
  · refine wp_run 2 (pc' := 6) (lv' := [(0, .ref a0), (1, .int a1)]) (st' := [.ref a0, .int a1]) (mem' := mem) rfl ?_
    refine wq_gR rfl h (fun v6 h => ?_)
    refine wq_gI rfl h (fun v9 h => ?_)
    refine wq_lt2 rfl h (fun h => ?_) (fun h => ?_)
    · refine wp_run 1 (pc' := 26) (lv' := [(0, .ref a0), (1, .int a1)]) (st' := [.ref a0]) (mem' := mem) rfl ?_
      refine wq_gR rfl h (fun v26 h => ?_)
      refine wq_gR rfl h (fun v29 h => ?_)
      refine wp_run 2 (pc' := 34) (lv' := [(0, .ref a0), (1, .int a1)]) (st' := [.int 3, .int a1, .ref v29]) (mem' := mem) rfl ?_
      obtain ⟨fk34, hk34, h⟩ := dRc_some h
      refine wq_cI rfl (kCall_v hk34 (as := [.int a1, .int 3]) (rest := []) ⟨by decide, rfl, (show 2 < 90 by decide), by decide⟩ (show 0 ≤ 8 by decide)) h (fun r hr => ca_up (by decide) (m_Table_get_ok hz xm N hr)) (fun v34 m34 h => ?_)
      refine wq_eq rfl h (fun h => ?_) (fun h => ?_)
      · exact wq_end rfl rfl h
      · refine wp_run 1 (pc' := 41) (lv' := [(0, .ref a0), (1, .int a1)]) (st' := [.ref a0]) (mem' := m34) rfl ?_
        refine wq_gR rfl h (fun v41 h => ?_)
        obtain ⟨fk44, hk44, h⟩ := dRc_some h
        refine wq_cI rfl (kCall_v hk44 (as := []) (rest := []) ⟨by decide, rfl, (show 0 < 90 by decide), by decide⟩ (show 0 ≤ 8 by decide)) h (fun r hr => ca_up (by decide) (m_Work_onBoth_ok hz xm N hr)) (fun v44 m44 h => ?_)
        refine wp_run 1 (pc' := 49) (lv' := [(0, .ref a0), (1, .int a1)]) (st' := [.int 24, .int v44]) (mem' := m44) rfl ?_
        refine wq_lt2 rfl h (fun h => ?_) (fun h => ?_)
        · refine wp_run 1 (pc' := 63) (lv' := [(0, .ref a0), (1, .int a1)]) (st' := [.ref a0]) (mem' := m44) rfl ?_
          refine wq_gR rfl h (fun v63 h => ?_)
          refine wp_run 1 (pc' := 67) (lv' := [(0, .ref a0), (1, .int a1)]) (st' := [.ref a0, .ref v63]) (mem' := m44) rfl ?_
          refine wq_gR rfl h (fun v67 h => ?_)
          refine wp_run 1 (pc' := 71) (lv' := [(0, .ref a0), (1, .int a1)]) (st' := [.ref a0, .ref v67, .ref v63]) (mem' := m44) rfl ?_
          refine wq_gR rfl h (fun v71 h => ?_)
          obtain ⟨fk74, hk74, h⟩ := dRc_some h
          refine wq_cV rfl (kCall_v hk74 (as := [.ref v67, .ref v71]) (rest := []) ⟨by decide, rfl, (show 2 < 90 by decide), by decide⟩ (show 0 ≤ 8 by decide)) h (fun r hr => ca_up (by decide) (m_History_keep_ok hz xm N hr)) (fun m74 h => ?_)
          refine wp_run 1 (pc' := 78) (lv' := [(0, .ref a0), (1, .int a1)]) (st' := [.ref a0]) (mem' := m74) rfl ?_
          refine wq_gR rfl h (fun v78 h => ?_)
          refine wq_gR rfl h (fun v81 h => ?_)
          refine wp_run 3 (pc' := 87) (lv' := [(0, .ref a0), (1, .int a1)]) (st' := [.int 0, .int 3, .int a1, .ref v81]) (mem' := m74) rfl ?_
          obtain ⟨fk87, hk87, h⟩ := dRc_some h
          refine wq_cV rfl (kCall_v hk87 (as := [.int a1, .int 3, .int 0]) (rest := []) ⟨by decide, rfl, (show 3 < 90 by decide), by decide⟩ (show 0 ≤ 8 by decide)) h (fun r hr => ca_up (by decide) (m_Table_set_ok hz xm N hr)) (fun m87 h => ?_)
          refine wp_run 1 (pc' := 91) (lv' := [(0, .ref a0), (1, .int a1)]) (st' := [.ref a0]) (mem' := m87) rfl ?_
          refine wq_gR rfl h (fun v91 h => ?_)
          refine wq_gR rfl h (fun v94 h => ?_)
          refine wp_run 1 (pc' := 98) (lv' := [(0, .ref a0), (1, .int a1)]) (st' := [.ref a0, .ref v94]) (mem' := m87) rfl ?_
          refine wq_gR rfl h (fun v98 h => ?_)
          refine wq_gR rfl h (fun v101 h => ?_)
          refine wp_run 2 (pc' := 106) (lv' := [(0, .ref a0), (1, .int a1)]) (st' := [.int 0, .int a1, .ref v101, .ref v94]) (mem' := m87) rfl ?_
          obtain ⟨fk106, hk106, h⟩ := dRc_some h
          refine wq_cI rfl (kCall_v hk106 (as := [.int a1, .int 0]) (rest := [.ref v94]) ⟨by decide, rfl, (show 2 < 90 by decide), by decide⟩ (show 1 ≤ 8 by decide)) h (fun r hr => ca_up (by decide) (m_Table_get_ok hz xm N hr)) (fun v106 m106 h => ?_)
          obtain ⟨fk109, hk109, h⟩ := dRc_some h
          refine wq_cV rfl (kCall_v hk109 (as := [.int v106]) (rest := []) ⟨by decide, rfl, (show 1 < 90 by decide), by decide⟩ (show 0 ≤ 8 by decide)) h (fun r hr => ca_up (by decide) (m_Needle_put_ok hz xm N hr)) (fun m109 h => ?_)
          refine wp_run 1 (pc' := 113) (lv' := [(0, .ref a0), (1, .int a1)]) (st' := [.ref a0]) (mem' := m109) rfl ?_
          refine wq_gR rfl h (fun v113 h => ?_)
          refine wq_gR rfl h (fun v116 h => ?_)
          refine wp_run 2 (pc' := 121) (lv' := [(0, .ref a0), (1, .int a1)]) (st' := [.int 2, .int a1, .ref v116]) (mem' := m109) rfl ?_
          obtain ⟨fk121, hk121, h⟩ := dRc_some h
          refine wq_cI rfl (kCall_v hk121 (as := [.int a1, .int 2]) (rest := []) ⟨by decide, rfl, (show 2 < 90 by decide), by decide⟩ (show 0 ≤ 8 by decide)) h (fun r hr => ca_up (by decide) (m_Table_get_ok hz xm N hr)) (fun v121 m121 h => ?_)
          exact wq_ret rfl rfl h
        · exact wq_end rfl rfl h
    · exact wq_end rfl rfl h
/-- Knitstead.takeWorked()I -/
def m_K_takeWorked (xm : Nat → Option kE) (N : Nat) (a0 : Nat) (mem : kM) : dRes :=
  dGR xm mem a0 11 1 fun v1 =>
  dGR xm mem v1 10 0 fun v4 =>
  dRc xm mem v4 7 <|
  dCI (m_Needle_takeAt xm N v4 0 mem) fun v8 m8 =>
  dGR xm m8 a0 11 2 fun v13 =>
  dRc xm m8 v13 8 <|
  dCV (m_Table_set xm N v13 v8 5 2 m8) fun m19 =>
  some (.inl (some (.int v8)), m19)
theorem m_K_takeWorked_ok (hz : z.category = 1) (xm : Nat → Option kE) (N : Nat) {a0 : Nat} {mem : kM} {R : kO × kM} (h : m_K_takeWorked xm N a0 mem = some R) : kCa xm (kSm z) kDfl kFty kG 5 67 [.ref a0] mem (dEq R) := by
  refine wq_ca (show 1 ≤ 2 by decide) ?_
  change kGo xm (kSm z) kDfl kFty kG 4 67 0 [(0, .ref a0)] [] mem (dEq R)
  unfold m_K_takeWorked at h
  refine wp_run 1 (pc' := 1) (lv' := [(0, .ref a0)]) (st' := [.ref a0]) (mem' := mem) rfl ?_
  refine wq_gR rfl h (fun v1 h => ?_)
  refine wq_gR rfl h (fun v4 h => ?_)
  refine wp_run 1 (pc' := 8) (lv' := [(0, .ref a0)]) (st' := [.int 0, .ref v4]) (mem' := mem) rfl ?_
  obtain ⟨fk8, hk8, h⟩ := dRc_some h
  refine wq_cI rfl (kCall_v hk8 (as := [.int 0]) (rest := []) ⟨by decide, rfl, (show 1 < 90 by decide), by decide⟩ (show 0 ≤ 8 by decide)) h (fun r hr => ca_up (by decide) (m_Needle_takeAt_ok hz xm N hr)) (fun v8 m8 h => ?_)
  refine wp_run 2 (pc' := 13) (lv' := [(1, .int v8), (0, .ref a0)]) (st' := [.ref a0]) (mem' := m8) rfl ?_
  refine wq_gR rfl h (fun v13 h => ?_)
  refine wp_run 3 (pc' := 19) (lv' := [(1, .int v8), (0, .ref a0)]) (st' := [.int 2, .int 5, .int v8, .ref v13]) (mem' := m8) rfl ?_
  obtain ⟨fk19, hk19, h⟩ := dRc_some h
  refine wq_cV rfl (kCall_v hk19 (as := [.int v8, .int 5, .int 2]) (rest := []) ⟨by decide, rfl, (show 3 < 90 by decide), by decide⟩ (show 0 ≤ 8 by decide)) h (fun r hr => ca_up (by decide) (m_Table_set_ok hz xm N hr)) (fun m19 h => ?_)
  refine wp_run 1 (pc' := 23) (lv' := [(1, .int v8), (0, .ref a0)]) (st' := [.int v8]) (mem' := m19) rfl ?_
  exact wq_ret rfl rfl h
/-- Knitstead.workNext(I)I -/
def m_K_workNext (xm : Nat → Option kE) (N : Nat) (a0 : Nat) (a1 : Int32) (mem : kM) : dRes :=
  dRc xm mem a0 11 <|
  dCI (m_K_takeWorked xm N a0 mem) fun v1 m1 =>
  dGR xm m1 a0 11 2 fun v8 =>
  dRc xm m1 v8 8 <|
  dCI (m_Table_get xm N v8 v1 3 m1) fun v13 m13 =>
  dRc xm m13 a0 11 <|
  dCI (m_K_make xm N a0 a1 (v13 + 1) 1 4 m13) fun v20 m20 =>
  some (.inl (some (.int v20)), m20)
theorem m_K_workNext_ok (hz : z.category = 1) (xm : Nat → Option kE) (N : Nat) {a0 : Nat} {a1 : Int32} {mem : kM} {R : kO × kM} (h : m_K_workNext xm N a0 a1 mem = some R) : kCa xm (kSm z) kDfl kFty kG 7 68 [.ref a0, .int a1] mem (dEq R) := by
  refine wq_ca (show 2 ≤ 3 by decide) ?_
  change kGo xm (kSm z) kDfl kFty kG 6 68 0 [(0, .ref a0), (1, .int a1)] [] mem (dEq R)
  unfold m_K_workNext at h
  refine wp_run 1 (pc' := 1) (lv' := [(0, .ref a0), (1, .int a1)]) (st' := [.ref a0]) (mem' := mem) rfl ?_
  obtain ⟨fk1, hk1, h⟩ := dRc_some h
  refine wq_cI rfl (kCall_v hk1 (as := []) (rest := []) ⟨by decide, rfl, (show 0 < 90 by decide), by decide⟩ (show 0 ≤ 8 by decide)) h (fun r hr => ca_up (by decide) (m_K_takeWorked_ok hz xm N hr)) (fun v1 m1 h => ?_)
  refine wp_run 4 (pc' := 8) (lv' := [(2, .int v1), (0, .ref a0), (1, .int a1)]) (st' := [.ref a0, .int a1, .ref a0]) (mem' := m1) rfl ?_
  refine wq_gR rfl h (fun v8 h => ?_)
  refine wp_run 2 (pc' := 13) (lv' := [(2, .int v1), (0, .ref a0), (1, .int a1)]) (st' := [.int 3, .int v1, .ref v8, .int a1, .ref a0]) (mem' := m1) rfl ?_
  obtain ⟨fk13, hk13, h⟩ := dRc_some h
  refine wq_cI rfl (kCall_v hk13 (as := [.int v1, .int 3]) (rest := [.int a1, .ref a0]) ⟨by decide, rfl, (show 2 < 90 by decide), by decide⟩ (show 2 ≤ 8 by decide)) h (fun r hr => ca_up (by decide) (m_Table_get_ok hz xm N hr)) (fun v13 m13 h => ?_)
  refine wp_run 4 (pc' := 20) (lv' := [(2, .int v1), (0, .ref a0), (1, .int a1)]) (st' := [.int 4, .int 1, .int (v13 + 1), .int a1, .ref a0]) (mem' := m13) rfl ?_
  obtain ⟨fk20, hk20, h⟩ := dRc_some h
  refine wq_cI rfl (kCall_v hk20 (as := [.int a1, .int (v13 + 1), .int 1, .int 4]) (rest := []) ⟨by decide, rfl, (show 4 < 90 by decide), by decide⟩ (show 0 ≤ 8 by decide)) h (fun r hr => ca_up (by decide) (m_K_make_ok hz xm N hr)) (fun v20 m20 h => ?_)
  exact wq_ret rfl rfl h
/-- Knitstead.makeOver()I -/
def m_K_makeOver (xm : Nat → Option kE) (N : Nat) (a0 : Nat) (mem : kM) : dRes :=
  dGR xm mem a0 11 1 fun v1 =>
  dGI xm mem v1 10 6 fun v5 =>
  dP xm mem v1 10 6 (.int (v5 + 1)) fun m10 =>
  dRc xm m10 a0 11 <|
  dCI (m_K_make xm N a0 3 1 0 3 m10) fun v18 m18 =>
  some (.inl (some (.int v18)), m18)
theorem m_K_makeOver_ok (hz : z.category = 1) (xm : Nat → Option kE) (N : Nat) {a0 : Nat} {mem : kM} {R : kO × kM} (h : m_K_makeOver xm N a0 mem = some R) : kCa xm (kSm z) kDfl kFty kG 7 69 [.ref a0] mem (dEq R) := by
  refine wq_ca (show 1 ≤ 1 by decide) ?_
  change kGo xm (kSm z) kDfl kFty kG 6 69 0 [(0, .ref a0)] [] mem (dEq R)
  unfold m_K_makeOver at h
  refine wp_run 1 (pc' := 1) (lv' := [(0, .ref a0)]) (st' := [.ref a0]) (mem' := mem) rfl ?_
  refine wq_gR rfl h (fun v1 h => ?_)
  refine wp_run 1 (pc' := 5) (lv' := [(0, .ref a0)]) (st' := [.ref v1, .ref v1]) (mem' := mem) rfl ?_
  refine wq_gI rfl h (fun v5 h => ?_)
  refine wp_run 2 (pc' := 10) (lv' := [(0, .ref a0)]) (st' := [.int (v5 + 1), .ref v1]) (mem' := mem) rfl ?_
  refine wq_p rfl rfl h (fun m10 h => ?_)
  refine wp_run 5 (pc' := 18) (lv' := [(0, .ref a0)]) (st' := [.int 3, .int 0, .int 1, .int 3, .ref a0]) (mem' := m10) rfl ?_
  obtain ⟨fk18, hk18, h⟩ := dRc_some h
  refine wq_cI rfl (kCall_v hk18 (as := [.int 3, .int 1, .int 0, .int 3]) (rest := []) ⟨by decide, rfl, (show 4 < 90 by decide), by decide⟩ (show 0 ≤ 8 by decide)) h (fun r hr => ca_up (by decide) (m_K_make_ok hz xm N hr)) (fun v18 m18 h => ?_)
  exact wq_ret rfl rfl h
/-- Knitstead.takeTogether(II)I -/
def m_K_takeTogether_2 (xm : Nat → Option kE) (N : Nat) : Nat → Nat → Int32 → Int32 → Int32 → kM → dRes
  | 0, _, _, _, _, _ => none
  | n + 1, a0, a1, a2, a3, mem =>
    if a3 < a1 then (
      dRc xm mem a0 11 <|
      dCI (m_K_takeWorked xm N a0 mem) fun v8 m8 =>
      m_K_takeTogether_2 xm N n a0 a1 a2 (a3 + 1) m8
    ) else (
      dRc xm mem a0 11 <|
      dCI (m_K_make xm N a0 a2 1 a1 5 mem) fun v23 m23 =>
      some (.inl (some (.int v23)), m23)
    )
theorem m_K_takeTogether_2_ok (hz : z.category = 1) (xm : Nat → Option kE) (N : Nat) : ∀ (n : Nat) (a0 : Nat) (a1 : Int32) (a2 : Int32) (a3 : Int32) (mem : kM) (R : kO × kM), m_K_takeTogether_2 xm N n a0 a1 a2 a3 mem = some R → kGo xm (kSm z) kDfl kFty kG 6 70 2 [(0, .ref a0), (1, .int a1), (2, .int a2), (3, .int a3)] [] mem (dEq R) := by
  intro n
  induction n with
  | zero => intro a0 a1 a2 a3 mem R h; cases h
  | succ n ih =>
    intro a0 a1 a2 a3 mem R h
    rw [m_K_takeTogether_2] at h
    refine wp_run 2 (pc' := 4) (lv' := [(0, .ref a0), (1, .int a1), (2, .int a2), (3, .int a3)]) (st' := [.int a1, .int a3]) (mem' := mem) rfl ?_
    refine wq_ge2 rfl h (fun h => ?_) (fun h => ?_)
    · refine wp_run 1 (pc' := 8) (lv' := [(0, .ref a0), (1, .int a1), (2, .int a2), (3, .int a3)]) (st' := [.ref a0]) (mem' := mem) rfl ?_
      obtain ⟨fk8, hk8, h⟩ := dRc_some h
      refine wq_cI rfl (kCall_v hk8 (as := []) (rest := []) ⟨by decide, rfl, (show 0 < 90 by decide), by decide⟩ (show 0 ≤ 8 by decide)) h (fun r hr => ca_up (by decide) (m_K_takeWorked_ok hz xm N hr)) (fun v8 m8 h => ?_)
      refine wp_run 3 (pc' := 2) (lv' := [(3, .int (a3 + 1)), (0, .ref a0), (1, .int a1), (2, .int a2)]) (st' := []) (mem' := m8) rfl ?_
      refine kGo_sub (lvS_of [1, 2, 3, 0] rfl [3, 0, 1, 2] rfl (by decide)) ?_
      exact ih _ _ _ _ m8 R h
    · refine wp_run 5 (pc' := 23) (lv' := [(0, .ref a0), (1, .int a1), (2, .int a2), (3, .int a3)]) (st' := [.int 5, .int a1, .int 1, .int a2, .ref a0]) (mem' := mem) rfl ?_
      obtain ⟨fk23, hk23, h⟩ := dRc_some h
      refine wq_cI rfl (kCall_v hk23 (as := [.int a2, .int 1, .int a1, .int 5]) (rest := []) ⟨by decide, rfl, (show 4 < 90 by decide), by decide⟩ (show 0 ≤ 8 by decide)) h (fun r hr => ca_up (by decide) (m_K_make_ok hz xm N hr)) (fun v23 m23 h => ?_)
      exact wq_ret rfl rfl h
def m_K_takeTogether (xm : Nat → Option kE) (N : Nat) (a0 : Nat) (a1 : Int32) (a2 : Int32) (mem : kM) : dRes :=
  m_K_takeTogether_2 xm N N a0 a1 a2 0 mem
theorem m_K_takeTogether_ok (hz : z.category = 1) (xm : Nat → Option kE) (N : Nat) {a0 : Nat} {a1 : Int32} {a2 : Int32} {mem : kM} {R : kO × kM} (h : m_K_takeTogether xm N a0 a1 a2 mem = some R) : kCa xm (kSm z) kDfl kFty kG 7 70 [.ref a0, .int a1, .int a2] mem (dEq R) := by
  refine wq_ca (show 3 ≤ 4 by decide) ?_
  change kGo xm (kSm z) kDfl kFty kG 6 70 0 [(0, .ref a0), (1, .int a1), (2, .int a2)] [] mem (dEq R)
  unfold m_K_takeTogether at h
  refine wp_run 2 (pc' := 2) (lv' := [(3, .int 0), (0, .ref a0), (1, .int a1), (2, .int a2)]) (st' := []) (mem' := mem) rfl ?_
  refine kGo_sub (lvS_of [1, 2, 3, 0] rfl [3, 0, 1, 2] rfl (by decide)) ?_
  exact m_K_takeTogether_2_ok hz xm N N _ _ _ _ mem R h
/-- Knitstead.slipNext()I -/
def m_K_slipNext (xm : Nat → Option kE) (N : Nat) (a0 : Nat) (mem : kM) : dRes :=
  dGR xm mem a0 11 1 fun v1 =>
  dGR xm mem v1 10 0 fun v4 =>
  dRc xm mem v4 7 <|
  dCI (m_Needle_takeAt xm N v4 0 mem) fun v8 m8 =>
  dGR xm m8 a0 11 1 fun v13 =>
  dGR xm m8 v13 10 1 fun v16 =>
  dRc xm m8 v16 7 <|
  dCV (m_Needle_put xm N v16 v8 m8) fun m20 =>
  some (.inl (some (.int v8)), m20)
theorem m_K_slipNext_ok (hz : z.category = 1) (xm : Nat → Option kE) (N : Nat) {a0 : Nat} {mem : kM} {R : kO × kM} (h : m_K_slipNext xm N a0 mem = some R) : kCa xm (kSm z) kDfl kFty kG 3 71 [.ref a0] mem (dEq R) := by
  refine wq_ca (show 1 ≤ 2 by decide) ?_
  change kGo xm (kSm z) kDfl kFty kG 2 71 0 [(0, .ref a0)] [] mem (dEq R)
  unfold m_K_slipNext at h
  refine wp_run 1 (pc' := 1) (lv' := [(0, .ref a0)]) (st' := [.ref a0]) (mem' := mem) rfl ?_
  refine wq_gR rfl h (fun v1 h => ?_)
  refine wq_gR rfl h (fun v4 h => ?_)
  refine wp_run 1 (pc' := 8) (lv' := [(0, .ref a0)]) (st' := [.int 0, .ref v4]) (mem' := mem) rfl ?_
  obtain ⟨fk8, hk8, h⟩ := dRc_some h
  refine wq_cI rfl (kCall_v hk8 (as := [.int 0]) (rest := []) ⟨by decide, rfl, (show 1 < 90 by decide), by decide⟩ (show 0 ≤ 8 by decide)) h (fun r hr => ca_up (by decide) (m_Needle_takeAt_ok hz xm N hr)) (fun v8 m8 h => ?_)
  refine wp_run 2 (pc' := 13) (lv' := [(1, .int v8), (0, .ref a0)]) (st' := [.ref a0]) (mem' := m8) rfl ?_
  refine wq_gR rfl h (fun v13 h => ?_)
  refine wq_gR rfl h (fun v16 h => ?_)
  refine wp_run 1 (pc' := 20) (lv' := [(1, .int v8), (0, .ref a0)]) (st' := [.int v8, .ref v16]) (mem' := m8) rfl ?_
  obtain ⟨fk20, hk20, h⟩ := dRc_some h
  refine wq_cV rfl (kCall_v hk20 (as := [.int v8]) (rest := []) ⟨by decide, rfl, (show 1 < 90 by decide), by decide⟩ (show 0 ≤ 8 by decide)) h (fun r hr => ca_up (by decide) (m_Needle_put_ok hz xm N hr)) (fun m20 h => ?_)
  refine wp_run 1 (pc' := 24) (lv' := [(1, .int v8), (0, .ref a0)]) (st' := [.int v8]) (mem' := m20) rfl ?_
  exact wq_ret rfl rfl h
/-- Knitstead.doStep(I)V -/
def m_K_doStep (xm : Nat → Option kE) (N : Nat) (a0 : Nat) (a1 : Int32) (mem : kM) : dRes :=
  dSw a1 1 9 (
    some (.inl none, mem)
  ) [
  (
    dRc xm mem a0 11 <|
    dCI (m_K_workNext xm N a0 1 mem) fun v54 m54 =>
    some (.inl none, m54)
  ),
  (
    dRc xm mem a0 11 <|
    dCI (m_K_workNext xm N a0 2 mem) fun v63 m63 =>
    some (.inl none, m63)
  ),
  (
    dRc xm mem a0 11 <|
    dCI (m_K_makeOver xm N a0 mem) fun v71 m71 =>
    some (.inl none, m71)
  ),
  (
    dRc xm mem a0 11 <|
    dCI (m_K_takeTogether xm N a0 2 4 mem) fun v81 m81 =>
    some (.inl none, m81)
  ),
  (
    dRc xm mem a0 11 <|
    dCI (m_K_takeTogether xm N a0 2 5 mem) fun v91 m91 =>
    some (.inl none, m91)
  ),
  (
    dRc xm mem a0 11 <|
    dCI (m_K_slipNext xm N a0 mem) fun v99 m99 =>
    some (.inl none, m99)
  ),
  (
    dRc xm mem a0 11 <|
    dCI (m_K_crossNext xm N a0 1 1 mem) fun v109 m109 =>
    some (.inl none, m109)
  ),
  (
    dRc xm mem a0 11 <|
    dCI (m_K_takeTogether xm N a0 3 4 mem) fun v119 m119 =>
    some (.inl none, m119)
  ),
  (
    dRc xm mem a0 11 <|
    dCI (m_K_workNext xm N a0 1 mem) fun v128 m128 =>
    dRc xm m128 a0 11 <|
    dCI (m_K_makeOver xm N a0 m128) fun v133 m133 =>
    dRc xm m133 a0 11 <|
    dCI (m_K_workNext xm N a0 1 m133) fun v139 m139 =>
    some (.inl none, m139)
  )
  ]
theorem m_K_doStep_ok (hz : z.category = 1) (xm : Nat → Option kE) (N : Nat) {a0 : Nat} {a1 : Int32} {mem : kM} {R : kO × kM} (h : m_K_doStep xm N a0 a1 mem = some R) : kCa xm (kSm z) kDfl kFty kG 8 79 [.ref a0, .int a1] mem (dEq R) := by
  refine wq_ca (show 2 ≤ 2 by decide) ?_
  change kGo xm (kSm z) kDfl kFty kG 7 79 0 [(0, .ref a0), (1, .int a1)] [] mem (dEq R)
  unfold m_K_doStep at h
  refine wp_run 1 (pc' := 1) (lv' := [(0, .ref a0), (1, .int a1)]) (st' := [.int a1]) (mem' := mem) rfl ?_
  refine wq_sw rfl h rfl (fun h => ?_) (And.intro (fun h => ?_) (And.intro (fun h => ?_) (And.intro (fun h => ?_) (And.intro (fun h => ?_) (And.intro (fun h => ?_) (And.intro (fun h => ?_) (And.intro (fun h => ?_) (And.intro (fun h => ?_) (And.intro (fun h => ?_) (True.intro))))))))))
  · change kGo xm (kSm z) kDfl kFty kG 7 79 146 [(0, .ref a0), (1, .int a1)] [] mem (dEq R)
    exact wq_end rfl rfl h
  · change kGo xm (kSm z) kDfl kFty kG 7 79 52 [(0, .ref a0), (1, .int a1)] [] mem (dEq R)
    refine wp_run 2 (pc' := 54) (lv' := [(0, .ref a0), (1, .int a1)]) (st' := [.int 1, .ref a0]) (mem' := mem) rfl ?_
    obtain ⟨fk54, hk54, h⟩ := dRc_some h
    refine wq_cI rfl (kCall_v hk54 (as := [.int 1]) (rest := []) ⟨by decide, rfl, (show 1 < 90 by decide), by decide⟩ (show 0 ≤ 8 by decide)) h (fun r hr => ca_up (by decide) (m_K_workNext_ok hz xm N hr)) (fun v54 m54 h => ?_)
    refine wp_run 2 (pc' := 146) (lv' := [(0, .ref a0), (1, .int a1)]) (st' := []) (mem' := m54) rfl ?_
    exact wq_end rfl rfl h
  · change kGo xm (kSm z) kDfl kFty kG 7 79 61 [(0, .ref a0), (1, .int a1)] [] mem (dEq R)
    refine wp_run 2 (pc' := 63) (lv' := [(0, .ref a0), (1, .int a1)]) (st' := [.int 2, .ref a0]) (mem' := mem) rfl ?_
    obtain ⟨fk63, hk63, h⟩ := dRc_some h
    refine wq_cI rfl (kCall_v hk63 (as := [.int 2]) (rest := []) ⟨by decide, rfl, (show 1 < 90 by decide), by decide⟩ (show 0 ≤ 8 by decide)) h (fun r hr => ca_up (by decide) (m_K_workNext_ok hz xm N hr)) (fun v63 m63 h => ?_)
    refine wp_run 2 (pc' := 146) (lv' := [(0, .ref a0), (1, .int a1)]) (st' := []) (mem' := m63) rfl ?_
    exact wq_end rfl rfl h
  · change kGo xm (kSm z) kDfl kFty kG 7 79 70 [(0, .ref a0), (1, .int a1)] [] mem (dEq R)
    refine wp_run 1 (pc' := 71) (lv' := [(0, .ref a0), (1, .int a1)]) (st' := [.ref a0]) (mem' := mem) rfl ?_
    obtain ⟨fk71, hk71, h⟩ := dRc_some h
    refine wq_cI rfl (kCall_v hk71 (as := []) (rest := []) ⟨by decide, rfl, (show 0 < 90 by decide), by decide⟩ (show 0 ≤ 8 by decide)) h (fun r hr => ca_up (by decide) (m_K_makeOver_ok hz xm N hr)) (fun v71 m71 h => ?_)
    refine wp_run 2 (pc' := 146) (lv' := [(0, .ref a0), (1, .int a1)]) (st' := []) (mem' := m71) rfl ?_
    exact wq_end rfl rfl h
  · change kGo xm (kSm z) kDfl kFty kG 7 79 78 [(0, .ref a0), (1, .int a1)] [] mem (dEq R)
    refine wp_run 3 (pc' := 81) (lv' := [(0, .ref a0), (1, .int a1)]) (st' := [.int 4, .int 2, .ref a0]) (mem' := mem) rfl ?_
    obtain ⟨fk81, hk81, h⟩ := dRc_some h
    refine wq_cI rfl (kCall_v hk81 (as := [.int 2, .int 4]) (rest := []) ⟨by decide, rfl, (show 2 < 90 by decide), by decide⟩ (show 0 ≤ 8 by decide)) h (fun r hr => ca_up (by decide) (m_K_takeTogether_ok hz xm N hr)) (fun v81 m81 h => ?_)
    refine wp_run 2 (pc' := 146) (lv' := [(0, .ref a0), (1, .int a1)]) (st' := []) (mem' := m81) rfl ?_
    exact wq_end rfl rfl h
  · change kGo xm (kSm z) kDfl kFty kG 7 79 88 [(0, .ref a0), (1, .int a1)] [] mem (dEq R)
    refine wp_run 3 (pc' := 91) (lv' := [(0, .ref a0), (1, .int a1)]) (st' := [.int 5, .int 2, .ref a0]) (mem' := mem) rfl ?_
    obtain ⟨fk91, hk91, h⟩ := dRc_some h
    refine wq_cI rfl (kCall_v hk91 (as := [.int 2, .int 5]) (rest := []) ⟨by decide, rfl, (show 2 < 90 by decide), by decide⟩ (show 0 ≤ 8 by decide)) h (fun r hr => ca_up (by decide) (m_K_takeTogether_ok hz xm N hr)) (fun v91 m91 h => ?_)
    refine wp_run 2 (pc' := 146) (lv' := [(0, .ref a0), (1, .int a1)]) (st' := []) (mem' := m91) rfl ?_
    exact wq_end rfl rfl h
  · change kGo xm (kSm z) kDfl kFty kG 7 79 98 [(0, .ref a0), (1, .int a1)] [] mem (dEq R)
    refine wp_run 1 (pc' := 99) (lv' := [(0, .ref a0), (1, .int a1)]) (st' := [.ref a0]) (mem' := mem) rfl ?_
    obtain ⟨fk99, hk99, h⟩ := dRc_some h
    refine wq_cI rfl (kCall_v hk99 (as := []) (rest := []) ⟨by decide, rfl, (show 0 < 90 by decide), by decide⟩ (show 0 ≤ 8 by decide)) h (fun r hr => ca_up (by decide) (m_K_slipNext_ok hz xm N hr)) (fun v99 m99 h => ?_)
    refine wp_run 2 (pc' := 146) (lv' := [(0, .ref a0), (1, .int a1)]) (st' := []) (mem' := m99) rfl ?_
    exact wq_end rfl rfl h
  · change kGo xm (kSm z) kDfl kFty kG 7 79 106 [(0, .ref a0), (1, .int a1)] [] mem (dEq R)
    refine wp_run 3 (pc' := 109) (lv' := [(0, .ref a0), (1, .int a1)]) (st' := [.int 1, .int 1, .ref a0]) (mem' := mem) rfl ?_
    obtain ⟨fk109, hk109, h⟩ := dRc_some h
    refine wq_cI rfl (kCall_v hk109 (as := [.int 1, .int 1]) (rest := []) ⟨by decide, rfl, (show 2 < 90 by decide), by decide⟩ (show 0 ≤ 8 by decide)) h (fun r hr => ca_up (by decide) (m_K_crossNext_ok hz xm N hr)) (fun v109 m109 h => ?_)
    refine wp_run 2 (pc' := 146) (lv' := [(0, .ref a0), (1, .int a1)]) (st' := []) (mem' := m109) rfl ?_
    exact wq_end rfl rfl h
  · change kGo xm (kSm z) kDfl kFty kG 7 79 116 [(0, .ref a0), (1, .int a1)] [] mem (dEq R)
    refine wp_run 3 (pc' := 119) (lv' := [(0, .ref a0), (1, .int a1)]) (st' := [.int 4, .int 3, .ref a0]) (mem' := mem) rfl ?_
    obtain ⟨fk119, hk119, h⟩ := dRc_some h
    refine wq_cI rfl (kCall_v hk119 (as := [.int 3, .int 4]) (rest := []) ⟨by decide, rfl, (show 2 < 90 by decide), by decide⟩ (show 0 ≤ 8 by decide)) h (fun r hr => ca_up (by decide) (m_K_takeTogether_ok hz xm N hr)) (fun v119 m119 h => ?_)
    refine wp_run 2 (pc' := 146) (lv' := [(0, .ref a0), (1, .int a1)]) (st' := []) (mem' := m119) rfl ?_
    exact wq_end rfl rfl h
  · change kGo xm (kSm z) kDfl kFty kG 7 79 126 [(0, .ref a0), (1, .int a1)] [] mem (dEq R)
    refine wp_run 2 (pc' := 128) (lv' := [(0, .ref a0), (1, .int a1)]) (st' := [.int 1, .ref a0]) (mem' := mem) rfl ?_
    obtain ⟨fk128, hk128, h⟩ := dRc_some h
    refine wq_cI rfl (kCall_v hk128 (as := [.int 1]) (rest := []) ⟨by decide, rfl, (show 1 < 90 by decide), by decide⟩ (show 0 ≤ 8 by decide)) h (fun r hr => ca_up (by decide) (m_K_workNext_ok hz xm N hr)) (fun v128 m128 h => ?_)
    refine wp_run 2 (pc' := 133) (lv' := [(0, .ref a0), (1, .int a1)]) (st' := [.ref a0]) (mem' := m128) rfl ?_
    obtain ⟨fk133, hk133, h⟩ := dRc_some h
    refine wq_cI rfl (kCall_v hk133 (as := []) (rest := []) ⟨by decide, rfl, (show 0 < 90 by decide), by decide⟩ (show 0 ≤ 8 by decide)) h (fun r hr => ca_up (by decide) (m_K_makeOver_ok hz xm N hr)) (fun v133 m133 h => ?_)
    refine wp_run 3 (pc' := 139) (lv' := [(0, .ref a0), (1, .int a1)]) (st' := [.int 1, .ref a0]) (mem' := m133) rfl ?_
    obtain ⟨fk139, hk139, h⟩ := dRc_some h
    refine wq_cI rfl (kCall_v hk139 (as := [.int 1]) (rest := []) ⟨by decide, rfl, (show 1 < 90 by decide), by decide⟩ (show 0 ≤ 8 by decide)) h (fun r hr => ca_up (by decide) (m_K_workNext_ok hz xm N hr)) (fun v139 m139 h => ?_)
    refine wp_run 2 (pc' := 146) (lv' := [(0, .ref a0), (1, .int a1)]) (st' := []) (mem' := m139) rfl ?_
    exact wq_end rfl rfl h
/-- Knitstead.hasPattern(I)Z -/
def m_K_hasPattern (xm : Nat → Option kE) (N : Nat) (a0 : Nat) (a1 : Int32) (mem : kM) : dRes :=
  if a1 < 0 then (
    some (.inl (some (.int 0)), mem)
  ) else (
    dGI xm mem a0 11 7 fun v6 =>
    if a1 < v6 then (
      some (.inl (some (.int 1)), mem)
    ) else (
      some (.inl (some (.int 0)), mem)
    )
  )
theorem m_K_hasPattern_ok (hz : z.category = 1) (xm : Nat → Option kE) (N : Nat) {a0 : Nat} {a1 : Int32} {mem : kM} {R : kO × kM} (h : m_K_hasPattern xm N a0 a1 mem = some R) : kCa xm (kSm z) kDfl kFty kG 1 80 [.ref a0, .int a1] mem (dEq R) := by
  refine wq_ca (show 2 ≤ 2 by decide) ?_
  change kGo xm (kSm z) kDfl kFty kG 0 80 0 [(0, .ref a0), (1, .int a1)] [] mem (dEq R)
  unfold m_K_hasPattern at h
  refine wp_run 1 (pc' := 1) (lv' := [(0, .ref a0), (1, .int a1)]) (st' := [.int a1]) (mem' := mem) rfl ?_
  refine wq_lt rfl h (fun h => ?_) (fun h => ?_)
  · refine wp_run 1 (pc' := 17) (lv' := [(0, .ref a0), (1, .int a1)]) (st' := [.int 0]) (mem' := mem) rfl ?_
    exact wq_ret rfl rfl h
  · refine wp_run 2 (pc' := 6) (lv' := [(0, .ref a0), (1, .int a1)]) (st' := [.ref a0, .int a1]) (mem' := mem) rfl ?_
    refine wq_gI rfl h (fun v6 h => ?_)
    refine wq_ge2 rfl h (fun h => ?_) (fun h => ?_)
    · refine wp_run 2 (pc' := 17) (lv' := [(0, .ref a0), (1, .int a1)]) (st' := [.int 1]) (mem' := mem) rfl ?_
      exact wq_ret rfl rfl h
    · refine wp_run 1 (pc' := 17) (lv' := [(0, .ref a0), (1, .int a1)]) (st' := [.int 0]) (mem' := mem) rfl ?_
      exact wq_ret rfl rfl h
/-- Knitstead.stepAt(II)I -/
def m_K_stepAt (xm : Nat → Option kE) (N : Nat) (a0 : Nat) (a1 : Int32) (a2 : Int32) (mem : kM) : dRes :=
  dGR xm mem a0 11 3 fun v1 =>
  dRc xm mem v1 8 <|
  dCI (m_Table_get xm N v1 a1 1 mem) fun v6 m6 =>
  if v6 < 1 then (
    some (.inl (some (.int 0)), m6)
  ) else (
    dGR xm m6 a0 11 4 fun v20 =>
    dNz v6 <|
    dRc xm m6 v20 8 <|
    dCI (m_Table_get xm N v20 a1 (a2 - a2 / v6 * v6) m6) fun v27 m27 =>
    some (.inl (some (.int v27)), m27)
  )
theorem m_K_stepAt_ok (hz : z.category = 1) (xm : Nat → Option kE) (N : Nat) {a0 : Nat} {a1 : Int32} {a2 : Int32} {mem : kM} {R : kO × kM} (h : m_K_stepAt xm N a0 a1 a2 mem = some R) : kCa xm (kSm z) kDfl kFty kG 3 84 [.ref a0, .int a1, .int a2] mem (dEq R) := by
  refine wq_ca (show 3 ≤ 4 by decide) ?_
  change kGo xm (kSm z) kDfl kFty kG 2 84 0 [(0, .ref a0), (1, .int a1), (2, .int a2)] [] mem (dEq R)
  unfold m_K_stepAt at h
  refine wp_run 1 (pc' := 1) (lv' := [(0, .ref a0), (1, .int a1), (2, .int a2)]) (st' := [.ref a0]) (mem' := mem) rfl ?_
  refine wq_gR rfl h (fun v1 h => ?_)
  refine wp_run 2 (pc' := 6) (lv' := [(0, .ref a0), (1, .int a1), (2, .int a2)]) (st' := [.int 1, .int a1, .ref v1]) (mem' := mem) rfl ?_
  obtain ⟨fk6, hk6, h⟩ := dRc_some h
  refine wq_cI rfl (kCall_v hk6 (as := [.int a1, .int 1]) (rest := []) ⟨by decide, rfl, (show 2 < 90 by decide), by decide⟩ (show 0 ≤ 8 by decide)) h (fun r hr => ca_up (by decide) (m_Table_get_ok hz xm N hr)) (fun v6 m6 h => ?_)
  refine wp_run 3 (pc' := 12) (lv' := [(3, .int v6), (0, .ref a0), (1, .int a1), (2, .int a2)]) (st' := [.int 1, .int v6]) (mem' := m6) rfl ?_
  refine wq_ge2 rfl h (fun h => ?_) (fun h => ?_)
  · refine wp_run 2 (pc' := 30) (lv' := [(3, .int v6), (0, .ref a0), (1, .int a1), (2, .int a2)]) (st' := [.int 0]) (mem' := m6) rfl ?_
    exact wq_ret rfl rfl h
  · refine wp_run 1 (pc' := 20) (lv' := [(3, .int v6), (0, .ref a0), (1, .int a1), (2, .int a2)]) (st' := [.ref a0]) (mem' := m6) rfl ?_
    refine wq_gR rfl h (fun v20 h => ?_)
    refine wp_run 3 (pc' := 26) (lv' := [(3, .int v6), (0, .ref a0), (1, .int a1), (2, .int a2)]) (st' := [.int v6, .int a2, .int a1, .ref v20]) (mem' := m6) rfl ?_
    refine wq_irem rfl h (fun h => ?_)
    obtain ⟨fk27, hk27, h⟩ := dRc_some h
    refine wq_cI rfl (kCall_v hk27 (as := [.int a1, .int (a2 - a2 / v6 * v6)]) (rest := []) ⟨by decide, rfl, (show 2 < 90 by decide), by decide⟩ (show 0 ≤ 8 by decide)) h (fun r hr => ca_up (by decide) (m_Table_get_ok hz xm N hr)) (fun v27 m27 h => ?_)
    exact wq_ret rfl rfl h
/-- Knitstead$Trial.start(III)V -/
def m_Trial_start (xm : Nat → Option kE) (N : Nat) (a0 : Nat) (a1 : Int32) (a2 : Int32) (a3 : Int32) (mem : kM) : dRes :=
  dP xm mem a0 9 0 (.int a1) fun m2 =>
  dP xm m2 a0 9 1 (.int a2) fun m7 =>
  dP xm m7 a0 9 2 (.int a3) fun m12 =>
  dP xm m12 a0 9 3 (.int 0) fun m17 =>
  dP xm m17 a0 9 4 (.int 0) fun m22 =>
  some (.inl none, m22)
theorem m_Trial_start_ok (hz : z.category = 1) (xm : Nat → Option kE) (N : Nat) {a0 : Nat} {a1 : Int32} {a2 : Int32} {a3 : Int32} {mem : kM} {R : kO × kM} (h : m_Trial_start xm N a0 a1 a2 a3 mem = some R) : kCa xm (kSm z) kDfl kFty kG 1 29 [.ref a0, .int a1, .int a2, .int a3] mem (dEq R) := by
  refine wq_ca (show 4 ≤ 4 by decide) ?_
  change kGo xm (kSm z) kDfl kFty kG 0 29 0 [(0, .ref a0), (1, .int a1), (2, .int a2), (3, .int a3)] [] mem (dEq R)
  unfold m_Trial_start at h
  refine wp_run 2 (pc' := 2) (lv' := [(0, .ref a0), (1, .int a1), (2, .int a2), (3, .int a3)]) (st' := [.int a1, .ref a0]) (mem' := mem) rfl ?_
  refine wq_p rfl rfl h (fun m2 h => ?_)
  refine wp_run 2 (pc' := 7) (lv' := [(0, .ref a0), (1, .int a1), (2, .int a2), (3, .int a3)]) (st' := [.int a2, .ref a0]) (mem' := m2) rfl ?_
  refine wq_p rfl rfl h (fun m7 h => ?_)
  refine wp_run 2 (pc' := 12) (lv' := [(0, .ref a0), (1, .int a1), (2, .int a2), (3, .int a3)]) (st' := [.int a3, .ref a0]) (mem' := m7) rfl ?_
  refine wq_p rfl rfl h (fun m12 h => ?_)
  refine wp_run 2 (pc' := 17) (lv' := [(0, .ref a0), (1, .int a1), (2, .int a2), (3, .int a3)]) (st' := [.int 0, .ref a0]) (mem' := m12) rfl ?_
  refine wq_p rfl rfl h (fun m17 h => ?_)
  refine wp_run 2 (pc' := 22) (lv' := [(0, .ref a0), (1, .int a1), (2, .int a2), (3, .int a3)]) (st' := [.int 0, .ref a0]) (mem' := m17) rfl ?_
  refine wq_p rfl rfl h (fun m22 h => ?_)
  exact wq_end rfl rfl h
/-- Knitstead.stepFact([II)I -/
def m_K_stepFact (xm : Nat → Option kE) (N : Nat) (a0 : Nat) (a1 : Int32) (mem : kM) : dRes :=
  if a1 < 0 then (
    some (.inl (some (.int 0)), mem)
  ) else (
    dLen xm mem a0 fun v6 =>
    if a1 < v6 then (
      dIL xm 0 mem a0 a1 fun v12 =>
      some (.inl (some (.int v12)), mem)
    ) else (
      some (.inl (some (.int 0)), mem)
    )
  )
theorem m_K_stepFact_ok (hz : z.category = 1) (xm : Nat → Option kE) (N : Nat) {a0 : Nat} {a1 : Int32} {mem : kM} {R : kO × kM} (h : m_K_stepFact xm N a0 a1 mem = some R) : kCa xm (kSm z) kDfl kFty kG 1 76 [.ref a0, .int a1] mem (dEq R) := by
  refine wq_ca (show 2 ≤ 2 by decide) ?_
  change kGo xm (kSm z) kDfl kFty kG 0 76 0 [(0, .ref a0), (1, .int a1)] [] mem (dEq R)
  unfold m_K_stepFact at h
  refine wp_run 1 (pc' := 1) (lv' := [(0, .ref a0), (1, .int a1)]) (st' := [.int a1]) (mem' := mem) rfl ?_
  refine wq_lt rfl h (fun h => ?_) (fun h => ?_)
  · refine wp_run 1 (pc' := 17) (lv' := [(0, .ref a0), (1, .int a1)]) (st' := [.int 0]) (mem' := mem) rfl ?_
    exact wq_ret rfl rfl h
  · refine wp_run 2 (pc' := 6) (lv' := [(0, .ref a0), (1, .int a1)]) (st' := [.ref a0, .int a1]) (mem' := mem) rfl ?_
    refine wq_len rfl h (fun v6 h => ?_)
    refine wq_ge2 rfl h (fun h => ?_) (fun h => ?_)
    · refine wp_run 2 (pc' := 12) (lv' := [(0, .ref a0), (1, .int a1)]) (st' := [.int a1, .ref a0]) (mem' := mem) rfl ?_
      refine wq_iL rfl h (fun v12 h => ?_)
      refine wp_run 1 (pc' := 17) (lv' := [(0, .ref a0), (1, .int a1)]) (st' := [.int v12]) (mem' := mem) rfl ?_
      exact wq_ret rfl rfl h
    · refine wp_run 1 (pc' := 17) (lv' := [(0, .ref a0), (1, .int a1)]) (st' := [.int 0]) (mem' := mem) rfl ?_
      exact wq_ret rfl rfl h
/-- Knitstead.fits(IIII)Z -/
def m_K_fits (xm : Nat → Option kE) (N : Nat) (a0 : Int32) (a1 : Int32) (a2 : Int32) (a3 : Int32) (mem : kM) : dRes :=
  dCI (m_K_stepFact xm N 5 a0 mem) fun v4 m4 =>
  dCI (m_K_stepFact xm N 3 a0 m4) fun v11 m11 =>
  dCI (m_K_stepFact xm N 6 a0 m11) fun v22 m22 =>
  if a1 < v22 then (
    some (.inl (some (.int 0)), m22)
  ) else (
    if 24 < (a2 + (v4 - v11)) then (
      some (.inl (some (.int 0)), m22)
    ) else (
      dCI (m_K_stepFact xm N 4 a0 m22) fun v42 m42 =>
      if a3 < v42 then (
        some (.inl (some (.int 0)), m42)
      ) else (
        some (.inl (some (.int 1)), m42)
      )
    )
  )
theorem m_K_fits_ok (hz : z.category = 1) (xm : Nat → Option kE) (N : Nat) {a0 : Int32} {a1 : Int32} {a2 : Int32} {a3 : Int32} {mem : kM} {R : kO × kM} (h : m_K_fits xm N a0 a1 a2 a3 mem = some R) : kCa xm (kSm z) kDfl kFty kG 2 78 [.int a0, .int a1, .int a2, .int a3] mem (dEq R) := by
  refine wq_ca (show 4 ≤ 5 by decide) ?_
  change kGo xm (kSm z) kDfl kFty kG 1 78 0 [(0, .int a0), (1, .int a1), (2, .int a2), (3, .int a3)] [] mem (dEq R)
  unfold m_K_fits at h
  refine wp_run 2 (pc' := 4) (lv' := [(0, .int a0), (1, .int a1), (2, .int a2), (3, .int a3)]) (st' := [.int a0, .ref 5]) (mem' := mem) rfl ?_
  refine wq_cI rfl (kCall_s (as := [.ref 5, .int a0]) (rest := []) ⟨by decide, rfl⟩ (show 0 ≤ 8 by decide) (by decide)) h (fun r hr => ca_up (by decide) (m_K_stepFact_ok hz xm N hr)) (fun v4 m4 h => ?_)
  refine wp_run 2 (pc' := 11) (lv' := [(0, .int a0), (1, .int a1), (2, .int a2), (3, .int a3)]) (st' := [.int a0, .ref 3, .int v4]) (mem' := m4) rfl ?_
  refine wq_cI rfl (kCall_s (as := [.ref 3, .int a0]) (rest := [.int v4]) ⟨by decide, rfl⟩ (show 1 ≤ 8 by decide) (by decide)) h (fun r hr => ca_up (by decide) (m_K_stepFact_ok hz xm N hr)) (fun v11 m11 h => ?_)
  refine wp_run 5 (pc' := 22) (lv' := [(4, .int (v4 - v11)), (0, .int a0), (1, .int a1), (2, .int a2), (3, .int a3)]) (st' := [.int a0, .ref 6, .int a1]) (mem' := m11) rfl ?_
  refine wq_cI rfl (kCall_s (as := [.ref 6, .int a0]) (rest := [.int a1]) ⟨by decide, rfl⟩ (show 1 ≤ 8 by decide) (by decide)) h (fun r hr => ca_up (by decide) (m_K_stepFact_ok hz xm N hr)) (fun v22 m22 h => ?_)
  refine wq_lt2 rfl h (fun h => ?_) (fun h => ?_)
  · refine wp_run 1 (pc' := 53) (lv' := [(4, .int (v4 - v11)), (0, .int a0), (1, .int a1), (2, .int a2), (3, .int a3)]) (st' := [.int 0]) (mem' := m22) rfl ?_
    exact wq_ret rfl rfl h
  · refine wp_run 4 (pc' := 34) (lv' := [(4, .int (v4 - v11)), (0, .int a0), (1, .int a1), (2, .int a2), (3, .int a3)]) (st' := [.int 24, .int (a2 + (v4 - v11))]) (mem' := m22) rfl ?_
    refine wq_gt2 rfl h (fun h => ?_) (fun h => ?_)
    · refine wp_run 1 (pc' := 53) (lv' := [(4, .int (v4 - v11)), (0, .int a0), (1, .int a1), (2, .int a2), (3, .int a3)]) (st' := [.int 0]) (mem' := m22) rfl ?_
      exact wq_ret rfl rfl h
    · refine wp_run 3 (pc' := 42) (lv' := [(4, .int (v4 - v11)), (0, .int a0), (1, .int a1), (2, .int a2), (3, .int a3)]) (st' := [.int a0, .ref 4, .int a3]) (mem' := m22) rfl ?_
      refine wq_cI rfl (kCall_s (as := [.ref 4, .int a0]) (rest := [.int a3]) ⟨by decide, rfl⟩ (show 1 ≤ 8 by decide) (by decide)) h (fun r hr => ca_up (by decide) (m_K_stepFact_ok hz xm N hr)) (fun v42 m42 h => ?_)
      refine wq_lt2 rfl h (fun h => ?_) (fun h => ?_)
      · refine wp_run 1 (pc' := 53) (lv' := [(4, .int (v4 - v11)), (0, .int a0), (1, .int a1), (2, .int a2), (3, .int a3)]) (st' := [.int 0]) (mem' := m42) rfl ?_
        exact wq_ret rfl rfl h
      · refine wp_run 2 (pc' := 53) (lv' := [(4, .int (v4 - v11)), (0, .int a0), (1, .int a1), (2, .int a2), (3, .int a3)]) (st' := [.int 1]) (mem' := m42) rfl ?_
        exact wq_ret rfl rfl h
/-- Knitstead$Trial.takesStep(I)Z -/
def m_Trial_takesStep (xm : Nat → Option kE) (N : Nat) (a0 : Nat) (a1 : Int32) (mem : kM) : dRes :=
  dGI xm mem a0 9 0 fun v1 =>
  if v1 < 1 then (
    some (.inl (some (.int 0)), mem)
  ) else (
    dGI xm mem a0 9 0 fun v10 =>
    dGI xm mem a0 9 1 fun v14 =>
    dGI xm mem a0 9 2 fun v18 =>
    dCI (m_K_fits xm N a1 v10 v14 v18 mem) fun v21 m21 =>
    if v21 = 0 then (
      some (.inl (some (.int 0)), m21)
    ) else (
      dCI (m_K_stepFact xm N 3 a1 m21) fun v33 m33 =>
      dCI (m_K_stepFact xm N 4 a1 m33) fun v41 m41 =>
      dGI xm m41 a0 9 0 fun v47 =>
      dP xm m41 a0 9 0 (.int (v47 - v33)) fun m52 =>
      dGI xm m52 a0 9 1 fun v57 =>
      dCI (m_K_stepFact xm N 5 a1 m52) fun v64 m64 =>
      dP xm m64 a0 9 1 (.int (v57 + (v64 - v33))) fun m70 =>
      dGI xm m70 a0 9 2 fun v75 =>
      dP xm m70 a0 9 2 (.int (v75 - v41)) fun m80 =>
      dGI xm m80 a0 9 3 fun v85 =>
      dP xm m80 a0 9 3 (.int (v85 + v41)) fun m90 =>
      dGI xm m90 a0 9 4 fun v95 =>
      dP xm m90 a0 9 4 (.int (v95 + 1)) fun m100 =>
      some (.inl (some (.int 1)), m100)
    )
  )
theorem m_Trial_takesStep_ok (hz : z.category = 1) (xm : Nat → Option kE) (N : Nat) {a0 : Nat} {a1 : Int32} {mem : kM} {R : kO × kM} (h : m_Trial_takesStep xm N a0 a1 mem = some R) : kCa xm (kSm z) kDfl kFty kG 3 30 [.ref a0, .int a1] mem (dEq R) := by
  refine wq_ca (show 2 ≤ 4 by decide) ?_
  change kGo xm (kSm z) kDfl kFty kG 2 30 0 [(0, .ref a0), (1, .int a1)] [] mem (dEq R)
  unfold m_Trial_takesStep at h
  refine wp_run 1 (pc' := 1) (lv' := [(0, .ref a0), (1, .int a1)]) (st' := [.ref a0]) (mem' := mem) rfl ?_
  refine wq_gI rfl h (fun v1 h => ?_)
  refine wp_run 1 (pc' := 5) (lv' := [(0, .ref a0), (1, .int a1)]) (st' := [.int 1, .int v1]) (mem' := mem) rfl ?_
  refine wq_lt2 rfl h (fun h => ?_) (fun h => ?_)
  · refine wp_run 1 (pc' := 28) (lv' := [(0, .ref a0), (1, .int a1)]) (st' := [.int 0]) (mem' := mem) rfl ?_
    exact wq_ret rfl rfl h
  · refine wp_run 2 (pc' := 10) (lv' := [(0, .ref a0), (1, .int a1)]) (st' := [.ref a0, .int a1]) (mem' := mem) rfl ?_
    refine wq_gI rfl h (fun v10 h => ?_)
    refine wp_run 1 (pc' := 14) (lv' := [(0, .ref a0), (1, .int a1)]) (st' := [.ref a0, .int v10, .int a1]) (mem' := mem) rfl ?_
    refine wq_gI rfl h (fun v14 h => ?_)
    refine wp_run 1 (pc' := 18) (lv' := [(0, .ref a0), (1, .int a1)]) (st' := [.ref a0, .int v14, .int v10, .int a1]) (mem' := mem) rfl ?_
    refine wq_gI rfl h (fun v18 h => ?_)
    refine wq_cI rfl (kCall_s (as := [.int a1, .int v10, .int v14, .int v18]) (rest := []) ⟨by decide, rfl⟩ (show 0 ≤ 8 by decide) (by decide)) h (fun r hr => ca_up (by decide) (m_K_fits_ok hz xm N hr)) (fun v21 m21 h => ?_)
    refine wq_ne rfl h (fun h => ?_) (fun h => ?_)
    · refine wp_run 1 (pc' := 28) (lv' := [(0, .ref a0), (1, .int a1)]) (st' := [.int 0]) (mem' := m21) rfl ?_
      exact wq_ret rfl rfl h
    · refine wp_run 2 (pc' := 33) (lv' := [(0, .ref a0), (1, .int a1)]) (st' := [.int a1, .ref 3]) (mem' := m21) rfl ?_
      refine wq_cI rfl (kCall_s (as := [.ref 3, .int a1]) (rest := []) ⟨by decide, rfl⟩ (show 0 ≤ 8 by decide) (by decide)) h (fun r hr => ca_up (by decide) (m_K_stepFact_ok hz xm N hr)) (fun v33 m33 h => ?_)
      refine wp_run 3 (pc' := 41) (lv' := [(2, .int v33), (0, .ref a0), (1, .int a1)]) (st' := [.int a1, .ref 4]) (mem' := m33) rfl ?_
      refine wq_cI rfl (kCall_s (as := [.ref 4, .int a1]) (rest := []) ⟨by decide, rfl⟩ (show 0 ≤ 8 by decide) (by decide)) h (fun r hr => ca_up (by decide) (m_K_stepFact_ok hz xm N hr)) (fun v41 m41 h => ?_)
      refine wp_run 3 (pc' := 47) (lv' := [(3, .int v41), (2, .int v33), (0, .ref a0), (1, .int a1)]) (st' := [.ref a0, .ref a0]) (mem' := m41) rfl ?_
      refine wq_gI rfl h (fun v47 h => ?_)
      refine wp_run 2 (pc' := 52) (lv' := [(3, .int v41), (2, .int v33), (0, .ref a0), (1, .int a1)]) (st' := [.int (v47 - v33), .ref a0]) (mem' := m41) rfl ?_
      refine wq_p rfl rfl h (fun m52 h => ?_)
      refine wp_run 2 (pc' := 57) (lv' := [(3, .int v41), (2, .int v33), (0, .ref a0), (1, .int a1)]) (st' := [.ref a0, .ref a0]) (mem' := m52) rfl ?_
      refine wq_gI rfl h (fun v57 h => ?_)
      refine wp_run 2 (pc' := 64) (lv' := [(3, .int v41), (2, .int v33), (0, .ref a0), (1, .int a1)]) (st' := [.int a1, .ref 5, .int v57, .ref a0]) (mem' := m52) rfl ?_
      refine wq_cI rfl (kCall_s (as := [.ref 5, .int a1]) (rest := [.int v57, .ref a0]) ⟨by decide, rfl⟩ (show 2 ≤ 8 by decide) (by decide)) h (fun r hr => ca_up (by decide) (m_K_stepFact_ok hz xm N hr)) (fun v64 m64 h => ?_)
      refine wp_run 3 (pc' := 70) (lv' := [(3, .int v41), (2, .int v33), (0, .ref a0), (1, .int a1)]) (st' := [.int (v57 + (v64 - v33)), .ref a0]) (mem' := m64) rfl ?_
      refine wq_p rfl rfl h (fun m70 h => ?_)
      refine wp_run 2 (pc' := 75) (lv' := [(3, .int v41), (2, .int v33), (0, .ref a0), (1, .int a1)]) (st' := [.ref a0, .ref a0]) (mem' := m70) rfl ?_
      refine wq_gI rfl h (fun v75 h => ?_)
      refine wp_run 2 (pc' := 80) (lv' := [(3, .int v41), (2, .int v33), (0, .ref a0), (1, .int a1)]) (st' := [.int (v75 - v41), .ref a0]) (mem' := m70) rfl ?_
      refine wq_p rfl rfl h (fun m80 h => ?_)
      refine wp_run 2 (pc' := 85) (lv' := [(3, .int v41), (2, .int v33), (0, .ref a0), (1, .int a1)]) (st' := [.ref a0, .ref a0]) (mem' := m80) rfl ?_
      refine wq_gI rfl h (fun v85 h => ?_)
      refine wp_run 2 (pc' := 90) (lv' := [(3, .int v41), (2, .int v33), (0, .ref a0), (1, .int a1)]) (st' := [.int (v85 + v41), .ref a0]) (mem' := m80) rfl ?_
      refine wq_p rfl rfl h (fun m90 h => ?_)
      refine wp_run 2 (pc' := 95) (lv' := [(3, .int v41), (2, .int v33), (0, .ref a0), (1, .int a1)]) (st' := [.ref a0, .ref a0]) (mem' := m90) rfl ?_
      refine wq_gI rfl h (fun v95 h => ?_)
      refine wp_run 2 (pc' := 100) (lv' := [(3, .int v41), (2, .int v33), (0, .ref a0), (1, .int a1)]) (st' := [.int (v95 + 1), .ref a0]) (mem' := m90) rfl ?_
      refine wq_p rfl rfl h (fun m100 h => ?_)
      refine wp_run 1 (pc' := 104) (lv' := [(3, .int v41), (2, .int v33), (0, .ref a0), (1, .int a1)]) (st' := [.int 1]) (mem' := m100) rfl ?_
      exact wq_ret rfl rfl h
/-- Knitstead.tryOut(I)V -/
def m_K_tryOut_33 (xm : Nat → Option kE) (N : Nat) : Nat → Nat → Int32 → Int32 → kM → dRes
  | 0, _, _, _, _ => none
  | n + 1, a0, a1, a2, mem =>
    if a2 < 99 then (
      dGR xm mem a0 11 6 fun v40 =>
      dRc xm mem a0 11 <|
      dCI (m_K_stepAt xm N a0 a1 a2 mem) fun v46 m46 =>
      dRc xm m46 v40 9 <|
      dCI (m_Trial_takesStep xm N v40 v46 m46) fun v49 m49 =>
      if v49 = 0 then (
        some (.inl none, m49)
      ) else (
        m_K_tryOut_33 xm N n a0 a1 (a2 + 1) m49
      )
    ) else (
      some (.inl none, mem)
    )
theorem m_K_tryOut_33_ok (hz : z.category = 1) (xm : Nat → Option kE) (N : Nat) : ∀ (n : Nat) (a0 : Nat) (a1 : Int32) (a2 : Int32) (mem : kM) (R : kO × kM), m_K_tryOut_33 xm N n a0 a1 a2 mem = some R → kGo xm (kSm z) kDfl kFty kG 3 85 33 [(0, .ref a0), (1, .int a1), (2, .int a2)] [] mem (dEq R) := by
  intro n
  induction n with
  | zero => intro a0 a1 a2 mem R h; cases h
  | succ n ih =>
    intro a0 a1 a2 mem R h
    rw [m_K_tryOut_33] at h
    refine wp_run 2 (pc' := 36) (lv' := [(0, .ref a0), (1, .int a1), (2, .int a2)]) (st' := [.int 99, .int a2]) (mem' := mem) rfl ?_
    refine wq_ge2 rfl h (fun h => ?_) (fun h => ?_)
    · refine wp_run 1 (pc' := 40) (lv' := [(0, .ref a0), (1, .int a1), (2, .int a2)]) (st' := [.ref a0]) (mem' := mem) rfl ?_
      refine wq_gR rfl h (fun v40 h => ?_)
      refine wp_run 3 (pc' := 46) (lv' := [(0, .ref a0), (1, .int a1), (2, .int a2)]) (st' := [.int a2, .int a1, .ref a0, .ref v40]) (mem' := mem) rfl ?_
      obtain ⟨fk46, hk46, h⟩ := dRc_some h
      refine wq_cI rfl (kCall_v hk46 (as := [.int a1, .int a2]) (rest := [.ref v40]) ⟨by decide, rfl, (show 2 < 90 by decide), by decide⟩ (show 1 ≤ 8 by decide)) h (fun r hr => ca_up (by decide) (m_K_stepAt_ok hz xm N hr)) (fun v46 m46 h => ?_)
      obtain ⟨fk49, hk49, h⟩ := dRc_some h
      refine wq_cI rfl (kCall_v hk49 (as := [.int v46]) (rest := []) ⟨by decide, rfl, (show 1 < 90 by decide), by decide⟩ (show 0 ≤ 8 by decide)) h (fun r hr => ca_up (by decide) (m_Trial_takesStep_ok hz xm N hr)) (fun v49 m49 h => ?_)
      refine wq_ne rfl h (fun h => ?_) (fun h => ?_)
      · refine wp_run 1 (pc' := 64) (lv' := [(0, .ref a0), (1, .int a1), (2, .int a2)]) (st' := []) (mem' := m49) rfl ?_
        exact wq_end rfl rfl h
      · refine wp_run 2 (pc' := 33) (lv' := [(2, .int (a2 + 1)), (0, .ref a0), (1, .int a1)]) (st' := []) (mem' := m49) rfl ?_
        refine kGo_sub (lvS_of [1, 2, 0] rfl [2, 0, 1] rfl (by decide)) ?_
        exact ih _ _ _ m49 R h
    · exact wq_end rfl rfl h
def m_K_tryOut (xm : Nat → Option kE) (N : Nat) (a0 : Nat) (a1 : Int32) (mem : kM) : dRes :=
  dGR xm mem a0 11 6 fun v1 =>
  dGR xm mem a0 11 1 fun v5 =>
  dGR xm mem v5 10 0 fun v8 =>
  dGI xm mem v8 7 1 fun v11 =>
  dGR xm mem a0 11 1 fun v15 =>
  dRc xm mem v15 10 <|
  dCI (m_Work_onBoth xm N v15 mem) fun v18 m18 =>
  dGR xm m18 a0 11 0 fun v22 =>
  dRc xm m18 v22 5 <|
  dCI (m_Balls_ofJoined xm N v22 m18) fun v25 m25 =>
  dRc xm m25 v1 9 <|
  dCV (m_Trial_start xm N v1 v11 v18 v25 m25) fun m28 =>
  m_K_tryOut_33 xm N N a0 a1 0 m28
theorem m_K_tryOut_ok (hz : z.category = 1) (xm : Nat → Option kE) (N : Nat) {a0 : Nat} {a1 : Int32} {mem : kM} {R : kO × kM} (h : m_K_tryOut xm N a0 a1 mem = some R) : kCa xm (kSm z) kDfl kFty kG 4 85 [.ref a0, .int a1] mem (dEq R) := by
  refine wq_ca (show 2 ≤ 3 by decide) ?_
  change kGo xm (kSm z) kDfl kFty kG 3 85 0 [(0, .ref a0), (1, .int a1)] [] mem (dEq R)
  unfold m_K_tryOut at h
  refine wp_run 1 (pc' := 1) (lv' := [(0, .ref a0), (1, .int a1)]) (st' := [.ref a0]) (mem' := mem) rfl ?_
  refine wq_gR rfl h (fun v1 h => ?_)
  refine wp_run 1 (pc' := 5) (lv' := [(0, .ref a0), (1, .int a1)]) (st' := [.ref a0, .ref v1]) (mem' := mem) rfl ?_
  refine wq_gR rfl h (fun v5 h => ?_)
  refine wq_gR rfl h (fun v8 h => ?_)
  refine wq_gI rfl h (fun v11 h => ?_)
  refine wp_run 1 (pc' := 15) (lv' := [(0, .ref a0), (1, .int a1)]) (st' := [.ref a0, .int v11, .ref v1]) (mem' := mem) rfl ?_
  refine wq_gR rfl h (fun v15 h => ?_)
  obtain ⟨fk18, hk18, h⟩ := dRc_some h
  refine wq_cI rfl (kCall_v hk18 (as := []) (rest := [.int v11, .ref v1]) ⟨by decide, rfl, (show 0 < 90 by decide), by decide⟩ (show 2 ≤ 8 by decide)) h (fun r hr => ca_up (by decide) (m_Work_onBoth_ok hz xm N hr)) (fun v18 m18 h => ?_)
  refine wp_run 1 (pc' := 22) (lv' := [(0, .ref a0), (1, .int a1)]) (st' := [.ref a0, .int v18, .int v11, .ref v1]) (mem' := m18) rfl ?_
  refine wq_gR rfl h (fun v22 h => ?_)
  obtain ⟨fk25, hk25, h⟩ := dRc_some h
  refine wq_cI rfl (kCall_v hk25 (as := []) (rest := [.int v18, .int v11, .ref v1]) ⟨by decide, rfl, (show 0 < 90 by decide), by decide⟩ (show 3 ≤ 8 by decide)) h (fun r hr => ca_up (by decide) (m_Balls_ofJoined_ok hz xm N hr)) (fun v25 m25 h => ?_)
  obtain ⟨fk28, hk28, h⟩ := dRc_some h
  refine wq_cV rfl (kCall_v hk28 (as := [.int v11, .int v18, .int v25]) (rest := []) ⟨by decide, rfl, (show 3 < 90 by decide), by decide⟩ (show 0 ≤ 8 by decide)) h (fun r hr => ca_up (by decide) (m_Trial_start_ok hz xm N hr)) (fun m28 h => ?_)
  refine wp_run 2 (pc' := 33) (lv' := [(2, .int 0), (0, .ref a0), (1, .int a1)]) (st' := []) (mem' := m28) rfl ?_
  refine kGo_sub (lvS_of [1, 2, 0] rfl [2, 0, 1] rfl (by decide)) ?_
  exact m_K_tryOut_33_ok hz xm N N _ _ _ m28 R h
/-- Knitstead.follow(I)I -/
def m_K_follow_72 (xm : Nat → Option kE) (N : Nat) : Nat → Nat → Int32 → Int32 → Int32 → kM → dRes
  | 0, _, _, _, _, _ => none
  | n + 1, a0, a1, a2, a3, mem =>
    if a3 < a2 then (
      dRc xm mem a0 11 <|
      dCI (m_K_stepAt xm N a0 a1 a3 mem) fun v81 m81 =>
      dRc xm m81 a0 11 <|
      dCV (m_K_doStep xm N a0 v81 m81) fun m84 =>
      m_K_follow_72 xm N n a0 a1 a2 (a3 + 1) m84
    ) else (
      some (.inl (some (.int a2)), mem)
    )
theorem m_K_follow_72_ok (hz : z.category = 1) (xm : Nat → Option kE) (N : Nat) : ∀ (n : Nat) (a0 : Nat) (a1 : Int32) (a2 : Int32) (a3 : Int32) (mem : kM) (R : kO × kM), m_K_follow_72 xm N n a0 a1 a2 a3 mem = some R → kGo xm (kSm z) kDfl kFty kG 8 53 72 [(0, .ref a0), (1, .int a1), (2, .int a2), (3, .int a3)] [] mem (dEq R) := by
  intro n
  induction n with
  | zero => intro a0 a1 a2 a3 mem R h; cases h
  | succ n ih =>
    intro a0 a1 a2 a3 mem R h
    rw [m_K_follow_72] at h
    refine wp_run 2 (pc' := 74) (lv' := [(0, .ref a0), (1, .int a1), (2, .int a2), (3, .int a3)]) (st' := [.int a2, .int a3]) (mem' := mem) rfl ?_
    refine wq_ge2 rfl h (fun h => ?_) (fun h => ?_)
    · refine wp_run 4 (pc' := 81) (lv' := [(0, .ref a0), (1, .int a1), (2, .int a2), (3, .int a3)]) (st' := [.int a3, .int a1, .ref a0, .ref a0]) (mem' := mem) rfl ?_
      obtain ⟨fk81, hk81, h⟩ := dRc_some h
      refine wq_cI rfl (kCall_v hk81 (as := [.int a1, .int a3]) (rest := [.ref a0]) ⟨by decide, rfl, (show 2 < 90 by decide), by decide⟩ (show 1 ≤ 8 by decide)) h (fun r hr => ca_up (by decide) (m_K_stepAt_ok hz xm N hr)) (fun v81 m81 h => ?_)
      obtain ⟨fk84, hk84, h⟩ := dRc_some h
      refine wq_cV rfl (kCall_v hk84 (as := [.int v81]) (rest := []) ⟨by decide, rfl, (show 1 < 90 by decide), by decide⟩ (show 0 ≤ 8 by decide)) h (fun r hr => ca_up (by decide) (m_K_doStep_ok hz xm N hr)) (fun m84 h => ?_)
      refine wp_run 2 (pc' := 72) (lv' := [(3, .int (a3 + 1)), (0, .ref a0), (1, .int a1), (2, .int a2)]) (st' := []) (mem' := m84) rfl ?_
      refine kGo_sub (lvS_of [1, 2, 3, 0] rfl [3, 0, 1, 2] rfl (by decide)) ?_
      exact ih _ _ _ _ m84 R h
    · refine wp_run 1 (pc' := 94) (lv' := [(0, .ref a0), (1, .int a1), (2, .int a2), (3, .int a3)]) (st' := [.int a2]) (mem' := mem) rfl ?_
      exact wq_ret rfl rfl h
def m_K_follow (xm : Nat → Option kE) (N : Nat) (a0 : Nat) (a1 : Int32) (mem : kM) : dRes :=
  dRc xm mem a0 11 <|
  dCI (m_K_hasPattern xm N a0 a1 mem) fun v2 m2 =>
  if v2 = 0 then (
    some (.inr 2, m2 ++ [.inl (1000, [.null, .null, .null, .null, .null, .null])])
  ) else (
    dGR xm m2 a0 11 1 fun v19 =>
    dGR xm m2 v19 10 0 fun v22 =>
    dGI xm m2 v22 7 1 fun v25 =>
    if v25 < 1 then (
      some (.inr 1, m2 ++ [.inl (1000, [.null, .null, .null, .null, .null, .null])])
    ) else (
      dGR xm m2 a0 11 5 fun v43 =>
      dGR xm m2 a0 11 1 fun v47 =>
      dGR xm m2 a0 11 0 fun v51 =>
      dRc xm m2 v43 6 <|
      dCV (m_History_keep xm N v43 v47 v51 m2) fun m54 =>
      dRc xm m54 a0 11 <|
      dCV (m_K_tryOut xm N a0 a1 m54) fun m59 =>
      dGR xm m59 a0 11 6 fun v63 =>
      dGI xm m59 v63 9 4 fun v66 =>
      m_K_follow_72 xm N N a0 a1 v66 0 m59
    )
  )
theorem m_K_follow_ok (hz : z.category = 1) (xm : Nat → Option kE) (N : Nat) {a0 : Nat} {a1 : Int32} {mem : kM} {R : kO × kM} (h : m_K_follow xm N a0 a1 mem = some R) : kCa xm (kSm z) kDfl kFty kG 9 53 [.ref a0, .int a1] mem (dEq R) := by
  refine wq_ca (show 2 ≤ 4 by decide) ?_
  change kGo xm (kSm z) kDfl kFty kG 8 53 0 [(0, .ref a0), (1, .int a1)] [] mem (dEq R)
  unfold m_K_follow at h
  refine wp_run 2 (pc' := 2) (lv' := [(0, .ref a0), (1, .int a1)]) (st' := [.int a1, .ref a0]) (mem' := mem) rfl ?_
  obtain ⟨fk2, hk2, h⟩ := dRc_some h
  refine wq_cI rfl (kCall_v hk2 (as := [.int a1]) (rest := []) ⟨by decide, rfl, (show 1 < 90 by decide), by decide⟩ (show 0 ≤ 8 by decide)) h (fun r hr => ca_up (by decide) (m_K_hasPattern_ok hz xm N hr)) (fun v2 m2 h => ?_)
  refine wq_ne rfl h (fun h => ?_) (fun h => ?_)
  · exact wq_end rfl rfl h
  · refine wp_run 1 (pc' := 19) (lv' := [(0, .ref a0), (1, .int a1)]) (st' := [.ref a0]) (mem' := m2) rfl ?_
    refine wq_gR rfl h (fun v19 h => ?_)
    refine wq_gR rfl h (fun v22 h => ?_)
    refine wq_gI rfl h (fun v25 h => ?_)
    refine wp_run 1 (pc' := 29) (lv' := [(0, .ref a0), (1, .int a1)]) (st' := [.int 1, .int v25]) (mem' := m2) rfl ?_
    refine wq_ge2 rfl h (fun h => ?_) (fun h => ?_)
    · exact wq_end rfl rfl h
    · refine wp_run 1 (pc' := 43) (lv' := [(0, .ref a0), (1, .int a1)]) (st' := [.ref a0]) (mem' := m2) rfl ?_
      refine wq_gR rfl h (fun v43 h => ?_)
      refine wp_run 1 (pc' := 47) (lv' := [(0, .ref a0), (1, .int a1)]) (st' := [.ref a0, .ref v43]) (mem' := m2) rfl ?_
      refine wq_gR rfl h (fun v47 h => ?_)
      refine wp_run 1 (pc' := 51) (lv' := [(0, .ref a0), (1, .int a1)]) (st' := [.ref a0, .ref v47, .ref v43]) (mem' := m2) rfl ?_
      refine wq_gR rfl h (fun v51 h => ?_)
      obtain ⟨fk54, hk54, h⟩ := dRc_some h
      refine wq_cV rfl (kCall_v hk54 (as := [.ref v47, .ref v51]) (rest := []) ⟨by decide, rfl, (show 2 < 90 by decide), by decide⟩ (show 0 ≤ 8 by decide)) h (fun r hr => ca_up (by decide) (m_History_keep_ok hz xm N hr)) (fun m54 h => ?_)
      refine wp_run 2 (pc' := 59) (lv' := [(0, .ref a0), (1, .int a1)]) (st' := [.int a1, .ref a0]) (mem' := m54) rfl ?_
      obtain ⟨fk59, hk59, h⟩ := dRc_some h
      refine wq_cV rfl (kCall_v hk59 (as := [.int a1]) (rest := []) ⟨by decide, rfl, (show 1 < 90 by decide), by decide⟩ (show 0 ≤ 8 by decide)) h (fun r hr => ca_up (by decide) (m_K_tryOut_ok hz xm N hr)) (fun m59 h => ?_)
      refine wp_run 1 (pc' := 63) (lv' := [(0, .ref a0), (1, .int a1)]) (st' := [.ref a0]) (mem' := m59) rfl ?_
      refine wq_gR rfl h (fun v63 h => ?_)
      refine wq_gI rfl h (fun v66 h => ?_)
      refine wp_run 3 (pc' := 72) (lv' := [(3, .int 0), (2, .int v66), (0, .ref a0), (1, .int a1)]) (st' := []) (mem' := m59) rfl ?_
      refine kGo_sub (lvS_of [2, 3, 1, 0] rfl [3, 2, 0, 1] rfl (by decide)) ?_
      exact m_K_follow_72_ok hz xm N N _ _ _ _ m59 R h
/-- Knitstead$History.bringBack(LKnitstead$Work;LKnitstead$Balls;)V -/
def m_History_bringBack_18 (xm : Nat → Option kE) (N : Nat) (a0 : Nat) (a1 : Nat) (a2 : Nat) (s0 : Int32) (mem : kM) : dRes :=
  dGI xm mem a0 6 4 fun v20 =>
  if v20 < 1 then (
    some (.inl none, mem)
  ) else (
    dRc xm mem a0 6 <|
    dCI (m_History_isSlot xm N a0 s0 mem) fun v29 m29 =>
    if v29 = 0 then (
      some (.inl none, m29)
    ) else (
      dGR xm m29 a0 6 0 fun v36 =>
      dALn xm m29 v36 s0 (
        some (.inl none, m29)
      ) (
        dGR xm m29 a0 6 0 fun v47 =>
        dAL xm m29 v47 s0 fun v51 =>
        dRc xm m29 a1 10 <|
        dCV (m_Work_copyFrom xm N a1 v51 m29) fun m52 =>
        dGR xm m52 a0 6 1 fun v57 =>
        dIL xm 0 m52 v57 s0 fun v61 =>
        dGR xm m52 a0 6 2 fun v63 =>
        dIL xm 0 m52 v63 s0 fun v67 =>
        dRc xm m52 a2 5 <|
        dCV (m_Balls_set xm N a2 v61 v67 m52) fun m68 =>
        dP xm m68 a0 6 3 (.int s0) fun m73 =>
        dGI xm m73 a0 6 4 fun v78 =>
        dP xm m73 a0 6 4 (.int (v78 - 1)) fun m83 =>
        some (.inl none, m83)
      )
    )
  )
theorem m_History_bringBack_18_ok (hz : z.category = 1) (xm : Nat → Option kE) (N : Nat) : ∀ (a0 : Nat) (a1 : Nat) (a2 : Nat) (s0 : Int32) (mem : kM) (R : kO × kM), m_History_bringBack_18 xm N a0 a1 a2 s0 mem = some R → kGo xm (kSm z) kDfl kFty kG 3 12 18 [(0, .ref a0), (1, .ref a1), (2, .ref a2)] [.int s0] mem (dEq R) := by
  intro a0 a1 a2 s0 mem R h
  unfold m_History_bringBack_18 at h
  refine wp_run 2 (pc' := 20) (lv' := [(3, .int s0), (0, .ref a0), (1, .ref a1), (2, .ref a2)]) (st' := [.ref a0]) (mem' := mem) rfl ?_
  refine wq_gI rfl h (fun v20 h => ?_)
  refine wp_run 1 (pc' := 24) (lv' := [(3, .int s0), (0, .ref a0), (1, .ref a1), (2, .ref a2)]) (st' := [.int 1, .int v20]) (mem' := mem) rfl ?_
  refine wq_lt2 rfl h (fun h => ?_) (fun h => ?_)
  · exact wq_end rfl rfl h
  · refine wp_run 2 (pc' := 29) (lv' := [(3, .int s0), (0, .ref a0), (1, .ref a1), (2, .ref a2)]) (st' := [.int s0, .ref a0]) (mem' := mem) rfl ?_
    obtain ⟨fk29, hk29, h⟩ := dRc_some h
    refine wq_cI rfl (kCall_v hk29 (as := [.int s0]) (rest := []) ⟨by decide, rfl, (show 1 < 90 by decide), by decide⟩ (show 0 ≤ 8 by decide)) h (fun r hr => ca_up (by decide) (m_History_isSlot_ok hz xm N hr)) (fun v29 m29 h => ?_)
    refine wq_eq rfl h (fun h => ?_) (fun h => ?_)
    · exact wq_end rfl rfl h
    · refine wp_run 1 (pc' := 36) (lv' := [(3, .int s0), (0, .ref a0), (1, .ref a1), (2, .ref a2)]) (st' := [.ref a0]) (mem' := m29) rfl ?_
      refine wq_gR rfl h (fun v36 h => ?_)
      refine wp_run 1 (pc' := 40) (lv' := [(3, .int s0), (0, .ref a0), (1, .ref a1), (2, .ref a2)]) (st' := [.int s0, .ref v36]) (mem' := m29) rfl ?_
      refine wq_aLn rfl rfl h (fun h => ?_) (fun h => ?_)
      · exact wq_end rfl rfl h
      · refine wp_run 2 (pc' := 47) (lv' := [(3, .int s0), (0, .ref a0), (1, .ref a1), (2, .ref a2)]) (st' := [.ref a0, .ref a1]) (mem' := m29) rfl ?_
        refine wq_gR rfl h (fun v47 h => ?_)
        refine wp_run 1 (pc' := 51) (lv' := [(3, .int s0), (0, .ref a0), (1, .ref a1), (2, .ref a2)]) (st' := [.int s0, .ref v47, .ref a1]) (mem' := m29) rfl ?_
        refine wq_aL rfl h (fun v51 h => ?_)
        obtain ⟨fk52, hk52, h⟩ := dRc_some h
        refine wq_cV rfl (kCall_v hk52 (as := [.ref v51]) (rest := []) ⟨by decide, rfl, (show 1 < 90 by decide), by decide⟩ (show 0 ≤ 8 by decide)) h (fun r hr => ca_up (by decide) (m_Work_copyFrom_ok hz xm N hr)) (fun m52 h => ?_)
        refine wp_run 2 (pc' := 57) (lv' := [(3, .int s0), (0, .ref a0), (1, .ref a1), (2, .ref a2)]) (st' := [.ref a0, .ref a2]) (mem' := m52) rfl ?_
        refine wq_gR rfl h (fun v57 h => ?_)
        refine wp_run 1 (pc' := 61) (lv' := [(3, .int s0), (0, .ref a0), (1, .ref a1), (2, .ref a2)]) (st' := [.int s0, .ref v57, .ref a2]) (mem' := m52) rfl ?_
        refine wq_iL rfl h (fun v61 h => ?_)
        refine wp_run 1 (pc' := 63) (lv' := [(3, .int s0), (0, .ref a0), (1, .ref a1), (2, .ref a2)]) (st' := [.ref a0, .int v61, .ref a2]) (mem' := m52) rfl ?_
        refine wq_gR rfl h (fun v63 h => ?_)
        refine wp_run 1 (pc' := 67) (lv' := [(3, .int s0), (0, .ref a0), (1, .ref a1), (2, .ref a2)]) (st' := [.int s0, .ref v63, .int v61, .ref a2]) (mem' := m52) rfl ?_
        refine wq_iL rfl h (fun v67 h => ?_)
        obtain ⟨fk68, hk68, h⟩ := dRc_some h
        refine wq_cV rfl (kCall_v hk68 (as := [.int v61, .int v67]) (rest := []) ⟨by decide, rfl, (show 2 < 90 by decide), by decide⟩ (show 0 ≤ 8 by decide)) h (fun r hr => ca_up (by decide) (m_Balls_set_ok hz xm N hr)) (fun m68 h => ?_)
        refine wp_run 2 (pc' := 73) (lv' := [(3, .int s0), (0, .ref a0), (1, .ref a1), (2, .ref a2)]) (st' := [.int s0, .ref a0]) (mem' := m68) rfl ?_
        refine wq_p rfl rfl h (fun m73 h => ?_)
        refine wp_run 2 (pc' := 78) (lv' := [(3, .int s0), (0, .ref a0), (1, .ref a1), (2, .ref a2)]) (st' := [.ref a0, .ref a0]) (mem' := m73) rfl ?_
        refine wq_gI rfl h (fun v78 h => ?_)
        refine wp_run 2 (pc' := 83) (lv' := [(3, .int s0), (0, .ref a0), (1, .ref a1), (2, .ref a2)]) (st' := [.int (v78 - 1), .ref a0]) (mem' := m73) rfl ?_
        refine wq_p rfl rfl h (fun m83 h => ?_)
        exact wq_end rfl rfl h
def m_History_bringBack (xm : Nat → Option kE) (N : Nat) (a0 : Nat) (a1 : Nat) (a2 : Nat) (mem : kM) : dRes :=
  dGI xm mem a0 6 3 fun v1 =>
  if 0 < v1 then (
    dGI xm mem a0 6 3 fun v8 =>
    m_History_bringBack_18 xm N a0 a1 a2 (v8 - 1) mem
  ) else (
    m_History_bringBack_18 xm N a0 a1 a2 11 mem
  )
theorem m_History_bringBack_ok (hz : z.category = 1) (xm : Nat → Option kE) (N : Nat) {a0 : Nat} {a1 : Nat} {a2 : Nat} {mem : kM} {R : kO × kM} (h : m_History_bringBack xm N a0 a1 a2 mem = some R) : kCa xm (kSm z) kDfl kFty kG 4 12 [.ref a0, .ref a1, .ref a2] mem (dEq R) := by
  refine wq_ca (show 3 ≤ 4 by decide) ?_
  change kGo xm (kSm z) kDfl kFty kG 3 12 0 [(0, .ref a0), (1, .ref a1), (2, .ref a2)] [] mem (dEq R)
  unfold m_History_bringBack at h
  refine wp_run 1 (pc' := 1) (lv' := [(0, .ref a0), (1, .ref a1), (2, .ref a2)]) (st' := [.ref a0]) (mem' := mem) rfl ?_
  refine wq_gI rfl h (fun v1 h => ?_)
  refine wq_le rfl h (fun h => ?_) (fun h => ?_)
  · refine wp_run 1 (pc' := 8) (lv' := [(0, .ref a0), (1, .ref a1), (2, .ref a2)]) (st' := [.ref a0]) (mem' := mem) rfl ?_
    refine wq_gI rfl h (fun v8 h => ?_)
    refine wp_run 3 (pc' := 18) (lv' := [(0, .ref a0), (1, .ref a1), (2, .ref a2)]) (st' := [.int (v8 - 1)]) (mem' := mem) rfl ?_
    exact m_History_bringBack_18_ok hz xm N _ _ _ _ mem R h
  · refine wp_run 1 (pc' := 18) (lv' := [(0, .ref a0), (1, .ref a1), (2, .ref a2)]) (st' := [.int 11]) (mem' := mem) rfl ?_
    exact m_History_bringBack_18_ok hz xm N _ _ _ _ mem R h
/-- Knitstead.undo()I -/
def m_K_undo (xm : Nat → Option kE) (N : Nat) (a0 : Nat) (mem : kM) : dRes :=
  dGR xm mem a0 11 5 fun v1 =>
  dGI xm mem v1 6 4 fun v4 =>
  if v4 < 1 then (
    some (.inr 1, mem ++ [.inl (1000, [.null, .null, .null, .null, .null, .null])])
  ) else (
    dGR xm mem a0 11 5 fun v22 =>
    dGR xm mem a0 11 1 fun v26 =>
    dGR xm mem a0 11 0 fun v30 =>
    dRc xm mem v22 6 <|
    dCV (m_History_bringBack xm N v22 v26 v30 mem) fun m33 =>
    dGR xm m33 a0 11 5 fun v37 =>
    dGI xm m33 v37 6 4 fun v40 =>
    some (.inl (some (.int v40)), m33)
  )
theorem m_K_undo_ok (hz : z.category = 1) (xm : Nat → Option kE) (N : Nat) {a0 : Nat} {mem : kM} {R : kO × kM} (h : m_K_undo xm N a0 mem = some R) : kCa xm (kSm z) kDfl kFty kG 5 54 [.ref a0] mem (dEq R) := by
  refine wq_ca (show 1 ≤ 1 by decide) ?_
  change kGo xm (kSm z) kDfl kFty kG 4 54 0 [(0, .ref a0)] [] mem (dEq R)
  unfold m_K_undo at h
  refine wp_run 1 (pc' := 1) (lv' := [(0, .ref a0)]) (st' := [.ref a0]) (mem' := mem) rfl ?_
  refine wq_gR rfl h (fun v1 h => ?_)
  refine wq_gI rfl h (fun v4 h => ?_)
  refine wp_run 1 (pc' := 8) (lv' := [(0, .ref a0)]) (st' := [.int 1, .int v4]) (mem' := mem) rfl ?_
  refine wq_ge2 rfl h (fun h => ?_) (fun h => ?_)
  · exact wq_end rfl rfl h
  · refine wp_run 1 (pc' := 22) (lv' := [(0, .ref a0)]) (st' := [.ref a0]) (mem' := mem) rfl ?_
    refine wq_gR rfl h (fun v22 h => ?_)
    refine wp_run 1 (pc' := 26) (lv' := [(0, .ref a0)]) (st' := [.ref a0, .ref v22]) (mem' := mem) rfl ?_
    refine wq_gR rfl h (fun v26 h => ?_)
    refine wp_run 1 (pc' := 30) (lv' := [(0, .ref a0)]) (st' := [.ref a0, .ref v26, .ref v22]) (mem' := mem) rfl ?_
    refine wq_gR rfl h (fun v30 h => ?_)
    obtain ⟨fk33, hk33, h⟩ := dRc_some h
    refine wq_cV rfl (kCall_v hk33 (as := [.ref v26, .ref v30]) (rest := []) ⟨by decide, rfl, (show 2 < 90 by decide), by decide⟩ (show 0 ≤ 8 by decide)) h (fun r hr => ca_up (by decide) (m_History_bringBack_ok hz xm N hr)) (fun m33 h => ?_)
    refine wp_run 1 (pc' := 37) (lv' := [(0, .ref a0)]) (st' := [.ref a0]) (mem' := m33) rfl ?_
    refine wq_gR rfl h (fun v37 h => ?_)
    refine wq_gI rfl h (fun v40 h => ?_)
    exact wq_ret rfl rfl h
/-- Knitstead.needle(Z)LKnitstead$Needle; -/
def m_K_needle (xm : Nat → Option kE) (N : Nat) (a0 : Nat) (a1 : Int32) (mem : kM) : dRes :=
  if a1 = 0 then (
    dGR xm mem a0 11 1 fun v15 =>
    dGR xm mem v15 10 0 fun v18 =>
    some (.inl (some (.ref v18)), mem)
  ) else (
    dGR xm mem a0 11 1 fun v5 =>
    dGR xm mem v5 10 1 fun v8 =>
    some (.inl (some (.ref v8)), mem)
  )
theorem m_K_needle_ok (hz : z.category = 1) (xm : Nat → Option kE) (N : Nat) {a0 : Nat} {a1 : Int32} {mem : kM} {R : kO × kM} (h : m_K_needle xm N a0 a1 mem = some R) : kCa xm (kSm z) kDfl kFty kG 1 88 [.ref a0, .int a1] mem (dEq R) := by
  refine wq_ca (show 2 ≤ 2 by decide) ?_
  change kGo xm (kSm z) kDfl kFty kG 0 88 0 [(0, .ref a0), (1, .int a1)] [] mem (dEq R)
  unfold m_K_needle at h
  refine wp_run 1 (pc' := 1) (lv' := [(0, .ref a0), (1, .int a1)]) (st' := [.int a1]) (mem' := mem) rfl ?_
  refine wq_eq rfl h (fun h => ?_) (fun h => ?_)
  · refine wp_run 1 (pc' := 15) (lv' := [(0, .ref a0), (1, .int a1)]) (st' := [.ref a0]) (mem' := mem) rfl ?_
    refine wq_gR rfl h (fun v15 h => ?_)
    refine wq_gR rfl h (fun v18 h => ?_)
    exact wq_end rfl rfl h
  · refine wp_run 1 (pc' := 5) (lv' := [(0, .ref a0), (1, .int a1)]) (st' := [.ref a0]) (mem' := mem) rfl ?_
    refine wq_gR rfl h (fun v5 h => ?_)
    refine wq_gR rfl h (fun v8 h => ?_)
    refine wp_run 1 (pc' := 21) (lv' := [(0, .ref a0), (1, .int a1)]) (st' := [.ref v8]) (mem' := mem) rfl ?_
    exact wq_end rfl rfl h
/-- Knitstead.on(ZI)I -/
def m_K_on (xm : Nat → Option kE) (N : Nat) (a0 : Nat) (a1 : Int32) (a2 : Int32) (mem : kM) : dRes :=
  if a2 < 0 then (
    some (.inr 2, mem ++ [.inl (1000, [.null, .null, .null, .null, .null, .null])])
  ) else (
    if a2 < 24 then (
      dRc xm mem a0 11 <|
      dCR (m_K_needle xm N a0 a1 mem) fun v22 m22 =>
      dRc xm m22 v22 7 <|
      dCI (m_Needle_at xm N v22 a2 m22) fun v26 m26 =>
      some (.inl (some (.int v26)), m26)
    ) else (
      some (.inr 2, mem ++ [.inl (1000, [.null, .null, .null, .null, .null, .null])])
    )
  )
theorem m_K_on_ok (hz : z.category = 1) (xm : Nat → Option kE) (N : Nat) {a0 : Nat} {a1 : Int32} {a2 : Int32} {mem : kM} {R : kO × kM} (h : m_K_on xm N a0 a1 a2 mem = some R) : kCa xm (kSm z) kDfl kFty kG 2 55 [.ref a0, .int a1, .int a2] mem (dEq R) := by
  refine wq_ca (show 3 ≤ 3 by decide) ?_
  change kGo xm (kSm z) kDfl kFty kG 1 55 0 [(0, .ref a0), (1, .int a1), (2, .int a2)] [] mem (dEq R)
  unfold m_K_on at h
  refine wp_run 1 (pc' := 1) (lv' := [(0, .ref a0), (1, .int a1), (2, .int a2)]) (st' := [.int a2]) (mem' := mem) rfl ?_
  refine wq_lt rfl h (fun h => ?_) (fun h => ?_)
  · exact wq_end rfl rfl h
  · refine wp_run 2 (pc' := 7) (lv' := [(0, .ref a0), (1, .int a1), (2, .int a2)]) (st' := [.int 24, .int a2]) (mem' := mem) rfl ?_
    refine wq_lt2 rfl h (fun h => ?_) (fun h => ?_)
    · refine wp_run 2 (pc' := 22) (lv' := [(0, .ref a0), (1, .int a1), (2, .int a2)]) (st' := [.int a1, .ref a0]) (mem' := mem) rfl ?_
      obtain ⟨fk22, hk22, h⟩ := dRc_some h
      refine wq_cR rfl (kCall_v hk22 (as := [.int a1]) (rest := []) ⟨by decide, rfl, (show 1 < 90 by decide), by decide⟩ (show 0 ≤ 8 by decide)) h (fun r hr => ca_up (by decide) (m_K_needle_ok hz xm N hr)) (fun v22 m22 h => ?_)
      refine wp_run 1 (pc' := 26) (lv' := [(0, .ref a0), (1, .int a1), (2, .int a2)]) (st' := [.int a2, .ref v22]) (mem' := m22) rfl ?_
      obtain ⟨fk26, hk26, h⟩ := dRc_some h
      refine wq_cI rfl (kCall_v hk26 (as := [.int a2]) (rest := []) ⟨by decide, rfl, (show 1 < 90 by decide), by decide⟩ (show 0 ≤ 8 by decide)) h (fun r hr => ca_up (by decide) (m_Needle_at_ok hz xm N hr)) (fun v26 m26 h => ?_)
      exact wq_ret rfl rfl h
    · exact wq_end rfl rfl h
/-- Knitstead$Needle.holds(I)Z -/
def m_Needle_holds_2 (xm : Nat → Option kE) (N : Nat) : Nat → Nat → Int32 → Int32 → kM → dRes
  | 0, _, _, _, _ => none
  | n + 1, a0, a1, a2, mem =>
    dGI xm mem a0 7 1 fun v4 =>
    if a2 < v4 then (
      dRc xm mem a0 7 <|
      dCI (m_Needle_at xm N a0 a2 mem) fun v12 m12 =>
      if v12 = a1 then (
        some (.inl (some (.int 1)), m12)
      ) else (
        m_Needle_holds_2 xm N n a0 a1 (a2 + 1) m12
      )
    ) else (
      some (.inl (some (.int 0)), mem)
    )
theorem m_Needle_holds_2_ok (hz : z.category = 1) (xm : Nat → Option kE) (N : Nat) : ∀ (n : Nat) (a0 : Nat) (a1 : Int32) (a2 : Int32) (mem : kM) (R : kO × kM), m_Needle_holds_2 xm N n a0 a1 a2 mem = some R → kGo xm (kSm z) kDfl kFty kG 1 16 2 [(0, .ref a0), (1, .int a1), (2, .int a2)] [] mem (dEq R) := by
  intro n
  induction n with
  | zero => intro a0 a1 a2 mem R h; cases h
  | succ n ih =>
    intro a0 a1 a2 mem R h
    rw [m_Needle_holds_2] at h
    refine wp_run 2 (pc' := 4) (lv' := [(0, .ref a0), (1, .int a1), (2, .int a2)]) (st' := [.ref a0, .int a2]) (mem' := mem) rfl ?_
    refine wq_gI rfl h (fun v4 h => ?_)
    refine wq_ge2 rfl h (fun h => ?_) (fun h => ?_)
    · refine wp_run 2 (pc' := 12) (lv' := [(0, .ref a0), (1, .int a1), (2, .int a2)]) (st' := [.int a2, .ref a0]) (mem' := mem) rfl ?_
      obtain ⟨fk12, hk12, h⟩ := dRc_some h
      refine wq_cI rfl (kCall_v hk12 (as := [.int a2]) (rest := []) ⟨by decide, rfl, (show 1 < 90 by decide), by decide⟩ (show 0 ≤ 8 by decide)) h (fun r hr => ca_up (by decide) (m_Needle_at_ok hz xm N hr)) (fun v12 m12 h => ?_)
      refine wp_run 1 (pc' := 16) (lv' := [(0, .ref a0), (1, .int a1), (2, .int a2)]) (st' := [.int a1, .int v12]) (mem' := m12) rfl ?_
      refine wq_ne2 rfl h (fun h => ?_) (fun h => ?_)
      · refine wp_run 1 (pc' := 20) (lv' := [(0, .ref a0), (1, .int a1), (2, .int a2)]) (st' := [.int 1]) (mem' := m12) rfl ?_
        exact wq_ret rfl rfl h
      · refine wp_run 2 (pc' := 2) (lv' := [(2, .int (a2 + 1)), (0, .ref a0), (1, .int a1)]) (st' := []) (mem' := m12) rfl ?_
        refine kGo_sub (lvS_of [1, 2, 0] rfl [2, 0, 1] rfl (by decide)) ?_
        exact ih _ _ _ m12 R h
    · refine wp_run 1 (pc' := 28) (lv' := [(0, .ref a0), (1, .int a1), (2, .int a2)]) (st' := [.int 0]) (mem' := mem) rfl ?_
      exact wq_ret rfl rfl h
def m_Needle_holds (xm : Nat → Option kE) (N : Nat) (a0 : Nat) (a1 : Int32) (mem : kM) : dRes :=
  m_Needle_holds_2 xm N N a0 a1 0 mem
theorem m_Needle_holds_ok (hz : z.category = 1) (xm : Nat → Option kE) (N : Nat) {a0 : Nat} {a1 : Int32} {mem : kM} {R : kO × kM} (h : m_Needle_holds xm N a0 a1 mem = some R) : kCa xm (kSm z) kDfl kFty kG 2 16 [.ref a0, .int a1] mem (dEq R) := by
  refine wq_ca (show 2 ≤ 3 by decide) ?_
  change kGo xm (kSm z) kDfl kFty kG 1 16 0 [(0, .ref a0), (1, .int a1)] [] mem (dEq R)
  unfold m_Needle_holds at h
  refine wp_run 2 (pc' := 2) (lv' := [(2, .int 0), (0, .ref a0), (1, .int a1)]) (st' := []) (mem' := mem) rfl ?_
  refine kGo_sub (lvS_of [1, 2, 0] rfl [2, 0, 1] rfl (by decide)) ?_
  exact m_Needle_holds_2_ok hz xm N N _ _ _ mem R h
/-- Knitstead$Work.hasInOpenRun(I)Z -/
def m_Work_hasInOpenRun_33 (xm : Nat → Option kE) (N : Nat) (K2 : Nat → Int32 → Int32 → kM → dRes) (a0 : Nat) (a1 : Int32) (a2 : Int32) (mem : kM) : dRes :=
  K2 a0 a1 (a2 + 1) mem
theorem m_Work_hasInOpenRun_33_ok (hz : z.category = 1) (xm : Nat → Option kE) (N : Nat) (K2 : Nat → Int32 → Int32 → kM → dRes) (hK2 : ∀ (a0 : Nat) (a1 : Int32) (a2 : Int32) (mem : kM) (R : kO × kM), K2 a0 a1 a2 mem = some R → kGo xm (kSm z) kDfl kFty kG 3 36 2 [(0, .ref a0), (1, .int a1), (2, .int a2)] [] mem (dEq R)) : ∀ (a0 : Nat) (a1 : Int32) (a2 : Int32) (mem : kM) (R : kO × kM), m_Work_hasInOpenRun_33 xm N K2 a0 a1 a2 mem = some R → kGo xm (kSm z) kDfl kFty kG 3 36 33 [(0, .ref a0), (1, .int a1), (2, .int a2)] [] mem (dEq R) := by
  intro a0 a1 a2 mem R h
  unfold m_Work_hasInOpenRun_33 at h
  refine wp_run 2 (pc' := 2) (lv' := [(2, .int (a2 + 1)), (0, .ref a0), (1, .int a1)]) (st' := []) (mem' := mem) rfl ?_
  refine kGo_sub (lvS_of [1, 2, 0] rfl [2, 0, 1] rfl (by decide)) ?_
  exact hK2 _ _ _ mem R h
def m_Work_hasInOpenRun_2 (xm : Nat → Option kE) (N : Nat) : Nat → Nat → Int32 → Int32 → kM → dRes
  | 0, _, _, _, _ => none
  | n + 1, a0, a1, a2, mem =>
    dGI xm mem a0 10 3 fun v4 =>
    if a2 < v4 then (
      dRc xm mem a0 10 <|
      dCI (m_Work_isOpen xm N a0 a2 mem) fun v12 m12 =>
      if v12 = 0 then (
        m_Work_hasInOpenRun_33 xm N (fun a0 a1 a2 mem => m_Work_hasInOpenRun_2 xm N n a0 a1 a2 mem) a0 a1 a2 m12
      ) else (
        dGR xm m12 a0 10 2 fun v19 =>
        dRc xm m12 v19 8 <|
        dCI (m_Table_get xm N v19 a2 0 m12) fun v24 m24 =>
        if v24 = a1 then (
          some (.inl (some (.int 1)), m24)
        ) else (
          m_Work_hasInOpenRun_33 xm N (fun a0 a1 a2 mem => m_Work_hasInOpenRun_2 xm N n a0 a1 a2 mem) a0 a1 a2 m24
        )
      )
    ) else (
      some (.inl (some (.int 0)), mem)
    )
theorem m_Work_hasInOpenRun_2_ok (hz : z.category = 1) (xm : Nat → Option kE) (N : Nat) : ∀ (n : Nat) (a0 : Nat) (a1 : Int32) (a2 : Int32) (mem : kM) (R : kO × kM), m_Work_hasInOpenRun_2 xm N n a0 a1 a2 mem = some R → kGo xm (kSm z) kDfl kFty kG 3 36 2 [(0, .ref a0), (1, .int a1), (2, .int a2)] [] mem (dEq R) := by
  intro n
  induction n with
  | zero => intro a0 a1 a2 mem R h; cases h
  | succ n ih =>
    intro a0 a1 a2 mem R h
    rw [m_Work_hasInOpenRun_2] at h
    refine wp_run 2 (pc' := 4) (lv' := [(0, .ref a0), (1, .int a1), (2, .int a2)]) (st' := [.ref a0, .int a2]) (mem' := mem) rfl ?_
    refine wq_gI rfl h (fun v4 h => ?_)
    refine wq_ge2 rfl h (fun h => ?_) (fun h => ?_)
    · refine wp_run 2 (pc' := 12) (lv' := [(0, .ref a0), (1, .int a1), (2, .int a2)]) (st' := [.int a2, .ref a0]) (mem' := mem) rfl ?_
      obtain ⟨fk12, hk12, h⟩ := dRc_some h
      refine wq_cI rfl (kCall_v hk12 (as := [.int a2]) (rest := []) ⟨by decide, rfl, (show 1 < 90 by decide), by decide⟩ (show 0 ≤ 8 by decide)) h (fun r hr => ca_up (by decide) (m_Work_isOpen_ok hz xm N hr)) (fun v12 m12 h => ?_)
      refine wq_eq rfl h (fun h => ?_) (fun h => ?_)
      · exact m_Work_hasInOpenRun_33_ok hz xm N _ ih _ _ _ m12 R h
      · refine wp_run 1 (pc' := 19) (lv' := [(0, .ref a0), (1, .int a1), (2, .int a2)]) (st' := [.ref a0]) (mem' := m12) rfl ?_
        refine wq_gR rfl h (fun v19 h => ?_)
        refine wp_run 2 (pc' := 24) (lv' := [(0, .ref a0), (1, .int a1), (2, .int a2)]) (st' := [.int 0, .int a2, .ref v19]) (mem' := m12) rfl ?_
        obtain ⟨fk24, hk24, h⟩ := dRc_some h
        refine wq_cI rfl (kCall_v hk24 (as := [.int a2, .int 0]) (rest := []) ⟨by decide, rfl, (show 2 < 90 by decide), by decide⟩ (show 0 ≤ 8 by decide)) h (fun r hr => ca_up (by decide) (m_Table_get_ok hz xm N hr)) (fun v24 m24 h => ?_)
        refine wp_run 1 (pc' := 28) (lv' := [(0, .ref a0), (1, .int a1), (2, .int a2)]) (st' := [.int a1, .int v24]) (mem' := m24) rfl ?_
        refine wq_ne2 rfl h (fun h => ?_) (fun h => ?_)
        · refine wp_run 1 (pc' := 32) (lv' := [(0, .ref a0), (1, .int a1), (2, .int a2)]) (st' := [.int 1]) (mem' := m24) rfl ?_
          exact wq_ret rfl rfl h
        · exact m_Work_hasInOpenRun_33_ok hz xm N _ ih _ _ _ m24 R h
    · refine wp_run 1 (pc' := 40) (lv' := [(0, .ref a0), (1, .int a1), (2, .int a2)]) (st' := [.int 0]) (mem' := mem) rfl ?_
      exact wq_ret rfl rfl h
def m_Work_hasInOpenRun (xm : Nat → Option kE) (N : Nat) (a0 : Nat) (a1 : Int32) (mem : kM) : dRes :=
  m_Work_hasInOpenRun_2 xm N N a0 a1 0 mem
theorem m_Work_hasInOpenRun_ok (hz : z.category = 1) (xm : Nat → Option kE) (N : Nat) {a0 : Nat} {a1 : Int32} {mem : kM} {R : kO × kM} (h : m_Work_hasInOpenRun xm N a0 a1 mem = some R) : kCa xm (kSm z) kDfl kFty kG 4 36 [.ref a0, .int a1] mem (dEq R) := by
  refine wq_ca (show 2 ≤ 3 by decide) ?_
  change kGo xm (kSm z) kDfl kFty kG 3 36 0 [(0, .ref a0), (1, .int a1)] [] mem (dEq R)
  unfold m_Work_hasInOpenRun at h
  refine wp_run 2 (pc' := 2) (lv' := [(2, .int 0), (0, .ref a0), (1, .int a1)]) (st' := []) (mem' := mem) rfl ?_
  refine kGo_sub (lvS_of [1, 2, 0] rfl [2, 0, 1] rfl (by decide)) ?_
  exact m_Work_hasInOpenRun_2_ok hz xm N N _ _ _ mem R h
/-- Knitstead.whereIs(I)I -/
def m_K_whereIs (xm : Nat → Option kE) (N : Nat) (a0 : Nat) (a1 : Int32) (mem : kM) : dRes :=
  dGR xm mem a0 11 1 fun v1 =>
  dGR xm mem v1 10 0 fun v4 =>
  dRc xm mem v4 7 <|
  dCI (m_Needle_holds xm N v4 a1 mem) fun v8 m8 =>
  if v8 = 0 then (
    dGR xm m8 a0 11 1 fun v17 =>
    dGR xm m8 v17 10 1 fun v20 =>
    dRc xm m8 v20 7 <|
    dCI (m_Needle_holds xm N v20 a1 m8) fun v24 m24 =>
    if v24 = 0 then (
      dGR xm m24 a0 11 1 fun v33 =>
      dRc xm m24 v33 10 <|
      dCI (m_Work_hasInOpenRun xm N v33 a1 m24) fun v37 m37 =>
      if v37 = 0 then (
        dGR xm m37 a0 11 2 fun v46 =>
        dRc xm m37 v46 8 <|
        dCI (m_Table_get xm N v46 a1 5 m37) fun v51 m51 =>
        some (.inl (some (.int v51)), m51)
      ) else (
        some (.inl (some (.int 4)), m37)
      )
    ) else (
      some (.inl (some (.int 1)), m24)
    )
  ) else (
    some (.inl (some (.int 0)), m8)
  )
theorem m_K_whereIs_ok (hz : z.category = 1) (xm : Nat → Option kE) (N : Nat) {a0 : Nat} {a1 : Int32} {mem : kM} {R : kO × kM} (h : m_K_whereIs xm N a0 a1 mem = some R) : kCa xm (kSm z) kDfl kFty kG 5 90 [.ref a0, .int a1] mem (dEq R) := by
  refine wq_ca (show 2 ≤ 2 by decide) ?_
  change kGo xm (kSm z) kDfl kFty kG 4 90 0 [(0, .ref a0), (1, .int a1)] [] mem (dEq R)
  unfold m_K_whereIs at h
  refine wp_run 1 (pc' := 1) (lv' := [(0, .ref a0), (1, .int a1)]) (st' := [.ref a0]) (mem' := mem) rfl ?_
  refine wq_gR rfl h (fun v1 h => ?_)
  refine wq_gR rfl h (fun v4 h => ?_)
  refine wp_run 1 (pc' := 8) (lv' := [(0, .ref a0), (1, .int a1)]) (st' := [.int a1, .ref v4]) (mem' := mem) rfl ?_
  obtain ⟨fk8, hk8, h⟩ := dRc_some h
  refine wq_cI rfl (kCall_v hk8 (as := [.int a1]) (rest := []) ⟨by decide, rfl, (show 1 < 90 by decide), by decide⟩ (show 0 ≤ 8 by decide)) h (fun r hr => ca_up (by decide) (m_Needle_holds_ok hz xm N hr)) (fun v8 m8 h => ?_)
  refine wq_eq rfl h (fun h => ?_) (fun h => ?_)
  · refine wp_run 1 (pc' := 17) (lv' := [(0, .ref a0), (1, .int a1)]) (st' := [.ref a0]) (mem' := m8) rfl ?_
    refine wq_gR rfl h (fun v17 h => ?_)
    refine wq_gR rfl h (fun v20 h => ?_)
    refine wp_run 1 (pc' := 24) (lv' := [(0, .ref a0), (1, .int a1)]) (st' := [.int a1, .ref v20]) (mem' := m8) rfl ?_
    obtain ⟨fk24, hk24, h⟩ := dRc_some h
    refine wq_cI rfl (kCall_v hk24 (as := [.int a1]) (rest := []) ⟨by decide, rfl, (show 1 < 90 by decide), by decide⟩ (show 0 ≤ 8 by decide)) h (fun r hr => ca_up (by decide) (m_Needle_holds_ok hz xm N hr)) (fun v24 m24 h => ?_)
    refine wq_eq rfl h (fun h => ?_) (fun h => ?_)
    · refine wp_run 1 (pc' := 33) (lv' := [(0, .ref a0), (1, .int a1)]) (st' := [.ref a0]) (mem' := m24) rfl ?_
      refine wq_gR rfl h (fun v33 h => ?_)
      refine wp_run 1 (pc' := 37) (lv' := [(0, .ref a0), (1, .int a1)]) (st' := [.int a1, .ref v33]) (mem' := m24) rfl ?_
      obtain ⟨fk37, hk37, h⟩ := dRc_some h
      refine wq_cI rfl (kCall_v hk37 (as := [.int a1]) (rest := []) ⟨by decide, rfl, (show 1 < 90 by decide), by decide⟩ (show 0 ≤ 8 by decide)) h (fun r hr => ca_up (by decide) (m_Work_hasInOpenRun_ok hz xm N hr)) (fun v37 m37 h => ?_)
      refine wq_eq rfl h (fun h => ?_) (fun h => ?_)
      · refine wp_run 1 (pc' := 46) (lv' := [(0, .ref a0), (1, .int a1)]) (st' := [.ref a0]) (mem' := m37) rfl ?_
        refine wq_gR rfl h (fun v46 h => ?_)
        refine wp_run 2 (pc' := 51) (lv' := [(0, .ref a0), (1, .int a1)]) (st' := [.int 5, .int a1, .ref v46]) (mem' := m37) rfl ?_
        obtain ⟨fk51, hk51, h⟩ := dRc_some h
        refine wq_cI rfl (kCall_v hk51 (as := [.int a1, .int 5]) (rest := []) ⟨by decide, rfl, (show 2 < 90 by decide), by decide⟩ (show 0 ≤ 8 by decide)) h (fun r hr => ca_up (by decide) (m_Table_get_ok hz xm N hr)) (fun v51 m51 h => ?_)
        exact wq_ret rfl rfl h
      · refine wp_run 1 (pc' := 44) (lv' := [(0, .ref a0), (1, .int a1)]) (st' := [.int 4]) (mem' := m37) rfl ?_
        exact wq_ret rfl rfl h
    · refine wp_run 1 (pc' := 31) (lv' := [(0, .ref a0), (1, .int a1)]) (st' := [.int 1]) (mem' := m24) rfl ?_
      exact wq_ret rfl rfl h
  · refine wp_run 1 (pc' := 15) (lv' := [(0, .ref a0), (1, .int a1)]) (st' := [.int 0]) (mem' := m8) rfl ?_
    exact wq_ret rfl rfl h
/-- Knitstead.loopFact(II)I -/
def m_K_loopFact (xm : Nat → Option kE) (N : Nat) (a0 : Nat) (a1 : Int32) (a2 : Int32) (mem : kM) : dRes :=
  if a2 = 5 then (
    dRc xm mem a0 11 <|
    dCI (m_K_whereIs xm N a0 a1 mem) fun v7 m7 =>
    some (.inl (some (.int v7)), m7)
  ) else (
    dGR xm mem a0 11 2 fun v14 =>
    dRc xm mem v14 8 <|
    dCI (m_Table_get xm N v14 a1 a2 mem) fun v19 m19 =>
    some (.inl (some (.int v19)), m19)
  )
theorem m_K_loopFact_ok (hz : z.category = 1) (xm : Nat → Option kE) (N : Nat) {a0 : Nat} {a1 : Int32} {a2 : Int32} {mem : kM} {R : kO × kM} (h : m_K_loopFact xm N a0 a1 a2 mem = some R) : kCa xm (kSm z) kDfl kFty kG 6 89 [.ref a0, .int a1, .int a2] mem (dEq R) := by
  refine wq_ca (show 3 ≤ 3 by decide) ?_
  change kGo xm (kSm z) kDfl kFty kG 5 89 0 [(0, .ref a0), (1, .int a1), (2, .int a2)] [] mem (dEq R)
  unfold m_K_loopFact at h
  refine wp_run 2 (pc' := 2) (lv' := [(0, .ref a0), (1, .int a1), (2, .int a2)]) (st' := [.int 5, .int a2]) (mem' := mem) rfl ?_
  refine wq_ne2 rfl h (fun h => ?_) (fun h => ?_)
  · refine wp_run 2 (pc' := 7) (lv' := [(0, .ref a0), (1, .int a1), (2, .int a2)]) (st' := [.int a1, .ref a0]) (mem' := mem) rfl ?_
    obtain ⟨fk7, hk7, h⟩ := dRc_some h
    refine wq_cI rfl (kCall_v hk7 (as := [.int a1]) (rest := []) ⟨by decide, rfl, (show 1 < 90 by decide), by decide⟩ (show 0 ≤ 8 by decide)) h (fun r hr => ca_up (by decide) (m_K_whereIs_ok hz xm N hr)) (fun v7 m7 h => ?_)
    refine wp_run 1 (pc' := 22) (lv' := [(0, .ref a0), (1, .int a1), (2, .int a2)]) (st' := [.int v7]) (mem' := m7) rfl ?_
    exact wq_ret rfl rfl h
  · refine wp_run 1 (pc' := 14) (lv' := [(0, .ref a0), (1, .int a1), (2, .int a2)]) (st' := [.ref a0]) (mem' := mem) rfl ?_
    refine wq_gR rfl h (fun v14 h => ?_)
    refine wp_run 2 (pc' := 19) (lv' := [(0, .ref a0), (1, .int a1), (2, .int a2)]) (st' := [.int a2, .int a1, .ref v14]) (mem' := mem) rfl ?_
    obtain ⟨fk19, hk19, h⟩ := dRc_some h
    refine wq_cI rfl (kCall_v hk19 (as := [.int a1, .int a2]) (rest := []) ⟨by decide, rfl, (show 2 < 90 by decide), by decide⟩ (show 0 ≤ 8 by decide)) h (fun r hr => ca_up (by decide) (m_Table_get_ok hz xm N hr)) (fun v19 m19 h => ?_)
    exact wq_ret rfl rfl h
/-- Knitstead.ofLoop(II)I -/
def m_K_ofLoop (xm : Nat → Option kE) (N : Nat) (a0 : Nat) (a1 : Int32) (a2 : Int32) (mem : kM) : dRes :=
  if a1 < 0 then (
    some (.inr 2, mem ++ [.inl (1000, [.null, .null, .null, .null, .null, .null])])
  ) else (
    dGR xm mem a0 11 1 fun v6 =>
    dGI xm mem v6 10 4 fun v9 =>
    if a1 < v9 then (
      if a2 < 0 then (
        some (.inr 0, mem ++ [.inl (1000, [.null, .null, .null, .null, .null, .null])])
      ) else (
        if a2 < 6 then (
          dRc xm mem a0 11 <|
          dCI (m_K_loopFact xm N a0 a1 a2 mem) fun v48 m48 =>
          some (.inl (some (.int v48)), m48)
        ) else (
          some (.inr 0, mem ++ [.inl (1000, [.null, .null, .null, .null, .null, .null])])
        )
      )
    ) else (
      some (.inr 2, mem ++ [.inl (1000, [.null, .null, .null, .null, .null, .null])])
    )
  )
theorem m_K_ofLoop_ok (hz : z.category = 1) (xm : Nat → Option kE) (N : Nat) {a0 : Nat} {a1 : Int32} {a2 : Int32} {mem : kM} {R : kO × kM} (h : m_K_ofLoop xm N a0 a1 a2 mem = some R) : kCa xm (kSm z) kDfl kFty kG 7 56 [.ref a0, .int a1, .int a2] mem (dEq R) := by
  refine wq_ca (show 3 ≤ 3 by decide) ?_
  change kGo xm (kSm z) kDfl kFty kG 6 56 0 [(0, .ref a0), (1, .int a1), (2, .int a2)] [] mem (dEq R)
  unfold m_K_ofLoop at h
  refine wp_run 1 (pc' := 1) (lv' := [(0, .ref a0), (1, .int a1), (2, .int a2)]) (st' := [.int a1]) (mem' := mem) rfl ?_
  refine wq_lt rfl h (fun h => ?_) (fun h => ?_)
  · exact wq_end rfl rfl h
  · refine wp_run 2 (pc' := 6) (lv' := [(0, .ref a0), (1, .int a1), (2, .int a2)]) (st' := [.ref a0, .int a1]) (mem' := mem) rfl ?_
    refine wq_gR rfl h (fun v6 h => ?_)
    refine wq_gI rfl h (fun v9 h => ?_)
    refine wq_lt2 rfl h (fun h => ?_) (fun h => ?_)
    · refine wp_run 1 (pc' := 26) (lv' := [(0, .ref a0), (1, .int a1), (2, .int a2)]) (st' := [.int a2]) (mem' := mem) rfl ?_
      refine wq_lt rfl h (fun h => ?_) (fun h => ?_)
      · exact wq_end rfl rfl h
      · refine wp_run 2 (pc' := 32) (lv' := [(0, .ref a0), (1, .int a1), (2, .int a2)]) (st' := [.int 6, .int a2]) (mem' := mem) rfl ?_
        refine wq_lt2 rfl h (fun h => ?_) (fun h => ?_)
        · refine wp_run 3 (pc' := 48) (lv' := [(0, .ref a0), (1, .int a1), (2, .int a2)]) (st' := [.int a2, .int a1, .ref a0]) (mem' := mem) rfl ?_
          obtain ⟨fk48, hk48, h⟩ := dRc_some h
          refine wq_cI rfl (kCall_v hk48 (as := [.int a1, .int a2]) (rest := []) ⟨by decide, rfl, (show 2 < 90 by decide), by decide⟩ (show 0 ≤ 8 by decide)) h (fun r hr => ca_up (by decide) (m_K_loopFact_ok hz xm N hr)) (fun v48 m48 h => ?_)
          exact wq_ret rfl rfl h
        · exact wq_end rfl rfl h
    · exact wq_end rfl rfl h
/-- Knitstead.ofRun(II)I -/
def m_K_ofRun (xm : Nat → Option kE) (N : Nat) (a0 : Nat) (a1 : Int32) (a2 : Int32) (mem : kM) : dRes :=
  if a1 < 0 then (
    some (.inr 2, mem ++ [.inl (1000, [.null, .null, .null, .null, .null, .null])])
  ) else (
    dGR xm mem a0 11 1 fun v6 =>
    dGI xm mem v6 10 3 fun v9 =>
    if a1 < v9 then (
      if a2 < 0 then (
        some (.inr 0, mem ++ [.inl (1000, [.null, .null, .null, .null, .null, .null])])
      ) else (
        if a2 < 4 then (
          dGR xm mem a0 11 1 fun v45 =>
          dGR xm mem v45 10 2 fun v48 =>
          dRc xm mem v48 8 <|
          dCI (m_Table_get xm N v48 a1 a2 mem) fun v53 m53 =>
          some (.inl (some (.int v53)), m53)
        ) else (
          some (.inr 0, mem ++ [.inl (1000, [.null, .null, .null, .null, .null, .null])])
        )
      )
    ) else (
      some (.inr 2, mem ++ [.inl (1000, [.null, .null, .null, .null, .null, .null])])
    )
  )
theorem m_K_ofRun_ok (hz : z.category = 1) (xm : Nat → Option kE) (N : Nat) {a0 : Nat} {a1 : Int32} {a2 : Int32} {mem : kM} {R : kO × kM} (h : m_K_ofRun xm N a0 a1 a2 mem = some R) : kCa xm (kSm z) kDfl kFty kG 3 57 [.ref a0, .int a1, .int a2] mem (dEq R) := by
  refine wq_ca (show 3 ≤ 3 by decide) ?_
  change kGo xm (kSm z) kDfl kFty kG 2 57 0 [(0, .ref a0), (1, .int a1), (2, .int a2)] [] mem (dEq R)
  unfold m_K_ofRun at h
  refine wp_run 1 (pc' := 1) (lv' := [(0, .ref a0), (1, .int a1), (2, .int a2)]) (st' := [.int a1]) (mem' := mem) rfl ?_
  refine wq_lt rfl h (fun h => ?_) (fun h => ?_)
  · exact wq_end rfl rfl h
  · refine wp_run 2 (pc' := 6) (lv' := [(0, .ref a0), (1, .int a1), (2, .int a2)]) (st' := [.ref a0, .int a1]) (mem' := mem) rfl ?_
    refine wq_gR rfl h (fun v6 h => ?_)
    refine wq_gI rfl h (fun v9 h => ?_)
    refine wq_lt2 rfl h (fun h => ?_) (fun h => ?_)
    · refine wp_run 1 (pc' := 26) (lv' := [(0, .ref a0), (1, .int a1), (2, .int a2)]) (st' := [.int a2]) (mem' := mem) rfl ?_
      refine wq_lt rfl h (fun h => ?_) (fun h => ?_)
      · exact wq_end rfl rfl h
      · refine wp_run 2 (pc' := 31) (lv' := [(0, .ref a0), (1, .int a1), (2, .int a2)]) (st' := [.int 4, .int a2]) (mem' := mem) rfl ?_
        refine wq_lt2 rfl h (fun h => ?_) (fun h => ?_)
        · refine wp_run 1 (pc' := 45) (lv' := [(0, .ref a0), (1, .int a1), (2, .int a2)]) (st' := [.ref a0]) (mem' := mem) rfl ?_
          refine wq_gR rfl h (fun v45 h => ?_)
          refine wq_gR rfl h (fun v48 h => ?_)
          refine wp_run 2 (pc' := 53) (lv' := [(0, .ref a0), (1, .int a1), (2, .int a2)]) (st' := [.int a2, .int a1, .ref v48]) (mem' := mem) rfl ?_
          obtain ⟨fk53, hk53, h⟩ := dRc_some h
          refine wq_cI rfl (kCall_v hk53 (as := [.int a1, .int a2]) (rest := []) ⟨by decide, rfl, (show 2 < 90 by decide), by decide⟩ (show 0 ≤ 8 by decide)) h (fun r hr => ca_up (by decide) (m_Table_get_ok hz xm N hr)) (fun v53 m53 h => ?_)
          exact wq_ret rfl rfl h
        · exact wq_end rfl rfl h
    · exact wq_end rfl rfl h
/-- Knitstead.isAsMade(I)Z -/
def m_K_isAsMade (xm : Nat → Option kE) (N : Nat) (a0 : Nat) (a1 : Int32) (mem : kM) : dRes :=
  dGR xm mem a0 11 2 fun v1 =>
  dRc xm mem v1 8 <|
  dCI (m_Table_get xm N v1 a1 2 mem) fun v6 m6 =>
  dGR xm m6 a0 11 1 fun v10 =>
  dGI xm m6 v10 10 5 fun v13 =>
  if ((v6 ^^^ v13) &&& 1) = 0 then (
    some (.inl (some (.int 1)), m6)
  ) else (
    some (.inl (some (.int 0)), m6)
  )
theorem m_K_isAsMade_ok (hz : z.category = 1) (xm : Nat → Option kE) (N : Nat) {a0 : Nat} {a1 : Int32} {mem : kM} {R : kO × kM} (h : m_K_isAsMade xm N a0 a1 mem = some R) : kCa xm (kSm z) kDfl kFty kG 3 91 [.ref a0, .int a1] mem (dEq R) := by
  refine wq_ca (show 2 ≤ 2 by decide) ?_
  change kGo xm (kSm z) kDfl kFty kG 2 91 0 [(0, .ref a0), (1, .int a1)] [] mem (dEq R)
  unfold m_K_isAsMade at h
  refine wp_run 1 (pc' := 1) (lv' := [(0, .ref a0), (1, .int a1)]) (st' := [.ref a0]) (mem' := mem) rfl ?_
  refine wq_gR rfl h (fun v1 h => ?_)
  refine wp_run 2 (pc' := 6) (lv' := [(0, .ref a0), (1, .int a1)]) (st' := [.int 2, .int a1, .ref v1]) (mem' := mem) rfl ?_
  obtain ⟨fk6, hk6, h⟩ := dRc_some h
  refine wq_cI rfl (kCall_v hk6 (as := [.int a1, .int 2]) (rest := []) ⟨by decide, rfl, (show 2 < 90 by decide), by decide⟩ (show 0 ≤ 8 by decide)) h (fun r hr => ca_up (by decide) (m_Table_get_ok hz xm N hr)) (fun v6 m6 h => ?_)
  refine wp_run 1 (pc' := 10) (lv' := [(0, .ref a0), (1, .int a1)]) (st' := [.ref a0, .int v6]) (mem' := m6) rfl ?_
  refine wq_gR rfl h (fun v10 h => ?_)
  refine wq_gI rfl h (fun v13 h => ?_)
  refine wp_run 3 (pc' := 19) (lv' := [(0, .ref a0), (1, .int a1)]) (st' := [.int ((v6 ^^^ v13) &&& 1)]) (mem' := m6) rfl ?_
  refine wq_ne rfl h (fun h => ?_) (fun h => ?_)
  · refine wp_run 2 (pc' := 27) (lv' := [(0, .ref a0), (1, .int a1)]) (st' := [.int 1]) (mem' := m6) rfl ?_
    exact wq_ret rfl rfl h
  · refine wp_run 1 (pc' := 27) (lv' := [(0, .ref a0), (1, .int a1)]) (st' := [.int 0]) (mem' := m6) rfl ?_
    exact wq_ret rfl rfl h
end
