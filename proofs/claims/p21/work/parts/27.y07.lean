set_option maxRecDepth 20000
/-- Knitstead$Work.openRun(II)I -/
def m_Work_openRun (xm : Nat → Option kE) (N : Nat) (a0 : Nat) (a1 : Int32) (a2 : Int32) (mem : kM) : dRes :=
  dGI xm mem a0 10 3 fun v1 =>
  dGI xm mem a0 10 3 fun v7 =>
  dP xm mem a0 10 3 (.int (v7 + 1)) fun m12 =>
  dGR xm m12 a0 10 2 fun v16 =>
  dRc xm m12 v16 8 <|
  dCV (m_Table_set xm N v16 v1 0 a1 m12) fun m22 =>
  dGR xm m22 a0 10 2 fun v26 =>
  dRc xm m22 v26 8 <|
  dCV (m_Table_set xm N v26 v1 1 a2 m22) fun m32 =>
  dGR xm m32 a0 10 2 fun v36 =>
  dRc xm m32 v36 8 <|
  dCV (m_Table_set xm N v36 v1 2 0 m32) fun m42 =>
  dGR xm m42 a0 10 2 fun v46 =>
  dRc xm m42 v46 8 <|
  dCV (m_Table_set xm N v46 v1 3 1 m42) fun m52 =>
  some (.inl (some (.int v1)), m52)
theorem m_Work_openRun_ok (xm : Nat → Option kE) (N : Nat) {a0 : Nat} {a1 : Int32} {a2 : Int32} {mem : kM} {R : kO × kM} (h : m_Work_openRun xm N a0 a1 a2 mem = some R) : kCa xm kSm kDfl kFty kG 5 33 [.ref a0, .int a1, .int a2] mem (dEq R) := by
  refine wq_ca (show 3 ≤ 4 by decide) ?_
  change kGo xm kSm kDfl kFty kG 4 33 0 [(0, .ref a0), (1, .int a1), (2, .int a2)] [] mem (dEq R)
  unfold m_Work_openRun at h
  refine wp_run 1 (pc' := 1) (lv' := [(0, .ref a0), (1, .int a1), (2, .int a2)]) (st' := [.ref a0]) (mem' := mem) rfl ?_
  refine wq_gI rfl h (fun v1 h => ?_)
  refine wp_run 3 (pc' := 7) (lv' := [(3, .int v1), (0, .ref a0), (1, .int a1), (2, .int a2)]) (st' := [.ref a0, .ref a0]) (mem' := mem) rfl ?_
  refine wq_gI rfl h (fun v7 h => ?_)
  refine wp_run 2 (pc' := 12) (lv' := [(3, .int v1), (0, .ref a0), (1, .int a1), (2, .int a2)]) (st' := [.int (v7 + 1), .ref a0]) (mem' := mem) rfl ?_
  refine wq_p rfl rfl h (fun m12 h => ?_)
  refine wp_run 1 (pc' := 16) (lv' := [(3, .int v1), (0, .ref a0), (1, .int a1), (2, .int a2)]) (st' := [.ref a0]) (mem' := m12) rfl ?_
  refine wq_gR rfl h (fun v16 h => ?_)
  refine wp_run 3 (pc' := 22) (lv' := [(3, .int v1), (0, .ref a0), (1, .int a1), (2, .int a2)]) (st' := [.int a1, .int 0, .int v1, .ref v16]) (mem' := m12) rfl ?_
  obtain ⟨fk22, hk22, h⟩ := dRc_some h
  refine wq_cV rfl (kCall_v hk22 (as := [.int v1, .int 0, .int a1]) (rest := []) ⟨by decide, rfl, (show 3 < 90 by decide), by decide⟩ (show 0 ≤ 8 by decide)) h (fun r hr => ca_up (by decide) (m_Table_set_ok xm N hr)) (fun m22 h => ?_)
  refine wp_run 1 (pc' := 26) (lv' := [(3, .int v1), (0, .ref a0), (1, .int a1), (2, .int a2)]) (st' := [.ref a0]) (mem' := m22) rfl ?_
  refine wq_gR rfl h (fun v26 h => ?_)
  refine wp_run 3 (pc' := 32) (lv' := [(3, .int v1), (0, .ref a0), (1, .int a1), (2, .int a2)]) (st' := [.int a2, .int 1, .int v1, .ref v26]) (mem' := m22) rfl ?_
  obtain ⟨fk32, hk32, h⟩ := dRc_some h
  refine wq_cV rfl (kCall_v hk32 (as := [.int v1, .int 1, .int a2]) (rest := []) ⟨by decide, rfl, (show 3 < 90 by decide), by decide⟩ (show 0 ≤ 8 by decide)) h (fun r hr => ca_up (by decide) (m_Table_set_ok xm N hr)) (fun m32 h => ?_)
  refine wp_run 1 (pc' := 36) (lv' := [(3, .int v1), (0, .ref a0), (1, .int a1), (2, .int a2)]) (st' := [.ref a0]) (mem' := m32) rfl ?_
  refine wq_gR rfl h (fun v36 h => ?_)
  refine wp_run 3 (pc' := 42) (lv' := [(3, .int v1), (0, .ref a0), (1, .int a1), (2, .int a2)]) (st' := [.int 0, .int 2, .int v1, .ref v36]) (mem' := m32) rfl ?_
  obtain ⟨fk42, hk42, h⟩ := dRc_some h
  refine wq_cV rfl (kCall_v hk42 (as := [.int v1, .int 2, .int 0]) (rest := []) ⟨by decide, rfl, (show 3 < 90 by decide), by decide⟩ (show 0 ≤ 8 by decide)) h (fun r hr => ca_up (by decide) (m_Table_set_ok xm N hr)) (fun m42 h => ?_)
  refine wp_run 1 (pc' := 46) (lv' := [(3, .int v1), (0, .ref a0), (1, .int a1), (2, .int a2)]) (st' := [.ref a0]) (mem' := m42) rfl ?_
  refine wq_gR rfl h (fun v46 h => ?_)
  refine wp_run 3 (pc' := 52) (lv' := [(3, .int v1), (0, .ref a0), (1, .int a1), (2, .int a2)]) (st' := [.int 1, .int 3, .int v1, .ref v46]) (mem' := m42) rfl ?_
  obtain ⟨fk52, hk52, h⟩ := dRc_some h
  refine wq_cV rfl (kCall_v hk52 (as := [.int v1, .int 3, .int 1]) (rest := []) ⟨by decide, rfl, (show 3 < 90 by decide), by decide⟩ (show 0 ≤ 8 by decide)) h (fun r hr => ca_up (by decide) (m_Table_set_ok xm N hr)) (fun m52 h => ?_)
  refine wp_run 1 (pc' := 56) (lv' := [(3, .int v1), (0, .ref a0), (1, .int a1), (2, .int a2)]) (st' := [.int v1]) (mem' := m52) rfl ?_
  exact wq_ret rfl rfl h
/-- Knitstead.drop()I -/
def m_K_drop (xm : Nat → Option kE) (N : Nat) (a0 : Nat) (mem : kM) : dRes :=
  dGR xm mem a0 11 1 fun v1 =>
  dGR xm mem v1 10 0 fun v4 =>
  dGI xm mem v4 7 1 fun v7 =>
  if v7 < 1 then (
    some (.inr 1, mem ++ [.inl (1000, [.null, .null, .null, .null, .null, .null])])
  ) else (
    dGR xm mem a0 11 1 fun v15 =>
    dGI xm mem v15 10 3 fun v18 =>
    if v18 < 9 then (
      dGR xm mem a0 11 5 fun v37 =>
      dGR xm mem a0 11 1 fun v41 =>
      dGR xm mem a0 11 0 fun v45 =>
      dRc xm mem v37 6 <|
      dCV (m_History_keep xm N v37 v41 v45 mem) fun m48 =>
      dGR xm m48 a0 11 1 fun v52 =>
      dGR xm m48 v52 10 0 fun v55 =>
      dRc xm m48 v55 7 <|
      dCI (m_Needle_takeAt xm N v55 0 m48) fun v59 m59 =>
      dGR xm m59 a0 11 1 fun v64 =>
      dGR xm m59 a0 11 2 fun v69 =>
      dRc xm m59 v69 8 <|
      dCI (m_Table_get xm N v69 v59 3 m59) fun v74 m74 =>
      dRc xm m74 v64 10 <|
      dCI (m_Work_openRun xm N v64 v59 v74 m74) fun v77 m77 =>
      some (.inl (some (.int v77)), m77)
    ) else (
      some (.inr 1, mem ++ [.inl (1000, [.null, .null, .null, .null, .null, .null])])
    )
  )
theorem m_K_drop_ok (xm : Nat → Option kE) (N : Nat) {a0 : Nat} {mem : kM} {R : kO × kM} (h : m_K_drop xm N a0 mem = some R) : kCa xm kSm kDfl kFty kG 6 50 [.ref a0] mem (dEq R) := by
  refine wq_ca (show 1 ≤ 2 by decide) ?_
  change kGo xm kSm kDfl kFty kG 5 50 0 [(0, .ref a0)] [] mem (dEq R)
  unfold m_K_drop at h
  refine wp_run 1 (pc' := 1) (lv' := [(0, .ref a0)]) (st' := [.ref a0]) (mem' := mem) rfl ?_
  refine wq_gR rfl h (fun v1 h => ?_)
  refine wq_gR rfl h (fun v4 h => ?_)
  refine wq_gI rfl h (fun v7 h => ?_)
  refine wp_run 1 (pc' := 11) (lv' := [(0, .ref a0)]) (st' := [.int 1, .int v7]) (mem' := mem) rfl ?_
  refine wq_lt2 rfl h (fun h => ?_) (fun h => ?_)
  · exact wq_end rfl rfl h
  · refine wp_run 1 (pc' := 15) (lv' := [(0, .ref a0)]) (st' := [.ref a0]) (mem' := mem) rfl ?_
    refine wq_gR rfl h (fun v15 h => ?_)
    refine wq_gI rfl h (fun v18 h => ?_)
    refine wp_run 1 (pc' := 23) (lv' := [(0, .ref a0)]) (st' := [.int 9, .int v18]) (mem' := mem) rfl ?_
    refine wq_lt2 rfl h (fun h => ?_) (fun h => ?_)
    · refine wp_run 1 (pc' := 37) (lv' := [(0, .ref a0)]) (st' := [.ref a0]) (mem' := mem) rfl ?_
      refine wq_gR rfl h (fun v37 h => ?_)
      refine wp_run 1 (pc' := 41) (lv' := [(0, .ref a0)]) (st' := [.ref a0, .ref v37]) (mem' := mem) rfl ?_
      refine wq_gR rfl h (fun v41 h => ?_)
      refine wp_run 1 (pc' := 45) (lv' := [(0, .ref a0)]) (st' := [.ref a0, .ref v41, .ref v37]) (mem' := mem) rfl ?_
      refine wq_gR rfl h (fun v45 h => ?_)
      obtain ⟨fk48, hk48, h⟩ := dRc_some h
      refine wq_cV rfl (kCall_v hk48 (as := [.ref v41, .ref v45]) (rest := []) ⟨by decide, rfl, (show 2 < 90 by decide), by decide⟩ (show 0 ≤ 8 by decide)) h (fun r hr => ca_up (by decide) (m_History_keep_ok xm N hr)) (fun m48 h => ?_)
      refine wp_run 1 (pc' := 52) (lv' := [(0, .ref a0)]) (st' := [.ref a0]) (mem' := m48) rfl ?_
      refine wq_gR rfl h (fun v52 h => ?_)
      refine wq_gR rfl h (fun v55 h => ?_)
      refine wp_run 1 (pc' := 59) (lv' := [(0, .ref a0)]) (st' := [.int 0, .ref v55]) (mem' := m48) rfl ?_
      obtain ⟨fk59, hk59, h⟩ := dRc_some h
      refine wq_cI rfl (kCall_v hk59 (as := [.int 0]) (rest := []) ⟨by decide, rfl, (show 1 < 90 by decide), by decide⟩ (show 0 ≤ 8 by decide)) h (fun r hr => ca_up (by decide) (m_Needle_takeAt_ok xm N hr)) (fun v59 m59 h => ?_)
      refine wp_run 2 (pc' := 64) (lv' := [(1, .int v59), (0, .ref a0)]) (st' := [.ref a0]) (mem' := m59) rfl ?_
      refine wq_gR rfl h (fun v64 h => ?_)
      refine wp_run 2 (pc' := 69) (lv' := [(1, .int v59), (0, .ref a0)]) (st' := [.ref a0, .int v59, .ref v64]) (mem' := m59) rfl ?_
      refine wq_gR rfl h (fun v69 h => ?_)
      refine wp_run 2 (pc' := 74) (lv' := [(1, .int v59), (0, .ref a0)]) (st' := [.int 3, .int v59, .ref v69, .int v59, .ref v64]) (mem' := m59) rfl ?_
      obtain ⟨fk74, hk74, h⟩ := dRc_some h
      refine wq_cI rfl (kCall_v hk74 (as := [.int v59, .int 3]) (rest := [.int v59, .ref v64]) ⟨by decide, rfl, (show 2 < 90 by decide), by decide⟩ (show 2 ≤ 8 by decide)) h (fun r hr => ca_up (by decide) (m_Table_get_ok xm N hr)) (fun v74 m74 h => ?_)
      obtain ⟨fk77, hk77, h⟩ := dRc_some h
      refine wq_cI rfl (kCall_v hk77 (as := [.int v59, .int v74]) (rest := []) ⟨by decide, rfl, (show 2 < 90 by decide), by decide⟩ (show 0 ≤ 8 by decide)) h (fun r hr => ca_up (by decide) (m_Work_openRun_ok xm N hr)) (fun v77 m77 h => ?_)
      exact wq_ret rfl rfl h
    · exact wq_end rfl rfl h
/-- KnitsteadLaw.drop(LKnitstead;LKnitsteadLaw$Out;)I -/
def m_law_drop (xm : Nat → Option kE) (N : Nat) (a0 : Nat) (a1 : Nat) (mem : kM) : dRes :=
  dRc xm mem a0 11 <|
  dCX (m_K_drop xm N a0 mem) (fun v2 m2 =>
    dP xm m2 a1 12 0 (.long (Int32.toInt64 v2)) fun m6 =>
    some (.inl (some (.int 0)), m6)
  ) (fun E m2 => match E with
    | 1 =>
      some (.inl (some (.int 1)), m2)
    | _ => none)
theorem m_law_drop_ok (xm : Nat → Option kE) (N : Nat) {a0 : Nat} {a1 : Nat} {mem : kM} {R : kO × kM} (h : m_law_drop xm N a0 a1 mem = some R) : kCa xm kSm kDfl kFty kG 7 250 [.ref a0, .ref a1] mem (dEq R) := by
  refine wq_ca (show 2 ≤ 3 by decide) ?_
  change kGo xm kSm kDfl kFty kG 6 250 0 [(0, .ref a0), (1, .ref a1)] [] mem (dEq R)
  unfold m_law_drop at h
  refine wp_run 2 (pc' := 2) (lv' := [(0, .ref a0), (1, .ref a1)]) (st' := [.ref a0, .ref a1]) (mem' := mem) rfl ?_
  obtain ⟨fk2, hk2, h⟩ := dRc_some h
  refine wq_cX rfl (kCall_v hk2 (as := []) (rest := [.ref a1]) ⟨by decide, rfl, (show 0 < 90 by decide), by decide⟩ (show 1 ≤ 8 by decide)) h (fun r hr => ca_up (by decide) (m_K_drop_ok xm N hr)) (fun v2 m2 h => ?_) (fun E m2 h => ?_)
  · refine wp_run 1 (pc' := 6) (lv' := [(0, .ref a0), (1, .ref a1)]) (st' := [.long (Int32.toInt64 v2), .ref a1]) (mem' := m2) rfl ?_
    refine wq_p rfl rfl h (fun m6 h => ?_)
    refine wp_run 2 (pc' := 16) (lv' := [(0, .ref a0), (1, .ref a1)]) (st' := [.int 0]) (mem' := m6) rfl ?_
    exact wq_ret rfl rfl h
  · match E, h with
    | 1, h =>
      refine ⟨13, 2, rfl, ?_⟩
      change kGo xm kSm kDfl kFty kG 6 250 13 [(0, .ref a0), (1, .ref a1)] [] m2 (dEq R)
      refine wp_run 1 (pc' := 14) (lv' := [(0, .ref a0), (1, .ref a1)]) (st' := [.int 1]) (mem' := m2) rfl ?_
      exact wq_ret rfl rfl h
    | 0, h => cases h
    | 2, h => cases h
    | (k + 3), h => cases h
/-- Knitstead.latch(I)I -/
def m_K_latch (xm : Nat → Option kE) (N : Nat) (a0 : Nat) (a1 : Int32) (mem : kM) : dRes :=
  if a1 < 0 then (
    some (.inr 2, mem ++ [.inl (1000, [.null, .null, .null, .null, .null, .null])])
  ) else (
    dGR xm mem a0 11 1 fun v6 =>
    dGI xm mem v6 10 3 fun v9 =>
    if a1 < v9 then (
      dGR xm mem a0 11 1 fun v26 =>
      dGR xm mem v26 10 2 fun v29 =>
      dRc xm mem v29 8 <|
      dCI (m_Table_get xm N v29 a1 3 mem) fun v34 m34 =>
      if v34 = 0 then (
        some (.inr 1, m34 ++ [.inl (1000, [.null, .null, .null, .null, .null, .null])])
      ) else (
        dGR xm m34 a0 11 1 fun v41 =>
        dRc xm m34 v41 10 <|
        dCI (m_Work_onBoth xm N v41 m34) fun v44 m44 =>
        if v44 < 24 then (
          dGR xm m44 a0 11 5 fun v63 =>
          dGR xm m44 a0 11 1 fun v67 =>
          dGR xm m44 a0 11 0 fun v71 =>
          dRc xm m44 v63 6 <|
          dCV (m_History_keep xm N v63 v67 v71 m44) fun m74 =>
          dGR xm m74 a0 11 1 fun v78 =>
          dGR xm m74 v78 10 2 fun v81 =>
          dRc xm m74 v81 8 <|
          dCV (m_Table_set xm N v81 a1 3 0 m74) fun m87 =>
          dGR xm m87 a0 11 1 fun v91 =>
          dGR xm m87 v91 10 0 fun v94 =>
          dGR xm m87 a0 11 1 fun v98 =>
          dGR xm m87 v98 10 2 fun v101 =>
          dRc xm m87 v101 8 <|
          dCI (m_Table_get xm N v101 a1 0 m87) fun v106 m106 =>
          dRc xm m106 v94 7 <|
          dCV (m_Needle_put xm N v94 v106 m106) fun m109 =>
          dGR xm m109 a0 11 1 fun v113 =>
          dGR xm m109 v113 10 2 fun v116 =>
          dRc xm m109 v116 8 <|
          dCI (m_Table_get xm N v116 a1 2 m109) fun v121 m121 =>
          some (.inl (some (.int v121)), m121)
        ) else (
          some (.inr 1, m44 ++ [.inl (1000, [.null, .null, .null, .null, .null, .null])])
        )
      )
    ) else (
      some (.inr 2, mem ++ [.inl (1000, [.null, .null, .null, .null, .null, .null])])
    )
  )
theorem m_K_latch_ok (xm : Nat → Option kE) (N : Nat) {a0 : Nat} {a1 : Int32} {mem : kM} {R : kO × kM} (h : m_K_latch xm N a0 a1 mem = some R) : kCa xm kSm kDfl kFty kG 5 51 [.ref a0, .int a1] mem (dEq R) := by
  refine wq_ca (show 2 ≤ 2 by decide) ?_
  change kGo xm kSm kDfl kFty kG 4 51 0 [(0, .ref a0), (1, .int a1)] [] mem (dEq R)
  unfold m_K_latch at h
  refine wp_run 1 (pc' := 1) (lv' := [(0, .ref a0), (1, .int a1)]) (st' := [.int a1]) (mem' := mem) rfl ?_
  refine wq_lt rfl h (fun h => ?_) (fun h => ?_)
  · exact wq_end rfl rfl h
  · refine wp_run 2 (pc' := 6) (lv' := [(0, .ref a0), (1, .int a1)]) (st' := [.ref a0, .int a1]) (mem' := mem) rfl ?_
    refine wq_gR rfl h (fun v6 h => ?_)
    refine wq_gI rfl h (fun v9 h => ?_)
    refine wq_lt2 rfl h (fun h => ?_) (fun h => ?_)
    · refine wp_run 1 (pc' := 26) (lv' := [(0, .ref a0), (1, .int a1)]) (st' := [.ref a0]) (mem' := mem) rfl ?_
      refine wq_gR rfl h (fun v26 h => ?_)
      refine wq_gR rfl h (fun v29 h => ?_)
      refine wp_run 2 (pc' := 34) (lv' := [(0, .ref a0), (1, .int a1)]) (st' := [.int 3, .int a1, .ref v29]) (mem' := mem) rfl ?_
      obtain ⟨fk34, hk34, h⟩ := dRc_some h
      refine wq_cI rfl (kCall_v hk34 (as := [.int a1, .int 3]) (rest := []) ⟨by decide, rfl, (show 2 < 90 by decide), by decide⟩ (show 0 ≤ 8 by decide)) h (fun r hr => ca_up (by decide) (m_Table_get_ok xm N hr)) (fun v34 m34 h => ?_)
      refine wq_eq rfl h (fun h => ?_) (fun h => ?_)
      · exact wq_end rfl rfl h
      · refine wp_run 1 (pc' := 41) (lv' := [(0, .ref a0), (1, .int a1)]) (st' := [.ref a0]) (mem' := m34) rfl ?_
        refine wq_gR rfl h (fun v41 h => ?_)
        obtain ⟨fk44, hk44, h⟩ := dRc_some h
        refine wq_cI rfl (kCall_v hk44 (as := []) (rest := []) ⟨by decide, rfl, (show 0 < 90 by decide), by decide⟩ (show 0 ≤ 8 by decide)) h (fun r hr => ca_up (by decide) (m_Work_onBoth_ok xm N hr)) (fun v44 m44 h => ?_)
        refine wp_run 1 (pc' := 49) (lv' := [(0, .ref a0), (1, .int a1)]) (st' := [.int 24, .int v44]) (mem' := m44) rfl ?_
        refine wq_lt2 rfl h (fun h => ?_) (fun h => ?_)
        · refine wp_run 1 (pc' := 63) (lv' := [(0, .ref a0), (1, .int a1)]) (st' := [.ref a0]) (mem' := m44) rfl ?_
          refine wq_gR rfl h (fun v63 h => ?_)
          refine wp_run 1 (pc' := 67) (lv' := [(0, .ref a0), (1, .int a1)]) (st' := [.ref a0, .ref v63]) (mem' := m44) rfl ?_
          refine wq_gR rfl h (fun v67 h => ?_)
          refine wp_run 1 (pc' := 71) (lv' := [(0, .ref a0), (1, .int a1)]) (st' := [.ref a0, .ref v67, .ref v63]) (mem' := m44) rfl ?_
          refine wq_gR rfl h (fun v71 h => ?_)
          obtain ⟨fk74, hk74, h⟩ := dRc_some h
          refine wq_cV rfl (kCall_v hk74 (as := [.ref v67, .ref v71]) (rest := []) ⟨by decide, rfl, (show 2 < 90 by decide), by decide⟩ (show 0 ≤ 8 by decide)) h (fun r hr => ca_up (by decide) (m_History_keep_ok xm N hr)) (fun m74 h => ?_)
          refine wp_run 1 (pc' := 78) (lv' := [(0, .ref a0), (1, .int a1)]) (st' := [.ref a0]) (mem' := m74) rfl ?_
          refine wq_gR rfl h (fun v78 h => ?_)
          refine wq_gR rfl h (fun v81 h => ?_)
          refine wp_run 3 (pc' := 87) (lv' := [(0, .ref a0), (1, .int a1)]) (st' := [.int 0, .int 3, .int a1, .ref v81]) (mem' := m74) rfl ?_
          obtain ⟨fk87, hk87, h⟩ := dRc_some h
          refine wq_cV rfl (kCall_v hk87 (as := [.int a1, .int 3, .int 0]) (rest := []) ⟨by decide, rfl, (show 3 < 90 by decide), by decide⟩ (show 0 ≤ 8 by decide)) h (fun r hr => ca_up (by decide) (m_Table_set_ok xm N hr)) (fun m87 h => ?_)
          refine wp_run 1 (pc' := 91) (lv' := [(0, .ref a0), (1, .int a1)]) (st' := [.ref a0]) (mem' := m87) rfl ?_
          refine wq_gR rfl h (fun v91 h => ?_)
          refine wq_gR rfl h (fun v94 h => ?_)
          refine wp_run 1 (pc' := 98) (lv' := [(0, .ref a0), (1, .int a1)]) (st' := [.ref a0, .ref v94]) (mem' := m87) rfl ?_
          refine wq_gR rfl h (fun v98 h => ?_)
          refine wq_gR rfl h (fun v101 h => ?_)
          refine wp_run 2 (pc' := 106) (lv' := [(0, .ref a0), (1, .int a1)]) (st' := [.int 0, .int a1, .ref v101, .ref v94]) (mem' := m87) rfl ?_
          obtain ⟨fk106, hk106, h⟩ := dRc_some h
          refine wq_cI rfl (kCall_v hk106 (as := [.int a1, .int 0]) (rest := [.ref v94]) ⟨by decide, rfl, (show 2 < 90 by decide), by decide⟩ (show 1 ≤ 8 by decide)) h (fun r hr => ca_up (by decide) (m_Table_get_ok xm N hr)) (fun v106 m106 h => ?_)
          obtain ⟨fk109, hk109, h⟩ := dRc_some h
          refine wq_cV rfl (kCall_v hk109 (as := [.int v106]) (rest := []) ⟨by decide, rfl, (show 1 < 90 by decide), by decide⟩ (show 0 ≤ 8 by decide)) h (fun r hr => ca_up (by decide) (m_Needle_put_ok xm N hr)) (fun m109 h => ?_)
          refine wp_run 1 (pc' := 113) (lv' := [(0, .ref a0), (1, .int a1)]) (st' := [.ref a0]) (mem' := m109) rfl ?_
          refine wq_gR rfl h (fun v113 h => ?_)
          refine wq_gR rfl h (fun v116 h => ?_)
          refine wp_run 2 (pc' := 121) (lv' := [(0, .ref a0), (1, .int a1)]) (st' := [.int 2, .int a1, .ref v116]) (mem' := m109) rfl ?_
          obtain ⟨fk121, hk121, h⟩ := dRc_some h
          refine wq_cI rfl (kCall_v hk121 (as := [.int a1, .int 2]) (rest := []) ⟨by decide, rfl, (show 2 < 90 by decide), by decide⟩ (show 0 ≤ 8 by decide)) h (fun r hr => ca_up (by decide) (m_Table_get_ok xm N hr)) (fun v121 m121 h => ?_)
          exact wq_ret rfl rfl h
        · exact wq_end rfl rfl h
    · exact wq_end rfl rfl h
/-- KnitsteadLaw.latch(LKnitstead;ILKnitsteadLaw$Out;)I -/
def m_law_latch (xm : Nat → Option kE) (N : Nat) (a0 : Nat) (a1 : Int32) (a2 : Nat) (mem : kM) : dRes :=
  dRc xm mem a0 11 <|
  dCX (m_K_latch xm N a0 a1 mem) (fun v3 m3 =>
    dP xm m3 a2 12 0 (.long (Int32.toInt64 v3)) fun m7 =>
    some (.inl (some (.int 0)), m7)
  ) (fun E m3 => match E with
    | 1 =>
      some (.inl (some (.int 2)), m3)
    | 2 =>
      some (.inl (some (.int 1)), m3)
    | _ => none)
theorem m_law_latch_ok (xm : Nat → Option kE) (N : Nat) {a0 : Nat} {a1 : Int32} {a2 : Nat} {mem : kM} {R : kO × kM} (h : m_law_latch xm N a0 a1 a2 mem = some R) : kCa xm kSm kDfl kFty kG 6 251 [.ref a0, .int a1, .ref a2] mem (dEq R) := by
  refine wq_ca (show 3 ≤ 4 by decide) ?_
  change kGo xm kSm kDfl kFty kG 5 251 0 [(0, .ref a0), (1, .int a1), (2, .ref a2)] [] mem (dEq R)
  unfold m_law_latch at h
  refine wp_run 3 (pc' := 3) (lv' := [(0, .ref a0), (1, .int a1), (2, .ref a2)]) (st' := [.int a1, .ref a0, .ref a2]) (mem' := mem) rfl ?_
  obtain ⟨fk3, hk3, h⟩ := dRc_some h
  refine wq_cX rfl (kCall_v hk3 (as := [.int a1]) (rest := [.ref a2]) ⟨by decide, rfl, (show 1 < 90 by decide), by decide⟩ (show 1 ≤ 8 by decide)) h (fun r hr => ca_up (by decide) (m_K_latch_ok xm N hr)) (fun v3 m3 h => ?_) (fun E m3 h => ?_)
  · refine wp_run 1 (pc' := 7) (lv' := [(0, .ref a0), (1, .int a1), (2, .ref a2)]) (st' := [.long (Int32.toInt64 v3), .ref a2]) (mem' := m3) rfl ?_
    refine wq_p rfl rfl h (fun m7 h => ?_)
    refine wp_run 2 (pc' := 20) (lv' := [(0, .ref a0), (1, .int a1), (2, .ref a2)]) (st' := [.int 0]) (mem' := m7) rfl ?_
    exact wq_ret rfl rfl h
  · match E, h with
    | 1, h =>
      refine ⟨17, 3, rfl, ?_⟩
      change kGo xm kSm kDfl kFty kG 5 251 17 [(0, .ref a0), (1, .int a1), (2, .ref a2)] [] m3 (dEq R)
      refine wp_run 1 (pc' := 18) (lv' := [(0, .ref a0), (1, .int a1), (2, .ref a2)]) (st' := [.int 2]) (mem' := m3) rfl ?_
      exact wq_ret rfl rfl h
    | 2, h =>
      refine ⟨14, 3, rfl, ?_⟩
      change kGo xm kSm kDfl kFty kG 5 251 14 [(0, .ref a0), (1, .int a1), (2, .ref a2)] [] m3 (dEq R)
      refine wp_run 1 (pc' := 15) (lv' := [(0, .ref a0), (1, .int a1), (2, .ref a2)]) (st' := [.int 1]) (mem' := m3) rfl ?_
      exact wq_ret rfl rfl h
    | 0, h => cases h
    | (k + 3), h => cases h
/-- Knitstead.hasZero(I)Z -/
def m_K_hasZero_4 (xm : Nat → Option kE) (N : Nat) : Nat → Int32 → Int32 → kM → dRes
  | 0, _, _, _ => none
  | n + 1, a1, a2, mem =>
    if a2 < 9 then (
      if 0 < a1 then (
        dNz 10 <|
        if (a1 - a1 / 10 * 10) = 0 then (
          some (.inl (some (.int 1)), mem)
        ) else (
          dNz 10 <|
          m_K_hasZero_4 xm N n (a1 / 10) (a2 + 1) mem
        )
      ) else (
        some (.inl (some (.int 0)), mem)
      )
    ) else (
      some (.inl (some (.int 0)), mem)
    )
theorem m_K_hasZero_4_ok (xm : Nat → Option kE) (N : Nat) : ∀ (n : Nat) (a1 : Int32) (a2 : Int32) (mem : kM) (R : kO × kM), m_K_hasZero_4 xm N n a1 a2 mem = some R → kGo xm kSm kDfl kFty kG 0 82 4 [(1, .int a1), (2, .int a2)] [] mem (dEq R) := by
  intro n
  induction n with
  | zero => intro a1 a2 mem R h; cases h
  | succ n ih =>
    intro a1 a2 mem R h
    rw [m_K_hasZero_4] at h
    refine wp_run 2 (pc' := 7) (lv' := [(1, .int a1), (2, .int a2)]) (st' := [.int 9, .int a2]) (mem' := mem) rfl ?_
    refine wq_ge2 rfl h (fun h => ?_) (fun h => ?_)
    · refine wp_run 1 (pc' := 11) (lv' := [(1, .int a1), (2, .int a2)]) (st' := [.int a1]) (mem' := mem) rfl ?_
      refine wq_le rfl h (fun h => ?_) (fun h => ?_)
      · refine wp_run 2 (pc' := 17) (lv' := [(1, .int a1), (2, .int a2)]) (st' := [.int 10, .int a1]) (mem' := mem) rfl ?_
        refine wq_irem rfl h (fun h => ?_)
        refine wq_ne rfl h (fun h => ?_) (fun h => ?_)
        · refine wp_run 1 (pc' := 22) (lv' := [(1, .int a1), (2, .int a2)]) (st' := [.int 1]) (mem' := mem) rfl ?_
          exact wq_ret rfl rfl h
        · refine wp_run 2 (pc' := 26) (lv' := [(1, .int a1), (2, .int a2)]) (st' := [.int 10, .int a1]) (mem' := mem) rfl ?_
          refine wq_idiv rfl h (fun h => ?_)
          refine wp_run 3 (pc' := 4) (lv' := [(2, .int (a2 + 1)), (1, .int (a1 / 10))]) (st' := []) (mem' := mem) rfl ?_
          refine kGo_sub (lvS_of [1, 0] rfl [2, 1] rfl (by decide)) ?_
          exact ih _ _ mem R h
      · refine wp_run 1 (pc' := 35) (lv' := [(1, .int a1), (2, .int a2)]) (st' := [.int 0]) (mem' := mem) rfl ?_
        exact wq_ret rfl rfl h
    · refine wp_run 1 (pc' := 35) (lv' := [(1, .int a1), (2, .int a2)]) (st' := [.int 0]) (mem' := mem) rfl ?_
      exact wq_ret rfl rfl h
def m_K_hasZero (xm : Nat → Option kE) (N : Nat) (a0 : Int32) (mem : kM) : dRes :=
  m_K_hasZero_4 xm N N a0 0 mem
theorem m_K_hasZero_ok (xm : Nat → Option kE) (N : Nat) {a0 : Int32} {mem : kM} {R : kO × kM} (h : m_K_hasZero xm N a0 mem = some R) : kCa xm kSm kDfl kFty kG 1 82 [.int a0] mem (dEq R) := by
  refine wq_ca (show 1 ≤ 3 by decide) ?_
  change kGo xm kSm kDfl kFty kG 0 82 0 [(0, .int a0)] [] mem (dEq R)
  unfold m_K_hasZero at h
  refine wp_run 4 (pc' := 4) (lv' := [(2, .int 0), (1, .int a0), (0, .int a0)]) (st' := []) (mem' := mem) rfl ?_
  refine kGo_sub (lvS_of [1, 0] rfl [2, 1, 0] rfl (by decide)) ?_
  exact m_K_hasZero_4_ok xm N N _ _ mem R h
/-- Knitstead.digitsIn(I)I -/
def m_K_digitsIn_6 (xm : Nat → Option kE) (N : Nat) : Nat → Int32 → Int32 → Int32 → kM → dRes
  | 0, _, _, _, _ => none
  | n + 1, a1, a2, a3, mem =>
    if a3 < 9 then (
      if 0 < a2 then (
        dNz 10 <|
        m_K_digitsIn_6 xm N n (a1 + 1) (a2 / 10) (a3 + 1) mem
      ) else (
        some (.inl (some (.int a1)), mem)
      )
    ) else (
      some (.inl (some (.int a1)), mem)
    )
theorem m_K_digitsIn_6_ok (xm : Nat → Option kE) (N : Nat) : ∀ (n : Nat) (a1 : Int32) (a2 : Int32) (a3 : Int32) (mem : kM) (R : kO × kM), m_K_digitsIn_6 xm N n a1 a2 a3 mem = some R → kGo xm kSm kDfl kFty kG 0 83 6 [(1, .int a1), (2, .int a2), (3, .int a3)] [] mem (dEq R) := by
  intro n
  induction n with
  | zero => intro a1 a2 a3 mem R h; cases h
  | succ n ih =>
    intro a1 a2 a3 mem R h
    rw [m_K_digitsIn_6] at h
    refine wp_run 2 (pc' := 9) (lv' := [(1, .int a1), (2, .int a2), (3, .int a3)]) (st' := [.int 9, .int a3]) (mem' := mem) rfl ?_
    refine wq_ge2 rfl h (fun h => ?_) (fun h => ?_)
    · refine wp_run 1 (pc' := 13) (lv' := [(1, .int a1), (2, .int a2), (3, .int a3)]) (st' := [.int a2]) (mem' := mem) rfl ?_
      refine wq_le rfl h (fun h => ?_) (fun h => ?_)
      · refine wp_run 3 (pc' := 22) (lv' := [(1, .int (a1 + 1)), (2, .int a2), (3, .int a3)]) (st' := [.int 10, .int a2]) (mem' := mem) rfl ?_
        refine wq_idiv rfl h (fun h => ?_)
        refine wp_run 3 (pc' := 6) (lv' := [(3, .int (a3 + 1)), (2, .int (a2 / 10)), (1, .int (a1 + 1))]) (st' := []) (mem' := mem) rfl ?_
        refine kGo_sub (lvS_of [2, 1, 0] rfl [3, 2, 1] rfl (by decide)) ?_
        exact ih _ _ _ mem R h
      · refine wp_run 1 (pc' := 31) (lv' := [(1, .int a1), (2, .int a2), (3, .int a3)]) (st' := [.int a1]) (mem' := mem) rfl ?_
        exact wq_ret rfl rfl h
    · refine wp_run 1 (pc' := 31) (lv' := [(1, .int a1), (2, .int a2), (3, .int a3)]) (st' := [.int a1]) (mem' := mem) rfl ?_
      exact wq_ret rfl rfl h
def m_K_digitsIn (xm : Nat → Option kE) (N : Nat) (a0 : Int32) (mem : kM) : dRes :=
  m_K_digitsIn_6 xm N N 0 a0 0 mem
theorem m_K_digitsIn_ok (xm : Nat → Option kE) (N : Nat) {a0 : Int32} {mem : kM} {R : kO × kM} (h : m_K_digitsIn xm N a0 mem = some R) : kCa xm kSm kDfl kFty kG 1 83 [.int a0] mem (dEq R) := by
  refine wq_ca (show 1 ≤ 4 by decide) ?_
  change kGo xm kSm kDfl kFty kG 0 83 0 [(0, .int a0)] [] mem (dEq R)
  unfold m_K_digitsIn at h
  refine wp_run 6 (pc' := 6) (lv' := [(3, .int 0), (2, .int a0), (1, .int 0), (0, .int a0)]) (st' := []) (mem' := mem) rfl ?_
  refine kGo_sub (lvS_of [2, 1, 0] rfl [3, 2, 1, 0] rfl (by decide)) ?_
  exact m_K_digitsIn_6_ok xm N N _ _ _ mem R h
/-- Knitstead.tellPattern(II)V -/
def m_K_tellPattern_22 (xm : Nat → Option kE) (N : Nat) : Nat → Nat → Int32 → Int32 → Int32 → Int32 → Int32 → Int32 → Int32 → Int32 → kM → dRes
  | 0, _, _, _, _, _, _, _, _, _, _ => none
  | n + 1, a0, a1, a2, a3, a4, a5, a6, a7, a8, mem =>
    if a8 < 0 then (
      dGR xm mem a0 11 3 fun v99 =>
      dRc xm mem v99 8 <|
      dCV (m_Table_set xm N v99 a1 0 a2 mem) fun m105 =>
      dGR xm m105 a0 11 3 fun v109 =>
      dRc xm m105 v109 8 <|
      dCV (m_Table_set xm N v109 a1 1 a3 m105) fun m115 =>
      dGR xm m115 a0 11 3 fun v119 =>
      dRc xm m115 v119 8 <|
      dCV (m_Table_set xm N v119 a1 2 a4 m115) fun m126 =>
      dGR xm m126 a0 11 3 fun v130 =>
      dRc xm m126 v130 8 <|
      dCV (m_Table_set xm N v130 a1 3 a5 m126) fun m137 =>
      dGR xm m137 a0 11 3 fun v141 =>
      dRc xm m137 v141 8 <|
      dCV (m_Table_set xm N v141 a1 4 a6 m137) fun m148 =>
      some (.inl none, m148)
    ) else (
      dNz 10 <|
      dNz 10 <|
      dGR xm mem a0 11 4 fun v42 =>
      dRc xm mem v42 8 <|
      dCV (m_Table_set xm N v42 a1 a8 (a7 - a7 / 10 * 10) mem) fun m50 =>
      dCI (m_K_stepFact xm N 3 (a7 - a7 / 10 * 10) m50) fun v60 m60 =>
      dCI (m_K_stepFact xm N 5 (a7 - a7 / 10 * 10) m60) fun v73 m73 =>
      dCI (m_K_stepFact xm N 4 (a7 - a7 / 10 * 10) m73) fun v86 m86 =>
      m_K_tellPattern_22 xm N n a0 a1 a2 a3 (a4 + v60) (a5 + v73) (a6 + v86) (a7 / 10) (a8 + (-1)) m86
    )
theorem m_K_tellPattern_22_ok (xm : Nat → Option kE) (N : Nat) : ∀ (n : Nat) (a0 : Nat) (a1 : Int32) (a2 : Int32) (a3 : Int32) (a4 : Int32) (a5 : Int32) (a6 : Int32) (a7 : Int32) (a8 : Int32) (mem : kM) (R : kO × kM), m_K_tellPattern_22 xm N n a0 a1 a2 a3 a4 a5 a6 a7 a8 mem = some R → kGo xm kSm kDfl kFty kG 4 84 22 [(0, .ref a0), (1, .int a1), (2, .int a2), (3, .int a3), (4, .int a4), (5, .int a5), (6, .int a6), (7, .int a7), (8, .int a8)] [] mem (dEq R) := by
  intro n
  induction n with
  | zero => intro a0 a1 a2 a3 a4 a5 a6 a7 a8 mem R h; cases h
  | succ n ih =>
    intro a0 a1 a2 a3 a4 a5 a6 a7 a8 mem R h
    rw [m_K_tellPattern_22] at h
    refine wp_run 1 (pc' := 24) (lv' := [(0, .ref a0), (1, .int a1), (2, .int a2), (3, .int a3), (4, .int a4), (5, .int a5), (6, .int a6), (7, .int a7), (8, .int a8)]) (st' := [.int a8]) (mem' := mem) rfl ?_
    refine wq_lt rfl h (fun h => ?_) (fun h => ?_)
    · refine wp_run 1 (pc' := 99) (lv' := [(0, .ref a0), (1, .int a1), (2, .int a2), (3, .int a3), (4, .int a4), (5, .int a5), (6, .int a6), (7, .int a7), (8, .int a8)]) (st' := [.ref a0]) (mem' := mem) rfl ?_
      refine wq_gR rfl h (fun v99 h => ?_)
      refine wp_run 3 (pc' := 105) (lv' := [(0, .ref a0), (1, .int a1), (2, .int a2), (3, .int a3), (4, .int a4), (5, .int a5), (6, .int a6), (7, .int a7), (8, .int a8)]) (st' := [.int a2, .int 0, .int a1, .ref v99]) (mem' := mem) rfl ?_
      obtain ⟨fk105, hk105, h⟩ := dRc_some h
      refine wq_cV rfl (kCall_v hk105 (as := [.int a1, .int 0, .int a2]) (rest := []) ⟨by decide, rfl, (show 3 < 90 by decide), by decide⟩ (show 0 ≤ 8 by decide)) h (fun r hr => ca_up (by decide) (m_Table_set_ok xm N hr)) (fun m105 h => ?_)
      refine wp_run 1 (pc' := 109) (lv' := [(0, .ref a0), (1, .int a1), (2, .int a2), (3, .int a3), (4, .int a4), (5, .int a5), (6, .int a6), (7, .int a7), (8, .int a8)]) (st' := [.ref a0]) (mem' := m105) rfl ?_
      refine wq_gR rfl h (fun v109 h => ?_)
      refine wp_run 3 (pc' := 115) (lv' := [(0, .ref a0), (1, .int a1), (2, .int a2), (3, .int a3), (4, .int a4), (5, .int a5), (6, .int a6), (7, .int a7), (8, .int a8)]) (st' := [.int a3, .int 1, .int a1, .ref v109]) (mem' := m105) rfl ?_
      obtain ⟨fk115, hk115, h⟩ := dRc_some h
      refine wq_cV rfl (kCall_v hk115 (as := [.int a1, .int 1, .int a3]) (rest := []) ⟨by decide, rfl, (show 3 < 90 by decide), by decide⟩ (show 0 ≤ 8 by decide)) h (fun r hr => ca_up (by decide) (m_Table_set_ok xm N hr)) (fun m115 h => ?_)
      refine wp_run 1 (pc' := 119) (lv' := [(0, .ref a0), (1, .int a1), (2, .int a2), (3, .int a3), (4, .int a4), (5, .int a5), (6, .int a6), (7, .int a7), (8, .int a8)]) (st' := [.ref a0]) (mem' := m115) rfl ?_
      refine wq_gR rfl h (fun v119 h => ?_)
      refine wp_run 3 (pc' := 126) (lv' := [(0, .ref a0), (1, .int a1), (2, .int a2), (3, .int a3), (4, .int a4), (5, .int a5), (6, .int a6), (7, .int a7), (8, .int a8)]) (st' := [.int a4, .int 2, .int a1, .ref v119]) (mem' := m115) rfl ?_
      obtain ⟨fk126, hk126, h⟩ := dRc_some h
      refine wq_cV rfl (kCall_v hk126 (as := [.int a1, .int 2, .int a4]) (rest := []) ⟨by decide, rfl, (show 3 < 90 by decide), by decide⟩ (show 0 ≤ 8 by decide)) h (fun r hr => ca_up (by decide) (m_Table_set_ok xm N hr)) (fun m126 h => ?_)
      refine wp_run 1 (pc' := 130) (lv' := [(0, .ref a0), (1, .int a1), (2, .int a2), (3, .int a3), (4, .int a4), (5, .int a5), (6, .int a6), (7, .int a7), (8, .int a8)]) (st' := [.ref a0]) (mem' := m126) rfl ?_
      refine wq_gR rfl h (fun v130 h => ?_)
      refine wp_run 3 (pc' := 137) (lv' := [(0, .ref a0), (1, .int a1), (2, .int a2), (3, .int a3), (4, .int a4), (5, .int a5), (6, .int a6), (7, .int a7), (8, .int a8)]) (st' := [.int a5, .int 3, .int a1, .ref v130]) (mem' := m126) rfl ?_
      obtain ⟨fk137, hk137, h⟩ := dRc_some h
      refine wq_cV rfl (kCall_v hk137 (as := [.int a1, .int 3, .int a5]) (rest := []) ⟨by decide, rfl, (show 3 < 90 by decide), by decide⟩ (show 0 ≤ 8 by decide)) h (fun r hr => ca_up (by decide) (m_Table_set_ok xm N hr)) (fun m137 h => ?_)
      refine wp_run 1 (pc' := 141) (lv' := [(0, .ref a0), (1, .int a1), (2, .int a2), (3, .int a3), (4, .int a4), (5, .int a5), (6, .int a6), (7, .int a7), (8, .int a8)]) (st' := [.ref a0]) (mem' := m137) rfl ?_
      refine wq_gR rfl h (fun v141 h => ?_)
      refine wp_run 3 (pc' := 148) (lv' := [(0, .ref a0), (1, .int a1), (2, .int a2), (3, .int a3), (4, .int a4), (5, .int a5), (6, .int a6), (7, .int a7), (8, .int a8)]) (st' := [.int a6, .int 4, .int a1, .ref v141]) (mem' := m137) rfl ?_
      obtain ⟨fk148, hk148, h⟩ := dRc_some h
      refine wq_cV rfl (kCall_v hk148 (as := [.int a1, .int 4, .int a6]) (rest := []) ⟨by decide, rfl, (show 3 < 90 by decide), by decide⟩ (show 0 ≤ 8 by decide)) h (fun r hr => ca_up (by decide) (m_Table_set_ok xm N hr)) (fun m148 h => ?_)
      exact wq_end rfl rfl h
    · refine wp_run 2 (pc' := 31) (lv' := [(0, .ref a0), (1, .int a1), (2, .int a2), (3, .int a3), (4, .int a4), (5, .int a5), (6, .int a6), (7, .int a7), (8, .int a8)]) (st' := [.int 10, .int a7]) (mem' := mem) rfl ?_
      refine wq_irem rfl h (fun h => ?_)
      refine wp_run 3 (pc' := 38) (lv' := [(9, .int (a7 - a7 / 10 * 10)), (0, .ref a0), (1, .int a1), (2, .int a2), (3, .int a3), (4, .int a4), (5, .int a5), (6, .int a6), (7, .int a7), (8, .int a8)]) (st' := [.int 10, .int a7]) (mem' := mem) rfl ?_
      refine wq_idiv rfl h (fun h => ?_)
      refine wp_run 2 (pc' := 42) (lv' := [(7, .int (a7 / 10)), (9, .int (a7 - a7 / 10 * 10)), (0, .ref a0), (1, .int a1), (2, .int a2), (3, .int a3), (4, .int a4), (5, .int a5), (6, .int a6), (8, .int a8)]) (st' := [.ref a0]) (mem' := mem) rfl ?_
      refine wq_gR rfl h (fun v42 h => ?_)
      refine wp_run 3 (pc' := 50) (lv' := [(7, .int (a7 / 10)), (9, .int (a7 - a7 / 10 * 10)), (0, .ref a0), (1, .int a1), (2, .int a2), (3, .int a3), (4, .int a4), (5, .int a5), (6, .int a6), (8, .int a8)]) (st' := [.int (a7 - a7 / 10 * 10), .int a8, .int a1, .ref v42]) (mem' := mem) rfl ?_
      obtain ⟨fk50, hk50, h⟩ := dRc_some h
      refine wq_cV rfl (kCall_v hk50 (as := [.int a1, .int a8, .int (a7 - a7 / 10 * 10)]) (rest := []) ⟨by decide, rfl, (show 3 < 90 by decide), by decide⟩ (show 0 ≤ 8 by decide)) h (fun r hr => ca_up (by decide) (m_Table_set_ok xm N hr)) (fun m50 h => ?_)
      refine wp_run 3 (pc' := 60) (lv' := [(7, .int (a7 / 10)), (9, .int (a7 - a7 / 10 * 10)), (0, .ref a0), (1, .int a1), (2, .int a2), (3, .int a3), (4, .int a4), (5, .int a5), (6, .int a6), (8, .int a8)]) (st' := [.int (a7 - a7 / 10 * 10), .ref 3, .int a4]) (mem' := m50) rfl ?_
      refine wq_cI rfl (kCall_s (as := [.ref 3, .int (a7 - a7 / 10 * 10)]) (rest := [.int a4]) ⟨by decide, rfl⟩ (show 1 ≤ 8 by decide) (by decide)) h (fun r hr => ca_up (by decide) (m_K_stepFact_ok xm N hr)) (fun v60 m60 h => ?_)
      refine wp_run 5 (pc' := 73) (lv' := [(4, .int (a4 + v60)), (7, .int (a7 / 10)), (9, .int (a7 - a7 / 10 * 10)), (0, .ref a0), (1, .int a1), (2, .int a2), (3, .int a3), (5, .int a5), (6, .int a6), (8, .int a8)]) (st' := [.int (a7 - a7 / 10 * 10), .ref 5, .int a5]) (mem' := m60) rfl ?_
      refine wq_cI rfl (kCall_s (as := [.ref 5, .int (a7 - a7 / 10 * 10)]) (rest := [.int a5]) ⟨by decide, rfl⟩ (show 1 ≤ 8 by decide) (by decide)) h (fun r hr => ca_up (by decide) (m_K_stepFact_ok xm N hr)) (fun v73 m73 h => ?_)
      refine wp_run 5 (pc' := 86) (lv' := [(5, .int (a5 + v73)), (4, .int (a4 + v60)), (7, .int (a7 / 10)), (9, .int (a7 - a7 / 10 * 10)), (0, .ref a0), (1, .int a1), (2, .int a2), (3, .int a3), (6, .int a6), (8, .int a8)]) (st' := [.int (a7 - a7 / 10 * 10), .ref 4, .int a6]) (mem' := m73) rfl ?_
      refine wq_cI rfl (kCall_s (as := [.ref 4, .int (a7 - a7 / 10 * 10)]) (rest := [.int a6]) ⟨by decide, rfl⟩ (show 1 ≤ 8 by decide) (by decide)) h (fun r hr => ca_up (by decide) (m_K_stepFact_ok xm N hr)) (fun v86 m86 h => ?_)
      refine wp_run 4 (pc' := 22) (lv' := [(8, .int (a8 + (-1))), (6, .int (a6 + v86)), (5, .int (a5 + v73)), (4, .int (a4 + v60)), (7, .int (a7 / 10)), (9, .int (a7 - a7 / 10 * 10)), (0, .ref a0), (1, .int a1), (2, .int a2), (3, .int a3)]) (st' := []) (mem' := m86) rfl ?_
      refine kGo_sub (lvS_of [6, 7, 8, 9, 3, 2, 1, 4, 0] rfl [8, 6, 5, 4, 7, 9, 0, 1, 2, 3] rfl (by decide)) ?_
      exact ih _ _ _ _ _ _ _ _ _ m86 R h
def m_K_tellPattern (xm : Nat → Option kE) (N : Nat) (a0 : Nat) (a1 : Int32) (a2 : Int32) (mem : kM) : dRes :=
  dCI (m_K_digitsIn xm N a2 mem) fun v1 m1 =>
  m_K_tellPattern_22 xm N N a0 a1 a2 v1 0 0 0 a2 (v1 - 1) m1
theorem m_K_tellPattern_ok (xm : Nat → Option kE) (N : Nat) {a0 : Nat} {a1 : Int32} {a2 : Int32} {mem : kM} {R : kO × kM} (h : m_K_tellPattern xm N a0 a1 a2 mem = some R) : kCa xm kSm kDfl kFty kG 5 84 [.ref a0, .int a1, .int a2] mem (dEq R) := by
  refine wq_ca (show 3 ≤ 10 by decide) ?_
  change kGo xm kSm kDfl kFty kG 4 84 0 [(0, .ref a0), (1, .int a1), (2, .int a2)] [] mem (dEq R)
  unfold m_K_tellPattern at h
  refine wp_run 1 (pc' := 1) (lv' := [(0, .ref a0), (1, .int a1), (2, .int a2)]) (st' := [.int a2]) (mem' := mem) rfl ?_
  refine wq_cI rfl (kCall_s (as := [.int a2]) (rest := []) ⟨by decide, rfl⟩ (show 0 ≤ 8 by decide) (by decide)) h (fun r hr => ca_up (by decide) (m_K_digitsIn_ok xm N hr)) (fun v1 m1 h => ?_)
  refine wp_run 12 (pc' := 20) (lv' := [(7, .int a2), (6, .int 0), (5, .int 0), (4, .int 0), (3, .int v1), (0, .ref a0), (1, .int a1), (2, .int a2)]) (st' := [.int (v1 - 1)]) (mem' := m1) rfl ?_
  refine wp_run 1 (pc' := 22) (lv' := [(8, .int (v1 - 1)), (7, .int a2), (6, .int 0), (5, .int 0), (4, .int 0), (3, .int v1), (0, .ref a0), (1, .int a1), (2, .int a2)]) (st' := []) (mem' := m1) rfl ?_
  refine kGo_sub (lvS_of [6, 7, 8, 5, 4, 3, 2, 1, 0] rfl [8, 7, 6, 5, 4, 3, 0, 1, 2] rfl (by decide)) ?_
  exact m_K_tellPattern_22_ok xm N N _ _ _ _ _ _ _ _ _ m1 R h
/-- Knitstead.pattern(I)I -/
def m_K_pattern (xm : Nat → Option kE) (N : Nat) (a0 : Nat) (a1 : Int32) (mem : kM) : dRes :=
  if a1 < 1 then (
    some (.inr 0, mem ++ [.inl (1000, [.null, .null, .null, .null, .null, .null])])
  ) else (
    if 999999999 < a1 then (
      some (.inr 0, mem ++ [.inl (1000, [.null, .null, .null, .null, .null, .null])])
    ) else (
      dCI (m_K_hasZero xm N a1 mem) fun v12 m12 =>
      if v12 = 0 then (
        dGI xm m12 a0 11 7 fun v29 =>
        if v29 < 6 then (
          dGI xm m12 a0 11 7 fun v48 =>
          dGI xm m12 a0 11 7 fun v54 =>
          dP xm m12 a0 11 7 (.int (v54 + 1)) fun m59 =>
          dRc xm m59 a0 11 <|
          dCV (m_K_tellPattern xm N a0 v48 a1 m59) fun m65 =>
          some (.inl (some (.int v48)), m65)
        ) else (
          some (.inr 1, m12 ++ [.inl (1000, [.null, .null, .null, .null, .null, .null])])
        )
      ) else (
        some (.inr 0, m12 ++ [.inl (1000, [.null, .null, .null, .null, .null, .null])])
      )
    )
  )
theorem m_K_pattern_ok (xm : Nat → Option kE) (N : Nat) {a0 : Nat} {a1 : Int32} {mem : kM} {R : kO × kM} (h : m_K_pattern xm N a0 a1 mem = some R) : kCa xm kSm kDfl kFty kG 6 52 [.ref a0, .int a1] mem (dEq R) := by
  refine wq_ca (show 2 ≤ 3 by decide) ?_
  change kGo xm kSm kDfl kFty kG 5 52 0 [(0, .ref a0), (1, .int a1)] [] mem (dEq R)
  unfold m_K_pattern at h
  refine wp_run 2 (pc' := 2) (lv' := [(0, .ref a0), (1, .int a1)]) (st' := [.int 1, .int a1]) (mem' := mem) rfl ?_
  refine wq_lt2 rfl h (fun h => ?_) (fun h => ?_)
  · exact wq_end rfl rfl h
  · refine wp_run 2 (pc' := 8) (lv' := [(0, .ref a0), (1, .int a1)]) (st' := [.int 999999999, .int a1]) (mem' := mem) rfl ?_
    refine wq_gt2 rfl h (fun h => ?_) (fun h => ?_)
    · exact wq_end rfl rfl h
    · refine wp_run 1 (pc' := 12) (lv' := [(0, .ref a0), (1, .int a1)]) (st' := [.int a1]) (mem' := mem) rfl ?_
      refine wq_cI rfl (kCall_s (as := [.int a1]) (rest := []) ⟨by decide, rfl⟩ (show 0 ≤ 8 by decide) (by decide)) h (fun r hr => ca_up (by decide) (m_K_hasZero_ok xm N hr)) (fun v12 m12 h => ?_)
      refine wq_eq rfl h (fun h => ?_) (fun h => ?_)
      · refine wp_run 1 (pc' := 29) (lv' := [(0, .ref a0), (1, .int a1)]) (st' := [.ref a0]) (mem' := m12) rfl ?_
        refine wq_gI rfl h (fun v29 h => ?_)
        refine wp_run 1 (pc' := 34) (lv' := [(0, .ref a0), (1, .int a1)]) (st' := [.int 6, .int v29]) (mem' := m12) rfl ?_
        refine wq_lt2 rfl h (fun h => ?_) (fun h => ?_)
        · refine wp_run 1 (pc' := 48) (lv' := [(0, .ref a0), (1, .int a1)]) (st' := [.ref a0]) (mem' := m12) rfl ?_
          refine wq_gI rfl h (fun v48 h => ?_)
          refine wp_run 3 (pc' := 54) (lv' := [(2, .int v48), (0, .ref a0), (1, .int a1)]) (st' := [.ref a0, .ref a0]) (mem' := m12) rfl ?_
          refine wq_gI rfl h (fun v54 h => ?_)
          refine wp_run 2 (pc' := 59) (lv' := [(2, .int v48), (0, .ref a0), (1, .int a1)]) (st' := [.int (v54 + 1), .ref a0]) (mem' := m12) rfl ?_
          refine wq_p rfl rfl h (fun m59 h => ?_)
          refine wp_run 3 (pc' := 65) (lv' := [(2, .int v48), (0, .ref a0), (1, .int a1)]) (st' := [.int a1, .int v48, .ref a0]) (mem' := m59) rfl ?_
          obtain ⟨fk65, hk65, h⟩ := dRc_some h
          refine wq_cV rfl (kCall_v hk65 (as := [.int v48, .int a1]) (rest := []) ⟨by decide, rfl, (show 2 < 90 by decide), by decide⟩ (show 0 ≤ 8 by decide)) h (fun r hr => ca_up (by decide) (m_K_tellPattern_ok xm N hr)) (fun m65 h => ?_)
          refine wp_run 1 (pc' := 69) (lv' := [(2, .int v48), (0, .ref a0), (1, .int a1)]) (st' := [.int v48]) (mem' := m65) rfl ?_
          exact wq_ret rfl rfl h
        · exact wq_end rfl rfl h
      · exact wq_end rfl rfl h
/-- KnitsteadLaw.pattern(LKnitstead;ILKnitsteadLaw$Out;)I -/
def m_law_pattern (xm : Nat → Option kE) (N : Nat) (a0 : Nat) (a1 : Int32) (a2 : Nat) (mem : kM) : dRes :=
  dRc xm mem a0 11 <|
  dCX (m_K_pattern xm N a0 a1 mem) (fun v3 m3 =>
    dP xm m3 a2 12 0 (.long (Int32.toInt64 v3)) fun m7 =>
    some (.inl (some (.int 0)), m7)
  ) (fun E m3 => match E with
    | 0 =>
      some (.inl (some (.int 1)), m3)
    | 1 =>
      some (.inl (some (.int 2)), m3)
    | _ => none)
theorem m_law_pattern_ok (xm : Nat → Option kE) (N : Nat) {a0 : Nat} {a1 : Int32} {a2 : Nat} {mem : kM} {R : kO × kM} (h : m_law_pattern xm N a0 a1 a2 mem = some R) : kCa xm kSm kDfl kFty kG 7 252 [.ref a0, .int a1, .ref a2] mem (dEq R) := by
  refine wq_ca (show 3 ≤ 4 by decide) ?_
  change kGo xm kSm kDfl kFty kG 6 252 0 [(0, .ref a0), (1, .int a1), (2, .ref a2)] [] mem (dEq R)
  unfold m_law_pattern at h
  refine wp_run 3 (pc' := 3) (lv' := [(0, .ref a0), (1, .int a1), (2, .ref a2)]) (st' := [.int a1, .ref a0, .ref a2]) (mem' := mem) rfl ?_
  obtain ⟨fk3, hk3, h⟩ := dRc_some h
  refine wq_cX rfl (kCall_v hk3 (as := [.int a1]) (rest := [.ref a2]) ⟨by decide, rfl, (show 1 < 90 by decide), by decide⟩ (show 1 ≤ 8 by decide)) h (fun r hr => ca_up (by decide) (m_K_pattern_ok xm N hr)) (fun v3 m3 h => ?_) (fun E m3 h => ?_)
  · refine wp_run 1 (pc' := 7) (lv' := [(0, .ref a0), (1, .int a1), (2, .ref a2)]) (st' := [.long (Int32.toInt64 v3), .ref a2]) (mem' := m3) rfl ?_
    refine wq_p rfl rfl h (fun m7 h => ?_)
    refine wp_run 2 (pc' := 20) (lv' := [(0, .ref a0), (1, .int a1), (2, .ref a2)]) (st' := [.int 0]) (mem' := m7) rfl ?_
    exact wq_ret rfl rfl h
  · match E, h with
    | 0, h =>
      refine ⟨14, 3, rfl, ?_⟩
      change kGo xm kSm kDfl kFty kG 6 252 14 [(0, .ref a0), (1, .int a1), (2, .ref a2)] [] m3 (dEq R)
      refine wp_run 1 (pc' := 15) (lv' := [(0, .ref a0), (1, .int a1), (2, .ref a2)]) (st' := [.int 1]) (mem' := m3) rfl ?_
      exact wq_ret rfl rfl h
    | 1, h =>
      refine ⟨17, 3, rfl, ?_⟩
      change kGo xm kSm kDfl kFty kG 6 252 17 [(0, .ref a0), (1, .int a1), (2, .ref a2)] [] m3 (dEq R)
      refine wp_run 1 (pc' := 18) (lv' := [(0, .ref a0), (1, .int a1), (2, .ref a2)]) (st' := [.int 2]) (mem' := m3) rfl ?_
      exact wq_ret rfl rfl h
    | 2, h => cases h
    | (k + 3), h => cases h
/-- Knitstead.doStep(I)V -/
def m_K_doStep (xm : Nat → Option kE) (N : Nat) (a0 : Nat) (a1 : Int32) (mem : kM) : dRes :=
  dSw a1 1 9 (
    some (.inl none, mem)
  ) [
  (
    dRc xm mem a0 11 <|
    dCI (m_K_workNext xm N a0 1 mem) fun v54 m54 =>
    some (.inl none, m54)
  ),
  (
    dRc xm mem a0 11 <|
    dCI (m_K_workNext xm N a0 2 mem) fun v63 m63 =>
    some (.inl none, m63)
  ),
  (
    dRc xm mem a0 11 <|
    dCI (m_K_makeOver xm N a0 mem) fun v71 m71 =>
    some (.inl none, m71)
  ),
  (
    dRc xm mem a0 11 <|
    dCI (m_K_takeTogether xm N a0 2 4 mem) fun v81 m81 =>
    some (.inl none, m81)
  ),
  (
    dRc xm mem a0 11 <|
    dCI (m_K_takeTogether xm N a0 2 5 mem) fun v91 m91 =>
    some (.inl none, m91)
  ),
  (
    dRc xm mem a0 11 <|
    dCI (m_K_slipNext xm N a0 mem) fun v99 m99 =>
    some (.inl none, m99)
  ),
  (
    dRc xm mem a0 11 <|
    dCI (m_K_crossNext xm N a0 1 1 mem) fun v109 m109 =>
    some (.inl none, m109)
  ),
  (
    dRc xm mem a0 11 <|
    dCI (m_K_takeTogether xm N a0 3 4 mem) fun v119 m119 =>
    some (.inl none, m119)
  ),
  (
    dRc xm mem a0 11 <|
    dCI (m_K_workNext xm N a0 1 mem) fun v128 m128 =>
    dRc xm m128 a0 11 <|
    dCI (m_K_makeOver xm N a0 m128) fun v133 m133 =>
    dRc xm m133 a0 11 <|
    dCI (m_K_workNext xm N a0 1 m133) fun v139 m139 =>
    some (.inl none, m139)
  )
  ]
theorem m_K_doStep_ok (xm : Nat → Option kE) (N : Nat) {a0 : Nat} {a1 : Int32} {mem : kM} {R : kO × kM} (h : m_K_doStep xm N a0 a1 mem = some R) : kCa xm kSm kDfl kFty kG 8 80 [.ref a0, .int a1] mem (dEq R) := by
  refine wq_ca (show 2 ≤ 2 by decide) ?_
  change kGo xm kSm kDfl kFty kG 7 80 0 [(0, .ref a0), (1, .int a1)] [] mem (dEq R)
  unfold m_K_doStep at h
  refine wp_run 1 (pc' := 1) (lv' := [(0, .ref a0), (1, .int a1)]) (st' := [.int a1]) (mem' := mem) rfl ?_
  refine wq_sw rfl h rfl (fun h => ?_) (And.intro (fun h => ?_) (And.intro (fun h => ?_) (And.intro (fun h => ?_) (And.intro (fun h => ?_) (And.intro (fun h => ?_) (And.intro (fun h => ?_) (And.intro (fun h => ?_) (And.intro (fun h => ?_) (And.intro (fun h => ?_) (True.intro))))))))))
  · change kGo xm kSm kDfl kFty kG 7 80 146 [(0, .ref a0), (1, .int a1)] [] mem (dEq R)
    exact wq_end rfl rfl h
  · change kGo xm kSm kDfl kFty kG 7 80 52 [(0, .ref a0), (1, .int a1)] [] mem (dEq R)
    refine wp_run 2 (pc' := 54) (lv' := [(0, .ref a0), (1, .int a1)]) (st' := [.int 1, .ref a0]) (mem' := mem) rfl ?_
    obtain ⟨fk54, hk54, h⟩ := dRc_some h
    refine wq_cI rfl (kCall_v hk54 (as := [.int 1]) (rest := []) ⟨by decide, rfl, (show 1 < 90 by decide), by decide⟩ (show 0 ≤ 8 by decide)) h (fun r hr => ca_up (by decide) (m_K_workNext_ok xm N hr)) (fun v54 m54 h => ?_)
    refine wp_run 2 (pc' := 146) (lv' := [(0, .ref a0), (1, .int a1)]) (st' := []) (mem' := m54) rfl ?_
    exact wq_end rfl rfl h
  · change kGo xm kSm kDfl kFty kG 7 80 61 [(0, .ref a0), (1, .int a1)] [] mem (dEq R)
    refine wp_run 2 (pc' := 63) (lv' := [(0, .ref a0), (1, .int a1)]) (st' := [.int 2, .ref a0]) (mem' := mem) rfl ?_
    obtain ⟨fk63, hk63, h⟩ := dRc_some h
    refine wq_cI rfl (kCall_v hk63 (as := [.int 2]) (rest := []) ⟨by decide, rfl, (show 1 < 90 by decide), by decide⟩ (show 0 ≤ 8 by decide)) h (fun r hr => ca_up (by decide) (m_K_workNext_ok xm N hr)) (fun v63 m63 h => ?_)
    refine wp_run 2 (pc' := 146) (lv' := [(0, .ref a0), (1, .int a1)]) (st' := []) (mem' := m63) rfl ?_
    exact wq_end rfl rfl h
  · change kGo xm kSm kDfl kFty kG 7 80 70 [(0, .ref a0), (1, .int a1)] [] mem (dEq R)
    refine wp_run 1 (pc' := 71) (lv' := [(0, .ref a0), (1, .int a1)]) (st' := [.ref a0]) (mem' := mem) rfl ?_
    obtain ⟨fk71, hk71, h⟩ := dRc_some h
    refine wq_cI rfl (kCall_v hk71 (as := []) (rest := []) ⟨by decide, rfl, (show 0 < 90 by decide), by decide⟩ (show 0 ≤ 8 by decide)) h (fun r hr => ca_up (by decide) (m_K_makeOver_ok xm N hr)) (fun v71 m71 h => ?_)
    refine wp_run 2 (pc' := 146) (lv' := [(0, .ref a0), (1, .int a1)]) (st' := []) (mem' := m71) rfl ?_
    exact wq_end rfl rfl h
  · change kGo xm kSm kDfl kFty kG 7 80 78 [(0, .ref a0), (1, .int a1)] [] mem (dEq R)
    refine wp_run 3 (pc' := 81) (lv' := [(0, .ref a0), (1, .int a1)]) (st' := [.int 4, .int 2, .ref a0]) (mem' := mem) rfl ?_
    obtain ⟨fk81, hk81, h⟩ := dRc_some h
    refine wq_cI rfl (kCall_v hk81 (as := [.int 2, .int 4]) (rest := []) ⟨by decide, rfl, (show 2 < 90 by decide), by decide⟩ (show 0 ≤ 8 by decide)) h (fun r hr => ca_up (by decide) (m_K_takeTogether_ok xm N hr)) (fun v81 m81 h => ?_)
    refine wp_run 2 (pc' := 146) (lv' := [(0, .ref a0), (1, .int a1)]) (st' := []) (mem' := m81) rfl ?_
    exact wq_end rfl rfl h
  · change kGo xm kSm kDfl kFty kG 7 80 88 [(0, .ref a0), (1, .int a1)] [] mem (dEq R)
    refine wp_run 3 (pc' := 91) (lv' := [(0, .ref a0), (1, .int a1)]) (st' := [.int 5, .int 2, .ref a0]) (mem' := mem) rfl ?_
    obtain ⟨fk91, hk91, h⟩ := dRc_some h
    refine wq_cI rfl (kCall_v hk91 (as := [.int 2, .int 5]) (rest := []) ⟨by decide, rfl, (show 2 < 90 by decide), by decide⟩ (show 0 ≤ 8 by decide)) h (fun r hr => ca_up (by decide) (m_K_takeTogether_ok xm N hr)) (fun v91 m91 h => ?_)
    refine wp_run 2 (pc' := 146) (lv' := [(0, .ref a0), (1, .int a1)]) (st' := []) (mem' := m91) rfl ?_
    exact wq_end rfl rfl h
  · change kGo xm kSm kDfl kFty kG 7 80 98 [(0, .ref a0), (1, .int a1)] [] mem (dEq R)
    refine wp_run 1 (pc' := 99) (lv' := [(0, .ref a0), (1, .int a1)]) (st' := [.ref a0]) (mem' := mem) rfl ?_
    obtain ⟨fk99, hk99, h⟩ := dRc_some h
    refine wq_cI rfl (kCall_v hk99 (as := []) (rest := []) ⟨by decide, rfl, (show 0 < 90 by decide), by decide⟩ (show 0 ≤ 8 by decide)) h (fun r hr => ca_up (by decide) (m_K_slipNext_ok xm N hr)) (fun v99 m99 h => ?_)
    refine wp_run 2 (pc' := 146) (lv' := [(0, .ref a0), (1, .int a1)]) (st' := []) (mem' := m99) rfl ?_
    exact wq_end rfl rfl h
  · change kGo xm kSm kDfl kFty kG 7 80 106 [(0, .ref a0), (1, .int a1)] [] mem (dEq R)
    refine wp_run 3 (pc' := 109) (lv' := [(0, .ref a0), (1, .int a1)]) (st' := [.int 1, .int 1, .ref a0]) (mem' := mem) rfl ?_
    obtain ⟨fk109, hk109, h⟩ := dRc_some h
    refine wq_cI rfl (kCall_v hk109 (as := [.int 1, .int 1]) (rest := []) ⟨by decide, rfl, (show 2 < 90 by decide), by decide⟩ (show 0 ≤ 8 by decide)) h (fun r hr => ca_up (by decide) (m_K_crossNext_ok xm N hr)) (fun v109 m109 h => ?_)
    refine wp_run 2 (pc' := 146) (lv' := [(0, .ref a0), (1, .int a1)]) (st' := []) (mem' := m109) rfl ?_
    exact wq_end rfl rfl h
  · change kGo xm kSm kDfl kFty kG 7 80 116 [(0, .ref a0), (1, .int a1)] [] mem (dEq R)
    refine wp_run 3 (pc' := 119) (lv' := [(0, .ref a0), (1, .int a1)]) (st' := [.int 4, .int 3, .ref a0]) (mem' := mem) rfl ?_
    obtain ⟨fk119, hk119, h⟩ := dRc_some h
    refine wq_cI rfl (kCall_v hk119 (as := [.int 3, .int 4]) (rest := []) ⟨by decide, rfl, (show 2 < 90 by decide), by decide⟩ (show 0 ≤ 8 by decide)) h (fun r hr => ca_up (by decide) (m_K_takeTogether_ok xm N hr)) (fun v119 m119 h => ?_)
    refine wp_run 2 (pc' := 146) (lv' := [(0, .ref a0), (1, .int a1)]) (st' := []) (mem' := m119) rfl ?_
    exact wq_end rfl rfl h
  · change kGo xm kSm kDfl kFty kG 7 80 126 [(0, .ref a0), (1, .int a1)] [] mem (dEq R)
    refine wp_run 2 (pc' := 128) (lv' := [(0, .ref a0), (1, .int a1)]) (st' := [.int 1, .ref a0]) (mem' := mem) rfl ?_
    obtain ⟨fk128, hk128, h⟩ := dRc_some h
    refine wq_cI rfl (kCall_v hk128 (as := [.int 1]) (rest := []) ⟨by decide, rfl, (show 1 < 90 by decide), by decide⟩ (show 0 ≤ 8 by decide)) h (fun r hr => ca_up (by decide) (m_K_workNext_ok xm N hr)) (fun v128 m128 h => ?_)
    refine wp_run 2 (pc' := 133) (lv' := [(0, .ref a0), (1, .int a1)]) (st' := [.ref a0]) (mem' := m128) rfl ?_
    obtain ⟨fk133, hk133, h⟩ := dRc_some h
    refine wq_cI rfl (kCall_v hk133 (as := []) (rest := []) ⟨by decide, rfl, (show 0 < 90 by decide), by decide⟩ (show 0 ≤ 8 by decide)) h (fun r hr => ca_up (by decide) (m_K_makeOver_ok xm N hr)) (fun v133 m133 h => ?_)
    refine wp_run 3 (pc' := 139) (lv' := [(0, .ref a0), (1, .int a1)]) (st' := [.int 1, .ref a0]) (mem' := m133) rfl ?_
    obtain ⟨fk139, hk139, h⟩ := dRc_some h
    refine wq_cI rfl (kCall_v hk139 (as := [.int 1]) (rest := []) ⟨by decide, rfl, (show 1 < 90 by decide), by decide⟩ (show 0 ≤ 8 by decide)) h (fun r hr => ca_up (by decide) (m_K_workNext_ok xm N hr)) (fun v139 m139 h => ?_)
    refine wp_run 2 (pc' := 146) (lv' := [(0, .ref a0), (1, .int a1)]) (st' := []) (mem' := m139) rfl ?_
    exact wq_end rfl rfl h
/-- Knitstead.hasPattern(I)Z -/
def m_K_hasPattern (xm : Nat → Option kE) (N : Nat) (a0 : Nat) (a1 : Int32) (mem : kM) : dRes :=
  if a1 < 0 then (
    some (.inl (some (.int 0)), mem)
  ) else (
    dGI xm mem a0 11 7 fun v6 =>
    if a1 < v6 then (
      some (.inl (some (.int 1)), mem)
    ) else (
      some (.inl (some (.int 0)), mem)
    )
  )
theorem m_K_hasPattern_ok (xm : Nat → Option kE) (N : Nat) {a0 : Nat} {a1 : Int32} {mem : kM} {R : kO × kM} (h : m_K_hasPattern xm N a0 a1 mem = some R) : kCa xm kSm kDfl kFty kG 1 81 [.ref a0, .int a1] mem (dEq R) := by
  refine wq_ca (show 2 ≤ 2 by decide) ?_
  change kGo xm kSm kDfl kFty kG 0 81 0 [(0, .ref a0), (1, .int a1)] [] mem (dEq R)
  unfold m_K_hasPattern at h
  refine wp_run 1 (pc' := 1) (lv' := [(0, .ref a0), (1, .int a1)]) (st' := [.int a1]) (mem' := mem) rfl ?_
  refine wq_lt rfl h (fun h => ?_) (fun h => ?_)
  · refine wp_run 1 (pc' := 17) (lv' := [(0, .ref a0), (1, .int a1)]) (st' := [.int 0]) (mem' := mem) rfl ?_
    exact wq_ret rfl rfl h
  · refine wp_run 2 (pc' := 6) (lv' := [(0, .ref a0), (1, .int a1)]) (st' := [.ref a0, .int a1]) (mem' := mem) rfl ?_
    refine wq_gI rfl h (fun v6 h => ?_)
    refine wq_ge2 rfl h (fun h => ?_) (fun h => ?_)
    · refine wp_run 2 (pc' := 17) (lv' := [(0, .ref a0), (1, .int a1)]) (st' := [.int 1]) (mem' := mem) rfl ?_
      exact wq_ret rfl rfl h
    · refine wp_run 1 (pc' := 17) (lv' := [(0, .ref a0), (1, .int a1)]) (st' := [.int 0]) (mem' := mem) rfl ?_
      exact wq_ret rfl rfl h
/-- Knitstead.follow(I)I -/
def m_K_follow_72 (xm : Nat → Option kE) (N : Nat) : Nat → Nat → Int32 → Int32 → Int32 → kM → dRes
  | 0, _, _, _, _, _ => none
  | n + 1, a0, a1, a2, a3, mem =>
    if a3 < a2 then (
      dRc xm mem a0 11 <|
      dCI (m_K_stepAt xm N a0 a1 a3 mem) fun v81 m81 =>
      dRc xm m81 a0 11 <|
      dCV (m_K_doStep xm N a0 v81 m81) fun m84 =>
      m_K_follow_72 xm N n a0 a1 a2 (a3 + 1) m84
    ) else (
      some (.inl (some (.int a2)), mem)
    )
theorem m_K_follow_72_ok (xm : Nat → Option kE) (N : Nat) : ∀ (n : Nat) (a0 : Nat) (a1 : Int32) (a2 : Int32) (a3 : Int32) (mem : kM) (R : kO × kM), m_K_follow_72 xm N n a0 a1 a2 a3 mem = some R → kGo xm kSm kDfl kFty kG 8 53 72 [(0, .ref a0), (1, .int a1), (2, .int a2), (3, .int a3)] [] mem (dEq R) := by
  intro n
  induction n with
  | zero => intro a0 a1 a2 a3 mem R h; cases h
  | succ n ih =>
    intro a0 a1 a2 a3 mem R h
    rw [m_K_follow_72] at h
    refine wp_run 2 (pc' := 74) (lv' := [(0, .ref a0), (1, .int a1), (2, .int a2), (3, .int a3)]) (st' := [.int a2, .int a3]) (mem' := mem) rfl ?_
    refine wq_ge2 rfl h (fun h => ?_) (fun h => ?_)
    · refine wp_run 4 (pc' := 81) (lv' := [(0, .ref a0), (1, .int a1), (2, .int a2), (3, .int a3)]) (st' := [.int a3, .int a1, .ref a0, .ref a0]) (mem' := mem) rfl ?_
      obtain ⟨fk81, hk81, h⟩ := dRc_some h
      refine wq_cI rfl (kCall_v hk81 (as := [.int a1, .int a3]) (rest := [.ref a0]) ⟨by decide, rfl, (show 2 < 90 by decide), by decide⟩ (show 1 ≤ 8 by decide)) h (fun r hr => ca_up (by decide) (m_K_stepAt_ok xm N hr)) (fun v81 m81 h => ?_)
      obtain ⟨fk84, hk84, h⟩ := dRc_some h
      refine wq_cV rfl (kCall_v hk84 (as := [.int v81]) (rest := []) ⟨by decide, rfl, (show 1 < 90 by decide), by decide⟩ (show 0 ≤ 8 by decide)) h (fun r hr => ca_up (by decide) (m_K_doStep_ok xm N hr)) (fun m84 h => ?_)
      refine wp_run 2 (pc' := 72) (lv' := [(3, .int (a3 + 1)), (0, .ref a0), (1, .int a1), (2, .int a2)]) (st' := []) (mem' := m84) rfl ?_
      refine kGo_sub (lvS_of [1, 2, 3, 0] rfl [3, 0, 1, 2] rfl (by decide)) ?_
      exact ih _ _ _ _ m84 R h
    · refine wp_run 1 (pc' := 94) (lv' := [(0, .ref a0), (1, .int a1), (2, .int a2), (3, .int a3)]) (st' := [.int a2]) (mem' := mem) rfl ?_
      exact wq_ret rfl rfl h
def m_K_follow (xm : Nat → Option kE) (N : Nat) (a0 : Nat) (a1 : Int32) (mem : kM) : dRes :=
  dRc xm mem a0 11 <|
  dCI (m_K_hasPattern xm N a0 a1 mem) fun v2 m2 =>
  if v2 = 0 then (
    some (.inr 2, m2 ++ [.inl (1000, [.null, .null, .null, .null, .null, .null])])
  ) else (
    dGR xm m2 a0 11 1 fun v19 =>
    dGR xm m2 v19 10 0 fun v22 =>
    dGI xm m2 v22 7 1 fun v25 =>
    if v25 < 1 then (
      some (.inr 1, m2 ++ [.inl (1000, [.null, .null, .null, .null, .null, .null])])
    ) else (
      dGR xm m2 a0 11 5 fun v43 =>
      dGR xm m2 a0 11 1 fun v47 =>
      dGR xm m2 a0 11 0 fun v51 =>
      dRc xm m2 v43 6 <|
      dCV (m_History_keep xm N v43 v47 v51 m2) fun m54 =>
      dRc xm m54 a0 11 <|
      dCV (m_K_tryOut xm N a0 a1 m54) fun m59 =>
      dGR xm m59 a0 11 6 fun v63 =>
      dGI xm m59 v63 9 4 fun v66 =>
      m_K_follow_72 xm N N a0 a1 v66 0 m59
    )
  )
theorem m_K_follow_ok (xm : Nat → Option kE) (N : Nat) {a0 : Nat} {a1 : Int32} {mem : kM} {R : kO × kM} (h : m_K_follow xm N a0 a1 mem = some R) : kCa xm kSm kDfl kFty kG 9 53 [.ref a0, .int a1] mem (dEq R) := by
  refine wq_ca (show 2 ≤ 4 by decide) ?_
  change kGo xm kSm kDfl kFty kG 8 53 0 [(0, .ref a0), (1, .int a1)] [] mem (dEq R)
  unfold m_K_follow at h
  refine wp_run 2 (pc' := 2) (lv' := [(0, .ref a0), (1, .int a1)]) (st' := [.int a1, .ref a0]) (mem' := mem) rfl ?_
  obtain ⟨fk2, hk2, h⟩ := dRc_some h
  refine wq_cI rfl (kCall_v hk2 (as := [.int a1]) (rest := []) ⟨by decide, rfl, (show 1 < 90 by decide), by decide⟩ (show 0 ≤ 8 by decide)) h (fun r hr => ca_up (by decide) (m_K_hasPattern_ok xm N hr)) (fun v2 m2 h => ?_)
  refine wq_ne rfl h (fun h => ?_) (fun h => ?_)
  · exact wq_end rfl rfl h
  · refine wp_run 1 (pc' := 19) (lv' := [(0, .ref a0), (1, .int a1)]) (st' := [.ref a0]) (mem' := m2) rfl ?_
    refine wq_gR rfl h (fun v19 h => ?_)
    refine wq_gR rfl h (fun v22 h => ?_)
    refine wq_gI rfl h (fun v25 h => ?_)
    refine wp_run 1 (pc' := 29) (lv' := [(0, .ref a0), (1, .int a1)]) (st' := [.int 1, .int v25]) (mem' := m2) rfl ?_
    refine wq_ge2 rfl h (fun h => ?_) (fun h => ?_)
    · exact wq_end rfl rfl h
    · refine wp_run 1 (pc' := 43) (lv' := [(0, .ref a0), (1, .int a1)]) (st' := [.ref a0]) (mem' := m2) rfl ?_
      refine wq_gR rfl h (fun v43 h => ?_)
      refine wp_run 1 (pc' := 47) (lv' := [(0, .ref a0), (1, .int a1)]) (st' := [.ref a0, .ref v43]) (mem' := m2) rfl ?_
      refine wq_gR rfl h (fun v47 h => ?_)
      refine wp_run 1 (pc' := 51) (lv' := [(0, .ref a0), (1, .int a1)]) (st' := [.ref a0, .ref v47, .ref v43]) (mem' := m2) rfl ?_
      refine wq_gR rfl h (fun v51 h => ?_)
      obtain ⟨fk54, hk54, h⟩ := dRc_some h
      refine wq_cV rfl (kCall_v hk54 (as := [.ref v47, .ref v51]) (rest := []) ⟨by decide, rfl, (show 2 < 90 by decide), by decide⟩ (show 0 ≤ 8 by decide)) h (fun r hr => ca_up (by decide) (m_History_keep_ok xm N hr)) (fun m54 h => ?_)
      refine wp_run 2 (pc' := 59) (lv' := [(0, .ref a0), (1, .int a1)]) (st' := [.int a1, .ref a0]) (mem' := m54) rfl ?_
      obtain ⟨fk59, hk59, h⟩ := dRc_some h
      refine wq_cV rfl (kCall_v hk59 (as := [.int a1]) (rest := []) ⟨by decide, rfl, (show 1 < 90 by decide), by decide⟩ (show 0 ≤ 8 by decide)) h (fun r hr => ca_up (by decide) (m_K_tryOut_ok xm N hr)) (fun m59 h => ?_)
      refine wp_run 1 (pc' := 63) (lv' := [(0, .ref a0), (1, .int a1)]) (st' := [.ref a0]) (mem' := m59) rfl ?_
      refine wq_gR rfl h (fun v63 h => ?_)
      refine wq_gI rfl h (fun v66 h => ?_)
      refine wp_run 3 (pc' := 72) (lv' := [(3, .int 0), (2, .int v66), (0, .ref a0), (1, .int a1)]) (st' := []) (mem' := m59) rfl ?_
      refine kGo_sub (lvS_of [2, 3, 1, 0] rfl [3, 2, 0, 1] rfl (by decide)) ?_
      exact m_K_follow_72_ok xm N N _ _ _ _ m59 R h
/-- KnitsteadLaw.follow(LKnitstead;ILKnitsteadLaw$Out;)I -/
def m_law_follow (xm : Nat → Option kE) (N : Nat) (a0 : Nat) (a1 : Int32) (a2 : Nat) (mem : kM) : dRes :=
  dRc xm mem a0 11 <|
  dCX (m_K_follow xm N a0 a1 mem) (fun v3 m3 =>
    dP xm m3 a2 12 0 (.long (Int32.toInt64 v3)) fun m7 =>
    some (.inl (some (.int 0)), m7)
  ) (fun E m3 => match E with
    | 1 =>
      some (.inl (some (.int 2)), m3)
    | 2 =>
      some (.inl (some (.int 1)), m3)
    | _ => none)
theorem m_law_follow_ok (xm : Nat → Option kE) (N : Nat) {a0 : Nat} {a1 : Int32} {a2 : Nat} {mem : kM} {R : kO × kM} (h : m_law_follow xm N a0 a1 a2 mem = some R) : kCa xm kSm kDfl kFty kG 10 253 [.ref a0, .int a1, .ref a2] mem (dEq R) := by
  refine wq_ca (show 3 ≤ 4 by decide) ?_
  change kGo xm kSm kDfl kFty kG 9 253 0 [(0, .ref a0), (1, .int a1), (2, .ref a2)] [] mem (dEq R)
  unfold m_law_follow at h
  refine wp_run 3 (pc' := 3) (lv' := [(0, .ref a0), (1, .int a1), (2, .ref a2)]) (st' := [.int a1, .ref a0, .ref a2]) (mem' := mem) rfl ?_
  obtain ⟨fk3, hk3, h⟩ := dRc_some h
  refine wq_cX rfl (kCall_v hk3 (as := [.int a1]) (rest := [.ref a2]) ⟨by decide, rfl, (show 1 < 90 by decide), by decide⟩ (show 1 ≤ 8 by decide)) h (fun r hr => ca_up (by decide) (m_K_follow_ok xm N hr)) (fun v3 m3 h => ?_) (fun E m3 h => ?_)
  · refine wp_run 1 (pc' := 7) (lv' := [(0, .ref a0), (1, .int a1), (2, .ref a2)]) (st' := [.long (Int32.toInt64 v3), .ref a2]) (mem' := m3) rfl ?_
    refine wq_p rfl rfl h (fun m7 h => ?_)
    refine wp_run 2 (pc' := 20) (lv' := [(0, .ref a0), (1, .int a1), (2, .ref a2)]) (st' := [.int 0]) (mem' := m7) rfl ?_
    exact wq_ret rfl rfl h
  · match E, h with
    | 1, h =>
      refine ⟨17, 3, rfl, ?_⟩
      change kGo xm kSm kDfl kFty kG 9 253 17 [(0, .ref a0), (1, .int a1), (2, .ref a2)] [] m3 (dEq R)
      refine wp_run 1 (pc' := 18) (lv' := [(0, .ref a0), (1, .int a1), (2, .ref a2)]) (st' := [.int 2]) (mem' := m3) rfl ?_
      exact wq_ret rfl rfl h
    | 2, h =>
      refine ⟨14, 3, rfl, ?_⟩
      change kGo xm kSm kDfl kFty kG 9 253 14 [(0, .ref a0), (1, .int a1), (2, .ref a2)] [] m3 (dEq R)
      refine wp_run 1 (pc' := 15) (lv' := [(0, .ref a0), (1, .int a1), (2, .ref a2)]) (st' := [.int 1]) (mem' := m3) rfl ?_
      exact wq_ret rfl rfl h
    | 0, h => cases h
    | (k + 3), h => cases h
/-- Knitstead$History.bringBack(LKnitstead$Work;LKnitstead$Balls;)V -/
def m_History_bringBack_18 (xm : Nat → Option kE) (N : Nat) (a0 : Nat) (a1 : Nat) (a2 : Nat) (s0 : Int32) (mem : kM) : dRes :=
  dGI xm mem a0 6 4 fun v20 =>
  if v20 < 1 then (
    some (.inl none, mem)
  ) else (
    dRc xm mem a0 6 <|
    dCI (m_History_isSlot xm N a0 s0 mem) fun v29 m29 =>
    if v29 = 0 then (
      some (.inl none, m29)
    ) else (
      dGR xm m29 a0 6 0 fun v36 =>
      dALn xm m29 v36 s0 (
        some (.inl none, m29)
      ) (
        dGR xm m29 a0 6 0 fun v47 =>
        dAL xm m29 v47 s0 fun v51 =>
        dRc xm m29 a1 10 <|
        dCV (m_Work_copyFrom xm N a1 v51 m29) fun m52 =>
        dGR xm m52 a0 6 1 fun v57 =>
        dIL xm 0 m52 v57 s0 fun v61 =>
        dGR xm m52 a0 6 2 fun v63 =>
        dIL xm 0 m52 v63 s0 fun v67 =>
        dRc xm m52 a2 5 <|
        dCV (m_Balls_set xm N a2 v61 v67 m52) fun m68 =>
        dP xm m68 a0 6 3 (.int s0) fun m73 =>
        dGI xm m73 a0 6 4 fun v78 =>
        dP xm m73 a0 6 4 (.int (v78 - 1)) fun m83 =>
        some (.inl none, m83)
      )
    )
  )
theorem m_History_bringBack_18_ok (xm : Nat → Option kE) (N : Nat) : ∀ (a0 : Nat) (a1 : Nat) (a2 : Nat) (s0 : Int32) (mem : kM) (R : kO × kM), m_History_bringBack_18 xm N a0 a1 a2 s0 mem = some R → kGo xm kSm kDfl kFty kG 3 12 18 [(0, .ref a0), (1, .ref a1), (2, .ref a2)] [.int s0] mem (dEq R) := by
  intro a0 a1 a2 s0 mem R h
  unfold m_History_bringBack_18 at h
  refine wp_run 2 (pc' := 20) (lv' := [(3, .int s0), (0, .ref a0), (1, .ref a1), (2, .ref a2)]) (st' := [.ref a0]) (mem' := mem) rfl ?_
  refine wq_gI rfl h (fun v20 h => ?_)
  refine wp_run 1 (pc' := 24) (lv' := [(3, .int s0), (0, .ref a0), (1, .ref a1), (2, .ref a2)]) (st' := [.int 1, .int v20]) (mem' := mem) rfl ?_
  refine wq_lt2 rfl h (fun h => ?_) (fun h => ?_)
  · exact wq_end rfl rfl h
  · refine wp_run 2 (pc' := 29) (lv' := [(3, .int s0), (0, .ref a0), (1, .ref a1), (2, .ref a2)]) (st' := [.int s0, .ref a0]) (mem' := mem) rfl ?_
    obtain ⟨fk29, hk29, h⟩ := dRc_some h
    refine wq_cI rfl (kCall_v hk29 (as := [.int s0]) (rest := []) ⟨by decide, rfl, (show 1 < 90 by decide), by decide⟩ (show 0 ≤ 8 by decide)) h (fun r hr => ca_up (by decide) (m_History_isSlot_ok xm N hr)) (fun v29 m29 h => ?_)
    refine wq_eq rfl h (fun h => ?_) (fun h => ?_)
    · exact wq_end rfl rfl h
    · refine wp_run 1 (pc' := 36) (lv' := [(3, .int s0), (0, .ref a0), (1, .ref a1), (2, .ref a2)]) (st' := [.ref a0]) (mem' := m29) rfl ?_
      refine wq_gR rfl h (fun v36 h => ?_)
      refine wp_run 1 (pc' := 40) (lv' := [(3, .int s0), (0, .ref a0), (1, .ref a1), (2, .ref a2)]) (st' := [.int s0, .ref v36]) (mem' := m29) rfl ?_
      refine wq_aLn rfl rfl h (fun h => ?_) (fun h => ?_)
      · exact wq_end rfl rfl h
      · refine wp_run 2 (pc' := 47) (lv' := [(3, .int s0), (0, .ref a0), (1, .ref a1), (2, .ref a2)]) (st' := [.ref a0, .ref a1]) (mem' := m29) rfl ?_
        refine wq_gR rfl h (fun v47 h => ?_)
        refine wp_run 1 (pc' := 51) (lv' := [(3, .int s0), (0, .ref a0), (1, .ref a1), (2, .ref a2)]) (st' := [.int s0, .ref v47, .ref a1]) (mem' := m29) rfl ?_
        refine wq_aL rfl h (fun v51 h => ?_)
        obtain ⟨fk52, hk52, h⟩ := dRc_some h
        refine wq_cV rfl (kCall_v hk52 (as := [.ref v51]) (rest := []) ⟨by decide, rfl, (show 1 < 90 by decide), by decide⟩ (show 0 ≤ 8 by decide)) h (fun r hr => ca_up (by decide) (m_Work_copyFrom_ok xm N hr)) (fun m52 h => ?_)
        refine wp_run 2 (pc' := 57) (lv' := [(3, .int s0), (0, .ref a0), (1, .ref a1), (2, .ref a2)]) (st' := [.ref a0, .ref a2]) (mem' := m52) rfl ?_
        refine wq_gR rfl h (fun v57 h => ?_)
        refine wp_run 1 (pc' := 61) (lv' := [(3, .int s0), (0, .ref a0), (1, .ref a1), (2, .ref a2)]) (st' := [.int s0, .ref v57, .ref a2]) (mem' := m52) rfl ?_
        refine wq_iL rfl h (fun v61 h => ?_)
        refine wp_run 1 (pc' := 63) (lv' := [(3, .int s0), (0, .ref a0), (1, .ref a1), (2, .ref a2)]) (st' := [.ref a0, .int v61, .ref a2]) (mem' := m52) rfl ?_
        refine wq_gR rfl h (fun v63 h => ?_)
        refine wp_run 1 (pc' := 67) (lv' := [(3, .int s0), (0, .ref a0), (1, .ref a1), (2, .ref a2)]) (st' := [.int s0, .ref v63, .int v61, .ref a2]) (mem' := m52) rfl ?_
        refine wq_iL rfl h (fun v67 h => ?_)
        obtain ⟨fk68, hk68, h⟩ := dRc_some h
        refine wq_cV rfl (kCall_v hk68 (as := [.int v61, .int v67]) (rest := []) ⟨by decide, rfl, (show 2 < 90 by decide), by decide⟩ (show 0 ≤ 8 by decide)) h (fun r hr => ca_up (by decide) (m_Balls_set_ok xm N hr)) (fun m68 h => ?_)
        refine wp_run 2 (pc' := 73) (lv' := [(3, .int s0), (0, .ref a0), (1, .ref a1), (2, .ref a2)]) (st' := [.int s0, .ref a0]) (mem' := m68) rfl ?_
        refine wq_p rfl rfl h (fun m73 h => ?_)
        refine wp_run 2 (pc' := 78) (lv' := [(3, .int s0), (0, .ref a0), (1, .ref a1), (2, .ref a2)]) (st' := [.ref a0, .ref a0]) (mem' := m73) rfl ?_
        refine wq_gI rfl h (fun v78 h => ?_)
        refine wp_run 2 (pc' := 83) (lv' := [(3, .int s0), (0, .ref a0), (1, .ref a1), (2, .ref a2)]) (st' := [.int (v78 - 1), .ref a0]) (mem' := m73) rfl ?_
        refine wq_p rfl rfl h (fun m83 h => ?_)
        exact wq_end rfl rfl h
def m_History_bringBack (xm : Nat → Option kE) (N : Nat) (a0 : Nat) (a1 : Nat) (a2 : Nat) (mem : kM) : dRes :=
  dGI xm mem a0 6 3 fun v1 =>
  if 0 < v1 then (
    dGI xm mem a0 6 3 fun v8 =>
    m_History_bringBack_18 xm N a0 a1 a2 (v8 - 1) mem
  ) else (
    m_History_bringBack_18 xm N a0 a1 a2 11 mem
  )
theorem m_History_bringBack_ok (xm : Nat → Option kE) (N : Nat) {a0 : Nat} {a1 : Nat} {a2 : Nat} {mem : kM} {R : kO × kM} (h : m_History_bringBack xm N a0 a1 a2 mem = some R) : kCa xm kSm kDfl kFty kG 4 12 [.ref a0, .ref a1, .ref a2] mem (dEq R) := by
  refine wq_ca (show 3 ≤ 4 by decide) ?_
  change kGo xm kSm kDfl kFty kG 3 12 0 [(0, .ref a0), (1, .ref a1), (2, .ref a2)] [] mem (dEq R)
  unfold m_History_bringBack at h
  refine wp_run 1 (pc' := 1) (lv' := [(0, .ref a0), (1, .ref a1), (2, .ref a2)]) (st' := [.ref a0]) (mem' := mem) rfl ?_
  refine wq_gI rfl h (fun v1 h => ?_)
  refine wq_le rfl h (fun h => ?_) (fun h => ?_)
  · refine wp_run 1 (pc' := 8) (lv' := [(0, .ref a0), (1, .ref a1), (2, .ref a2)]) (st' := [.ref a0]) (mem' := mem) rfl ?_
    refine wq_gI rfl h (fun v8 h => ?_)
    refine wp_run 3 (pc' := 18) (lv' := [(0, .ref a0), (1, .ref a1), (2, .ref a2)]) (st' := [.int (v8 - 1)]) (mem' := mem) rfl ?_
    exact m_History_bringBack_18_ok xm N _ _ _ _ mem R h
  · refine wp_run 1 (pc' := 18) (lv' := [(0, .ref a0), (1, .ref a1), (2, .ref a2)]) (st' := [.int 11]) (mem' := mem) rfl ?_
    exact m_History_bringBack_18_ok xm N _ _ _ _ mem R h
/-- Knitstead.undo()I -/
def m_K_undo (xm : Nat → Option kE) (N : Nat) (a0 : Nat) (mem : kM) : dRes :=
  dGR xm mem a0 11 5 fun v1 =>
  dGI xm mem v1 6 4 fun v4 =>
  if v4 < 1 then (
    some (.inr 1, mem ++ [.inl (1000, [.null, .null, .null, .null, .null, .null])])
  ) else (
    dGR xm mem a0 11 5 fun v22 =>
    dGR xm mem a0 11 1 fun v26 =>
    dGR xm mem a0 11 0 fun v30 =>
    dRc xm mem v22 6 <|
    dCV (m_History_bringBack xm N v22 v26 v30 mem) fun m33 =>
    dGR xm m33 a0 11 5 fun v37 =>
    dGI xm m33 v37 6 4 fun v40 =>
    some (.inl (some (.int v40)), m33)
  )
theorem m_K_undo_ok (xm : Nat → Option kE) (N : Nat) {a0 : Nat} {mem : kM} {R : kO × kM} (h : m_K_undo xm N a0 mem = some R) : kCa xm kSm kDfl kFty kG 5 54 [.ref a0] mem (dEq R) := by
  refine wq_ca (show 1 ≤ 1 by decide) ?_
  change kGo xm kSm kDfl kFty kG 4 54 0 [(0, .ref a0)] [] mem (dEq R)
  unfold m_K_undo at h
  refine wp_run 1 (pc' := 1) (lv' := [(0, .ref a0)]) (st' := [.ref a0]) (mem' := mem) rfl ?_
  refine wq_gR rfl h (fun v1 h => ?_)
  refine wq_gI rfl h (fun v4 h => ?_)
  refine wp_run 1 (pc' := 8) (lv' := [(0, .ref a0)]) (st' := [.int 1, .int v4]) (mem' := mem) rfl ?_
  refine wq_ge2 rfl h (fun h => ?_) (fun h => ?_)
  · exact wq_end rfl rfl h
  · refine wp_run 1 (pc' := 22) (lv' := [(0, .ref a0)]) (st' := [.ref a0]) (mem' := mem) rfl ?_
    refine wq_gR rfl h (fun v22 h => ?_)
    refine wp_run 1 (pc' := 26) (lv' := [(0, .ref a0)]) (st' := [.ref a0, .ref v22]) (mem' := mem) rfl ?_
    refine wq_gR rfl h (fun v26 h => ?_)
    refine wp_run 1 (pc' := 30) (lv' := [(0, .ref a0)]) (st' := [.ref a0, .ref v26, .ref v22]) (mem' := mem) rfl ?_
    refine wq_gR rfl h (fun v30 h => ?_)
    obtain ⟨fk33, hk33, h⟩ := dRc_some h
    refine wq_cV rfl (kCall_v hk33 (as := [.ref v26, .ref v30]) (rest := []) ⟨by decide, rfl, (show 2 < 90 by decide), by decide⟩ (show 0 ≤ 8 by decide)) h (fun r hr => ca_up (by decide) (m_History_bringBack_ok xm N hr)) (fun m33 h => ?_)
    refine wp_run 1 (pc' := 37) (lv' := [(0, .ref a0)]) (st' := [.ref a0]) (mem' := m33) rfl ?_
    refine wq_gR rfl h (fun v37 h => ?_)
    refine wq_gI rfl h (fun v40 h => ?_)
    exact wq_ret rfl rfl h
/-- KnitsteadLaw.undo(LKnitstead;LKnitsteadLaw$Out;)I -/
def m_law_undo (xm : Nat → Option kE) (N : Nat) (a0 : Nat) (a1 : Nat) (mem : kM) : dRes :=
  dRc xm mem a0 11 <|
  dCX (m_K_undo xm N a0 mem) (fun v2 m2 =>
    dP xm m2 a1 12 0 (.long (Int32.toInt64 v2)) fun m6 =>
    some (.inl (some (.int 0)), m6)
  ) (fun E m2 => match E with
    | 1 =>
      some (.inl (some (.int 1)), m2)
    | _ => none)
theorem m_law_undo_ok (xm : Nat → Option kE) (N : Nat) {a0 : Nat} {a1 : Nat} {mem : kM} {R : kO × kM} (h : m_law_undo xm N a0 a1 mem = some R) : kCa xm kSm kDfl kFty kG 6 254 [.ref a0, .ref a1] mem (dEq R) := by
  refine wq_ca (show 2 ≤ 3 by decide) ?_
  change kGo xm kSm kDfl kFty kG 5 254 0 [(0, .ref a0), (1, .ref a1)] [] mem (dEq R)
  unfold m_law_undo at h
  refine wp_run 2 (pc' := 2) (lv' := [(0, .ref a0), (1, .ref a1)]) (st' := [.ref a0, .ref a1]) (mem' := mem) rfl ?_
  obtain ⟨fk2, hk2, h⟩ := dRc_some h
  refine wq_cX rfl (kCall_v hk2 (as := []) (rest := [.ref a1]) ⟨by decide, rfl, (show 0 < 90 by decide), by decide⟩ (show 1 ≤ 8 by decide)) h (fun r hr => ca_up (by decide) (m_K_undo_ok xm N hr)) (fun v2 m2 h => ?_) (fun E m2 h => ?_)
  · refine wp_run 1 (pc' := 6) (lv' := [(0, .ref a0), (1, .ref a1)]) (st' := [.long (Int32.toInt64 v2), .ref a1]) (mem' := m2) rfl ?_
    refine wq_p rfl rfl h (fun m6 h => ?_)
    refine wp_run 2 (pc' := 16) (lv' := [(0, .ref a0), (1, .ref a1)]) (st' := [.int 0]) (mem' := m6) rfl ?_
    exact wq_ret rfl rfl h
  · match E, h with
    | 1, h =>
      refine ⟨13, 2, rfl, ?_⟩
      change kGo xm kSm kDfl kFty kG 5 254 13 [(0, .ref a0), (1, .ref a1)] [] m2 (dEq R)
      refine wp_run 1 (pc' := 14) (lv' := [(0, .ref a0), (1, .ref a1)]) (st' := [.int 1]) (mem' := m2) rfl ?_
      exact wq_ret rfl rfl h
    | 0, h => cases h
    | 2, h => cases h
    | (k + 3), h => cases h
/-- Knitstead.on(ZI)I -/
def m_K_on (xm : Nat → Option kE) (N : Nat) (a0 : Nat) (a1 : Int32) (a2 : Int32) (mem : kM) : dRes :=
  if a2 < 0 then (
    some (.inr 2, mem ++ [.inl (1000, [.null, .null, .null, .null, .null, .null])])
  ) else (
    if a2 < 24 then (
      dRc xm mem a0 11 <|
      dCR (m_K_needle xm N a0 a1 mem) fun v22 m22 =>
      dRc xm m22 v22 7 <|
      dCI (m_Needle_at xm N v22 a2 m22) fun v26 m26 =>
      some (.inl (some (.int v26)), m26)
    ) else (
      some (.inr 2, mem ++ [.inl (1000, [.null, .null, .null, .null, .null, .null])])
    )
  )
theorem m_K_on_ok (xm : Nat → Option kE) (N : Nat) {a0 : Nat} {a1 : Int32} {a2 : Int32} {mem : kM} {R : kO × kM} (h : m_K_on xm N a0 a1 a2 mem = some R) : kCa xm kSm kDfl kFty kG 2 55 [.ref a0, .int a1, .int a2] mem (dEq R) := by
  refine wq_ca (show 3 ≤ 3 by decide) ?_
  change kGo xm kSm kDfl kFty kG 1 55 0 [(0, .ref a0), (1, .int a1), (2, .int a2)] [] mem (dEq R)
  unfold m_K_on at h
  refine wp_run 1 (pc' := 1) (lv' := [(0, .ref a0), (1, .int a1), (2, .int a2)]) (st' := [.int a2]) (mem' := mem) rfl ?_
  refine wq_lt rfl h (fun h => ?_) (fun h => ?_)
  · exact wq_end rfl rfl h
  · refine wp_run 2 (pc' := 7) (lv' := [(0, .ref a0), (1, .int a1), (2, .int a2)]) (st' := [.int 24, .int a2]) (mem' := mem) rfl ?_
    refine wq_lt2 rfl h (fun h => ?_) (fun h => ?_)
    · refine wp_run 2 (pc' := 22) (lv' := [(0, .ref a0), (1, .int a1), (2, .int a2)]) (st' := [.int a1, .ref a0]) (mem' := mem) rfl ?_
      obtain ⟨fk22, hk22, h⟩ := dRc_some h
      refine wq_cR rfl (kCall_v hk22 (as := [.int a1]) (rest := []) ⟨by decide, rfl, (show 1 < 90 by decide), by decide⟩ (show 0 ≤ 8 by decide)) h (fun r hr => ca_up (by decide) (m_K_needle_ok xm N hr)) (fun v22 m22 h => ?_)
      refine wp_run 1 (pc' := 26) (lv' := [(0, .ref a0), (1, .int a1), (2, .int a2)]) (st' := [.int a2, .ref v22]) (mem' := m22) rfl ?_
      obtain ⟨fk26, hk26, h⟩ := dRc_some h
      refine wq_cI rfl (kCall_v hk26 (as := [.int a2]) (rest := []) ⟨by decide, rfl, (show 1 < 90 by decide), by decide⟩ (show 0 ≤ 8 by decide)) h (fun r hr => ca_up (by decide) (m_Needle_at_ok xm N hr)) (fun v26 m26 h => ?_)
      exact wq_ret rfl rfl h
    · exact wq_end rfl rfl h
/-- KnitsteadLaw.on(LKnitstead;ZILKnitsteadLaw$Out;)I -/
def m_law_on (xm : Nat → Option kE) (N : Nat) (a0 : Nat) (a1 : Int32) (a2 : Int32) (a3 : Nat) (mem : kM) : dRes :=
  dRc xm mem a0 11 <|
  dCX (m_K_on xm N a0 a1 a2 mem) (fun v4 m4 =>
    dP xm m4 a3 12 0 (.long (Int32.toInt64 v4)) fun m8 =>
    some (.inl (some (.int 0)), m8)
  ) (fun E m4 => match E with
    | 2 =>
      some (.inl (some (.int 1)), m4)
    | _ => none)
theorem m_law_on_ok (xm : Nat → Option kE) (N : Nat) {a0 : Nat} {a1 : Int32} {a2 : Int32} {a3 : Nat} {mem : kM} {R : kO × kM} (h : m_law_on xm N a0 a1 a2 a3 mem = some R) : kCa xm kSm kDfl kFty kG 3 255 [.ref a0, .int a1, .int a2, .ref a3] mem (dEq R) := by
  refine wq_ca (show 4 ≤ 5 by decide) ?_
  change kGo xm kSm kDfl kFty kG 2 255 0 [(0, .ref a0), (1, .int a1), (2, .int a2), (3, .ref a3)] [] mem (dEq R)
  unfold m_law_on at h
  refine wp_run 4 (pc' := 4) (lv' := [(0, .ref a0), (1, .int a1), (2, .int a2), (3, .ref a3)]) (st' := [.int a2, .int a1, .ref a0, .ref a3]) (mem' := mem) rfl ?_
  obtain ⟨fk4, hk4, h⟩ := dRc_some h
  refine wq_cX rfl (kCall_v hk4 (as := [.int a1, .int a2]) (rest := [.ref a3]) ⟨by decide, rfl, (show 2 < 90 by decide), by decide⟩ (show 1 ≤ 8 by decide)) h (fun r hr => ca_up (by decide) (m_K_on_ok xm N hr)) (fun v4 m4 h => ?_) (fun E m4 h => ?_)
  · refine wp_run 1 (pc' := 8) (lv' := [(0, .ref a0), (1, .int a1), (2, .int a2), (3, .ref a3)]) (st' := [.long (Int32.toInt64 v4), .ref a3]) (mem' := m4) rfl ?_
    refine wq_p rfl rfl h (fun m8 h => ?_)
    refine wp_run 2 (pc' := 19) (lv' := [(0, .ref a0), (1, .int a1), (2, .int a2), (3, .ref a3)]) (st' := [.int 0]) (mem' := m8) rfl ?_
    exact wq_ret rfl rfl h
  · match E, h with
    | 2, h =>
      refine ⟨16, 4, rfl, ?_⟩
      change kGo xm kSm kDfl kFty kG 2 255 16 [(0, .ref a0), (1, .int a1), (2, .int a2), (3, .ref a3)] [] m4 (dEq R)
      refine wp_run 1 (pc' := 17) (lv' := [(0, .ref a0), (1, .int a1), (2, .int a2), (3, .ref a3)]) (st' := [.int 1]) (mem' := m4) rfl ?_
      exact wq_ret rfl rfl h
    | 0, h => cases h
    | 1, h => cases h
    | (k + 3), h => cases h
/-- Knitstead.ofLoop(II)I -/
def m_K_ofLoop (xm : Nat → Option kE) (N : Nat) (a0 : Nat) (a1 : Int32) (a2 : Int32) (mem : kM) : dRes :=
  if a1 < 0 then (
    some (.inr 2, mem ++ [.inl (1000, [.null, .null, .null, .null, .null, .null])])
  ) else (
    dGR xm mem a0 11 1 fun v6 =>
    dGI xm mem v6 10 4 fun v9 =>
    if a1 < v9 then (
      if a2 < 0 then (
        some (.inr 0, mem ++ [.inl (1000, [.null, .null, .null, .null, .null, .null])])
      ) else (
        if a2 < 6 then (
          dRc xm mem a0 11 <|
          dCI (m_K_loopFact xm N a0 a1 a2 mem) fun v48 m48 =>
          some (.inl (some (.int v48)), m48)
        ) else (
          some (.inr 0, mem ++ [.inl (1000, [.null, .null, .null, .null, .null, .null])])
        )
      )
    ) else (
      some (.inr 2, mem ++ [.inl (1000, [.null, .null, .null, .null, .null, .null])])
    )
  )
theorem m_K_ofLoop_ok (xm : Nat → Option kE) (N : Nat) {a0 : Nat} {a1 : Int32} {a2 : Int32} {mem : kM} {R : kO × kM} (h : m_K_ofLoop xm N a0 a1 a2 mem = some R) : kCa xm kSm kDfl kFty kG 7 56 [.ref a0, .int a1, .int a2] mem (dEq R) := by
  refine wq_ca (show 3 ≤ 3 by decide) ?_
  change kGo xm kSm kDfl kFty kG 6 56 0 [(0, .ref a0), (1, .int a1), (2, .int a2)] [] mem (dEq R)
  unfold m_K_ofLoop at h
  refine wp_run 1 (pc' := 1) (lv' := [(0, .ref a0), (1, .int a1), (2, .int a2)]) (st' := [.int a1]) (mem' := mem) rfl ?_
  refine wq_lt rfl h (fun h => ?_) (fun h => ?_)
  · exact wq_end rfl rfl h
  · refine wp_run 2 (pc' := 6) (lv' := [(0, .ref a0), (1, .int a1), (2, .int a2)]) (st' := [.ref a0, .int a1]) (mem' := mem) rfl ?_
    refine wq_gR rfl h (fun v6 h => ?_)
    refine wq_gI rfl h (fun v9 h => ?_)
    refine wq_lt2 rfl h (fun h => ?_) (fun h => ?_)
    · refine wp_run 1 (pc' := 26) (lv' := [(0, .ref a0), (1, .int a1), (2, .int a2)]) (st' := [.int a2]) (mem' := mem) rfl ?_
      refine wq_lt rfl h (fun h => ?_) (fun h => ?_)
      · exact wq_end rfl rfl h
      · refine wp_run 2 (pc' := 32) (lv' := [(0, .ref a0), (1, .int a1), (2, .int a2)]) (st' := [.int 6, .int a2]) (mem' := mem) rfl ?_
        refine wq_lt2 rfl h (fun h => ?_) (fun h => ?_)
        · refine wp_run 3 (pc' := 48) (lv' := [(0, .ref a0), (1, .int a1), (2, .int a2)]) (st' := [.int a2, .int a1, .ref a0]) (mem' := mem) rfl ?_
          obtain ⟨fk48, hk48, h⟩ := dRc_some h
          refine wq_cI rfl (kCall_v hk48 (as := [.int a1, .int a2]) (rest := []) ⟨by decide, rfl, (show 2 < 90 by decide), by decide⟩ (show 0 ≤ 8 by decide)) h (fun r hr => ca_up (by decide) (m_K_loopFact_ok xm N hr)) (fun v48 m48 h => ?_)
          exact wq_ret rfl rfl h
        · exact wq_end rfl rfl h
    · exact wq_end rfl rfl h
/-- KnitsteadLaw.ofLoop(LKnitstead;IILKnitsteadLaw$Out;)I -/
def m_law_ofLoop (xm : Nat → Option kE) (N : Nat) (a0 : Nat) (a1 : Int32) (a2 : Int32) (a3 : Nat) (mem : kM) : dRes :=
  dRc xm mem a0 11 <|
  dCX (m_K_ofLoop xm N a0 a1 a2 mem) (fun v4 m4 =>
    dP xm m4 a3 12 0 (.long (Int32.toInt64 v4)) fun m8 =>
    some (.inl (some (.int 0)), m8)
  ) (fun E m4 => match E with
    | 0 =>
      some (.inl (some (.int 2)), m4)
    | 2 =>
      some (.inl (some (.int 1)), m4)
    | _ => none)
theorem m_law_ofLoop_ok (xm : Nat → Option kE) (N : Nat) {a0 : Nat} {a1 : Int32} {a2 : Int32} {a3 : Nat} {mem : kM} {R : kO × kM} (h : m_law_ofLoop xm N a0 a1 a2 a3 mem = some R) : kCa xm kSm kDfl kFty kG 8 256 [.ref a0, .int a1, .int a2, .ref a3] mem (dEq R) := by
  refine wq_ca (show 4 ≤ 5 by decide) ?_
  change kGo xm kSm kDfl kFty kG 7 256 0 [(0, .ref a0), (1, .int a1), (2, .int a2), (3, .ref a3)] [] mem (dEq R)
  unfold m_law_ofLoop at h
  refine wp_run 4 (pc' := 4) (lv' := [(0, .ref a0), (1, .int a1), (2, .int a2), (3, .ref a3)]) (st' := [.int a2, .int a1, .ref a0, .ref a3]) (mem' := mem) rfl ?_
  obtain ⟨fk4, hk4, h⟩ := dRc_some h
  refine wq_cX rfl (kCall_v hk4 (as := [.int a1, .int a2]) (rest := [.ref a3]) ⟨by decide, rfl, (show 2 < 90 by decide), by decide⟩ (show 1 ≤ 8 by decide)) h (fun r hr => ca_up (by decide) (m_K_ofLoop_ok xm N hr)) (fun v4 m4 h => ?_) (fun E m4 h => ?_)
  · refine wp_run 1 (pc' := 8) (lv' := [(0, .ref a0), (1, .int a1), (2, .int a2), (3, .ref a3)]) (st' := [.long (Int32.toInt64 v4), .ref a3]) (mem' := m4) rfl ?_
    refine wq_p rfl rfl h (fun m8 h => ?_)
    refine wp_run 2 (pc' := 23) (lv' := [(0, .ref a0), (1, .int a1), (2, .int a2), (3, .ref a3)]) (st' := [.int 0]) (mem' := m8) rfl ?_
    exact wq_ret rfl rfl h
  · match E, h with
    | 0, h =>
      refine ⟨20, 4, rfl, ?_⟩
      change kGo xm kSm kDfl kFty kG 7 256 20 [(0, .ref a0), (1, .int a1), (2, .int a2), (3, .ref a3)] [] m4 (dEq R)
      refine wp_run 1 (pc' := 21) (lv' := [(0, .ref a0), (1, .int a1), (2, .int a2), (3, .ref a3)]) (st' := [.int 2]) (mem' := m4) rfl ?_
      exact wq_ret rfl rfl h
    | 2, h =>
      refine ⟨16, 4, rfl, ?_⟩
      change kGo xm kSm kDfl kFty kG 7 256 16 [(0, .ref a0), (1, .int a1), (2, .int a2), (3, .ref a3)] [] m4 (dEq R)
      refine wp_run 1 (pc' := 17) (lv' := [(0, .ref a0), (1, .int a1), (2, .int a2), (3, .ref a3)]) (st' := [.int 1]) (mem' := m4) rfl ?_
      exact wq_ret rfl rfl h
    | 1, h => cases h
    | (k + 3), h => cases h
/-- Knitstead.ofRun(II)I -/
def m_K_ofRun (xm : Nat → Option kE) (N : Nat) (a0 : Nat) (a1 : Int32) (a2 : Int32) (mem : kM) : dRes :=
  if a1 < 0 then (
    some (.inr 2, mem ++ [.inl (1000, [.null, .null, .null, .null, .null, .null])])
  ) else (
    dGR xm mem a0 11 1 fun v6 =>
    dGI xm mem v6 10 3 fun v9 =>
    if a1 < v9 then (
      if a2 < 0 then (
        some (.inr 0, mem ++ [.inl (1000, [.null, .null, .null, .null, .null, .null])])
      ) else (
        if a2 < 4 then (
          dGR xm mem a0 11 1 fun v45 =>
          dGR xm mem v45 10 2 fun v48 =>
          dRc xm mem v48 8 <|
          dCI (m_Table_get xm N v48 a1 a2 mem) fun v53 m53 =>
          some (.inl (some (.int v53)), m53)
        ) else (
          some (.inr 0, mem ++ [.inl (1000, [.null, .null, .null, .null, .null, .null])])
        )
      )
    ) else (
      some (.inr 2, mem ++ [.inl (1000, [.null, .null, .null, .null, .null, .null])])
    )
  )
theorem m_K_ofRun_ok (xm : Nat → Option kE) (N : Nat) {a0 : Nat} {a1 : Int32} {a2 : Int32} {mem : kM} {R : kO × kM} (h : m_K_ofRun xm N a0 a1 a2 mem = some R) : kCa xm kSm kDfl kFty kG 3 57 [.ref a0, .int a1, .int a2] mem (dEq R) := by
  refine wq_ca (show 3 ≤ 3 by decide) ?_
  change kGo xm kSm kDfl kFty kG 2 57 0 [(0, .ref a0), (1, .int a1), (2, .int a2)] [] mem (dEq R)
  unfold m_K_ofRun at h
  refine wp_run 1 (pc' := 1) (lv' := [(0, .ref a0), (1, .int a1), (2, .int a2)]) (st' := [.int a1]) (mem' := mem) rfl ?_
  refine wq_lt rfl h (fun h => ?_) (fun h => ?_)
  · exact wq_end rfl rfl h
  · refine wp_run 2 (pc' := 6) (lv' := [(0, .ref a0), (1, .int a1), (2, .int a2)]) (st' := [.ref a0, .int a1]) (mem' := mem) rfl ?_
    refine wq_gR rfl h (fun v6 h => ?_)
    refine wq_gI rfl h (fun v9 h => ?_)
    refine wq_lt2 rfl h (fun h => ?_) (fun h => ?_)
    · refine wp_run 1 (pc' := 26) (lv' := [(0, .ref a0), (1, .int a1), (2, .int a2)]) (st' := [.int a2]) (mem' := mem) rfl ?_
      refine wq_lt rfl h (fun h => ?_) (fun h => ?_)
      · exact wq_end rfl rfl h
      · refine wp_run 2 (pc' := 31) (lv' := [(0, .ref a0), (1, .int a1), (2, .int a2)]) (st' := [.int 4, .int a2]) (mem' := mem) rfl ?_
        refine wq_lt2 rfl h (fun h => ?_) (fun h => ?_)
        · refine wp_run 1 (pc' := 45) (lv' := [(0, .ref a0), (1, .int a1), (2, .int a2)]) (st' := [.ref a0]) (mem' := mem) rfl ?_
          refine wq_gR rfl h (fun v45 h => ?_)
          refine wq_gR rfl h (fun v48 h => ?_)
          refine wp_run 2 (pc' := 53) (lv' := [(0, .ref a0), (1, .int a1), (2, .int a2)]) (st' := [.int a2, .int a1, .ref v48]) (mem' := mem) rfl ?_
          obtain ⟨fk53, hk53, h⟩ := dRc_some h
          refine wq_cI rfl (kCall_v hk53 (as := [.int a1, .int a2]) (rest := []) ⟨by decide, rfl, (show 2 < 90 by decide), by decide⟩ (show 0 ≤ 8 by decide)) h (fun r hr => ca_up (by decide) (m_Table_get_ok xm N hr)) (fun v53 m53 h => ?_)
          exact wq_ret rfl rfl h
        · exact wq_end rfl rfl h
    · exact wq_end rfl rfl h
/-- KnitsteadLaw.ofRun(LKnitstead;IILKnitsteadLaw$Out;)I -/
def m_law_ofRun (xm : Nat → Option kE) (N : Nat) (a0 : Nat) (a1 : Int32) (a2 : Int32) (a3 : Nat) (mem : kM) : dRes :=
  dRc xm mem a0 11 <|
  dCX (m_K_ofRun xm N a0 a1 a2 mem) (fun v4 m4 =>
    dP xm m4 a3 12 0 (.long (Int32.toInt64 v4)) fun m8 =>
    some (.inl (some (.int 0)), m8)
  ) (fun E m4 => match E with
    | 0 =>
      some (.inl (some (.int 2)), m4)
    | 2 =>
      some (.inl (some (.int 1)), m4)
    | _ => none)
theorem m_law_ofRun_ok (xm : Nat → Option kE) (N : Nat) {a0 : Nat} {a1 : Int32} {a2 : Int32} {a3 : Nat} {mem : kM} {R : kO × kM} (h : m_law_ofRun xm N a0 a1 a2 a3 mem = some R) : kCa xm kSm kDfl kFty kG 4 257 [.ref a0, .int a1, .int a2, .ref a3] mem (dEq R) := by
  refine wq_ca (show 4 ≤ 5 by decide) ?_
  change kGo xm kSm kDfl kFty kG 3 257 0 [(0, .ref a0), (1, .int a1), (2, .int a2), (3, .ref a3)] [] mem (dEq R)
  unfold m_law_ofRun at h
  refine wp_run 4 (pc' := 4) (lv' := [(0, .ref a0), (1, .int a1), (2, .int a2), (3, .ref a3)]) (st' := [.int a2, .int a1, .ref a0, .ref a3]) (mem' := mem) rfl ?_
  obtain ⟨fk4, hk4, h⟩ := dRc_some h
  refine wq_cX rfl (kCall_v hk4 (as := [.int a1, .int a2]) (rest := [.ref a3]) ⟨by decide, rfl, (show 2 < 90 by decide), by decide⟩ (show 1 ≤ 8 by decide)) h (fun r hr => ca_up (by decide) (m_K_ofRun_ok xm N hr)) (fun v4 m4 h => ?_) (fun E m4 h => ?_)
  · refine wp_run 1 (pc' := 8) (lv' := [(0, .ref a0), (1, .int a1), (2, .int a2), (3, .ref a3)]) (st' := [.long (Int32.toInt64 v4), .ref a3]) (mem' := m4) rfl ?_
    refine wq_p rfl rfl h (fun m8 h => ?_)
    refine wp_run 2 (pc' := 23) (lv' := [(0, .ref a0), (1, .int a1), (2, .int a2), (3, .ref a3)]) (st' := [.int 0]) (mem' := m8) rfl ?_
    exact wq_ret rfl rfl h
  · match E, h with
    | 0, h =>
      refine ⟨20, 4, rfl, ?_⟩
      change kGo xm kSm kDfl kFty kG 3 257 20 [(0, .ref a0), (1, .int a1), (2, .int a2), (3, .ref a3)] [] m4 (dEq R)
      refine wp_run 1 (pc' := 21) (lv' := [(0, .ref a0), (1, .int a1), (2, .int a2), (3, .ref a3)]) (st' := [.int 2]) (mem' := m4) rfl ?_
      exact wq_ret rfl rfl h
    | 2, h =>
      refine ⟨16, 4, rfl, ?_⟩
      change kGo xm kSm kDfl kFty kG 3 257 16 [(0, .ref a0), (1, .int a1), (2, .int a2), (3, .ref a3)] [] m4 (dEq R)
      refine wp_run 1 (pc' := 17) (lv' := [(0, .ref a0), (1, .int a1), (2, .int a2), (3, .ref a3)]) (st' := [.int 1]) (mem' := m4) rfl ?_
      exact wq_ret rfl rfl h
    | 1, h => cases h
    | (k + 3), h => cases h
/-- Knitstead.many(I)I -/
def m_K_many (xm : Nat → Option kE) (N : Nat) (a0 : Nat) (a1 : Int32) (mem : kM) : dRes :=
  if a1 < 0 then (
    some (.inr 0, mem ++ [.inl (1000, [.null, .null, .null, .null, .null, .null])])
  ) else (
    if a1 < 16 then (
      dRc xm mem a0 11 <|
      dCI (m_K_number xm N a0 a1 mem) fun v23 m23 =>
      some (.inl (some (.int v23)), m23)
    ) else (
      some (.inr 0, mem ++ [.inl (1000, [.null, .null, .null, .null, .null, .null])])
    )
  )
theorem m_K_many_ok (xm : Nat → Option kE) (N : Nat) {a0 : Nat} {a1 : Int32} {mem : kM} {R : kO × kM} (h : m_K_many xm N a0 a1 mem = some R) : kCa xm kSm kDfl kFty kG 6 60 [.ref a0, .int a1] mem (dEq R) := by
  refine wq_ca (show 2 ≤ 2 by decide) ?_
  change kGo xm kSm kDfl kFty kG 5 60 0 [(0, .ref a0), (1, .int a1)] [] mem (dEq R)
  unfold m_K_many at h
  refine wp_run 1 (pc' := 1) (lv' := [(0, .ref a0), (1, .int a1)]) (st' := [.int a1]) (mem' := mem) rfl ?_
  refine wq_lt rfl h (fun h => ?_) (fun h => ?_)
  · exact wq_end rfl rfl h
  · refine wp_run 2 (pc' := 7) (lv' := [(0, .ref a0), (1, .int a1)]) (st' := [.int 16, .int a1]) (mem' := mem) rfl ?_
    refine wq_lt2 rfl h (fun h => ?_) (fun h => ?_)
    · refine wp_run 2 (pc' := 23) (lv' := [(0, .ref a0), (1, .int a1)]) (st' := [.int a1, .ref a0]) (mem' := mem) rfl ?_
      obtain ⟨fk23, hk23, h⟩ := dRc_some h
      refine wq_cI rfl (kCall_v hk23 (as := [.int a1]) (rest := []) ⟨by decide, rfl, (show 1 < 90 by decide), by decide⟩ (show 0 ≤ 8 by decide)) h (fun r hr => ca_up (by decide) (m_K_number_ok xm N hr)) (fun v23 m23 h => ?_)
      exact wq_ret rfl rfl h
    · exact wq_end rfl rfl h
/-- KnitsteadLaw.many(LKnitstead;ILKnitsteadLaw$Out;)I -/
def m_law_many (xm : Nat → Option kE) (N : Nat) (a0 : Nat) (a1 : Int32) (a2 : Nat) (mem : kM) : dRes :=
  dRc xm mem a0 11 <|
  dCX (m_K_many xm N a0 a1 mem) (fun v3 m3 =>
    dP xm m3 a2 12 0 (.long (Int32.toInt64 v3)) fun m7 =>
    some (.inl (some (.int 0)), m7)
  ) (fun E m3 => match E with
    | 0 =>
      some (.inl (some (.int 1)), m3)
    | _ => none)
theorem m_law_many_ok (xm : Nat → Option kE) (N : Nat) {a0 : Nat} {a1 : Int32} {a2 : Nat} {mem : kM} {R : kO × kM} (h : m_law_many xm N a0 a1 a2 mem = some R) : kCa xm kSm kDfl kFty kG 7 258 [.ref a0, .int a1, .ref a2] mem (dEq R) := by
  refine wq_ca (show 3 ≤ 4 by decide) ?_
  change kGo xm kSm kDfl kFty kG 6 258 0 [(0, .ref a0), (1, .int a1), (2, .ref a2)] [] mem (dEq R)
  unfold m_law_many at h
  refine wp_run 3 (pc' := 3) (lv' := [(0, .ref a0), (1, .int a1), (2, .ref a2)]) (st' := [.int a1, .ref a0, .ref a2]) (mem' := mem) rfl ?_
  obtain ⟨fk3, hk3, h⟩ := dRc_some h
  refine wq_cX rfl (kCall_v hk3 (as := [.int a1]) (rest := [.ref a2]) ⟨by decide, rfl, (show 1 < 90 by decide), by decide⟩ (show 1 ≤ 8 by decide)) h (fun r hr => ca_up (by decide) (m_K_many_ok xm N hr)) (fun v3 m3 h => ?_) (fun E m3 h => ?_)
  · refine wp_run 1 (pc' := 7) (lv' := [(0, .ref a0), (1, .int a1), (2, .ref a2)]) (st' := [.long (Int32.toInt64 v3), .ref a2]) (mem' := m3) rfl ?_
    refine wq_p rfl rfl h (fun m7 h => ?_)
    refine wp_run 2 (pc' := 17) (lv' := [(0, .ref a0), (1, .int a1), (2, .ref a2)]) (st' := [.int 0]) (mem' := m7) rfl ?_
    exact wq_ret rfl rfl h
  · match E, h with
    | 0, h =>
      refine ⟨14, 3, rfl, ?_⟩
      change kGo xm kSm kDfl kFty kG 6 258 14 [(0, .ref a0), (1, .int a1), (2, .ref a2)] [] m3 (dEq R)
      refine wp_run 1 (pc' := 15) (lv' := [(0, .ref a0), (1, .int a1), (2, .ref a2)]) (st' := [.int 1]) (mem' := m3) rfl ?_
      exact wq_ret rfl rfl h
    | 1, h => cases h
    | 2, h => cases h
    | (k + 3), h => cases h
/-- Knitstead.left(I)I -/
def m_K_left (xm : Nat → Option kE) (N : Nat) (a0 : Nat) (a1 : Int32) (mem : kM) : dRes :=
  dGR xm mem a0 11 0 fun v1 =>
  dRc xm mem v1 5 <|
  dCI (m_Balls_has xm N v1 a1 mem) fun v5 m5 =>
  if v5 = 0 then (
    some (.inr 2, m5 ++ [.inl (1000, [.null, .null, .null, .null, .null, .null])])
  ) else (
    dGR xm m5 a0 11 0 fun v22 =>
    dRc xm m5 v22 5 <|
    dCI (m_Balls_of xm N v22 a1 m5) fun v26 m26 =>
    some (.inl (some (.int v26)), m26)
  )
theorem m_K_left_ok (xm : Nat → Option kE) (N : Nat) {a0 : Nat} {a1 : Int32} {mem : kM} {R : kO × kM} (h : m_K_left xm N a0 a1 mem = some R) : kCa xm kSm kDfl kFty kG 3 61 [.ref a0, .int a1] mem (dEq R) := by
  refine wq_ca (show 2 ≤ 2 by decide) ?_
  change kGo xm kSm kDfl kFty kG 2 61 0 [(0, .ref a0), (1, .int a1)] [] mem (dEq R)
  unfold m_K_left at h
  refine wp_run 1 (pc' := 1) (lv' := [(0, .ref a0), (1, .int a1)]) (st' := [.ref a0]) (mem' := mem) rfl ?_
  refine wq_gR rfl h (fun v1 h => ?_)
  refine wp_run 1 (pc' := 5) (lv' := [(0, .ref a0), (1, .int a1)]) (st' := [.int a1, .ref v1]) (mem' := mem) rfl ?_
  obtain ⟨fk5, hk5, h⟩ := dRc_some h
  refine wq_cI rfl (kCall_v hk5 (as := [.int a1]) (rest := []) ⟨by decide, rfl, (show 1 < 90 by decide), by decide⟩ (show 0 ≤ 8 by decide)) h (fun r hr => ca_up (by decide) (m_Balls_has_ok xm N hr)) (fun v5 m5 h => ?_)
  refine wq_ne rfl h (fun h => ?_) (fun h => ?_)
  · exact wq_end rfl rfl h
  · refine wp_run 1 (pc' := 22) (lv' := [(0, .ref a0), (1, .int a1)]) (st' := [.ref a0]) (mem' := m5) rfl ?_
    refine wq_gR rfl h (fun v22 h => ?_)
    refine wp_run 1 (pc' := 26) (lv' := [(0, .ref a0), (1, .int a1)]) (st' := [.int a1, .ref v22]) (mem' := m5) rfl ?_
    obtain ⟨fk26, hk26, h⟩ := dRc_some h
    refine wq_cI rfl (kCall_v hk26 (as := [.int a1]) (rest := []) ⟨by decide, rfl, (show 1 < 90 by decide), by decide⟩ (show 0 ≤ 8 by decide)) h (fun r hr => ca_up (by decide) (m_Balls_of_ok xm N hr)) (fun v26 m26 h => ?_)
    exact wq_ret rfl rfl h
/-- KnitsteadLaw.left(LKnitstead;ILKnitsteadLaw$Out;)I -/
def m_law_left (xm : Nat → Option kE) (N : Nat) (a0 : Nat) (a1 : Int32) (a2 : Nat) (mem : kM) : dRes :=
  dRc xm mem a0 11 <|
  dCX (m_K_left xm N a0 a1 mem) (fun v3 m3 =>
    dP xm m3 a2 12 0 (.long (Int32.toInt64 v3)) fun m7 =>
    some (.inl (some (.int 0)), m7)
  ) (fun E m3 => match E with
    | 2 =>
      some (.inl (some (.int 1)), m3)
    | _ => none)
theorem m_law_left_ok (xm : Nat → Option kE) (N : Nat) {a0 : Nat} {a1 : Int32} {a2 : Nat} {mem : kM} {R : kO × kM} (h : m_law_left xm N a0 a1 a2 mem = some R) : kCa xm kSm kDfl kFty kG 4 259 [.ref a0, .int a1, .ref a2] mem (dEq R) := by
  refine wq_ca (show 3 ≤ 4 by decide) ?_
  change kGo xm kSm kDfl kFty kG 3 259 0 [(0, .ref a0), (1, .int a1), (2, .ref a2)] [] mem (dEq R)
  unfold m_law_left at h
  refine wp_run 3 (pc' := 3) (lv' := [(0, .ref a0), (1, .int a1), (2, .ref a2)]) (st' := [.int a1, .ref a0, .ref a2]) (mem' := mem) rfl ?_
  obtain ⟨fk3, hk3, h⟩ := dRc_some h
  refine wq_cX rfl (kCall_v hk3 (as := [.int a1]) (rest := [.ref a2]) ⟨by decide, rfl, (show 1 < 90 by decide), by decide⟩ (show 1 ≤ 8 by decide)) h (fun r hr => ca_up (by decide) (m_K_left_ok xm N hr)) (fun v3 m3 h => ?_) (fun E m3 h => ?_)
  · refine wp_run 1 (pc' := 7) (lv' := [(0, .ref a0), (1, .int a1), (2, .ref a2)]) (st' := [.long (Int32.toInt64 v3), .ref a2]) (mem' := m3) rfl ?_
    refine wq_p rfl rfl h (fun m7 h => ?_)
    refine wp_run 2 (pc' := 17) (lv' := [(0, .ref a0), (1, .int a1), (2, .ref a2)]) (st' := [.int 0]) (mem' := m7) rfl ?_
    exact wq_ret rfl rfl h
  · match E, h with
    | 2, h =>
      refine ⟨14, 3, rfl, ?_⟩
      change kGo xm kSm kDfl kFty kG 3 259 14 [(0, .ref a0), (1, .int a1), (2, .ref a2)] [] m3 (dEq R)
      refine wp_run 1 (pc' := 15) (lv' := [(0, .ref a0), (1, .int a1), (2, .ref a2)]) (st' := [.int 1]) (mem' := m3) rfl ?_
      exact wq_ret rfl rfl h
    | 0, h => cases h
    | 1, h => cases h
    | (k + 3), h => cases h
/-- Knitstead.ofPattern(II)I -/
def m_K_ofPattern (xm : Nat → Option kE) (N : Nat) (a0 : Nat) (a1 : Int32) (a2 : Int32) (mem : kM) : dRes :=
  dRc xm mem a0 11 <|
  dCI (m_K_hasPattern xm N a0 a1 mem) fun v2 m2 =>
  if v2 = 0 then (
    some (.inr 2, m2 ++ [.inl (1000, [.null, .null, .null, .null, .null, .null])])
  ) else (
    if a2 < 0 then (
      some (.inr 0, m2 ++ [.inl (1000, [.null, .null, .null, .null, .null, .null])])
    ) else (
      if a2 < 5 then (
        dGR xm m2 a0 11 3 fun v39 =>
        dRc xm m2 v39 8 <|
        dCI (m_Table_get xm N v39 a1 a2 m2) fun v44 m44 =>
        some (.inl (some (.int v44)), m44)
      ) else (
        some (.inr 0, m2 ++ [.inl (1000, [.null, .null, .null, .null, .null, .null])])
      )
    )
  )
theorem m_K_ofPattern_ok (xm : Nat → Option kE) (N : Nat) {a0 : Nat} {a1 : Int32} {a2 : Int32} {mem : kM} {R : kO × kM} (h : m_K_ofPattern xm N a0 a1 a2 mem = some R) : kCa xm kSm kDfl kFty kG 3 62 [.ref a0, .int a1, .int a2] mem (dEq R) := by
  refine wq_ca (show 3 ≤ 3 by decide) ?_
  change kGo xm kSm kDfl kFty kG 2 62 0 [(0, .ref a0), (1, .int a1), (2, .int a2)] [] mem (dEq R)
  unfold m_K_ofPattern at h
  refine wp_run 2 (pc' := 2) (lv' := [(0, .ref a0), (1, .int a1), (2, .int a2)]) (st' := [.int a1, .ref a0]) (mem' := mem) rfl ?_
  obtain ⟨fk2, hk2, h⟩ := dRc_some h
  refine wq_cI rfl (kCall_v hk2 (as := [.int a1]) (rest := []) ⟨by decide, rfl, (show 1 < 90 by decide), by decide⟩ (show 0 ≤ 8 by decide)) h (fun r hr => ca_up (by decide) (m_K_hasPattern_ok xm N hr)) (fun v2 m2 h => ?_)
  refine wq_ne rfl h (fun h => ?_) (fun h => ?_)
  · exact wq_end rfl rfl h
  · refine wp_run 1 (pc' := 19) (lv' := [(0, .ref a0), (1, .int a1), (2, .int a2)]) (st' := [.int a2]) (mem' := m2) rfl ?_
    refine wq_lt rfl h (fun h => ?_) (fun h => ?_)
    · exact wq_end rfl rfl h
    · refine wp_run 2 (pc' := 24) (lv' := [(0, .ref a0), (1, .int a1), (2, .int a2)]) (st' := [.int 5, .int a2]) (mem' := m2) rfl ?_
      refine wq_lt2 rfl h (fun h => ?_) (fun h => ?_)
      · refine wp_run 1 (pc' := 39) (lv' := [(0, .ref a0), (1, .int a1), (2, .int a2)]) (st' := [.ref a0]) (mem' := m2) rfl ?_
        refine wq_gR rfl h (fun v39 h => ?_)
        refine wp_run 2 (pc' := 44) (lv' := [(0, .ref a0), (1, .int a1), (2, .int a2)]) (st' := [.int a2, .int a1, .ref v39]) (mem' := m2) rfl ?_
        obtain ⟨fk44, hk44, h⟩ := dRc_some h
        refine wq_cI rfl (kCall_v hk44 (as := [.int a1, .int a2]) (rest := []) ⟨by decide, rfl, (show 2 < 90 by decide), by decide⟩ (show 0 ≤ 8 by decide)) h (fun r hr => ca_up (by decide) (m_Table_get_ok xm N hr)) (fun v44 m44 h => ?_)
        exact wq_ret rfl rfl h
      · exact wq_end rfl rfl h
/-- KnitsteadLaw.ofPattern(LKnitstead;IILKnitsteadLaw$Out;)I -/
def m_law_ofPattern (xm : Nat → Option kE) (N : Nat) (a0 : Nat) (a1 : Int32) (a2 : Int32) (a3 : Nat) (mem : kM) : dRes :=
  dRc xm mem a0 11 <|
  dCX (m_K_ofPattern xm N a0 a1 a2 mem) (fun v4 m4 =>
    dP xm m4 a3 12 0 (.long (Int32.toInt64 v4)) fun m8 =>
    some (.inl (some (.int 0)), m8)
  ) (fun E m4 => match E with
    | 0 =>
      some (.inl (some (.int 2)), m4)
    | 2 =>
      some (.inl (some (.int 1)), m4)
    | _ => none)
theorem m_law_ofPattern_ok (xm : Nat → Option kE) (N : Nat) {a0 : Nat} {a1 : Int32} {a2 : Int32} {a3 : Nat} {mem : kM} {R : kO × kM} (h : m_law_ofPattern xm N a0 a1 a2 a3 mem = some R) : kCa xm kSm kDfl kFty kG 4 260 [.ref a0, .int a1, .int a2, .ref a3] mem (dEq R) := by
  refine wq_ca (show 4 ≤ 5 by decide) ?_
  change kGo xm kSm kDfl kFty kG 3 260 0 [(0, .ref a0), (1, .int a1), (2, .int a2), (3, .ref a3)] [] mem (dEq R)
  unfold m_law_ofPattern at h
  refine wp_run 4 (pc' := 4) (lv' := [(0, .ref a0), (1, .int a1), (2, .int a2), (3, .ref a3)]) (st' := [.int a2, .int a1, .ref a0, .ref a3]) (mem' := mem) rfl ?_
  obtain ⟨fk4, hk4, h⟩ := dRc_some h
  refine wq_cX rfl (kCall_v hk4 (as := [.int a1, .int a2]) (rest := [.ref a3]) ⟨by decide, rfl, (show 2 < 90 by decide), by decide⟩ (show 1 ≤ 8 by decide)) h (fun r hr => ca_up (by decide) (m_K_ofPattern_ok xm N hr)) (fun v4 m4 h => ?_) (fun E m4 h => ?_)
  · refine wp_run 1 (pc' := 8) (lv' := [(0, .ref a0), (1, .int a1), (2, .int a2), (3, .ref a3)]) (st' := [.long (Int32.toInt64 v4), .ref a3]) (mem' := m4) rfl ?_
    refine wq_p rfl rfl h (fun m8 h => ?_)
    refine wp_run 2 (pc' := 23) (lv' := [(0, .ref a0), (1, .int a1), (2, .int a2), (3, .ref a3)]) (st' := [.int 0]) (mem' := m8) rfl ?_
    exact wq_ret rfl rfl h
  · match E, h with
    | 0, h =>
      refine ⟨20, 4, rfl, ?_⟩
      change kGo xm kSm kDfl kFty kG 3 260 20 [(0, .ref a0), (1, .int a1), (2, .int a2), (3, .ref a3)] [] m4 (dEq R)
      refine wp_run 1 (pc' := 21) (lv' := [(0, .ref a0), (1, .int a1), (2, .int a2), (3, .ref a3)]) (st' := [.int 2]) (mem' := m4) rfl ?_
      exact wq_ret rfl rfl h
    | 2, h =>
      refine ⟨16, 4, rfl, ?_⟩
      change kGo xm kSm kDfl kFty kG 3 260 16 [(0, .ref a0), (1, .int a1), (2, .int a2), (3, .ref a3)] [] m4 (dEq R)
      refine wp_run 1 (pc' := 17) (lv' := [(0, .ref a0), (1, .int a1), (2, .int a2), (3, .ref a3)]) (st' := [.int 1]) (mem' := m4) rfl ?_
      exact wq_ret rfl rfl h
    | 1, h => cases h
    | (k + 3), h => cases h
/-- Knitstead.would(I)I -/
def m_K_would (xm : Nat → Option kE) (N : Nat) (a0 : Nat) (a1 : Int32) (mem : kM) : dRes :=
  dRc xm mem a0 11 <|
  dCI (m_K_hasPattern xm N a0 a1 mem) fun v2 m2 =>
  if v2 = 0 then (
    some (.inr 2, m2 ++ [.inl (1000, [.null, .null, .null, .null, .null, .null])])
  ) else (
    dRc xm m2 a0 11 <|
    dCV (m_K_tryOut xm N a0 a1 m2) fun m20 =>
    dGR xm m20 a0 11 6 fun v24 =>
    dGI xm m20 v24 9 1 fun v27 =>
    some (.inl (some (.int v27)), m20)
  )
theorem m_K_would_ok (xm : Nat → Option kE) (N : Nat) {a0 : Nat} {a1 : Int32} {mem : kM} {R : kO × kM} (h : m_K_would xm N a0 a1 mem = some R) : kCa xm kSm kDfl kFty kG 5 63 [.ref a0, .int a1] mem (dEq R) := by
  refine wq_ca (show 2 ≤ 2 by decide) ?_
  change kGo xm kSm kDfl kFty kG 4 63 0 [(0, .ref a0), (1, .int a1)] [] mem (dEq R)
  unfold m_K_would at h
  refine wp_run 2 (pc' := 2) (lv' := [(0, .ref a0), (1, .int a1)]) (st' := [.int a1, .ref a0]) (mem' := mem) rfl ?_
  obtain ⟨fk2, hk2, h⟩ := dRc_some h
  refine wq_cI rfl (kCall_v hk2 (as := [.int a1]) (rest := []) ⟨by decide, rfl, (show 1 < 90 by decide), by decide⟩ (show 0 ≤ 8 by decide)) h (fun r hr => ca_up (by decide) (m_K_hasPattern_ok xm N hr)) (fun v2 m2 h => ?_)
  refine wq_ne rfl h (fun h => ?_) (fun h => ?_)
  · exact wq_end rfl rfl h
  · refine wp_run 2 (pc' := 20) (lv' := [(0, .ref a0), (1, .int a1)]) (st' := [.int a1, .ref a0]) (mem' := m2) rfl ?_
    obtain ⟨fk20, hk20, h⟩ := dRc_some h
    refine wq_cV rfl (kCall_v hk20 (as := [.int a1]) (rest := []) ⟨by decide, rfl, (show 1 < 90 by decide), by decide⟩ (show 0 ≤ 8 by decide)) h (fun r hr => ca_up (by decide) (m_K_tryOut_ok xm N hr)) (fun m20 h => ?_)
    refine wp_run 1 (pc' := 24) (lv' := [(0, .ref a0), (1, .int a1)]) (st' := [.ref a0]) (mem' := m20) rfl ?_
    refine wq_gR rfl h (fun v24 h => ?_)
    refine wq_gI rfl h (fun v27 h => ?_)
    exact wq_ret rfl rfl h
/-- KnitsteadLaw.would(LKnitstead;ILKnitsteadLaw$Out;)I -/
def m_law_would (xm : Nat → Option kE) (N : Nat) (a0 : Nat) (a1 : Int32) (a2 : Nat) (mem : kM) : dRes :=
  dRc xm mem a0 11 <|
  dCX (m_K_would xm N a0 a1 mem) (fun v3 m3 =>
    dP xm m3 a2 12 0 (.long (Int32.toInt64 v3)) fun m7 =>
    some (.inl (some (.int 0)), m7)
  ) (fun E m3 => match E with
    | 2 =>
      some (.inl (some (.int 1)), m3)
    | _ => none)
theorem m_law_would_ok (xm : Nat → Option kE) (N : Nat) {a0 : Nat} {a1 : Int32} {a2 : Nat} {mem : kM} {R : kO × kM} (h : m_law_would xm N a0 a1 a2 mem = some R) : kCa xm kSm kDfl kFty kG 6 261 [.ref a0, .int a1, .ref a2] mem (dEq R) := by
  refine wq_ca (show 3 ≤ 4 by decide) ?_
  change kGo xm kSm kDfl kFty kG 5 261 0 [(0, .ref a0), (1, .int a1), (2, .ref a2)] [] mem (dEq R)
  unfold m_law_would at h
  refine wp_run 3 (pc' := 3) (lv' := [(0, .ref a0), (1, .int a1), (2, .ref a2)]) (st' := [.int a1, .ref a0, .ref a2]) (mem' := mem) rfl ?_
  obtain ⟨fk3, hk3, h⟩ := dRc_some h
  refine wq_cX rfl (kCall_v hk3 (as := [.int a1]) (rest := [.ref a2]) ⟨by decide, rfl, (show 1 < 90 by decide), by decide⟩ (show 1 ≤ 8 by decide)) h (fun r hr => ca_up (by decide) (m_K_would_ok xm N hr)) (fun v3 m3 h => ?_) (fun E m3 h => ?_)
  · refine wp_run 1 (pc' := 7) (lv' := [(0, .ref a0), (1, .int a1), (2, .ref a2)]) (st' := [.long (Int32.toInt64 v3), .ref a2]) (mem' := m3) rfl ?_
    refine wq_p rfl rfl h (fun m7 h => ?_)
    refine wp_run 2 (pc' := 17) (lv' := [(0, .ref a0), (1, .int a1), (2, .ref a2)]) (st' := [.int 0]) (mem' := m7) rfl ?_
    exact wq_ret rfl rfl h
  · match E, h with
    | 2, h =>
      refine ⟨14, 3, rfl, ?_⟩
      change kGo xm kSm kDfl kFty kG 5 261 14 [(0, .ref a0), (1, .int a1), (2, .ref a2)] [] m3 (dEq R)
      refine wp_run 1 (pc' := 15) (lv' := [(0, .ref a0), (1, .int a1), (2, .ref a2)]) (st' := [.int 1]) (mem' := m3) rfl ?_
      exact wq_ret rfl rfl h
    | 0, h => cases h
    | 1, h => cases h
    | (k + 3), h => cases h
/-- Knitstead.needs(I)I -/
def m_K_needs (xm : Nat → Option kE) (N : Nat) (a0 : Nat) (a1 : Int32) (mem : kM) : dRes :=
  dRc xm mem a0 11 <|
  dCI (m_K_hasPattern xm N a0 a1 mem) fun v2 m2 =>
  if v2 = 0 then (
    some (.inr 2, m2 ++ [.inl (1000, [.null, .null, .null, .null, .null, .null])])
  ) else (
    dRc xm m2 a0 11 <|
    dCV (m_K_tryOut xm N a0 a1 m2) fun m20 =>
    dGR xm m20 a0 11 6 fun v24 =>
    dGI xm m20 v24 9 3 fun v27 =>
    some (.inl (some (.int v27)), m20)
  )
theorem m_K_needs_ok (xm : Nat → Option kE) (N : Nat) {a0 : Nat} {a1 : Int32} {mem : kM} {R : kO × kM} (h : m_K_needs xm N a0 a1 mem = some R) : kCa xm kSm kDfl kFty kG 5 64 [.ref a0, .int a1] mem (dEq R) := by
  refine wq_ca (show 2 ≤ 2 by decide) ?_
  change kGo xm kSm kDfl kFty kG 4 64 0 [(0, .ref a0), (1, .int a1)] [] mem (dEq R)
  unfold m_K_needs at h
  refine wp_run 2 (pc' := 2) (lv' := [(0, .ref a0), (1, .int a1)]) (st' := [.int a1, .ref a0]) (mem' := mem) rfl ?_
  obtain ⟨fk2, hk2, h⟩ := dRc_some h
  refine wq_cI rfl (kCall_v hk2 (as := [.int a1]) (rest := []) ⟨by decide, rfl, (show 1 < 90 by decide), by decide⟩ (show 0 ≤ 8 by decide)) h (fun r hr => ca_up (by decide) (m_K_hasPattern_ok xm N hr)) (fun v2 m2 h => ?_)
  refine wq_ne rfl h (fun h => ?_) (fun h => ?_)
  · exact wq_end rfl rfl h
  · refine wp_run 2 (pc' := 20) (lv' := [(0, .ref a0), (1, .int a1)]) (st' := [.int a1, .ref a0]) (mem' := m2) rfl ?_
    obtain ⟨fk20, hk20, h⟩ := dRc_some h
    refine wq_cV rfl (kCall_v hk20 (as := [.int a1]) (rest := []) ⟨by decide, rfl, (show 1 < 90 by decide), by decide⟩ (show 0 ≤ 8 by decide)) h (fun r hr => ca_up (by decide) (m_K_tryOut_ok xm N hr)) (fun m20 h => ?_)
    refine wp_run 1 (pc' := 24) (lv' := [(0, .ref a0), (1, .int a1)]) (st' := [.ref a0]) (mem' := m20) rfl ?_
    refine wq_gR rfl h (fun v24 h => ?_)
    refine wq_gI rfl h (fun v27 h => ?_)
    exact wq_ret rfl rfl h
/-- KnitsteadLaw.needs(LKnitstead;ILKnitsteadLaw$Out;)I -/
def m_law_needs (xm : Nat → Option kE) (N : Nat) (a0 : Nat) (a1 : Int32) (a2 : Nat) (mem : kM) : dRes :=
  dRc xm mem a0 11 <|
  dCX (m_K_needs xm N a0 a1 mem) (fun v3 m3 =>
    dP xm m3 a2 12 0 (.long (Int32.toInt64 v3)) fun m7 =>
    some (.inl (some (.int 0)), m7)
  ) (fun E m3 => match E with
    | 2 =>
      some (.inl (some (.int 1)), m3)
    | _ => none)
theorem m_law_needs_ok (xm : Nat → Option kE) (N : Nat) {a0 : Nat} {a1 : Int32} {a2 : Nat} {mem : kM} {R : kO × kM} (h : m_law_needs xm N a0 a1 a2 mem = some R) : kCa xm kSm kDfl kFty kG 6 262 [.ref a0, .int a1, .ref a2] mem (dEq R) := by
  refine wq_ca (show 3 ≤ 4 by decide) ?_
  change kGo xm kSm kDfl kFty kG 5 262 0 [(0, .ref a0), (1, .int a1), (2, .ref a2)] [] mem (dEq R)
  unfold m_law_needs at h
  refine wp_run 3 (pc' := 3) (lv' := [(0, .ref a0), (1, .int a1), (2, .ref a2)]) (st' := [.int a1, .ref a0, .ref a2]) (mem' := mem) rfl ?_
  obtain ⟨fk3, hk3, h⟩ := dRc_some h
  refine wq_cX rfl (kCall_v hk3 (as := [.int a1]) (rest := [.ref a2]) ⟨by decide, rfl, (show 1 < 90 by decide), by decide⟩ (show 1 ≤ 8 by decide)) h (fun r hr => ca_up (by decide) (m_K_needs_ok xm N hr)) (fun v3 m3 h => ?_) (fun E m3 h => ?_)
  · refine wp_run 1 (pc' := 7) (lv' := [(0, .ref a0), (1, .int a1), (2, .ref a2)]) (st' := [.long (Int32.toInt64 v3), .ref a2]) (mem' := m3) rfl ?_
    refine wq_p rfl rfl h (fun m7 h => ?_)
    refine wp_run 2 (pc' := 17) (lv' := [(0, .ref a0), (1, .int a1), (2, .ref a2)]) (st' := [.int 0]) (mem' := m7) rfl ?_
    exact wq_ret rfl rfl h
  · match E, h with
    | 2, h =>
      refine ⟨14, 3, rfl, ?_⟩
      change kGo xm kSm kDfl kFty kG 5 262 14 [(0, .ref a0), (1, .int a1), (2, .ref a2)] [] m3 (dEq R)
      refine wp_run 1 (pc' := 15) (lv' := [(0, .ref a0), (1, .int a1), (2, .ref a2)]) (st' := [.int 1]) (mem' := m3) rfl ?_
      exact wq_ret rfl rfl h
    | 0, h => cases h
    | 1, h => cases h
    | (k + 3), h => cases h
