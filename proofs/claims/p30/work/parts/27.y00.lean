set_option maxRecDepth 20000
section
variable {z : Value}
/-- Knitstead$Balls.has(I)Z -/
def m_Balls_has (xm : Nat → Option kE) (N : Nat) (a0 : Nat) (a1 : Int32) (mem : kM) : dRes :=
  if a1 < 0 then (
    some (.inl (some (.int 0)), mem)
  ) else (
    dGI xm mem a0 5 1 fun v6 =>
    if a1 < v6 then (
      dGR xm mem a0 5 0 fun v14 =>
      dLen xm mem v14 fun v17 =>
      if a1 < v17 then (
        some (.inl (some (.int 1)), mem)
      ) else (
        some (.inl (some (.int 0)), mem)
      )
    ) else (
      some (.inl (some (.int 0)), mem)
    )
  )
theorem m_Balls_has_ok (hz : z.category = 1) (xm : Nat → Option kE) (N : Nat) {a0 : Nat} {a1 : Int32} {mem : kM} {R : kO × kM} (h : m_Balls_has xm N a0 a1 mem = some R) : kCa xm (kSm z) kDfl kFty kG 1 2 [.ref a0, .int a1] mem (dEq R) := by
  refine wq_ca (show 2 ≤ 2 by decide) ?_
  change kGo xm (kSm z) kDfl kFty kG 0 2 0 [(0, .ref a0), (1, .int a1)] [] mem (dEq R)
  unfold m_Balls_has at h
  refine wp_run 1 (pc' := 1) (lv' := [(0, .ref a0), (1, .int a1)]) (st' := [.int a1]) (mem' := mem) rfl ?_
  refine wq_lt rfl h (fun h => ?_) (fun h => ?_)
  · refine wp_run 1 (pc' := 26) (lv' := [(0, .ref a0), (1, .int a1)]) (st' := [.int 0]) (mem' := mem) rfl ?_
    exact wq_ret rfl rfl h
  · refine wp_run 2 (pc' := 6) (lv' := [(0, .ref a0), (1, .int a1)]) (st' := [.ref a0, .int a1]) (mem' := mem) rfl ?_
    refine wq_gI rfl h (fun v6 h => ?_)
    refine wq_ge2 rfl h (fun h => ?_) (fun h => ?_)
    · refine wp_run 2 (pc' := 14) (lv' := [(0, .ref a0), (1, .int a1)]) (st' := [.ref a0, .int a1]) (mem' := mem) rfl ?_
      refine wq_gR rfl h (fun v14 h => ?_)
      refine wq_len rfl h (fun v17 h => ?_)
      refine wq_ge2 rfl h (fun h => ?_) (fun h => ?_)
      · refine wp_run 2 (pc' := 26) (lv' := [(0, .ref a0), (1, .int a1)]) (st' := [.int 1]) (mem' := mem) rfl ?_
        exact wq_ret rfl rfl h
      · refine wp_run 1 (pc' := 26) (lv' := [(0, .ref a0), (1, .int a1)]) (st' := [.int 0]) (mem' := mem) rfl ?_
        exact wq_ret rfl rfl h
    · refine wp_run 1 (pc' := 26) (lv' := [(0, .ref a0), (1, .int a1)]) (st' := [.int 0]) (mem' := mem) rfl ?_
      exact wq_ret rfl rfl h
/-- Knitstead$Balls.of(I)I -/
def m_Balls_of (xm : Nat → Option kE) (N : Nat) (a0 : Nat) (a1 : Int32) (mem : kM) : dRes :=
  dRc xm mem a0 5 <|
  dCI (m_Balls_has xm N a0 a1 mem) fun v2 m2 =>
  if v2 = 0 then (
    some (.inl (some (.int 0)), m2)
  ) else (
    dGR xm m2 a0 5 0 fun v9 =>
    dIL xm 0 m2 v9 a1 fun v13 =>
    some (.inl (some (.int v13)), m2)
  )
theorem m_Balls_of_ok (hz : z.category = 1) (xm : Nat → Option kE) (N : Nat) {a0 : Nat} {a1 : Int32} {mem : kM} {R : kO × kM} (h : m_Balls_of xm N a0 a1 mem = some R) : kCa xm (kSm z) kDfl kFty kG 2 4 [.ref a0, .int a1] mem (dEq R) := by
  refine wq_ca (show 2 ≤ 2 by decide) ?_
  change kGo xm (kSm z) kDfl kFty kG 1 4 0 [(0, .ref a0), (1, .int a1)] [] mem (dEq R)
  unfold m_Balls_of at h
  refine wp_run 2 (pc' := 2) (lv' := [(0, .ref a0), (1, .int a1)]) (st' := [.int a1, .ref a0]) (mem' := mem) rfl ?_
  obtain ⟨fk2, hk2, h⟩ := dRc_some h
  refine wq_cI rfl (kCall_v hk2 (as := [.int a1]) (rest := []) ⟨by decide, rfl, (show 1 < 90 by decide), by decide⟩ (show 0 ≤ 8 by decide)) h (fun r hr => ca_up (by decide) (m_Balls_has_ok hz xm N hr)) (fun v2 m2 h => ?_)
  refine wq_eq rfl h (fun h => ?_) (fun h => ?_)
  · refine wp_run 1 (pc' := 18) (lv' := [(0, .ref a0), (1, .int a1)]) (st' := [.int 0]) (mem' := m2) rfl ?_
    exact wq_ret rfl rfl h
  · refine wp_run 1 (pc' := 9) (lv' := [(0, .ref a0), (1, .int a1)]) (st' := [.ref a0]) (mem' := m2) rfl ?_
    refine wq_gR rfl h (fun v9 h => ?_)
    refine wp_run 1 (pc' := 13) (lv' := [(0, .ref a0), (1, .int a1)]) (st' := [.int a1, .ref v9]) (mem' := m2) rfl ?_
    refine wq_iL rfl h (fun v13 h => ?_)
    refine wp_run 1 (pc' := 18) (lv' := [(0, .ref a0), (1, .int a1)]) (st' := [.int v13]) (mem' := m2) rfl ?_
    exact wq_ret rfl rfl h
/-- Knitstead$Balls.ofJoined()I -/
def m_Balls_ofJoined (xm : Nat → Option kE) (N : Nat) (a0 : Nat) (mem : kM) : dRes :=
  dGI xm mem a0 5 2 fun v2 =>
  dRc xm mem a0 5 <|
  dCI (m_Balls_of xm N a0 v2 mem) fun v5 m5 =>
  some (.inl (some (.int v5)), m5)
theorem m_Balls_ofJoined_ok (hz : z.category = 1) (xm : Nat → Option kE) (N : Nat) {a0 : Nat} {mem : kM} {R : kO × kM} (h : m_Balls_ofJoined xm N a0 mem = some R) : kCa xm (kSm z) kDfl kFty kG 3 6 [.ref a0] mem (dEq R) := by
  refine wq_ca (show 1 ≤ 1 by decide) ?_
  change kGo xm (kSm z) kDfl kFty kG 2 6 0 [(0, .ref a0)] [] mem (dEq R)
  unfold m_Balls_ofJoined at h
  refine wp_run 2 (pc' := 2) (lv' := [(0, .ref a0)]) (st' := [.ref a0, .ref a0]) (mem' := mem) rfl ?_
  refine wq_gI rfl h (fun v2 h => ?_)
  obtain ⟨fk5, hk5, h⟩ := dRc_some h
  refine wq_cI rfl (kCall_v hk5 (as := [.int v2]) (rest := []) ⟨by decide, rfl, (show 1 < 90 by decide), by decide⟩ (show 0 ≤ 8 by decide)) h (fun r hr => ca_up (by decide) (m_Balls_of_ok hz xm N hr)) (fun v5 m5 h => ?_)
  exact wq_ret rfl rfl h
/-- Knitstead$History.isSlot(I)Z -/
def m_History_isSlot (xm : Nat → Option kE) (N : Nat) (a0 : Nat) (a1 : Int32) (mem : kM) : dRes :=
  if a1 < 0 then (
    some (.inl (some (.int 0)), mem)
  ) else (
    dGR xm mem a0 6 0 fun v6 =>
    dLen xm mem v6 fun v9 =>
    if a1 < v9 then (
      dGR xm mem a0 6 1 fun v15 =>
      dLen xm mem v15 fun v18 =>
      if a1 < v18 then (
        dGR xm mem a0 6 2 fun v24 =>
        dLen xm mem v24 fun v27 =>
        if a1 < v27 then (
          some (.inl (some (.int 1)), mem)
        ) else (
          some (.inl (some (.int 0)), mem)
        )
      ) else (
        some (.inl (some (.int 0)), mem)
      )
    ) else (
      some (.inl (some (.int 0)), mem)
    )
  )
theorem m_History_isSlot_ok (hz : z.category = 1) (xm : Nat → Option kE) (N : Nat) {a0 : Nat} {a1 : Int32} {mem : kM} {R : kO × kM} (h : m_History_isSlot xm N a0 a1 mem = some R) : kCa xm (kSm z) kDfl kFty kG 1 10 [.ref a0, .int a1] mem (dEq R) := by
  refine wq_ca (show 2 ≤ 2 by decide) ?_
  change kGo xm (kSm z) kDfl kFty kG 0 10 0 [(0, .ref a0), (1, .int a1)] [] mem (dEq R)
  unfold m_History_isSlot at h
  refine wp_run 1 (pc' := 1) (lv' := [(0, .ref a0), (1, .int a1)]) (st' := [.int a1]) (mem' := mem) rfl ?_
  refine wq_lt rfl h (fun h => ?_) (fun h => ?_)
  · refine wp_run 1 (pc' := 36) (lv' := [(0, .ref a0), (1, .int a1)]) (st' := [.int 0]) (mem' := mem) rfl ?_
    exact wq_ret rfl rfl h
  · refine wp_run 2 (pc' := 6) (lv' := [(0, .ref a0), (1, .int a1)]) (st' := [.ref a0, .int a1]) (mem' := mem) rfl ?_
    refine wq_gR rfl h (fun v6 h => ?_)
    refine wq_len rfl h (fun v9 h => ?_)
    refine wq_ge2 rfl h (fun h => ?_) (fun h => ?_)
    · refine wp_run 2 (pc' := 15) (lv' := [(0, .ref a0), (1, .int a1)]) (st' := [.ref a0, .int a1]) (mem' := mem) rfl ?_
      refine wq_gR rfl h (fun v15 h => ?_)
      refine wq_len rfl h (fun v18 h => ?_)
      refine wq_ge2 rfl h (fun h => ?_) (fun h => ?_)
      · refine wp_run 2 (pc' := 24) (lv' := [(0, .ref a0), (1, .int a1)]) (st' := [.ref a0, .int a1]) (mem' := mem) rfl ?_
        refine wq_gR rfl h (fun v24 h => ?_)
        refine wq_len rfl h (fun v27 h => ?_)
        refine wq_ge2 rfl h (fun h => ?_) (fun h => ?_)
        · refine wp_run 2 (pc' := 36) (lv' := [(0, .ref a0), (1, .int a1)]) (st' := [.int 1]) (mem' := mem) rfl ?_
          exact wq_ret rfl rfl h
        · refine wp_run 1 (pc' := 36) (lv' := [(0, .ref a0), (1, .int a1)]) (st' := [.int 0]) (mem' := mem) rfl ?_
          exact wq_ret rfl rfl h
      · refine wp_run 1 (pc' := 36) (lv' := [(0, .ref a0), (1, .int a1)]) (st' := [.int 0]) (mem' := mem) rfl ?_
        exact wq_ret rfl rfl h
    · refine wp_run 1 (pc' := 36) (lv' := [(0, .ref a0), (1, .int a1)]) (st' := [.int 0]) (mem' := mem) rfl ?_
      exact wq_ret rfl rfl h
/-- java/lang/Math.min(II)I -/
def m_Math_min (xm : Nat → Option kE) (N : Nat) (a0 : Int32) (a1 : Int32) (mem : kM) : dRes :=
  if a1 < a0 then (
    some (.inl (some (.int a1)), mem)
  ) else (
    some (.inl (some (.int a0)), mem)
  )
theorem m_Math_min_ok (hz : z.category = 1) (xm : Nat → Option kE) (N : Nat) {a0 : Int32} {a1 : Int32} {mem : kM} {R : kO × kM} (h : m_Math_min xm N a0 a1 mem = some R) : kCa xm (kSm z) kDfl kFty kG 1 109 [.int a0, .int a1] mem (dEq R) := by
  refine wq_ca (show 2 ≤ 2 by decide) ?_
  change kGo xm (kSm z) kDfl kFty kG 0 109 0 [(0, .int a0), (1, .int a1)] [] mem (dEq R)
  unfold m_Math_min at h
  refine wp_run 2 (pc' := 2) (lv' := [(0, .int a0), (1, .int a1)]) (st' := [.int a1, .int a0]) (mem' := mem) rfl ?_
  refine wq_gt2 rfl h (fun h => ?_) (fun h => ?_)
  · refine wp_run 1 (pc' := 10) (lv' := [(0, .int a0), (1, .int a1)]) (st' := [.int a1]) (mem' := mem) rfl ?_
    exact wq_ret rfl rfl h
  · refine wp_run 2 (pc' := 10) (lv' := [(0, .int a0), (1, .int a1)]) (st' := [.int a0]) (mem' := mem) rfl ?_
    exact wq_ret rfl rfl h
/-- Knitstead$Needle.copyFrom(LKnitstead$Needle;)V -/
def m_Needle_copyFrom (xm : Nat → Option kE) (N : Nat) (a0 : Nat) (a1 : Nat) (mem : kM) : dRes :=
  dGI xm mem a1 7 1 fun v2 =>
  dP xm mem a0 7 1 (.int v2) fun m5 =>
  dGR xm m5 a1 7 0 fun v9 =>
  dGR xm m5 a0 7 0 fun v14 =>
  dGR xm m5 a0 7 0 fun v19 =>
  dLen xm m5 v19 fun v22 =>
  dGR xm m5 a1 7 0 fun v24 =>
  dLen xm m5 v24 fun v27 =>
  dCI (m_Math_min xm N v22 v27 m5) fun v28 m28 =>
  dCpy xm m28 v9 0 v14 0 v28 fun m31 =>
  some (.inl none, m31)
theorem m_Needle_copyFrom_ok (hz : z.category = 1) (xm : Nat → Option kE) (N : Nat) {a0 : Nat} {a1 : Nat} {mem : kM} {R : kO × kM} (h : m_Needle_copyFrom xm N a0 a1 mem = some R) : kCa xm (kSm z) kDfl kFty kG 2 21 [.ref a0, .ref a1] mem (dEq R) := by
  refine wq_ca (show 2 ≤ 2 by decide) ?_
  change kGo xm (kSm z) kDfl kFty kG 1 21 0 [(0, .ref a0), (1, .ref a1)] [] mem (dEq R)
  unfold m_Needle_copyFrom at h
  refine wp_run 2 (pc' := 2) (lv' := [(0, .ref a0), (1, .ref a1)]) (st' := [.ref a1, .ref a0]) (mem' := mem) rfl ?_
  refine wq_gI rfl h (fun v2 h => ?_)
  refine wq_p rfl rfl h (fun m5 h => ?_)
  refine wp_run 1 (pc' := 9) (lv' := [(0, .ref a0), (1, .ref a1)]) (st' := [.ref a1]) (mem' := m5) rfl ?_
  refine wq_gR rfl h (fun v9 h => ?_)
  refine wp_run 2 (pc' := 14) (lv' := [(0, .ref a0), (1, .ref a1)]) (st' := [.ref a0, .int 0, .ref v9]) (mem' := m5) rfl ?_
  refine wq_gR rfl h (fun v14 h => ?_)
  refine wp_run 2 (pc' := 19) (lv' := [(0, .ref a0), (1, .ref a1)]) (st' := [.ref a0, .int 0, .ref v14, .int 0, .ref v9]) (mem' := m5) rfl ?_
  refine wq_gR rfl h (fun v19 h => ?_)
  refine wq_len rfl h (fun v22 h => ?_)
  refine wp_run 1 (pc' := 24) (lv' := [(0, .ref a0), (1, .ref a1)]) (st' := [.ref a1, .int v22, .int 0, .ref v14, .int 0, .ref v9]) (mem' := m5) rfl ?_
  refine wq_gR rfl h (fun v24 h => ?_)
  refine wq_len rfl h (fun v27 h => ?_)
  refine wq_cI rfl (kCall_s (as := [.int v22, .int v27]) (rest := [.int 0, .ref v14, .int 0, .ref v9]) ⟨by decide, rfl⟩ (show 4 ≤ 8 by decide) (by decide)) h (fun r hr => ca_up (by decide) (m_Math_min_ok hz xm N hr)) (fun v28 m28 h => ?_)
  refine wq_cpy rfl h (show 0 ≤ 90 by decide) (fun m31 h => ?_)
  exact wq_end rfl rfl h
/-- Knitstead$Table.copyFrom(LKnitstead$Table;)V -/
def m_Table_copyFrom (xm : Nat → Option kE) (N : Nat) (a0 : Nat) (a1 : Nat) (mem : kM) : dRes :=
  dGR xm mem a0 8 2 fun v1 =>
  dLen xm mem v1 fun v4 =>
  dGR xm mem a1 8 2 fun v6 =>
  dLen xm mem v6 fun v9 =>
  dCI (m_Math_min xm N v4 v9 mem) fun v10 m10 =>
  dGR xm m10 a1 8 2 fun v15 =>
  dGR xm m10 a0 8 2 fun v20 =>
  dCpy xm m10 v15 0 v20 0 v10 fun m25 =>
  some (.inl none, m25)
theorem m_Table_copyFrom_ok (hz : z.category = 1) (xm : Nat → Option kE) (N : Nat) {a0 : Nat} {a1 : Nat} {mem : kM} {R : kO × kM} (h : m_Table_copyFrom xm N a0 a1 mem = some R) : kCa xm (kSm z) kDfl kFty kG 2 27 [.ref a0, .ref a1] mem (dEq R) := by
  refine wq_ca (show 2 ≤ 3 by decide) ?_
  change kGo xm (kSm z) kDfl kFty kG 1 27 0 [(0, .ref a0), (1, .ref a1)] [] mem (dEq R)
  unfold m_Table_copyFrom at h
  refine wp_run 1 (pc' := 1) (lv' := [(0, .ref a0), (1, .ref a1)]) (st' := [.ref a0]) (mem' := mem) rfl ?_
  refine wq_gR rfl h (fun v1 h => ?_)
  refine wq_len rfl h (fun v4 h => ?_)
  refine wp_run 1 (pc' := 6) (lv' := [(0, .ref a0), (1, .ref a1)]) (st' := [.ref a1, .int v4]) (mem' := mem) rfl ?_
  refine wq_gR rfl h (fun v6 h => ?_)
  refine wq_len rfl h (fun v9 h => ?_)
  refine wq_cI rfl (kCall_s (as := [.int v4, .int v9]) (rest := []) ⟨by decide, rfl⟩ (show 0 ≤ 8 by decide) (by decide)) h (fun r hr => ca_up (by decide) (m_Math_min_ok hz xm N hr)) (fun v10 m10 h => ?_)
  refine wp_run 2 (pc' := 15) (lv' := [(2, .int v10), (0, .ref a0), (1, .ref a1)]) (st' := [.ref a1]) (mem' := m10) rfl ?_
  refine wq_gR rfl h (fun v15 h => ?_)
  refine wp_run 2 (pc' := 20) (lv' := [(2, .int v10), (0, .ref a0), (1, .ref a1)]) (st' := [.ref a0, .int 0, .ref v15]) (mem' := m10) rfl ?_
  refine wq_gR rfl h (fun v20 h => ?_)
  refine wp_run 2 (pc' := 25) (lv' := [(2, .int v10), (0, .ref a0), (1, .ref a1)]) (st' := [.int v10, .int 0, .ref v20, .int 0, .ref v15]) (mem' := m10) rfl ?_
  refine wq_cpy rfl h (show 0 ≤ 90 by decide) (fun m25 h => ?_)
  exact wq_end rfl rfl h
/-- Knitstead$Work.copyFrom(LKnitstead$Work;)V -/
def m_Work_copyFrom (xm : Nat → Option kE) (N : Nat) (a0 : Nat) (a1 : Nat) (mem : kM) : dRes :=
  dGR xm mem a0 10 0 fun v1 =>
  dGR xm mem a1 10 0 fun v5 =>
  dRc xm mem v1 7 <|
  dCV (m_Needle_copyFrom xm N v1 v5 mem) fun m8 =>
  dGR xm m8 a0 10 1 fun v12 =>
  dGR xm m8 a1 10 1 fun v16 =>
  dRc xm m8 v12 7 <|
  dCV (m_Needle_copyFrom xm N v12 v16 m8) fun m19 =>
  dGR xm m19 a0 10 2 fun v23 =>
  dGR xm m19 a1 10 2 fun v27 =>
  dRc xm m19 v23 8 <|
  dCV (m_Table_copyFrom xm N v23 v27 m19) fun m30 =>
  dGI xm m30 a1 10 3 fun v35 =>
  dP xm m30 a0 10 3 (.int v35) fun m38 =>
  dGI xm m38 a1 10 4 fun v43 =>
  dP xm m38 a0 10 4 (.int v43) fun m46 =>
  dGI xm m46 a1 10 5 fun v51 =>
  dP xm m46 a0 10 5 (.int v51) fun m54 =>
  dGI xm m54 a1 10 6 fun v59 =>
  dP xm m54 a0 10 6 (.int v59) fun m62 =>
  dGI xm m62 a1 10 7 fun v67 =>
  dP xm m62 a0 10 7 (.int v67) fun m70 =>
  dGI xm m70 a1 10 8 fun v75 =>
  dP xm m70 a0 10 8 (.int v75) fun m78 =>
  dGI xm m78 a1 10 9 fun v83 =>
  dP xm m78 a0 10 9 (.int v83) fun m86 =>
  some (.inl none, m86)
theorem m_Work_copyFrom_ok (hz : z.category = 1) (xm : Nat → Option kE) (N : Nat) {a0 : Nat} {a1 : Nat} {mem : kM} {R : kO × kM} (h : m_Work_copyFrom xm N a0 a1 mem = some R) : kCa xm (kSm z) kDfl kFty kG 3 38 [.ref a0, .ref a1] mem (dEq R) := by
  refine wq_ca (show 2 ≤ 2 by decide) ?_
  change kGo xm (kSm z) kDfl kFty kG 2 38 0 [(0, .ref a0), (1, .ref a1)] [] mem (dEq R)
  unfold m_Work_copyFrom at h
  refine wp_run 1 (pc' := 1) (lv' := [(0, .ref a0), (1, .ref a1)]) (st' := [.ref a0]) (mem' := mem) rfl ?_
  refine wq_gR rfl h (fun v1 h => ?_)
  refine wp_run 1 (pc' := 5) (lv' := [(0, .ref a0), (1, .ref a1)]) (st' := [.ref a1, .ref v1]) (mem' := mem) rfl ?_
  refine wq_gR rfl h (fun v5 h => ?_)
  obtain ⟨fk8, hk8, h⟩ := dRc_some h
  refine wq_cV rfl (kCall_v hk8 (as := [.ref v5]) (rest := []) ⟨by decide, rfl, (show 1 < 90 by decide), by decide⟩ (show 0 ≤ 8 by decide)) h (fun r hr => ca_up (by decide) (m_Needle_copyFrom_ok hz xm N hr)) (fun m8 h => ?_)
  refine wp_run 1 (pc' := 12) (lv' := [(0, .ref a0), (1, .ref a1)]) (st' := [.ref a0]) (mem' := m8) rfl ?_
  refine wq_gR rfl h (fun v12 h => ?_)
  refine wp_run 1 (pc' := 16) (lv' := [(0, .ref a0), (1, .ref a1)]) (st' := [.ref a1, .ref v12]) (mem' := m8) rfl ?_
  refine wq_gR rfl h (fun v16 h => ?_)
  obtain ⟨fk19, hk19, h⟩ := dRc_some h
  refine wq_cV rfl (kCall_v hk19 (as := [.ref v16]) (rest := []) ⟨by decide, rfl, (show 1 < 90 by decide), by decide⟩ (show 0 ≤ 8 by decide)) h (fun r hr => ca_up (by decide) (m_Needle_copyFrom_ok hz xm N hr)) (fun m19 h => ?_)
  refine wp_run 1 (pc' := 23) (lv' := [(0, .ref a0), (1, .ref a1)]) (st' := [.ref a0]) (mem' := m19) rfl ?_
  refine wq_gR rfl h (fun v23 h => ?_)
  refine wp_run 1 (pc' := 27) (lv' := [(0, .ref a0), (1, .ref a1)]) (st' := [.ref a1, .ref v23]) (mem' := m19) rfl ?_
  refine wq_gR rfl h (fun v27 h => ?_)
  obtain ⟨fk30, hk30, h⟩ := dRc_some h
  refine wq_cV rfl (kCall_v hk30 (as := [.ref v27]) (rest := []) ⟨by decide, rfl, (show 1 < 90 by decide), by decide⟩ (show 0 ≤ 8 by decide)) h (fun r hr => ca_up (by decide) (m_Table_copyFrom_ok hz xm N hr)) (fun m30 h => ?_)
  refine wp_run 2 (pc' := 35) (lv' := [(0, .ref a0), (1, .ref a1)]) (st' := [.ref a1, .ref a0]) (mem' := m30) rfl ?_
  refine wq_gI rfl h (fun v35 h => ?_)
  refine wq_p rfl rfl h (fun m38 h => ?_)
  refine wp_run 2 (pc' := 43) (lv' := [(0, .ref a0), (1, .ref a1)]) (st' := [.ref a1, .ref a0]) (mem' := m38) rfl ?_
  refine wq_gI rfl h (fun v43 h => ?_)
  refine wq_p rfl rfl h (fun m46 h => ?_)
  refine wp_run 2 (pc' := 51) (lv' := [(0, .ref a0), (1, .ref a1)]) (st' := [.ref a1, .ref a0]) (mem' := m46) rfl ?_
  refine wq_gI rfl h (fun v51 h => ?_)
  refine wq_p rfl rfl h (fun m54 h => ?_)
  refine wp_run 2 (pc' := 59) (lv' := [(0, .ref a0), (1, .ref a1)]) (st' := [.ref a1, .ref a0]) (mem' := m54) rfl ?_
  refine wq_gI rfl h (fun v59 h => ?_)
  refine wq_p rfl rfl h (fun m62 h => ?_)
  refine wp_run 2 (pc' := 67) (lv' := [(0, .ref a0), (1, .ref a1)]) (st' := [.ref a1, .ref a0]) (mem' := m62) rfl ?_
  refine wq_gI rfl h (fun v67 h => ?_)
  refine wq_p rfl rfl h (fun m70 h => ?_)
  refine wp_run 2 (pc' := 75) (lv' := [(0, .ref a0), (1, .ref a1)]) (st' := [.ref a1, .ref a0]) (mem' := m70) rfl ?_
  refine wq_gI rfl h (fun v75 h => ?_)
  refine wq_p rfl rfl h (fun m78 h => ?_)
  refine wp_run 2 (pc' := 83) (lv' := [(0, .ref a0), (1, .ref a1)]) (st' := [.ref a1, .ref a0]) (mem' := m78) rfl ?_
  refine wq_gI rfl h (fun v83 h => ?_)
  refine wq_p rfl rfl h (fun m86 h => ?_)
  exact wq_end rfl rfl h
/-- Knitstead$History.keep(LKnitstead$Work;LKnitstead$Balls;)V -/
def m_History_keep_85 (xm : Nat → Option kE) (N : Nat) (a0 : Nat) (s0 : Nat) (s1 : Int32) (mem : kM) : dRes :=
  dP xm mem s0 6 3 (.int s1) fun m85 =>
  dGI xm m85 a0 6 4 fun v90 =>
  dCI (m_Math_min xm N (v90 + 1) 12 m85) fun v97 m97 =>
  dP xm m97 a0 6 4 (.int v97) fun m100 =>
  some (.inl none, m100)
theorem m_History_keep_85_ok (hz : z.category = 1) (xm : Nat → Option kE) (N : Nat) : ∀ (a0 : Nat) (s0 : Nat) (s1 : Int32) (mem : kM) (R : kO × kM), m_History_keep_85 xm N a0 s0 s1 mem = some R → kGo xm (kSm z) kDfl kFty kG 3 11 85 [(0, .ref a0)] [.int s1, .ref s0] mem (dEq R) := by
  intro a0 s0 s1 mem R h
  unfold m_History_keep_85 at h
  refine wq_p rfl rfl h (fun m85 h => ?_)
  refine wp_run 2 (pc' := 90) (lv' := [(0, .ref a0)]) (st' := [.ref a0, .ref a0]) (mem' := m85) rfl ?_
  refine wq_gI rfl h (fun v90 h => ?_)
  refine wp_run 3 (pc' := 97) (lv' := [(0, .ref a0)]) (st' := [.int 12, .int (v90 + 1), .ref a0]) (mem' := m85) rfl ?_
  refine wq_cI rfl (kCall_s (as := [.int (v90 + 1), .int 12]) (rest := [.ref a0]) ⟨by decide, rfl⟩ (show 1 ≤ 8 by decide) (by decide)) h (fun r hr => ca_up (by decide) (m_Math_min_ok hz xm N hr)) (fun v97 m97 h => ?_)
  refine wq_p rfl rfl h (fun m100 h => ?_)
  exact wq_end rfl rfl h
def m_History_keep (xm : Nat → Option kE) (N : Nat) (a0 : Nat) (a1 : Nat) (a2 : Nat) (mem : kM) : dRes :=
  dGI xm mem a0 6 3 fun v2 =>
  dRc xm mem a0 6 <|
  dCI (m_History_isSlot xm N a0 v2 mem) fun v5 m5 =>
  if v5 = 0 then (
    some (.inl none, m5)
  ) else (
    dGR xm m5 a0 6 0 fun v12 =>
    dGI xm m5 a0 6 3 fun v16 =>
    dALn xm m5 v12 v16 (
      some (.inl none, m5)
    ) (
      dGR xm m5 a0 6 0 fun v25 =>
      dGI xm m5 a0 6 3 fun v29 =>
      dAL xm m5 v25 v29 fun v32 =>
      dRc xm m5 v32 10 <|
      dCV (m_Work_copyFrom xm N v32 a1 m5) fun m34 =>
      dGR xm m34 a0 6 1 fun v38 =>
      dGI xm m34 a0 6 3 fun v42 =>
      dGI xm m34 a2 5 2 fun v46 =>
      dIS xm m34 v38 v42 v46 fun m49 =>
      dGR xm m49 a0 6 2 fun v51 =>
      dGI xm m49 a0 6 3 fun v55 =>
      dRc xm m49 a2 5 <|
      dCI (m_Balls_ofJoined xm N a2 m49) fun v59 m59 =>
      dIS xm m59 v51 v55 v59 fun m62 =>
      dGI xm m62 a0 6 3 fun v65 =>
      if (v65 + 1) < 12 then (
        dGI xm m62 a0 6 3 fun v76 =>
        m_History_keep_85 xm N a0 a0 (v76 + 1) m62
      ) else (
        m_History_keep_85 xm N a0 a0 0 m62
      )
    )
  )
theorem m_History_keep_ok (hz : z.category = 1) (xm : Nat → Option kE) (N : Nat) {a0 : Nat} {a1 : Nat} {a2 : Nat} {mem : kM} {R : kO × kM} (h : m_History_keep xm N a0 a1 a2 mem = some R) : kCa xm (kSm z) kDfl kFty kG 4 11 [.ref a0, .ref a1, .ref a2] mem (dEq R) := by
  refine wq_ca (show 3 ≤ 3 by decide) ?_
  change kGo xm (kSm z) kDfl kFty kG 3 11 0 [(0, .ref a0), (1, .ref a1), (2, .ref a2)] [] mem (dEq R)
  unfold m_History_keep at h
  refine wp_run 2 (pc' := 2) (lv' := [(0, .ref a0), (1, .ref a1), (2, .ref a2)]) (st' := [.ref a0, .ref a0]) (mem' := mem) rfl ?_
  refine wq_gI rfl h (fun v2 h => ?_)
  obtain ⟨fk5, hk5, h⟩ := dRc_some h
  refine wq_cI rfl (kCall_v hk5 (as := [.int v2]) (rest := []) ⟨by decide, rfl, (show 1 < 90 by decide), by decide⟩ (show 0 ≤ 8 by decide)) h (fun r hr => ca_up (by decide) (m_History_isSlot_ok hz xm N hr)) (fun v5 m5 h => ?_)
  refine wq_eq rfl h (fun h => ?_) (fun h => ?_)
  · exact wq_end rfl rfl h
  · refine wp_run 1 (pc' := 12) (lv' := [(0, .ref a0), (1, .ref a1), (2, .ref a2)]) (st' := [.ref a0]) (mem' := m5) rfl ?_
    refine wq_gR rfl h (fun v12 h => ?_)
    refine wp_run 1 (pc' := 16) (lv' := [(0, .ref a0), (1, .ref a1), (2, .ref a2)]) (st' := [.ref a0, .ref v12]) (mem' := m5) rfl ?_
    refine wq_gI rfl h (fun v16 h => ?_)
    refine wq_aLn rfl rfl h (fun h => ?_) (fun h => ?_)
    · exact wq_end rfl rfl h
    · refine wp_run 1 (pc' := 25) (lv' := [(0, .ref a0), (1, .ref a1), (2, .ref a2)]) (st' := [.ref a0]) (mem' := m5) rfl ?_
      refine wq_gR rfl h (fun v25 h => ?_)
      refine wp_run 1 (pc' := 29) (lv' := [(0, .ref a0), (1, .ref a1), (2, .ref a2)]) (st' := [.ref a0, .ref v25]) (mem' := m5) rfl ?_
      refine wq_gI rfl h (fun v29 h => ?_)
      refine wq_aL rfl h (fun v32 h => ?_)
      refine wp_run 1 (pc' := 34) (lv' := [(0, .ref a0), (1, .ref a1), (2, .ref a2)]) (st' := [.ref a1, .ref v32]) (mem' := m5) rfl ?_
      obtain ⟨fk34, hk34, h⟩ := dRc_some h
      refine wq_cV rfl (kCall_v hk34 (as := [.ref a1]) (rest := []) ⟨by decide, rfl, (show 1 < 90 by decide), by decide⟩ (show 0 ≤ 8 by decide)) h (fun r hr => ca_up (by decide) (m_Work_copyFrom_ok hz xm N hr)) (fun m34 h => ?_)
      refine wp_run 1 (pc' := 38) (lv' := [(0, .ref a0), (1, .ref a1), (2, .ref a2)]) (st' := [.ref a0]) (mem' := m34) rfl ?_
      refine wq_gR rfl h (fun v38 h => ?_)
      refine wp_run 1 (pc' := 42) (lv' := [(0, .ref a0), (1, .ref a1), (2, .ref a2)]) (st' := [.ref a0, .ref v38]) (mem' := m34) rfl ?_
      refine wq_gI rfl h (fun v42 h => ?_)
      refine wp_run 1 (pc' := 46) (lv' := [(0, .ref a0), (1, .ref a1), (2, .ref a2)]) (st' := [.ref a2, .int v42, .ref v38]) (mem' := m34) rfl ?_
      refine wq_gI rfl h (fun v46 h => ?_)
      refine wq_iS rfl h (fun m49 h => ?_)
      refine wp_run 1 (pc' := 51) (lv' := [(0, .ref a0), (1, .ref a1), (2, .ref a2)]) (st' := [.ref a0]) (mem' := m49) rfl ?_
      refine wq_gR rfl h (fun v51 h => ?_)
      refine wp_run 1 (pc' := 55) (lv' := [(0, .ref a0), (1, .ref a1), (2, .ref a2)]) (st' := [.ref a0, .ref v51]) (mem' := m49) rfl ?_
      refine wq_gI rfl h (fun v55 h => ?_)
      refine wp_run 1 (pc' := 59) (lv' := [(0, .ref a0), (1, .ref a1), (2, .ref a2)]) (st' := [.ref a2, .int v55, .ref v51]) (mem' := m49) rfl ?_
      obtain ⟨fk59, hk59, h⟩ := dRc_some h
      refine wq_cI rfl (kCall_v hk59 (as := []) (rest := [.int v55, .ref v51]) ⟨by decide, rfl, (show 0 < 90 by decide), by decide⟩ (show 2 ≤ 8 by decide)) h (fun r hr => ca_up (by decide) (m_Balls_ofJoined_ok hz xm N hr)) (fun v59 m59 h => ?_)
      refine wq_iS rfl h (fun m62 h => ?_)
      refine wp_run 2 (pc' := 65) (lv' := [(0, .ref a0), (1, .ref a1), (2, .ref a2)]) (st' := [.ref a0, .ref a0]) (mem' := m62) rfl ?_
      refine wq_gI rfl h (fun v65 h => ?_)
      refine wp_run 3 (pc' := 72) (lv' := [(0, .ref a0), (1, .ref a1), (2, .ref a2)]) (st' := [.int 12, .int (v65 + 1), .ref a0]) (mem' := m62) rfl ?_
      refine wq_ge2 rfl h (fun h => ?_) (fun h => ?_)
      · refine wp_run 1 (pc' := 76) (lv' := [(0, .ref a0), (1, .ref a1), (2, .ref a2)]) (st' := [.ref a0, .ref a0]) (mem' := m62) rfl ?_
        refine wq_gI rfl h (fun v76 h => ?_)
        refine wp_run 3 (pc' := 85) (lv' := [(0, .ref a0), (1, .ref a1), (2, .ref a2)]) (st' := [.int (v76 + 1), .ref a0]) (mem' := m62) rfl ?_
        refine kGo_sub (lvS_of [0] rfl [0, 1, 2] rfl (by decide)) ?_
        exact m_History_keep_85_ok hz xm N _ _ _ m62 R h
      · refine wp_run 1 (pc' := 85) (lv' := [(0, .ref a0), (1, .ref a1), (2, .ref a2)]) (st' := [.int 0, .ref a0]) (mem' := m62) rfl ?_
        refine kGo_sub (lvS_of [0] rfl [0, 1, 2] rfl (by decide)) ?_
        exact m_History_keep_85_ok hz xm N _ _ _ m62 R h
/-- Knitstead$Work.onBoth()I -/
def m_Work_onBoth (xm : Nat → Option kE) (N : Nat) (a0 : Nat) (mem : kM) : dRes :=
  dGR xm mem a0 10 0 fun v1 =>
  dGI xm mem v1 7 1 fun v4 =>
  dGR xm mem a0 10 1 fun v8 =>
  dGI xm mem v8 7 1 fun v11 =>
  some (.inl (some (.int (v4 + v11))), mem)
theorem m_Work_onBoth_ok (hz : z.category = 1) (xm : Nat → Option kE) (N : Nat) {a0 : Nat} {mem : kM} {R : kO × kM} (h : m_Work_onBoth xm N a0 mem = some R) : kCa xm (kSm z) kDfl kFty kG 1 32 [.ref a0] mem (dEq R) := by
  refine wq_ca (show 1 ≤ 1 by decide) ?_
  change kGo xm (kSm z) kDfl kFty kG 0 32 0 [(0, .ref a0)] [] mem (dEq R)
  unfold m_Work_onBoth at h
  refine wp_run 1 (pc' := 1) (lv' := [(0, .ref a0)]) (st' := [.ref a0]) (mem' := mem) rfl ?_
  refine wq_gR rfl h (fun v1 h => ?_)
  refine wq_gI rfl h (fun v4 h => ?_)
  refine wp_run 1 (pc' := 8) (lv' := [(0, .ref a0)]) (st' := [.ref a0, .int v4]) (mem' := mem) rfl ?_
  refine wq_gR rfl h (fun v8 h => ?_)
  refine wq_gI rfl h (fun v11 h => ?_)
  refine wp_run 1 (pc' := 15) (lv' := [(0, .ref a0)]) (st' := [.int (v4 + v11)]) (mem' := mem) rfl ?_
  exact wq_ret rfl rfl h
/-- Knitstead$Balls.set(II)V -/
def m_Balls_set (xm : Nat → Option kE) (N : Nat) (a0 : Nat) (a1 : Int32) (a2 : Int32) (mem : kM) : dRes :=
  dRc xm mem a0 5 <|
  dCI (m_Balls_has xm N a0 a1 mem) fun v2 m2 =>
  if v2 = 0 then (
    some (.inl none, m2)
  ) else (
    dGR xm m2 a0 5 0 fun v9 =>
    dIS xm m2 v9 a1 a2 fun m14 =>
    some (.inl none, m14)
  )
theorem m_Balls_set_ok (hz : z.category = 1) (xm : Nat → Option kE) (N : Nat) {a0 : Nat} {a1 : Int32} {a2 : Int32} {mem : kM} {R : kO × kM} (h : m_Balls_set xm N a0 a1 a2 mem = some R) : kCa xm (kSm z) kDfl kFty kG 2 5 [.ref a0, .int a1, .int a2] mem (dEq R) := by
  refine wq_ca (show 3 ≤ 3 by decide) ?_
  change kGo xm (kSm z) kDfl kFty kG 1 5 0 [(0, .ref a0), (1, .int a1), (2, .int a2)] [] mem (dEq R)
  unfold m_Balls_set at h
  refine wp_run 2 (pc' := 2) (lv' := [(0, .ref a0), (1, .int a1), (2, .int a2)]) (st' := [.int a1, .ref a0]) (mem' := mem) rfl ?_
  obtain ⟨fk2, hk2, h⟩ := dRc_some h
  refine wq_cI rfl (kCall_v hk2 (as := [.int a1]) (rest := []) ⟨by decide, rfl, (show 1 < 90 by decide), by decide⟩ (show 0 ≤ 8 by decide)) h (fun r hr => ca_up (by decide) (m_Balls_has_ok hz xm N hr)) (fun v2 m2 h => ?_)
  refine wq_eq rfl h (fun h => ?_) (fun h => ?_)
  · exact wq_end rfl rfl h
  · refine wp_run 1 (pc' := 9) (lv' := [(0, .ref a0), (1, .int a1), (2, .int a2)]) (st' := [.ref a0]) (mem' := m2) rfl ?_
    refine wq_gR rfl h (fun v9 h => ?_)
    refine wp_run 2 (pc' := 14) (lv' := [(0, .ref a0), (1, .int a1), (2, .int a2)]) (st' := [.int a2, .int a1, .ref v9]) (mem' := m2) rfl ?_
    refine wq_iS rfl h (fun m14 h => ?_)
    exact wq_end rfl rfl h
/-- Knitstead$Balls.spend(I)V -/
def m_Balls_spend (xm : Nat → Option kE) (N : Nat) (a0 : Nat) (a1 : Int32) (mem : kM) : dRes :=
  dGI xm mem a0 5 2 fun v2 =>
  dGI xm mem a0 5 2 fun v7 =>
  dRc xm mem a0 5 <|
  dCI (m_Balls_of xm N a0 v7 mem) fun v10 m10 =>
  dRc xm m10 a0 5 <|
  dCV (m_Balls_set xm N a0 v2 (v10 - a1) m10) fun m15 =>
  some (.inl none, m15)
theorem m_Balls_spend_ok (hz : z.category = 1) (xm : Nat → Option kE) (N : Nat) {a0 : Nat} {a1 : Int32} {mem : kM} {R : kO × kM} (h : m_Balls_spend xm N a0 a1 mem = some R) : kCa xm (kSm z) kDfl kFty kG 3 7 [.ref a0, .int a1] mem (dEq R) := by
  refine wq_ca (show 2 ≤ 2 by decide) ?_
  change kGo xm (kSm z) kDfl kFty kG 2 7 0 [(0, .ref a0), (1, .int a1)] [] mem (dEq R)
  unfold m_Balls_spend at h
  refine wp_run 2 (pc' := 2) (lv' := [(0, .ref a0), (1, .int a1)]) (st' := [.ref a0, .ref a0]) (mem' := mem) rfl ?_
  refine wq_gI rfl h (fun v2 h => ?_)
  refine wp_run 2 (pc' := 7) (lv' := [(0, .ref a0), (1, .int a1)]) (st' := [.ref a0, .ref a0, .int v2, .ref a0]) (mem' := mem) rfl ?_
  refine wq_gI rfl h (fun v7 h => ?_)
  obtain ⟨fk10, hk10, h⟩ := dRc_some h
  refine wq_cI rfl (kCall_v hk10 (as := [.int v7]) (rest := [.int v2, .ref a0]) ⟨by decide, rfl, (show 1 < 90 by decide), by decide⟩ (show 2 ≤ 8 by decide)) h (fun r hr => ca_up (by decide) (m_Balls_of_ok hz xm N hr)) (fun v10 m10 h => ?_)
  refine wp_run 2 (pc' := 15) (lv' := [(0, .ref a0), (1, .int a1)]) (st' := [.int (v10 - a1), .int v2, .ref a0]) (mem' := m10) rfl ?_
  obtain ⟨fk15, hk15, h⟩ := dRc_some h
  refine wq_cV rfl (kCall_v hk15 (as := [.int v2, .int (v10 - a1)]) (rest := []) ⟨by decide, rfl, (show 2 < 90 by decide), by decide⟩ (show 0 ≤ 8 by decide)) h (fun r hr => ca_up (by decide) (m_Balls_set_ok hz xm N hr)) (fun m15 h => ?_)
  exact wq_end rfl rfl h
/-- Knitstead$Needle.put(I)V -/
def m_Needle_put (xm : Nat → Option kE) (N : Nat) (a0 : Nat) (a1 : Int32) (mem : kM) : dRes :=
  dGI xm mem a0 7 1 fun v1 =>
  if v1 < 0 then (
    some (.inl none, mem)
  ) else (
    dGI xm mem a0 7 1 fun v8 =>
    dGR xm mem a0 7 0 fun v12 =>
    dLen xm mem v12 fun v15 =>
    if v8 < v15 then (
      dGR xm mem a0 7 0 fun v20 =>
      dGI xm mem a0 7 1 fun v24 =>
      dIS xm mem v20 v24 a1 fun m28 =>
      dGI xm m28 a0 7 1 fun v31 =>
      dP xm m28 a0 7 1 (.int (v31 + 1)) fun m36 =>
      some (.inl none, m36)
    ) else (
      some (.inl none, mem)
    )
  )
theorem m_Needle_put_ok (hz : z.category = 1) (xm : Nat → Option kE) (N : Nat) {a0 : Nat} {a1 : Int32} {mem : kM} {R : kO × kM} (h : m_Needle_put xm N a0 a1 mem = some R) : kCa xm (kSm z) kDfl kFty kG 1 17 [.ref a0, .int a1] mem (dEq R) := by
  refine wq_ca (show 2 ≤ 2 by decide) ?_
  change kGo xm (kSm z) kDfl kFty kG 0 17 0 [(0, .ref a0), (1, .int a1)] [] mem (dEq R)
  unfold m_Needle_put at h
  refine wp_run 1 (pc' := 1) (lv' := [(0, .ref a0), (1, .int a1)]) (st' := [.ref a0]) (mem' := mem) rfl ?_
  refine wq_gI rfl h (fun v1 h => ?_)
  refine wq_lt rfl h (fun h => ?_) (fun h => ?_)
  · exact wq_end rfl rfl h
  · refine wp_run 1 (pc' := 8) (lv' := [(0, .ref a0), (1, .int a1)]) (st' := [.ref a0]) (mem' := mem) rfl ?_
    refine wq_gI rfl h (fun v8 h => ?_)
    refine wp_run 1 (pc' := 12) (lv' := [(0, .ref a0), (1, .int a1)]) (st' := [.ref a0, .int v8]) (mem' := mem) rfl ?_
    refine wq_gR rfl h (fun v12 h => ?_)
    refine wq_len rfl h (fun v15 h => ?_)
    refine wq_ge2 rfl h (fun h => ?_) (fun h => ?_)
    · refine wp_run 1 (pc' := 20) (lv' := [(0, .ref a0), (1, .int a1)]) (st' := [.ref a0]) (mem' := mem) rfl ?_
      refine wq_gR rfl h (fun v20 h => ?_)
      refine wp_run 1 (pc' := 24) (lv' := [(0, .ref a0), (1, .int a1)]) (st' := [.ref a0, .ref v20]) (mem' := mem) rfl ?_
      refine wq_gI rfl h (fun v24 h => ?_)
      refine wp_run 1 (pc' := 28) (lv' := [(0, .ref a0), (1, .int a1)]) (st' := [.int a1, .int v24, .ref v20]) (mem' := mem) rfl ?_
      refine wq_iS rfl h (fun m28 h => ?_)
      refine wp_run 2 (pc' := 31) (lv' := [(0, .ref a0), (1, .int a1)]) (st' := [.ref a0, .ref a0]) (mem' := m28) rfl ?_
      refine wq_gI rfl h (fun v31 h => ?_)
      refine wp_run 2 (pc' := 36) (lv' := [(0, .ref a0), (1, .int a1)]) (st' := [.int (v31 + 1), .ref a0]) (mem' := m28) rfl ?_
      refine wq_p rfl rfl h (fun m36 h => ?_)
      exact wq_end rfl rfl h
    · exact wq_end rfl rfl h
/-- Knitstead$Table.cellOf(II)I -/
def m_Table_cellOf_29 (xm : Nat → Option kE) (N : Nat) (a0 : Nat) (a1 : Int32) (a2 : Int32) (s0 : Int32) (mem : kM) : dRes :=
  if s0 = 0 then (
    some (.inl (some (.int (-1))), mem)
  ) else (
    dGI xm mem a0 8 0 fun v36 =>
    some (.inl (some (.int ((a1 * v36) + a2))), mem)
  )
theorem m_Table_cellOf_29_ok (hz : z.category = 1) (xm : Nat → Option kE) (N : Nat) : ∀ (a0 : Nat) (a1 : Int32) (a2 : Int32) (s0 : Int32) (mem : kM) (R : kO × kM), m_Table_cellOf_29 xm N a0 a1 a2 s0 mem = some R → kGo xm (kSm z) kDfl kFty kG 0 23 29 [(0, .ref a0), (1, .int a1), (2, .int a2)] [.int s0] mem (dEq R) := by
  intro a0 a1 a2 s0 mem R h
  unfold m_Table_cellOf_29 at h
  refine wp_run 2 (pc' := 31) (lv' := [(3, .int s0), (0, .ref a0), (1, .int a1), (2, .int a2)]) (st' := [.int s0]) (mem' := mem) rfl ?_
  refine wq_eq rfl h (fun h => ?_) (fun h => ?_)
  · refine wp_run 1 (pc' := 46) (lv' := [(3, .int s0), (0, .ref a0), (1, .int a1), (2, .int a2)]) (st' := [.int (-1)]) (mem' := mem) rfl ?_
    exact wq_ret rfl rfl h
  · refine wp_run 2 (pc' := 36) (lv' := [(3, .int s0), (0, .ref a0), (1, .int a1), (2, .int a2)]) (st' := [.ref a0, .int a1]) (mem' := mem) rfl ?_
    refine wq_gI rfl h (fun v36 h => ?_)
    refine wp_run 4 (pc' := 46) (lv' := [(3, .int s0), (0, .ref a0), (1, .int a1), (2, .int a2)]) (st' := [.int ((a1 * v36) + a2)]) (mem' := mem) rfl ?_
    exact wq_ret rfl rfl h
def m_Table_cellOf_28 (xm : Nat → Option kE) (N : Nat) (a0 : Nat) (a1 : Int32) (a2 : Int32) (mem : kM) : dRes :=
  m_Table_cellOf_29 xm N a0 a1 a2 0 mem
theorem m_Table_cellOf_28_ok (hz : z.category = 1) (xm : Nat → Option kE) (N : Nat) : ∀ (a0 : Nat) (a1 : Int32) (a2 : Int32) (mem : kM) (R : kO × kM), m_Table_cellOf_28 xm N a0 a1 a2 mem = some R → kGo xm (kSm z) kDfl kFty kG 0 23 28 [(0, .ref a0), (1, .int a1), (2, .int a2)] [] mem (dEq R) := by
  intro a0 a1 a2 mem R h
  unfold m_Table_cellOf_28 at h
  refine wp_run 1 (pc' := 29) (lv' := [(0, .ref a0), (1, .int a1), (2, .int a2)]) (st' := [.int 0]) (mem' := mem) rfl ?_
  exact m_Table_cellOf_29_ok hz xm N _ _ _ _ mem R h
def m_Table_cellOf (xm : Nat → Option kE) (N : Nat) (a0 : Nat) (a1 : Int32) (a2 : Int32) (mem : kM) : dRes :=
  if a1 < 0 then (
    m_Table_cellOf_28 xm N a0 a1 a2 mem
  ) else (
    dGI xm mem a0 8 1 fun v6 =>
    if a1 < v6 then (
      if a2 < 0 then (
        m_Table_cellOf_28 xm N a0 a1 a2 mem
      ) else (
        dGI xm mem a0 8 0 fun v18 =>
        if a2 < v18 then (
          m_Table_cellOf_29 xm N a0 a1 a2 1 mem
        ) else (
          m_Table_cellOf_28 xm N a0 a1 a2 mem
        )
      )
    ) else (
      m_Table_cellOf_28 xm N a0 a1 a2 mem
    )
  )
theorem m_Table_cellOf_ok (hz : z.category = 1) (xm : Nat → Option kE) (N : Nat) {a0 : Nat} {a1 : Int32} {a2 : Int32} {mem : kM} {R : kO × kM} (h : m_Table_cellOf xm N a0 a1 a2 mem = some R) : kCa xm (kSm z) kDfl kFty kG 1 23 [.ref a0, .int a1, .int a2] mem (dEq R) := by
  refine wq_ca (show 3 ≤ 4 by decide) ?_
  change kGo xm (kSm z) kDfl kFty kG 0 23 0 [(0, .ref a0), (1, .int a1), (2, .int a2)] [] mem (dEq R)
  unfold m_Table_cellOf at h
  refine wp_run 1 (pc' := 1) (lv' := [(0, .ref a0), (1, .int a1), (2, .int a2)]) (st' := [.int a1]) (mem' := mem) rfl ?_
  refine wq_lt rfl h (fun h => ?_) (fun h => ?_)
  · exact m_Table_cellOf_28_ok hz xm N _ _ _ mem R h
  · refine wp_run 2 (pc' := 6) (lv' := [(0, .ref a0), (1, .int a1), (2, .int a2)]) (st' := [.ref a0, .int a1]) (mem' := mem) rfl ?_
    refine wq_gI rfl h (fun v6 h => ?_)
    refine wq_ge2 rfl h (fun h => ?_) (fun h => ?_)
    · refine wp_run 1 (pc' := 13) (lv' := [(0, .ref a0), (1, .int a1), (2, .int a2)]) (st' := [.int a2]) (mem' := mem) rfl ?_
      refine wq_lt rfl h (fun h => ?_) (fun h => ?_)
      · exact m_Table_cellOf_28_ok hz xm N _ _ _ mem R h
      · refine wp_run 2 (pc' := 18) (lv' := [(0, .ref a0), (1, .int a1), (2, .int a2)]) (st' := [.ref a0, .int a2]) (mem' := mem) rfl ?_
        refine wq_gI rfl h (fun v18 h => ?_)
        refine wq_ge2 rfl h (fun h => ?_) (fun h => ?_)
        · refine wp_run 2 (pc' := 29) (lv' := [(0, .ref a0), (1, .int a1), (2, .int a2)]) (st' := [.int 1]) (mem' := mem) rfl ?_
          exact m_Table_cellOf_29_ok hz xm N _ _ _ _ mem R h
        · exact m_Table_cellOf_28_ok hz xm N _ _ _ mem R h
    · exact m_Table_cellOf_28_ok hz xm N _ _ _ mem R h
/-- java/lang/Math.max(II)I -/
def m_Math_max (xm : Nat → Option kE) (N : Nat) (a0 : Int32) (a1 : Int32) (mem : kM) : dRes :=
  if a0 < a1 then (
    some (.inl (some (.int a1)), mem)
  ) else (
    some (.inl (some (.int a0)), mem)
  )
theorem m_Math_max_ok (hz : z.category = 1) (xm : Nat → Option kE) (N : Nat) {a0 : Int32} {a1 : Int32} {mem : kM} {R : kO × kM} (h : m_Math_max xm N a0 a1 mem = some R) : kCa xm (kSm z) kDfl kFty kG 1 108 [.int a0, .int a1] mem (dEq R) := by
  refine wq_ca (show 2 ≤ 2 by decide) ?_
  change kGo xm (kSm z) kDfl kFty kG 0 108 0 [(0, .int a0), (1, .int a1)] [] mem (dEq R)
  unfold m_Math_max at h
  refine wp_run 2 (pc' := 2) (lv' := [(0, .int a0), (1, .int a1)]) (st' := [.int a1, .int a0]) (mem' := mem) rfl ?_
  refine wq_lt2 rfl h (fun h => ?_) (fun h => ?_)
  · refine wp_run 1 (pc' := 10) (lv' := [(0, .int a0), (1, .int a1)]) (st' := [.int a1]) (mem' := mem) rfl ?_
    exact wq_ret rfl rfl h
  · refine wp_run 2 (pc' := 10) (lv' := [(0, .int a0), (1, .int a1)]) (st' := [.int a0]) (mem' := mem) rfl ?_
    exact wq_ret rfl rfl h
/-- java/util/Arrays.copyOf([II)[I -/
def m_Ars_copyOf_1 (xm : Nat → Option kE) (N : Nat) (a0 : Nat) (a1 : Int32) (mem : kM) : dRes :=
  dLen xm mem a0 fun v2 =>
  if a1 = v2 then (
    dSp xm 9002 mem a0 fun m7 p7 =>
    dCC xm m7 p7 1 0 <|
    some (.inl (some (.ref p7)), m7)
  ) else (
    dNI 0 mem a1 fun m15 p15 =>
    dLen xm m15 a0 fun v23 =>
    dCI (m_Math_min xm N v23 a1 m15) fun v25 m25 =>
    dCpy xm m25 a0 0 p15 0 v25 fun m28 =>
    some (.inl (some (.ref p15)), m28)
  )
theorem m_Ars_copyOf_1_ok (hz : z.category = 1) (xm : Nat → Option kE) (N : Nat) {a0 : Nat} {a1 : Int32} {mem : kM} {R : kO × kM} (h : m_Ars_copyOf_1 xm N a0 a1 mem = some R) : kCa xm (kSm z) kDfl kFty kG 2 126 [.ref a0, .int a1] mem (dEq R) := by
  refine wq_ca (show 2 ≤ 3 by decide) ?_
  change kGo xm (kSm z) kDfl kFty kG 1 126 0 [(0, .ref a0), (1, .int a1)] [] mem (dEq R)
  unfold m_Ars_copyOf_1 at h
  refine wp_run 2 (pc' := 2) (lv' := [(0, .ref a0), (1, .int a1)]) (st' := [.ref a0, .int a1]) (mem' := mem) rfl ?_
  refine wq_len rfl h (fun v2 h => ?_)
  refine wq_ne2 rfl h (fun h => ?_) (fun h => ?_)
  · refine wp_run 1 (pc' := 7) (lv' := [(0, .ref a0), (1, .int a1)]) (st' := [.ref a0]) (mem' := mem) rfl ?_
    refine wq_sp rfl (by decide) h (show 0 ≤ 90 by decide) (fun m7 p7 h => ?_)
    refine wq_cc rfl h (fun h => ?_)
    exact wq_end rfl rfl h
  · refine wp_run 1 (pc' := 15) (lv' := [(0, .ref a0), (1, .int a1)]) (st' := [.int a1]) (mem' := mem) rfl ?_
    refine wq_nI rfl rfl h (fun m15 p15 h => ?_)
    refine wp_run 6 (pc' := 23) (lv' := [(2, .ref p15), (0, .ref a0), (1, .int a1)]) (st' := [.ref a0, .int 0, .ref p15, .int 0, .ref a0]) (mem' := m15) rfl ?_
    refine wq_len rfl h (fun v23 h => ?_)
    refine wp_run 1 (pc' := 25) (lv' := [(2, .ref p15), (0, .ref a0), (1, .int a1)]) (st' := [.int a1, .int v23, .int 0, .ref p15, .int 0, .ref a0]) (mem' := m15) rfl ?_
    refine wq_cI rfl (kCall_s (as := [.int v23, .int a1]) (rest := [.int 0, .ref p15, .int 0, .ref a0]) ⟨by decide, rfl⟩ (show 4 ≤ 8 by decide) (by decide)) h (fun r hr => ca_up (by decide) (m_Math_min_ok hz xm N hr)) (fun v25 m25 h => ?_)
    refine wq_cpy rfl h (show 0 ≤ 90 by decide) (fun m28 h => ?_)
    refine wp_run 1 (pc' := 32) (lv' := [(2, .ref p15), (0, .ref a0), (1, .int a1)]) (st' := [.ref p15]) (mem' := m28) rfl ?_
    exact wq_end rfl rfl h
/-- Knitstead$Table.growTo(I)V -/
def m_Table_growTo (xm : Nat → Option kE) (N : Nat) (a0 : Nat) (a1 : Int32) (mem : kM) : dRes :=
  dGR xm mem a0 8 2 fun v2 =>
  dLen xm mem v2 fun v5 =>
  if v5 < a1 then (
    dGR xm mem a0 8 2 fun v12 =>
    dLen xm mem v12 fun v15 =>
    dCI (m_Math_max xm N a1 (v15 * 2) mem) fun v18 m18 =>
    dGI xm m18 a0 8 1 fun v22 =>
    dGI xm m18 a0 8 0 fun v26 =>
    dCI (m_Math_min xm N v18 (v22 * v26) m18) fun v30 m30 =>
    dGR xm m30 a0 8 2 fun v36 =>
    dLen xm m30 v36 fun v39 =>
    if v39 < v30 then (
      dGR xm m30 a0 8 2 fun v45 =>
      dCR (m_Ars_copyOf_1 xm N v45 v30 m30) fun v49 m49 =>
      dP xm m49 a0 8 2 (.ref v49) fun m52 =>
      some (.inl none, m52)
    ) else (
      some (.inl none, m30)
    )
  ) else (
    some (.inl none, mem)
  )
theorem m_Table_growTo_ok (hz : z.category = 1) (xm : Nat → Option kE) (N : Nat) {a0 : Nat} {a1 : Int32} {mem : kM} {R : kO × kM} (h : m_Table_growTo xm N a0 a1 mem = some R) : kCa xm (kSm z) kDfl kFty kG 3 26 [.ref a0, .int a1] mem (dEq R) := by
  refine wq_ca (show 2 ≤ 3 by decide) ?_
  change kGo xm (kSm z) kDfl kFty kG 2 26 0 [(0, .ref a0), (1, .int a1)] [] mem (dEq R)
  unfold m_Table_growTo at h
  refine wp_run 2 (pc' := 2) (lv' := [(0, .ref a0), (1, .int a1)]) (st' := [.ref a0, .int a1]) (mem' := mem) rfl ?_
  refine wq_gR rfl h (fun v2 h => ?_)
  refine wq_len rfl h (fun v5 h => ?_)
  refine wq_gt2 rfl h (fun h => ?_) (fun h => ?_)
  · refine wp_run 2 (pc' := 12) (lv' := [(0, .ref a0), (1, .int a1)]) (st' := [.ref a0, .int a1]) (mem' := mem) rfl ?_
    refine wq_gR rfl h (fun v12 h => ?_)
    refine wq_len rfl h (fun v15 h => ?_)
    refine wp_run 2 (pc' := 18) (lv' := [(0, .ref a0), (1, .int a1)]) (st' := [.int (v15 * 2), .int a1]) (mem' := mem) rfl ?_
    refine wq_cI rfl (kCall_s (as := [.int a1, .int (v15 * 2)]) (rest := []) ⟨by decide, rfl⟩ (show 0 ≤ 8 by decide) (by decide)) h (fun r hr => ca_up (by decide) (m_Math_max_ok hz xm N hr)) (fun v18 m18 h => ?_)
    refine wp_run 1 (pc' := 22) (lv' := [(0, .ref a0), (1, .int a1)]) (st' := [.ref a0, .int v18]) (mem' := m18) rfl ?_
    refine wq_gI rfl h (fun v22 h => ?_)
    refine wp_run 1 (pc' := 26) (lv' := [(0, .ref a0), (1, .int a1)]) (st' := [.ref a0, .int v22, .int v18]) (mem' := m18) rfl ?_
    refine wq_gI rfl h (fun v26 h => ?_)
    refine wp_run 1 (pc' := 30) (lv' := [(0, .ref a0), (1, .int a1)]) (st' := [.int (v22 * v26), .int v18]) (mem' := m18) rfl ?_
    refine wq_cI rfl (kCall_s (as := [.int v18, .int (v22 * v26)]) (rest := []) ⟨by decide, rfl⟩ (show 0 ≤ 8 by decide) (by decide)) h (fun r hr => ca_up (by decide) (m_Math_min_ok hz xm N hr)) (fun v30 m30 h => ?_)
    refine wp_run 3 (pc' := 36) (lv' := [(2, .int v30), (0, .ref a0), (1, .int a1)]) (st' := [.ref a0, .int v30]) (mem' := m30) rfl ?_
    refine wq_gR rfl h (fun v36 h => ?_)
    refine wq_len rfl h (fun v39 h => ?_)
    refine wq_le2 rfl h (fun h => ?_) (fun h => ?_)
    · refine wp_run 2 (pc' := 45) (lv' := [(2, .int v30), (0, .ref a0), (1, .int a1)]) (st' := [.ref a0, .ref a0]) (mem' := m30) rfl ?_
      refine wq_gR rfl h (fun v45 h => ?_)
      refine wp_run 1 (pc' := 49) (lv' := [(2, .int v30), (0, .ref a0), (1, .int a1)]) (st' := [.int v30, .ref v45, .ref a0]) (mem' := m30) rfl ?_
      refine wq_cR rfl (kCall_s (as := [.ref v45, .int v30]) (rest := [.ref a0]) ⟨by decide, rfl⟩ (show 1 ≤ 8 by decide) (by decide)) h (fun r hr => ca_up (by decide) (m_Ars_copyOf_1_ok hz xm N hr)) (fun v49 m49 h => ?_)
      refine wq_p rfl rfl h (fun m52 h => ?_)
      exact wq_end rfl rfl h
    · exact wq_end rfl rfl h
  · exact wq_end rfl rfl h
/-- Knitstead$Table.set(III)V -/
def m_Table_set (xm : Nat → Option kE) (N : Nat) (a0 : Nat) (a1 : Int32) (a2 : Int32) (a3 : Int32) (mem : kM) : dRes :=
  dRc xm mem a0 8 <|
  dCI (m_Table_cellOf xm N a0 a1 a2 mem) fun v3 m3 =>
  dRc xm m3 a0 8 <|
  dCV (m_Table_growTo xm N a0 (v3 + 1) m3) fun m13 =>
  if v3 < 0 then (
    some (.inl none, m13)
  ) else (
    dGR xm m13 a0 8 2 fun v24 =>
    dLen xm m13 v24 fun v27 =>
    if v3 < v27 then (
      dGR xm m13 a0 8 2 fun v32 =>
      dIS xm m13 v32 v3 a3 fun m38 =>
      some (.inl none, m38)
    ) else (
      some (.inl none, m13)
    )
  )
theorem m_Table_set_ok (hz : z.category = 1) (xm : Nat → Option kE) (N : Nat) {a0 : Nat} {a1 : Int32} {a2 : Int32} {a3 : Int32} {mem : kM} {R : kO × kM} (h : m_Table_set xm N a0 a1 a2 a3 mem = some R) : kCa xm (kSm z) kDfl kFty kG 4 25 [.ref a0, .int a1, .int a2, .int a3] mem (dEq R) := by
  refine wq_ca (show 4 ≤ 5 by decide) ?_
  change kGo xm (kSm z) kDfl kFty kG 3 25 0 [(0, .ref a0), (1, .int a1), (2, .int a2), (3, .int a3)] [] mem (dEq R)
  unfold m_Table_set at h
  refine wp_run 3 (pc' := 3) (lv' := [(0, .ref a0), (1, .int a1), (2, .int a2), (3, .int a3)]) (st' := [.int a2, .int a1, .ref a0]) (mem' := mem) rfl ?_
  obtain ⟨fk3, hk3, h⟩ := dRc_some h
  refine wq_cI rfl (kCall_v hk3 (as := [.int a1, .int a2]) (rest := []) ⟨by decide, rfl, (show 2 < 90 by decide), by decide⟩ (show 0 ≤ 8 by decide)) h (fun r hr => ca_up (by decide) (m_Table_cellOf_ok hz xm N hr)) (fun v3 m3 h => ?_)
  refine wp_run 5 (pc' := 13) (lv' := [(4, .int v3), (0, .ref a0), (1, .int a1), (2, .int a2), (3, .int a3)]) (st' := [.int (v3 + 1), .ref a0]) (mem' := m3) rfl ?_
  obtain ⟨fk13, hk13, h⟩ := dRc_some h
  refine wq_cV rfl (kCall_v hk13 (as := [.int (v3 + 1)]) (rest := []) ⟨by decide, rfl, (show 1 < 90 by decide), by decide⟩ (show 0 ≤ 8 by decide)) h (fun r hr => ca_up (by decide) (m_Table_growTo_ok hz xm N hr)) (fun m13 h => ?_)
  refine wp_run 1 (pc' := 18) (lv' := [(4, .int v3), (0, .ref a0), (1, .int a1), (2, .int a2), (3, .int a3)]) (st' := [.int v3]) (mem' := m13) rfl ?_
  refine wq_lt rfl h (fun h => ?_) (fun h => ?_)
  · exact wq_end rfl rfl h
  · refine wp_run 2 (pc' := 24) (lv' := [(4, .int v3), (0, .ref a0), (1, .int a1), (2, .int a2), (3, .int a3)]) (st' := [.ref a0, .int v3]) (mem' := m13) rfl ?_
    refine wq_gR rfl h (fun v24 h => ?_)
    refine wq_len rfl h (fun v27 h => ?_)
    refine wq_ge2 rfl h (fun h => ?_) (fun h => ?_)
    · refine wp_run 1 (pc' := 32) (lv' := [(4, .int v3), (0, .ref a0), (1, .int a1), (2, .int a2), (3, .int a3)]) (st' := [.ref a0]) (mem' := m13) rfl ?_
      refine wq_gR rfl h (fun v32 h => ?_)
      refine wp_run 2 (pc' := 38) (lv' := [(4, .int v3), (0, .ref a0), (1, .int a1), (2, .int a2), (3, .int a3)]) (st' := [.int a3, .int v3, .ref v32]) (mem' := m13) rfl ?_
      refine wq_iS rfl h (fun m38 h => ?_)
      exact wq_end rfl rfl h
    · exact wq_end rfl rfl h
/-- Knitstead$Table.get(II)I -/
def m_Table_get (xm : Nat → Option kE) (N : Nat) (a0 : Nat) (a1 : Int32) (a2 : Int32) (mem : kM) : dRes :=
  dRc xm mem a0 8 <|
  dCI (m_Table_cellOf xm N a0 a1 a2 mem) fun v3 m3 =>
  if v3 < 0 then (
    some (.inl (some (.int 0)), m3)
  ) else (
    dGR xm m3 a0 8 2 fun v13 =>
    dLen xm m3 v13 fun v16 =>
    if v3 < v16 then (
      dGR xm m3 a0 8 2 fun v21 =>
      dIL xm 0 m3 v21 v3 fun v25 =>
      some (.inl (some (.int v25)), m3)
    ) else (
      some (.inl (some (.int 0)), m3)
    )
  )
theorem m_Table_get_ok (hz : z.category = 1) (xm : Nat → Option kE) (N : Nat) {a0 : Nat} {a1 : Int32} {a2 : Int32} {mem : kM} {R : kO × kM} (h : m_Table_get xm N a0 a1 a2 mem = some R) : kCa xm (kSm z) kDfl kFty kG 2 24 [.ref a0, .int a1, .int a2] mem (dEq R) := by
  refine wq_ca (show 3 ≤ 4 by decide) ?_
  change kGo xm (kSm z) kDfl kFty kG 1 24 0 [(0, .ref a0), (1, .int a1), (2, .int a2)] [] mem (dEq R)
  unfold m_Table_get at h
  refine wp_run 3 (pc' := 3) (lv' := [(0, .ref a0), (1, .int a1), (2, .int a2)]) (st' := [.int a2, .int a1, .ref a0]) (mem' := mem) rfl ?_
  obtain ⟨fk3, hk3, h⟩ := dRc_some h
  refine wq_cI rfl (kCall_v hk3 (as := [.int a1, .int a2]) (rest := []) ⟨by decide, rfl, (show 2 < 90 by decide), by decide⟩ (show 0 ≤ 8 by decide)) h (fun r hr => ca_up (by decide) (m_Table_cellOf_ok hz xm N hr)) (fun v3 m3 h => ?_)
  refine wp_run 2 (pc' := 8) (lv' := [(3, .int v3), (0, .ref a0), (1, .int a1), (2, .int a2)]) (st' := [.int v3]) (mem' := m3) rfl ?_
  refine wq_lt rfl h (fun h => ?_) (fun h => ?_)
  · refine wp_run 1 (pc' := 30) (lv' := [(3, .int v3), (0, .ref a0), (1, .int a1), (2, .int a2)]) (st' := [.int 0]) (mem' := m3) rfl ?_
    exact wq_ret rfl rfl h
  · refine wp_run 2 (pc' := 13) (lv' := [(3, .int v3), (0, .ref a0), (1, .int a1), (2, .int a2)]) (st' := [.ref a0, .int v3]) (mem' := m3) rfl ?_
    refine wq_gR rfl h (fun v13 h => ?_)
    refine wq_len rfl h (fun v16 h => ?_)
    refine wq_ge2 rfl h (fun h => ?_) (fun h => ?_)
    · refine wp_run 1 (pc' := 21) (lv' := [(3, .int v3), (0, .ref a0), (1, .int a1), (2, .int a2)]) (st' := [.ref a0]) (mem' := m3) rfl ?_
      refine wq_gR rfl h (fun v21 h => ?_)
      refine wp_run 1 (pc' := 25) (lv' := [(3, .int v3), (0, .ref a0), (1, .int a1), (2, .int a2)]) (st' := [.int v3, .ref v21]) (mem' := m3) rfl ?_
      refine wq_iL rfl h (fun v25 h => ?_)
      refine wp_run 1 (pc' := 30) (lv' := [(3, .int v3), (0, .ref a0), (1, .int a1), (2, .int a2)]) (st' := [.int v25]) (mem' := m3) rfl ?_
      exact wq_ret rfl rfl h
    · refine wp_run 1 (pc' := 30) (lv' := [(3, .int v3), (0, .ref a0), (1, .int a1), (2, .int a2)]) (st' := [.int 0]) (mem' := m3) rfl ?_
      exact wq_ret rfl rfl h
/-- Knitstead$Work.isOpen(I)Z -/
def m_Work_isOpen (xm : Nat → Option kE) (N : Nat) (a0 : Nat) (a1 : Int32) (mem : kM) : dRes :=
  dGR xm mem a0 10 2 fun v1 =>
  dRc xm mem v1 8 <|
  dCI (m_Table_get xm N v1 a1 3 mem) fun v6 m6 =>
  if v6 = 1 then (
    some (.inl (some (.int 1)), m6)
  ) else (
    some (.inl (some (.int 0)), m6)
  )
theorem m_Work_isOpen_ok (hz : z.category = 1) (xm : Nat → Option kE) (N : Nat) {a0 : Nat} {a1 : Int32} {mem : kM} {R : kO × kM} (h : m_Work_isOpen xm N a0 a1 mem = some R) : kCa xm (kSm z) kDfl kFty kG 3 34 [.ref a0, .int a1] mem (dEq R) := by
  refine wq_ca (show 2 ≤ 2 by decide) ?_
  change kGo xm (kSm z) kDfl kFty kG 2 34 0 [(0, .ref a0), (1, .int a1)] [] mem (dEq R)
  unfold m_Work_isOpen at h
  refine wp_run 1 (pc' := 1) (lv' := [(0, .ref a0), (1, .int a1)]) (st' := [.ref a0]) (mem' := mem) rfl ?_
  refine wq_gR rfl h (fun v1 h => ?_)
  refine wp_run 2 (pc' := 6) (lv' := [(0, .ref a0), (1, .int a1)]) (st' := [.int 3, .int a1, .ref v1]) (mem' := mem) rfl ?_
  obtain ⟨fk6, hk6, h⟩ := dRc_some h
  refine wq_cI rfl (kCall_v hk6 (as := [.int a1, .int 3]) (rest := []) ⟨by decide, rfl, (show 2 < 90 by decide), by decide⟩ (show 0 ≤ 8 by decide)) h (fun r hr => ca_up (by decide) (m_Table_get_ok hz xm N hr)) (fun v6 m6 h => ?_)
  refine wp_run 1 (pc' := 10) (lv' := [(0, .ref a0), (1, .int a1)]) (st' := [.int 1, .int v6]) (mem' := m6) rfl ?_
  refine wq_ne2 rfl h (fun h => ?_) (fun h => ?_)
  · refine wp_run 2 (pc' := 18) (lv' := [(0, .ref a0), (1, .int a1)]) (st' := [.int 1]) (mem' := m6) rfl ?_
    exact wq_ret rfl rfl h
  · refine wp_run 1 (pc' := 18) (lv' := [(0, .ref a0), (1, .int a1)]) (st' := [.int 0]) (mem' := m6) rfl ?_
    exact wq_ret rfl rfl h
/-- Knitstead$Work.letRunsFall()V -/
def m_Work_letRunsFall_52 (xm : Nat → Option kE) (N : Nat) (K2 : Nat → Int32 → kM → dRes) (a0 : Nat) (a1 : Int32) (mem : kM) : dRes :=
  K2 a0 (a1 + 1) mem
theorem m_Work_letRunsFall_52_ok (hz : z.category = 1) (xm : Nat → Option kE) (N : Nat) (K2 : Nat → Int32 → kM → dRes) (hK2 : ∀ (a0 : Nat) (a1 : Int32) (mem : kM) (R : kO × kM), K2 a0 a1 mem = some R → kGo xm (kSm z) kDfl kFty kG 4 37 2 [(0, .ref a0), (1, .int a1)] [] mem (dEq R)) : ∀ (a0 : Nat) (a1 : Int32) (mem : kM) (R : kO × kM), m_Work_letRunsFall_52 xm N K2 a0 a1 mem = some R → kGo xm (kSm z) kDfl kFty kG 4 37 52 [(0, .ref a0), (1, .int a1)] [] mem (dEq R) := by
  intro a0 a1 mem R h
  unfold m_Work_letRunsFall_52 at h
  refine wp_run 2 (pc' := 2) (lv' := [(1, .int (a1 + 1)), (0, .ref a0)]) (st' := []) (mem' := mem) rfl ?_
  refine kGo_sub (lvS_of [1, 0] rfl [1, 0] rfl (by decide)) ?_
  exact hK2 _ _ mem R h
def m_Work_letRunsFall_2 (xm : Nat → Option kE) (N : Nat) : Nat → Nat → Int32 → kM → dRes
  | 0, _, _, _ => none
  | n + 1, a0, a1, mem =>
    dGI xm mem a0 10 3 fun v4 =>
    if a1 < v4 then (
      dRc xm mem a0 10 <|
      dCI (m_Work_isOpen xm N a0 a1 mem) fun v12 m12 =>
      if v12 = 0 then (
        m_Work_letRunsFall_52 xm N (fun a0 a1 mem => m_Work_letRunsFall_2 xm N n a0 a1 mem) a0 a1 m12
      ) else (
        dGR xm m12 a0 10 2 fun v19 =>
        dRc xm m12 v19 8 <|
        dCI (m_Table_get xm N v19 a1 2 m12) fun v24 m24 =>
        dGR xm m24 a0 10 2 fun v31 =>
        dGR xm m24 a0 10 2 fun v38 =>
        dRc xm m24 v38 8 <|
        dCI (m_Table_get xm N v38 a1 1 m24) fun v43 m43 =>
        dCI (m_Math_min xm N (v24 + 1) v43 m43) fun v46 m46 =>
        dRc xm m46 v31 8 <|
        dCV (m_Table_set xm N v31 a1 2 v46 m46) fun m49 =>
        m_Work_letRunsFall_52 xm N (fun a0 a1 mem => m_Work_letRunsFall_2 xm N n a0 a1 mem) a0 a1 m49
      )
    ) else (
      some (.inl none, mem)
    )
theorem m_Work_letRunsFall_2_ok (hz : z.category = 1) (xm : Nat → Option kE) (N : Nat) : ∀ (n : Nat) (a0 : Nat) (a1 : Int32) (mem : kM) (R : kO × kM), m_Work_letRunsFall_2 xm N n a0 a1 mem = some R → kGo xm (kSm z) kDfl kFty kG 4 37 2 [(0, .ref a0), (1, .int a1)] [] mem (dEq R) := by
  intro n
  induction n with
  | zero => intro a0 a1 mem R h; cases h
  | succ n ih =>
    intro a0 a1 mem R h
    rw [m_Work_letRunsFall_2] at h
    refine wp_run 2 (pc' := 4) (lv' := [(0, .ref a0), (1, .int a1)]) (st' := [.ref a0, .int a1]) (mem' := mem) rfl ?_
    refine wq_gI rfl h (fun v4 h => ?_)
    refine wq_ge2 rfl h (fun h => ?_) (fun h => ?_)
    · refine wp_run 2 (pc' := 12) (lv' := [(0, .ref a0), (1, .int a1)]) (st' := [.int a1, .ref a0]) (mem' := mem) rfl ?_
      obtain ⟨fk12, hk12, h⟩ := dRc_some h
      refine wq_cI rfl (kCall_v hk12 (as := [.int a1]) (rest := []) ⟨by decide, rfl, (show 1 < 90 by decide), by decide⟩ (show 0 ≤ 8 by decide)) h (fun r hr => ca_up (by decide) (m_Work_isOpen_ok hz xm N hr)) (fun v12 m12 h => ?_)
      refine wq_eq rfl h (fun h => ?_) (fun h => ?_)
      · exact m_Work_letRunsFall_52_ok hz xm N _ ih _ _ m12 R h
      · refine wp_run 1 (pc' := 19) (lv' := [(0, .ref a0), (1, .int a1)]) (st' := [.ref a0]) (mem' := m12) rfl ?_
        refine wq_gR rfl h (fun v19 h => ?_)
        refine wp_run 2 (pc' := 24) (lv' := [(0, .ref a0), (1, .int a1)]) (st' := [.int 2, .int a1, .ref v19]) (mem' := m12) rfl ?_
        obtain ⟨fk24, hk24, h⟩ := dRc_some h
        refine wq_cI rfl (kCall_v hk24 (as := [.int a1, .int 2]) (rest := []) ⟨by decide, rfl, (show 2 < 90 by decide), by decide⟩ (show 0 ≤ 8 by decide)) h (fun r hr => ca_up (by decide) (m_Table_get_ok hz xm N hr)) (fun v24 m24 h => ?_)
        refine wp_run 4 (pc' := 31) (lv' := [(2, .int (v24 + 1)), (0, .ref a0), (1, .int a1)]) (st' := [.ref a0]) (mem' := m24) rfl ?_
        refine wq_gR rfl h (fun v31 h => ?_)
        refine wp_run 4 (pc' := 38) (lv' := [(2, .int (v24 + 1)), (0, .ref a0), (1, .int a1)]) (st' := [.ref a0, .int (v24 + 1), .int 2, .int a1, .ref v31]) (mem' := m24) rfl ?_
        refine wq_gR rfl h (fun v38 h => ?_)
        refine wp_run 2 (pc' := 43) (lv' := [(2, .int (v24 + 1)), (0, .ref a0), (1, .int a1)]) (st' := [.int 1, .int a1, .ref v38, .int (v24 + 1), .int 2, .int a1, .ref v31]) (mem' := m24) rfl ?_
        obtain ⟨fk43, hk43, h⟩ := dRc_some h
        refine wq_cI rfl (kCall_v hk43 (as := [.int a1, .int 1]) (rest := [.int (v24 + 1), .int 2, .int a1, .ref v31]) ⟨by decide, rfl, (show 2 < 90 by decide), by decide⟩ (show 4 ≤ 8 by decide)) h (fun r hr => ca_up (by decide) (m_Table_get_ok hz xm N hr)) (fun v43 m43 h => ?_)
        refine wq_cI rfl (kCall_s (as := [.int (v24 + 1), .int v43]) (rest := [.int 2, .int a1, .ref v31]) ⟨by decide, rfl⟩ (show 3 ≤ 8 by decide) (by decide)) h (fun r hr => ca_up (by decide) (m_Math_min_ok hz xm N hr)) (fun v46 m46 h => ?_)
        obtain ⟨fk49, hk49, h⟩ := dRc_some h
        refine wq_cV rfl (kCall_v hk49 (as := [.int a1, .int 2, .int v46]) (rest := []) ⟨by decide, rfl, (show 3 < 90 by decide), by decide⟩ (show 0 ≤ 8 by decide)) h (fun r hr => ca_up (by decide) (m_Table_set_ok hz xm N hr)) (fun m49 h => ?_)
        refine kGo_sub (lvS_of [1, 2] rfl [2, 0, 1] rfl (by decide)) ?_
        exact m_Work_letRunsFall_52_ok hz xm N _ ih _ _ m49 R h
    · exact wq_end rfl rfl h
def m_Work_letRunsFall (xm : Nat → Option kE) (N : Nat) (a0 : Nat) (mem : kM) : dRes :=
  m_Work_letRunsFall_2 xm N N a0 0 mem
theorem m_Work_letRunsFall_ok (hz : z.category = 1) (xm : Nat → Option kE) (N : Nat) {a0 : Nat} {mem : kM} {R : kO × kM} (h : m_Work_letRunsFall xm N a0 mem = some R) : kCa xm (kSm z) kDfl kFty kG 5 37 [.ref a0] mem (dEq R) := by
  refine wq_ca (show 1 ≤ 3 by decide) ?_
  change kGo xm (kSm z) kDfl kFty kG 4 37 0 [(0, .ref a0)] [] mem (dEq R)
  unfold m_Work_letRunsFall at h
  refine wp_run 2 (pc' := 2) (lv' := [(1, .int 0), (0, .ref a0)]) (st' := []) (mem' := mem) rfl ?_
  refine kGo_sub (lvS_of [1, 0] rfl [1, 0] rfl (by decide)) ?_
  exact m_Work_letRunsFall_2_ok hz xm N N _ _ mem R h
/-- Knitstead.make(IIII)I -/
def m_K_make (xm : Nat → Option kE) (N : Nat) (a0 : Nat) (a1 : Int32) (a2 : Int32) (a3 : Int32) (a4 : Int32) (mem : kM) : dRes :=
  dGR xm mem a0 11 1 fun v1 =>
  dGI xm mem v1 10 4 fun v4 =>
  dGR xm mem a0 11 1 fun v10 =>
  dGI xm mem v10 10 4 fun v14 =>
  dP xm mem v10 10 4 (.int (v14 + 1)) fun m19 =>
  dGR xm m19 a0 11 2 fun v23 =>
  dRc xm m19 v23 8 <|
  dCV (m_Table_set xm N v23 v4 0 a1 m19) fun m30 =>
  dGR xm m30 a0 11 2 fun v34 =>
  dGR xm m30 a0 11 0 fun v41 =>
  dGI xm m30 v41 5 2 fun v44 =>
  dRc xm m30 v34 8 <|
  dCV (m_Table_set xm N v34 v4 1 v44 m30) fun m47 =>
  dGR xm m47 a0 11 2 fun v51 =>
  dGR xm m47 a0 11 1 fun v58 =>
  dGI xm m47 v58 10 5 fun v61 =>
  dRc xm m47 v51 8 <|
  dCV (m_Table_set xm N v51 v4 2 v61 m47) fun m64 =>
  dGR xm m64 a0 11 2 fun v68 =>
  dRc xm m64 v68 8 <|
  dCV (m_Table_set xm N v68 v4 3 a2 m64) fun m75 =>
  dGR xm m75 a0 11 2 fun v79 =>
  dRc xm m75 v79 8 <|
  dCV (m_Table_set xm N v79 v4 4 a3 m75) fun m86 =>
  dGR xm m86 a0 11 0 fun v90 =>
  dRc xm m86 v90 5 <|
  dCV (m_Balls_spend xm N v90 a4 m86) fun m95 =>
  dGR xm m95 a0 11 1 fun v99 =>
  dGR xm m95 v99 10 1 fun v102 =>
  dRc xm m95 v102 7 <|
  dCV (m_Needle_put xm N v102 v4 m95) fun m107 =>
  dGR xm m107 a0 11 1 fun v111 =>
  dRc xm m107 v111 10 <|
  dCV (m_Work_letRunsFall xm N v111 m107) fun m114 =>
  some (.inl (some (.int v4)), m114)
theorem m_K_make_ok (hz : z.category = 1) (xm : Nat → Option kE) (N : Nat) {a0 : Nat} {a1 : Int32} {a2 : Int32} {a3 : Int32} {a4 : Int32} {mem : kM} {R : kO × kM} (h : m_K_make xm N a0 a1 a2 a3 a4 mem = some R) : kCa xm (kSm z) kDfl kFty kG 6 66 [.ref a0, .int a1, .int a2, .int a3, .int a4] mem (dEq R) := by
  refine wq_ca (show 5 ≤ 6 by decide) ?_
  change kGo xm (kSm z) kDfl kFty kG 5 66 0 [(0, .ref a0), (1, .int a1), (2, .int a2), (3, .int a3), (4, .int a4)] [] mem (dEq R)
  unfold m_K_make at h
  refine wp_run 1 (pc' := 1) (lv' := [(0, .ref a0), (1, .int a1), (2, .int a2), (3, .int a3), (4, .int a4)]) (st' := [.ref a0]) (mem' := mem) rfl ?_
  refine wq_gR rfl h (fun v1 h => ?_)
  refine wq_gI rfl h (fun v4 h => ?_)
  refine wp_run 2 (pc' := 10) (lv' := [(5, .int v4), (0, .ref a0), (1, .int a1), (2, .int a2), (3, .int a3), (4, .int a4)]) (st' := [.ref a0]) (mem' := mem) rfl ?_
  refine wq_gR rfl h (fun v10 h => ?_)
  refine wp_run 1 (pc' := 14) (lv' := [(5, .int v4), (0, .ref a0), (1, .int a1), (2, .int a2), (3, .int a3), (4, .int a4)]) (st' := [.ref v10, .ref v10]) (mem' := mem) rfl ?_
  refine wq_gI rfl h (fun v14 h => ?_)
  refine wp_run 2 (pc' := 19) (lv' := [(5, .int v4), (0, .ref a0), (1, .int a1), (2, .int a2), (3, .int a3), (4, .int a4)]) (st' := [.int (v14 + 1), .ref v10]) (mem' := mem) rfl ?_
  refine wq_p rfl rfl h (fun m19 h => ?_)
  refine wp_run 1 (pc' := 23) (lv' := [(5, .int v4), (0, .ref a0), (1, .int a1), (2, .int a2), (3, .int a3), (4, .int a4)]) (st' := [.ref a0]) (mem' := m19) rfl ?_
  refine wq_gR rfl h (fun v23 h => ?_)
  refine wp_run 3 (pc' := 30) (lv' := [(5, .int v4), (0, .ref a0), (1, .int a1), (2, .int a2), (3, .int a3), (4, .int a4)]) (st' := [.int a1, .int 0, .int v4, .ref v23]) (mem' := m19) rfl ?_
  obtain ⟨fk30, hk30, h⟩ := dRc_some h
  refine wq_cV rfl (kCall_v hk30 (as := [.int v4, .int 0, .int a1]) (rest := []) ⟨by decide, rfl, (show 3 < 90 by decide), by decide⟩ (show 0 ≤ 8 by decide)) h (fun r hr => ca_up (by decide) (m_Table_set_ok hz xm N hr)) (fun m30 h => ?_)
  refine wp_run 1 (pc' := 34) (lv' := [(5, .int v4), (0, .ref a0), (1, .int a1), (2, .int a2), (3, .int a3), (4, .int a4)]) (st' := [.ref a0]) (mem' := m30) rfl ?_
  refine wq_gR rfl h (fun v34 h => ?_)
  refine wp_run 3 (pc' := 41) (lv' := [(5, .int v4), (0, .ref a0), (1, .int a1), (2, .int a2), (3, .int a3), (4, .int a4)]) (st' := [.ref a0, .int 1, .int v4, .ref v34]) (mem' := m30) rfl ?_
  refine wq_gR rfl h (fun v41 h => ?_)
  refine wq_gI rfl h (fun v44 h => ?_)
  obtain ⟨fk47, hk47, h⟩ := dRc_some h
  refine wq_cV rfl (kCall_v hk47 (as := [.int v4, .int 1, .int v44]) (rest := []) ⟨by decide, rfl, (show 3 < 90 by decide), by decide⟩ (show 0 ≤ 8 by decide)) h (fun r hr => ca_up (by decide) (m_Table_set_ok hz xm N hr)) (fun m47 h => ?_)
  refine wp_run 1 (pc' := 51) (lv' := [(5, .int v4), (0, .ref a0), (1, .int a1), (2, .int a2), (3, .int a3), (4, .int a4)]) (st' := [.ref a0]) (mem' := m47) rfl ?_
  refine wq_gR rfl h (fun v51 h => ?_)
  refine wp_run 3 (pc' := 58) (lv' := [(5, .int v4), (0, .ref a0), (1, .int a1), (2, .int a2), (3, .int a3), (4, .int a4)]) (st' := [.ref a0, .int 2, .int v4, .ref v51]) (mem' := m47) rfl ?_
  refine wq_gR rfl h (fun v58 h => ?_)
  refine wq_gI rfl h (fun v61 h => ?_)
  obtain ⟨fk64, hk64, h⟩ := dRc_some h
  refine wq_cV rfl (kCall_v hk64 (as := [.int v4, .int 2, .int v61]) (rest := []) ⟨by decide, rfl, (show 3 < 90 by decide), by decide⟩ (show 0 ≤ 8 by decide)) h (fun r hr => ca_up (by decide) (m_Table_set_ok hz xm N hr)) (fun m64 h => ?_)
  refine wp_run 1 (pc' := 68) (lv' := [(5, .int v4), (0, .ref a0), (1, .int a1), (2, .int a2), (3, .int a3), (4, .int a4)]) (st' := [.ref a0]) (mem' := m64) rfl ?_
  refine wq_gR rfl h (fun v68 h => ?_)
  refine wp_run 3 (pc' := 75) (lv' := [(5, .int v4), (0, .ref a0), (1, .int a1), (2, .int a2), (3, .int a3), (4, .int a4)]) (st' := [.int a2, .int 3, .int v4, .ref v68]) (mem' := m64) rfl ?_
  obtain ⟨fk75, hk75, h⟩ := dRc_some h
  refine wq_cV rfl (kCall_v hk75 (as := [.int v4, .int 3, .int a2]) (rest := []) ⟨by decide, rfl, (show 3 < 90 by decide), by decide⟩ (show 0 ≤ 8 by decide)) h (fun r hr => ca_up (by decide) (m_Table_set_ok hz xm N hr)) (fun m75 h => ?_)
  refine wp_run 1 (pc' := 79) (lv' := [(5, .int v4), (0, .ref a0), (1, .int a1), (2, .int a2), (3, .int a3), (4, .int a4)]) (st' := [.ref a0]) (mem' := m75) rfl ?_
  refine wq_gR rfl h (fun v79 h => ?_)
  refine wp_run 3 (pc' := 86) (lv' := [(5, .int v4), (0, .ref a0), (1, .int a1), (2, .int a2), (3, .int a3), (4, .int a4)]) (st' := [.int a3, .int 4, .int v4, .ref v79]) (mem' := m75) rfl ?_
  obtain ⟨fk86, hk86, h⟩ := dRc_some h
  refine wq_cV rfl (kCall_v hk86 (as := [.int v4, .int 4, .int a3]) (rest := []) ⟨by decide, rfl, (show 3 < 90 by decide), by decide⟩ (show 0 ≤ 8 by decide)) h (fun r hr => ca_up (by decide) (m_Table_set_ok hz xm N hr)) (fun m86 h => ?_)
  refine wp_run 1 (pc' := 90) (lv' := [(5, .int v4), (0, .ref a0), (1, .int a1), (2, .int a2), (3, .int a3), (4, .int a4)]) (st' := [.ref a0]) (mem' := m86) rfl ?_
  refine wq_gR rfl h (fun v90 h => ?_)
  refine wp_run 1 (pc' := 95) (lv' := [(5, .int v4), (0, .ref a0), (1, .int a1), (2, .int a2), (3, .int a3), (4, .int a4)]) (st' := [.int a4, .ref v90]) (mem' := m86) rfl ?_
  obtain ⟨fk95, hk95, h⟩ := dRc_some h
  refine wq_cV rfl (kCall_v hk95 (as := [.int a4]) (rest := []) ⟨by decide, rfl, (show 1 < 90 by decide), by decide⟩ (show 0 ≤ 8 by decide)) h (fun r hr => ca_up (by decide) (m_Balls_spend_ok hz xm N hr)) (fun m95 h => ?_)
  refine wp_run 1 (pc' := 99) (lv' := [(5, .int v4), (0, .ref a0), (1, .int a1), (2, .int a2), (3, .int a3), (4, .int a4)]) (st' := [.ref a0]) (mem' := m95) rfl ?_
  refine wq_gR rfl h (fun v99 h => ?_)
  refine wq_gR rfl h (fun v102 h => ?_)
  refine wp_run 1 (pc' := 107) (lv' := [(5, .int v4), (0, .ref a0), (1, .int a1), (2, .int a2), (3, .int a3), (4, .int a4)]) (st' := [.int v4, .ref v102]) (mem' := m95) rfl ?_
  obtain ⟨fk107, hk107, h⟩ := dRc_some h
  refine wq_cV rfl (kCall_v hk107 (as := [.int v4]) (rest := []) ⟨by decide, rfl, (show 1 < 90 by decide), by decide⟩ (show 0 ≤ 8 by decide)) h (fun r hr => ca_up (by decide) (m_Needle_put_ok hz xm N hr)) (fun m107 h => ?_)
  refine wp_run 1 (pc' := 111) (lv' := [(5, .int v4), (0, .ref a0), (1, .int a1), (2, .int a2), (3, .int a3), (4, .int a4)]) (st' := [.ref a0]) (mem' := m107) rfl ?_
  refine wq_gR rfl h (fun v111 h => ?_)
  obtain ⟨fk114, hk114, h⟩ := dRc_some h
  refine wq_cV rfl (kCall_v hk114 (as := []) (rest := []) ⟨by decide, rfl, (show 0 < 90 by decide), by decide⟩ (show 0 ≤ 8 by decide)) h (fun r hr => ca_up (by decide) (m_Work_letRunsFall_ok hz xm N hr)) (fun m114 h => ?_)
  refine wp_run 1 (pc' := 119) (lv' := [(5, .int v4), (0, .ref a0), (1, .int a1), (2, .int a2), (3, .int a3), (4, .int a4)]) (st' := [.int v4]) (mem' := m114) rfl ?_
  exact wq_ret rfl rfl h
/-- Knitstead.cast(I)I -/
def m_K_cast_75 (xm : Nat → Option kE) (N : Nat) : Nat → Nat → Int32 → Int32 → kM → dRes
  | 0, _, _, _, _ => none
  | n + 1, a0, a1, a2, mem =>
    if a2 < a1 then (
      dRc xm mem a0 11 <|
      dCI (m_K_make xm N a0 0 1 0 2 mem) fun v85 m85 =>
      m_K_cast_75 xm N n a0 a1 (a2 + 1) m85
    ) else (
      dGR xm mem a0 11 1 fun v96 =>
      dRc xm mem v96 10 <|
      dCI (m_Work_onBoth xm N v96 mem) fun v99 m99 =>
      some (.inl (some (.int v99)), m99)
    )
theorem m_K_cast_75_ok (hz : z.category = 1) (xm : Nat → Option kE) (N : Nat) : ∀ (n : Nat) (a0 : Nat) (a1 : Int32) (a2 : Int32) (mem : kM) (R : kO × kM), m_K_cast_75 xm N n a0 a1 a2 mem = some R → kGo xm (kSm z) kDfl kFty kG 6 42 75 [(0, .ref a0), (1, .int a1), (2, .int a2)] [] mem (dEq R) := by
  intro n
  induction n with
  | zero => intro a0 a1 a2 mem R h; cases h
  | succ n ih =>
    intro a0 a1 a2 mem R h
    rw [m_K_cast_75] at h
    refine wp_run 2 (pc' := 77) (lv' := [(0, .ref a0), (1, .int a1), (2, .int a2)]) (st' := [.int a1, .int a2]) (mem' := mem) rfl ?_
    refine wq_ge2 rfl h (fun h => ?_) (fun h => ?_)
    · refine wp_run 5 (pc' := 85) (lv' := [(0, .ref a0), (1, .int a1), (2, .int a2)]) (st' := [.int 2, .int 0, .int 1, .int 0, .ref a0]) (mem' := mem) rfl ?_
      obtain ⟨fk85, hk85, h⟩ := dRc_some h
      refine wq_cI rfl (kCall_v hk85 (as := [.int 0, .int 1, .int 0, .int 2]) (rest := []) ⟨by decide, rfl, (show 4 < 90 by decide), by decide⟩ (show 0 ≤ 8 by decide)) h (fun r hr => ca_up (by decide) (m_K_make_ok hz xm N hr)) (fun v85 m85 h => ?_)
      refine wp_run 3 (pc' := 75) (lv' := [(2, .int (a2 + 1)), (0, .ref a0), (1, .int a1)]) (st' := []) (mem' := m85) rfl ?_
      refine kGo_sub (lvS_of [1, 2, 0] rfl [2, 0, 1] rfl (by decide)) ?_
      exact ih _ _ _ m85 R h
    · refine wp_run 1 (pc' := 96) (lv' := [(0, .ref a0), (1, .int a1), (2, .int a2)]) (st' := [.ref a0]) (mem' := mem) rfl ?_
      refine wq_gR rfl h (fun v96 h => ?_)
      obtain ⟨fk99, hk99, h⟩ := dRc_some h
      refine wq_cI rfl (kCall_v hk99 (as := []) (rest := []) ⟨by decide, rfl, (show 0 < 90 by decide), by decide⟩ (show 0 ≤ 8 by decide)) h (fun r hr => ca_up (by decide) (m_Work_onBoth_ok hz xm N hr)) (fun v99 m99 h => ?_)
      exact wq_ret rfl rfl h
def m_K_cast (xm : Nat → Option kE) (N : Nat) (a0 : Nat) (a1 : Int32) (mem : kM) : dRes :=
  if a1 < 1 then (
    some (.inr 0, mem ++ [.inl (1000, [.null, .null, .null, .null, .null, .null])])
  ) else (
    if 24 < a1 then (
      some (.inr 0, mem ++ [.inl (1000, [.null, .null, .null, .null, .null, .null])])
    ) else (
      dGR xm mem a0 11 0 fun v22 =>
      dRc xm mem v22 5 <|
      dCI (m_Balls_ofJoined xm N v22 mem) fun v25 m25 =>
      if v25 < (a1 * 2) then (
        some (.inr 1, m25 ++ [.inl (1000, [.null, .null, .null, .null, .null, .null])])
      ) else (
        dGR xm m25 a0 11 1 fun v35 =>
        dRc xm m25 v35 10 <|
        dCI (m_Work_onBoth xm N v35 m25) fun v38 m38 =>
        if 24 < (v38 + a1) then (
          some (.inr 1, m38 ++ [.inl (1000, [.null, .null, .null, .null, .null, .null])])
        ) else (
          dGR xm m38 a0 11 5 fun v59 =>
          dGR xm m38 a0 11 1 fun v63 =>
          dGR xm m38 a0 11 0 fun v67 =>
          dRc xm m38 v59 6 <|
          dCV (m_History_keep xm N v59 v63 v67 m38) fun m70 =>
          m_K_cast_75 xm N N a0 a1 0 m70
        )
      )
    )
  )
theorem m_K_cast_ok (hz : z.category = 1) (xm : Nat → Option kE) (N : Nat) {a0 : Nat} {a1 : Int32} {mem : kM} {R : kO × kM} (h : m_K_cast xm N a0 a1 mem = some R) : kCa xm (kSm z) kDfl kFty kG 7 42 [.ref a0, .int a1] mem (dEq R) := by
  refine wq_ca (show 2 ≤ 3 by decide) ?_
  change kGo xm (kSm z) kDfl kFty kG 6 42 0 [(0, .ref a0), (1, .int a1)] [] mem (dEq R)
  unfold m_K_cast at h
  refine wp_run 2 (pc' := 2) (lv' := [(0, .ref a0), (1, .int a1)]) (st' := [.int 1, .int a1]) (mem' := mem) rfl ?_
  refine wq_lt2 rfl h (fun h => ?_) (fun h => ?_)
  · exact wq_end rfl rfl h
  · refine wp_run 2 (pc' := 8) (lv' := [(0, .ref a0), (1, .int a1)]) (st' := [.int 24, .int a1]) (mem' := mem) rfl ?_
    refine wq_le2 rfl h (fun h => ?_) (fun h => ?_)
    · exact wq_end rfl rfl h
    · refine wp_run 1 (pc' := 22) (lv' := [(0, .ref a0), (1, .int a1)]) (st' := [.ref a0]) (mem' := mem) rfl ?_
      refine wq_gR rfl h (fun v22 h => ?_)
      obtain ⟨fk25, hk25, h⟩ := dRc_some h
      refine wq_cI rfl (kCall_v hk25 (as := []) (rest := []) ⟨by decide, rfl, (show 0 < 90 by decide), by decide⟩ (show 0 ≤ 8 by decide)) h (fun r hr => ca_up (by decide) (m_Balls_ofJoined_ok hz xm N hr)) (fun v25 m25 h => ?_)
      refine wp_run 3 (pc' := 31) (lv' := [(0, .ref a0), (1, .int a1)]) (st' := [.int (a1 * 2), .int v25]) (mem' := m25) rfl ?_
      refine wq_lt2 rfl h (fun h => ?_) (fun h => ?_)
      · exact wq_end rfl rfl h
      · refine wp_run 1 (pc' := 35) (lv' := [(0, .ref a0), (1, .int a1)]) (st' := [.ref a0]) (mem' := m25) rfl ?_
        refine wq_gR rfl h (fun v35 h => ?_)
        obtain ⟨fk38, hk38, h⟩ := dRc_some h
        refine wq_cI rfl (kCall_v hk38 (as := []) (rest := []) ⟨by decide, rfl, (show 0 < 90 by decide), by decide⟩ (show 0 ≤ 8 by decide)) h (fun r hr => ca_up (by decide) (m_Work_onBoth_ok hz xm N hr)) (fun v38 m38 h => ?_)
        refine wp_run 3 (pc' := 45) (lv' := [(0, .ref a0), (1, .int a1)]) (st' := [.int 24, .int (v38 + a1)]) (mem' := m38) rfl ?_
        refine wq_le2 rfl h (fun h => ?_) (fun h => ?_)
        · exact wq_end rfl rfl h
        · refine wp_run 1 (pc' := 59) (lv' := [(0, .ref a0), (1, .int a1)]) (st' := [.ref a0]) (mem' := m38) rfl ?_
          refine wq_gR rfl h (fun v59 h => ?_)
          refine wp_run 1 (pc' := 63) (lv' := [(0, .ref a0), (1, .int a1)]) (st' := [.ref a0, .ref v59]) (mem' := m38) rfl ?_
          refine wq_gR rfl h (fun v63 h => ?_)
          refine wp_run 1 (pc' := 67) (lv' := [(0, .ref a0), (1, .int a1)]) (st' := [.ref a0, .ref v63, .ref v59]) (mem' := m38) rfl ?_
          refine wq_gR rfl h (fun v67 h => ?_)
          obtain ⟨fk70, hk70, h⟩ := dRc_some h
          refine wq_cV rfl (kCall_v hk70 (as := [.ref v63, .ref v67]) (rest := []) ⟨by decide, rfl, (show 2 < 90 by decide), by decide⟩ (show 0 ≤ 8 by decide)) h (fun r hr => ca_up (by decide) (m_History_keep_ok hz xm N hr)) (fun m70 h => ?_)
          refine wp_run 2 (pc' := 75) (lv' := [(2, .int 0), (0, .ref a0), (1, .int a1)]) (st' := []) (mem' := m70) rfl ?_
          refine kGo_sub (lvS_of [1, 2, 0] rfl [2, 0, 1] rfl (by decide)) ?_
          exact m_K_cast_75_ok hz xm N N _ _ _ m70 R h
/-- Knitstead$Needle.at(I)I -/
def m_Needle_at (xm : Nat → Option kE) (N : Nat) (a0 : Nat) (a1 : Int32) (mem : kM) : dRes :=
  dGI xm mem a0 7 1 fun v1 =>
  if a1 < 0 then (
    some (.inl (some (.int (-1))), mem)
  ) else (
    if ((v1 - 1) - a1) < 0 then (
      some (.inl (some (.int (-1))), mem)
    ) else (
      dGR xm mem a0 7 0 fun v19 =>
      dLen xm mem v19 fun v22 =>
      if ((v1 - 1) - a1) < v22 then (
        dGR xm mem a0 7 0 fun v27 =>
        dIL xm 0 mem v27 ((v1 - 1) - a1) fun v31 =>
        some (.inl (some (.int v31)), mem)
      ) else (
        some (.inl (some (.int (-1))), mem)
      )
    )
  )
theorem m_Needle_at_ok (hz : z.category = 1) (xm : Nat → Option kE) (N : Nat) {a0 : Nat} {a1 : Int32} {mem : kM} {R : kO × kM} (h : m_Needle_at xm N a0 a1 mem = some R) : kCa xm (kSm z) kDfl kFty kG 1 14 [.ref a0, .int a1] mem (dEq R) := by
  refine wq_ca (show 2 ≤ 3 by decide) ?_
  change kGo xm (kSm z) kDfl kFty kG 0 14 0 [(0, .ref a0), (1, .int a1)] [] mem (dEq R)
  unfold m_Needle_at at h
  refine wp_run 1 (pc' := 1) (lv' := [(0, .ref a0), (1, .int a1)]) (st' := [.ref a0]) (mem' := mem) rfl ?_
  refine wq_gI rfl h (fun v1 h => ?_)
  refine wp_run 6 (pc' := 10) (lv' := [(2, .int ((v1 - 1) - a1)), (0, .ref a0), (1, .int a1)]) (st' := [.int a1]) (mem' := mem) rfl ?_
  refine wq_lt rfl h (fun h => ?_) (fun h => ?_)
  · refine wp_run 1 (pc' := 36) (lv' := [(2, .int ((v1 - 1) - a1)), (0, .ref a0), (1, .int a1)]) (st' := [.int (-1)]) (mem' := mem) rfl ?_
    exact wq_ret rfl rfl h
  · refine wp_run 1 (pc' := 14) (lv' := [(2, .int ((v1 - 1) - a1)), (0, .ref a0), (1, .int a1)]) (st' := [.int ((v1 - 1) - a1)]) (mem' := mem) rfl ?_
    refine wq_lt rfl h (fun h => ?_) (fun h => ?_)
    · refine wp_run 1 (pc' := 36) (lv' := [(2, .int ((v1 - 1) - a1)), (0, .ref a0), (1, .int a1)]) (st' := [.int (-1)]) (mem' := mem) rfl ?_
      exact wq_ret rfl rfl h
    · refine wp_run 2 (pc' := 19) (lv' := [(2, .int ((v1 - 1) - a1)), (0, .ref a0), (1, .int a1)]) (st' := [.ref a0, .int ((v1 - 1) - a1)]) (mem' := mem) rfl ?_
      refine wq_gR rfl h (fun v19 h => ?_)
      refine wq_len rfl h (fun v22 h => ?_)
      refine wq_ge2 rfl h (fun h => ?_) (fun h => ?_)
      · refine wp_run 1 (pc' := 27) (lv' := [(2, .int ((v1 - 1) - a1)), (0, .ref a0), (1, .int a1)]) (st' := [.ref a0]) (mem' := mem) rfl ?_
        refine wq_gR rfl h (fun v27 h => ?_)
        refine wp_run 1 (pc' := 31) (lv' := [(2, .int ((v1 - 1) - a1)), (0, .ref a0), (1, .int a1)]) (st' := [.int ((v1 - 1) - a1), .ref v27]) (mem' := mem) rfl ?_
        refine wq_iL rfl h (fun v31 h => ?_)
        refine wp_run 1 (pc' := 36) (lv' := [(2, .int ((v1 - 1) - a1)), (0, .ref a0), (1, .int a1)]) (st' := [.int v31]) (mem' := mem) rfl ?_
        exact wq_ret rfl rfl h
      · refine wp_run 1 (pc' := 36) (lv' := [(2, .int ((v1 - 1) - a1)), (0, .ref a0), (1, .int a1)]) (st' := [.int (-1)]) (mem' := mem) rfl ?_
        exact wq_ret rfl rfl h
/-- Knitstead$Needle.replace(II)V -/
def m_Needle_replace (xm : Nat → Option kE) (N : Nat) (a0 : Nat) (a1 : Int32) (a2 : Int32) (mem : kM) : dRes :=
  dGI xm mem a0 7 1 fun v1 =>
  if a1 < 0 then (
    some (.inl none, mem)
  ) else (
    if ((v1 - 1) - a1) < 0 then (
      some (.inl none, mem)
    ) else (
      dGR xm mem a0 7 0 fun v19 =>
      dLen xm mem v19 fun v22 =>
      if ((v1 - 1) - a1) < v22 then (
        dGR xm mem a0 7 0 fun v27 =>
        dIS xm mem v27 ((v1 - 1) - a1) a2 fun m32 =>
        some (.inl none, m32)
      ) else (
        some (.inl none, mem)
      )
    )
  )
theorem m_Needle_replace_ok (hz : z.category = 1) (xm : Nat → Option kE) (N : Nat) {a0 : Nat} {a1 : Int32} {a2 : Int32} {mem : kM} {R : kO × kM} (h : m_Needle_replace xm N a0 a1 a2 mem = some R) : kCa xm (kSm z) kDfl kFty kG 1 15 [.ref a0, .int a1, .int a2] mem (dEq R) := by
  refine wq_ca (show 3 ≤ 4 by decide) ?_
  change kGo xm (kSm z) kDfl kFty kG 0 15 0 [(0, .ref a0), (1, .int a1), (2, .int a2)] [] mem (dEq R)
  unfold m_Needle_replace at h
  refine wp_run 1 (pc' := 1) (lv' := [(0, .ref a0), (1, .int a1), (2, .int a2)]) (st' := [.ref a0]) (mem' := mem) rfl ?_
  refine wq_gI rfl h (fun v1 h => ?_)
  refine wp_run 6 (pc' := 10) (lv' := [(3, .int ((v1 - 1) - a1)), (0, .ref a0), (1, .int a1), (2, .int a2)]) (st' := [.int a1]) (mem' := mem) rfl ?_
  refine wq_lt rfl h (fun h => ?_) (fun h => ?_)
  · exact wq_end rfl rfl h
  · refine wp_run 1 (pc' := 14) (lv' := [(3, .int ((v1 - 1) - a1)), (0, .ref a0), (1, .int a1), (2, .int a2)]) (st' := [.int ((v1 - 1) - a1)]) (mem' := mem) rfl ?_
    refine wq_lt rfl h (fun h => ?_) (fun h => ?_)
    · exact wq_end rfl rfl h
    · refine wp_run 2 (pc' := 19) (lv' := [(3, .int ((v1 - 1) - a1)), (0, .ref a0), (1, .int a1), (2, .int a2)]) (st' := [.ref a0, .int ((v1 - 1) - a1)]) (mem' := mem) rfl ?_
      refine wq_gR rfl h (fun v19 h => ?_)
      refine wq_len rfl h (fun v22 h => ?_)
      refine wq_ge2 rfl h (fun h => ?_) (fun h => ?_)
      · refine wp_run 1 (pc' := 27) (lv' := [(3, .int ((v1 - 1) - a1)), (0, .ref a0), (1, .int a1), (2, .int a2)]) (st' := [.ref a0]) (mem' := mem) rfl ?_
        refine wq_gR rfl h (fun v27 h => ?_)
        refine wp_run 2 (pc' := 32) (lv' := [(3, .int ((v1 - 1) - a1)), (0, .ref a0), (1, .int a1), (2, .int a2)]) (st' := [.int a2, .int ((v1 - 1) - a1), .ref v27]) (mem' := mem) rfl ?_
        refine wq_iS rfl h (fun m32 h => ?_)
        exact wq_end rfl rfl h
      · exact wq_end rfl rfl h
/-- Knitstead$Needle.moveTipBehind(I)V -/
def m_Needle_moveTipBehind_8 (xm : Nat → Option kE) (N : Nat) : Nat → Nat → Int32 → Int32 → Int32 → kM → dRes
  | 0, _, _, _, _, _ => none
  | n + 1, a0, a1, a2, a3, mem =>
    if a3 < a1 then (
      dRc xm mem a0 7 <|
      dCI (m_Needle_at xm N a0 (a3 + 1) mem) fun v19 m19 =>
      dRc xm m19 a0 7 <|
      dCV (m_Needle_replace xm N a0 a3 v19 m19) fun m22 =>
      m_Needle_moveTipBehind_8 xm N n a0 a1 a2 (a3 + 1) m22
    ) else (
      dRc xm mem a0 7 <|
      dCV (m_Needle_replace xm N a0 a1 a2 mem) fun m34 =>
      some (.inl none, m34)
    )
theorem m_Needle_moveTipBehind_8_ok (hz : z.category = 1) (xm : Nat → Option kE) (N : Nat) : ∀ (n : Nat) (a0 : Nat) (a1 : Int32) (a2 : Int32) (a3 : Int32) (mem : kM) (R : kO × kM), m_Needle_moveTipBehind_8 xm N n a0 a1 a2 a3 mem = some R → kGo xm (kSm z) kDfl kFty kG 1 19 8 [(0, .ref a0), (1, .int a1), (2, .int a2), (3, .int a3)] [] mem (dEq R) := by
  intro n
  induction n with
  | zero => intro a0 a1 a2 a3 mem R h; cases h
  | succ n ih =>
    intro a0 a1 a2 a3 mem R h
    rw [m_Needle_moveTipBehind_8] at h
    refine wp_run 2 (pc' := 10) (lv' := [(0, .ref a0), (1, .int a1), (2, .int a2), (3, .int a3)]) (st' := [.int a1, .int a3]) (mem' := mem) rfl ?_
    refine wq_ge2 rfl h (fun h => ?_) (fun h => ?_)
    · refine wp_run 6 (pc' := 19) (lv' := [(0, .ref a0), (1, .int a1), (2, .int a2), (3, .int a3)]) (st' := [.int (a3 + 1), .ref a0, .int a3, .ref a0]) (mem' := mem) rfl ?_
      obtain ⟨fk19, hk19, h⟩ := dRc_some h
      refine wq_cI rfl (kCall_v hk19 (as := [.int (a3 + 1)]) (rest := [.int a3, .ref a0]) ⟨by decide, rfl, (show 1 < 90 by decide), by decide⟩ (show 2 ≤ 8 by decide)) h (fun r hr => ca_up (by decide) (m_Needle_at_ok hz xm N hr)) (fun v19 m19 h => ?_)
      obtain ⟨fk22, hk22, h⟩ := dRc_some h
      refine wq_cV rfl (kCall_v hk22 (as := [.int a3, .int v19]) (rest := []) ⟨by decide, rfl, (show 2 < 90 by decide), by decide⟩ (show 0 ≤ 8 by decide)) h (fun r hr => ca_up (by decide) (m_Needle_replace_ok hz xm N hr)) (fun m22 h => ?_)
      refine wp_run 2 (pc' := 8) (lv' := [(3, .int (a3 + 1)), (0, .ref a0), (1, .int a1), (2, .int a2)]) (st' := []) (mem' := m22) rfl ?_
      refine kGo_sub (lvS_of [1, 2, 3, 0] rfl [3, 0, 1, 2] rfl (by decide)) ?_
      exact ih _ _ _ _ m22 R h
    · refine wp_run 3 (pc' := 34) (lv' := [(0, .ref a0), (1, .int a1), (2, .int a2), (3, .int a3)]) (st' := [.int a2, .int a1, .ref a0]) (mem' := mem) rfl ?_
      obtain ⟨fk34, hk34, h⟩ := dRc_some h
      refine wq_cV rfl (kCall_v hk34 (as := [.int a1, .int a2]) (rest := []) ⟨by decide, rfl, (show 2 < 90 by decide), by decide⟩ (show 0 ≤ 8 by decide)) h (fun r hr => ca_up (by decide) (m_Needle_replace_ok hz xm N hr)) (fun m34 h => ?_)
      exact wq_end rfl rfl h
def m_Needle_moveTipBehind (xm : Nat → Option kE) (N : Nat) (a0 : Nat) (a1 : Int32) (mem : kM) : dRes :=
  dRc xm mem a0 7 <|
  dCI (m_Needle_at xm N a0 0 mem) fun v2 m2 =>
  m_Needle_moveTipBehind_8 xm N N a0 a1 v2 0 m2
theorem m_Needle_moveTipBehind_ok (hz : z.category = 1) (xm : Nat → Option kE) (N : Nat) {a0 : Nat} {a1 : Int32} {mem : kM} {R : kO × kM} (h : m_Needle_moveTipBehind xm N a0 a1 mem = some R) : kCa xm (kSm z) kDfl kFty kG 2 19 [.ref a0, .int a1] mem (dEq R) := by
  refine wq_ca (show 2 ≤ 4 by decide) ?_
  change kGo xm (kSm z) kDfl kFty kG 1 19 0 [(0, .ref a0), (1, .int a1)] [] mem (dEq R)
  unfold m_Needle_moveTipBehind at h
  refine wp_run 2 (pc' := 2) (lv' := [(0, .ref a0), (1, .int a1)]) (st' := [.int 0, .ref a0]) (mem' := mem) rfl ?_
  obtain ⟨fk2, hk2, h⟩ := dRc_some h
  refine wq_cI rfl (kCall_v hk2 (as := [.int 0]) (rest := []) ⟨by decide, rfl, (show 1 < 90 by decide), by decide⟩ (show 0 ≤ 8 by decide)) h (fun r hr => ca_up (by decide) (m_Needle_at_ok hz xm N hr)) (fun v2 m2 h => ?_)
  refine wp_run 3 (pc' := 8) (lv' := [(3, .int 0), (2, .int v2), (0, .ref a0), (1, .int a1)]) (st' := []) (mem' := m2) rfl ?_
  refine kGo_sub (lvS_of [2, 3, 1, 0] rfl [3, 2, 0, 1] rfl (by decide)) ?_
  exact m_Needle_moveTipBehind_8_ok hz xm N N _ _ _ _ m2 R h
/-- Knitstead.crossNext(II)I -/
def m_K_crossNext_2 (xm : Nat → Option kE) (N : Nat) : Nat → Nat → Int32 → Int32 → Int32 → kM → dRes
  | 0, _, _, _, _, _ => none
  | n + 1, a0, a1, a2, a3, mem =>
    if a3 < a1 then (
      dGR xm mem a0 11 1 fun v8 =>
      dGR xm mem v8 10 0 fun v11 =>
      dRc xm mem v11 7 <|
      dCV (m_Needle_moveTipBehind xm N v11 ((a1 + a2) - 1) mem) fun m19 =>
      m_K_crossNext_2 xm N n a0 a1 a2 (a3 + 1) m19
    ) else (
      dGR xm mem a0 11 1 fun v29 =>
      dGI xm mem v29 10 7 fun v33 =>
      dP xm mem v29 10 7 (.int (v33 + 1)) fun m38 =>
      dGR xm m38 a0 11 1 fun v42 =>
      dGR xm m38 v42 10 0 fun v45 =>
      dRc xm m38 v45 7 <|
      dCI (m_Needle_at xm N v45 0 m38) fun v49 m49 =>
      some (.inl (some (.int v49)), m49)
    )
theorem m_K_crossNext_2_ok (hz : z.category = 1) (xm : Nat → Option kE) (N : Nat) : ∀ (n : Nat) (a0 : Nat) (a1 : Int32) (a2 : Int32) (a3 : Int32) (mem : kM) (R : kO × kM), m_K_crossNext_2 xm N n a0 a1 a2 a3 mem = some R → kGo xm (kSm z) kDfl kFty kG 2 72 2 [(0, .ref a0), (1, .int a1), (2, .int a2), (3, .int a3)] [] mem (dEq R) := by
  intro n
  induction n with
  | zero => intro a0 a1 a2 a3 mem R h; cases h
  | succ n ih =>
    intro a0 a1 a2 a3 mem R h
    rw [m_K_crossNext_2] at h
    refine wp_run 2 (pc' := 4) (lv' := [(0, .ref a0), (1, .int a1), (2, .int a2), (3, .int a3)]) (st' := [.int a1, .int a3]) (mem' := mem) rfl ?_
    refine wq_ge2 rfl h (fun h => ?_) (fun h => ?_)
    · refine wp_run 1 (pc' := 8) (lv' := [(0, .ref a0), (1, .int a1), (2, .int a2), (3, .int a3)]) (st' := [.ref a0]) (mem' := mem) rfl ?_
      refine wq_gR rfl h (fun v8 h => ?_)
      refine wq_gR rfl h (fun v11 h => ?_)
      refine wp_run 5 (pc' := 19) (lv' := [(0, .ref a0), (1, .int a1), (2, .int a2), (3, .int a3)]) (st' := [.int ((a1 + a2) - 1), .ref v11]) (mem' := mem) rfl ?_
      obtain ⟨fk19, hk19, h⟩ := dRc_some h
      refine wq_cV rfl (kCall_v hk19 (as := [.int ((a1 + a2) - 1)]) (rest := []) ⟨by decide, rfl, (show 1 < 90 by decide), by decide⟩ (show 0 ≤ 8 by decide)) h (fun r hr => ca_up (by decide) (m_Needle_moveTipBehind_ok hz xm N hr)) (fun m19 h => ?_)
      refine wp_run 2 (pc' := 2) (lv' := [(3, .int (a3 + 1)), (0, .ref a0), (1, .int a1), (2, .int a2)]) (st' := []) (mem' := m19) rfl ?_
      refine kGo_sub (lvS_of [1, 2, 3, 0] rfl [3, 0, 1, 2] rfl (by decide)) ?_
      exact ih _ _ _ _ m19 R h
    · refine wp_run 1 (pc' := 29) (lv' := [(0, .ref a0), (1, .int a1), (2, .int a2), (3, .int a3)]) (st' := [.ref a0]) (mem' := mem) rfl ?_
      refine wq_gR rfl h (fun v29 h => ?_)
      refine wp_run 1 (pc' := 33) (lv' := [(0, .ref a0), (1, .int a1), (2, .int a2), (3, .int a3)]) (st' := [.ref v29, .ref v29]) (mem' := mem) rfl ?_
      refine wq_gI rfl h (fun v33 h => ?_)
      refine wp_run 2 (pc' := 38) (lv' := [(0, .ref a0), (1, .int a1), (2, .int a2), (3, .int a3)]) (st' := [.int (v33 + 1), .ref v29]) (mem' := mem) rfl ?_
      refine wq_p rfl rfl h (fun m38 h => ?_)
      refine wp_run 1 (pc' := 42) (lv' := [(0, .ref a0), (1, .int a1), (2, .int a2), (3, .int a3)]) (st' := [.ref a0]) (mem' := m38) rfl ?_
      refine wq_gR rfl h (fun v42 h => ?_)
      refine wq_gR rfl h (fun v45 h => ?_)
      refine wp_run 1 (pc' := 49) (lv' := [(0, .ref a0), (1, .int a1), (2, .int a2), (3, .int a3)]) (st' := [.int 0, .ref v45]) (mem' := m38) rfl ?_
      obtain ⟨fk49, hk49, h⟩ := dRc_some h
      refine wq_cI rfl (kCall_v hk49 (as := [.int 0]) (rest := []) ⟨by decide, rfl, (show 1 < 90 by decide), by decide⟩ (show 0 ≤ 8 by decide)) h (fun r hr => ca_up (by decide) (m_Needle_at_ok hz xm N hr)) (fun v49 m49 h => ?_)
      exact wq_ret rfl rfl h
def m_K_crossNext (xm : Nat → Option kE) (N : Nat) (a0 : Nat) (a1 : Int32) (a2 : Int32) (mem : kM) : dRes :=
  m_K_crossNext_2 xm N N a0 a1 a2 0 mem
theorem m_K_crossNext_ok (hz : z.category = 1) (xm : Nat → Option kE) (N : Nat) {a0 : Nat} {a1 : Int32} {a2 : Int32} {mem : kM} {R : kO × kM} (h : m_K_crossNext xm N a0 a1 a2 mem = some R) : kCa xm (kSm z) kDfl kFty kG 3 72 [.ref a0, .int a1, .int a2] mem (dEq R) := by
  refine wq_ca (show 3 ≤ 4 by decide) ?_
  change kGo xm (kSm z) kDfl kFty kG 2 72 0 [(0, .ref a0), (1, .int a1), (2, .int a2)] [] mem (dEq R)
  unfold m_K_crossNext at h
  refine wp_run 2 (pc' := 2) (lv' := [(3, .int 0), (0, .ref a0), (1, .int a1), (2, .int a2)]) (st' := []) (mem' := mem) rfl ?_
  refine kGo_sub (lvS_of [1, 2, 3, 0] rfl [3, 0, 1, 2] rfl (by decide)) ?_
  exact m_K_crossNext_2_ok hz xm N N _ _ _ _ mem R h
/-- Knitstead.cross(II)I -/
def m_K_cross (xm : Nat → Option kE) (N : Nat) (a0 : Nat) (a1 : Int32) (a2 : Int32) (mem : kM) : dRes :=
  if a1 < 1 then (
    some (.inr 0, mem ++ [.inl (1000, [.null, .null, .null, .null, .null, .null])])
  ) else (
    if 3 < a1 then (
      some (.inr 0, mem ++ [.inl (1000, [.null, .null, .null, .null, .null, .null])])
    ) else (
      if a2 < 1 then (
        some (.inr 0, mem ++ [.inl (1000, [.null, .null, .null, .null, .null, .null])])
      ) else (
        if 3 < a2 then (
          some (.inr 0, mem ++ [.inl (1000, [.null, .null, .null, .null, .null, .null])])
        ) else (
          dGR xm mem a0 11 1 fun v31 =>
          dGR xm mem v31 10 0 fun v34 =>
          dGI xm mem v34 7 1 fun v37 =>
          if v37 < (a1 + a2) then (
            some (.inr 1, mem ++ [.inl (1000, [.null, .null, .null, .null, .null, .null])])
          ) else (
            dGR xm mem a0 11 5 fun v57 =>
            dGR xm mem a0 11 1 fun v61 =>
            dGR xm mem a0 11 0 fun v65 =>
            dRc xm mem v57 6 <|
            dCV (m_History_keep xm N v57 v61 v65 mem) fun m68 =>
            dRc xm m68 a0 11 <|
            dCI (m_K_crossNext xm N a0 a1 a2 m68) fun v74 m74 =>
            some (.inl (some (.int v74)), m74)
          )
        )
      )
    )
  )
theorem m_K_cross_ok (hz : z.category = 1) (xm : Nat → Option kE) (N : Nat) {a0 : Nat} {a1 : Int32} {a2 : Int32} {mem : kM} {R : kO × kM} (h : m_K_cross xm N a0 a1 a2 mem = some R) : kCa xm (kSm z) kDfl kFty kG 5 47 [.ref a0, .int a1, .int a2] mem (dEq R) := by
  refine wq_ca (show 3 ≤ 3 by decide) ?_
  change kGo xm (kSm z) kDfl kFty kG 4 47 0 [(0, .ref a0), (1, .int a1), (2, .int a2)] [] mem (dEq R)
  unfold m_K_cross at h
  refine wp_run 2 (pc' := 2) (lv' := [(0, .ref a0), (1, .int a1), (2, .int a2)]) (st' := [.int 1, .int a1]) (mem' := mem) rfl ?_
  refine wq_lt2 rfl h (fun h => ?_) (fun h => ?_)
  · exact wq_end rfl rfl h
  · refine wp_run 2 (pc' := 7) (lv' := [(0, .ref a0), (1, .int a1), (2, .int a2)]) (st' := [.int 3, .int a1]) (mem' := mem) rfl ?_
    refine wq_gt2 rfl h (fun h => ?_) (fun h => ?_)
    · exact wq_end rfl rfl h
    · refine wp_run 2 (pc' := 12) (lv' := [(0, .ref a0), (1, .int a1), (2, .int a2)]) (st' := [.int 1, .int a2]) (mem' := mem) rfl ?_
      refine wq_lt2 rfl h (fun h => ?_) (fun h => ?_)
      · exact wq_end rfl rfl h
      · refine wp_run 2 (pc' := 17) (lv' := [(0, .ref a0), (1, .int a1), (2, .int a2)]) (st' := [.int 3, .int a2]) (mem' := mem) rfl ?_
        refine wq_le2 rfl h (fun h => ?_) (fun h => ?_)
        · exact wq_end rfl rfl h
        · refine wp_run 1 (pc' := 31) (lv' := [(0, .ref a0), (1, .int a1), (2, .int a2)]) (st' := [.ref a0]) (mem' := mem) rfl ?_
          refine wq_gR rfl h (fun v31 h => ?_)
          refine wq_gR rfl h (fun v34 h => ?_)
          refine wq_gI rfl h (fun v37 h => ?_)
          refine wp_run 3 (pc' := 43) (lv' := [(0, .ref a0), (1, .int a1), (2, .int a2)]) (st' := [.int (a1 + a2), .int v37]) (mem' := mem) rfl ?_
          refine wq_ge2 rfl h (fun h => ?_) (fun h => ?_)
          · exact wq_end rfl rfl h
          · refine wp_run 1 (pc' := 57) (lv' := [(0, .ref a0), (1, .int a1), (2, .int a2)]) (st' := [.ref a0]) (mem' := mem) rfl ?_
            refine wq_gR rfl h (fun v57 h => ?_)
            refine wp_run 1 (pc' := 61) (lv' := [(0, .ref a0), (1, .int a1), (2, .int a2)]) (st' := [.ref a0, .ref v57]) (mem' := mem) rfl ?_
            refine wq_gR rfl h (fun v61 h => ?_)
            refine wp_run 1 (pc' := 65) (lv' := [(0, .ref a0), (1, .int a1), (2, .int a2)]) (st' := [.ref a0, .ref v61, .ref v57]) (mem' := mem) rfl ?_
            refine wq_gR rfl h (fun v65 h => ?_)
            obtain ⟨fk68, hk68, h⟩ := dRc_some h
            refine wq_cV rfl (kCall_v hk68 (as := [.ref v61, .ref v65]) (rest := []) ⟨by decide, rfl, (show 2 < 90 by decide), by decide⟩ (show 0 ≤ 8 by decide)) h (fun r hr => ca_up (by decide) (m_History_keep_ok hz xm N hr)) (fun m68 h => ?_)
            refine wp_run 3 (pc' := 74) (lv' := [(0, .ref a0), (1, .int a1), (2, .int a2)]) (st' := [.int a2, .int a1, .ref a0]) (mem' := m68) rfl ?_
            obtain ⟨fk74, hk74, h⟩ := dRc_some h
            refine wq_cI rfl (kCall_v hk74 (as := [.int a1, .int a2]) (rest := []) ⟨by decide, rfl, (show 2 < 90 by decide), by decide⟩ (show 0 ≤ 8 by decide)) h (fun r hr => ca_up (by decide) (m_K_crossNext_ok hz xm N hr)) (fun v74 m74 h => ?_)
            exact wq_ret rfl rfl h
/-- Knitstead$Needle.swapWith(LKnitstead$Needle;)V -/
def m_Needle_swapWith_20 (xm : Nat → Option kE) (N : Nat) : Nat → Nat → Nat → Int32 → kM → dRes
  | 0, _, _, _, _ => none
  | n + 1, a0, a1, a3, mem =>
    dGR xm mem a0 7 0 fun v22 =>
    dLen xm mem v22 fun v25 =>
    if a3 < v25 then (
      dGR xm mem a1 7 0 fun v31 =>
      dLen xm mem v31 fun v34 =>
      if a3 < v34 then (
        dGR xm mem a0 7 0 fun v39 =>
        dIL xm 0 mem v39 a3 fun v43 =>
        dGR xm mem a0 7 0 fun v47 =>
        dGR xm mem a1 7 0 fun v52 =>
        dIL xm 0 mem v52 a3 fun v56 =>
        dIS xm mem v47 a3 v56 fun m57 =>
        dGR xm m57 a1 7 0 fun v59 =>
        dIS xm m57 v59 a3 v43 fun m65 =>
        m_Needle_swapWith_20 xm N n a0 a1 (a3 + 1) m65
      ) else (
        some (.inl none, mem)
      )
    ) else (
      some (.inl none, mem)
    )
theorem m_Needle_swapWith_20_ok (hz : z.category = 1) (xm : Nat → Option kE) (N : Nat) : ∀ (n : Nat) (a0 : Nat) (a1 : Nat) (a3 : Int32) (mem : kM) (R : kO × kM), m_Needle_swapWith_20 xm N n a0 a1 a3 mem = some R → kGo xm (kSm z) kDfl kFty kG 0 20 20 [(0, .ref a0), (1, .ref a1), (3, .int a3)] [] mem (dEq R) := by
  intro n
  induction n with
  | zero => intro a0 a1 a3 mem R h; cases h
  | succ n ih =>
    intro a0 a1 a3 mem R h
    rw [m_Needle_swapWith_20] at h
    refine wp_run 2 (pc' := 22) (lv' := [(0, .ref a0), (1, .ref a1), (3, .int a3)]) (st' := [.ref a0, .int a3]) (mem' := mem) rfl ?_
    refine wq_gR rfl h (fun v22 h => ?_)
    refine wq_len rfl h (fun v25 h => ?_)
    refine wq_ge2 rfl h (fun h => ?_) (fun h => ?_)
    · refine wp_run 2 (pc' := 31) (lv' := [(0, .ref a0), (1, .ref a1), (3, .int a3)]) (st' := [.ref a1, .int a3]) (mem' := mem) rfl ?_
      refine wq_gR rfl h (fun v31 h => ?_)
      refine wq_len rfl h (fun v34 h => ?_)
      refine wq_ge2 rfl h (fun h => ?_) (fun h => ?_)
      · refine wp_run 1 (pc' := 39) (lv' := [(0, .ref a0), (1, .ref a1), (3, .int a3)]) (st' := [.ref a0]) (mem' := mem) rfl ?_
        refine wq_gR rfl h (fun v39 h => ?_)
        refine wp_run 1 (pc' := 43) (lv' := [(0, .ref a0), (1, .ref a1), (3, .int a3)]) (st' := [.int a3, .ref v39]) (mem' := mem) rfl ?_
        refine wq_iL rfl h (fun v43 h => ?_)
        refine wp_run 2 (pc' := 47) (lv' := [(4, .int v43), (0, .ref a0), (1, .ref a1), (3, .int a3)]) (st' := [.ref a0]) (mem' := mem) rfl ?_
        refine wq_gR rfl h (fun v47 h => ?_)
        refine wp_run 2 (pc' := 52) (lv' := [(4, .int v43), (0, .ref a0), (1, .ref a1), (3, .int a3)]) (st' := [.ref a1, .int a3, .ref v47]) (mem' := mem) rfl ?_
        refine wq_gR rfl h (fun v52 h => ?_)
        refine wp_run 1 (pc' := 56) (lv' := [(4, .int v43), (0, .ref a0), (1, .ref a1), (3, .int a3)]) (st' := [.int a3, .ref v52, .int a3, .ref v47]) (mem' := mem) rfl ?_
        refine wq_iL rfl h (fun v56 h => ?_)
        refine wq_iS rfl h (fun m57 h => ?_)
        refine wp_run 1 (pc' := 59) (lv' := [(4, .int v43), (0, .ref a0), (1, .ref a1), (3, .int a3)]) (st' := [.ref a1]) (mem' := m57) rfl ?_
        refine wq_gR rfl h (fun v59 h => ?_)
        refine wp_run 2 (pc' := 65) (lv' := [(4, .int v43), (0, .ref a0), (1, .ref a1), (3, .int a3)]) (st' := [.int v43, .int a3, .ref v59]) (mem' := m57) rfl ?_
        refine wq_iS rfl h (fun m65 h => ?_)
        refine wp_run 2 (pc' := 20) (lv' := [(3, .int (a3 + 1)), (4, .int v43), (0, .ref a0), (1, .ref a1)]) (st' := []) (mem' := m65) rfl ?_
        refine kGo_sub (lvS_of [2, 3, 0] rfl [3, 4, 0, 1] rfl (by decide)) ?_
        exact ih _ _ _ m65 R h
      · exact wq_end rfl rfl h
    · exact wq_end rfl rfl h
def m_Needle_swapWith (xm : Nat → Option kE) (N : Nat) (a0 : Nat) (a1 : Nat) (mem : kM) : dRes :=
  dGI xm mem a0 7 1 fun v1 =>
  dGI xm mem a1 7 1 fun v7 =>
  dP xm mem a0 7 1 (.int v7) fun m10 =>
  dP xm m10 a1 7 1 (.int v1) fun m15 =>
  m_Needle_swapWith_20 xm N N a0 a1 0 m15
theorem m_Needle_swapWith_ok (hz : z.category = 1) (xm : Nat → Option kE) (N : Nat) {a0 : Nat} {a1 : Nat} {mem : kM} {R : kO × kM} (h : m_Needle_swapWith xm N a0 a1 mem = some R) : kCa xm (kSm z) kDfl kFty kG 1 20 [.ref a0, .ref a1] mem (dEq R) := by
  refine wq_ca (show 2 ≤ 5 by decide) ?_
  change kGo xm (kSm z) kDfl kFty kG 0 20 0 [(0, .ref a0), (1, .ref a1)] [] mem (dEq R)
  unfold m_Needle_swapWith at h
  refine wp_run 1 (pc' := 1) (lv' := [(0, .ref a0), (1, .ref a1)]) (st' := [.ref a0]) (mem' := mem) rfl ?_
  refine wq_gI rfl h (fun v1 h => ?_)
  refine wp_run 3 (pc' := 7) (lv' := [(2, .int v1), (0, .ref a0), (1, .ref a1)]) (st' := [.ref a1, .ref a0]) (mem' := mem) rfl ?_
  refine wq_gI rfl h (fun v7 h => ?_)
  refine wq_p rfl rfl h (fun m10 h => ?_)
  refine wp_run 2 (pc' := 15) (lv' := [(2, .int v1), (0, .ref a0), (1, .ref a1)]) (st' := [.int v1, .ref a1]) (mem' := m10) rfl ?_
  refine wq_p rfl rfl h (fun m15 h => ?_)
  refine wp_run 2 (pc' := 20) (lv' := [(3, .int 0), (2, .int v1), (0, .ref a0), (1, .ref a1)]) (st' := []) (mem' := m15) rfl ?_
  refine kGo_sub (lvS_of [2, 3, 0] rfl [3, 2, 0, 1] rfl (by decide)) ?_
  exact m_Needle_swapWith_20_ok hz xm N N _ _ _ m15 R h
/-- Knitstead.turn()I -/
def m_K_turn_61 (xm : Nat → Option kE) (N : Nat) (a0 : Nat) (mem : kM) : dRes :=
  dGR xm mem a0 11 1 fun v62 =>
  dGR xm mem v62 10 0 fun v65 =>
  dGR xm mem a0 11 1 fun v69 =>
  dGR xm mem v69 10 1 fun v72 =>
  dRc xm mem v65 7 <|
  dCV (m_Needle_swapWith xm N v65 v72 mem) fun m75 =>
  dGR xm m75 a0 11 1 fun v79 =>
  dGI xm m75 v79 10 5 fun v83 =>
  dP xm m75 v79 10 5 (.int (v83 + 1)) fun m88 =>
  dGR xm m88 a0 11 1 fun v92 =>
  dGR xm m88 v92 10 0 fun v95 =>
  dGI xm m88 v95 7 1 fun v98 =>
  some (.inl (some (.int v98)), m88)
theorem m_K_turn_61_ok (hz : z.category = 1) (xm : Nat → Option kE) (N : Nat) : ∀ (a0 : Nat) (mem : kM) (R : kO × kM), m_K_turn_61 xm N a0 mem = some R → kGo xm (kSm z) kDfl kFty kG 4 48 61 [(0, .ref a0)] [] mem (dEq R) := by
  intro a0 mem R h
  unfold m_K_turn_61 at h
  refine wp_run 1 (pc' := 62) (lv' := [(0, .ref a0)]) (st' := [.ref a0]) (mem' := mem) rfl ?_
  refine wq_gR rfl h (fun v62 h => ?_)
  refine wq_gR rfl h (fun v65 h => ?_)
  refine wp_run 1 (pc' := 69) (lv' := [(0, .ref a0)]) (st' := [.ref a0, .ref v65]) (mem' := mem) rfl ?_
  refine wq_gR rfl h (fun v69 h => ?_)
  refine wq_gR rfl h (fun v72 h => ?_)
  obtain ⟨fk75, hk75, h⟩ := dRc_some h
  refine wq_cV rfl (kCall_v hk75 (as := [.ref v72]) (rest := []) ⟨by decide, rfl, (show 1 < 90 by decide), by decide⟩ (show 0 ≤ 8 by decide)) h (fun r hr => ca_up (by decide) (m_Needle_swapWith_ok hz xm N hr)) (fun m75 h => ?_)
  refine wp_run 1 (pc' := 79) (lv' := [(0, .ref a0)]) (st' := [.ref a0]) (mem' := m75) rfl ?_
  refine wq_gR rfl h (fun v79 h => ?_)
  refine wp_run 1 (pc' := 83) (lv' := [(0, .ref a0)]) (st' := [.ref v79, .ref v79]) (mem' := m75) rfl ?_
  refine wq_gI rfl h (fun v83 h => ?_)
  refine wp_run 2 (pc' := 88) (lv' := [(0, .ref a0)]) (st' := [.int (v83 + 1), .ref v79]) (mem' := m75) rfl ?_
  refine wq_p rfl rfl h (fun m88 h => ?_)
  refine wp_run 1 (pc' := 92) (lv' := [(0, .ref a0)]) (st' := [.ref a0]) (mem' := m88) rfl ?_
  refine wq_gR rfl h (fun v92 h => ?_)
  refine wq_gR rfl h (fun v95 h => ?_)
  refine wq_gI rfl h (fun v98 h => ?_)
  exact wq_ret rfl rfl h
def m_K_turn (xm : Nat → Option kE) (N : Nat) (a0 : Nat) (mem : kM) : dRes :=
  dGR xm mem a0 11 1 fun v1 =>
  dRc xm mem v1 10 <|
  dCI (m_Work_onBoth xm N v1 mem) fun v4 m4 =>
  if v4 = 0 then (
    some (.inr 1, m4 ++ [.inl (1000, [.null, .null, .null, .null, .null, .null])])
  ) else (
    dGR xm m4 a0 11 5 fun v21 =>
    dGR xm m4 a0 11 1 fun v25 =>
    dGR xm m4 a0 11 0 fun v29 =>
    dRc xm m4 v21 6 <|
    dCV (m_History_keep xm N v21 v25 v29 m4) fun m32 =>
    dGR xm m32 a0 11 1 fun v36 =>
    dGR xm m32 v36 10 0 fun v39 =>
    dGI xm m32 v39 7 1 fun v42 =>
    if 0 < v42 then (
      dGR xm m32 a0 11 1 fun v49 =>
      dGI xm m32 v49 10 8 fun v53 =>
      dP xm m32 v49 10 8 (.int (v53 + 1)) fun m58 =>
      m_K_turn_61 xm N a0 m58
    ) else (
      m_K_turn_61 xm N a0 m32
    )
  )
theorem m_K_turn_ok (hz : z.category = 1) (xm : Nat → Option kE) (N : Nat) {a0 : Nat} {mem : kM} {R : kO × kM} (h : m_K_turn xm N a0 mem = some R) : kCa xm (kSm z) kDfl kFty kG 5 48 [.ref a0] mem (dEq R) := by
  refine wq_ca (show 1 ≤ 1 by decide) ?_
  change kGo xm (kSm z) kDfl kFty kG 4 48 0 [(0, .ref a0)] [] mem (dEq R)
  unfold m_K_turn at h
  refine wp_run 1 (pc' := 1) (lv' := [(0, .ref a0)]) (st' := [.ref a0]) (mem' := mem) rfl ?_
  refine wq_gR rfl h (fun v1 h => ?_)
  obtain ⟨fk4, hk4, h⟩ := dRc_some h
  refine wq_cI rfl (kCall_v hk4 (as := []) (rest := []) ⟨by decide, rfl, (show 0 < 90 by decide), by decide⟩ (show 0 ≤ 8 by decide)) h (fun r hr => ca_up (by decide) (m_Work_onBoth_ok hz xm N hr)) (fun v4 m4 h => ?_)
  refine wq_ne rfl h (fun h => ?_) (fun h => ?_)
  · exact wq_end rfl rfl h
  · refine wp_run 1 (pc' := 21) (lv' := [(0, .ref a0)]) (st' := [.ref a0]) (mem' := m4) rfl ?_
    refine wq_gR rfl h (fun v21 h => ?_)
    refine wp_run 1 (pc' := 25) (lv' := [(0, .ref a0)]) (st' := [.ref a0, .ref v21]) (mem' := m4) rfl ?_
    refine wq_gR rfl h (fun v25 h => ?_)
    refine wp_run 1 (pc' := 29) (lv' := [(0, .ref a0)]) (st' := [.ref a0, .ref v25, .ref v21]) (mem' := m4) rfl ?_
    refine wq_gR rfl h (fun v29 h => ?_)
    obtain ⟨fk32, hk32, h⟩ := dRc_some h
    refine wq_cV rfl (kCall_v hk32 (as := [.ref v25, .ref v29]) (rest := []) ⟨by decide, rfl, (show 2 < 90 by decide), by decide⟩ (show 0 ≤ 8 by decide)) h (fun r hr => ca_up (by decide) (m_History_keep_ok hz xm N hr)) (fun m32 h => ?_)
    refine wp_run 1 (pc' := 36) (lv' := [(0, .ref a0)]) (st' := [.ref a0]) (mem' := m32) rfl ?_
    refine wq_gR rfl h (fun v36 h => ?_)
    refine wq_gR rfl h (fun v39 h => ?_)
    refine wq_gI rfl h (fun v42 h => ?_)
    refine wq_le rfl h (fun h => ?_) (fun h => ?_)
    · refine wp_run 1 (pc' := 49) (lv' := [(0, .ref a0)]) (st' := [.ref a0]) (mem' := m32) rfl ?_
      refine wq_gR rfl h (fun v49 h => ?_)
      refine wp_run 1 (pc' := 53) (lv' := [(0, .ref a0)]) (st' := [.ref v49, .ref v49]) (mem' := m32) rfl ?_
      refine wq_gI rfl h (fun v53 h => ?_)
      refine wp_run 2 (pc' := 58) (lv' := [(0, .ref a0)]) (st' := [.int (v53 + 1), .ref v49]) (mem' := m32) rfl ?_
      refine wq_p rfl rfl h (fun m58 h => ?_)
      exact m_K_turn_61_ok hz xm N _ m58 R h
    · exact m_K_turn_61_ok hz xm N _ m32 R h
/-- Knitstead$Needle.takeAt(I)I -/
def m_Needle_takeAt_15 (xm : Nat → Option kE) (N : Nat) : Nat → Nat → Int32 → Int32 → kM → dRes
  | 0, _, _, _, _ => none
  | n + 1, a0, a2, a3, mem =>
    if 0 < a3 then (
      dRc xm mem a0 7 <|
      dCI (m_Needle_at xm N a0 (a3 - 1) mem) fun v25 m25 =>
      dRc xm m25 a0 7 <|
      dCV (m_Needle_replace xm N a0 a3 v25 m25) fun m28 =>
      m_Needle_takeAt_15 xm N n a0 a2 (a3 + (-1)) m28
    ) else (
      dGI xm mem a0 7 1 fun v39 =>
      dP xm mem a0 7 1 (.int (v39 - 1)) fun m44 =>
      some (.inl (some (.int a2)), m44)
    )
theorem m_Needle_takeAt_15_ok (hz : z.category = 1) (xm : Nat → Option kE) (N : Nat) : ∀ (n : Nat) (a0 : Nat) (a2 : Int32) (a3 : Int32) (mem : kM) (R : kO × kM), m_Needle_takeAt_15 xm N n a0 a2 a3 mem = some R → kGo xm (kSm z) kDfl kFty kG 1 18 15 [(0, .ref a0), (2, .int a2), (3, .int a3)] [] mem (dEq R) := by
  intro n
  induction n with
  | zero => intro a0 a2 a3 mem R h; cases h
  | succ n ih =>
    intro a0 a2 a3 mem R h
    rw [m_Needle_takeAt_15] at h
    refine wp_run 1 (pc' := 16) (lv' := [(0, .ref a0), (2, .int a2), (3, .int a3)]) (st' := [.int a3]) (mem' := mem) rfl ?_
    refine wq_le rfl h (fun h => ?_) (fun h => ?_)
    · refine wp_run 6 (pc' := 25) (lv' := [(0, .ref a0), (2, .int a2), (3, .int a3)]) (st' := [.int (a3 - 1), .ref a0, .int a3, .ref a0]) (mem' := mem) rfl ?_
      obtain ⟨fk25, hk25, h⟩ := dRc_some h
      refine wq_cI rfl (kCall_v hk25 (as := [.int (a3 - 1)]) (rest := [.int a3, .ref a0]) ⟨by decide, rfl, (show 1 < 90 by decide), by decide⟩ (show 2 ≤ 8 by decide)) h (fun r hr => ca_up (by decide) (m_Needle_at_ok hz xm N hr)) (fun v25 m25 h => ?_)
      obtain ⟨fk28, hk28, h⟩ := dRc_some h
      refine wq_cV rfl (kCall_v hk28 (as := [.int a3, .int v25]) (rest := []) ⟨by decide, rfl, (show 2 < 90 by decide), by decide⟩ (show 0 ≤ 8 by decide)) h (fun r hr => ca_up (by decide) (m_Needle_replace_ok hz xm N hr)) (fun m28 h => ?_)
      refine wp_run 2 (pc' := 15) (lv' := [(3, .int (a3 + (-1))), (0, .ref a0), (2, .int a2)]) (st' := []) (mem' := m28) rfl ?_
      refine kGo_sub (lvS_of [1, 2, 0] rfl [3, 0, 2] rfl (by decide)) ?_
      exact ih _ _ _ m28 R h
    · refine wp_run 2 (pc' := 39) (lv' := [(0, .ref a0), (2, .int a2), (3, .int a3)]) (st' := [.ref a0, .ref a0]) (mem' := mem) rfl ?_
      refine wq_gI rfl h (fun v39 h => ?_)
      refine wp_run 2 (pc' := 44) (lv' := [(0, .ref a0), (2, .int a2), (3, .int a3)]) (st' := [.int (v39 - 1), .ref a0]) (mem' := mem) rfl ?_
      refine wq_p rfl rfl h (fun m44 h => ?_)
      refine wp_run 1 (pc' := 48) (lv' := [(0, .ref a0), (2, .int a2), (3, .int a3)]) (st' := [.int a2]) (mem' := m44) rfl ?_
      exact wq_ret rfl rfl h
def m_Needle_takeAt (xm : Nat → Option kE) (N : Nat) (a0 : Nat) (a1 : Int32) (mem : kM) : dRes :=
  dRc xm mem a0 7 <|
  dCI (m_Needle_at xm N a0 a1 mem) fun v2 m2 =>
  if v2 = (-1) then (
    some (.inl (some (.int (-1))), m2)
  ) else (
    m_Needle_takeAt_15 xm N N a0 v2 a1 m2
  )
theorem m_Needle_takeAt_ok (hz : z.category = 1) (xm : Nat → Option kE) (N : Nat) {a0 : Nat} {a1 : Int32} {mem : kM} {R : kO × kM} (h : m_Needle_takeAt xm N a0 a1 mem = some R) : kCa xm (kSm z) kDfl kFty kG 2 18 [.ref a0, .int a1] mem (dEq R) := by
  refine wq_ca (show 2 ≤ 4 by decide) ?_
  change kGo xm (kSm z) kDfl kFty kG 1 18 0 [(0, .ref a0), (1, .int a1)] [] mem (dEq R)
  unfold m_Needle_takeAt at h
  refine wp_run 2 (pc' := 2) (lv' := [(0, .ref a0), (1, .int a1)]) (st' := [.int a1, .ref a0]) (mem' := mem) rfl ?_
  obtain ⟨fk2, hk2, h⟩ := dRc_some h
  refine wq_cI rfl (kCall_v hk2 (as := [.int a1]) (rest := []) ⟨by decide, rfl, (show 1 < 90 by decide), by decide⟩ (show 0 ≤ 8 by decide)) h (fun r hr => ca_up (by decide) (m_Needle_at_ok hz xm N hr)) (fun v2 m2 h => ?_)
  refine wp_run 3 (pc' := 8) (lv' := [(2, .int v2), (0, .ref a0), (1, .int a1)]) (st' := [.int (-1), .int v2]) (mem' := m2) rfl ?_
  refine wq_ne2 rfl h (fun h => ?_) (fun h => ?_)
  · refine wp_run 1 (pc' := 12) (lv' := [(2, .int v2), (0, .ref a0), (1, .int a1)]) (st' := [.int (-1)]) (mem' := m2) rfl ?_
    exact wq_ret rfl rfl h
  · refine wp_run 2 (pc' := 15) (lv' := [(3, .int a1), (2, .int v2), (0, .ref a0), (1, .int a1)]) (st' := []) (mem' := m2) rfl ?_
    refine kGo_sub (lvS_of [2, 1, 0] rfl [3, 2, 0, 1] rfl (by decide)) ?_
    exact m_Needle_takeAt_15_ok hz xm N N _ _ _ m2 R h
/-- Knitstead.bindAt(I)V -/
def m_K_bindAt (xm : Nat → Option kE) (N : Nat) (a0 : Nat) (a1 : Int32) (mem : kM) : dRes :=
  dGR xm mem a0 11 1 fun v1 =>
  dGR xm mem v1 10 1 fun v4 =>
  dRc xm mem v4 7 <|
  dCI (m_Needle_takeAt xm N v4 a1 mem) fun v8 m8 =>
  dGR xm m8 a0 11 2 fun v13 =>
  dRc xm m8 v13 8 <|
  dCV (m_Table_set xm N v13 v8 5 3 m8) fun m19 =>
  dGR xm m19 a0 11 1 fun v23 =>
  dGI xm m19 v23 10 9 fun v27 =>
  dP xm m19 v23 10 9 (.int (v27 + 1)) fun m32 =>
  some (.inl none, m32)
theorem m_K_bindAt_ok (hz : z.category = 1) (xm : Nat → Option kE) (N : Nat) {a0 : Nat} {a1 : Int32} {mem : kM} {R : kO × kM} (h : m_K_bindAt xm N a0 a1 mem = some R) : kCa xm (kSm z) kDfl kFty kG 5 75 [.ref a0, .int a1] mem (dEq R) := by
  refine wq_ca (show 2 ≤ 3 by decide) ?_
  change kGo xm (kSm z) kDfl kFty kG 4 75 0 [(0, .ref a0), (1, .int a1)] [] mem (dEq R)
  unfold m_K_bindAt at h
  refine wp_run 1 (pc' := 1) (lv' := [(0, .ref a0), (1, .int a1)]) (st' := [.ref a0]) (mem' := mem) rfl ?_
  refine wq_gR rfl h (fun v1 h => ?_)
  refine wq_gR rfl h (fun v4 h => ?_)
  refine wp_run 1 (pc' := 8) (lv' := [(0, .ref a0), (1, .int a1)]) (st' := [.int a1, .ref v4]) (mem' := mem) rfl ?_
  obtain ⟨fk8, hk8, h⟩ := dRc_some h
  refine wq_cI rfl (kCall_v hk8 (as := [.int a1]) (rest := []) ⟨by decide, rfl, (show 1 < 90 by decide), by decide⟩ (show 0 ≤ 8 by decide)) h (fun r hr => ca_up (by decide) (m_Needle_takeAt_ok hz xm N hr)) (fun v8 m8 h => ?_)
  refine wp_run 2 (pc' := 13) (lv' := [(2, .int v8), (0, .ref a0), (1, .int a1)]) (st' := [.ref a0]) (mem' := m8) rfl ?_
  refine wq_gR rfl h (fun v13 h => ?_)
  refine wp_run 3 (pc' := 19) (lv' := [(2, .int v8), (0, .ref a0), (1, .int a1)]) (st' := [.int 3, .int 5, .int v8, .ref v13]) (mem' := m8) rfl ?_
  obtain ⟨fk19, hk19, h⟩ := dRc_some h
  refine wq_cV rfl (kCall_v hk19 (as := [.int v8, .int 5, .int 3]) (rest := []) ⟨by decide, rfl, (show 3 < 90 by decide), by decide⟩ (show 0 ≤ 8 by decide)) h (fun r hr => ca_up (by decide) (m_Table_set_ok hz xm N hr)) (fun m19 h => ?_)
  refine wp_run 1 (pc' := 23) (lv' := [(2, .int v8), (0, .ref a0), (1, .int a1)]) (st' := [.ref a0]) (mem' := m19) rfl ?_
  refine wq_gR rfl h (fun v23 h => ?_)
  refine wp_run 1 (pc' := 27) (lv' := [(2, .int v8), (0, .ref a0), (1, .int a1)]) (st' := [.ref v23, .ref v23]) (mem' := m19) rfl ?_
  refine wq_gI rfl h (fun v27 h => ?_)
  refine wp_run 2 (pc' := 32) (lv' := [(2, .int v8), (0, .ref a0), (1, .int a1)]) (st' := [.int (v27 + 1), .ref v23]) (mem' := m19) rfl ?_
  refine wq_p rfl rfl h (fun m32 h => ?_)
  exact wq_end rfl rfl h
/-- Knitstead.bindSeconds(I)V -/
def m_K_bindSeconds_2 (xm : Nat → Option kE) (N : Nat) : Nat → Nat → Int32 → Int32 → kM → dRes
  | 0, _, _, _, _ => none
  | n + 1, a0, a1, a2, mem =>
    if a2 < a1 then (
      dRc xm mem a0 11 <|
      dCV (m_K_bindAt xm N a0 1 mem) fun m9 =>
      m_K_bindSeconds_2 xm N n a0 a1 (a2 + 1) m9
    ) else (
      some (.inl none, mem)
    )
theorem m_K_bindSeconds_2_ok (hz : z.category = 1) (xm : Nat → Option kE) (N : Nat) : ∀ (n : Nat) (a0 : Nat) (a1 : Int32) (a2 : Int32) (mem : kM) (R : kO × kM), m_K_bindSeconds_2 xm N n a0 a1 a2 mem = some R → kGo xm (kSm z) kDfl kFty kG 5 73 2 [(0, .ref a0), (1, .int a1), (2, .int a2)] [] mem (dEq R) := by
  intro n
  induction n with
  | zero => intro a0 a1 a2 mem R h; cases h
  | succ n ih =>
    intro a0 a1 a2 mem R h
    rw [m_K_bindSeconds_2] at h
    refine wp_run 2 (pc' := 4) (lv' := [(0, .ref a0), (1, .int a1), (2, .int a2)]) (st' := [.int a1, .int a2]) (mem' := mem) rfl ?_
    refine wq_ge2 rfl h (fun h => ?_) (fun h => ?_)
    · refine wp_run 2 (pc' := 9) (lv' := [(0, .ref a0), (1, .int a1), (2, .int a2)]) (st' := [.int 1, .ref a0]) (mem' := mem) rfl ?_
      obtain ⟨fk9, hk9, h⟩ := dRc_some h
      refine wq_cV rfl (kCall_v hk9 (as := [.int 1]) (rest := []) ⟨by decide, rfl, (show 1 < 90 by decide), by decide⟩ (show 0 ≤ 8 by decide)) h (fun r hr => ca_up (by decide) (m_K_bindAt_ok hz xm N hr)) (fun m9 h => ?_)
      refine wp_run 2 (pc' := 2) (lv' := [(2, .int (a2 + 1)), (0, .ref a0), (1, .int a1)]) (st' := []) (mem' := m9) rfl ?_
      refine kGo_sub (lvS_of [1, 2, 0] rfl [2, 0, 1] rfl (by decide)) ?_
      exact ih _ _ _ m9 R h
    · exact wq_end rfl rfl h
def m_K_bindSeconds (xm : Nat → Option kE) (N : Nat) (a0 : Nat) (a1 : Int32) (mem : kM) : dRes :=
  m_K_bindSeconds_2 xm N N a0 a1 0 mem
theorem m_K_bindSeconds_ok (hz : z.category = 1) (xm : Nat → Option kE) (N : Nat) {a0 : Nat} {a1 : Int32} {mem : kM} {R : kO × kM} (h : m_K_bindSeconds xm N a0 a1 mem = some R) : kCa xm (kSm z) kDfl kFty kG 6 73 [.ref a0, .int a1] mem (dEq R) := by
  refine wq_ca (show 2 ≤ 3 by decide) ?_
  change kGo xm (kSm z) kDfl kFty kG 5 73 0 [(0, .ref a0), (1, .int a1)] [] mem (dEq R)
  unfold m_K_bindSeconds at h
  refine wp_run 2 (pc' := 2) (lv' := [(2, .int 0), (0, .ref a0), (1, .int a1)]) (st' := []) (mem' := mem) rfl ?_
  refine kGo_sub (lvS_of [1, 2, 0] rfl [2, 0, 1] rfl (by decide)) ?_
  exact m_K_bindSeconds_2_ok hz xm N N _ _ _ mem R h
/-- Knitstead.fastenLast()V -/
def m_K_fastenLast (xm : Nat → Option kE) (N : Nat) (a0 : Nat) (mem : kM) : dRes :=
  dGR xm mem a0 11 0 fun v1 =>
  dRc xm mem v1 5 <|
  dCV (m_Balls_spend xm N v1 6 mem) fun m6 =>
  dRc xm m6 a0 11 <|
  dCV (m_K_bindAt xm N a0 0 m6) fun m11 =>
  some (.inl none, m11)
theorem m_K_fastenLast_ok (hz : z.category = 1) (xm : Nat → Option kE) (N : Nat) {a0 : Nat} {mem : kM} {R : kO × kM} (h : m_K_fastenLast xm N a0 mem = some R) : kCa xm (kSm z) kDfl kFty kG 6 74 [.ref a0] mem (dEq R) := by
  refine wq_ca (show 1 ≤ 1 by decide) ?_
  change kGo xm (kSm z) kDfl kFty kG 5 74 0 [(0, .ref a0)] [] mem (dEq R)
  unfold m_K_fastenLast at h
  refine wp_run 1 (pc' := 1) (lv' := [(0, .ref a0)]) (st' := [.ref a0]) (mem' := mem) rfl ?_
  refine wq_gR rfl h (fun v1 h => ?_)
  refine wp_run 1 (pc' := 6) (lv' := [(0, .ref a0)]) (st' := [.int 6, .ref v1]) (mem' := mem) rfl ?_
  obtain ⟨fk6, hk6, h⟩ := dRc_some h
  refine wq_cV rfl (kCall_v hk6 (as := [.int 6]) (rest := []) ⟨by decide, rfl, (show 1 < 90 by decide), by decide⟩ (show 0 ≤ 8 by decide)) h (fun r hr => ca_up (by decide) (m_Balls_spend_ok hz xm N hr)) (fun m6 h => ?_)
  refine wp_run 2 (pc' := 11) (lv' := [(0, .ref a0)]) (st' := [.int 0, .ref a0]) (mem' := m6) rfl ?_
  obtain ⟨fk11, hk11, h⟩ := dRc_some h
  refine wq_cV rfl (kCall_v hk11 (as := [.int 0]) (rest := []) ⟨by decide, rfl, (show 1 < 90 by decide), by decide⟩ (show 0 ≤ 8 by decide)) h (fun r hr => ca_up (by decide) (m_K_bindAt_ok hz xm N hr)) (fun m11 h => ?_)
  exact wq_end rfl rfl h
end
