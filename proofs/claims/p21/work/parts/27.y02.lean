set_option maxRecDepth 20000
/-- KnitsteadModel.buy(I)I -/
def m_M_buy_44 (xm : Nat → Option kE) (N : Nat) : Nat → Nat → Int32 → Nat → kM → dRes
  | 0, _, _, _, _ => none
  | n + 1, a0, a1, a2, mem =>
    dRc xm mem a2 3 <|
    dCI (m_Itr_hasNext xm N a2 mem) fun v45 m45 =>
    if v45 = 0 then (
      dGR xm m45 a0 15 5 fun v77 =>
      dGR xm m45 v77 14 3 fun v80 =>
      dGI xm m45 a0 15 6 fun v84 =>
      dIS xm m45 v80 v84 a1 fun m88 =>
      dGI xm m88 a0 15 6 fun v91 =>
      dP xm m88 a0 15 6 (.int (v91 + 1)) fun m96 =>
      dGI xm m96 a0 15 6 fun v100 =>
      some (.inl (some (.int (v100 - 1))), m96)
    ) else (
      dRc xm m45 a2 3 <|
      dCR (m_Itr_next xm N a2 m45) fun v54 m54 =>
      dCC xm m54 v54 0 14 <|
      dGR xm m54 v54 14 3 fun v64 =>
      dGI xm m54 a0 15 6 fun v68 =>
      dIS xm m54 v64 v68 a1 fun m72 =>
      m_M_buy_44 xm N n a0 a1 a2 m72
    )
theorem m_M_buy_44_ok (xm : Nat → Option kE) (N : Nat) : ∀ (n : Nat) (a0 : Nat) (a1 : Int32) (a2 : Nat) (mem : kM) (R : kO × kM), m_M_buy_44 xm N n a0 a1 a2 mem = some R → kGo xm kSm kDfl kFty kG 2 114 44 [(0, .ref a0), (1, .int a1), (2, .ref a2)] [] mem (dEq R) := by
  intro n
  induction n with
  | zero => intro a0 a1 a2 mem R h; cases h
  | succ n ih =>
    intro a0 a1 a2 mem R h
    rw [m_M_buy_44] at h
    refine wp_run 1 (pc' := 45) (lv' := [(0, .ref a0), (1, .int a1), (2, .ref a2)]) (st' := [.ref a2]) (mem' := mem) rfl ?_
    obtain ⟨fk45, hk45, h⟩ := dRc_some h
    refine wq_cI rfl (kCall_v hk45 (as := []) (rest := []) ⟨by decide, rfl, (show 0 < 90 by decide), by decide⟩ (show 0 ≤ 8 by decide)) h (fun r hr => ca_up (by decide) (m_Itr_hasNext_ok xm N hr)) (fun v45 m45 h => ?_)
    refine wq_eq rfl h (fun h => ?_) (fun h => ?_)
    · refine wp_run 1 (pc' := 77) (lv' := [(0, .ref a0), (1, .int a1), (2, .ref a2)]) (st' := [.ref a0]) (mem' := m45) rfl ?_
      refine wq_gR rfl h (fun v77 h => ?_)
      refine wq_gR rfl h (fun v80 h => ?_)
      refine wp_run 1 (pc' := 84) (lv' := [(0, .ref a0), (1, .int a1), (2, .ref a2)]) (st' := [.ref a0, .ref v80]) (mem' := m45) rfl ?_
      refine wq_gI rfl h (fun v84 h => ?_)
      refine wp_run 1 (pc' := 88) (lv' := [(0, .ref a0), (1, .int a1), (2, .ref a2)]) (st' := [.int a1, .int v84, .ref v80]) (mem' := m45) rfl ?_
      refine wq_iS rfl h (fun m88 h => ?_)
      refine wp_run 2 (pc' := 91) (lv' := [(0, .ref a0), (1, .int a1), (2, .ref a2)]) (st' := [.ref a0, .ref a0]) (mem' := m88) rfl ?_
      refine wq_gI rfl h (fun v91 h => ?_)
      refine wp_run 2 (pc' := 96) (lv' := [(0, .ref a0), (1, .int a1), (2, .ref a2)]) (st' := [.int (v91 + 1), .ref a0]) (mem' := m88) rfl ?_
      refine wq_p rfl rfl h (fun m96 h => ?_)
      refine wp_run 1 (pc' := 100) (lv' := [(0, .ref a0), (1, .int a1), (2, .ref a2)]) (st' := [.ref a0]) (mem' := m96) rfl ?_
      refine wq_gI rfl h (fun v100 h => ?_)
      refine wp_run 2 (pc' := 105) (lv' := [(0, .ref a0), (1, .int a1), (2, .ref a2)]) (st' := [.int (v100 - 1)]) (mem' := m96) rfl ?_
      exact wq_ret rfl rfl h
    · refine wp_run 1 (pc' := 54) (lv' := [(0, .ref a0), (1, .int a1), (2, .ref a2)]) (st' := [.ref a2]) (mem' := m45) rfl ?_
      obtain ⟨fk54, hk54, h⟩ := dRc_some h
      refine wq_cR rfl (kCall_v hk54 (as := []) (rest := []) ⟨by decide, rfl, (show 0 < 90 by decide), by decide⟩ (show 0 ≤ 8 by decide)) h (fun r hr => ca_up (by decide) (m_Itr_next_ok xm N hr)) (fun v54 m54 h => ?_)
      refine wq_cc rfl h (fun h => ?_)
      refine wp_run 2 (pc' := 64) (lv' := [(3, .ref v54), (0, .ref a0), (1, .int a1), (2, .ref a2)]) (st' := [.ref v54]) (mem' := m54) rfl ?_
      refine wq_gR rfl h (fun v64 h => ?_)
      refine wp_run 1 (pc' := 68) (lv' := [(3, .ref v54), (0, .ref a0), (1, .int a1), (2, .ref a2)]) (st' := [.ref a0, .ref v64]) (mem' := m54) rfl ?_
      refine wq_gI rfl h (fun v68 h => ?_)
      refine wp_run 1 (pc' := 72) (lv' := [(3, .ref v54), (0, .ref a0), (1, .int a1), (2, .ref a2)]) (st' := [.int a1, .int v68, .ref v64]) (mem' := m54) rfl ?_
      refine wq_iS rfl h (fun m72 h => ?_)
      refine wp_run 1 (pc' := 44) (lv' := [(3, .ref v54), (0, .ref a0), (1, .int a1), (2, .ref a2)]) (st' := []) (mem' := m72) rfl ?_
      refine kGo_sub (lvS_of [1, 2, 3] rfl [3, 0, 1, 2] rfl (by decide)) ?_
      exact ih _ _ _ m72 R h
def m_M_buy (xm : Nat → Option kE) (N : Nat) (a0 : Nat) (a1 : Int32) (mem : kM) : dRes :=
  dP xm mem a0 15 0 (.int 0) fun m2 =>
  dCI (m_M_is xm N a1 1 9999 m2) fun v10 m10 =>
  if v10 = 0 then (
    dRc xm m10 a0 15 <|
    dCI (m_M_refuse xm N a0 1 m10) fun v18 m18 =>
    some (.inl (some (.int v18)), m18)
  ) else (
    dGI xm m10 a0 15 6 fun v23 =>
    if v23 = 4 then (
      dRc xm m10 a0 15 <|
      dCI (m_M_refuse xm N a0 2 m10) fun v32 m32 =>
      some (.inl (some (.int v32)), m32)
    ) else (
      dGR xm m10 a0 15 4 fun v37 =>
      dRc xm m10 v37 4 <|
      dCR (m_AL_iterator xm N v37 m10) fun v40 m40 =>
      m_M_buy_44 xm N N a0 a1 v40 m40
    )
  )
theorem m_M_buy_ok (xm : Nat → Option kE) (N : Nat) {a0 : Nat} {a1 : Int32} {mem : kM} {R : kO × kM} (h : m_M_buy xm N a0 a1 mem = some R) : kCa xm kSm kDfl kFty kG 3 114 [.ref a0, .int a1] mem (dEq R) := by
  refine wq_ca (show 2 ≤ 4 by decide) ?_
  change kGo xm kSm kDfl kFty kG 2 114 0 [(0, .ref a0), (1, .int a1)] [] mem (dEq R)
  unfold m_M_buy at h
  refine wp_run 2 (pc' := 2) (lv' := [(0, .ref a0), (1, .int a1)]) (st' := [.int 0, .ref a0]) (mem' := mem) rfl ?_
  refine wq_p rfl rfl h (fun m2 h => ?_)
  refine wp_run 3 (pc' := 10) (lv' := [(0, .ref a0), (1, .int a1)]) (st' := [.int 9999, .int 1, .int a1]) (mem' := m2) rfl ?_
  refine wq_cI rfl (kCall_s (as := [.int a1, .int 1, .int 9999]) (rest := []) ⟨by decide, rfl⟩ (show 0 ≤ 8 by decide) (by decide)) h (fun r hr => ca_up (by decide) (m_M_is_ok xm N hr)) (fun v10 m10 h => ?_)
  refine wq_ne rfl h (fun h => ?_) (fun h => ?_)
  · refine wp_run 2 (pc' := 18) (lv' := [(0, .ref a0), (1, .int a1)]) (st' := [.int 1, .ref a0]) (mem' := m10) rfl ?_
    obtain ⟨fk18, hk18, h⟩ := dRc_some h
    refine wq_cI rfl (kCall_v hk18 (as := [.int 1]) (rest := []) ⟨by decide, rfl, (show 1 < 90 by decide), by decide⟩ (show 0 ≤ 8 by decide)) h (fun r hr => ca_up (by decide) (m_M_refuse_ok xm N hr)) (fun v18 m18 h => ?_)
    exact wq_ret rfl rfl h
  · refine wp_run 1 (pc' := 23) (lv' := [(0, .ref a0), (1, .int a1)]) (st' := [.ref a0]) (mem' := m10) rfl ?_
    refine wq_gI rfl h (fun v23 h => ?_)
    refine wp_run 1 (pc' := 27) (lv' := [(0, .ref a0), (1, .int a1)]) (st' := [.int 4, .int v23]) (mem' := m10) rfl ?_
    refine wq_ne2 rfl h (fun h => ?_) (fun h => ?_)
    · refine wp_run 2 (pc' := 32) (lv' := [(0, .ref a0), (1, .int a1)]) (st' := [.int 2, .ref a0]) (mem' := m10) rfl ?_
      obtain ⟨fk32, hk32, h⟩ := dRc_some h
      refine wq_cI rfl (kCall_v hk32 (as := [.int 2]) (rest := []) ⟨by decide, rfl, (show 1 < 90 by decide), by decide⟩ (show 0 ≤ 8 by decide)) h (fun r hr => ca_up (by decide) (m_M_refuse_ok xm N hr)) (fun v32 m32 h => ?_)
      exact wq_ret rfl rfl h
    · refine wp_run 1 (pc' := 37) (lv' := [(0, .ref a0), (1, .int a1)]) (st' := [.ref a0]) (mem' := m10) rfl ?_
      refine wq_gR rfl h (fun v37 h => ?_)
      obtain ⟨fk40, hk40, h⟩ := dRc_some h
      refine wq_cR rfl (kCall_v hk40 (as := []) (rest := []) ⟨by decide, rfl, (show 0 < 90 by decide), by decide⟩ (show 0 ≤ 8 by decide)) h (fun r hr => ca_up (by decide) (m_AL_iterator_ok xm N hr)) (fun v40 m40 h => ?_)
      refine wp_run 1 (pc' := 44) (lv' := [(2, .ref v40), (0, .ref a0), (1, .int a1)]) (st' := []) (mem' := m40) rfl ?_
      refine kGo_sub (lvS_of [1, 2, 0] rfl [2, 0, 1] rfl (by decide)) ?_
      exact m_M_buy_44_ok xm N N _ _ _ m40 R h
/-- KnitsteadModel.join(I)I -/
def m_M_join (xm : Nat → Option kE) (N : Nat) (a0 : Nat) (a1 : Int32) (mem : kM) : dRes :=
  dP xm mem a0 15 0 (.int 0) fun m2 =>
  dGI xm m2 a0 15 6 fun v8 =>
  dCI (m_M_is xm N a1 0 (v8 - 1) m2) fun v13 m13 =>
  if v13 = 0 then (
    dRc xm m13 a0 15 <|
    dCI (m_M_refuse xm N a0 1 m13) fun v21 m21 =>
    some (.inl (some (.int v21)), m21)
  ) else (
    dGI xm m13 a0 15 7 fun v26 =>
    dP xm m13 a0 15 7 (.int a1) fun m32 =>
    some (.inl (some (.int v26)), m32)
  )
theorem m_M_join_ok (xm : Nat → Option kE) (N : Nat) {a0 : Nat} {a1 : Int32} {mem : kM} {R : kO × kM} (h : m_M_join xm N a0 a1 mem = some R) : kCa xm kSm kDfl kFty kG 2 115 [.ref a0, .int a1] mem (dEq R) := by
  refine wq_ca (show 2 ≤ 3 by decide) ?_
  change kGo xm kSm kDfl kFty kG 1 115 0 [(0, .ref a0), (1, .int a1)] [] mem (dEq R)
  unfold m_M_join at h
  refine wp_run 2 (pc' := 2) (lv' := [(0, .ref a0), (1, .int a1)]) (st' := [.int 0, .ref a0]) (mem' := mem) rfl ?_
  refine wq_p rfl rfl h (fun m2 h => ?_)
  refine wp_run 3 (pc' := 8) (lv' := [(0, .ref a0), (1, .int a1)]) (st' := [.ref a0, .int 0, .int a1]) (mem' := m2) rfl ?_
  refine wq_gI rfl h (fun v8 h => ?_)
  refine wp_run 2 (pc' := 13) (lv' := [(0, .ref a0), (1, .int a1)]) (st' := [.int (v8 - 1), .int 0, .int a1]) (mem' := m2) rfl ?_
  refine wq_cI rfl (kCall_s (as := [.int a1, .int 0, .int (v8 - 1)]) (rest := []) ⟨by decide, rfl⟩ (show 0 ≤ 8 by decide) (by decide)) h (fun r hr => ca_up (by decide) (m_M_is_ok xm N hr)) (fun v13 m13 h => ?_)
  refine wq_ne rfl h (fun h => ?_) (fun h => ?_)
  · refine wp_run 2 (pc' := 21) (lv' := [(0, .ref a0), (1, .int a1)]) (st' := [.int 1, .ref a0]) (mem' := m13) rfl ?_
    obtain ⟨fk21, hk21, h⟩ := dRc_some h
    refine wq_cI rfl (kCall_v hk21 (as := [.int 1]) (rest := []) ⟨by decide, rfl, (show 1 < 90 by decide), by decide⟩ (show 0 ≤ 8 by decide)) h (fun r hr => ca_up (by decide) (m_M_refuse_ok xm N hr)) (fun v21 m21 h => ?_)
    exact wq_ret rfl rfl h
  · refine wp_run 1 (pc' := 26) (lv' := [(0, .ref a0), (1, .int a1)]) (st' := [.ref a0]) (mem' := m13) rfl ?_
    refine wq_gI rfl h (fun v26 h => ?_)
    refine wp_run 3 (pc' := 32) (lv' := [(2, .int v26), (0, .ref a0), (1, .int a1)]) (st' := [.int a1, .ref a0]) (mem' := m13) rfl ?_
    refine wq_p rfl rfl h (fun m32 h => ?_)
    refine wp_run 1 (pc' := 36) (lv' := [(2, .int v26), (0, .ref a0), (1, .int a1)]) (st' := [.int v26]) (mem' := m32) rfl ?_
    exact wq_ret rfl rfl h
/-- java/util/ArrayList.size()I -/
def m_AL_size (xm : Nat → Option kE) (N : Nat) (a0 : Nat) (mem : kM) : dRes :=
  dGI xm mem a0 4 2 fun v1 =>
  some (.inl (some (.int v1)), mem)
theorem m_AL_size_ok (xm : Nat → Option kE) (N : Nat) {a0 : Nat} {mem : kM} {R : kO × kM} (h : m_AL_size xm N a0 mem = some R) : kCa xm kSm kDfl kFty kG 1 213 [.ref a0] mem (dEq R) := by
  refine wq_ca (show 1 ≤ 1 by decide) ?_
  change kGo xm kSm kDfl kFty kG 0 213 0 [(0, .ref a0)] [] mem (dEq R)
  unfold m_AL_size at h
  refine wp_run 1 (pc' := 1) (lv' := [(0, .ref a0)]) (st' := [.ref a0]) (mem' := mem) rfl ?_
  refine wq_gI rfl h (fun v1 h => ?_)
  exact wq_ret rfl rfl h
/-- KnitsteadModel$State.all()I -/
def m_MS_all (xm : Nat → Option kE) (N : Nat) (a0 : Nat) (mem : kM) : dRes :=
  dGR xm mem a0 14 0 fun v1 =>
  dRc xm mem v1 4 <|
  dCI (m_AL_size xm N v1 mem) fun v4 m4 =>
  dGR xm m4 a0 14 1 fun v8 =>
  dRc xm m4 v8 4 <|
  dCI (m_AL_size xm N v8 m4) fun v11 m11 =>
  some (.inl (some (.int (v4 + v11))), m11)
theorem m_MS_all_ok (xm : Nat → Option kE) (N : Nat) {a0 : Nat} {mem : kM} {R : kO × kM} (h : m_MS_all xm N a0 mem = some R) : kCa xm kSm kDfl kFty kG 2 106 [.ref a0] mem (dEq R) := by
  refine wq_ca (show 1 ≤ 1 by decide) ?_
  change kGo xm kSm kDfl kFty kG 1 106 0 [(0, .ref a0)] [] mem (dEq R)
  unfold m_MS_all at h
  refine wp_run 1 (pc' := 1) (lv' := [(0, .ref a0)]) (st' := [.ref a0]) (mem' := mem) rfl ?_
  refine wq_gR rfl h (fun v1 h => ?_)
  obtain ⟨fk4, hk4, h⟩ := dRc_some h
  refine wq_cI rfl (kCall_v hk4 (as := []) (rest := []) ⟨by decide, rfl, (show 0 < 90 by decide), by decide⟩ (show 0 ≤ 8 by decide)) h (fun r hr => ca_up (by decide) (m_AL_size_ok xm N hr)) (fun v4 m4 h => ?_)
  refine wp_run 1 (pc' := 8) (lv' := [(0, .ref a0)]) (st' := [.ref a0, .int v4]) (mem' := m4) rfl ?_
  refine wq_gR rfl h (fun v8 h => ?_)
  obtain ⟨fk11, hk11, h⟩ := dRc_some h
  refine wq_cI rfl (kCall_v hk11 (as := []) (rest := [.int v4]) ⟨by decide, rfl, (show 0 < 90 by decide), by decide⟩ (show 1 ≤ 8 by decide)) h (fun r hr => ca_up (by decide) (m_AL_size_ok xm N hr)) (fun v11 m11 h => ?_)
  refine wp_run 1 (pc' := 15) (lv' := [(0, .ref a0)]) (st' := [.int (v4 + v11)]) (mem' := m11) rfl ?_
  exact wq_ret rfl rfl h
/-- KnitsteadModel.yarn()I -/
def m_M_yarn (xm : Nat → Option kE) (N : Nat) (a0 : Nat) (mem : kM) : dRes :=
  dGI xm mem a0 15 7 fun v1 =>
  if v1 = (-1) then (
    some (.inl (some (.int (-1))), mem)
  ) else (
    dGR xm mem a0 15 5 fun v13 =>
    dGR xm mem v13 14 3 fun v16 =>
    dGI xm mem a0 15 7 fun v20 =>
    dIL xm 0 mem v16 v20 fun v23 =>
    some (.inl (some (.int v23)), mem)
  )
theorem m_M_yarn_ok (xm : Nat → Option kE) (N : Nat) {a0 : Nat} {mem : kM} {R : kO × kM} (h : m_M_yarn xm N a0 mem = some R) : kCa xm kSm kDfl kFty kG 1 111 [.ref a0] mem (dEq R) := by
  refine wq_ca (show 1 ≤ 1 by decide) ?_
  change kGo xm kSm kDfl kFty kG 0 111 0 [(0, .ref a0)] [] mem (dEq R)
  unfold m_M_yarn at h
  refine wp_run 1 (pc' := 1) (lv' := [(0, .ref a0)]) (st' := [.ref a0]) (mem' := mem) rfl ?_
  refine wq_gI rfl h (fun v1 h => ?_)
  refine wp_run 1 (pc' := 5) (lv' := [(0, .ref a0)]) (st' := [.int (-1), .int v1]) (mem' := mem) rfl ?_
  refine wq_ne2 rfl h (fun h => ?_) (fun h => ?_)
  · refine wp_run 2 (pc' := 24) (lv' := [(0, .ref a0)]) (st' := [.int (-1)]) (mem' := mem) rfl ?_
    exact wq_ret rfl rfl h
  · refine wp_run 1 (pc' := 13) (lv' := [(0, .ref a0)]) (st' := [.ref a0]) (mem' := mem) rfl ?_
    refine wq_gR rfl h (fun v13 h => ?_)
    refine wq_gR rfl h (fun v16 h => ?_)
    refine wp_run 1 (pc' := 20) (lv' := [(0, .ref a0)]) (st' := [.ref a0, .ref v16]) (mem' := mem) rfl ?_
    refine wq_gI rfl h (fun v20 h => ?_)
    refine wq_iL rfl h (fun v23 h => ?_)
    exact wq_ret rfl rfl h
/-- java/util/Arrays.copyOf([Ljava/lang/Object;ILjava/lang/Class;)[Ljava/lang/Object; -/
def m_Ars_copyOf_3 (xm : Nat → Option kE) (N : Nat) (a0 : Nat) (a1 : Int32) (a2 : Nat) (mem : kM) : dRes :=
  dAc a2 2 (
    dNA 2 mem a1 fun m7 p7 =>
    dLen xm m7 a0 fun v30 =>
    dCI (m_Math_min xm N v30 a1 m7) fun v32 m32 =>
    dCpy xm m32 a0 0 p7 0 v32 fun m35 =>
    some (.inl (some (.ref p7)), m35)
  ) (
    none
  )
theorem m_Ars_copyOf_3_ok (xm : Nat → Option kE) (N : Nat) {a0 : Nat} {a1 : Int32} {a2 : Nat} {mem : kM} {R : kO × kM} (h : m_Ars_copyOf_3 xm N a0 a1 a2 mem = some R) : kCa xm kSm kDfl kFty kG 2 228 [.ref a0, .int a1, .ref a2] mem (dEq R) := by
  refine wq_ca (show 3 ≤ 4 by decide) ?_
  change kGo xm kSm kDfl kFty kG 1 228 0 [(0, .ref a0), (1, .int a1), (2, .ref a2)] [] mem (dEq R)
  unfold m_Ars_copyOf_3 at h
  refine wp_run 2 (pc' := 3) (lv' := [(0, .ref a0), (1, .int a1), (2, .ref a2)]) (st' := [.ref 2, .ref a2]) (mem' := mem) rfl ?_
  refine wq_an rfl h (fun h => ?_) (fun h => ?_)
  · refine wp_run 1 (pc' := 7) (lv' := [(0, .ref a0), (1, .int a1), (2, .ref a2)]) (st' := [.int a1]) (mem' := mem) rfl ?_
    refine wq_nA rfl h (fun m7 p7 h => ?_)
    refine wp_run 7 (pc' := 30) (lv' := [(3, .ref p7), (0, .ref a0), (1, .int a1), (2, .ref a2)]) (st' := [.ref a0, .int 0, .ref p7, .int 0, .ref a0]) (mem' := m7) rfl ?_
    refine wq_len rfl h (fun v30 h => ?_)
    refine wp_run 1 (pc' := 32) (lv' := [(3, .ref p7), (0, .ref a0), (1, .int a1), (2, .ref a2)]) (st' := [.int a1, .int v30, .int 0, .ref p7, .int 0, .ref a0]) (mem' := m7) rfl ?_
    refine wq_cI rfl (kCall_s (as := [.int v30, .int a1]) (rest := [.int 0, .ref p7, .int 0, .ref a0]) ⟨by decide, rfl⟩ (show 4 ≤ 8 by decide) (by decide)) h (fun r hr => ca_up (by decide) (m_Math_min_ok xm N hr)) (fun v32 m32 h => ?_)
    refine wq_cpy rfl h (show 0 ≤ 90 by decide) (fun m35 h => ?_)
    refine wp_run 1 (pc' := 39) (lv' := [(3, .ref p7), (0, .ref a0), (1, .int a1), (2, .ref a2)]) (st' := [.ref p7]) (mem' := m35) rfl ?_
    exact wq_end rfl rfl h
  · refine wp_run 1 (pc' := 14) (lv' := [(0, .ref a0), (1, .int a1), (2, .ref a2)]) (st' := [.ref a2]) (mem' := mem) rfl ?_
    cases h
/-- java/util/Arrays.copyOf([Ljava/lang/Object;I)[Ljava/lang/Object; -/
def m_Ars_copyOf_2 (xm : Nat → Option kE) (N : Nat) (a0 : Nat) (a1 : Int32) (mem : kM) : dRes :=
  dSp xm 9003 mem a0 fun m3 p3 =>
  dCR (m_Ars_copyOf_3 xm N a0 a1 p3 m3) fun v6 m6 =>
  some (.inl (some (.ref v6)), m6)
theorem m_Ars_copyOf_2_ok (xm : Nat → Option kE) (N : Nat) {a0 : Nat} {a1 : Int32} {mem : kM} {R : kO × kM} (h : m_Ars_copyOf_2 xm N a0 a1 mem = some R) : kCa xm kSm kDfl kFty kG 3 227 [.ref a0, .int a1] mem (dEq R) := by
  refine wq_ca (show 2 ≤ 2 by decide) ?_
  change kGo xm kSm kDfl kFty kG 2 227 0 [(0, .ref a0), (1, .int a1)] [] mem (dEq R)
  unfold m_Ars_copyOf_2 at h
  refine wp_run 3 (pc' := 3) (lv' := [(0, .ref a0), (1, .int a1)]) (st' := [.ref a0, .int a1, .ref a0]) (mem' := mem) rfl ?_
  refine wq_sp rfl (by decide) h (show 2 ≤ 90 by decide) (fun m3 p3 h => ?_)
  refine wq_cR rfl (kCall_s (as := [.ref a0, .int a1, .ref p3]) (rest := []) ⟨by decide, rfl⟩ (show 0 ≤ 8 by decide) (by decide)) h (fun r hr => ca_up (by decide) (m_Ars_copyOf_3_ok xm N hr)) (fun v6 m6 h => ?_)
  exact wq_end rfl rfl h
/-- java/util/ArrayList.grow(I)[Ljava/lang/Object; -/
def m_AL_grow_1_20 (xm : Nat → Option kE) (N : Nat) (a0 : Nat) (a1 : Int32) (a2 : Int32) (mem : kM) : dRes :=
  dCI (m_AS_newLength xm N a2 (a1 - a2) (a2 >>> (1 &&& 31)) mem) fun v27 m27 =>
  dGR xm m27 a0 4 1 fun v33 =>
  dCR (m_Ars_copyOf_2 xm N v33 v27 m27) fun v37 m37 =>
  dP xm m37 a0 4 1 (.ref v37) fun m41 =>
  some (.inl (some (.ref v37)), m41)
theorem m_AL_grow_1_20_ok (xm : Nat → Option kE) (N : Nat) : ∀ (a0 : Nat) (a1 : Int32) (a2 : Int32) (mem : kM) (R : kO × kM), m_AL_grow_1_20 xm N a0 a1 a2 mem = some R → kGo xm kSm kDfl kFty kG 3 211 20 [(0, .ref a0), (1, .int a1), (2, .int a2)] [] mem (dEq R) := by
  intro a0 a1 a2 mem R h
  unfold m_AL_grow_1_20 at h
  refine wp_run 7 (pc' := 27) (lv' := [(0, .ref a0), (1, .int a1), (2, .int a2)]) (st' := [.int (a2 >>> (1 &&& 31)), .int (a1 - a2), .int a2]) (mem' := mem) rfl ?_
  refine wq_cI rfl (kCall_s (as := [.int a2, .int (a1 - a2), .int (a2 >>> (1 &&& 31))]) (rest := []) ⟨by decide, rfl⟩ (show 0 ≤ 8 by decide) (by decide)) h (fun r hr => ca_up (by decide) (m_AS_newLength_ok xm N hr)) (fun v27 m27 h => ?_)
  refine wp_run 3 (pc' := 33) (lv' := [(3, .int v27), (0, .ref a0), (1, .int a1), (2, .int a2)]) (st' := [.ref a0, .ref a0]) (mem' := m27) rfl ?_
  refine wq_gR rfl h (fun v33 h => ?_)
  refine wp_run 1 (pc' := 37) (lv' := [(3, .int v27), (0, .ref a0), (1, .int a1), (2, .int a2)]) (st' := [.int v27, .ref v33, .ref a0]) (mem' := m27) rfl ?_
  refine wq_cR rfl (kCall_s (as := [.ref v33, .int v27]) (rest := [.ref a0]) ⟨by decide, rfl⟩ (show 1 ≤ 8 by decide) (by decide)) h (fun r hr => ca_up (by decide) (m_Ars_copyOf_2_ok xm N hr)) (fun v37 m37 h => ?_)
  refine wp_run 1 (pc' := 41) (lv' := [(3, .int v27), (0, .ref a0), (1, .int a1), (2, .int a2)]) (st' := [.ref v37, .ref a0, .ref v37]) (mem' := m37) rfl ?_
  refine wq_p rfl rfl h (fun m41 h => ?_)
  exact wq_end rfl rfl h
def m_AL_grow_1 (xm : Nat → Option kE) (N : Nat) (a0 : Nat) (a1 : Int32) (mem : kM) : dRes :=
  dGR xm mem a0 4 1 fun v1 =>
  dLen xm mem v1 fun v4 =>
  if 0 < v4 then (
    m_AL_grow_1_20 xm N a0 a1 v4 mem
  ) else (
    dGR xm mem a0 4 1 fun v11 =>
    dAc v11 1 (
      dCI (m_Math_max xm N 10 a1 mem) fun v49 m49 =>
      dNA 2 m49 v49 fun m52 p52 =>
      dP xm m52 a0 4 1 (.ref p52) fun m56 =>
      some (.inl (some (.ref p52)), m56)
    ) (
      m_AL_grow_1_20 xm N a0 a1 v4 mem
    )
  )
theorem m_AL_grow_1_ok (xm : Nat → Option kE) (N : Nat) {a0 : Nat} {a1 : Int32} {mem : kM} {R : kO × kM} (h : m_AL_grow_1 xm N a0 a1 mem = some R) : kCa xm kSm kDfl kFty kG 4 211 [.ref a0, .int a1] mem (dEq R) := by
  refine wq_ca (show 2 ≤ 4 by decide) ?_
  change kGo xm kSm kDfl kFty kG 3 211 0 [(0, .ref a0), (1, .int a1)] [] mem (dEq R)
  unfold m_AL_grow_1 at h
  refine wp_run 1 (pc' := 1) (lv' := [(0, .ref a0), (1, .int a1)]) (st' := [.ref a0]) (mem' := mem) rfl ?_
  refine wq_gR rfl h (fun v1 h => ?_)
  refine wq_len rfl h (fun v4 h => ?_)
  refine wp_run 2 (pc' := 7) (lv' := [(2, .int v4), (0, .ref a0), (1, .int a1)]) (st' := [.int v4]) (mem' := mem) rfl ?_
  refine wq_gt rfl h (fun h => ?_) (fun h => ?_)
  · refine kGo_sub (lvS_of [1, 2, 0] rfl [2, 0, 1] rfl (by decide)) ?_
    exact m_AL_grow_1_20_ok xm N _ _ _ mem R h
  · refine wp_run 1 (pc' := 11) (lv' := [(2, .int v4), (0, .ref a0), (1, .int a1)]) (st' := [.ref a0]) (mem' := mem) rfl ?_
    refine wq_gR rfl h (fun v11 h => ?_)
    refine wp_run 1 (pc' := 17) (lv' := [(2, .int v4), (0, .ref a0), (1, .int a1)]) (st' := [.ref 1, .ref v11]) (mem' := mem) rfl ?_
    refine wq_ac rfl h (fun h => ?_) (fun h => ?_)
    · refine wp_run 3 (pc' := 49) (lv' := [(2, .int v4), (0, .ref a0), (1, .int a1)]) (st' := [.int a1, .int 10, .ref a0]) (mem' := mem) rfl ?_
      refine wq_cI rfl (kCall_s (as := [.int 10, .int a1]) (rest := [.ref a0]) ⟨by decide, rfl⟩ (show 1 ≤ 8 by decide) (by decide)) h (fun r hr => ca_up (by decide) (m_Math_max_ok xm N hr)) (fun v49 m49 h => ?_)
      refine wq_nA rfl h (fun m52 p52 h => ?_)
      refine wp_run 1 (pc' := 56) (lv' := [(2, .int v4), (0, .ref a0), (1, .int a1)]) (st' := [.ref p52, .ref a0, .ref p52]) (mem' := m52) rfl ?_
      refine wq_p rfl rfl h (fun m56 h => ?_)
      exact wq_end rfl rfl h
    · refine kGo_sub (lvS_of [1, 2, 0] rfl [2, 0, 1] rfl (by decide)) ?_
      exact m_AL_grow_1_20_ok xm N _ _ _ mem R h
/-- java/util/ArrayList.grow()[Ljava/lang/Object; -/
def m_AL_grow_0 (xm : Nat → Option kE) (N : Nat) (a0 : Nat) (mem : kM) : dRes :=
  dGI xm mem a0 4 2 fun v2 =>
  dRc xm mem a0 4 <|
  dCR (m_AL_grow_1 xm N a0 (v2 + 1) mem) fun v7 m7 =>
  some (.inl (some (.ref v7)), m7)
theorem m_AL_grow_0_ok (xm : Nat → Option kE) (N : Nat) {a0 : Nat} {mem : kM} {R : kO × kM} (h : m_AL_grow_0 xm N a0 mem = some R) : kCa xm kSm kDfl kFty kG 5 212 [.ref a0] mem (dEq R) := by
  refine wq_ca (show 1 ≤ 1 by decide) ?_
  change kGo xm kSm kDfl kFty kG 4 212 0 [(0, .ref a0)] [] mem (dEq R)
  unfold m_AL_grow_0 at h
  refine wp_run 2 (pc' := 2) (lv' := [(0, .ref a0)]) (st' := [.ref a0, .ref a0]) (mem' := mem) rfl ?_
  refine wq_gI rfl h (fun v2 h => ?_)
  refine wp_run 2 (pc' := 7) (lv' := [(0, .ref a0)]) (st' := [.int (v2 + 1), .ref a0]) (mem' := mem) rfl ?_
  obtain ⟨fk7, hk7, h⟩ := dRc_some h
  refine wq_cR rfl (kCall_v hk7 (as := [.int (v2 + 1)]) (rest := []) ⟨by decide, rfl, (show 1 < 90 by decide), by decide⟩ (show 0 ≤ 8 by decide)) h (fun r hr => ca_up (by decide) (m_AL_grow_1_ok xm N hr)) (fun v7 m7 h => ?_)
  exact wq_end rfl rfl h
/-- java/util/ArrayList.add(Ljava/lang/Object;[Ljava/lang/Object;I)V -/
def m_AL_add_2_11 (xm : Nat → Option kE) (N : Nat) (a0 : Nat) (a1 : Nat) (a2 : Nat) (a3 : Int32) (mem : kM) : dRes :=
  dAS xm mem a2 a3 (some a1) fun m14 =>
  dP xm m14 a0 4 2 (.int (a3 + 1)) fun m19 =>
  some (.inl none, m19)
theorem m_AL_add_2_11_ok (xm : Nat → Option kE) (N : Nat) : ∀ (a0 : Nat) (a1 : Nat) (a2 : Nat) (a3 : Int32) (mem : kM) (R : kO × kM), m_AL_add_2_11 xm N a0 a1 a2 a3 mem = some R → kGo xm kSm kDfl kFty kG 5 218 11 [(0, .ref a0), (1, .ref a1), (2, .ref a2), (3, .int a3)] [] mem (dEq R) := by
  intro a0 a1 a2 a3 mem R h
  unfold m_AL_add_2_11 at h
  refine wp_run 3 (pc' := 14) (lv' := [(0, .ref a0), (1, .ref a1), (2, .ref a2), (3, .int a3)]) (st' := [.ref a1, .int a3, .ref a2]) (mem' := mem) rfl ?_
  refine wq_aS rfl h (fun m14 h => ?_)
  refine wp_run 4 (pc' := 19) (lv' := [(0, .ref a0), (1, .ref a1), (2, .ref a2), (3, .int a3)]) (st' := [.int (a3 + 1), .ref a0]) (mem' := m14) rfl ?_
  refine wq_p rfl rfl h (fun m19 h => ?_)
  exact wq_end rfl rfl h
def m_AL_add_2 (xm : Nat → Option kE) (N : Nat) (a0 : Nat) (a1 : Nat) (a2 : Nat) (a3 : Int32) (mem : kM) : dRes :=
  dLen xm mem a2 fun v2 =>
  if a3 = v2 then (
    dRc xm mem a0 4 <|
    dCR (m_AL_grow_0 xm N a0 mem) fun v7 m7 =>
    m_AL_add_2_11 xm N a0 a1 v7 a3 m7
  ) else (
    m_AL_add_2_11 xm N a0 a1 a2 a3 mem
  )
theorem m_AL_add_2_ok (xm : Nat → Option kE) (N : Nat) {a0 : Nat} {a1 : Nat} {a2 : Nat} {a3 : Int32} {mem : kM} {R : kO × kM} (h : m_AL_add_2 xm N a0 a1 a2 a3 mem = some R) : kCa xm kSm kDfl kFty kG 6 218 [.ref a0, .ref a1, .ref a2, .int a3] mem (dEq R) := by
  refine wq_ca (show 4 ≤ 4 by decide) ?_
  change kGo xm kSm kDfl kFty kG 5 218 0 [(0, .ref a0), (1, .ref a1), (2, .ref a2), (3, .int a3)] [] mem (dEq R)
  unfold m_AL_add_2 at h
  refine wp_run 2 (pc' := 2) (lv' := [(0, .ref a0), (1, .ref a1), (2, .ref a2), (3, .int a3)]) (st' := [.ref a2, .int a3]) (mem' := mem) rfl ?_
  refine wq_len rfl h (fun v2 h => ?_)
  refine wq_ne2 rfl h (fun h => ?_) (fun h => ?_)
  · refine wp_run 1 (pc' := 7) (lv' := [(0, .ref a0), (1, .ref a1), (2, .ref a2), (3, .int a3)]) (st' := [.ref a0]) (mem' := mem) rfl ?_
    obtain ⟨fk7, hk7, h⟩ := dRc_some h
    refine wq_cR rfl (kCall_v hk7 (as := []) (rest := []) ⟨by decide, rfl, (show 0 < 90 by decide), by decide⟩ (show 0 ≤ 8 by decide)) h (fun r hr => ca_up (by decide) (m_AL_grow_0_ok xm N hr)) (fun v7 m7 h => ?_)
    refine wp_run 1 (pc' := 11) (lv' := [(2, .ref v7), (0, .ref a0), (1, .ref a1), (3, .int a3)]) (st' := []) (mem' := m7) rfl ?_
    refine kGo_sub (lvS_of [1, 2, 0, 3] rfl [2, 0, 1, 3] rfl (by decide)) ?_
    exact m_AL_add_2_11_ok xm N _ _ _ _ m7 R h
  · exact m_AL_add_2_11_ok xm N _ _ _ _ mem R h
/-- java/util/ArrayList.add(Ljava/lang/Object;)Z -/
def m_AL_add_1 (xm : Nat → Option kE) (N : Nat) (a0 : Nat) (a1 : Nat) (mem : kM) : dRes :=
  dGI xm mem a0 4 0 fun v2 =>
  dP xm mem a0 4 0 (.int (v2 + 1)) fun m7 =>
  dGR xm m7 a0 4 1 fun v13 =>
  dGI xm m7 a0 4 2 fun v17 =>
  dRc xm m7 a0 4 <|
  dCV (m_AL_add_2 xm N a0 a1 v13 v17 m7) fun m20 =>
  some (.inl (some (.int 1)), m20)
theorem m_AL_add_1_ok (xm : Nat → Option kE) (N : Nat) {a0 : Nat} {a1 : Nat} {mem : kM} {R : kO × kM} (h : m_AL_add_1 xm N a0 a1 mem = some R) : kCa xm kSm kDfl kFty kG 7 219 [.ref a0, .ref a1] mem (dEq R) := by
  refine wq_ca (show 2 ≤ 2 by decide) ?_
  change kGo xm kSm kDfl kFty kG 6 219 0 [(0, .ref a0), (1, .ref a1)] [] mem (dEq R)
  unfold m_AL_add_1 at h
  refine wp_run 2 (pc' := 2) (lv' := [(0, .ref a0), (1, .ref a1)]) (st' := [.ref a0, .ref a0]) (mem' := mem) rfl ?_
  refine wq_gI rfl h (fun v2 h => ?_)
  refine wp_run 2 (pc' := 7) (lv' := [(0, .ref a0), (1, .ref a1)]) (st' := [.int (v2 + 1), .ref a0]) (mem' := mem) rfl ?_
  refine wq_p rfl rfl h (fun m7 h => ?_)
  refine wp_run 3 (pc' := 13) (lv' := [(0, .ref a0), (1, .ref a1)]) (st' := [.ref a0, .ref a1, .ref a0]) (mem' := m7) rfl ?_
  refine wq_gR rfl h (fun v13 h => ?_)
  refine wp_run 1 (pc' := 17) (lv' := [(0, .ref a0), (1, .ref a1)]) (st' := [.ref a0, .ref v13, .ref a1, .ref a0]) (mem' := m7) rfl ?_
  refine wq_gI rfl h (fun v17 h => ?_)
  obtain ⟨fk20, hk20, h⟩ := dRc_some h
  refine wq_cV rfl (kCall_v hk20 (as := [.ref a1, .ref v13, .int v17]) (rest := []) ⟨by decide, rfl, (show 3 < 90 by decide), by decide⟩ (show 0 ≤ 8 by decide)) h (fun r hr => ca_up (by decide) (m_AL_add_2_ok xm N hr)) (fun m20 h => ?_)
  refine wp_run 1 (pc' := 24) (lv' := [(0, .ref a0), (1, .ref a1)]) (st' := [.int 1]) (mem' := m20) rfl ?_
  exact wq_ret rfl rfl h
/-- java/util/ArrayList.toArray()[Ljava/lang/Object; -/
def m_AL_toArray (xm : Nat → Option kE) (N : Nat) (a0 : Nat) (mem : kM) : dRes :=
  dGR xm mem a0 4 1 fun v1 =>
  dGI xm mem a0 4 2 fun v5 =>
  dCR (m_Ars_copyOf_2 xm N v1 v5 mem) fun v8 m8 =>
  some (.inl (some (.ref v8)), m8)
theorem m_AL_toArray_ok (xm : Nat → Option kE) (N : Nat) {a0 : Nat} {mem : kM} {R : kO × kM} (h : m_AL_toArray xm N a0 mem = some R) : kCa xm kSm kDfl kFty kG 4 215 [.ref a0] mem (dEq R) := by
  refine wq_ca (show 1 ≤ 1 by decide) ?_
  change kGo xm kSm kDfl kFty kG 3 215 0 [(0, .ref a0)] [] mem (dEq R)
  unfold m_AL_toArray at h
  refine wp_run 1 (pc' := 1) (lv' := [(0, .ref a0)]) (st' := [.ref a0]) (mem' := mem) rfl ?_
  refine wq_gR rfl h (fun v1 h => ?_)
  refine wp_run 1 (pc' := 5) (lv' := [(0, .ref a0)]) (st' := [.ref a0, .ref v1]) (mem' := mem) rfl ?_
  refine wq_gI rfl h (fun v5 h => ?_)
  refine wq_cR rfl (kCall_s (as := [.ref v1, .int v5]) (rest := []) ⟨by decide, rfl⟩ (show 0 ≤ 8 by decide) (by decide)) h (fun r hr => ca_up (by decide) (m_Ars_copyOf_2_ok xm N hr)) (fun v8 m8 h => ?_)
  exact wq_end rfl rfl h
/-- java/util/ArrayList.addAll(Ljava/util/Collection;)Z -/
def m_AL_addAll_56 (xm : Nat → Option kE) (N : Nat) (a0 : Nat) (a2 : Nat) (a3 : Int32) (a4 : Nat) (a5 : Int32) (mem : kM) : dRes :=
  dCpy xm mem a2 0 a4 a5 a3 fun m63 =>
  dP xm m63 a0 4 2 (.int (a5 + a3)) fun m71 =>
  some (.inl (some (.int 1)), m71)
theorem m_AL_addAll_56_ok (xm : Nat → Option kE) (N : Nat) : ∀ (a0 : Nat) (a2 : Nat) (a3 : Int32) (a4 : Nat) (a5 : Int32) (mem : kM) (R : kO × kM), m_AL_addAll_56 xm N a0 a2 a3 a4 a5 mem = some R → kGo xm kSm kDfl kFty kG 4 223 56 [(0, .ref a0), (2, .ref a2), (3, .int a3), (4, .ref a4), (5, .int a5)] [] mem (dEq R) := by
  intro a0 a2 a3 a4 a5 mem R h
  unfold m_AL_addAll_56 at h
  refine wp_run 5 (pc' := 63) (lv' := [(0, .ref a0), (2, .ref a2), (3, .int a3), (4, .ref a4), (5, .int a5)]) (st' := [.int a3, .int a5, .ref a4, .int 0, .ref a2]) (mem' := mem) rfl ?_
  refine wq_cpy rfl h (show 0 ≤ 90 by decide) (fun m63 h => ?_)
  refine wp_run 4 (pc' := 71) (lv' := [(0, .ref a0), (2, .ref a2), (3, .int a3), (4, .ref a4), (5, .int a5)]) (st' := [.int (a5 + a3), .ref a0]) (mem' := m63) rfl ?_
  refine wq_p rfl rfl h (fun m71 h => ?_)
  refine wp_run 1 (pc' := 75) (lv' := [(0, .ref a0), (2, .ref a2), (3, .int a3), (4, .ref a4), (5, .int a5)]) (st' := [.int 1]) (mem' := m71) rfl ?_
  exact wq_ret rfl rfl h
def m_AL_addAll (xm : Nat → Option kE) (N : Nat) (a0 : Nat) (a1 : Nat) (mem : kM) : dRes :=
  dRc xm mem a1 4 <|
  dCR (m_AL_toArray xm N a1 mem) fun v1 m1 =>
  dGI xm m1 a0 4 0 fun v9 =>
  dP xm m1 a0 4 0 (.int (v9 + 1)) fun m14 =>
  dLen xm m14 v1 fun v18 =>
  if v18 = 0 then (
    some (.inl (some (.int 0)), m14)
  ) else (
    dGR xm m14 a0 4 1 fun v28 =>
    dLen xm m14 v28 fun v34 =>
    dGI xm m14 a0 4 2 fun v36 =>
    if (v34 - v36) < v18 then (
      dRc xm m14 a0 4 <|
      dCR (m_AL_grow_1 xm N a0 (v36 + v18) m14) fun v51 m51 =>
      m_AL_addAll_56 xm N a0 v1 v18 v51 v36 m51
    ) else (
      m_AL_addAll_56 xm N a0 v1 v18 v28 v36 m14
    )
  )
theorem m_AL_addAll_ok (xm : Nat → Option kE) (N : Nat) {a0 : Nat} {a1 : Nat} {mem : kM} {R : kO × kM} (h : m_AL_addAll xm N a0 a1 mem = some R) : kCa xm kSm kDfl kFty kG 5 223 [.ref a0, .ref a1] mem (dEq R) := by
  refine wq_ca (show 2 ≤ 6 by decide) ?_
  change kGo xm kSm kDfl kFty kG 4 223 0 [(0, .ref a0), (1, .ref a1)] [] mem (dEq R)
  unfold m_AL_addAll at h
  refine wp_run 1 (pc' := 1) (lv' := [(0, .ref a0), (1, .ref a1)]) (st' := [.ref a1]) (mem' := mem) rfl ?_
  obtain ⟨fk1, hk1, h⟩ := dRc_some h
  refine wq_cR rfl (kCall_v hk1 (as := []) (rest := []) ⟨by decide, rfl, (show 0 < 90 by decide), by decide⟩ (show 0 ≤ 8 by decide)) h (fun r hr => ca_up (by decide) (m_AL_toArray_ok xm N hr)) (fun v1 m1 h => ?_)
  refine wp_run 3 (pc' := 9) (lv' := [(2, .ref v1), (0, .ref a0), (1, .ref a1)]) (st' := [.ref a0, .ref a0]) (mem' := m1) rfl ?_
  refine wq_gI rfl h (fun v9 h => ?_)
  refine wp_run 2 (pc' := 14) (lv' := [(2, .ref v1), (0, .ref a0), (1, .ref a1)]) (st' := [.int (v9 + 1), .ref a0]) (mem' := m1) rfl ?_
  refine wq_p rfl rfl h (fun m14 h => ?_)
  refine wp_run 1 (pc' := 18) (lv' := [(2, .ref v1), (0, .ref a0), (1, .ref a1)]) (st' := [.ref v1]) (mem' := m14) rfl ?_
  refine wq_len rfl h (fun v18 h => ?_)
  refine wp_run 2 (pc' := 21) (lv' := [(3, .int v18), (2, .ref v1), (0, .ref a0), (1, .ref a1)]) (st' := [.int v18]) (mem' := m14) rfl ?_
  refine wq_ne rfl h (fun h => ?_) (fun h => ?_)
  · refine wp_run 1 (pc' := 25) (lv' := [(3, .int v18), (2, .ref v1), (0, .ref a0), (1, .ref a1)]) (st' := [.int 0]) (mem' := m14) rfl ?_
    exact wq_ret rfl rfl h
  · refine wp_run 2 (pc' := 28) (lv' := [(3, .int v18), (2, .ref v1), (0, .ref a0), (1, .ref a1)]) (st' := [.ref a0, .int v18]) (mem' := m14) rfl ?_
    refine wq_gR rfl h (fun v28 h => ?_)
    refine wp_run 2 (pc' := 34) (lv' := [(4, .ref v28), (3, .int v18), (2, .ref v1), (0, .ref a0), (1, .ref a1)]) (st' := [.ref v28, .int v18]) (mem' := m14) rfl ?_
    refine wq_len rfl h (fun v34 h => ?_)
    refine wp_run 1 (pc' := 36) (lv' := [(4, .ref v28), (3, .int v18), (2, .ref v1), (0, .ref a0), (1, .ref a1)]) (st' := [.ref a0, .int v34, .int v18]) (mem' := m14) rfl ?_
    refine wq_gI rfl h (fun v36 h => ?_)
    refine wp_run 3 (pc' := 43) (lv' := [(5, .int v36), (4, .ref v28), (3, .int v18), (2, .ref v1), (0, .ref a0), (1, .ref a1)]) (st' := [.int (v34 - v36), .int v18]) (mem' := m14) rfl ?_
    refine wq_le2 rfl h (fun h => ?_) (fun h => ?_)
    · refine wp_run 4 (pc' := 51) (lv' := [(5, .int v36), (4, .ref v28), (3, .int v18), (2, .ref v1), (0, .ref a0), (1, .ref a1)]) (st' := [.int (v36 + v18), .ref a0]) (mem' := m14) rfl ?_
      obtain ⟨fk51, hk51, h⟩ := dRc_some h
      refine wq_cR rfl (kCall_v hk51 (as := [.int (v36 + v18)]) (rest := []) ⟨by decide, rfl, (show 1 < 90 by decide), by decide⟩ (show 0 ≤ 8 by decide)) h (fun r hr => ca_up (by decide) (m_AL_grow_1_ok xm N hr)) (fun v51 m51 h => ?_)
      refine wp_run 1 (pc' := 56) (lv' := [(4, .ref v51), (5, .int v36), (3, .int v18), (2, .ref v1), (0, .ref a0), (1, .ref a1)]) (st' := []) (mem' := m51) rfl ?_
      refine kGo_sub (lvS_of [4, 3, 2, 0, 1] rfl [4, 5, 3, 2, 0, 1] rfl (by decide)) ?_
      exact m_AL_addAll_56_ok xm N _ _ _ _ _ m51 R h
    · refine kGo_sub (lvS_of [4, 3, 2, 1, 0] rfl [5, 4, 3, 2, 0, 1] rfl (by decide)) ?_
      exact m_AL_addAll_56_ok xm N _ _ _ _ _ m14 R h
/-- KnitsteadModel$State.copy()LKnitsteadModel$State; -/
def m_MS_copy_40 (xm : Nat → Option kE) (N : Nat) : Nat → Nat → Nat → Nat → kM → dRes
  | 0, _, _, _, _ => none
  | n + 1, a0, a1, a2, mem =>
    dRc xm mem a2 3 <|
    dCI (m_Itr_hasNext xm N a2 mem) fun v41 m41 =>
    if v41 = 0 then (
      dGR xm m41 a0 14 3 fun v78 =>
      dGR xm m41 a1 14 3 fun v83 =>
      dCpy xm m41 v78 0 v83 0 4 fun m88 =>
      dGI xm m88 a0 14 4 fun v93 =>
      dP xm m88 a1 14 4 (.int v93) fun m96 =>
      dGI xm m96 a0 14 5 fun v101 =>
      dP xm m96 a1 14 5 (.int v101) fun m104 =>
      dGI xm m104 a0 14 6 fun v109 =>
      dP xm m104 a1 14 6 (.int v109) fun m112 =>
      dGI xm m112 a0 14 7 fun v117 =>
      dP xm m112 a1 14 7 (.int v117) fun m120 =>
      dGI xm m120 a0 14 8 fun v125 =>
      dP xm m120 a1 14 8 (.int v125) fun m128 =>
      dGI xm m128 a0 14 9 fun v133 =>
      dP xm m128 a1 14 9 (.int v133) fun m136 =>
      dGI xm m136 a0 14 10 fun v141 =>
      dP xm m136 a1 14 10 (.int v141) fun m144 =>
      some (.inl (some (.ref a1)), m144)
    ) else (
      dRc xm m41 a2 3 <|
      dCR (m_Itr_next xm N a2 m41) fun v50 m50 =>
      dCC xm m50 v50 1 0 <|
      dGR xm m50 a1 14 2 fun v60 =>
      dSp xm 9002 m50 v50 fun m64 p64 =>
      dCC xm m64 p64 1 0 <|
      dRc xm m64 v60 4 <|
      dCI (m_AL_add_1 xm N v60 p64 m64) fun v70 m70 =>
      m_MS_copy_40 xm N n a0 a1 a2 m70
    )
theorem m_MS_copy_40_ok (xm : Nat → Option kE) (N : Nat) : ∀ (n : Nat) (a0 : Nat) (a1 : Nat) (a2 : Nat) (mem : kM) (R : kO × kM), m_MS_copy_40 xm N n a0 a1 a2 mem = some R → kGo xm kSm kDfl kFty kG 7 105 40 [(0, .ref a0), (1, .ref a1), (2, .ref a2)] [] mem (dEq R) := by
  intro n
  induction n with
  | zero => intro a0 a1 a2 mem R h; cases h
  | succ n ih =>
    intro a0 a1 a2 mem R h
    rw [m_MS_copy_40] at h
    refine wp_run 1 (pc' := 41) (lv' := [(0, .ref a0), (1, .ref a1), (2, .ref a2)]) (st' := [.ref a2]) (mem' := mem) rfl ?_
    obtain ⟨fk41, hk41, h⟩ := dRc_some h
    refine wq_cI rfl (kCall_v hk41 (as := []) (rest := []) ⟨by decide, rfl, (show 0 < 90 by decide), by decide⟩ (show 0 ≤ 8 by decide)) h (fun r hr => ca_up (by decide) (m_Itr_hasNext_ok xm N hr)) (fun v41 m41 h => ?_)
    refine wq_eq rfl h (fun h => ?_) (fun h => ?_)
    · refine wp_run 1 (pc' := 78) (lv' := [(0, .ref a0), (1, .ref a1), (2, .ref a2)]) (st' := [.ref a0]) (mem' := m41) rfl ?_
      refine wq_gR rfl h (fun v78 h => ?_)
      refine wp_run 2 (pc' := 83) (lv' := [(0, .ref a0), (1, .ref a1), (2, .ref a2)]) (st' := [.ref a1, .int 0, .ref v78]) (mem' := m41) rfl ?_
      refine wq_gR rfl h (fun v83 h => ?_)
      refine wp_run 2 (pc' := 88) (lv' := [(0, .ref a0), (1, .ref a1), (2, .ref a2)]) (st' := [.int 4, .int 0, .ref v83, .int 0, .ref v78]) (mem' := m41) rfl ?_
      refine wq_cpy rfl h (show 0 ≤ 90 by decide) (fun m88 h => ?_)
      refine wp_run 2 (pc' := 93) (lv' := [(0, .ref a0), (1, .ref a1), (2, .ref a2)]) (st' := [.ref a0, .ref a1]) (mem' := m88) rfl ?_
      refine wq_gI rfl h (fun v93 h => ?_)
      refine wq_p rfl rfl h (fun m96 h => ?_)
      refine wp_run 2 (pc' := 101) (lv' := [(0, .ref a0), (1, .ref a1), (2, .ref a2)]) (st' := [.ref a0, .ref a1]) (mem' := m96) rfl ?_
      refine wq_gI rfl h (fun v101 h => ?_)
      refine wq_p rfl rfl h (fun m104 h => ?_)
      refine wp_run 2 (pc' := 109) (lv' := [(0, .ref a0), (1, .ref a1), (2, .ref a2)]) (st' := [.ref a0, .ref a1]) (mem' := m104) rfl ?_
      refine wq_gI rfl h (fun v109 h => ?_)
      refine wq_p rfl rfl h (fun m112 h => ?_)
      refine wp_run 2 (pc' := 117) (lv' := [(0, .ref a0), (1, .ref a1), (2, .ref a2)]) (st' := [.ref a0, .ref a1]) (mem' := m112) rfl ?_
      refine wq_gI rfl h (fun v117 h => ?_)
      refine wq_p rfl rfl h (fun m120 h => ?_)
      refine wp_run 2 (pc' := 125) (lv' := [(0, .ref a0), (1, .ref a1), (2, .ref a2)]) (st' := [.ref a0, .ref a1]) (mem' := m120) rfl ?_
      refine wq_gI rfl h (fun v125 h => ?_)
      refine wq_p rfl rfl h (fun m128 h => ?_)
      refine wp_run 2 (pc' := 133) (lv' := [(0, .ref a0), (1, .ref a1), (2, .ref a2)]) (st' := [.ref a0, .ref a1]) (mem' := m128) rfl ?_
      refine wq_gI rfl h (fun v133 h => ?_)
      refine wq_p rfl rfl h (fun m136 h => ?_)
      refine wp_run 2 (pc' := 141) (lv' := [(0, .ref a0), (1, .ref a1), (2, .ref a2)]) (st' := [.ref a0, .ref a1]) (mem' := m136) rfl ?_
      refine wq_gI rfl h (fun v141 h => ?_)
      refine wq_p rfl rfl h (fun m144 h => ?_)
      refine wp_run 1 (pc' := 148) (lv' := [(0, .ref a0), (1, .ref a1), (2, .ref a2)]) (st' := [.ref a1]) (mem' := m144) rfl ?_
      exact wq_end rfl rfl h
    · refine wp_run 1 (pc' := 50) (lv' := [(0, .ref a0), (1, .ref a1), (2, .ref a2)]) (st' := [.ref a2]) (mem' := m41) rfl ?_
      obtain ⟨fk50, hk50, h⟩ := dRc_some h
      refine wq_cR rfl (kCall_v hk50 (as := []) (rest := []) ⟨by decide, rfl, (show 0 < 90 by decide), by decide⟩ (show 0 ≤ 8 by decide)) h (fun r hr => ca_up (by decide) (m_Itr_next_ok xm N hr)) (fun v50 m50 h => ?_)
      refine wq_cc rfl h (fun h => ?_)
      refine wp_run 2 (pc' := 60) (lv' := [(3, .ref v50), (0, .ref a0), (1, .ref a1), (2, .ref a2)]) (st' := [.ref a1]) (mem' := m50) rfl ?_
      refine wq_gR rfl h (fun v60 h => ?_)
      refine wp_run 1 (pc' := 64) (lv' := [(3, .ref v50), (0, .ref a0), (1, .ref a1), (2, .ref a2)]) (st' := [.ref v50, .ref v60]) (mem' := m50) rfl ?_
      refine wq_sp rfl (by decide) h (show 1 ≤ 90 by decide) (fun m64 p64 h => ?_)
      refine wq_cc rfl h (fun h => ?_)
      obtain ⟨fk70, hk70, h⟩ := dRc_some h
      refine wq_cI rfl (kCall_v hk70 (as := [.ref p64]) (rest := []) ⟨by decide, rfl, (show 1 < 90 by decide), by decide⟩ (show 0 ≤ 8 by decide)) h (fun r hr => ca_up (by decide) (m_AL_add_1_ok xm N hr)) (fun v70 m70 h => ?_)
      refine wp_run 2 (pc' := 40) (lv' := [(3, .ref v50), (0, .ref a0), (1, .ref a1), (2, .ref a2)]) (st' := []) (mem' := m70) rfl ?_
      refine kGo_sub (lvS_of [1, 2, 3] rfl [3, 0, 1, 2] rfl (by decide)) ?_
      exact ih _ _ _ m70 R h
def m_MS_copy (xm : Nat → Option kE) (N : Nat) (a0 : Nat) (mem : kM) : dRes :=
  dN mem (.inl (14, [.null, .null, .null, .null, .int 0, .int 0, .int 0, .int 0, .int 0, .int 0, .int 0])) fun m0 p0 =>
  dCV (m_MS_new xm N p0 m0) fun m4 =>
  dGR xm m4 p0 14 0 fun v9 =>
  dGR xm m4 a0 14 0 fun v13 =>
  dRc xm m4 v9 4 <|
  dCI (m_AL_addAll xm N v9 v13 m4) fun v16 m16 =>
  dGR xm m16 p0 14 1 fun v21 =>
  dGR xm m16 a0 14 1 fun v25 =>
  dRc xm m16 v21 4 <|
  dCI (m_AL_addAll xm N v21 v25 m16) fun v28 m28 =>
  dGR xm m28 a0 14 2 fun v33 =>
  dRc xm m28 v33 4 <|
  dCR (m_AL_iterator xm N v33 m28) fun v36 m36 =>
  m_MS_copy_40 xm N N a0 p0 v36 m36
theorem m_MS_copy_ok (xm : Nat → Option kE) (N : Nat) {a0 : Nat} {mem : kM} {R : kO × kM} (h : m_MS_copy xm N a0 mem = some R) : kCa xm kSm kDfl kFty kG 8 105 [.ref a0] mem (dEq R) := by
  refine wq_ca (show 1 ≤ 4 by decide) ?_
  change kGo xm kSm kDfl kFty kG 7 105 0 [(0, .ref a0)] [] mem (dEq R)
  unfold m_MS_copy at h
  refine wq_n rfl (by decide) rfl h (fun m0 p0 h => ?_)
  refine wp_run 1 (pc' := 4) (lv' := [(0, .ref a0)]) (st' := [.ref p0, .ref p0]) (mem' := m0) rfl ?_
  refine wq_cV rfl (kCall_i (as := []) (rest := [.ref p0]) ⟨by decide, rfl, (show 0 < 90 by decide)⟩ (show 1 ≤ 8 by decide)) h (fun r hr => ca_up (by decide) (m_MS_new_ok xm N hr)) (fun m4 h => ?_)
  refine wp_run 2 (pc' := 9) (lv' := [(1, .ref p0), (0, .ref a0)]) (st' := [.ref p0]) (mem' := m4) rfl ?_
  refine wq_gR rfl h (fun v9 h => ?_)
  refine wp_run 1 (pc' := 13) (lv' := [(1, .ref p0), (0, .ref a0)]) (st' := [.ref a0, .ref v9]) (mem' := m4) rfl ?_
  refine wq_gR rfl h (fun v13 h => ?_)
  obtain ⟨fk16, hk16, h⟩ := dRc_some h
  refine wq_cI rfl (kCall_v hk16 (as := [.ref v13]) (rest := []) ⟨by decide, rfl, (show 1 < 90 by decide), by decide⟩ (show 0 ≤ 8 by decide)) h (fun r hr => ca_up (by decide) (m_AL_addAll_ok xm N hr)) (fun v16 m16 h => ?_)
  refine wp_run 2 (pc' := 21) (lv' := [(1, .ref p0), (0, .ref a0)]) (st' := [.ref p0]) (mem' := m16) rfl ?_
  refine wq_gR rfl h (fun v21 h => ?_)
  refine wp_run 1 (pc' := 25) (lv' := [(1, .ref p0), (0, .ref a0)]) (st' := [.ref a0, .ref v21]) (mem' := m16) rfl ?_
  refine wq_gR rfl h (fun v25 h => ?_)
  obtain ⟨fk28, hk28, h⟩ := dRc_some h
  refine wq_cI rfl (kCall_v hk28 (as := [.ref v25]) (rest := []) ⟨by decide, rfl, (show 1 < 90 by decide), by decide⟩ (show 0 ≤ 8 by decide)) h (fun r hr => ca_up (by decide) (m_AL_addAll_ok xm N hr)) (fun v28 m28 h => ?_)
  refine wp_run 2 (pc' := 33) (lv' := [(1, .ref p0), (0, .ref a0)]) (st' := [.ref a0]) (mem' := m28) rfl ?_
  refine wq_gR rfl h (fun v33 h => ?_)
  obtain ⟨fk36, hk36, h⟩ := dRc_some h
  refine wq_cR rfl (kCall_v hk36 (as := []) (rest := []) ⟨by decide, rfl, (show 0 < 90 by decide), by decide⟩ (show 0 ≤ 8 by decide)) h (fun r hr => ca_up (by decide) (m_AL_iterator_ok xm N hr)) (fun v36 m36 h => ?_)
  refine wp_run 1 (pc' := 40) (lv' := [(2, .ref v36), (1, .ref p0), (0, .ref a0)]) (st' := []) (mem' := m36) rfl ?_
  refine kGo_sub (lvS_of [2, 1, 0] rfl [2, 1, 0] rfl (by decide)) ?_
  exact m_MS_copy_40_ok xm N N _ _ _ m36 R h
/-- java/util/ArrayList.fastRemove([Ljava/lang/Object;I)V -/
def m_AL_fastRemove_34 (xm : Nat → Option kE) (N : Nat) (a0 : Nat) (a1 : Nat) (a3 : Int32) (mem : kM) : dRes :=
  dP xm mem a0 4 2 (.int a3) fun m38 =>
  dAS xm m38 a1 a3 none fun m42 =>
  some (.inl none, m42)
theorem m_AL_fastRemove_34_ok (xm : Nat → Option kE) (N : Nat) : ∀ (a0 : Nat) (a1 : Nat) (a3 : Int32) (mem : kM) (R : kO × kM), m_AL_fastRemove_34 xm N a0 a1 a3 mem = some R → kGo xm kSm kDfl kFty kG 0 222 34 [(0, .ref a0), (1, .ref a1), (3, .int a3)] [] mem (dEq R) := by
  intro a0 a1 a3 mem R h
  unfold m_AL_fastRemove_34 at h
  refine wp_run 4 (pc' := 38) (lv' := [(0, .ref a0), (1, .ref a1), (3, .int a3)]) (st' := [.int a3, .ref a0, .int a3, .ref a1]) (mem' := mem) rfl ?_
  refine wq_p rfl rfl h (fun m38 h => ?_)
  refine wp_run 1 (pc' := 42) (lv' := [(0, .ref a0), (1, .ref a1), (3, .int a3)]) (st' := [.null, .int a3, .ref a1]) (mem' := m38) rfl ?_
  refine wq_aSn rfl h (fun m42 h => ?_)
  exact wq_end rfl rfl h
def m_AL_fastRemove (xm : Nat → Option kE) (N : Nat) (a0 : Nat) (a1 : Nat) (a2 : Int32) (mem : kM) : dRes :=
  dGI xm mem a0 4 0 fun v2 =>
  dP xm mem a0 4 0 (.int (v2 + 1)) fun m7 =>
  dGI xm m7 a0 4 2 fun v11 =>
  if a2 < (v11 - 1) then (
    dCpy xm m7 a1 (a2 + 1) a1 a2 ((v11 - 1) - a2) fun m31 =>
    m_AL_fastRemove_34 xm N a0 a1 (v11 - 1) m31
  ) else (
    m_AL_fastRemove_34 xm N a0 a1 (v11 - 1) m7
  )
theorem m_AL_fastRemove_ok (xm : Nat → Option kE) (N : Nat) {a0 : Nat} {a1 : Nat} {a2 : Int32} {mem : kM} {R : kO × kM} (h : m_AL_fastRemove xm N a0 a1 a2 mem = some R) : kCa xm kSm kDfl kFty kG 1 222 [.ref a0, .ref a1, .int a2] mem (dEq R) := by
  refine wq_ca (show 3 ≤ 4 by decide) ?_
  change kGo xm kSm kDfl kFty kG 0 222 0 [(0, .ref a0), (1, .ref a1), (2, .int a2)] [] mem (dEq R)
  unfold m_AL_fastRemove at h
  refine wp_run 2 (pc' := 2) (lv' := [(0, .ref a0), (1, .ref a1), (2, .int a2)]) (st' := [.ref a0, .ref a0]) (mem' := mem) rfl ?_
  refine wq_gI rfl h (fun v2 h => ?_)
  refine wp_run 2 (pc' := 7) (lv' := [(0, .ref a0), (1, .ref a1), (2, .int a2)]) (st' := [.int (v2 + 1), .ref a0]) (mem' := mem) rfl ?_
  refine wq_p rfl rfl h (fun m7 h => ?_)
  refine wp_run 1 (pc' := 11) (lv' := [(0, .ref a0), (1, .ref a1), (2, .int a2)]) (st' := [.ref a0]) (mem' := m7) rfl ?_
  refine wq_gI rfl h (fun v11 h => ?_)
  refine wp_run 5 (pc' := 19) (lv' := [(3, .int (v11 - 1)), (0, .ref a0), (1, .ref a1), (2, .int a2)]) (st' := [.int a2, .int (v11 - 1)]) (mem' := m7) rfl ?_
  refine wq_le2 rfl h (fun h => ?_) (fun h => ?_)
  · refine wp_run 9 (pc' := 31) (lv' := [(3, .int (v11 - 1)), (0, .ref a0), (1, .ref a1), (2, .int a2)]) (st' := [.int ((v11 - 1) - a2), .int a2, .ref a1, .int (a2 + 1), .ref a1]) (mem' := m7) rfl ?_
    refine wq_cpy rfl h (show 0 ≤ 90 by decide) (fun m31 h => ?_)
    refine kGo_sub (lvS_of [1, 2, 0] rfl [3, 0, 1, 2] rfl (by decide)) ?_
    exact m_AL_fastRemove_34_ok xm N _ _ _ m31 R h
  · refine kGo_sub (lvS_of [1, 2, 0] rfl [3, 0, 1, 2] rfl (by decide)) ?_
    exact m_AL_fastRemove_34_ok xm N _ _ _ m7 R h
/-- jdk/internal/util/Preconditions.checkIndex(IILjava/util/function/BiFunction;)I -/
def m_Pre_checkIndex_9 (xm : Nat → Option kE) (N : Nat) (a0 : Int32) (a1 : Int32) (mem : kM) : dRes :=
  none
theorem m_Pre_checkIndex_9_ok (xm : Nat → Option kE) (N : Nat) : ∀ (a0 : Int32) (a1 : Int32) (mem : kM) (R : kO × kM), m_Pre_checkIndex_9 xm N a0 a1 mem = some R → kGo xm kSm kDfl kFty kG 0 237 9 [(0, .int a0), (1, .int a1), (2, .null)] [] mem (dEq R) := by
  intro a0 a1 mem R h
  unfold m_Pre_checkIndex_9 at h
  refine wp_run 3 (pc' := 12) (lv' := [(0, .int a0), (1, .int a1), (2, .null)]) (st' := [.int a1, .int a0, .null]) (mem' := mem) rfl ?_
  cases h
def m_Pre_checkIndex (xm : Nat → Option kE) (N : Nat) (a0 : Int32) (a1 : Int32) (mem : kM) : dRes :=
  if a0 < 0 then (
    m_Pre_checkIndex_9 xm N a0 a1 mem
  ) else (
    if a0 < a1 then (
      some (.inl (some (.int a0)), mem)
    ) else (
      m_Pre_checkIndex_9 xm N a0 a1 mem
    )
  )
theorem m_Pre_checkIndex_ok (xm : Nat → Option kE) (N : Nat) {a0 : Int32} {a1 : Int32} {mem : kM} {R : kO × kM} (h : m_Pre_checkIndex xm N a0 a1 mem = some R) : kCa xm kSm kDfl kFty kG 1 237 [.int a0, .int a1, .null] mem (dEq R) := by
  refine wq_ca (show 3 ≤ 3 by decide) ?_
  change kGo xm kSm kDfl kFty kG 0 237 0 [(0, .int a0), (1, .int a1), (2, .null)] [] mem (dEq R)
  unfold m_Pre_checkIndex at h
  refine wp_run 1 (pc' := 1) (lv' := [(0, .int a0), (1, .int a1), (2, .null)]) (st' := [.int a0]) (mem' := mem) rfl ?_
  refine wq_lt rfl h (fun h => ?_) (fun h => ?_)
  · exact m_Pre_checkIndex_9_ok xm N _ _ mem R h
  · refine wp_run 2 (pc' := 6) (lv' := [(0, .int a0), (1, .int a1), (2, .null)]) (st' := [.int a1, .int a0]) (mem' := mem) rfl ?_
    refine wq_lt2 rfl h (fun h => ?_) (fun h => ?_)
    · refine wp_run 1 (pc' := 17) (lv' := [(0, .int a0), (1, .int a1), (2, .null)]) (st' := [.int a0]) (mem' := mem) rfl ?_
      exact wq_ret rfl rfl h
    · exact m_Pre_checkIndex_9_ok xm N _ _ mem R h
/-- java/util/Objects.checkIndex(II)I -/
def m_Obs_checkIndex (xm : Nat → Option kE) (N : Nat) (a0 : Int32) (a1 : Int32) (mem : kM) : dRes :=
  dCI (m_Pre_checkIndex xm N a0 a1 mem) fun v3 m3 =>
  some (.inl (some (.int v3)), m3)
theorem m_Obs_checkIndex_ok (xm : Nat → Option kE) (N : Nat) {a0 : Int32} {a1 : Int32} {mem : kM} {R : kO × kM} (h : m_Obs_checkIndex xm N a0 a1 mem = some R) : kCa xm kSm kDfl kFty kG 2 234 [.int a0, .int a1] mem (dEq R) := by
  refine wq_ca (show 2 ≤ 2 by decide) ?_
  change kGo xm kSm kDfl kFty kG 1 234 0 [(0, .int a0), (1, .int a1)] [] mem (dEq R)
  unfold m_Obs_checkIndex at h
  refine wp_run 3 (pc' := 3) (lv' := [(0, .int a0), (1, .int a1)]) (st' := [.null, .int a1, .int a0]) (mem' := mem) rfl ?_
  refine wq_cI rfl (kCall_s (as := [.int a0, .int a1, .null]) (rest := []) ⟨by decide, rfl⟩ (show 0 ≤ 8 by decide) (by decide)) h (fun r hr => ca_up (by decide) (m_Pre_checkIndex_ok xm N hr)) (fun v3 m3 h => ?_)
  exact wq_ret rfl rfl h
/-- java/util/ArrayList.remove(I)Ljava/lang/Object; -/
def m_AL_remove (xm : Nat → Option kE) (N : Nat) (a0 : Nat) (a1 : Int32) (mem : kM) : dRes :=
  dGI xm mem a0 4 2 fun v2 =>
  dCI (m_Obs_checkIndex xm N a1 v2 mem) fun v5 m5 =>
  dGR xm m5 a0 4 1 fun v10 =>
  dAL xm m5 v10 a1 fun v16 =>
  dRc xm m5 a0 4 <|
  dCV (m_AL_fastRemove xm N a0 v10 a1 m5) fun m21 =>
  some (.inl (some (.ref v16)), m21)
theorem m_AL_remove_ok (xm : Nat → Option kE) (N : Nat) {a0 : Nat} {a1 : Int32} {mem : kM} {R : kO × kM} (h : m_AL_remove xm N a0 a1 mem = some R) : kCa xm kSm kDfl kFty kG 3 221 [.ref a0, .int a1] mem (dEq R) := by
  refine wq_ca (show 2 ≤ 4 by decide) ?_
  change kGo xm kSm kDfl kFty kG 2 221 0 [(0, .ref a0), (1, .int a1)] [] mem (dEq R)
  unfold m_AL_remove at h
  refine wp_run 2 (pc' := 2) (lv' := [(0, .ref a0), (1, .int a1)]) (st' := [.ref a0, .int a1]) (mem' := mem) rfl ?_
  refine wq_gI rfl h (fun v2 h => ?_)
  refine wq_cI rfl (kCall_s (as := [.int a1, .int v2]) (rest := []) ⟨by decide, rfl⟩ (show 0 ≤ 8 by decide) (by decide)) h (fun r hr => ca_up (by decide) (m_Obs_checkIndex_ok xm N hr)) (fun v5 m5 h => ?_)
  refine wp_run 2 (pc' := 10) (lv' := [(0, .ref a0), (1, .int a1)]) (st' := [.ref a0]) (mem' := m5) rfl ?_
  refine wq_gR rfl h (fun v10 h => ?_)
  refine wp_run 3 (pc' := 16) (lv' := [(2, .ref v10), (0, .ref a0), (1, .int a1)]) (st' := [.int a1, .ref v10]) (mem' := m5) rfl ?_
  refine wq_aL rfl h (fun v16 h => ?_)
  refine wp_run 4 (pc' := 21) (lv' := [(3, .ref v16), (2, .ref v10), (0, .ref a0), (1, .int a1)]) (st' := [.int a1, .ref v10, .ref a0]) (mem' := m5) rfl ?_
  obtain ⟨fk21, hk21, h⟩ := dRc_some h
  refine wq_cV rfl (kCall_v hk21 (as := [.ref v10, .int a1]) (rest := []) ⟨by decide, rfl, (show 2 < 90 by decide), by decide⟩ (show 0 ≤ 8 by decide)) h (fun r hr => ca_up (by decide) (m_AL_fastRemove_ok xm N hr)) (fun m21 h => ?_)
  refine wp_run 1 (pc' := 25) (lv' := [(3, .ref v16), (2, .ref v10), (0, .ref a0), (1, .int a1)]) (st' := [.ref v16]) (mem' := m21) rfl ?_
  exact wq_end rfl rfl h
/-- KnitsteadModel.keep()V -/
def m_M_keep_21 (xm : Nat → Option kE) (N : Nat) (a0 : Nat) (mem : kM) : dRes :=
  dGR xm mem a0 15 4 fun v22 =>
  dGR xm mem a0 15 5 fun v26 =>
  dRc xm mem v26 14 <|
  dCR (m_MS_copy xm N v26 mem) fun v29 m29 =>
  dRc xm m29 v22 4 <|
  dCI (m_AL_add_1 xm N v22 v29 m29) fun v32 m32 =>
  some (.inl none, m32)
theorem m_M_keep_21_ok (xm : Nat → Option kE) (N : Nat) : ∀ (a0 : Nat) (mem : kM) (R : kO × kM), m_M_keep_21 xm N a0 mem = some R → kGo xm kSm kDfl kFty kG 8 112 21 [(0, .ref a0)] [] mem (dEq R) := by
  intro a0 mem R h
  unfold m_M_keep_21 at h
  refine wp_run 1 (pc' := 22) (lv' := [(0, .ref a0)]) (st' := [.ref a0]) (mem' := mem) rfl ?_
  refine wq_gR rfl h (fun v22 h => ?_)
  refine wp_run 1 (pc' := 26) (lv' := [(0, .ref a0)]) (st' := [.ref a0, .ref v22]) (mem' := mem) rfl ?_
  refine wq_gR rfl h (fun v26 h => ?_)
  obtain ⟨fk29, hk29, h⟩ := dRc_some h
  refine wq_cR rfl (kCall_v hk29 (as := []) (rest := [.ref v22]) ⟨by decide, rfl, (show 0 < 90 by decide), by decide⟩ (show 1 ≤ 8 by decide)) h (fun r hr => ca_up (by decide) (m_MS_copy_ok xm N hr)) (fun v29 m29 h => ?_)
  obtain ⟨fk32, hk32, h⟩ := dRc_some h
  refine wq_cI rfl (kCall_v hk32 (as := [.ref v29]) (rest := []) ⟨by decide, rfl, (show 1 < 90 by decide), by decide⟩ (show 0 ≤ 8 by decide)) h (fun r hr => ca_up (by decide) (m_AL_add_1_ok xm N hr)) (fun v32 m32 h => ?_)
  refine wp_run 1 (pc' := 36) (lv' := [(0, .ref a0)]) (st' := []) (mem' := m32) rfl ?_
  exact wq_end rfl rfl h
def m_M_keep (xm : Nat → Option kE) (N : Nat) (a0 : Nat) (mem : kM) : dRes :=
  dGR xm mem a0 15 4 fun v1 =>
  dRc xm mem v1 4 <|
  dCI (m_AL_size xm N v1 mem) fun v4 m4 =>
  if v4 = 12 then (
    dGR xm m4 a0 15 4 fun v13 =>
    dRc xm m4 v13 4 <|
    dCR (m_AL_remove xm N v13 0 m4) fun v17 m17 =>
    m_M_keep_21 xm N a0 m17
  ) else (
    m_M_keep_21 xm N a0 m4
  )
theorem m_M_keep_ok (xm : Nat → Option kE) (N : Nat) {a0 : Nat} {mem : kM} {R : kO × kM} (h : m_M_keep xm N a0 mem = some R) : kCa xm kSm kDfl kFty kG 9 112 [.ref a0] mem (dEq R) := by
  refine wq_ca (show 1 ≤ 1 by decide) ?_
  change kGo xm kSm kDfl kFty kG 8 112 0 [(0, .ref a0)] [] mem (dEq R)
  unfold m_M_keep at h
  refine wp_run 1 (pc' := 1) (lv' := [(0, .ref a0)]) (st' := [.ref a0]) (mem' := mem) rfl ?_
  refine wq_gR rfl h (fun v1 h => ?_)
  obtain ⟨fk4, hk4, h⟩ := dRc_some h
  refine wq_cI rfl (kCall_v hk4 (as := []) (rest := []) ⟨by decide, rfl, (show 0 < 90 by decide), by decide⟩ (show 0 ≤ 8 by decide)) h (fun r hr => ca_up (by decide) (m_AL_size_ok xm N hr)) (fun v4 m4 h => ?_)
  refine wp_run 1 (pc' := 9) (lv' := [(0, .ref a0)]) (st' := [.int 12, .int v4]) (mem' := m4) rfl ?_
  refine wq_ne2 rfl h (fun h => ?_) (fun h => ?_)
  · refine wp_run 1 (pc' := 13) (lv' := [(0, .ref a0)]) (st' := [.ref a0]) (mem' := m4) rfl ?_
    refine wq_gR rfl h (fun v13 h => ?_)
    refine wp_run 1 (pc' := 17) (lv' := [(0, .ref a0)]) (st' := [.int 0, .ref v13]) (mem' := m4) rfl ?_
    obtain ⟨fk17, hk17, h⟩ := dRc_some h
    refine wq_cR rfl (kCall_v hk17 (as := [.int 0]) (rest := []) ⟨by decide, rfl, (show 1 < 90 by decide), by decide⟩ (show 0 ≤ 8 by decide)) h (fun r hr => ca_up (by decide) (m_AL_remove_ok xm N hr)) (fun v17 m17 h => ?_)
    refine wp_run 1 (pc' := 21) (lv' := [(0, .ref a0)]) (st' := []) (mem' := m17) rfl ?_
    exact m_M_keep_21_ok xm N _ m17 R h
  · exact m_M_keep_21_ok xm N _ m4 R h
/-- KnitsteadModel$Loop.init(IIIIII)V -/
def m_ML_new (xm : Nat → Option kE) (N : Nat) (a0 : Nat) (a1 : Int32) (a2 : Int32) (a3 : Int32) (a4 : Int32) (a5 : Int32) (a6 : Int32) (mem : kM) : dRes :=
  dP xm mem a0 13 0 (.int a1) fun m6 =>
  dP xm m6 a0 13 1 (.int a2) fun m11 =>
  dP xm m11 a0 13 2 (.int a3) fun m16 =>
  dP xm m16 a0 13 3 (.int a4) fun m22 =>
  dP xm m22 a0 13 4 (.int a5) fun m28 =>
  dP xm m28 a0 13 5 (.int a6) fun m34 =>
  some (.inl none, m34)
theorem m_ML_new_ok (xm : Nat → Option kE) (N : Nat) {a0 : Nat} {a1 : Int32} {a2 : Int32} {a3 : Int32} {a4 : Int32} {a5 : Int32} {a6 : Int32} {mem : kM} {R : kO × kM} (h : m_ML_new xm N a0 a1 a2 a3 a4 a5 a6 mem = some R) : kCa xm kSm kDfl kFty kG 1 102 [.ref a0, .int a1, .int a2, .int a3, .int a4, .int a5, .int a6] mem (dEq R) := by
  refine wq_ca (show 7 ≤ 7 by decide) ?_
  change kGo xm kSm kDfl kFty kG 0 102 0 [(0, .ref a0), (1, .int a1), (2, .int a2), (3, .int a3), (4, .int a4), (5, .int a5), (6, .int a6)] [] mem (dEq R)
  unfold m_ML_new at h
  refine wp_run 4 (pc' := 6) (lv' := [(0, .ref a0), (1, .int a1), (2, .int a2), (3, .int a3), (4, .int a4), (5, .int a5), (6, .int a6)]) (st' := [.int a1, .ref a0]) (mem' := mem) rfl ?_
  refine wq_p rfl rfl h (fun m6 h => ?_)
  refine wp_run 2 (pc' := 11) (lv' := [(0, .ref a0), (1, .int a1), (2, .int a2), (3, .int a3), (4, .int a4), (5, .int a5), (6, .int a6)]) (st' := [.int a2, .ref a0]) (mem' := m6) rfl ?_
  refine wq_p rfl rfl h (fun m11 h => ?_)
  refine wp_run 2 (pc' := 16) (lv' := [(0, .ref a0), (1, .int a1), (2, .int a2), (3, .int a3), (4, .int a4), (5, .int a5), (6, .int a6)]) (st' := [.int a3, .ref a0]) (mem' := m11) rfl ?_
  refine wq_p rfl rfl h (fun m16 h => ?_)
  refine wp_run 2 (pc' := 22) (lv' := [(0, .ref a0), (1, .int a1), (2, .int a2), (3, .int a3), (4, .int a4), (5, .int a5), (6, .int a6)]) (st' := [.int a4, .ref a0]) (mem' := m16) rfl ?_
  refine wq_p rfl rfl h (fun m22 h => ?_)
  refine wp_run 2 (pc' := 28) (lv' := [(0, .ref a0), (1, .int a1), (2, .int a2), (3, .int a3), (4, .int a4), (5, .int a5), (6, .int a6)]) (st' := [.int a5, .ref a0]) (mem' := m22) rfl ?_
  refine wq_p rfl rfl h (fun m28 h => ?_)
  refine wp_run 2 (pc' := 34) (lv' := [(0, .ref a0), (1, .int a1), (2, .int a2), (3, .int a3), (4, .int a4), (5, .int a5), (6, .int a6)]) (st' := [.int a6, .ref a0]) (mem' := m28) rfl ?_
  refine wq_p rfl rfl h (fun m34 h => ?_)
  exact wq_end rfl rfl h
/-- java/lang/Number.init()V -/
def m_Num_new (xm : Nat → Option kE) (N : Nat) (a0 : Nat) (mem : kM) : dRes :=
  some (.inl none, mem)
theorem m_Num_new_ok (xm : Nat → Option kE) (N : Nat) {a0 : Nat} {mem : kM} {R : kO × kM} (h : m_Num_new xm N a0 mem = some R) : kCa xm kSm kDfl kFty kG 1 187 [.ref a0] mem (dEq R) := by
  refine wq_ca (show 1 ≤ 1 by decide) ?_
  change kGo xm kSm kDfl kFty kG 0 187 0 [(0, .ref a0)] [] mem (dEq R)
  unfold m_Num_new at h
  refine wp_run 2 (pc' := 4) (lv' := [(0, .ref a0)]) (st' := []) (mem' := mem) rfl ?_
  exact wq_end rfl rfl h
/-- java/lang/Integer.init(I)V -/
def m_Int_new (xm : Nat → Option kE) (N : Nat) (a0 : Nat) (a1 : Int32) (mem : kM) : dRes :=
  dCV (m_Num_new xm N a0 mem) fun m1 =>
  dP xm m1 a0 2 0 (.int a1) fun m6 =>
  some (.inl none, m6)
theorem m_Int_new_ok (xm : Nat → Option kE) (N : Nat) {a0 : Nat} {a1 : Int32} {mem : kM} {R : kO × kM} (h : m_Int_new xm N a0 a1 mem = some R) : kCa xm kSm kDfl kFty kG 2 183 [.ref a0, .int a1] mem (dEq R) := by
  refine wq_ca (show 2 ≤ 2 by decide) ?_
  change kGo xm kSm kDfl kFty kG 1 183 0 [(0, .ref a0), (1, .int a1)] [] mem (dEq R)
  unfold m_Int_new at h
  refine wp_run 1 (pc' := 1) (lv' := [(0, .ref a0), (1, .int a1)]) (st' := [.ref a0]) (mem' := mem) rfl ?_
  refine wq_cV rfl (kCall_i (as := []) (rest := []) ⟨by decide, rfl, (show 0 < 90 by decide)⟩ (show 0 ≤ 8 by decide)) h (fun r hr => ca_up (by decide) (m_Num_new_ok xm N hr)) (fun m1 h => ?_)
  refine wp_run 2 (pc' := 6) (lv' := [(0, .ref a0), (1, .int a1)]) (st' := [.int a1, .ref a0]) (mem' := m1) rfl ?_
  refine wq_p rfl rfl h (fun m6 h => ?_)
  exact wq_end rfl rfl h
/-- java/lang/Integer.valueOf(I)Ljava/lang/Integer; -/
def m_Int_valueOf_23 (xm : Nat → Option kE) (N : Nat) (a0 : Int32) (mem : kM) : dRes :=
  dN mem (.inl (2, [.int 0])) fun m23 p23 =>
  dCV (m_Int_new xm N p23 a0 m23) fun m28 =>
  some (.inl (some (.ref p23)), m28)
theorem m_Int_valueOf_23_ok (xm : Nat → Option kE) (N : Nat) : ∀ (a0 : Int32) (mem : kM) (R : kO × kM), m_Int_valueOf_23 xm N a0 mem = some R → kGo xm kSm kDfl kFty kG 2 182 23 [(0, .int a0)] [] mem (dEq R) := by
  intro a0 mem R h
  unfold m_Int_valueOf_23 at h
  refine wq_n rfl (by decide) rfl h (fun m23 p23 h => ?_)
  refine wp_run 2 (pc' := 28) (lv' := [(0, .int a0)]) (st' := [.int a0, .ref p23, .ref p23]) (mem' := m23) rfl ?_
  refine wq_cV rfl (kCall_i (as := [.int a0]) (rest := [.ref p23]) ⟨by decide, rfl, (show 1 < 90 by decide)⟩ (show 1 ≤ 8 by decide)) h (fun r hr => ca_up (by decide) (m_Int_new_ok xm N hr)) (fun m28 h => ?_)
  exact wq_end rfl rfl h
def m_Int_valueOf (xm : Nat → Option kE) (N : Nat) (a0 : Int32) (mem : kM) : dRes :=
  if a0 < (-128) then (
    m_Int_valueOf_23 xm N a0 mem
  ) else (
    if 127 < a0 then (
      m_Int_valueOf_23 xm N a0 mem
    ) else (
      dAL xm mem 9 (a0 + 128) fun v21 =>
      some (.inl (some (.ref v21)), mem)
    )
  )
theorem m_Int_valueOf_ok (xm : Nat → Option kE) (N : Nat) {a0 : Int32} {mem : kM} {R : kO × kM} (h : m_Int_valueOf xm N a0 mem = some R) : kCa xm kSm kDfl kFty kG 3 182 [.int a0] mem (dEq R) := by
  refine wq_ca (show 1 ≤ 1 by decide) ?_
  change kGo xm kSm kDfl kFty kG 2 182 0 [(0, .int a0)] [] mem (dEq R)
  unfold m_Int_valueOf at h
  refine wp_run 2 (pc' := 3) (lv' := [(0, .int a0)]) (st' := [.int (-128), .int a0]) (mem' := mem) rfl ?_
  refine wq_lt2 rfl h (fun h => ?_) (fun h => ?_)
  · exact m_Int_valueOf_23_ok xm N _ mem R h
  · refine wp_run 2 (pc' := 10) (lv' := [(0, .int a0)]) (st' := [.int 127, .int a0]) (mem' := mem) rfl ?_
    refine wq_gt2 rfl h (fun h => ?_) (fun h => ?_)
    · exact m_Int_valueOf_23_ok xm N _ mem R h
    · refine wp_run 4 (pc' := 21) (lv' := [(0, .int a0)]) (st' := [.int (a0 + 128), .ref 9]) (mem' := mem) rfl ?_
      refine wq_aL rfl h (fun v21 h => ?_)
      exact wq_end rfl rfl h
/-- KnitsteadModel.make(IIII)I -/
def m_M_make_146 (xm : Nat → Option kE) (N : Nat) (K99 : Nat → Nat → kM → dRes) (a0 : Nat) (a5 : Nat) (mem : kM) : dRes :=
  K99 a0 a5 mem
theorem m_M_make_146_ok (xm : Nat → Option kE) (N : Nat) (K99 : Nat → Nat → kM → dRes) (hK99 : ∀ (a0 : Nat) (a5 : Nat) (mem : kM) (R : kO × kM), K99 a0 a5 mem = some R → kGo xm kSm kDfl kFty kG 7 113 99 [(0, .ref a0), (5, .ref a5)] [] mem (dEq R)) : ∀ (a0 : Nat) (a5 : Nat) (mem : kM) (R : kO × kM), m_M_make_146 xm N K99 a0 a5 mem = some R → kGo xm kSm kDfl kFty kG 7 113 146 [(0, .ref a0), (5, .ref a5)] [] mem (dEq R) := by
  intro a0 a5 mem R h
  unfold m_M_make_146 at h
  refine wp_run 1 (pc' := 99) (lv' := [(0, .ref a0), (5, .ref a5)]) (st' := []) (mem' := mem) rfl ?_
  exact hK99 _ _ mem R h
def m_M_make_99 (xm : Nat → Option kE) (N : Nat) : Nat → Nat → Nat → kM → dRes
  | 0, _, _, _ => none
  | n + 1, a0, a5, mem =>
    dRc xm mem a5 3 <|
    dCI (m_Itr_hasNext xm N a5 mem) fun v101 m101 =>
    if v101 = 0 then (
      dGR xm m101 a0 15 5 fun v150 =>
      dGI xm m101 v150 14 6 fun v153 =>
      some (.inl (some (.int (v153 - 1))), m101)
    ) else (
      dRc xm m101 a5 3 <|
      dCR (m_Itr_next xm N a5 m101) fun v111 m111 =>
      dCC xm m111 v111 1 0 <|
      dIL xm 0 m111 v111 3 fun v124 =>
      if v124 = 1 then (
        dIL xm 0 m111 v111 1 fun v135 =>
        dIL xm 0 m111 v111 2 fun v139 =>
        dCI (m_Math_min xm N v135 (v139 + 1) m111) fun v142 m142 =>
        dIS xm m142 v111 2 v142 fun m145 =>
        m_M_make_146 xm N (fun a0 a5 mem => m_M_make_99 xm N n a0 a5 mem) a0 a5 m145
      ) else (
        m_M_make_146 xm N (fun a0 a5 mem => m_M_make_99 xm N n a0 a5 mem) a0 a5 m111
      )
    )
theorem m_M_make_99_ok (xm : Nat → Option kE) (N : Nat) : ∀ (n : Nat) (a0 : Nat) (a5 : Nat) (mem : kM) (R : kO × kM), m_M_make_99 xm N n a0 a5 mem = some R → kGo xm kSm kDfl kFty kG 7 113 99 [(0, .ref a0), (5, .ref a5)] [] mem (dEq R) := by
  intro n
  induction n with
  | zero => intro a0 a5 mem R h; cases h
  | succ n ih =>
    intro a0 a5 mem R h
    rw [m_M_make_99] at h
    refine wp_run 1 (pc' := 101) (lv' := [(0, .ref a0), (5, .ref a5)]) (st' := [.ref a5]) (mem' := mem) rfl ?_
    obtain ⟨fk101, hk101, h⟩ := dRc_some h
    refine wq_cI rfl (kCall_v hk101 (as := []) (rest := []) ⟨by decide, rfl, (show 0 < 90 by decide), by decide⟩ (show 0 ≤ 8 by decide)) h (fun r hr => ca_up (by decide) (m_Itr_hasNext_ok xm N hr)) (fun v101 m101 h => ?_)
    refine wq_eq rfl h (fun h => ?_) (fun h => ?_)
    · refine wp_run 1 (pc' := 150) (lv' := [(0, .ref a0), (5, .ref a5)]) (st' := [.ref a0]) (mem' := m101) rfl ?_
      refine wq_gR rfl h (fun v150 h => ?_)
      refine wq_gI rfl h (fun v153 h => ?_)
      refine wp_run 2 (pc' := 158) (lv' := [(0, .ref a0), (5, .ref a5)]) (st' := [.int (v153 - 1)]) (mem' := m101) rfl ?_
      exact wq_ret rfl rfl h
    · refine wp_run 1 (pc' := 111) (lv' := [(0, .ref a0), (5, .ref a5)]) (st' := [.ref a5]) (mem' := m101) rfl ?_
      obtain ⟨fk111, hk111, h⟩ := dRc_some h
      refine wq_cR rfl (kCall_v hk111 (as := []) (rest := []) ⟨by decide, rfl, (show 0 < 90 by decide), by decide⟩ (show 0 ≤ 8 by decide)) h (fun r hr => ca_up (by decide) (m_Itr_next_ok xm N hr)) (fun v111 m111 h => ?_)
      refine wq_cc rfl h (fun h => ?_)
      refine wp_run 3 (pc' := 124) (lv' := [(6, .ref v111), (0, .ref a0), (5, .ref a5)]) (st' := [.int 3, .ref v111]) (mem' := m111) rfl ?_
      refine wq_iL rfl h (fun v124 h => ?_)
      refine wp_run 1 (pc' := 126) (lv' := [(6, .ref v111), (0, .ref a0), (5, .ref a5)]) (st' := [.int 1, .int v124]) (mem' := m111) rfl ?_
      refine wq_ne2 rfl h (fun h => ?_) (fun h => ?_)
      · refine wp_run 4 (pc' := 135) (lv' := [(6, .ref v111), (0, .ref a0), (5, .ref a5)]) (st' := [.int 1, .ref v111, .int 2, .ref v111]) (mem' := m111) rfl ?_
        refine wq_iL rfl h (fun v135 h => ?_)
        refine wp_run 2 (pc' := 139) (lv' := [(6, .ref v111), (0, .ref a0), (5, .ref a5)]) (st' := [.int 2, .ref v111, .int v135, .int 2, .ref v111]) (mem' := m111) rfl ?_
        refine wq_iL rfl h (fun v139 h => ?_)
        refine wp_run 2 (pc' := 142) (lv' := [(6, .ref v111), (0, .ref a0), (5, .ref a5)]) (st' := [.int (v139 + 1), .int v135, .int 2, .ref v111]) (mem' := m111) rfl ?_
        refine wq_cI rfl (kCall_s (as := [.int v135, .int (v139 + 1)]) (rest := [.int 2, .ref v111]) ⟨by decide, rfl⟩ (show 2 ≤ 8 by decide) (by decide)) h (fun r hr => ca_up (by decide) (m_Math_min_ok xm N hr)) (fun v142 m142 h => ?_)
        refine wq_iS rfl h (fun m145 h => ?_)
        refine kGo_sub (lvS_of [1, 2] rfl [6, 0, 5] rfl (by decide)) ?_
        exact m_M_make_146_ok xm N _ ih _ _ m145 R h
      · refine kGo_sub (lvS_of [1, 2] rfl [6, 0, 5] rfl (by decide)) ?_
        exact m_M_make_146_ok xm N _ ih _ _ m111 R h
def m_M_make (xm : Nat → Option kE) (N : Nat) (a0 : Nat) (a1 : Int32) (a2 : Int32) (a3 : Int32) (a4 : Int32) (mem : kM) : dRes :=
  dGR xm mem a0 15 5 fun v1 =>
  dGR xm mem v1 14 3 fun v4 =>
  dGI xm mem a0 15 7 fun v8 =>
  dIL xm 0 mem v4 v8 fun v12 =>
  dIS xm mem v4 v8 (v12 - a4) fun m16 =>
  dGR xm m16 a0 15 1 fun v18 =>
  dN m16 (.inl (13, [.int 0, .int 0, .int 0, .int 0, .int 0, .int 0])) fun m21 p21 =>
  dGI xm m21 a0 15 7 fun v27 =>
  dGR xm m21 a0 15 5 fun v31 =>
  dGI xm m21 v31 14 5 fun v34 =>
  dGR xm m21 a0 15 5 fun v39 =>
  dGI xm m21 v39 14 4 fun v42 =>
  dCV (m_ML_new xm N p21 a1 v27 v34 a2 v42 a3 m21) fun m46 =>
  dRc xm m46 v18 4 <|
  dCI (m_AL_add_1 xm N v18 p21 m46) fun v49 m49 =>
  dGR xm m49 a0 15 5 fun v54 =>
  dGR xm m49 v54 14 1 fun v57 =>
  dGR xm m49 a0 15 5 fun v61 =>
  dGI xm m49 v61 14 6 fun v64 =>
  dCR (m_Int_valueOf xm N v64 m49) fun v67 m67 =>
  dRc xm m67 v57 4 <|
  dCI (m_AL_add_1 xm N v57 v67 m67) fun v70 m70 =>
  dGR xm m70 a0 15 5 fun v75 =>
  dGI xm m70 v75 14 6 fun v79 =>
  dP xm m70 v75 14 6 (.int (v79 + 1)) fun m84 =>
  dGR xm m84 a0 15 5 fun v88 =>
  dGR xm m84 v88 14 2 fun v91 =>
  dRc xm m84 v91 4 <|
  dCR (m_AL_iterator xm N v91 m84) fun v94 m94 =>
  m_M_make_99 xm N N a0 v94 m94
theorem m_M_make_ok (xm : Nat → Option kE) (N : Nat) {a0 : Nat} {a1 : Int32} {a2 : Int32} {a3 : Int32} {a4 : Int32} {mem : kM} {R : kO × kM} (h : m_M_make xm N a0 a1 a2 a3 a4 mem = some R) : kCa xm kSm kDfl kFty kG 8 113 [.ref a0, .int a1, .int a2, .int a3, .int a4] mem (dEq R) := by
  refine wq_ca (show 5 ≤ 7 by decide) ?_
  change kGo xm kSm kDfl kFty kG 7 113 0 [(0, .ref a0), (1, .int a1), (2, .int a2), (3, .int a3), (4, .int a4)] [] mem (dEq R)
  unfold m_M_make at h
  refine wp_run 1 (pc' := 1) (lv' := [(0, .ref a0), (1, .int a1), (2, .int a2), (3, .int a3), (4, .int a4)]) (st' := [.ref a0]) (mem' := mem) rfl ?_
  refine wq_gR rfl h (fun v1 h => ?_)
  refine wq_gR rfl h (fun v4 h => ?_)
  refine wp_run 1 (pc' := 8) (lv' := [(0, .ref a0), (1, .int a1), (2, .int a2), (3, .int a3), (4, .int a4)]) (st' := [.ref a0, .ref v4]) (mem' := mem) rfl ?_
  refine wq_gI rfl h (fun v8 h => ?_)
  refine wp_run 1 (pc' := 12) (lv' := [(0, .ref a0), (1, .int a1), (2, .int a2), (3, .int a3), (4, .int a4)]) (st' := [.int v8, .ref v4, .int v8, .ref v4]) (mem' := mem) rfl ?_
  refine wq_iL rfl h (fun v12 h => ?_)
  refine wp_run 2 (pc' := 16) (lv' := [(0, .ref a0), (1, .int a1), (2, .int a2), (3, .int a3), (4, .int a4)]) (st' := [.int (v12 - a4), .int v8, .ref v4]) (mem' := mem) rfl ?_
  refine wq_iS rfl h (fun m16 h => ?_)
  refine wp_run 1 (pc' := 18) (lv' := [(0, .ref a0), (1, .int a1), (2, .int a2), (3, .int a3), (4, .int a4)]) (st' := [.ref a0]) (mem' := m16) rfl ?_
  refine wq_gR rfl h (fun v18 h => ?_)
  refine wq_n rfl (by decide) rfl h (fun m21 p21 h => ?_)
  refine wp_run 3 (pc' := 27) (lv' := [(0, .ref a0), (1, .int a1), (2, .int a2), (3, .int a3), (4, .int a4)]) (st' := [.ref a0, .int a1, .ref p21, .ref p21, .ref v18]) (mem' := m21) rfl ?_
  refine wq_gI rfl h (fun v27 h => ?_)
  refine wp_run 1 (pc' := 31) (lv' := [(0, .ref a0), (1, .int a1), (2, .int a2), (3, .int a3), (4, .int a4)]) (st' := [.ref a0, .int v27, .int a1, .ref p21, .ref p21, .ref v18]) (mem' := m21) rfl ?_
  refine wq_gR rfl h (fun v31 h => ?_)
  refine wq_gI rfl h (fun v34 h => ?_)
  refine wp_run 2 (pc' := 39) (lv' := [(0, .ref a0), (1, .int a1), (2, .int a2), (3, .int a3), (4, .int a4)]) (st' := [.ref a0, .int a2, .int v34, .int v27, .int a1, .ref p21, .ref p21, .ref v18]) (mem' := m21) rfl ?_
  refine wq_gR rfl h (fun v39 h => ?_)
  refine wq_gI rfl h (fun v42 h => ?_)
  refine wp_run 1 (pc' := 46) (lv' := [(0, .ref a0), (1, .int a1), (2, .int a2), (3, .int a3), (4, .int a4)]) (st' := [.int a3, .int v42, .int a2, .int v34, .int v27, .int a1, .ref p21, .ref p21, .ref v18]) (mem' := m21) rfl ?_
  refine wq_cV rfl (kCall_i (as := [.int a1, .int v27, .int v34, .int a2, .int v42, .int a3]) (rest := [.ref p21, .ref v18]) ⟨by decide, rfl, (show 6 < 90 by decide)⟩ (show 2 ≤ 8 by decide)) h (fun r hr => ca_up (by decide) (m_ML_new_ok xm N hr)) (fun m46 h => ?_)
  obtain ⟨fk49, hk49, h⟩ := dRc_some h
  refine wq_cI rfl (kCall_v hk49 (as := [.ref p21]) (rest := []) ⟨by decide, rfl, (show 1 < 90 by decide), by decide⟩ (show 0 ≤ 8 by decide)) h (fun r hr => ca_up (by decide) (m_AL_add_1_ok xm N hr)) (fun v49 m49 h => ?_)
  refine wp_run 2 (pc' := 54) (lv' := [(0, .ref a0), (1, .int a1), (2, .int a2), (3, .int a3), (4, .int a4)]) (st' := [.ref a0]) (mem' := m49) rfl ?_
  refine wq_gR rfl h (fun v54 h => ?_)
  refine wq_gR rfl h (fun v57 h => ?_)
  refine wp_run 1 (pc' := 61) (lv' := [(0, .ref a0), (1, .int a1), (2, .int a2), (3, .int a3), (4, .int a4)]) (st' := [.ref a0, .ref v57]) (mem' := m49) rfl ?_
  refine wq_gR rfl h (fun v61 h => ?_)
  refine wq_gI rfl h (fun v64 h => ?_)
  refine wq_cR rfl (kCall_s (as := [.int v64]) (rest := [.ref v57]) ⟨by decide, rfl⟩ (show 1 ≤ 8 by decide) (by decide)) h (fun r hr => ca_up (by decide) (m_Int_valueOf_ok xm N hr)) (fun v67 m67 h => ?_)
  obtain ⟨fk70, hk70, h⟩ := dRc_some h
  refine wq_cI rfl (kCall_v hk70 (as := [.ref v67]) (rest := []) ⟨by decide, rfl, (show 1 < 90 by decide), by decide⟩ (show 0 ≤ 8 by decide)) h (fun r hr => ca_up (by decide) (m_AL_add_1_ok xm N hr)) (fun v70 m70 h => ?_)
  refine wp_run 2 (pc' := 75) (lv' := [(0, .ref a0), (1, .int a1), (2, .int a2), (3, .int a3), (4, .int a4)]) (st' := [.ref a0]) (mem' := m70) rfl ?_
  refine wq_gR rfl h (fun v75 h => ?_)
  refine wp_run 1 (pc' := 79) (lv' := [(0, .ref a0), (1, .int a1), (2, .int a2), (3, .int a3), (4, .int a4)]) (st' := [.ref v75, .ref v75]) (mem' := m70) rfl ?_
  refine wq_gI rfl h (fun v79 h => ?_)
  refine wp_run 2 (pc' := 84) (lv' := [(0, .ref a0), (1, .int a1), (2, .int a2), (3, .int a3), (4, .int a4)]) (st' := [.int (v79 + 1), .ref v75]) (mem' := m70) rfl ?_
  refine wq_p rfl rfl h (fun m84 h => ?_)
  refine wp_run 1 (pc' := 88) (lv' := [(0, .ref a0), (1, .int a1), (2, .int a2), (3, .int a3), (4, .int a4)]) (st' := [.ref a0]) (mem' := m84) rfl ?_
  refine wq_gR rfl h (fun v88 h => ?_)
  refine wq_gR rfl h (fun v91 h => ?_)
  obtain ⟨fk94, hk94, h⟩ := dRc_some h
  refine wq_cR rfl (kCall_v hk94 (as := []) (rest := []) ⟨by decide, rfl, (show 0 < 90 by decide), by decide⟩ (show 0 ≤ 8 by decide)) h (fun r hr => ca_up (by decide) (m_AL_iterator_ok xm N hr)) (fun v94 m94 h => ?_)
  refine wp_run 1 (pc' := 99) (lv' := [(5, .ref v94), (0, .ref a0), (1, .int a1), (2, .int a2), (3, .int a3), (4, .int a4)]) (st' := []) (mem' := m94) rfl ?_
  refine kGo_sub (lvS_of [1, 0] rfl [5, 0, 1, 2, 3, 4] rfl (by decide)) ?_
  exact m_M_make_99_ok xm N N _ _ m94 R h
/-- KnitsteadModel.cast(I)I -/
def m_M_cast_45 (xm : Nat → Option kE) (N : Nat) (a0 : Nat) (mem : kM) : dRes :=
  dRc xm mem a0 15 <|
  dCI (m_M_refuse xm N a0 2 mem) fun v47 m47 =>
  some (.inl (some (.int v47)), m47)
theorem m_M_cast_45_ok (xm : Nat → Option kE) (N : Nat) : ∀ (a0 : Nat) (mem : kM) (R : kO × kM), m_M_cast_45 xm N a0 mem = some R → kGo xm kSm kDfl kFty kG 9 116 45 [(0, .ref a0)] [] mem (dEq R) := by
  intro a0 mem R h
  unfold m_M_cast_45 at h
  refine wp_run 2 (pc' := 47) (lv' := [(0, .ref a0)]) (st' := [.int 2, .ref a0]) (mem' := mem) rfl ?_
  obtain ⟨fk47, hk47, h⟩ := dRc_some h
  refine wq_cI rfl (kCall_v hk47 (as := [.int 2]) (rest := []) ⟨by decide, rfl, (show 1 < 90 by decide), by decide⟩ (show 0 ≤ 8 by decide)) h (fun r hr => ca_up (by decide) (m_M_refuse_ok xm N hr)) (fun v47 m47 h => ?_)
  exact wq_ret rfl rfl h
def m_M_cast_57 (xm : Nat → Option kE) (N : Nat) : Nat → Nat → Int32 → Int32 → kM → dRes
  | 0, _, _, _, _ => none
  | n + 1, a0, a1, a2, mem =>
    if a2 < a1 then (
      dRc xm mem a0 15 <|
      dCI (m_M_make xm N a0 0 1 0 2 mem) fun v67 m67 =>
      m_M_cast_57 xm N n a0 a1 (a2 + 1) m67
    ) else (
      dGR xm mem a0 15 5 fun v78 =>
      dRc xm mem v78 14 <|
      dCI (m_MS_all xm N v78 mem) fun v81 m81 =>
      some (.inl (some (.int v81)), m81)
    )
theorem m_M_cast_57_ok (xm : Nat → Option kE) (N : Nat) : ∀ (n : Nat) (a0 : Nat) (a1 : Int32) (a2 : Int32) (mem : kM) (R : kO × kM), m_M_cast_57 xm N n a0 a1 a2 mem = some R → kGo xm kSm kDfl kFty kG 9 116 57 [(0, .ref a0), (1, .int a1), (2, .int a2)] [] mem (dEq R) := by
  intro n
  induction n with
  | zero => intro a0 a1 a2 mem R h; cases h
  | succ n ih =>
    intro a0 a1 a2 mem R h
    rw [m_M_cast_57] at h
    refine wp_run 2 (pc' := 59) (lv' := [(0, .ref a0), (1, .int a1), (2, .int a2)]) (st' := [.int a1, .int a2]) (mem' := mem) rfl ?_
    refine wq_ge2 rfl h (fun h => ?_) (fun h => ?_)
    · refine wp_run 5 (pc' := 67) (lv' := [(0, .ref a0), (1, .int a1), (2, .int a2)]) (st' := [.int 2, .int 0, .int 1, .int 0, .ref a0]) (mem' := mem) rfl ?_
      obtain ⟨fk67, hk67, h⟩ := dRc_some h
      refine wq_cI rfl (kCall_v hk67 (as := [.int 0, .int 1, .int 0, .int 2]) (rest := []) ⟨by decide, rfl, (show 4 < 90 by decide), by decide⟩ (show 0 ≤ 8 by decide)) h (fun r hr => ca_up (by decide) (m_M_make_ok xm N hr)) (fun v67 m67 h => ?_)
      refine wp_run 3 (pc' := 57) (lv' := [(2, .int (a2 + 1)), (0, .ref a0), (1, .int a1)]) (st' := []) (mem' := m67) rfl ?_
      refine kGo_sub (lvS_of [1, 2, 0] rfl [2, 0, 1] rfl (by decide)) ?_
      exact ih _ _ _ m67 R h
    · refine wp_run 1 (pc' := 78) (lv' := [(0, .ref a0), (1, .int a1), (2, .int a2)]) (st' := [.ref a0]) (mem' := mem) rfl ?_
      refine wq_gR rfl h (fun v78 h => ?_)
      obtain ⟨fk81, hk81, h⟩ := dRc_some h
      refine wq_cI rfl (kCall_v hk81 (as := []) (rest := []) ⟨by decide, rfl, (show 0 < 90 by decide), by decide⟩ (show 0 ≤ 8 by decide)) h (fun r hr => ca_up (by decide) (m_MS_all_ok xm N hr)) (fun v81 m81 h => ?_)
      exact wq_ret rfl rfl h
def m_M_cast (xm : Nat → Option kE) (N : Nat) (a0 : Nat) (a1 : Int32) (mem : kM) : dRes :=
  dP xm mem a0 15 0 (.int 0) fun m2 =>
  dCI (m_M_is xm N a1 1 24 m2) fun v9 m9 =>
  if v9 = 0 then (
    dRc xm m9 a0 15 <|
    dCI (m_M_refuse xm N a0 1 m9) fun v17 m17 =>
    some (.inl (some (.int v17)), m17)
  ) else (
    dRc xm m9 a0 15 <|
    dCI (m_M_yarn xm N a0 m9) fun v22 m22 =>
    if v22 < (2 * a1) then (
      m_M_cast_45 xm N a0 m22
    ) else (
      dGR xm m22 a0 15 5 fun v32 =>
      dRc xm m22 v32 14 <|
      dCI (m_MS_all xm N v32 m22) fun v35 m35 =>
      if 24 < (v35 + a1) then (
        m_M_cast_45 xm N a0 m35
      ) else (
        dRc xm m35 a0 15 <|
        dCV (m_M_keep xm N a0 m35) fun m52 =>
        m_M_cast_57 xm N N a0 a1 0 m52
      )
    )
  )
theorem m_M_cast_ok (xm : Nat → Option kE) (N : Nat) {a0 : Nat} {a1 : Int32} {mem : kM} {R : kO × kM} (h : m_M_cast xm N a0 a1 mem = some R) : kCa xm kSm kDfl kFty kG 10 116 [.ref a0, .int a1] mem (dEq R) := by
  refine wq_ca (show 2 ≤ 3 by decide) ?_
  change kGo xm kSm kDfl kFty kG 9 116 0 [(0, .ref a0), (1, .int a1)] [] mem (dEq R)
  unfold m_M_cast at h
  refine wp_run 2 (pc' := 2) (lv' := [(0, .ref a0), (1, .int a1)]) (st' := [.int 0, .ref a0]) (mem' := mem) rfl ?_
  refine wq_p rfl rfl h (fun m2 h => ?_)
  refine wp_run 3 (pc' := 9) (lv' := [(0, .ref a0), (1, .int a1)]) (st' := [.int 24, .int 1, .int a1]) (mem' := m2) rfl ?_
  refine wq_cI rfl (kCall_s (as := [.int a1, .int 1, .int 24]) (rest := []) ⟨by decide, rfl⟩ (show 0 ≤ 8 by decide) (by decide)) h (fun r hr => ca_up (by decide) (m_M_is_ok xm N hr)) (fun v9 m9 h => ?_)
  refine wq_ne rfl h (fun h => ?_) (fun h => ?_)
  · refine wp_run 2 (pc' := 17) (lv' := [(0, .ref a0), (1, .int a1)]) (st' := [.int 1, .ref a0]) (mem' := m9) rfl ?_
    obtain ⟨fk17, hk17, h⟩ := dRc_some h
    refine wq_cI rfl (kCall_v hk17 (as := [.int 1]) (rest := []) ⟨by decide, rfl, (show 1 < 90 by decide), by decide⟩ (show 0 ≤ 8 by decide)) h (fun r hr => ca_up (by decide) (m_M_refuse_ok xm N hr)) (fun v17 m17 h => ?_)
    exact wq_ret rfl rfl h
  · refine wp_run 1 (pc' := 22) (lv' := [(0, .ref a0), (1, .int a1)]) (st' := [.ref a0]) (mem' := m9) rfl ?_
    obtain ⟨fk22, hk22, h⟩ := dRc_some h
    refine wq_cI rfl (kCall_v hk22 (as := []) (rest := []) ⟨by decide, rfl, (show 0 < 90 by decide), by decide⟩ (show 0 ≤ 8 by decide)) h (fun r hr => ca_up (by decide) (m_M_yarn_ok xm N hr)) (fun v22 m22 h => ?_)
    refine wp_run 3 (pc' := 28) (lv' := [(0, .ref a0), (1, .int a1)]) (st' := [.int (2 * a1), .int v22]) (mem' := m22) rfl ?_
    refine wq_lt2 rfl h (fun h => ?_) (fun h => ?_)
    · refine kGo_sub (lvS_of [0] rfl [0, 1] rfl (by decide)) ?_
      exact m_M_cast_45_ok xm N _ m22 R h
    · refine wp_run 1 (pc' := 32) (lv' := [(0, .ref a0), (1, .int a1)]) (st' := [.ref a0]) (mem' := m22) rfl ?_
      refine wq_gR rfl h (fun v32 h => ?_)
      obtain ⟨fk35, hk35, h⟩ := dRc_some h
      refine wq_cI rfl (kCall_v hk35 (as := []) (rest := []) ⟨by decide, rfl, (show 0 < 90 by decide), by decide⟩ (show 0 ≤ 8 by decide)) h (fun r hr => ca_up (by decide) (m_MS_all_ok xm N hr)) (fun v35 m35 h => ?_)
      refine wp_run 3 (pc' := 42) (lv' := [(0, .ref a0), (1, .int a1)]) (st' := [.int 24, .int (v35 + a1)]) (mem' := m35) rfl ?_
      refine wq_le2 rfl h (fun h => ?_) (fun h => ?_)
      · refine kGo_sub (lvS_of [0] rfl [0, 1] rfl (by decide)) ?_
        exact m_M_cast_45_ok xm N _ m35 R h
      · refine wp_run 1 (pc' := 52) (lv' := [(0, .ref a0), (1, .int a1)]) (st' := [.ref a0]) (mem' := m35) rfl ?_
        obtain ⟨fk52, hk52, h⟩ := dRc_some h
        refine wq_cV rfl (kCall_v hk52 (as := []) (rest := []) ⟨by decide, rfl, (show 0 < 90 by decide), by decide⟩ (show 0 ≤ 8 by decide)) h (fun r hr => ca_up (by decide) (m_M_keep_ok xm N hr)) (fun m52 h => ?_)
        refine wp_run 2 (pc' := 57) (lv' := [(2, .int 0), (0, .ref a0), (1, .int a1)]) (st' := []) (mem' := m52) rfl ?_
        refine kGo_sub (lvS_of [1, 2, 0] rfl [2, 0, 1] rfl (by decide)) ?_
        exact m_M_cast_57_ok xm N N _ _ _ m52 R h
/-- java/lang/Integer.intValue()I -/
def m_Int_intValue (xm : Nat → Option kE) (N : Nat) (a0 : Nat) (mem : kM) : dRes :=
  dGI xm mem a0 2 0 fun v1 =>
  some (.inl (some (.int v1)), mem)
theorem m_Int_intValue_ok (xm : Nat → Option kE) (N : Nat) {a0 : Nat} {mem : kM} {R : kO × kM} (h : m_Int_intValue xm N a0 mem = some R) : kCa xm kSm kDfl kFty kG 1 184 [.ref a0] mem (dEq R) := by
  refine wq_ca (show 1 ≤ 1 by decide) ?_
  change kGo xm kSm kDfl kFty kG 0 184 0 [(0, .ref a0)] [] mem (dEq R)
  unfold m_Int_intValue at h
  refine wp_run 1 (pc' := 1) (lv' := [(0, .ref a0)]) (st' := [.ref a0]) (mem' := mem) rfl ?_
  refine wq_gI rfl h (fun v1 h => ?_)
  exact wq_ret rfl rfl h
/-- KnitsteadModel.pull(Ljava/util/ArrayList;)I -/
def m_M_pull (xm : Nat → Option kE) (N : Nat) (a0 : Nat) (mem : kM) : dRes :=
  dRc xm mem a0 4 <|
  dCI (m_AL_size xm N a0 mem) fun v2 m2 =>
  dRc xm m2 a0 4 <|
  dCR (m_AL_remove xm N a0 (v2 - 1) m2) fun v7 m7 =>
  dCC xm m7 v7 0 2 <|
  dRc xm m7 v7 2 <|
  dCI (m_Int_intValue xm N v7 m7) fun v13 m13 =>
  some (.inl (some (.int v13)), m13)
theorem m_M_pull_ok (xm : Nat → Option kE) (N : Nat) {a0 : Nat} {mem : kM} {R : kO × kM} (h : m_M_pull xm N a0 mem = some R) : kCa xm kSm kDfl kFty kG 4 110 [.ref a0] mem (dEq R) := by
  refine wq_ca (show 1 ≤ 1 by decide) ?_
  change kGo xm kSm kDfl kFty kG 3 110 0 [(0, .ref a0)] [] mem (dEq R)
  unfold m_M_pull at h
  refine wp_run 2 (pc' := 2) (lv' := [(0, .ref a0)]) (st' := [.ref a0, .ref a0]) (mem' := mem) rfl ?_
  obtain ⟨fk2, hk2, h⟩ := dRc_some h
  refine wq_cI rfl (kCall_v hk2 (as := []) (rest := [.ref a0]) ⟨by decide, rfl, (show 0 < 90 by decide), by decide⟩ (show 1 ≤ 8 by decide)) h (fun r hr => ca_up (by decide) (m_AL_size_ok xm N hr)) (fun v2 m2 h => ?_)
  refine wp_run 2 (pc' := 7) (lv' := [(0, .ref a0)]) (st' := [.int (v2 - 1), .ref a0]) (mem' := m2) rfl ?_
  obtain ⟨fk7, hk7, h⟩ := dRc_some h
  refine wq_cR rfl (kCall_v hk7 (as := [.int (v2 - 1)]) (rest := []) ⟨by decide, rfl, (show 1 < 90 by decide), by decide⟩ (show 0 ≤ 8 by decide)) h (fun r hr => ca_up (by decide) (m_AL_remove_ok xm N hr)) (fun v7 m7 h => ?_)
  refine wq_cc rfl h (fun h => ?_)
  obtain ⟨fk13, hk13, h⟩ := dRc_some h
  refine wq_cI rfl (kCall_v hk13 (as := []) (rest := []) ⟨by decide, rfl, (show 0 < 90 by decide), by decide⟩ (show 0 ≤ 8 by decide)) h (fun r hr => ca_up (by decide) (m_Int_intValue_ok xm N hr)) (fun v13 m13 h => ?_)
  exact wq_ret rfl rfl h
/-- java/util/ArrayList.elementData(I)Ljava/lang/Object; -/
def m_AL_elementData (xm : Nat → Option kE) (N : Nat) (a0 : Nat) (a1 : Int32) (mem : kM) : dRes :=
  dGR xm mem a0 4 1 fun v1 =>
  dAL xm mem v1 a1 fun v5 =>
  some (.inl (some (.ref v5)), mem)
theorem m_AL_elementData_ok (xm : Nat → Option kE) (N : Nat) {a0 : Nat} {a1 : Int32} {mem : kM} {R : kO × kM} (h : m_AL_elementData xm N a0 a1 mem = some R) : kCa xm kSm kDfl kFty kG 1 216 [.ref a0, .int a1] mem (dEq R) := by
  refine wq_ca (show 2 ≤ 2 by decide) ?_
  change kGo xm kSm kDfl kFty kG 0 216 0 [(0, .ref a0), (1, .int a1)] [] mem (dEq R)
  unfold m_AL_elementData at h
  refine wp_run 1 (pc' := 1) (lv' := [(0, .ref a0), (1, .int a1)]) (st' := [.ref a0]) (mem' := mem) rfl ?_
  refine wq_gR rfl h (fun v1 h => ?_)
  refine wp_run 1 (pc' := 5) (lv' := [(0, .ref a0), (1, .int a1)]) (st' := [.int a1, .ref v1]) (mem' := mem) rfl ?_
  refine wq_aL rfl h (fun v5 h => ?_)
  exact wq_end rfl rfl h
/-- java/util/ArrayList.get(I)Ljava/lang/Object; -/
def m_AL_get (xm : Nat → Option kE) (N : Nat) (a0 : Nat) (a1 : Int32) (mem : kM) : dRes :=
  dGI xm mem a0 4 2 fun v2 =>
  dCI (m_Obs_checkIndex xm N a1 v2 mem) fun v5 m5 =>
  dRc xm m5 a0 4 <|
  dCR (m_AL_elementData xm N a0 a1 m5) fun v11 m11 =>
  some (.inl (some (.ref v11)), m11)
theorem m_AL_get_ok (xm : Nat → Option kE) (N : Nat) {a0 : Nat} {a1 : Int32} {mem : kM} {R : kO × kM} (h : m_AL_get xm N a0 a1 mem = some R) : kCa xm kSm kDfl kFty kG 3 217 [.ref a0, .int a1] mem (dEq R) := by
  refine wq_ca (show 2 ≤ 2 by decide) ?_
  change kGo xm kSm kDfl kFty kG 2 217 0 [(0, .ref a0), (1, .int a1)] [] mem (dEq R)
  unfold m_AL_get at h
  refine wp_run 2 (pc' := 2) (lv' := [(0, .ref a0), (1, .int a1)]) (st' := [.ref a0, .int a1]) (mem' := mem) rfl ?_
  refine wq_gI rfl h (fun v2 h => ?_)
  refine wq_cI rfl (kCall_s (as := [.int a1, .int v2]) (rest := []) ⟨by decide, rfl⟩ (show 0 ≤ 8 by decide) (by decide)) h (fun r hr => ca_up (by decide) (m_Obs_checkIndex_ok xm N hr)) (fun v5 m5 h => ?_)
  refine wp_run 3 (pc' := 11) (lv' := [(0, .ref a0), (1, .int a1)]) (st' := [.int a1, .ref a0]) (mem' := m5) rfl ?_
  obtain ⟨fk11, hk11, h⟩ := dRc_some h
  refine wq_cR rfl (kCall_v hk11 (as := [.int a1]) (rest := []) ⟨by decide, rfl, (show 1 < 90 by decide), by decide⟩ (show 0 ≤ 8 by decide)) h (fun r hr => ca_up (by decide) (m_AL_elementData_ok xm N hr)) (fun v11 m11 h => ?_)
  exact wq_end rfl rfl h
/-- KnitsteadModel.workNow(Z)I -/
def m_M_workNow_10 (xm : Nat → Option kE) (N : Nat) (a0 : Nat) (s0 : Nat) (s1 : Int32) (mem : kM) : dRes :=
  dGR xm mem a0 15 1 fun v11 =>
  dGR xm mem a0 15 5 fun v15 =>
  dGR xm mem v15 14 0 fun v18 =>
  dCI (m_M_pull xm N v18 mem) fun v21 m21 =>
  dRc xm m21 v11 4 <|
  dCR (m_AL_get xm N v11 v21 m21) fun v24 m24 =>
  dCC xm m24 v24 0 13 <|
  dGI xm m24 v24 13 3 fun v30 =>
  dRc xm m24 s0 15 <|
  dCI (m_M_make xm N s0 s1 (v30 + 1) 1 4 m24) fun v37 m37 =>
  some (.inl (some (.int v37)), m37)
theorem m_M_workNow_10_ok (xm : Nat → Option kE) (N : Nat) : ∀ (a0 : Nat) (s0 : Nat) (s1 : Int32) (mem : kM) (R : kO × kM), m_M_workNow_10 xm N a0 s0 s1 mem = some R → kGo xm kSm kDfl kFty kG 8 117 10 [(0, .ref a0)] [.int s1, .ref s0] mem (dEq R) := by
  intro a0 s0 s1 mem R h
  unfold m_M_workNow_10 at h
  refine wp_run 1 (pc' := 11) (lv' := [(0, .ref a0)]) (st' := [.ref a0, .int s1, .ref s0]) (mem' := mem) rfl ?_
  refine wq_gR rfl h (fun v11 h => ?_)
  refine wp_run 1 (pc' := 15) (lv' := [(0, .ref a0)]) (st' := [.ref a0, .ref v11, .int s1, .ref s0]) (mem' := mem) rfl ?_
  refine wq_gR rfl h (fun v15 h => ?_)
  refine wq_gR rfl h (fun v18 h => ?_)
  refine wq_cI rfl (kCall_s (as := [.ref v18]) (rest := [.ref v11, .int s1, .ref s0]) ⟨by decide, rfl⟩ (show 3 ≤ 8 by decide) (by decide)) h (fun r hr => ca_up (by decide) (m_M_pull_ok xm N hr)) (fun v21 m21 h => ?_)
  obtain ⟨fk24, hk24, h⟩ := dRc_some h
  refine wq_cR rfl (kCall_v hk24 (as := [.int v21]) (rest := [.int s1, .ref s0]) ⟨by decide, rfl, (show 1 < 90 by decide), by decide⟩ (show 2 ≤ 8 by decide)) h (fun r hr => ca_up (by decide) (m_AL_get_ok xm N hr)) (fun v24 m24 h => ?_)
  refine wq_cc rfl h (fun h => ?_)
  refine wq_gI rfl h (fun v30 h => ?_)
  refine wp_run 4 (pc' := 37) (lv' := [(0, .ref a0)]) (st' := [.int 4, .int 1, .int (v30 + 1), .int s1, .ref s0]) (mem' := m24) rfl ?_
  obtain ⟨fk37, hk37, h⟩ := dRc_some h
  refine wq_cI rfl (kCall_v hk37 (as := [.int s1, .int (v30 + 1), .int 1, .int 4]) (rest := []) ⟨by decide, rfl, (show 4 < 90 by decide), by decide⟩ (show 0 ≤ 8 by decide)) h (fun r hr => ca_up (by decide) (m_M_make_ok xm N hr)) (fun v37 m37 h => ?_)
  exact wq_ret rfl rfl h
def m_M_workNow (xm : Nat → Option kE) (N : Nat) (a0 : Nat) (a1 : Int32) (mem : kM) : dRes :=
  if a1 = 0 then (
    m_M_workNow_10 xm N a0 a0 1 mem
  ) else (
    m_M_workNow_10 xm N a0 a0 2 mem
  )
theorem m_M_workNow_ok (xm : Nat → Option kE) (N : Nat) {a0 : Nat} {a1 : Int32} {mem : kM} {R : kO × kM} (h : m_M_workNow xm N a0 a1 mem = some R) : kCa xm kSm kDfl kFty kG 9 117 [.ref a0, .int a1] mem (dEq R) := by
  refine wq_ca (show 2 ≤ 2 by decide) ?_
  change kGo xm kSm kDfl kFty kG 8 117 0 [(0, .ref a0), (1, .int a1)] [] mem (dEq R)
  unfold m_M_workNow at h
  refine wp_run 2 (pc' := 2) (lv' := [(0, .ref a0), (1, .int a1)]) (st' := [.int a1, .ref a0]) (mem' := mem) rfl ?_
  refine wq_eq rfl h (fun h => ?_) (fun h => ?_)
  · refine wp_run 1 (pc' := 10) (lv' := [(0, .ref a0), (1, .int a1)]) (st' := [.int 1, .ref a0]) (mem' := mem) rfl ?_
    refine kGo_sub (lvS_of [0] rfl [0, 1] rfl (by decide)) ?_
    exact m_M_workNow_10_ok xm N _ _ _ mem R h
  · refine wp_run 2 (pc' := 10) (lv' := [(0, .ref a0), (1, .int a1)]) (st' := [.int 2, .ref a0]) (mem' := mem) rfl ?_
    refine kGo_sub (lvS_of [0] rfl [0, 1] rfl (by decide)) ?_
    exact m_M_workNow_10_ok xm N _ _ _ mem R h
/-- java/util/ArrayList.isEmpty()Z -/
def m_AL_isEmpty (xm : Nat → Option kE) (N : Nat) (a0 : Nat) (mem : kM) : dRes :=
  dGI xm mem a0 4 2 fun v1 =>
  if v1 = 0 then (
    some (.inl (some (.int 1)), mem)
  ) else (
    some (.inl (some (.int 0)), mem)
  )
theorem m_AL_isEmpty_ok (xm : Nat → Option kE) (N : Nat) {a0 : Nat} {mem : kM} {R : kO × kM} (h : m_AL_isEmpty xm N a0 mem = some R) : kCa xm kSm kDfl kFty kG 1 214 [.ref a0] mem (dEq R) := by
  refine wq_ca (show 1 ≤ 1 by decide) ?_
  change kGo xm kSm kDfl kFty kG 0 214 0 [(0, .ref a0)] [] mem (dEq R)
  unfold m_AL_isEmpty at h
  refine wp_run 1 (pc' := 1) (lv' := [(0, .ref a0)]) (st' := [.ref a0]) (mem' := mem) rfl ?_
  refine wq_gI rfl h (fun v1 h => ?_)
  refine wq_ne rfl h (fun h => ?_) (fun h => ?_)
  · refine wp_run 2 (pc' := 12) (lv' := [(0, .ref a0)]) (st' := [.int 1]) (mem' := mem) rfl ?_
    exact wq_ret rfl rfl h
  · refine wp_run 1 (pc' := 12) (lv' := [(0, .ref a0)]) (st' := [.int 0]) (mem' := mem) rfl ?_
    exact wq_ret rfl rfl h
/-- KnitsteadModel.work(Z)I -/
def m_M_work_26 (xm : Nat → Option kE) (N : Nat) (a0 : Nat) (mem : kM) : dRes :=
  dRc xm mem a0 15 <|
  dCI (m_M_refuse xm N a0 1 mem) fun v28 m28 =>
  some (.inl (some (.int v28)), m28)
theorem m_M_work_26_ok (xm : Nat → Option kE) (N : Nat) : ∀ (a0 : Nat) (mem : kM) (R : kO × kM), m_M_work_26 xm N a0 mem = some R → kGo xm kSm kDfl kFty kG 9 118 26 [(0, .ref a0)] [] mem (dEq R) := by
  intro a0 mem R h
  unfold m_M_work_26 at h
  refine wp_run 2 (pc' := 28) (lv' := [(0, .ref a0)]) (st' := [.int 1, .ref a0]) (mem' := mem) rfl ?_
  obtain ⟨fk28, hk28, h⟩ := dRc_some h
  refine wq_cI rfl (kCall_v hk28 (as := [.int 1]) (rest := []) ⟨by decide, rfl, (show 1 < 90 by decide), by decide⟩ (show 0 ≤ 8 by decide)) h (fun r hr => ca_up (by decide) (m_M_refuse_ok xm N hr)) (fun v28 m28 h => ?_)
  exact wq_ret rfl rfl h
def m_M_work (xm : Nat → Option kE) (N : Nat) (a0 : Nat) (a1 : Int32) (mem : kM) : dRes :=
  dP xm mem a0 15 0 (.int 0) fun m2 =>
  dGR xm m2 a0 15 5 fun v6 =>
  dGR xm m2 v6 14 0 fun v9 =>
  dRc xm m2 v9 4 <|
  dCI (m_AL_isEmpty xm N v9 m2) fun v12 m12 =>
  if v12 = 0 then (
    dRc xm m12 a0 15 <|
    dCI (m_M_yarn xm N a0 m12) fun v19 m19 =>
    if v19 < 4 then (
      m_M_work_26 xm N a0 m19
    ) else (
      dRc xm m19 a0 15 <|
      dCV (m_M_keep xm N a0 m19) fun m33 =>
      dRc xm m33 a0 15 <|
      dCI (m_M_workNow xm N a0 a1 m33) fun v38 m38 =>
      some (.inl (some (.int v38)), m38)
    )
  ) else (
    m_M_work_26 xm N a0 m12
  )
theorem m_M_work_ok (xm : Nat → Option kE) (N : Nat) {a0 : Nat} {a1 : Int32} {mem : kM} {R : kO × kM} (h : m_M_work xm N a0 a1 mem = some R) : kCa xm kSm kDfl kFty kG 10 118 [.ref a0, .int a1] mem (dEq R) := by
  refine wq_ca (show 2 ≤ 2 by decide) ?_
  change kGo xm kSm kDfl kFty kG 9 118 0 [(0, .ref a0), (1, .int a1)] [] mem (dEq R)
  unfold m_M_work at h
  refine wp_run 2 (pc' := 2) (lv' := [(0, .ref a0), (1, .int a1)]) (st' := [.int 0, .ref a0]) (mem' := mem) rfl ?_
  refine wq_p rfl rfl h (fun m2 h => ?_)
  refine wp_run 1 (pc' := 6) (lv' := [(0, .ref a0), (1, .int a1)]) (st' := [.ref a0]) (mem' := m2) rfl ?_
  refine wq_gR rfl h (fun v6 h => ?_)
  refine wq_gR rfl h (fun v9 h => ?_)
  obtain ⟨fk12, hk12, h⟩ := dRc_some h
  refine wq_cI rfl (kCall_v hk12 (as := []) (rest := []) ⟨by decide, rfl, (show 0 < 90 by decide), by decide⟩ (show 0 ≤ 8 by decide)) h (fun r hr => ca_up (by decide) (m_AL_isEmpty_ok xm N hr)) (fun v12 m12 h => ?_)
  refine wq_ne rfl h (fun h => ?_) (fun h => ?_)
  · refine wp_run 1 (pc' := 19) (lv' := [(0, .ref a0), (1, .int a1)]) (st' := [.ref a0]) (mem' := m12) rfl ?_
    obtain ⟨fk19, hk19, h⟩ := dRc_some h
    refine wq_cI rfl (kCall_v hk19 (as := []) (rest := []) ⟨by decide, rfl, (show 0 < 90 by decide), by decide⟩ (show 0 ≤ 8 by decide)) h (fun r hr => ca_up (by decide) (m_M_yarn_ok xm N hr)) (fun v19 m19 h => ?_)
    refine wp_run 1 (pc' := 23) (lv' := [(0, .ref a0), (1, .int a1)]) (st' := [.int 4, .int v19]) (mem' := m19) rfl ?_
    refine wq_ge2 rfl h (fun h => ?_) (fun h => ?_)
    · refine kGo_sub (lvS_of [0] rfl [0, 1] rfl (by decide)) ?_
      exact m_M_work_26_ok xm N _ m19 R h
    · refine wp_run 1 (pc' := 33) (lv' := [(0, .ref a0), (1, .int a1)]) (st' := [.ref a0]) (mem' := m19) rfl ?_
      obtain ⟨fk33, hk33, h⟩ := dRc_some h
      refine wq_cV rfl (kCall_v hk33 (as := []) (rest := []) ⟨by decide, rfl, (show 0 < 90 by decide), by decide⟩ (show 0 ≤ 8 by decide)) h (fun r hr => ca_up (by decide) (m_M_keep_ok xm N hr)) (fun m33 h => ?_)
      refine wp_run 2 (pc' := 38) (lv' := [(0, .ref a0), (1, .int a1)]) (st' := [.int a1, .ref a0]) (mem' := m33) rfl ?_
      obtain ⟨fk38, hk38, h⟩ := dRc_some h
      refine wq_cI rfl (kCall_v hk38 (as := [.int a1]) (rest := []) ⟨by decide, rfl, (show 1 < 90 by decide), by decide⟩ (show 0 ≤ 8 by decide)) h (fun r hr => ca_up (by decide) (m_M_workNow_ok xm N hr)) (fun v38 m38 h => ?_)
      exact wq_ret rfl rfl h
  · refine kGo_sub (lvS_of [0] rfl [0, 1] rfl (by decide)) ?_
    exact m_M_work_26_ok xm N _ m12 R h
/-- KnitsteadModel.overNow()I -/
def m_M_overNow (xm : Nat → Option kE) (N : Nat) (a0 : Nat) (mem : kM) : dRes :=
  dGR xm mem a0 15 5 fun v1 =>
  dGI xm mem v1 14 8 fun v5 =>
  dP xm mem v1 14 8 (.int (v5 + 1)) fun m10 =>
  dRc xm m10 a0 15 <|
  dCI (m_M_make xm N a0 3 1 0 3 m10) fun v18 m18 =>
  some (.inl (some (.int v18)), m18)
theorem m_M_overNow_ok (xm : Nat → Option kE) (N : Nat) {a0 : Nat} {mem : kM} {R : kO × kM} (h : m_M_overNow xm N a0 mem = some R) : kCa xm kSm kDfl kFty kG 9 119 [.ref a0] mem (dEq R) := by
  refine wq_ca (show 1 ≤ 1 by decide) ?_
  change kGo xm kSm kDfl kFty kG 8 119 0 [(0, .ref a0)] [] mem (dEq R)
  unfold m_M_overNow at h
  refine wp_run 1 (pc' := 1) (lv' := [(0, .ref a0)]) (st' := [.ref a0]) (mem' := mem) rfl ?_
  refine wq_gR rfl h (fun v1 h => ?_)
  refine wp_run 1 (pc' := 5) (lv' := [(0, .ref a0)]) (st' := [.ref v1, .ref v1]) (mem' := mem) rfl ?_
  refine wq_gI rfl h (fun v5 h => ?_)
  refine wp_run 2 (pc' := 10) (lv' := [(0, .ref a0)]) (st' := [.int (v5 + 1), .ref v1]) (mem' := mem) rfl ?_
  refine wq_p rfl rfl h (fun m10 h => ?_)
  refine wp_run 5 (pc' := 18) (lv' := [(0, .ref a0)]) (st' := [.int 3, .int 0, .int 1, .int 3, .ref a0]) (mem' := m10) rfl ?_
  obtain ⟨fk18, hk18, h⟩ := dRc_some h
  refine wq_cI rfl (kCall_v hk18 (as := [.int 3, .int 1, .int 0, .int 3]) (rest := []) ⟨by decide, rfl, (show 4 < 90 by decide), by decide⟩ (show 0 ≤ 8 by decide)) h (fun r hr => ca_up (by decide) (m_M_make_ok xm N hr)) (fun v18 m18 h => ?_)
  exact wq_ret rfl rfl h
/-- KnitsteadModel.over()I -/
def m_M_over_25 (xm : Nat → Option kE) (N : Nat) (a0 : Nat) (mem : kM) : dRes :=
  dRc xm mem a0 15 <|
  dCI (m_M_refuse xm N a0 1 mem) fun v27 m27 =>
  some (.inl (some (.int v27)), m27)
theorem m_M_over_25_ok (xm : Nat → Option kE) (N : Nat) : ∀ (a0 : Nat) (mem : kM) (R : kO × kM), m_M_over_25 xm N a0 mem = some R → kGo xm kSm kDfl kFty kG 9 120 25 [(0, .ref a0)] [] mem (dEq R) := by
  intro a0 mem R h
  unfold m_M_over_25 at h
  refine wp_run 2 (pc' := 27) (lv' := [(0, .ref a0)]) (st' := [.int 1, .ref a0]) (mem' := mem) rfl ?_
  obtain ⟨fk27, hk27, h⟩ := dRc_some h
  refine wq_cI rfl (kCall_v hk27 (as := [.int 1]) (rest := []) ⟨by decide, rfl, (show 1 < 90 by decide), by decide⟩ (show 0 ≤ 8 by decide)) h (fun r hr => ca_up (by decide) (m_M_refuse_ok xm N hr)) (fun v27 m27 h => ?_)
  exact wq_ret rfl rfl h
def m_M_over (xm : Nat → Option kE) (N : Nat) (a0 : Nat) (mem : kM) : dRes :=
  dP xm mem a0 15 0 (.int 0) fun m2 =>
  dGR xm m2 a0 15 5 fun v6 =>
  dRc xm m2 v6 14 <|
  dCI (m_MS_all xm N v6 m2) fun v9 m9 =>
  if v9 = 24 then (
    m_M_over_25 xm N a0 m9
  ) else (
    dRc xm m9 a0 15 <|
    dCI (m_M_yarn xm N a0 m9) fun v18 m18 =>
    if v18 < 3 then (
      m_M_over_25 xm N a0 m18
    ) else (
      dRc xm m18 a0 15 <|
      dCV (m_M_keep xm N a0 m18) fun m32 =>
      dRc xm m32 a0 15 <|
      dCI (m_M_overNow xm N a0 m32) fun v36 m36 =>
      some (.inl (some (.int v36)), m36)
    )
  )
theorem m_M_over_ok (xm : Nat → Option kE) (N : Nat) {a0 : Nat} {mem : kM} {R : kO × kM} (h : m_M_over xm N a0 mem = some R) : kCa xm kSm kDfl kFty kG 10 120 [.ref a0] mem (dEq R) := by
  refine wq_ca (show 1 ≤ 1 by decide) ?_
  change kGo xm kSm kDfl kFty kG 9 120 0 [(0, .ref a0)] [] mem (dEq R)
  unfold m_M_over at h
  refine wp_run 2 (pc' := 2) (lv' := [(0, .ref a0)]) (st' := [.int 0, .ref a0]) (mem' := mem) rfl ?_
  refine wq_p rfl rfl h (fun m2 h => ?_)
  refine wp_run 1 (pc' := 6) (lv' := [(0, .ref a0)]) (st' := [.ref a0]) (mem' := m2) rfl ?_
  refine wq_gR rfl h (fun v6 h => ?_)
  obtain ⟨fk9, hk9, h⟩ := dRc_some h
  refine wq_cI rfl (kCall_v hk9 (as := []) (rest := []) ⟨by decide, rfl, (show 0 < 90 by decide), by decide⟩ (show 0 ≤ 8 by decide)) h (fun r hr => ca_up (by decide) (m_MS_all_ok xm N hr)) (fun v9 m9 h => ?_)
  refine wp_run 1 (pc' := 14) (lv' := [(0, .ref a0)]) (st' := [.int 24, .int v9]) (mem' := m9) rfl ?_
  refine wq_eq2 rfl h (fun h => ?_) (fun h => ?_)
  · exact m_M_over_25_ok xm N _ m9 R h
  · refine wp_run 1 (pc' := 18) (lv' := [(0, .ref a0)]) (st' := [.ref a0]) (mem' := m9) rfl ?_
    obtain ⟨fk18, hk18, h⟩ := dRc_some h
    refine wq_cI rfl (kCall_v hk18 (as := []) (rest := []) ⟨by decide, rfl, (show 0 < 90 by decide), by decide⟩ (show 0 ≤ 8 by decide)) h (fun r hr => ca_up (by decide) (m_M_yarn_ok xm N hr)) (fun v18 m18 h => ?_)
    refine wp_run 1 (pc' := 22) (lv' := [(0, .ref a0)]) (st' := [.int 3, .int v18]) (mem' := m18) rfl ?_
    refine wq_ge2 rfl h (fun h => ?_) (fun h => ?_)
    · exact m_M_over_25_ok xm N _ m18 R h
    · refine wp_run 1 (pc' := 32) (lv' := [(0, .ref a0)]) (st' := [.ref a0]) (mem' := m18) rfl ?_
      obtain ⟨fk32, hk32, h⟩ := dRc_some h
      refine wq_cV rfl (kCall_v hk32 (as := []) (rest := []) ⟨by decide, rfl, (show 0 < 90 by decide), by decide⟩ (show 0 ≤ 8 by decide)) h (fun r hr => ca_up (by decide) (m_M_keep_ok xm N hr)) (fun m32 h => ?_)
      refine wp_run 1 (pc' := 36) (lv' := [(0, .ref a0)]) (st' := [.ref a0]) (mem' := m32) rfl ?_
      obtain ⟨fk36, hk36, h⟩ := dRc_some h
      refine wq_cI rfl (kCall_v hk36 (as := []) (rest := []) ⟨by decide, rfl, (show 0 < 90 by decide), by decide⟩ (show 0 ≤ 8 by decide)) h (fun r hr => ca_up (by decide) (m_M_overNow_ok xm N hr)) (fun v36 m36 h => ?_)
      exact wq_ret rfl rfl h
/-- KnitsteadModel.togetherNow(IZ)I -/
def m_M_togetherNow_34 (xm : Nat → Option kE) (N : Nat) (a1 : Int32) (s0 : Nat) (s1 : Int32) (mem : kM) : dRes :=
  dRc xm mem s0 15 <|
  dCI (m_M_make xm N s0 s1 1 a1 5 mem) fun v37 m37 =>
  some (.inl (some (.int v37)), m37)
theorem m_M_togetherNow_34_ok (xm : Nat → Option kE) (N : Nat) : ∀ (a1 : Int32) (s0 : Nat) (s1 : Int32) (mem : kM) (R : kO × kM), m_M_togetherNow_34 xm N a1 s0 s1 mem = some R → kGo xm kSm kDfl kFty kG 8 121 34 [(1, .int a1)] [.int s1, .ref s0] mem (dEq R) := by
  intro a1 s0 s1 mem R h
  unfold m_M_togetherNow_34 at h
  refine wp_run 3 (pc' := 37) (lv' := [(1, .int a1)]) (st' := [.int 5, .int a1, .int 1, .int s1, .ref s0]) (mem' := mem) rfl ?_
  obtain ⟨fk37, hk37, h⟩ := dRc_some h
  refine wq_cI rfl (kCall_v hk37 (as := [.int s1, .int 1, .int a1, .int 5]) (rest := []) ⟨by decide, rfl, (show 4 < 90 by decide), by decide⟩ (show 0 ≤ 8 by decide)) h (fun r hr => ca_up (by decide) (m_M_make_ok xm N hr)) (fun v37 m37 h => ?_)
  exact wq_ret rfl rfl h
def m_M_togetherNow_2 (xm : Nat → Option kE) (N : Nat) : Nat → Nat → Int32 → Int32 → Int32 → kM → dRes
  | 0, _, _, _, _, _ => none
  | n + 1, a0, a1, a2, a3, mem =>
    if a3 < a1 then (
      dGR xm mem a0 15 5 fun v8 =>
      dGR xm mem v8 14 0 fun v11 =>
      dCI (m_M_pull xm N v11 mem) fun v14 m14 =>
      m_M_togetherNow_2 xm N n a0 a1 a2 (a3 + 1) m14
    ) else (
      if a2 = 0 then (
        m_M_togetherNow_34 xm N a1 a0 4 mem
      ) else (
        m_M_togetherNow_34 xm N a1 a0 5 mem
      )
    )
theorem m_M_togetherNow_2_ok (xm : Nat → Option kE) (N : Nat) : ∀ (n : Nat) (a0 : Nat) (a1 : Int32) (a2 : Int32) (a3 : Int32) (mem : kM) (R : kO × kM), m_M_togetherNow_2 xm N n a0 a1 a2 a3 mem = some R → kGo xm kSm kDfl kFty kG 8 121 2 [(0, .ref a0), (1, .int a1), (2, .int a2), (3, .int a3)] [] mem (dEq R) := by
  intro n
  induction n with
  | zero => intro a0 a1 a2 a3 mem R h; cases h
  | succ n ih =>
    intro a0 a1 a2 a3 mem R h
    rw [m_M_togetherNow_2] at h
    refine wp_run 2 (pc' := 4) (lv' := [(0, .ref a0), (1, .int a1), (2, .int a2), (3, .int a3)]) (st' := [.int a1, .int a3]) (mem' := mem) rfl ?_
    refine wq_ge2 rfl h (fun h => ?_) (fun h => ?_)
    · refine wp_run 1 (pc' := 8) (lv' := [(0, .ref a0), (1, .int a1), (2, .int a2), (3, .int a3)]) (st' := [.ref a0]) (mem' := mem) rfl ?_
      refine wq_gR rfl h (fun v8 h => ?_)
      refine wq_gR rfl h (fun v11 h => ?_)
      refine wq_cI rfl (kCall_s (as := [.ref v11]) (rest := []) ⟨by decide, rfl⟩ (show 0 ≤ 8 by decide) (by decide)) h (fun r hr => ca_up (by decide) (m_M_pull_ok xm N hr)) (fun v14 m14 h => ?_)
      refine wp_run 3 (pc' := 2) (lv' := [(3, .int (a3 + 1)), (0, .ref a0), (1, .int a1), (2, .int a2)]) (st' := []) (mem' := m14) rfl ?_
      refine kGo_sub (lvS_of [1, 2, 3, 0] rfl [3, 0, 1, 2] rfl (by decide)) ?_
      exact ih _ _ _ _ m14 R h
    · refine wp_run 2 (pc' := 26) (lv' := [(0, .ref a0), (1, .int a1), (2, .int a2), (3, .int a3)]) (st' := [.int a2, .ref a0]) (mem' := mem) rfl ?_
      refine wq_eq rfl h (fun h => ?_) (fun h => ?_)
      · refine wp_run 1 (pc' := 34) (lv' := [(0, .ref a0), (1, .int a1), (2, .int a2), (3, .int a3)]) (st' := [.int 4, .ref a0]) (mem' := mem) rfl ?_
        refine kGo_sub (lvS_of [1] rfl [0, 1, 2, 3] rfl (by decide)) ?_
        exact m_M_togetherNow_34_ok xm N _ _ _ mem R h
      · refine wp_run 2 (pc' := 34) (lv' := [(0, .ref a0), (1, .int a1), (2, .int a2), (3, .int a3)]) (st' := [.int 5, .ref a0]) (mem' := mem) rfl ?_
        refine kGo_sub (lvS_of [1] rfl [0, 1, 2, 3] rfl (by decide)) ?_
        exact m_M_togetherNow_34_ok xm N _ _ _ mem R h
def m_M_togetherNow (xm : Nat → Option kE) (N : Nat) (a0 : Nat) (a1 : Int32) (a2 : Int32) (mem : kM) : dRes :=
  m_M_togetherNow_2 xm N N a0 a1 a2 0 mem
theorem m_M_togetherNow_ok (xm : Nat → Option kE) (N : Nat) {a0 : Nat} {a1 : Int32} {a2 : Int32} {mem : kM} {R : kO × kM} (h : m_M_togetherNow xm N a0 a1 a2 mem = some R) : kCa xm kSm kDfl kFty kG 9 121 [.ref a0, .int a1, .int a2] mem (dEq R) := by
  refine wq_ca (show 3 ≤ 4 by decide) ?_
  change kGo xm kSm kDfl kFty kG 8 121 0 [(0, .ref a0), (1, .int a1), (2, .int a2)] [] mem (dEq R)
  unfold m_M_togetherNow at h
  refine wp_run 2 (pc' := 2) (lv' := [(3, .int 0), (0, .ref a0), (1, .int a1), (2, .int a2)]) (st' := []) (mem' := mem) rfl ?_
  refine kGo_sub (lvS_of [1, 2, 3, 0] rfl [3, 0, 1, 2] rfl (by decide)) ?_
  exact m_M_togetherNow_2_ok xm N N _ _ _ _ mem R h
/-- KnitsteadModel.together(IZ)I -/
def m_M_together_42 (xm : Nat → Option kE) (N : Nat) (a0 : Nat) (mem : kM) : dRes :=
  dRc xm mem a0 15 <|
  dCI (m_M_refuse xm N a0 2 mem) fun v44 m44 =>
  some (.inl (some (.int v44)), m44)
theorem m_M_together_42_ok (xm : Nat → Option kE) (N : Nat) : ∀ (a0 : Nat) (mem : kM) (R : kO × kM), m_M_together_42 xm N a0 mem = some R → kGo xm kSm kDfl kFty kG 9 122 42 [(0, .ref a0)] [] mem (dEq R) := by
  intro a0 mem R h
  unfold m_M_together_42 at h
  refine wp_run 2 (pc' := 44) (lv' := [(0, .ref a0)]) (st' := [.int 2, .ref a0]) (mem' := mem) rfl ?_
  obtain ⟨fk44, hk44, h⟩ := dRc_some h
  refine wq_cI rfl (kCall_v hk44 (as := [.int 2]) (rest := []) ⟨by decide, rfl, (show 1 < 90 by decide), by decide⟩ (show 0 ≤ 8 by decide)) h (fun r hr => ca_up (by decide) (m_M_refuse_ok xm N hr)) (fun v44 m44 h => ?_)
  exact wq_ret rfl rfl h
def m_M_together (xm : Nat → Option kE) (N : Nat) (a0 : Nat) (a1 : Int32) (a2 : Int32) (mem : kM) : dRes :=
  dP xm mem a0 15 0 (.int 0) fun m2 =>
  dCI (m_M_is xm N a1 2 3 m2) fun v8 m8 =>
  if v8 = 0 then (
    dRc xm m8 a0 15 <|
    dCI (m_M_refuse xm N a0 1 m8) fun v16 m16 =>
    some (.inl (some (.int v16)), m16)
  ) else (
    dGR xm m8 a0 15 5 fun v21 =>
    dGR xm m8 v21 14 0 fun v24 =>
    dRc xm m8 v24 4 <|
    dCI (m_AL_size xm N v24 m8) fun v27 m27 =>
    if v27 < a1 then (
      m_M_together_42 xm N a0 m27
    ) else (
      dRc xm m27 a0 15 <|
      dCI (m_M_yarn xm N a0 m27) fun v35 m35 =>
      if v35 < 5 then (
        m_M_together_42 xm N a0 m35
      ) else (
        dRc xm m35 a0 15 <|
        dCV (m_M_keep xm N a0 m35) fun m49 =>
        dRc xm m49 a0 15 <|
        dCI (m_M_togetherNow xm N a0 a1 a2 m49) fun v55 m55 =>
        some (.inl (some (.int v55)), m55)
      )
    )
  )
theorem m_M_together_ok (xm : Nat → Option kE) (N : Nat) {a0 : Nat} {a1 : Int32} {a2 : Int32} {mem : kM} {R : kO × kM} (h : m_M_together xm N a0 a1 a2 mem = some R) : kCa xm kSm kDfl kFty kG 10 122 [.ref a0, .int a1, .int a2] mem (dEq R) := by
  refine wq_ca (show 3 ≤ 3 by decide) ?_
  change kGo xm kSm kDfl kFty kG 9 122 0 [(0, .ref a0), (1, .int a1), (2, .int a2)] [] mem (dEq R)
  unfold m_M_together at h
  refine wp_run 2 (pc' := 2) (lv' := [(0, .ref a0), (1, .int a1), (2, .int a2)]) (st' := [.int 0, .ref a0]) (mem' := mem) rfl ?_
  refine wq_p rfl rfl h (fun m2 h => ?_)
  refine wp_run 3 (pc' := 8) (lv' := [(0, .ref a0), (1, .int a1), (2, .int a2)]) (st' := [.int 3, .int 2, .int a1]) (mem' := m2) rfl ?_
  refine wq_cI rfl (kCall_s (as := [.int a1, .int 2, .int 3]) (rest := []) ⟨by decide, rfl⟩ (show 0 ≤ 8 by decide) (by decide)) h (fun r hr => ca_up (by decide) (m_M_is_ok xm N hr)) (fun v8 m8 h => ?_)
  refine wq_ne rfl h (fun h => ?_) (fun h => ?_)
  · refine wp_run 2 (pc' := 16) (lv' := [(0, .ref a0), (1, .int a1), (2, .int a2)]) (st' := [.int 1, .ref a0]) (mem' := m8) rfl ?_
    obtain ⟨fk16, hk16, h⟩ := dRc_some h
    refine wq_cI rfl (kCall_v hk16 (as := [.int 1]) (rest := []) ⟨by decide, rfl, (show 1 < 90 by decide), by decide⟩ (show 0 ≤ 8 by decide)) h (fun r hr => ca_up (by decide) (m_M_refuse_ok xm N hr)) (fun v16 m16 h => ?_)
    exact wq_ret rfl rfl h
  · refine wp_run 1 (pc' := 21) (lv' := [(0, .ref a0), (1, .int a1), (2, .int a2)]) (st' := [.ref a0]) (mem' := m8) rfl ?_
    refine wq_gR rfl h (fun v21 h => ?_)
    refine wq_gR rfl h (fun v24 h => ?_)
    obtain ⟨fk27, hk27, h⟩ := dRc_some h
    refine wq_cI rfl (kCall_v hk27 (as := []) (rest := []) ⟨by decide, rfl, (show 0 < 90 by decide), by decide⟩ (show 0 ≤ 8 by decide)) h (fun r hr => ca_up (by decide) (m_AL_size_ok xm N hr)) (fun v27 m27 h => ?_)
    refine wp_run 1 (pc' := 31) (lv' := [(0, .ref a0), (1, .int a1), (2, .int a2)]) (st' := [.int a1, .int v27]) (mem' := m27) rfl ?_
    refine wq_lt2 rfl h (fun h => ?_) (fun h => ?_)
    · refine kGo_sub (lvS_of [0] rfl [0, 1, 2] rfl (by decide)) ?_
      exact m_M_together_42_ok xm N _ m27 R h
    · refine wp_run 1 (pc' := 35) (lv' := [(0, .ref a0), (1, .int a1), (2, .int a2)]) (st' := [.ref a0]) (mem' := m27) rfl ?_
      obtain ⟨fk35, hk35, h⟩ := dRc_some h
      refine wq_cI rfl (kCall_v hk35 (as := []) (rest := []) ⟨by decide, rfl, (show 0 < 90 by decide), by decide⟩ (show 0 ≤ 8 by decide)) h (fun r hr => ca_up (by decide) (m_M_yarn_ok xm N hr)) (fun v35 m35 h => ?_)
      refine wp_run 1 (pc' := 39) (lv' := [(0, .ref a0), (1, .int a1), (2, .int a2)]) (st' := [.int 5, .int v35]) (mem' := m35) rfl ?_
      refine wq_ge2 rfl h (fun h => ?_) (fun h => ?_)
      · refine kGo_sub (lvS_of [0] rfl [0, 1, 2] rfl (by decide)) ?_
        exact m_M_together_42_ok xm N _ m35 R h
      · refine wp_run 1 (pc' := 49) (lv' := [(0, .ref a0), (1, .int a1), (2, .int a2)]) (st' := [.ref a0]) (mem' := m35) rfl ?_
        obtain ⟨fk49, hk49, h⟩ := dRc_some h
        refine wq_cV rfl (kCall_v hk49 (as := []) (rest := []) ⟨by decide, rfl, (show 0 < 90 by decide), by decide⟩ (show 0 ≤ 8 by decide)) h (fun r hr => ca_up (by decide) (m_M_keep_ok xm N hr)) (fun m49 h => ?_)
        refine wp_run 3 (pc' := 55) (lv' := [(0, .ref a0), (1, .int a1), (2, .int a2)]) (st' := [.int a2, .int a1, .ref a0]) (mem' := m49) rfl ?_
        obtain ⟨fk55, hk55, h⟩ := dRc_some h
        refine wq_cI rfl (kCall_v hk55 (as := [.int a1, .int a2]) (rest := []) ⟨by decide, rfl, (show 2 < 90 by decide), by decide⟩ (show 0 ≤ 8 by decide)) h (fun r hr => ca_up (by decide) (m_M_togetherNow_ok xm N hr)) (fun v55 m55 h => ?_)
        exact wq_ret rfl rfl h
/-- KnitsteadModel.slipNow()I -/
def m_M_slipNow (xm : Nat → Option kE) (N : Nat) (a0 : Nat) (mem : kM) : dRes :=
  dGR xm mem a0 15 5 fun v1 =>
  dGR xm mem v1 14 0 fun v4 =>
  dCI (m_M_pull xm N v4 mem) fun v7 m7 =>
  dGR xm m7 a0 15 5 fun v12 =>
  dGR xm m7 v12 14 1 fun v15 =>
  dCR (m_Int_valueOf xm N v7 m7) fun v19 m19 =>
  dRc xm m19 v15 4 <|
  dCI (m_AL_add_1 xm N v15 v19 m19) fun v22 m22 =>
  some (.inl (some (.int v7)), m22)
theorem m_M_slipNow_ok (xm : Nat → Option kE) (N : Nat) {a0 : Nat} {mem : kM} {R : kO × kM} (h : m_M_slipNow xm N a0 mem = some R) : kCa xm kSm kDfl kFty kG 8 123 [.ref a0] mem (dEq R) := by
  refine wq_ca (show 1 ≤ 2 by decide) ?_
  change kGo xm kSm kDfl kFty kG 7 123 0 [(0, .ref a0)] [] mem (dEq R)
  unfold m_M_slipNow at h
  refine wp_run 1 (pc' := 1) (lv' := [(0, .ref a0)]) (st' := [.ref a0]) (mem' := mem) rfl ?_
  refine wq_gR rfl h (fun v1 h => ?_)
  refine wq_gR rfl h (fun v4 h => ?_)
  refine wq_cI rfl (kCall_s (as := [.ref v4]) (rest := []) ⟨by decide, rfl⟩ (show 0 ≤ 8 by decide) (by decide)) h (fun r hr => ca_up (by decide) (m_M_pull_ok xm N hr)) (fun v7 m7 h => ?_)
  refine wp_run 2 (pc' := 12) (lv' := [(1, .int v7), (0, .ref a0)]) (st' := [.ref a0]) (mem' := m7) rfl ?_
  refine wq_gR rfl h (fun v12 h => ?_)
  refine wq_gR rfl h (fun v15 h => ?_)
  refine wp_run 1 (pc' := 19) (lv' := [(1, .int v7), (0, .ref a0)]) (st' := [.int v7, .ref v15]) (mem' := m7) rfl ?_
  refine wq_cR rfl (kCall_s (as := [.int v7]) (rest := [.ref v15]) ⟨by decide, rfl⟩ (show 1 ≤ 8 by decide) (by decide)) h (fun r hr => ca_up (by decide) (m_Int_valueOf_ok xm N hr)) (fun v19 m19 h => ?_)
  obtain ⟨fk22, hk22, h⟩ := dRc_some h
  refine wq_cI rfl (kCall_v hk22 (as := [.ref v19]) (rest := []) ⟨by decide, rfl, (show 1 < 90 by decide), by decide⟩ (show 0 ≤ 8 by decide)) h (fun r hr => ca_up (by decide) (m_AL_add_1_ok xm N hr)) (fun v22 m22 h => ?_)
  refine wp_run 2 (pc' := 27) (lv' := [(1, .int v7), (0, .ref a0)]) (st' := [.int v7]) (mem' := m22) rfl ?_
  exact wq_ret rfl rfl h
