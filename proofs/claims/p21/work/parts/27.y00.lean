set_option maxRecDepth 20000
/-- Knitstead$Balls.init()V -/
def m_Balls_new (xm : Nat → Option kE) (N : Nat) (a0 : Nat) (mem : kM) : dRes :=
  dNI 0 mem 4 fun m6 p6 =>
  dP xm m6 a0 5 0 (.ref p6) fun m8 =>
  dP xm m8 a0 5 2 (.int (-1)) fun m13 =>
  some (.inl none, m13)
theorem m_Balls_new_ok (xm : Nat → Option kE) (N : Nat) {a0 : Nat} {mem : kM} {R : kO × kM} (h : m_Balls_new xm N a0 mem = some R) : kCa xm kSm kDfl kFty kG 1 1 [.ref a0] mem (dEq R) := by
  refine wq_ca (show 1 ≤ 1 by decide) ?_
  change kGo xm kSm kDfl kFty kG 0 1 0 [(0, .ref a0)] [] mem (dEq R)
  unfold m_Balls_new at h
  refine wp_run 4 (pc' := 6) (lv' := [(0, .ref a0)]) (st' := [.int 4, .ref a0]) (mem' := mem) rfl ?_
  refine wq_nI rfl rfl h (fun m6 p6 h => ?_)
  refine wq_p rfl rfl h (fun m8 h => ?_)
  refine wp_run 2 (pc' := 13) (lv' := [(0, .ref a0)]) (st' := [.int (-1), .ref a0]) (mem' := m8) rfl ?_
  refine wq_p rfl rfl h (fun m13 h => ?_)
  exact wq_end rfl rfl h
/-- Knitstead$Needle.init()V -/
def m_Needle_new (xm : Nat → Option kE) (N : Nat) (a0 : Nat) (mem : kM) : dRes :=
  dNI 0 mem 24 fun m7 p7 =>
  dP xm m7 a0 7 0 (.ref p7) fun m9 =>
  some (.inl none, m9)
theorem m_Needle_new_ok (xm : Nat → Option kE) (N : Nat) {a0 : Nat} {mem : kM} {R : kO × kM} (h : m_Needle_new xm N a0 mem = some R) : kCa xm kSm kDfl kFty kG 1 13 [.ref a0] mem (dEq R) := by
  refine wq_ca (show 1 ≤ 1 by decide) ?_
  change kGo xm kSm kDfl kFty kG 0 13 0 [(0, .ref a0)] [] mem (dEq R)
  unfold m_Needle_new at h
  refine wp_run 4 (pc' := 7) (lv' := [(0, .ref a0)]) (st' := [.int 24, .ref a0]) (mem' := mem) rfl ?_
  refine wq_nI rfl rfl h (fun m7 p7 h => ?_)
  refine wq_p rfl rfl h (fun m9 h => ?_)
  exact wq_end rfl rfl h
/-- java/lang/Math.max(II)I -/
def m_Math_max (xm : Nat → Option kE) (N : Nat) (a0 : Int32) (a1 : Int32) (mem : kM) : dRes :=
  if a0 < a1 then (
    some (.inl (some (.int a1)), mem)
  ) else (
    some (.inl (some (.int a0)), mem)
  )
theorem m_Math_max_ok (xm : Nat → Option kE) (N : Nat) {a0 : Int32} {a1 : Int32} {mem : kM} {R : kO × kM} (h : m_Math_max xm N a0 a1 mem = some R) : kCa xm kSm kDfl kFty kG 1 185 [.int a0, .int a1] mem (dEq R) := by
  refine wq_ca (show 2 ≤ 2 by decide) ?_
  change kGo xm kSm kDfl kFty kG 0 185 0 [(0, .int a0), (1, .int a1)] [] mem (dEq R)
  unfold m_Math_max at h
  refine wp_run 2 (pc' := 2) (lv' := [(0, .int a0), (1, .int a1)]) (st' := [.int a1, .int a0]) (mem' := mem) rfl ?_
  refine wq_lt2 rfl h (fun h => ?_) (fun h => ?_)
  · refine wp_run 1 (pc' := 10) (lv' := [(0, .int a0), (1, .int a1)]) (st' := [.int a1]) (mem' := mem) rfl ?_
    exact wq_ret rfl rfl h
  · refine wp_run 2 (pc' := 10) (lv' := [(0, .int a0), (1, .int a1)]) (st' := [.int a0]) (mem' := mem) rfl ?_
    exact wq_ret rfl rfl h
/-- Knitstead$Table.init(III)V -/
def m_Table_new (xm : Nat → Option kE) (N : Nat) (a0 : Nat) (a1 : Int32) (a2 : Int32) (a3 : Int32) (mem : kM) : dRes :=
  dCI (m_Math_max xm N 1 a1 mem) fun v7 m7 =>
  dP xm m7 a0 8 0 (.int v7) fun m10 =>
  dCI (m_Math_max xm N 0 a3 m10) fun v16 m16 =>
  dP xm m16 a0 8 1 (.int v16) fun m19 =>
  dGI xm m19 a0 8 0 fun v25 =>
  dCI (m_Math_max xm N 0 (v25 * a2) m19) fun v30 m30 =>
  dNI 0 m30 v30 fun m33 p33 =>
  dP xm m33 a0 8 2 (.ref p33) fun m35 =>
  some (.inl none, m35)
theorem m_Table_new_ok (xm : Nat → Option kE) (N : Nat) {a0 : Nat} {a1 : Int32} {a2 : Int32} {a3 : Int32} {mem : kM} {R : kO × kM} (h : m_Table_new xm N a0 a1 a2 a3 mem = some R) : kCa xm kSm kDfl kFty kG 2 22 [.ref a0, .int a1, .int a2, .int a3] mem (dEq R) := by
  refine wq_ca (show 4 ≤ 4 by decide) ?_
  change kGo xm kSm kDfl kFty kG 1 22 0 [(0, .ref a0), (1, .int a1), (2, .int a2), (3, .int a3)] [] mem (dEq R)
  unfold m_Table_new at h
  refine wp_run 5 (pc' := 7) (lv' := [(0, .ref a0), (1, .int a1), (2, .int a2), (3, .int a3)]) (st' := [.int a1, .int 1, .ref a0]) (mem' := mem) rfl ?_
  refine wq_cI rfl (kCall_s (as := [.int 1, .int a1]) (rest := [.ref a0]) ⟨by decide, rfl⟩ (show 1 ≤ 8 by decide) (by decide)) h (fun r hr => ca_up (by decide) (m_Math_max_ok xm N hr)) (fun v7 m7 h => ?_)
  refine wq_p rfl rfl h (fun m10 h => ?_)
  refine wp_run 3 (pc' := 16) (lv' := [(0, .ref a0), (1, .int a1), (2, .int a2), (3, .int a3)]) (st' := [.int a3, .int 0, .ref a0]) (mem' := m10) rfl ?_
  refine wq_cI rfl (kCall_s (as := [.int 0, .int a3]) (rest := [.ref a0]) ⟨by decide, rfl⟩ (show 1 ≤ 8 by decide) (by decide)) h (fun r hr => ca_up (by decide) (m_Math_max_ok xm N hr)) (fun v16 m16 h => ?_)
  refine wq_p rfl rfl h (fun m19 h => ?_)
  refine wp_run 3 (pc' := 25) (lv' := [(0, .ref a0), (1, .int a1), (2, .int a2), (3, .int a3)]) (st' := [.ref a0, .int 0, .ref a0]) (mem' := m19) rfl ?_
  refine wq_gI rfl h (fun v25 h => ?_)
  refine wp_run 2 (pc' := 30) (lv' := [(0, .ref a0), (1, .int a1), (2, .int a2), (3, .int a3)]) (st' := [.int (v25 * a2), .int 0, .ref a0]) (mem' := m19) rfl ?_
  refine wq_cI rfl (kCall_s (as := [.int 0, .int (v25 * a2)]) (rest := [.ref a0]) ⟨by decide, rfl⟩ (show 1 ≤ 8 by decide) (by decide)) h (fun r hr => ca_up (by decide) (m_Math_max_ok xm N hr)) (fun v30 m30 h => ?_)
  refine wq_nI rfl rfl h (fun m33 p33 h => ?_)
  refine wq_p rfl rfl h (fun m35 h => ?_)
  exact wq_end rfl rfl h
/-- Knitstead$Work.init()V -/
def m_Work_new (xm : Nat → Option kE) (N : Nat) (a0 : Nat) (mem : kM) : dRes :=
  dN mem (.inl (7, [.null, .int 0])) fun m5 p5 =>
  dCV (m_Needle_new xm N p5 m5) fun m9 =>
  dP xm m9 a0 10 0 (.ref p5) fun m12 =>
  dN m12 (.inl (7, [.null, .int 0])) fun m16 p16 =>
  dCV (m_Needle_new xm N p16 m16) fun m20 =>
  dP xm m20 a0 10 1 (.ref p16) fun m23 =>
  dN m23 (.inl (8, [.int 0, .int 0, .null])) fun m27 p27 =>
  dCV (m_Table_new xm N p27 4 9 9 m27) fun m36 =>
  dP xm m36 a0 10 2 (.ref p27) fun m39 =>
  some (.inl none, m39)
theorem m_Work_new_ok (xm : Nat → Option kE) (N : Nat) {a0 : Nat} {mem : kM} {R : kO × kM} (h : m_Work_new xm N a0 mem = some R) : kCa xm kSm kDfl kFty kG 3 31 [.ref a0] mem (dEq R) := by
  refine wq_ca (show 1 ≤ 1 by decide) ?_
  change kGo xm kSm kDfl kFty kG 2 31 0 [(0, .ref a0)] [] mem (dEq R)
  unfold m_Work_new at h
  refine wp_run 3 (pc' := 5) (lv' := [(0, .ref a0)]) (st' := [.ref a0]) (mem' := mem) rfl ?_
  refine wq_n rfl (by decide) rfl h (fun m5 p5 h => ?_)
  refine wp_run 1 (pc' := 9) (lv' := [(0, .ref a0)]) (st' := [.ref p5, .ref p5, .ref a0]) (mem' := m5) rfl ?_
  refine wq_cV rfl (kCall_i (as := []) (rest := [.ref p5, .ref a0]) ⟨by decide, rfl, (show 0 < 90 by decide)⟩ (show 2 ≤ 8 by decide)) h (fun r hr => ca_up (by decide) (m_Needle_new_ok xm N hr)) (fun m9 h => ?_)
  refine wq_p rfl rfl h (fun m12 h => ?_)
  refine wp_run 1 (pc' := 16) (lv' := [(0, .ref a0)]) (st' := [.ref a0]) (mem' := m12) rfl ?_
  refine wq_n rfl (by decide) rfl h (fun m16 p16 h => ?_)
  refine wp_run 1 (pc' := 20) (lv' := [(0, .ref a0)]) (st' := [.ref p16, .ref p16, .ref a0]) (mem' := m16) rfl ?_
  refine wq_cV rfl (kCall_i (as := []) (rest := [.ref p16, .ref a0]) ⟨by decide, rfl, (show 0 < 90 by decide)⟩ (show 2 ≤ 8 by decide)) h (fun r hr => ca_up (by decide) (m_Needle_new_ok xm N hr)) (fun m20 h => ?_)
  refine wq_p rfl rfl h (fun m23 h => ?_)
  refine wp_run 1 (pc' := 27) (lv' := [(0, .ref a0)]) (st' := [.ref a0]) (mem' := m23) rfl ?_
  refine wq_n rfl (by decide) rfl h (fun m27 p27 h => ?_)
  refine wp_run 4 (pc' := 36) (lv' := [(0, .ref a0)]) (st' := [.int 9, .int 9, .int 4, .ref p27, .ref p27, .ref a0]) (mem' := m27) rfl ?_
  refine wq_cV rfl (kCall_i (as := [.int 4, .int 9, .int 9]) (rest := [.ref p27, .ref a0]) ⟨by decide, rfl, (show 3 < 90 by decide)⟩ (show 2 ≤ 8 by decide)) h (fun r hr => ca_up (by decide) (m_Table_new_ok xm N hr)) (fun m36 h => ?_)
  refine wq_p rfl rfl h (fun m39 h => ?_)
  exact wq_end rfl rfl h
/-- Knitstead$History.init()V -/
def m_History_new_31 (xm : Nat → Option kE) (N : Nat) : Nat → Nat → Int32 → kM → dRes
  | 0, _, _, _ => none
  | n + 1, a0, a1, mem =>
    dGR xm mem a0 6 0 fun v33 =>
    dLen xm mem v33 fun v36 =>
    if a1 < v36 then (
      dGR xm mem a0 6 0 fun v41 =>
      dN mem (.inl (10, [.null, .null, .null, .int 0, .int 0, .int 0, .int 0, .int 0, .int 0, .int 0])) fun m45 p45 =>
      dCV (m_Work_new xm N p45 m45) fun m49 =>
      dAS xm m49 v41 a1 (some p45) fun m52 =>
      m_History_new_31 xm N n a0 (a1 + 1) m52
    ) else (
      some (.inl none, mem)
    )
theorem m_History_new_31_ok (xm : Nat → Option kE) (N : Nat) : ∀ (n : Nat) (a0 : Nat) (a1 : Int32) (mem : kM) (R : kO × kM), m_History_new_31 xm N n a0 a1 mem = some R → kGo xm kSm kDfl kFty kG 3 9 31 [(0, .ref a0), (1, .int a1)] [] mem (dEq R) := by
  intro n
  induction n with
  | zero => intro a0 a1 mem R h; cases h
  | succ n ih =>
    intro a0 a1 mem R h
    rw [m_History_new_31] at h
    refine wp_run 2 (pc' := 33) (lv' := [(0, .ref a0), (1, .int a1)]) (st' := [.ref a0, .int a1]) (mem' := mem) rfl ?_
    refine wq_gR rfl h (fun v33 h => ?_)
    refine wq_len rfl h (fun v36 h => ?_)
    refine wq_ge2 rfl h (fun h => ?_) (fun h => ?_)
    · refine wp_run 1 (pc' := 41) (lv' := [(0, .ref a0), (1, .int a1)]) (st' := [.ref a0]) (mem' := mem) rfl ?_
      refine wq_gR rfl h (fun v41 h => ?_)
      refine wp_run 1 (pc' := 45) (lv' := [(0, .ref a0), (1, .int a1)]) (st' := [.int a1, .ref v41]) (mem' := mem) rfl ?_
      refine wq_n rfl (by decide) rfl h (fun m45 p45 h => ?_)
      refine wp_run 1 (pc' := 49) (lv' := [(0, .ref a0), (1, .int a1)]) (st' := [.ref p45, .ref p45, .int a1, .ref v41]) (mem' := m45) rfl ?_
      refine wq_cV rfl (kCall_i (as := []) (rest := [.ref p45, .int a1, .ref v41]) ⟨by decide, rfl, (show 0 < 90 by decide)⟩ (show 3 ≤ 8 by decide)) h (fun r hr => ca_up (by decide) (m_Work_new_ok xm N hr)) (fun m49 h => ?_)
      refine wq_aS rfl h (fun m52 h => ?_)
      refine wp_run 2 (pc' := 31) (lv' := [(1, .int (a1 + 1)), (0, .ref a0)]) (st' := []) (mem' := m52) rfl ?_
      refine kGo_sub (lvS_of [1, 0] rfl [1, 0] rfl (by decide)) ?_
      exact ih _ _ m52 R h
    · exact wq_end rfl rfl h
def m_History_new (xm : Nat → Option kE) (N : Nat) (a0 : Nat) (mem : kM) : dRes :=
  dNA 3 mem 12 fun m7 p7 =>
  dP xm m7 a0 6 0 (.ref p7) fun m10 =>
  dNI 0 m10 12 fun m16 p16 =>
  dP xm m16 a0 6 1 (.ref p16) fun m18 =>
  dNI 0 m18 12 fun m24 p24 =>
  dP xm m24 a0 6 2 (.ref p24) fun m26 =>
  m_History_new_31 xm N N a0 0 m26
theorem m_History_new_ok (xm : Nat → Option kE) (N : Nat) {a0 : Nat} {mem : kM} {R : kO × kM} (h : m_History_new xm N a0 mem = some R) : kCa xm kSm kDfl kFty kG 4 9 [.ref a0] mem (dEq R) := by
  refine wq_ca (show 1 ≤ 2 by decide) ?_
  change kGo xm kSm kDfl kFty kG 3 9 0 [(0, .ref a0)] [] mem (dEq R)
  unfold m_History_new at h
  refine wp_run 4 (pc' := 7) (lv' := [(0, .ref a0)]) (st' := [.int 12, .ref a0]) (mem' := mem) rfl ?_
  refine wq_nA rfl h (fun m7 p7 h => ?_)
  refine wq_p rfl rfl h (fun m10 h => ?_)
  refine wp_run 2 (pc' := 16) (lv' := [(0, .ref a0)]) (st' := [.int 12, .ref a0]) (mem' := m10) rfl ?_
  refine wq_nI rfl rfl h (fun m16 p16 h => ?_)
  refine wq_p rfl rfl h (fun m18 h => ?_)
  refine wp_run 2 (pc' := 24) (lv' := [(0, .ref a0)]) (st' := [.int 12, .ref a0]) (mem' := m18) rfl ?_
  refine wq_nI rfl rfl h (fun m24 p24 h => ?_)
  refine wq_p rfl rfl h (fun m26 h => ?_)
  refine wp_run 2 (pc' := 31) (lv' := [(1, .int 0), (0, .ref a0)]) (st' := []) (mem' := m26) rfl ?_
  refine kGo_sub (lvS_of [1, 0] rfl [1, 0] rfl (by decide)) ?_
  exact m_History_new_31_ok xm N N _ _ m26 R h
/-- Knitstead$Trial.init()V -/
def m_Trial_new (xm : Nat → Option kE) (N : Nat) (a0 : Nat) (mem : kM) : dRes :=
  some (.inl none, mem)
theorem m_Trial_new_ok (xm : Nat → Option kE) (N : Nat) {a0 : Nat} {mem : kM} {R : kO × kM} (h : m_Trial_new xm N a0 mem = some R) : kCa xm kSm kDfl kFty kG 1 28 [.ref a0] mem (dEq R) := by
  refine wq_ca (show 1 ≤ 1 by decide) ?_
  change kGo xm kSm kDfl kFty kG 0 28 0 [(0, .ref a0)] [] mem (dEq R)
  unfold m_Trial_new at h
  refine wp_run 2 (pc' := 4) (lv' := [(0, .ref a0)]) (st' := []) (mem' := mem) rfl ?_
  exact wq_end rfl rfl h
/-- Knitstead.init()V -/
def m_K_new (xm : Nat → Option kE) (N : Nat) (a0 : Nat) (mem : kM) : dRes :=
  dN mem (.inl (5, [.null, .int 0, .int 0])) fun m5 p5 =>
  dCV (m_Balls_new xm N p5 m5) fun m9 =>
  dP xm m9 a0 11 0 (.ref p5) fun m12 =>
  dN m12 (.inl (10, [.null, .null, .null, .int 0, .int 0, .int 0, .int 0, .int 0, .int 0, .int 0])) fun m16 p16 =>
  dCV (m_Work_new xm N p16 m16) fun m20 =>
  dP xm m20 a0 11 1 (.ref p16) fun m23 =>
  dN m23 (.inl (8, [.int 0, .int 0, .null])) fun m27 p27 =>
  dCV (m_Table_new xm N p27 6 64 19998 m27) fun m38 =>
  dP xm m38 a0 11 2 (.ref p27) fun m41 =>
  dN m41 (.inl (8, [.int 0, .int 0, .null])) fun m45 p45 =>
  dCV (m_Table_new xm N p45 5 6 6 m45) fun m54 =>
  dP xm m54 a0 11 3 (.ref p45) fun m57 =>
  dN m57 (.inl (8, [.int 0, .int 0, .null])) fun m61 p61 =>
  dCV (m_Table_new xm N p61 9 6 6 m61) fun m71 =>
  dP xm m71 a0 11 4 (.ref p61) fun m74 =>
  dN m74 (.inl (6, [.null, .null, .null, .int 0, .int 0])) fun m78 p78 =>
  dCV (m_History_new xm N p78 m78) fun m82 =>
  dP xm m82 a0 11 5 (.ref p78) fun m85 =>
  dN m85 (.inl (9, [.int 0, .int 0, .int 0, .int 0, .int 0])) fun m89 p89 =>
  dCV (m_Trial_new xm N p89 m89) fun m93 =>
  dP xm m93 a0 11 6 (.ref p89) fun m96 =>
  some (.inl none, m96)
theorem m_K_new_ok (xm : Nat → Option kE) (N : Nat) {a0 : Nat} {mem : kM} {R : kO × kM} (h : m_K_new xm N a0 mem = some R) : kCa xm kSm kDfl kFty kG 5 39 [.ref a0] mem (dEq R) := by
  refine wq_ca (show 1 ≤ 1 by decide) ?_
  change kGo xm kSm kDfl kFty kG 4 39 0 [(0, .ref a0)] [] mem (dEq R)
  unfold m_K_new at h
  refine wp_run 3 (pc' := 5) (lv' := [(0, .ref a0)]) (st' := [.ref a0]) (mem' := mem) rfl ?_
  refine wq_n rfl (by decide) rfl h (fun m5 p5 h => ?_)
  refine wp_run 1 (pc' := 9) (lv' := [(0, .ref a0)]) (st' := [.ref p5, .ref p5, .ref a0]) (mem' := m5) rfl ?_
  refine wq_cV rfl (kCall_i (as := []) (rest := [.ref p5, .ref a0]) ⟨by decide, rfl, (show 0 < 90 by decide)⟩ (show 2 ≤ 8 by decide)) h (fun r hr => ca_up (by decide) (m_Balls_new_ok xm N hr)) (fun m9 h => ?_)
  refine wq_p rfl rfl h (fun m12 h => ?_)
  refine wp_run 1 (pc' := 16) (lv' := [(0, .ref a0)]) (st' := [.ref a0]) (mem' := m12) rfl ?_
  refine wq_n rfl (by decide) rfl h (fun m16 p16 h => ?_)
  refine wp_run 1 (pc' := 20) (lv' := [(0, .ref a0)]) (st' := [.ref p16, .ref p16, .ref a0]) (mem' := m16) rfl ?_
  refine wq_cV rfl (kCall_i (as := []) (rest := [.ref p16, .ref a0]) ⟨by decide, rfl, (show 0 < 90 by decide)⟩ (show 2 ≤ 8 by decide)) h (fun r hr => ca_up (by decide) (m_Work_new_ok xm N hr)) (fun m20 h => ?_)
  refine wq_p rfl rfl h (fun m23 h => ?_)
  refine wp_run 1 (pc' := 27) (lv' := [(0, .ref a0)]) (st' := [.ref a0]) (mem' := m23) rfl ?_
  refine wq_n rfl (by decide) rfl h (fun m27 p27 h => ?_)
  refine wp_run 4 (pc' := 38) (lv' := [(0, .ref a0)]) (st' := [.int 19998, .int 64, .int 6, .ref p27, .ref p27, .ref a0]) (mem' := m27) rfl ?_
  refine wq_cV rfl (kCall_i (as := [.int 6, .int 64, .int 19998]) (rest := [.ref p27, .ref a0]) ⟨by decide, rfl, (show 3 < 90 by decide)⟩ (show 2 ≤ 8 by decide)) h (fun r hr => ca_up (by decide) (m_Table_new_ok xm N hr)) (fun m38 h => ?_)
  refine wq_p rfl rfl h (fun m41 h => ?_)
  refine wp_run 1 (pc' := 45) (lv' := [(0, .ref a0)]) (st' := [.ref a0]) (mem' := m41) rfl ?_
  refine wq_n rfl (by decide) rfl h (fun m45 p45 h => ?_)
  refine wp_run 4 (pc' := 54) (lv' := [(0, .ref a0)]) (st' := [.int 6, .int 6, .int 5, .ref p45, .ref p45, .ref a0]) (mem' := m45) rfl ?_
  refine wq_cV rfl (kCall_i (as := [.int 5, .int 6, .int 6]) (rest := [.ref p45, .ref a0]) ⟨by decide, rfl, (show 3 < 90 by decide)⟩ (show 2 ≤ 8 by decide)) h (fun r hr => ca_up (by decide) (m_Table_new_ok xm N hr)) (fun m54 h => ?_)
  refine wq_p rfl rfl h (fun m57 h => ?_)
  refine wp_run 1 (pc' := 61) (lv' := [(0, .ref a0)]) (st' := [.ref a0]) (mem' := m57) rfl ?_
  refine wq_n rfl (by decide) rfl h (fun m61 p61 h => ?_)
  refine wp_run 4 (pc' := 71) (lv' := [(0, .ref a0)]) (st' := [.int 6, .int 6, .int 9, .ref p61, .ref p61, .ref a0]) (mem' := m61) rfl ?_
  refine wq_cV rfl (kCall_i (as := [.int 9, .int 6, .int 6]) (rest := [.ref p61, .ref a0]) ⟨by decide, rfl, (show 3 < 90 by decide)⟩ (show 2 ≤ 8 by decide)) h (fun r hr => ca_up (by decide) (m_Table_new_ok xm N hr)) (fun m71 h => ?_)
  refine wq_p rfl rfl h (fun m74 h => ?_)
  refine wp_run 1 (pc' := 78) (lv' := [(0, .ref a0)]) (st' := [.ref a0]) (mem' := m74) rfl ?_
  refine wq_n rfl (by decide) rfl h (fun m78 p78 h => ?_)
  refine wp_run 1 (pc' := 82) (lv' := [(0, .ref a0)]) (st' := [.ref p78, .ref p78, .ref a0]) (mem' := m78) rfl ?_
  refine wq_cV rfl (kCall_i (as := []) (rest := [.ref p78, .ref a0]) ⟨by decide, rfl, (show 0 < 90 by decide)⟩ (show 2 ≤ 8 by decide)) h (fun r hr => ca_up (by decide) (m_History_new_ok xm N hr)) (fun m82 h => ?_)
  refine wq_p rfl rfl h (fun m85 h => ?_)
  refine wp_run 1 (pc' := 89) (lv' := [(0, .ref a0)]) (st' := [.ref a0]) (mem' := m85) rfl ?_
  refine wq_n rfl (by decide) rfl h (fun m89 p89 h => ?_)
  refine wp_run 1 (pc' := 93) (lv' := [(0, .ref a0)]) (st' := [.ref p89, .ref p89, .ref a0]) (mem' := m89) rfl ?_
  refine wq_cV rfl (kCall_i (as := []) (rest := [.ref p89, .ref a0]) ⟨by decide, rfl, (show 0 < 90 by decide)⟩ (show 2 ≤ 8 by decide)) h (fun r hr => ca_up (by decide) (m_Trial_new_ok xm N hr)) (fun m93 h => ?_)
  refine wq_p rfl rfl h (fun m96 h => ?_)
  exact wq_end rfl rfl h
/-- Knitstead$Needle.at(I)I -/
def m_Needle_at (xm : Nat → Option kE) (N : Nat) (a0 : Nat) (a1 : Int32) (mem : kM) : dRes :=
  dGI xm mem a0 7 1 fun v1 =>
  if a1 < 0 then (
    some (.inl (some (.int (-1))), mem)
  ) else (
    if ((v1 - 1) - a1) < 0 then (
      some (.inl (some (.int (-1))), mem)
    ) else (
      dGR xm mem a0 7 0 fun v19 =>
      dLen xm mem v19 fun v22 =>
      if ((v1 - 1) - a1) < v22 then (
        dGR xm mem a0 7 0 fun v27 =>
        dIL xm 0 mem v27 ((v1 - 1) - a1) fun v31 =>
        some (.inl (some (.int v31)), mem)
      ) else (
        some (.inl (some (.int (-1))), mem)
      )
    )
  )
theorem m_Needle_at_ok (xm : Nat → Option kE) (N : Nat) {a0 : Nat} {a1 : Int32} {mem : kM} {R : kO × kM} (h : m_Needle_at xm N a0 a1 mem = some R) : kCa xm kSm kDfl kFty kG 1 14 [.ref a0, .int a1] mem (dEq R) := by
  refine wq_ca (show 2 ≤ 3 by decide) ?_
  change kGo xm kSm kDfl kFty kG 0 14 0 [(0, .ref a0), (1, .int a1)] [] mem (dEq R)
  unfold m_Needle_at at h
  refine wp_run 1 (pc' := 1) (lv' := [(0, .ref a0), (1, .int a1)]) (st' := [.ref a0]) (mem' := mem) rfl ?_
  refine wq_gI rfl h (fun v1 h => ?_)
  refine wp_run 6 (pc' := 10) (lv' := [(2, .int ((v1 - 1) - a1)), (0, .ref a0), (1, .int a1)]) (st' := [.int a1]) (mem' := mem) rfl ?_
  refine wq_lt rfl h (fun h => ?_) (fun h => ?_)
  · refine wp_run 1 (pc' := 36) (lv' := [(2, .int ((v1 - 1) - a1)), (0, .ref a0), (1, .int a1)]) (st' := [.int (-1)]) (mem' := mem) rfl ?_
    exact wq_ret rfl rfl h
  · refine wp_run 1 (pc' := 14) (lv' := [(2, .int ((v1 - 1) - a1)), (0, .ref a0), (1, .int a1)]) (st' := [.int ((v1 - 1) - a1)]) (mem' := mem) rfl ?_
    refine wq_lt rfl h (fun h => ?_) (fun h => ?_)
    · refine wp_run 1 (pc' := 36) (lv' := [(2, .int ((v1 - 1) - a1)), (0, .ref a0), (1, .int a1)]) (st' := [.int (-1)]) (mem' := mem) rfl ?_
      exact wq_ret rfl rfl h
    · refine wp_run 2 (pc' := 19) (lv' := [(2, .int ((v1 - 1) - a1)), (0, .ref a0), (1, .int a1)]) (st' := [.ref a0, .int ((v1 - 1) - a1)]) (mem' := mem) rfl ?_
      refine wq_gR rfl h (fun v19 h => ?_)
      refine wq_len rfl h (fun v22 h => ?_)
      refine wq_ge2 rfl h (fun h => ?_) (fun h => ?_)
      · refine wp_run 1 (pc' := 27) (lv' := [(2, .int ((v1 - 1) - a1)), (0, .ref a0), (1, .int a1)]) (st' := [.ref a0]) (mem' := mem) rfl ?_
        refine wq_gR rfl h (fun v27 h => ?_)
        refine wp_run 1 (pc' := 31) (lv' := [(2, .int ((v1 - 1) - a1)), (0, .ref a0), (1, .int a1)]) (st' := [.int ((v1 - 1) - a1), .ref v27]) (mem' := mem) rfl ?_
        refine wq_iL rfl h (fun v31 h => ?_)
        refine wp_run 1 (pc' := 36) (lv' := [(2, .int ((v1 - 1) - a1)), (0, .ref a0), (1, .int a1)]) (st' := [.int v31]) (mem' := mem) rfl ?_
        exact wq_ret rfl rfl h
      · refine wp_run 1 (pc' := 36) (lv' := [(2, .int ((v1 - 1) - a1)), (0, .ref a0), (1, .int a1)]) (st' := [.int (-1)]) (mem' := mem) rfl ?_
        exact wq_ret rfl rfl h
/-- Knitstead.needle(Z)LKnitstead$Needle; -/
def m_K_needle (xm : Nat → Option kE) (N : Nat) (a0 : Nat) (a1 : Int32) (mem : kM) : dRes :=
  if a1 = 0 then (
    dGR xm mem a0 11 1 fun v15 =>
    dGR xm mem v15 10 0 fun v18 =>
    some (.inl (some (.ref v18)), mem)
  ) else (
    dGR xm mem a0 11 1 fun v5 =>
    dGR xm mem v5 10 1 fun v8 =>
    some (.inl (some (.ref v8)), mem)
  )
theorem m_K_needle_ok (xm : Nat → Option kE) (N : Nat) {a0 : Nat} {a1 : Int32} {mem : kM} {R : kO × kM} (h : m_K_needle xm N a0 a1 mem = some R) : kCa xm kSm kDfl kFty kG 1 89 [.ref a0, .int a1] mem (dEq R) := by
  refine wq_ca (show 2 ≤ 2 by decide) ?_
  change kGo xm kSm kDfl kFty kG 0 89 0 [(0, .ref a0), (1, .int a1)] [] mem (dEq R)
  unfold m_K_needle at h
  refine wp_run 1 (pc' := 1) (lv' := [(0, .ref a0), (1, .int a1)]) (st' := [.int a1]) (mem' := mem) rfl ?_
  refine wq_eq rfl h (fun h => ?_) (fun h => ?_)
  · refine wp_run 1 (pc' := 15) (lv' := [(0, .ref a0), (1, .int a1)]) (st' := [.ref a0]) (mem' := mem) rfl ?_
    refine wq_gR rfl h (fun v15 h => ?_)
    refine wq_gR rfl h (fun v18 h => ?_)
    exact wq_end rfl rfl h
  · refine wp_run 1 (pc' := 5) (lv' := [(0, .ref a0), (1, .int a1)]) (st' := [.ref a0]) (mem' := mem) rfl ?_
    refine wq_gR rfl h (fun v5 h => ?_)
    refine wq_gR rfl h (fun v8 h => ?_)
    refine wp_run 1 (pc' := 21) (lv' := [(0, .ref a0), (1, .int a1)]) (st' := [.ref v8]) (mem' := mem) rfl ?_
    exact wq_end rfl rfl h
/-- Knitstead$Table.cellOf(II)I -/
def m_Table_cellOf_29 (xm : Nat → Option kE) (N : Nat) (a0 : Nat) (a1 : Int32) (a2 : Int32) (s0 : Int32) (mem : kM) : dRes :=
  if s0 = 0 then (
    some (.inl (some (.int (-1))), mem)
  ) else (
    dGI xm mem a0 8 0 fun v36 =>
    some (.inl (some (.int ((a1 * v36) + a2))), mem)
  )
theorem m_Table_cellOf_29_ok (xm : Nat → Option kE) (N : Nat) : ∀ (a0 : Nat) (a1 : Int32) (a2 : Int32) (s0 : Int32) (mem : kM) (R : kO × kM), m_Table_cellOf_29 xm N a0 a1 a2 s0 mem = some R → kGo xm kSm kDfl kFty kG 0 23 29 [(0, .ref a0), (1, .int a1), (2, .int a2)] [.int s0] mem (dEq R) := by
  intro a0 a1 a2 s0 mem R h
  unfold m_Table_cellOf_29 at h
  refine wp_run 2 (pc' := 31) (lv' := [(3, .int s0), (0, .ref a0), (1, .int a1), (2, .int a2)]) (st' := [.int s0]) (mem' := mem) rfl ?_
  refine wq_eq rfl h (fun h => ?_) (fun h => ?_)
  · refine wp_run 1 (pc' := 46) (lv' := [(3, .int s0), (0, .ref a0), (1, .int a1), (2, .int a2)]) (st' := [.int (-1)]) (mem' := mem) rfl ?_
    exact wq_ret rfl rfl h
  · refine wp_run 2 (pc' := 36) (lv' := [(3, .int s0), (0, .ref a0), (1, .int a1), (2, .int a2)]) (st' := [.ref a0, .int a1]) (mem' := mem) rfl ?_
    refine wq_gI rfl h (fun v36 h => ?_)
    refine wp_run 4 (pc' := 46) (lv' := [(3, .int s0), (0, .ref a0), (1, .int a1), (2, .int a2)]) (st' := [.int ((a1 * v36) + a2)]) (mem' := mem) rfl ?_
    exact wq_ret rfl rfl h
def m_Table_cellOf_28 (xm : Nat → Option kE) (N : Nat) (a0 : Nat) (a1 : Int32) (a2 : Int32) (mem : kM) : dRes :=
  m_Table_cellOf_29 xm N a0 a1 a2 0 mem
theorem m_Table_cellOf_28_ok (xm : Nat → Option kE) (N : Nat) : ∀ (a0 : Nat) (a1 : Int32) (a2 : Int32) (mem : kM) (R : kO × kM), m_Table_cellOf_28 xm N a0 a1 a2 mem = some R → kGo xm kSm kDfl kFty kG 0 23 28 [(0, .ref a0), (1, .int a1), (2, .int a2)] [] mem (dEq R) := by
  intro a0 a1 a2 mem R h
  unfold m_Table_cellOf_28 at h
  refine wp_run 1 (pc' := 29) (lv' := [(0, .ref a0), (1, .int a1), (2, .int a2)]) (st' := [.int 0]) (mem' := mem) rfl ?_
  exact m_Table_cellOf_29_ok xm N _ _ _ _ mem R h
def m_Table_cellOf (xm : Nat → Option kE) (N : Nat) (a0 : Nat) (a1 : Int32) (a2 : Int32) (mem : kM) : dRes :=
  if a1 < 0 then (
    m_Table_cellOf_28 xm N a0 a1 a2 mem
  ) else (
    dGI xm mem a0 8 1 fun v6 =>
    if a1 < v6 then (
      if a2 < 0 then (
        m_Table_cellOf_28 xm N a0 a1 a2 mem
      ) else (
        dGI xm mem a0 8 0 fun v18 =>
        if a2 < v18 then (
          m_Table_cellOf_29 xm N a0 a1 a2 1 mem
        ) else (
          m_Table_cellOf_28 xm N a0 a1 a2 mem
        )
      )
    ) else (
      m_Table_cellOf_28 xm N a0 a1 a2 mem
    )
  )
theorem m_Table_cellOf_ok (xm : Nat → Option kE) (N : Nat) {a0 : Nat} {a1 : Int32} {a2 : Int32} {mem : kM} {R : kO × kM} (h : m_Table_cellOf xm N a0 a1 a2 mem = some R) : kCa xm kSm kDfl kFty kG 1 23 [.ref a0, .int a1, .int a2] mem (dEq R) := by
  refine wq_ca (show 3 ≤ 4 by decide) ?_
  change kGo xm kSm kDfl kFty kG 0 23 0 [(0, .ref a0), (1, .int a1), (2, .int a2)] [] mem (dEq R)
  unfold m_Table_cellOf at h
  refine wp_run 1 (pc' := 1) (lv' := [(0, .ref a0), (1, .int a1), (2, .int a2)]) (st' := [.int a1]) (mem' := mem) rfl ?_
  refine wq_lt rfl h (fun h => ?_) (fun h => ?_)
  · exact m_Table_cellOf_28_ok xm N _ _ _ mem R h
  · refine wp_run 2 (pc' := 6) (lv' := [(0, .ref a0), (1, .int a1), (2, .int a2)]) (st' := [.ref a0, .int a1]) (mem' := mem) rfl ?_
    refine wq_gI rfl h (fun v6 h => ?_)
    refine wq_ge2 rfl h (fun h => ?_) (fun h => ?_)
    · refine wp_run 1 (pc' := 13) (lv' := [(0, .ref a0), (1, .int a1), (2, .int a2)]) (st' := [.int a2]) (mem' := mem) rfl ?_
      refine wq_lt rfl h (fun h => ?_) (fun h => ?_)
      · exact m_Table_cellOf_28_ok xm N _ _ _ mem R h
      · refine wp_run 2 (pc' := 18) (lv' := [(0, .ref a0), (1, .int a1), (2, .int a2)]) (st' := [.ref a0, .int a2]) (mem' := mem) rfl ?_
        refine wq_gI rfl h (fun v18 h => ?_)
        refine wq_ge2 rfl h (fun h => ?_) (fun h => ?_)
        · refine wp_run 2 (pc' := 29) (lv' := [(0, .ref a0), (1, .int a1), (2, .int a2)]) (st' := [.int 1]) (mem' := mem) rfl ?_
          exact m_Table_cellOf_29_ok xm N _ _ _ _ mem R h
        · exact m_Table_cellOf_28_ok xm N _ _ _ mem R h
    · exact m_Table_cellOf_28_ok xm N _ _ _ mem R h
/-- Knitstead$Table.get(II)I -/
def m_Table_get (xm : Nat → Option kE) (N : Nat) (a0 : Nat) (a1 : Int32) (a2 : Int32) (mem : kM) : dRes :=
  dRc xm mem a0 8 <|
  dCI (m_Table_cellOf xm N a0 a1 a2 mem) fun v3 m3 =>
  if v3 < 0 then (
    some (.inl (some (.int 0)), m3)
  ) else (
    dGR xm m3 a0 8 2 fun v13 =>
    dLen xm m3 v13 fun v16 =>
    if v3 < v16 then (
      dGR xm m3 a0 8 2 fun v21 =>
      dIL xm 0 m3 v21 v3 fun v25 =>
      some (.inl (some (.int v25)), m3)
    ) else (
      some (.inl (some (.int 0)), m3)
    )
  )
theorem m_Table_get_ok (xm : Nat → Option kE) (N : Nat) {a0 : Nat} {a1 : Int32} {a2 : Int32} {mem : kM} {R : kO × kM} (h : m_Table_get xm N a0 a1 a2 mem = some R) : kCa xm kSm kDfl kFty kG 2 24 [.ref a0, .int a1, .int a2] mem (dEq R) := by
  refine wq_ca (show 3 ≤ 4 by decide) ?_
  change kGo xm kSm kDfl kFty kG 1 24 0 [(0, .ref a0), (1, .int a1), (2, .int a2)] [] mem (dEq R)
  unfold m_Table_get at h
  refine wp_run 3 (pc' := 3) (lv' := [(0, .ref a0), (1, .int a1), (2, .int a2)]) (st' := [.int a2, .int a1, .ref a0]) (mem' := mem) rfl ?_
  obtain ⟨fk3, hk3, h⟩ := dRc_some h
  refine wq_cI rfl (kCall_v hk3 (as := [.int a1, .int a2]) (rest := []) ⟨by decide, rfl, (show 2 < 90 by decide), by decide⟩ (show 0 ≤ 8 by decide)) h (fun r hr => ca_up (by decide) (m_Table_cellOf_ok xm N hr)) (fun v3 m3 h => ?_)
  refine wp_run 2 (pc' := 8) (lv' := [(3, .int v3), (0, .ref a0), (1, .int a1), (2, .int a2)]) (st' := [.int v3]) (mem' := m3) rfl ?_
  refine wq_lt rfl h (fun h => ?_) (fun h => ?_)
  · refine wp_run 1 (pc' := 30) (lv' := [(3, .int v3), (0, .ref a0), (1, .int a1), (2, .int a2)]) (st' := [.int 0]) (mem' := m3) rfl ?_
    exact wq_ret rfl rfl h
  · refine wp_run 2 (pc' := 13) (lv' := [(3, .int v3), (0, .ref a0), (1, .int a1), (2, .int a2)]) (st' := [.ref a0, .int v3]) (mem' := m3) rfl ?_
    refine wq_gR rfl h (fun v13 h => ?_)
    refine wq_len rfl h (fun v16 h => ?_)
    refine wq_ge2 rfl h (fun h => ?_) (fun h => ?_)
    · refine wp_run 1 (pc' := 21) (lv' := [(3, .int v3), (0, .ref a0), (1, .int a1), (2, .int a2)]) (st' := [.ref a0]) (mem' := m3) rfl ?_
      refine wq_gR rfl h (fun v21 h => ?_)
      refine wp_run 1 (pc' := 25) (lv' := [(3, .int v3), (0, .ref a0), (1, .int a1), (2, .int a2)]) (st' := [.int v3, .ref v21]) (mem' := m3) rfl ?_
      refine wq_iL rfl h (fun v25 h => ?_)
      refine wp_run 1 (pc' := 30) (lv' := [(3, .int v3), (0, .ref a0), (1, .int a1), (2, .int a2)]) (st' := [.int v25]) (mem' := m3) rfl ?_
      exact wq_ret rfl rfl h
    · refine wp_run 1 (pc' := 30) (lv' := [(3, .int v3), (0, .ref a0), (1, .int a1), (2, .int a2)]) (st' := [.int 0]) (mem' := m3) rfl ?_
      exact wq_ret rfl rfl h
/-- Knitstead.isAsMade(I)Z -/
def m_K_isAsMade (xm : Nat → Option kE) (N : Nat) (a0 : Nat) (a1 : Int32) (mem : kM) : dRes :=
  dGR xm mem a0 11 2 fun v1 =>
  dRc xm mem v1 8 <|
  dCI (m_Table_get xm N v1 a1 2 mem) fun v6 m6 =>
  dGR xm m6 a0 11 1 fun v10 =>
  dGI xm m6 v10 10 5 fun v13 =>
  if ((v6 ^^^ v13) &&& 1) = 0 then (
    some (.inl (some (.int 1)), m6)
  ) else (
    some (.inl (some (.int 0)), m6)
  )
theorem m_K_isAsMade_ok (xm : Nat → Option kE) (N : Nat) {a0 : Nat} {a1 : Int32} {mem : kM} {R : kO × kM} (h : m_K_isAsMade xm N a0 a1 mem = some R) : kCa xm kSm kDfl kFty kG 3 92 [.ref a0, .int a1] mem (dEq R) := by
  refine wq_ca (show 2 ≤ 2 by decide) ?_
  change kGo xm kSm kDfl kFty kG 2 92 0 [(0, .ref a0), (1, .int a1)] [] mem (dEq R)
  unfold m_K_isAsMade at h
  refine wp_run 1 (pc' := 1) (lv' := [(0, .ref a0), (1, .int a1)]) (st' := [.ref a0]) (mem' := mem) rfl ?_
  refine wq_gR rfl h (fun v1 h => ?_)
  refine wp_run 2 (pc' := 6) (lv' := [(0, .ref a0), (1, .int a1)]) (st' := [.int 2, .int a1, .ref v1]) (mem' := mem) rfl ?_
  obtain ⟨fk6, hk6, h⟩ := dRc_some h
  refine wq_cI rfl (kCall_v hk6 (as := [.int a1, .int 2]) (rest := []) ⟨by decide, rfl, (show 2 < 90 by decide), by decide⟩ (show 0 ≤ 8 by decide)) h (fun r hr => ca_up (by decide) (m_Table_get_ok xm N hr)) (fun v6 m6 h => ?_)
  refine wp_run 1 (pc' := 10) (lv' := [(0, .ref a0), (1, .int a1)]) (st' := [.ref a0, .int v6]) (mem' := m6) rfl ?_
  refine wq_gR rfl h (fun v10 h => ?_)
  refine wq_gI rfl h (fun v13 h => ?_)
  refine wp_run 3 (pc' := 19) (lv' := [(0, .ref a0), (1, .int a1)]) (st' := [.int ((v6 ^^^ v13) &&& 1)]) (mem' := m6) rfl ?_
  refine wq_ne rfl h (fun h => ?_) (fun h => ?_)
  · refine wp_run 2 (pc' := 27) (lv' := [(0, .ref a0), (1, .int a1)]) (st' := [.int 1]) (mem' := m6) rfl ?_
    exact wq_ret rfl rfl h
  · refine wp_run 1 (pc' := 27) (lv' := [(0, .ref a0), (1, .int a1)]) (st' := [.int 0]) (mem' := m6) rfl ?_
    exact wq_ret rfl rfl h
/-- Knitstead.isSmooth(I)Z -/
def m_K_isSmooth_24 (xm : Nat → Option kE) (N : Nat) (a0 : Nat) (a1 : Int32) (s0 : Int32) (mem : kM) : dRes :=
  dRc xm mem a0 11 <|
  dCI (m_K_isAsMade xm N a0 a1 mem) fun v28 m28 =>
  if s0 = v28 then (
    some (.inl (some (.int 1)), m28)
  ) else (
    some (.inl (some (.int 0)), m28)
  )
theorem m_K_isSmooth_24_ok (xm : Nat → Option kE) (N : Nat) : ∀ (a0 : Nat) (a1 : Int32) (s0 : Int32) (mem : kM) (R : kO × kM), m_K_isSmooth_24 xm N a0 a1 s0 mem = some R → kGo xm kSm kDfl kFty kG 3 93 24 [(0, .ref a0), (1, .int a1)] [.int s0] mem (dEq R) := by
  intro a0 a1 s0 mem R h
  unfold m_K_isSmooth_24 at h
  refine wp_run 4 (pc' := 28) (lv' := [(3, .int s0), (0, .ref a0), (1, .int a1)]) (st' := [.int a1, .ref a0, .int s0]) (mem' := mem) rfl ?_
  obtain ⟨fk28, hk28, h⟩ := dRc_some h
  refine wq_cI rfl (kCall_v hk28 (as := [.int a1]) (rest := [.int s0]) ⟨by decide, rfl, (show 1 < 90 by decide), by decide⟩ (show 1 ≤ 8 by decide)) h (fun r hr => ca_up (by decide) (m_K_isAsMade_ok xm N hr)) (fun v28 m28 h => ?_)
  refine wq_ne2 rfl h (fun h => ?_) (fun h => ?_)
  · refine wp_run 2 (pc' := 39) (lv' := [(3, .int s0), (0, .ref a0), (1, .int a1)]) (st' := [.int 1]) (mem' := m28) rfl ?_
    exact wq_ret rfl rfl h
  · refine wp_run 1 (pc' := 39) (lv' := [(3, .int s0), (0, .ref a0), (1, .int a1)]) (st' := [.int 0]) (mem' := m28) rfl ?_
    exact wq_ret rfl rfl h
def m_K_isSmooth_23 (xm : Nat → Option kE) (N : Nat) (a0 : Nat) (a1 : Int32) (mem : kM) : dRes :=
  m_K_isSmooth_24 xm N a0 a1 0 mem
theorem m_K_isSmooth_23_ok (xm : Nat → Option kE) (N : Nat) : ∀ (a0 : Nat) (a1 : Int32) (mem : kM) (R : kO × kM), m_K_isSmooth_23 xm N a0 a1 mem = some R → kGo xm kSm kDfl kFty kG 3 93 23 [(0, .ref a0), (1, .int a1)] [] mem (dEq R) := by
  intro a0 a1 mem R h
  unfold m_K_isSmooth_23 at h
  refine wp_run 1 (pc' := 24) (lv' := [(0, .ref a0), (1, .int a1)]) (st' := [.int 0]) (mem' := mem) rfl ?_
  exact m_K_isSmooth_24_ok xm N _ _ _ mem R h
def m_K_isSmooth (xm : Nat → Option kE) (N : Nat) (a0 : Nat) (a1 : Int32) (mem : kM) : dRes :=
  dGR xm mem a0 11 2 fun v1 =>
  dRc xm mem v1 8 <|
  dCI (m_Table_get xm N v1 a1 0 mem) fun v6 m6 =>
  if v6 = 0 then (
    m_K_isSmooth_23 xm N a0 a1 m6
  ) else (
    if v6 = 2 then (
      m_K_isSmooth_23 xm N a0 a1 m6
    ) else (
      m_K_isSmooth_24 xm N a0 a1 1 m6
    )
  )
theorem m_K_isSmooth_ok (xm : Nat → Option kE) (N : Nat) {a0 : Nat} {a1 : Int32} {mem : kM} {R : kO × kM} (h : m_K_isSmooth xm N a0 a1 mem = some R) : kCa xm kSm kDfl kFty kG 4 93 [.ref a0, .int a1] mem (dEq R) := by
  refine wq_ca (show 2 ≤ 4 by decide) ?_
  change kGo xm kSm kDfl kFty kG 3 93 0 [(0, .ref a0), (1, .int a1)] [] mem (dEq R)
  unfold m_K_isSmooth at h
  refine wp_run 1 (pc' := 1) (lv' := [(0, .ref a0), (1, .int a1)]) (st' := [.ref a0]) (mem' := mem) rfl ?_
  refine wq_gR rfl h (fun v1 h => ?_)
  refine wp_run 2 (pc' := 6) (lv' := [(0, .ref a0), (1, .int a1)]) (st' := [.int 0, .int a1, .ref v1]) (mem' := mem) rfl ?_
  obtain ⟨fk6, hk6, h⟩ := dRc_some h
  refine wq_cI rfl (kCall_v hk6 (as := [.int a1, .int 0]) (rest := []) ⟨by decide, rfl, (show 2 < 90 by decide), by decide⟩ (show 0 ≤ 8 by decide)) h (fun r hr => ca_up (by decide) (m_Table_get_ok xm N hr)) (fun v6 m6 h => ?_)
  refine wp_run 2 (pc' := 11) (lv' := [(2, .int v6), (0, .ref a0), (1, .int a1)]) (st' := [.int v6]) (mem' := m6) rfl ?_
  refine wq_eq rfl h (fun h => ?_) (fun h => ?_)
  · refine kGo_sub (lvS_of [1, 2] rfl [2, 0, 1] rfl (by decide)) ?_
    exact m_K_isSmooth_23_ok xm N _ _ m6 R h
  · refine wp_run 2 (pc' := 16) (lv' := [(2, .int v6), (0, .ref a0), (1, .int a1)]) (st' := [.int 2, .int v6]) (mem' := m6) rfl ?_
    refine wq_eq2 rfl h (fun h => ?_) (fun h => ?_)
    · refine kGo_sub (lvS_of [1, 2] rfl [2, 0, 1] rfl (by decide)) ?_
      exact m_K_isSmooth_23_ok xm N _ _ m6 R h
    · refine wp_run 2 (pc' := 24) (lv' := [(2, .int v6), (0, .ref a0), (1, .int a1)]) (st' := [.int 1]) (mem' := m6) rfl ?_
      refine kGo_sub (lvS_of [1, 2] rfl [2, 0, 1] rfl (by decide)) ?_
      exact m_K_isSmooth_24_ok xm N _ _ _ m6 R h
/-- Knitstead.signOf(I)C -/
def m_K_signOf_38 (xm : Nat → Option kE) (N : Nat) (a0 : Nat) (a1 : Int32) (s0 : Int32) (mem : kM) : dRes :=
  dRc xm mem a0 11 <|
  dCI (m_K_isAsMade xm N a0 a1 mem) fun v40 m40 =>
  if s0 = v40 then (
    some (.inl (some (.int 60)), m40)
  ) else (
    some (.inl (some (.int 62)), m40)
  )
theorem m_K_signOf_38_ok (xm : Nat → Option kE) (N : Nat) : ∀ (a0 : Nat) (a1 : Int32) (s0 : Int32) (mem : kM) (R : kO × kM), m_K_signOf_38 xm N a0 a1 s0 mem = some R → kGo xm kSm kDfl kFty kG 4 94 38 [(0, .ref a0), (1, .int a1)] [.int s0] mem (dEq R) := by
  intro a0 a1 s0 mem R h
  unfold m_K_signOf_38 at h
  refine wp_run 2 (pc' := 40) (lv' := [(0, .ref a0), (1, .int a1)]) (st' := [.int a1, .ref a0, .int s0]) (mem' := mem) rfl ?_
  obtain ⟨fk40, hk40, h⟩ := dRc_some h
  refine wq_cI rfl (kCall_v hk40 (as := [.int a1]) (rest := [.int s0]) ⟨by decide, rfl, (show 1 < 90 by decide), by decide⟩ (show 1 ≤ 8 by decide)) h (fun r hr => ca_up (by decide) (m_K_isAsMade_ok xm N hr)) (fun v40 m40 h => ?_)
  refine wq_ne2 rfl h (fun h => ?_) (fun h => ?_)
  · refine wp_run 2 (pc' := 53) (lv' := [(0, .ref a0), (1, .int a1)]) (st' := [.int 60]) (mem' := m40) rfl ?_
    exact wq_ret rfl rfl h
  · refine wp_run 1 (pc' := 53) (lv' := [(0, .ref a0), (1, .int a1)]) (st' := [.int 62]) (mem' := m40) rfl ?_
    exact wq_ret rfl rfl h
def m_K_signOf_28 (xm : Nat → Option kE) (N : Nat) (a0 : Nat) (a1 : Int32) (a2 : Int32) (mem : kM) : dRes :=
  if a2 = 4 then (
    m_K_signOf_38 xm N a0 a1 1 mem
  ) else (
    m_K_signOf_38 xm N a0 a1 0 mem
  )
theorem m_K_signOf_28_ok (xm : Nat → Option kE) (N : Nat) : ∀ (a0 : Nat) (a1 : Int32) (a2 : Int32) (mem : kM) (R : kO × kM), m_K_signOf_28 xm N a0 a1 a2 mem = some R → kGo xm kSm kDfl kFty kG 4 94 28 [(0, .ref a0), (1, .int a1), (2, .int a2)] [] mem (dEq R) := by
  intro a0 a1 a2 mem R h
  unfold m_K_signOf_28 at h
  refine wp_run 2 (pc' := 30) (lv' := [(0, .ref a0), (1, .int a1), (2, .int a2)]) (st' := [.int 4, .int a2]) (mem' := mem) rfl ?_
  refine wq_ne2 rfl h (fun h => ?_) (fun h => ?_)
  · refine wp_run 2 (pc' := 38) (lv' := [(0, .ref a0), (1, .int a1), (2, .int a2)]) (st' := [.int 1]) (mem' := mem) rfl ?_
    refine kGo_sub (lvS_of [0, 1] rfl [0, 1, 2] rfl (by decide)) ?_
    exact m_K_signOf_38_ok xm N _ _ _ mem R h
  · refine wp_run 1 (pc' := 38) (lv' := [(0, .ref a0), (1, .int a1), (2, .int a2)]) (st' := [.int 0]) (mem' := mem) rfl ?_
    refine kGo_sub (lvS_of [0, 1] rfl [0, 1, 2] rfl (by decide)) ?_
    exact m_K_signOf_38_ok xm N _ _ _ mem R h
def m_K_signOf (xm : Nat → Option kE) (N : Nat) (a0 : Nat) (a1 : Int32) (mem : kM) : dRes :=
  dGR xm mem a0 11 2 fun v1 =>
  dRc xm mem v1 8 <|
  dCI (m_Table_get xm N v1 a1 0 mem) fun v6 m6 =>
  if v6 = 3 then (
    some (.inl (some (.int 111)), m6)
  ) else (
    if v6 = 4 then (
      m_K_signOf_28 xm N a0 a1 v6 m6
    ) else (
      if v6 = 5 then (
        m_K_signOf_28 xm N a0 a1 v6 m6
      ) else (
        dRc xm m6 a0 11 <|
        dCI (m_K_isSmooth xm N a0 a1 m6) fun v56 m56 =>
        if v56 = 0 then (
          some (.inl (some (.int 45)), m56)
        ) else (
          some (.inl (some (.int 118)), m56)
        )
      )
    )
  )
theorem m_K_signOf_ok (xm : Nat → Option kE) (N : Nat) {a0 : Nat} {a1 : Int32} {mem : kM} {R : kO × kM} (h : m_K_signOf xm N a0 a1 mem = some R) : kCa xm kSm kDfl kFty kG 5 94 [.ref a0, .int a1] mem (dEq R) := by
  refine wq_ca (show 2 ≤ 3 by decide) ?_
  change kGo xm kSm kDfl kFty kG 4 94 0 [(0, .ref a0), (1, .int a1)] [] mem (dEq R)
  unfold m_K_signOf at h
  refine wp_run 1 (pc' := 1) (lv' := [(0, .ref a0), (1, .int a1)]) (st' := [.ref a0]) (mem' := mem) rfl ?_
  refine wq_gR rfl h (fun v1 h => ?_)
  refine wp_run 2 (pc' := 6) (lv' := [(0, .ref a0), (1, .int a1)]) (st' := [.int 0, .int a1, .ref v1]) (mem' := mem) rfl ?_
  obtain ⟨fk6, hk6, h⟩ := dRc_some h
  refine wq_cI rfl (kCall_v hk6 (as := [.int a1, .int 0]) (rest := []) ⟨by decide, rfl, (show 2 < 90 by decide), by decide⟩ (show 0 ≤ 8 by decide)) h (fun r hr => ca_up (by decide) (m_Table_get_ok xm N hr)) (fun v6 m6 h => ?_)
  refine wp_run 3 (pc' := 12) (lv' := [(2, .int v6), (0, .ref a0), (1, .int a1)]) (st' := [.int 3, .int v6]) (mem' := m6) rfl ?_
  refine wq_ne2 rfl h (fun h => ?_) (fun h => ?_)
  · refine wp_run 1 (pc' := 17) (lv' := [(2, .int v6), (0, .ref a0), (1, .int a1)]) (st' := [.int 111]) (mem' := m6) rfl ?_
    exact wq_ret rfl rfl h
  · refine wp_run 2 (pc' := 20) (lv' := [(2, .int v6), (0, .ref a0), (1, .int a1)]) (st' := [.int 4, .int v6]) (mem' := m6) rfl ?_
    refine wq_eq2 rfl h (fun h => ?_) (fun h => ?_)
    · refine kGo_sub (lvS_of [1, 2, 0] rfl [2, 0, 1] rfl (by decide)) ?_
      exact m_K_signOf_28_ok xm N _ _ _ m6 R h
    · refine wp_run 2 (pc' := 25) (lv' := [(2, .int v6), (0, .ref a0), (1, .int a1)]) (st' := [.int 5, .int v6]) (mem' := m6) rfl ?_
      refine wq_ne2 rfl h (fun h => ?_) (fun h => ?_)
      · refine kGo_sub (lvS_of [1, 2, 0] rfl [2, 0, 1] rfl (by decide)) ?_
        exact m_K_signOf_28_ok xm N _ _ _ m6 R h
      · refine wp_run 2 (pc' := 56) (lv' := [(2, .int v6), (0, .ref a0), (1, .int a1)]) (st' := [.int a1, .ref a0]) (mem' := m6) rfl ?_
        obtain ⟨fk56, hk56, h⟩ := dRc_some h
        refine wq_cI rfl (kCall_v hk56 (as := [.int a1]) (rest := []) ⟨by decide, rfl, (show 1 < 90 by decide), by decide⟩ (show 0 ≤ 8 by decide)) h (fun r hr => ca_up (by decide) (m_K_isSmooth_ok xm N hr)) (fun v56 m56 h => ?_)
        refine wq_eq rfl h (fun h => ?_) (fun h => ?_)
        · refine wp_run 1 (pc' := 69) (lv' := [(2, .int v6), (0, .ref a0), (1, .int a1)]) (st' := [.int 45]) (mem' := m56) rfl ?_
          exact wq_ret rfl rfl h
        · refine wp_run 2 (pc' := 69) (lv' := [(2, .int v6), (0, .ref a0), (1, .int a1)]) (st' := [.int 118]) (mem' := m56) rfl ?_
          exact wq_ret rfl rfl h
/-- java/lang/AbstractStringBuilder.init(I)V -/
def m_ASB_new (xm : Nat → Option kE) (N : Nat) (a0 : Nat) (a1 : Int32) (mem : kM) : dRes :=
  if (1 : Int32) = 0 then (
    none
  ) else (
    dNI 1 mem a1 fun m12 p12 =>
    dP xm m12 a0 1 0 (.ref p12) fun m14 =>
    dP xm m14 a0 1 1 (.int 0) fun m19 =>
    some (.inl none, m19)
  )
theorem m_ASB_new_ok (xm : Nat → Option kE) (N : Nat) {a0 : Nat} {a1 : Int32} {mem : kM} {R : kO × kM} (h : m_ASB_new xm N a0 a1 mem = some R) : kCa xm kSm kDfl kFty kG 1 167 [.ref a0, .int a1] mem (dEq R) := by
  refine wq_ca (show 2 ≤ 2 by decide) ?_
  change kGo xm kSm kDfl kFty kG 0 167 0 [(0, .ref a0), (1, .int a1)] [] mem (dEq R)
  unfold m_ASB_new at h
  refine wp_run 3 (pc' := 7) (lv' := [(0, .ref a0), (1, .int a1)]) (st' := [.int 1]) (mem' := mem) rfl ?_
  refine wq_eq rfl h (fun h => ?_) (fun h => ?_)
  · refine wp_run 2 (pc' := 27) (lv' := [(0, .ref a0), (1, .int a1)]) (st' := [.int a1, .ref a0]) (mem' := mem) rfl ?_
    cases h
  · refine wp_run 2 (pc' := 12) (lv' := [(0, .ref a0), (1, .int a1)]) (st' := [.int a1, .ref a0]) (mem' := mem) rfl ?_
    refine wq_nI rfl rfl h (fun m12 p12 h => ?_)
    refine wq_p rfl rfl h (fun m14 h => ?_)
    refine wp_run 2 (pc' := 19) (lv' := [(0, .ref a0), (1, .int a1)]) (st' := [.int 0, .ref a0]) (mem' := m14) rfl ?_
    refine wq_p rfl rfl h (fun m19 h => ?_)
    refine wp_run 1 (pc' := 38) (lv' := [(0, .ref a0), (1, .int a1)]) (st' := []) (mem' := m19) rfl ?_
    exact wq_end rfl rfl h
/-- java/lang/StringBuilder.init()V -/
def m_SB_new (xm : Nat → Option kE) (N : Nat) (a0 : Nat) (mem : kM) : dRes :=
  dCV (m_ASB_new xm N a0 16 mem) fun m3 =>
  some (.inl none, m3)
theorem m_SB_new_ok (xm : Nat → Option kE) (N : Nat) {a0 : Nat} {mem : kM} {R : kO × kM} (h : m_SB_new xm N a0 mem = some R) : kCa xm kSm kDfl kFty kG 2 196 [.ref a0] mem (dEq R) := by
  refine wq_ca (show 1 ≤ 1 by decide) ?_
  change kGo xm kSm kDfl kFty kG 1 196 0 [(0, .ref a0)] [] mem (dEq R)
  unfold m_SB_new at h
  refine wp_run 2 (pc' := 3) (lv' := [(0, .ref a0)]) (st' := [.int 16, .ref a0]) (mem' := mem) rfl ?_
  refine wq_cV rfl (kCall_i (as := [.int 16]) (rest := []) ⟨by decide, rfl, (show 1 < 90 by decide)⟩ (show 0 ≤ 8 by decide)) h (fun r hr => ca_up (by decide) (m_ASB_new_ok xm N hr)) (fun m3 h => ?_)
  exact wq_end rfl rfl h
/-- jdk/internal/util/ArraysSupport.hugeLength(II)I -/
def m_AS_hugeLength (xm : Nat → Option kE) (N : Nat) (a0 : Int32) (a1 : Int32) (mem : kM) : dRes :=
  if (a0 + a1) < 0 then (
    none
  ) else (
    if 2147483639 < (a0 + a1) then (
      some (.inl (some (.int (a0 + a1))), mem)
    ) else (
      some (.inl (some (.int 2147483639)), mem)
    )
  )
theorem m_AS_hugeLength_ok (xm : Nat → Option kE) (N : Nat) {a0 : Int32} {a1 : Int32} {mem : kM} {R : kO × kM} (h : m_AS_hugeLength xm N a0 a1 mem = some R) : kCa xm kSm kDfl kFty kG 1 236 [.int a0, .int a1] mem (dEq R) := by
  refine wq_ca (show 2 ≤ 3 by decide) ?_
  change kGo xm kSm kDfl kFty kG 0 236 0 [(0, .int a0), (1, .int a1)] [] mem (dEq R)
  unfold m_AS_hugeLength at h
  refine wp_run 5 (pc' := 5) (lv' := [(2, .int (a0 + a1)), (0, .int a0), (1, .int a1)]) (st' := [.int (a0 + a1)]) (mem' := mem) rfl ?_
  refine wq_ge rfl h (fun h => ?_) (fun h => ?_)
  · cases h
  · refine wp_run 2 (pc' := 52) (lv' := [(2, .int (a0 + a1)), (0, .int a0), (1, .int a1)]) (st' := [.int 2147483639, .int (a0 + a1)]) (mem' := mem) rfl ?_
    refine wq_gt2 rfl h (fun h => ?_) (fun h => ?_)
    · refine wp_run 1 (pc' := 59) (lv' := [(2, .int (a0 + a1)), (0, .int a0), (1, .int a1)]) (st' := [.int (a0 + a1)]) (mem' := mem) rfl ?_
      exact wq_ret rfl rfl h
    · refine wp_run 1 (pc' := 57) (lv' := [(2, .int (a0 + a1)), (0, .int a0), (1, .int a1)]) (st' := [.int 2147483639]) (mem' := mem) rfl ?_
      exact wq_ret rfl rfl h
/-- jdk/internal/util/ArraysSupport.newLength(III)I -/
def m_AS_newLength_21 (xm : Nat → Option kE) (N : Nat) (a0 : Int32) (a1 : Int32) (mem : kM) : dRes :=
  dCI (m_AS_hugeLength xm N a0 a1 mem) fun v23 m23 =>
  some (.inl (some (.int v23)), m23)
theorem m_AS_newLength_21_ok (xm : Nat → Option kE) (N : Nat) : ∀ (a0 : Int32) (a1 : Int32) (mem : kM) (R : kO × kM), m_AS_newLength_21 xm N a0 a1 mem = some R → kGo xm kSm kDfl kFty kG 1 235 21 [(0, .int a0), (1, .int a1)] [] mem (dEq R) := by
  intro a0 a1 mem R h
  unfold m_AS_newLength_21 at h
  refine wp_run 2 (pc' := 23) (lv' := [(0, .int a0), (1, .int a1)]) (st' := [.int a1, .int a0]) (mem' := mem) rfl ?_
  refine wq_cI rfl (kCall_s (as := [.int a0, .int a1]) (rest := []) ⟨by decide, rfl⟩ (show 0 ≤ 8 by decide) (by decide)) h (fun r hr => ca_up (by decide) (m_AS_hugeLength_ok xm N hr)) (fun v23 m23 h => ?_)
  exact wq_ret rfl rfl h
def m_AS_newLength (xm : Nat → Option kE) (N : Nat) (a0 : Int32) (a1 : Int32) (a2 : Int32) (mem : kM) : dRes :=
  dCI (m_Math_max xm N a1 a2 mem) fun v3 m3 =>
  if (0 : Int32) < (a0 + v3) then (
    if 2147483639 < (a0 + v3) then (
      m_AS_newLength_21 xm N a0 a1 m3
    ) else (
      some (.inl (some (.int (a0 + v3))), m3)
    )
  ) else (
    m_AS_newLength_21 xm N a0 a1 m3
  )
theorem m_AS_newLength_ok (xm : Nat → Option kE) (N : Nat) {a0 : Int32} {a1 : Int32} {a2 : Int32} {mem : kM} {R : kO × kM} (h : m_AS_newLength xm N a0 a1 a2 mem = some R) : kCa xm kSm kDfl kFty kG 2 235 [.int a0, .int a1, .int a2] mem (dEq R) := by
  refine wq_ca (show 3 ≤ 4 by decide) ?_
  change kGo xm kSm kDfl kFty kG 1 235 0 [(0, .int a0), (1, .int a1), (2, .int a2)] [] mem (dEq R)
  unfold m_AS_newLength at h
  refine wp_run 3 (pc' := 3) (lv' := [(0, .int a0), (1, .int a1), (2, .int a2)]) (st' := [.int a2, .int a1, .int a0]) (mem' := mem) rfl ?_
  refine wq_cI rfl (kCall_s (as := [.int a1, .int a2]) (rest := [.int a0]) ⟨by decide, rfl⟩ (show 1 ≤ 8 by decide) (by decide)) h (fun r hr => ca_up (by decide) (m_Math_max_ok xm N hr)) (fun v3 m3 h => ?_)
  refine wp_run 4 (pc' := 10) (lv' := [(3, .int (a0 + v3)), (0, .int a0), (1, .int a1), (2, .int a2)]) (st' := [.int (a0 + v3), .int 0]) (mem' := m3) rfl ?_
  refine wq_ge2 rfl h (fun h => ?_) (fun h => ?_)
  · refine wp_run 2 (pc' := 16) (lv' := [(3, .int (a0 + v3)), (0, .int a0), (1, .int a1), (2, .int a2)]) (st' := [.int 2147483639, .int (a0 + v3)]) (mem' := m3) rfl ?_
    refine wq_gt2 rfl h (fun h => ?_) (fun h => ?_)
    · refine kGo_sub (lvS_of [1, 2] rfl [3, 0, 1, 2] rfl (by decide)) ?_
      exact m_AS_newLength_21_ok xm N _ _ m3 R h
    · refine wp_run 1 (pc' := 20) (lv' := [(3, .int (a0 + v3)), (0, .int a0), (1, .int a1), (2, .int a2)]) (st' := [.int (a0 + v3)]) (mem' := m3) rfl ?_
      exact wq_ret rfl rfl h
  · refine kGo_sub (lvS_of [1, 2] rfl [3, 0, 1, 2] rfl (by decide)) ?_
    exact m_AS_newLength_21_ok xm N _ _ m3 R h
/-- java/lang/AbstractStringBuilder.newCapacity(I)I -/
def m_ASB_newCapacity (xm : Nat → Option kE) (N : Nat) (a0 : Nat) (a1 : Int32) (mem : kM) : dRes :=
  dGR xm mem a0 1 0 fun v1 =>
  dLen xm mem v1 fun v4 =>
  dGI xm mem a0 1 1 fun v8 =>
  dGI xm mem a0 1 1 fun v24 =>
  dCI (m_AS_newLength xm N v4 ((a1 <<< (v8 &&& 31)) - v4) (v4 + (2 <<< (v24 &&& 31))) mem) fun v29 m29 =>
  if v29 = 2147483647 then (
    none
  ) else (
    dGI xm m29 a0 1 1 fun v54 =>
    some (.inl (some (.int (v29 >>> (v54 &&& 31)))), m29)
  )
theorem m_ASB_newCapacity_ok (xm : Nat → Option kE) (N : Nat) {a0 : Nat} {a1 : Int32} {mem : kM} {R : kO × kM} (h : m_ASB_newCapacity xm N a0 a1 mem = some R) : kCa xm kSm kDfl kFty kG 3 170 [.ref a0, .int a1] mem (dEq R) := by
  refine wq_ca (show 2 ≤ 6 by decide) ?_
  change kGo xm kSm kDfl kFty kG 2 170 0 [(0, .ref a0), (1, .int a1)] [] mem (dEq R)
  unfold m_ASB_newCapacity at h
  refine wp_run 1 (pc' := 1) (lv' := [(0, .ref a0), (1, .int a1)]) (st' := [.ref a0]) (mem' := mem) rfl ?_
  refine wq_gR rfl h (fun v1 h => ?_)
  refine wq_len rfl h (fun v4 h => ?_)
  refine wp_run 3 (pc' := 8) (lv' := [(2, .int v4), (0, .ref a0), (1, .int a1)]) (st' := [.ref a0, .int a1]) (mem' := mem) rfl ?_
  refine wq_gI rfl h (fun v8 h => ?_)
  refine wp_run 11 (pc' := 24) (lv' := [(4, .int ((a1 <<< (v8 &&& 31)) - v4)), (3, .int (a1 <<< (v8 &&& 31))), (2, .int v4), (0, .ref a0), (1, .int a1)]) (st' := [.ref a0, .int 2, .int v4, .int ((a1 <<< (v8 &&& 31)) - v4), .int v4]) (mem' := mem) rfl ?_
  refine wq_gI rfl h (fun v24 h => ?_)
  refine wp_run 2 (pc' := 29) (lv' := [(4, .int ((a1 <<< (v8 &&& 31)) - v4)), (3, .int (a1 <<< (v8 &&& 31))), (2, .int v4), (0, .ref a0), (1, .int a1)]) (st' := [.int (v4 + (2 <<< (v24 &&& 31))), .int ((a1 <<< (v8 &&& 31)) - v4), .int v4]) (mem' := mem) rfl ?_
  refine wq_cI rfl (kCall_s (as := [.int v4, .int ((a1 <<< (v8 &&& 31)) - v4), .int (v4 + (2 <<< (v24 &&& 31)))]) (rest := []) ⟨by decide, rfl⟩ (show 0 ≤ 8 by decide) (by decide)) h (fun r hr => ca_up (by decide) (m_AS_newLength_ok xm N hr)) (fun v29 m29 h => ?_)
  refine wp_run 3 (pc' := 38) (lv' := [(5, .int v29), (4, .int ((a1 <<< (v8 &&& 31)) - v4)), (3, .int (a1 <<< (v8 &&& 31))), (2, .int v4), (0, .ref a0), (1, .int a1)]) (st' := [.int 2147483647, .int v29]) (mem' := m29) rfl ?_
  refine wq_ne2 rfl h (fun h => ?_) (fun h => ?_)
  · cases h
  · refine wp_run 2 (pc' := 54) (lv' := [(5, .int v29), (4, .int ((a1 <<< (v8 &&& 31)) - v4)), (3, .int (a1 <<< (v8 &&& 31))), (2, .int v4), (0, .ref a0), (1, .int a1)]) (st' := [.ref a0, .int v29]) (mem' := m29) rfl ?_
    refine wq_gI rfl h (fun v54 h => ?_)
    refine wp_run 1 (pc' := 58) (lv' := [(5, .int v29), (4, .int ((a1 <<< (v8 &&& 31)) - v4)), (3, .int (a1 <<< (v8 &&& 31))), (2, .int v4), (0, .ref a0), (1, .int a1)]) (st' := [.int (v29 >>> (v54 &&& 31))]) (mem' := m29) rfl ?_
    exact wq_ret rfl rfl h
/-- java/lang/Math.min(II)I -/
def m_Math_min (xm : Nat → Option kE) (N : Nat) (a0 : Int32) (a1 : Int32) (mem : kM) : dRes :=
  if a1 < a0 then (
    some (.inl (some (.int a1)), mem)
  ) else (
    some (.inl (some (.int a0)), mem)
  )
theorem m_Math_min_ok (xm : Nat → Option kE) (N : Nat) {a0 : Int32} {a1 : Int32} {mem : kM} {R : kO × kM} (h : m_Math_min xm N a0 a1 mem = some R) : kCa xm kSm kDfl kFty kG 1 186 [.int a0, .int a1] mem (dEq R) := by
  refine wq_ca (show 2 ≤ 2 by decide) ?_
  change kGo xm kSm kDfl kFty kG 0 186 0 [(0, .int a0), (1, .int a1)] [] mem (dEq R)
  unfold m_Math_min at h
  refine wp_run 2 (pc' := 2) (lv' := [(0, .int a0), (1, .int a1)]) (st' := [.int a1, .int a0]) (mem' := mem) rfl ?_
  refine wq_gt2 rfl h (fun h => ?_) (fun h => ?_)
  · refine wp_run 1 (pc' := 10) (lv' := [(0, .int a0), (1, .int a1)]) (st' := [.int a1]) (mem' := mem) rfl ?_
    exact wq_ret rfl rfl h
  · refine wp_run 2 (pc' := 10) (lv' := [(0, .int a0), (1, .int a1)]) (st' := [.int a0]) (mem' := mem) rfl ?_
    exact wq_ret rfl rfl h
/-- java/util/Arrays.copyOf([BI)[B -/
def m_Ars_copyOf_0 (xm : Nat → Option kE) (N : Nat) (a0 : Nat) (a1 : Int32) (mem : kM) : dRes :=
  dLen xm mem a0 fun v2 =>
  if a1 = v2 then (
    dSp xm 9004 mem a0 fun m7 p7 =>
    dCC xm m7 p7 1 1 <|
    some (.inl (some (.ref p7)), m7)
  ) else (
    dNI 1 mem a1 fun m15 p15 =>
    dLen xm m15 a0 fun v23 =>
    dCI (m_Math_min xm N v23 a1 m15) fun v25 m25 =>
    dCpy xm m25 a0 0 p15 0 v25 fun m28 =>
    some (.inl (some (.ref p15)), m28)
  )
theorem m_Ars_copyOf_0_ok (xm : Nat → Option kE) (N : Nat) {a0 : Nat} {a1 : Int32} {mem : kM} {R : kO × kM} (h : m_Ars_copyOf_0 xm N a0 a1 mem = some R) : kCa xm kSm kDfl kFty kG 2 229 [.ref a0, .int a1] mem (dEq R) := by
  refine wq_ca (show 2 ≤ 3 by decide) ?_
  change kGo xm kSm kDfl kFty kG 1 229 0 [(0, .ref a0), (1, .int a1)] [] mem (dEq R)
  unfold m_Ars_copyOf_0 at h
  refine wp_run 2 (pc' := 2) (lv' := [(0, .ref a0), (1, .int a1)]) (st' := [.ref a0, .int a1]) (mem' := mem) rfl ?_
  refine wq_len rfl h (fun v2 h => ?_)
  refine wq_ne2 rfl h (fun h => ?_) (fun h => ?_)
  · refine wp_run 1 (pc' := 7) (lv' := [(0, .ref a0), (1, .int a1)]) (st' := [.ref a0]) (mem' := mem) rfl ?_
    refine wq_sp rfl (by decide) h (show 0 ≤ 90 by decide) (fun m7 p7 h => ?_)
    refine wq_cc rfl h (fun h => ?_)
    exact wq_end rfl rfl h
  · refine wp_run 1 (pc' := 15) (lv' := [(0, .ref a0), (1, .int a1)]) (st' := [.int a1]) (mem' := mem) rfl ?_
    refine wq_nI rfl rfl h (fun m15 p15 h => ?_)
    refine wp_run 6 (pc' := 23) (lv' := [(2, .ref p15), (0, .ref a0), (1, .int a1)]) (st' := [.ref a0, .int 0, .ref p15, .int 0, .ref a0]) (mem' := m15) rfl ?_
    refine wq_len rfl h (fun v23 h => ?_)
    refine wp_run 1 (pc' := 25) (lv' := [(2, .ref p15), (0, .ref a0), (1, .int a1)]) (st' := [.int a1, .int v23, .int 0, .ref p15, .int 0, .ref a0]) (mem' := m15) rfl ?_
    refine wq_cI rfl (kCall_s (as := [.int v23, .int a1]) (rest := [.int 0, .ref p15, .int 0, .ref a0]) ⟨by decide, rfl⟩ (show 4 ≤ 8 by decide) (by decide)) h (fun r hr => ca_up (by decide) (m_Math_min_ok xm N hr)) (fun v25 m25 h => ?_)
    refine wq_cpy rfl h (show 0 ≤ 90 by decide) (fun m28 h => ?_)
    refine wp_run 1 (pc' := 32) (lv' := [(2, .ref p15), (0, .ref a0), (1, .int a1)]) (st' := [.ref p15]) (mem' := m28) rfl ?_
    exact wq_end rfl rfl h
/-- java/lang/AbstractStringBuilder.ensureCapacityInternal(I)V -/
def m_ASB_ensureCapacityInternal (xm : Nat → Option kE) (N : Nat) (a0 : Nat) (a1 : Int32) (mem : kM) : dRes :=
  dGR xm mem a0 1 0 fun v1 =>
  dLen xm mem v1 fun v4 =>
  dGI xm mem a0 1 1 fun v6 =>
  if 0 < (a1 - (v4 >>> (v6 &&& 31))) then (
    dGR xm mem a0 1 0 fun v19 =>
    dRc xm mem a0 1 <|
    dCI (m_ASB_newCapacity xm N a0 a1 mem) fun v24 m24 =>
    dGI xm m24 a0 1 1 fun v28 =>
    dCR (m_Ars_copyOf_0 xm N v19 (v24 <<< (v28 &&& 31)) m24) fun v32 m32 =>
    dP xm m32 a0 1 0 (.ref v32) fun m35 =>
    some (.inl none, m35)
  ) else (
    some (.inl none, mem)
  )
theorem m_ASB_ensureCapacityInternal_ok (xm : Nat → Option kE) (N : Nat) {a0 : Nat} {a1 : Int32} {mem : kM} {R : kO × kM} (h : m_ASB_ensureCapacityInternal xm N a0 a1 mem = some R) : kCa xm kSm kDfl kFty kG 4 169 [.ref a0, .int a1] mem (dEq R) := by
  refine wq_ca (show 2 ≤ 3 by decide) ?_
  change kGo xm kSm kDfl kFty kG 3 169 0 [(0, .ref a0), (1, .int a1)] [] mem (dEq R)
  unfold m_ASB_ensureCapacityInternal at h
  refine wp_run 1 (pc' := 1) (lv' := [(0, .ref a0), (1, .int a1)]) (st' := [.ref a0]) (mem' := mem) rfl ?_
  refine wq_gR rfl h (fun v1 h => ?_)
  refine wq_len rfl h (fun v4 h => ?_)
  refine wp_run 1 (pc' := 6) (lv' := [(0, .ref a0), (1, .int a1)]) (st' := [.ref a0, .int v4]) (mem' := mem) rfl ?_
  refine wq_gI rfl h (fun v6 h => ?_)
  refine wp_run 5 (pc' := 14) (lv' := [(2, .int (v4 >>> (v6 &&& 31))), (0, .ref a0), (1, .int a1)]) (st' := [.int (a1 - (v4 >>> (v6 &&& 31)))]) (mem' := mem) rfl ?_
  refine wq_le rfl h (fun h => ?_) (fun h => ?_)
  · refine wp_run 2 (pc' := 19) (lv' := [(2, .int (v4 >>> (v6 &&& 31))), (0, .ref a0), (1, .int a1)]) (st' := [.ref a0, .ref a0]) (mem' := mem) rfl ?_
    refine wq_gR rfl h (fun v19 h => ?_)
    refine wp_run 2 (pc' := 24) (lv' := [(2, .int (v4 >>> (v6 &&& 31))), (0, .ref a0), (1, .int a1)]) (st' := [.int a1, .ref a0, .ref v19, .ref a0]) (mem' := mem) rfl ?_
    obtain ⟨fk24, hk24, h⟩ := dRc_some h
    refine wq_cI rfl (kCall_v hk24 (as := [.int a1]) (rest := [.ref v19, .ref a0]) ⟨by decide, rfl, (show 1 < 90 by decide), by decide⟩ (show 2 ≤ 8 by decide)) h (fun r hr => ca_up (by decide) (m_ASB_newCapacity_ok xm N hr)) (fun v24 m24 h => ?_)
    refine wp_run 1 (pc' := 28) (lv' := [(2, .int (v4 >>> (v6 &&& 31))), (0, .ref a0), (1, .int a1)]) (st' := [.ref a0, .int v24, .ref v19, .ref a0]) (mem' := m24) rfl ?_
    refine wq_gI rfl h (fun v28 h => ?_)
    refine wp_run 1 (pc' := 32) (lv' := [(2, .int (v4 >>> (v6 &&& 31))), (0, .ref a0), (1, .int a1)]) (st' := [.int (v24 <<< (v28 &&& 31)), .ref v19, .ref a0]) (mem' := m24) rfl ?_
    refine wq_cR rfl (kCall_s (as := [.ref v19, .int (v24 <<< (v28 &&& 31))]) (rest := [.ref a0]) ⟨by decide, rfl⟩ (show 1 ≤ 8 by decide) (by decide)) h (fun r hr => ca_up (by decide) (m_Ars_copyOf_0_ok xm N hr)) (fun v32 m32 h => ?_)
    refine wq_p rfl rfl h (fun m35 h => ?_)
    exact wq_end rfl rfl h
  · exact wq_end rfl rfl h
/-- java/lang/AbstractStringBuilder.isLatin1()Z -/
def m_ASB_isLatin1 (xm : Nat → Option kE) (N : Nat) (a0 : Nat) (mem : kM) : dRes :=
  if (1 : Int32) = 0 then (
    some (.inl (some (.int 0)), mem)
  ) else (
    dGI xm mem a0 1 1 fun v7 =>
    if v7 = 0 then (
      some (.inl (some (.int 1)), mem)
    ) else (
      some (.inl (some (.int 0)), mem)
    )
  )
theorem m_ASB_isLatin1_ok (xm : Nat → Option kE) (N : Nat) {a0 : Nat} {mem : kM} {R : kO × kM} (h : m_ASB_isLatin1 xm N a0 mem = some R) : kCa xm kSm kDfl kFty kG 1 177 [.ref a0] mem (dEq R) := by
  refine wq_ca (show 1 ≤ 1 by decide) ?_
  change kGo xm kSm kDfl kFty kG 0 177 0 [(0, .ref a0)] [] mem (dEq R)
  unfold m_ASB_isLatin1 at h
  refine wp_run 1 (pc' := 3) (lv' := [(0, .ref a0)]) (st' := [.int 1]) (mem' := mem) rfl ?_
  refine wq_eq rfl h (fun h => ?_) (fun h => ?_)
  · refine wp_run 1 (pc' := 18) (lv' := [(0, .ref a0)]) (st' := [.int 0]) (mem' := mem) rfl ?_
    exact wq_ret rfl rfl h
  · refine wp_run 1 (pc' := 7) (lv' := [(0, .ref a0)]) (st' := [.ref a0]) (mem' := mem) rfl ?_
    refine wq_gI rfl h (fun v7 h => ?_)
    refine wq_ne rfl h (fun h => ?_) (fun h => ?_)
    · refine wp_run 2 (pc' := 18) (lv' := [(0, .ref a0)]) (st' := [.int 1]) (mem' := mem) rfl ?_
      exact wq_ret rfl rfl h
    · refine wp_run 1 (pc' := 18) (lv' := [(0, .ref a0)]) (st' := [.int 0]) (mem' := mem) rfl ?_
      exact wq_ret rfl rfl h
/-- java/lang/StringLatin1.canEncode(C)Z -/
def m_Lat_canEncode (xm : Nat → Option kE) (N : Nat) (a0 : Int32) (mem : kM) : dRes :=
  if 255 < a0 then (
    some (.inl (some (.int 0)), mem)
  ) else (
    some (.inl (some (.int 1)), mem)
  )
theorem m_Lat_canEncode_ok (xm : Nat → Option kE) (N : Nat) {a0 : Int32} {mem : kM} {R : kO × kM} (h : m_Lat_canEncode xm N a0 mem = some R) : kCa xm kSm kDfl kFty kG 1 202 [.int a0] mem (dEq R) := by
  refine wq_ca (show 1 ≤ 1 by decide) ?_
  change kGo xm kSm kDfl kFty kG 0 202 0 [(0, .int a0)] [] mem (dEq R)
  unfold m_Lat_canEncode at h
  refine wp_run 2 (pc' := 4) (lv' := [(0, .int a0)]) (st' := [.int 255, .int a0]) (mem' := mem) rfl ?_
  refine wq_gt2 rfl h (fun h => ?_) (fun h => ?_)
  · refine wp_run 1 (pc' := 12) (lv' := [(0, .int a0)]) (st' := [.int 0]) (mem' := mem) rfl ?_
    exact wq_ret rfl rfl h
  · refine wp_run 2 (pc' := 12) (lv' := [(0, .int a0)]) (st' := [.int 1]) (mem' := mem) rfl ?_
    exact wq_ret rfl rfl h
/-- java/lang/AbstractStringBuilder.append(C)Ljava/lang/AbstractStringBuilder; -/
def m_ASB_append_0_45 (xm : Nat → Option kE) (N : Nat) (a0 : Nat) (a1 : Int32) (mem : kM) : dRes :=
  dRc xm mem a0 1 <|
  dCI (m_ASB_isLatin1 xm N a0 mem) fun v46 m46 =>
  if v46 = 0 then (
    dGR xm m46 a0 1 0 fun v57 =>
    dGI xm m46 a0 1 3 fun v62 =>
    dP xm m46 a0 1 3 (.int (v62 + 1)) fun m68 =>
    none
  ) else (
    none
  )
theorem m_ASB_append_0_45_ok (xm : Nat → Option kE) (N : Nat) : ∀ (a0 : Nat) (a1 : Int32) (mem : kM) (R : kO × kM), m_ASB_append_0_45 xm N a0 a1 mem = some R → kGo xm kSm kDfl kFty kG 4 174 45 [(0, .ref a0), (1, .int a1)] [] mem (dEq R) := by
  intro a0 a1 mem R h
  unfold m_ASB_append_0_45 at h
  refine wp_run 1 (pc' := 46) (lv' := [(0, .ref a0), (1, .int a1)]) (st' := [.ref a0]) (mem' := mem) rfl ?_
  obtain ⟨fk46, hk46, h⟩ := dRc_some h
  refine wq_cI rfl (kCall_v hk46 (as := []) (rest := []) ⟨by decide, rfl, (show 0 < 90 by decide), by decide⟩ (show 0 ≤ 8 by decide)) h (fun r hr => ca_up (by decide) (m_ASB_isLatin1_ok xm N hr)) (fun v46 m46 h => ?_)
  refine wq_eq rfl h (fun h => ?_) (fun h => ?_)
  · refine wp_run 1 (pc' := 57) (lv' := [(0, .ref a0), (1, .int a1)]) (st' := [.ref a0]) (mem' := m46) rfl ?_
    refine wq_gR rfl h (fun v57 h => ?_)
    refine wp_run 2 (pc' := 62) (lv' := [(0, .ref a0), (1, .int a1)]) (st' := [.ref a0, .ref a0, .ref v57]) (mem' := m46) rfl ?_
    refine wq_gI rfl h (fun v62 h => ?_)
    refine wp_run 3 (pc' := 68) (lv' := [(0, .ref a0), (1, .int a1)]) (st' := [.int (v62 + 1), .ref a0, .int v62, .ref v57]) (mem' := m46) rfl ?_
    refine wq_p rfl rfl h (fun m68 h => ?_)
    refine wp_run 1 (pc' := 72) (lv' := [(0, .ref a0), (1, .int a1)]) (st' := [.int a1, .int v62, .ref v57]) (mem' := m68) rfl ?_
    cases h
  · refine wp_run 1 (pc' := 53) (lv' := [(0, .ref a0), (1, .int a1)]) (st' := [.ref a0]) (mem' := m46) rfl ?_
    cases h
def m_ASB_append_0 (xm : Nat → Option kE) (N : Nat) (a0 : Nat) (a1 : Int32) (mem : kM) : dRes :=
  dGI xm mem a0 1 3 fun v2 =>
  dRc xm mem a0 1 <|
  dCV (m_ASB_ensureCapacityInternal xm N a0 (v2 + 1) mem) fun m7 =>
  dRc xm m7 a0 1 <|
  dCI (m_ASB_isLatin1 xm N a0 m7) fun v11 m11 =>
  if v11 = 0 then (
    m_ASB_append_0_45 xm N a0 a1 m11
  ) else (
    dCI (m_Lat_canEncode xm N a1 m11) fun v18 m18 =>
    if v18 = 0 then (
      m_ASB_append_0_45 xm N a0 a1 m18
    ) else (
      dGR xm m18 a0 1 0 fun v25 =>
      dGI xm m18 a0 1 3 fun v30 =>
      dP xm m18 a0 1 3 (.int (v30 + 1)) fun m36 =>
      dBS xm m36 v25 v30 (Int8.toInt32 (Int32.toInt8 a1)) fun m41 =>
      some (.inl (some (.ref a0)), m41)
    )
  )
theorem m_ASB_append_0_ok (xm : Nat → Option kE) (N : Nat) {a0 : Nat} {a1 : Int32} {mem : kM} {R : kO × kM} (h : m_ASB_append_0 xm N a0 a1 mem = some R) : kCa xm kSm kDfl kFty kG 5 174 [.ref a0, .int a1] mem (dEq R) := by
  refine wq_ca (show 2 ≤ 2 by decide) ?_
  change kGo xm kSm kDfl kFty kG 4 174 0 [(0, .ref a0), (1, .int a1)] [] mem (dEq R)
  unfold m_ASB_append_0 at h
  refine wp_run 2 (pc' := 2) (lv' := [(0, .ref a0), (1, .int a1)]) (st' := [.ref a0, .ref a0]) (mem' := mem) rfl ?_
  refine wq_gI rfl h (fun v2 h => ?_)
  refine wp_run 2 (pc' := 7) (lv' := [(0, .ref a0), (1, .int a1)]) (st' := [.int (v2 + 1), .ref a0]) (mem' := mem) rfl ?_
  obtain ⟨fk7, hk7, h⟩ := dRc_some h
  refine wq_cV rfl (kCall_v hk7 (as := [.int (v2 + 1)]) (rest := []) ⟨by decide, rfl, (show 1 < 90 by decide), by decide⟩ (show 0 ≤ 8 by decide)) h (fun r hr => ca_up (by decide) (m_ASB_ensureCapacityInternal_ok xm N hr)) (fun m7 h => ?_)
  refine wp_run 1 (pc' := 11) (lv' := [(0, .ref a0), (1, .int a1)]) (st' := [.ref a0]) (mem' := m7) rfl ?_
  obtain ⟨fk11, hk11, h⟩ := dRc_some h
  refine wq_cI rfl (kCall_v hk11 (as := []) (rest := []) ⟨by decide, rfl, (show 0 < 90 by decide), by decide⟩ (show 0 ≤ 8 by decide)) h (fun r hr => ca_up (by decide) (m_ASB_isLatin1_ok xm N hr)) (fun v11 m11 h => ?_)
  refine wq_eq rfl h (fun h => ?_) (fun h => ?_)
  · exact m_ASB_append_0_45_ok xm N _ _ m11 R h
  · refine wp_run 1 (pc' := 18) (lv' := [(0, .ref a0), (1, .int a1)]) (st' := [.int a1]) (mem' := m11) rfl ?_
    refine wq_cI rfl (kCall_s (as := [.int a1]) (rest := []) ⟨by decide, rfl⟩ (show 0 ≤ 8 by decide) (by decide)) h (fun r hr => ca_up (by decide) (m_Lat_canEncode_ok xm N hr)) (fun v18 m18 h => ?_)
    refine wq_eq rfl h (fun h => ?_) (fun h => ?_)
    · exact m_ASB_append_0_45_ok xm N _ _ m18 R h
    · refine wp_run 1 (pc' := 25) (lv' := [(0, .ref a0), (1, .int a1)]) (st' := [.ref a0]) (mem' := m18) rfl ?_
      refine wq_gR rfl h (fun v25 h => ?_)
      refine wp_run 2 (pc' := 30) (lv' := [(0, .ref a0), (1, .int a1)]) (st' := [.ref a0, .ref a0, .ref v25]) (mem' := m18) rfl ?_
      refine wq_gI rfl h (fun v30 h => ?_)
      refine wp_run 3 (pc' := 36) (lv' := [(0, .ref a0), (1, .int a1)]) (st' := [.int (v30 + 1), .ref a0, .int v30, .ref v25]) (mem' := m18) rfl ?_
      refine wq_p rfl rfl h (fun m36 h => ?_)
      refine wp_run 2 (pc' := 41) (lv' := [(0, .ref a0), (1, .int a1)]) (st' := [.int (Int8.toInt32 (Int32.toInt8 a1)), .int v30, .ref v25]) (mem' := m36) rfl ?_
      refine wq_bS rfl h (fun m41 h => ?_)
      refine wp_run 2 (pc' := 76) (lv' := [(0, .ref a0), (1, .int a1)]) (st' := [.ref a0]) (mem' := m41) rfl ?_
      exact wq_end rfl rfl h
/-- java/lang/StringBuilder.append(C)Ljava/lang/StringBuilder; -/
def m_SB_append_0 (xm : Nat → Option kE) (N : Nat) (a0 : Nat) (a1 : Int32) (mem : kM) : dRes :=
  dRc xm mem a0 1 <|
  dCR (m_ASB_append_0 xm N a0 a1 mem) fun v2 m2 =>
  some (.inl (some (.ref a0)), m2)
theorem m_SB_append_0_ok (xm : Nat → Option kE) (N : Nat) {a0 : Nat} {a1 : Int32} {mem : kM} {R : kO × kM} (h : m_SB_append_0 xm N a0 a1 mem = some R) : kCa xm kSm kDfl kFty kG 6 198 [.ref a0, .int a1] mem (dEq R) := by
  refine wq_ca (show 2 ≤ 2 by decide) ?_
  change kGo xm kSm kDfl kFty kG 5 198 0 [(0, .ref a0), (1, .int a1)] [] mem (dEq R)
  unfold m_SB_append_0 at h
  refine wp_run 2 (pc' := 2) (lv' := [(0, .ref a0), (1, .int a1)]) (st' := [.int a1, .ref a0]) (mem' := mem) rfl ?_
  obtain ⟨fk2, hk2, h⟩ := dRc_some h
  refine wq_cR rfl (kCall_v hk2 (as := [.int a1]) (rest := []) ⟨by decide, rfl, (show 1 < 90 by decide), by decide⟩ (show 0 ≤ 8 by decide)) h (fun r hr => ca_up (by decide) (m_ASB_append_0_ok xm N hr)) (fun v2 m2 h => ?_)
  refine wp_run 2 (pc' := 7) (lv' := [(0, .ref a0), (1, .int a1)]) (st' := [.ref a0]) (mem' := m2) rfl ?_
  exact wq_end rfl rfl h
/-- java/lang/AbstractStringBuilder.getValue()[B -/
def m_ASB_getValue (xm : Nat → Option kE) (N : Nat) (a0 : Nat) (mem : kM) : dRes :=
  dGR xm mem a0 1 0 fun v1 =>
  some (.inl (some (.ref v1)), mem)
theorem m_ASB_getValue_ok (xm : Nat → Option kE) (N : Nat) {a0 : Nat} {mem : kM} {R : kO × kM} (h : m_ASB_getValue xm N a0 mem = some R) : kCa xm kSm kDfl kFty kG 1 176 [.ref a0] mem (dEq R) := by
  refine wq_ca (show 1 ≤ 1 by decide) ?_
  change kGo xm kSm kDfl kFty kG 0 176 0 [(0, .ref a0)] [] mem (dEq R)
  unfold m_ASB_getValue at h
  refine wp_run 1 (pc' := 1) (lv' := [(0, .ref a0)]) (st' := [.ref a0]) (mem' := mem) rfl ?_
  refine wq_gR rfl h (fun v1 h => ?_)
  exact wq_end rfl rfl h
/-- java/lang/AbstractStringBuilder.length()I -/
def m_ASB_length (xm : Nat → Option kE) (N : Nat) (a0 : Nat) (mem : kM) : dRes :=
  dGI xm mem a0 1 3 fun v1 =>
  some (.inl (some (.int v1)), mem)
theorem m_ASB_length_ok (xm : Nat → Option kE) (N : Nat) {a0 : Nat} {mem : kM} {R : kO × kM} (h : m_ASB_length xm N a0 mem = some R) : kCa xm kSm kDfl kFty kG 1 168 [.ref a0] mem (dEq R) := by
  refine wq_ca (show 1 ≤ 1 by decide) ?_
  change kGo xm kSm kDfl kFty kG 0 168 0 [(0, .ref a0)] [] mem (dEq R)
  unfold m_ASB_length at h
  refine wp_run 1 (pc' := 1) (lv' := [(0, .ref a0)]) (st' := [.ref a0]) (mem' := mem) rfl ?_
  refine wq_gI rfl h (fun v1 h => ?_)
  exact wq_ret rfl rfl h
/-- java/lang/StringBuilder.length()I -/
def m_SB_length (xm : Nat → Option kE) (N : Nat) (a0 : Nat) (mem : kM) : dRes :=
  dRc xm mem a0 1 <|
  dCI (m_ASB_length xm N a0 mem) fun v1 m1 =>
  some (.inl (some (.int v1)), m1)
theorem m_SB_length_ok (xm : Nat → Option kE) (N : Nat) {a0 : Nat} {mem : kM} {R : kO × kM} (h : m_SB_length xm N a0 mem = some R) : kCa xm kSm kDfl kFty kG 2 201 [.ref a0] mem (dEq R) := by
  refine wq_ca (show 1 ≤ 1 by decide) ?_
  change kGo xm kSm kDfl kFty kG 1 201 0 [(0, .ref a0)] [] mem (dEq R)
  unfold m_SB_length at h
  refine wp_run 1 (pc' := 1) (lv' := [(0, .ref a0)]) (st' := [.ref a0]) (mem' := mem) rfl ?_
  obtain ⟨fk1, hk1, h⟩ := dRc_some h
  refine wq_cI rfl (kCall_v hk1 (as := []) (rest := []) ⟨by decide, rfl, (show 0 < 90 by decide), by decide⟩ (show 0 ≤ 8 by decide)) h (fun r hr => ca_up (by decide) (m_ASB_length_ok xm N hr)) (fun v1 m1 h => ?_)
  exact wq_ret rfl rfl h
/-- java/util/Arrays.checkLength(II)V -/
def m_Ars_checkLength (xm : Nat → Option kE) (N : Nat) (a0 : Int32) (a1 : Int32) (mem : kM) : dRes :=
  if a1 < a0 then (
    none
  ) else (
    some (.inl none, mem)
  )
theorem m_Ars_checkLength_ok (xm : Nat → Option kE) (N : Nat) {a0 : Int32} {a1 : Int32} {mem : kM} {R : kO × kM} (h : m_Ars_checkLength xm N a0 a1 mem = some R) : kCa xm kSm kDfl kFty kG 1 231 [.int a0, .int a1] mem (dEq R) := by
  refine wq_ca (show 2 ≤ 2 by decide) ?_
  change kGo xm kSm kDfl kFty kG 0 231 0 [(0, .int a0), (1, .int a1)] [] mem (dEq R)
  unfold m_Ars_checkLength at h
  refine wp_run 2 (pc' := 2) (lv' := [(0, .int a0), (1, .int a1)]) (st' := [.int a0, .int a1]) (mem' := mem) rfl ?_
  refine wq_ge2 rfl h (fun h => ?_) (fun h => ?_)
  · cases h
  · exact wq_end rfl rfl h
/-- java/util/Arrays.copyOfRangeByte([BII)[B -/
def m_Ars_copyOfRangeByte (xm : Nat → Option kE) (N : Nat) (a0 : Nat) (a1 : Int32) (a2 : Int32) (mem : kM) : dRes :=
  dCV (m_Ars_checkLength xm N a1 a2 mem) fun m2 =>
  dNI 1 m2 (a2 - a1) fun m10 p10 =>
  dLen xm m10 a0 fun v20 =>
  dCI (m_Math_min xm N (v20 - a1) (a2 - a1) m10) fun v24 m24 =>
  dCpy xm m24 a0 a1 p10 0 v24 fun m27 =>
  some (.inl (some (.ref p10)), m27)
theorem m_Ars_copyOfRangeByte_ok (xm : Nat → Option kE) (N : Nat) {a0 : Nat} {a1 : Int32} {a2 : Int32} {mem : kM} {R : kO × kM} (h : m_Ars_copyOfRangeByte xm N a0 a1 a2 mem = some R) : kCa xm kSm kDfl kFty kG 2 233 [.ref a0, .int a1, .int a2] mem (dEq R) := by
  refine wq_ca (show 3 ≤ 5 by decide) ?_
  change kGo xm kSm kDfl kFty kG 1 233 0 [(0, .ref a0), (1, .int a1), (2, .int a2)] [] mem (dEq R)
  unfold m_Ars_copyOfRangeByte at h
  refine wp_run 2 (pc' := 2) (lv' := [(0, .ref a0), (1, .int a1), (2, .int a2)]) (st' := [.int a2, .int a1]) (mem' := mem) rfl ?_
  refine wq_cV rfl (kCall_s (as := [.int a1, .int a2]) (rest := []) ⟨by decide, rfl⟩ (show 0 ≤ 8 by decide) (by decide)) h (fun r hr => ca_up (by decide) (m_Ars_checkLength_ok xm N hr)) (fun m2 h => ?_)
  refine wp_run 5 (pc' := 10) (lv' := [(3, .int (a2 - a1)), (0, .ref a0), (1, .int a1), (2, .int a2)]) (st' := [.int (a2 - a1)]) (mem' := m2) rfl ?_
  refine wq_nI rfl rfl h (fun m10 p10 h => ?_)
  refine wp_run 6 (pc' := 20) (lv' := [(4, .ref p10), (3, .int (a2 - a1)), (0, .ref a0), (1, .int a1), (2, .int a2)]) (st' := [.ref a0, .int 0, .ref p10, .int a1, .ref a0]) (mem' := m10) rfl ?_
  refine wq_len rfl h (fun v20 h => ?_)
  refine wp_run 3 (pc' := 24) (lv' := [(4, .ref p10), (3, .int (a2 - a1)), (0, .ref a0), (1, .int a1), (2, .int a2)]) (st' := [.int (a2 - a1), .int (v20 - a1), .int 0, .ref p10, .int a1, .ref a0]) (mem' := m10) rfl ?_
  refine wq_cI rfl (kCall_s (as := [.int (v20 - a1), .int (a2 - a1)]) (rest := [.int 0, .ref p10, .int a1, .ref a0]) ⟨by decide, rfl⟩ (show 4 ≤ 8 by decide) (by decide)) h (fun r hr => ca_up (by decide) (m_Math_min_ok xm N hr)) (fun v24 m24 h => ?_)
  refine wq_cpy rfl h (show 0 ≤ 90 by decide) (fun m27 h => ?_)
  refine wp_run 1 (pc' := 32) (lv' := [(4, .ref p10), (3, .int (a2 - a1)), (0, .ref a0), (1, .int a1), (2, .int a2)]) (st' := [.ref p10]) (mem' := m27) rfl ?_
  exact wq_end rfl rfl h
/-- java/util/Arrays.copyOfRange([BII)[B -/
def m_Ars_copyOfRange_10 (xm : Nat → Option kE) (N : Nat) (a0 : Nat) (a1 : Int32) (a2 : Int32) (mem : kM) : dRes :=
  dCR (m_Ars_copyOfRangeByte xm N a0 a1 a2 mem) fun v13 m13 =>
  some (.inl (some (.ref v13)), m13)
theorem m_Ars_copyOfRange_10_ok (xm : Nat → Option kE) (N : Nat) : ∀ (a0 : Nat) (a1 : Int32) (a2 : Int32) (mem : kM) (R : kO × kM), m_Ars_copyOfRange_10 xm N a0 a1 a2 mem = some R → kGo xm kSm kDfl kFty kG 2 232 10 [(0, .ref a0), (1, .int a1), (2, .int a2)] [] mem (dEq R) := by
  intro a0 a1 a2 mem R h
  unfold m_Ars_copyOfRange_10 at h
  refine wp_run 3 (pc' := 13) (lv' := [(0, .ref a0), (1, .int a1), (2, .int a2)]) (st' := [.int a2, .int a1, .ref a0]) (mem' := mem) rfl ?_
  refine wq_cR rfl (kCall_s (as := [.ref a0, .int a1, .int a2]) (rest := []) ⟨by decide, rfl⟩ (show 0 ≤ 8 by decide) (by decide)) h (fun r hr => ca_up (by decide) (m_Ars_copyOfRangeByte_ok xm N hr)) (fun v13 m13 h => ?_)
  exact wq_end rfl rfl h
def m_Ars_copyOfRange (xm : Nat → Option kE) (N : Nat) (a0 : Nat) (a1 : Int32) (a2 : Int32) (mem : kM) : dRes :=
  if a1 = 0 then (
    dLen xm mem a0 fun v6 =>
    if a2 = v6 then (
      dSp xm 9004 mem a0 fun m18 p18 =>
      dCC xm m18 p18 1 1 <|
      some (.inl (some (.ref p18)), m18)
    ) else (
      m_Ars_copyOfRange_10 xm N a0 a1 a2 mem
    )
  ) else (
    m_Ars_copyOfRange_10 xm N a0 a1 a2 mem
  )
theorem m_Ars_copyOfRange_ok (xm : Nat → Option kE) (N : Nat) {a0 : Nat} {a1 : Int32} {a2 : Int32} {mem : kM} {R : kO × kM} (h : m_Ars_copyOfRange xm N a0 a1 a2 mem = some R) : kCa xm kSm kDfl kFty kG 3 232 [.ref a0, .int a1, .int a2] mem (dEq R) := by
  refine wq_ca (show 3 ≤ 3 by decide) ?_
  change kGo xm kSm kDfl kFty kG 2 232 0 [(0, .ref a0), (1, .int a1), (2, .int a2)] [] mem (dEq R)
  unfold m_Ars_copyOfRange at h
  refine wp_run 1 (pc' := 1) (lv' := [(0, .ref a0), (1, .int a1), (2, .int a2)]) (st' := [.int a1]) (mem' := mem) rfl ?_
  refine wq_ne rfl h (fun h => ?_) (fun h => ?_)
  · refine wp_run 2 (pc' := 6) (lv' := [(0, .ref a0), (1, .int a1), (2, .int a2)]) (st' := [.ref a0, .int a2]) (mem' := mem) rfl ?_
    refine wq_len rfl h (fun v6 h => ?_)
    refine wq_eq2 rfl h (fun h => ?_) (fun h => ?_)
    · refine wp_run 1 (pc' := 18) (lv' := [(0, .ref a0), (1, .int a1), (2, .int a2)]) (st' := [.ref a0]) (mem' := mem) rfl ?_
      refine wq_sp rfl (by decide) h (show 0 ≤ 90 by decide) (fun m18 p18 h => ?_)
      refine wq_cc rfl h (fun h => ?_)
      exact wq_end rfl rfl h
    · exact m_Ars_copyOfRange_10_ok xm N _ _ _ mem R h
  · exact m_Ars_copyOfRange_10_ok xm N _ _ _ mem R h
/-- java/lang/String.init(Ljava/lang/AbstractStringBuilder;Ljava/lang/Void;)V -/
def m_Str_new_0_79 (xm : Nat → Option kE) (N : Nat) (a0 : Nat) (a3 : Nat) (a4 : Int32) (mem : kM) : dRes :=
  dP xm mem a0 0 1 (.int 1) fun m81 =>
  dCR (m_Ars_copyOfRange xm N a3 0 (a4 <<< (1 &&& 31)) m81) fun v91 m91 =>
  dP xm m91 a0 0 0 (.ref v91) fun m94 =>
  some (.inl none, m94)
theorem m_Str_new_0_79_ok (xm : Nat → Option kE) (N : Nat) : ∀ (a0 : Nat) (a3 : Nat) (a4 : Int32) (mem : kM) (R : kO × kM), m_Str_new_0_79 xm N a0 a3 a4 mem = some R → kGo xm kSm kDfl kFty kG 3 191 79 [(0, .ref a0), (3, .ref a3), (4, .int a4)] [] mem (dEq R) := by
  intro a0 a3 a4 mem R h
  unfold m_Str_new_0_79 at h
  refine wp_run 2 (pc' := 81) (lv' := [(0, .ref a0), (3, .ref a3), (4, .int a4)]) (st' := [.int 1, .ref a0]) (mem' := mem) rfl ?_
  refine wq_p rfl rfl h (fun m81 h => ?_)
  refine wp_run 6 (pc' := 91) (lv' := [(0, .ref a0), (3, .ref a3), (4, .int a4)]) (st' := [.int (a4 <<< (1 &&& 31)), .int 0, .ref a3, .ref a0]) (mem' := m81) rfl ?_
  refine wq_cR rfl (kCall_s (as := [.ref a3, .int 0, .int (a4 <<< (1 &&& 31))]) (rest := [.ref a0]) ⟨by decide, rfl⟩ (show 1 ≤ 8 by decide) (by decide)) h (fun r hr => ca_up (by decide) (m_Ars_copyOfRange_ok xm N hr)) (fun v91 m91 h => ?_)
  refine wq_p rfl rfl h (fun m94 h => ?_)
  exact wq_end rfl rfl h
def m_Str_new_0 (xm : Nat → Option kE) (N : Nat) (a0 : Nat) (a1 : Nat) (mem : kM) : dRes :=
  dRc xm mem a1 1 <|
  dCR (m_ASB_getValue xm N a1 mem) fun v5 m5 =>
  dRc xm m5 a1 1 <|
  dCI (m_SB_length xm N a1 m5) fun v10 m10 =>
  dRc xm m10 a1 1 <|
  dCI (m_ASB_isLatin1 xm N a1 m10) fun v16 m16 =>
  if v16 = 0 then (
    if (1 : Int32) = 0 then (
      m_Str_new_0_79 xm N a0 v5 v10 m16
    ) else (
      dGI xm m16 a1 1 2 fun v48 =>
      if v48 = 0 then (
        m_Str_new_0_79 xm N a0 v5 v10 m16
      ) else (
        none
      )
    )
  ) else (
    dP xm m16 a0 0 1 (.int 0) fun m24 =>
    dCR (m_Ars_copyOfRange xm N v5 0 v10 m24) fun v32 m32 =>
    dP xm m32 a0 0 0 (.ref v32) fun m35 =>
    some (.inl none, m35)
  )
theorem m_Str_new_0_ok (xm : Nat → Option kE) (N : Nat) {a0 : Nat} {a1 : Nat} {mem : kM} {R : kO × kM} (h : m_Str_new_0 xm N a0 a1 mem = some R) : kCa xm kSm kDfl kFty kG 4 191 [.ref a0, .ref a1, .null] mem (dEq R) := by
  refine wq_ca (show 3 ≤ 5 by decide) ?_
  change kGo xm kSm kDfl kFty kG 3 191 0 [(0, .ref a0), (1, .ref a1), (2, .null)] [] mem (dEq R)
  unfold m_Str_new_0 at h
  refine wp_run 3 (pc' := 5) (lv' := [(0, .ref a0), (1, .ref a1), (2, .null)]) (st' := [.ref a1]) (mem' := mem) rfl ?_
  obtain ⟨fk5, hk5, h⟩ := dRc_some h
  refine wq_cR rfl (kCall_v hk5 (as := []) (rest := []) ⟨by decide, rfl, (show 0 < 90 by decide), by decide⟩ (show 0 ≤ 8 by decide)) h (fun r hr => ca_up (by decide) (m_ASB_getValue_ok xm N hr)) (fun v5 m5 h => ?_)
  refine wp_run 2 (pc' := 10) (lv' := [(3, .ref v5), (0, .ref a0), (1, .ref a1), (2, .null)]) (st' := [.ref a1]) (mem' := m5) rfl ?_
  obtain ⟨fk10, hk10, h⟩ := dRc_some h
  refine wq_cI rfl (kCall_v hk10 (as := []) (rest := []) ⟨by decide, rfl, (show 0 < 90 by decide), by decide⟩ (show 0 ≤ 8 by decide)) h (fun r hr => ca_up (by decide) (m_SB_length_ok xm N hr)) (fun v10 m10 h => ?_)
  refine wp_run 2 (pc' := 16) (lv' := [(4, .int v10), (3, .ref v5), (0, .ref a0), (1, .ref a1), (2, .null)]) (st' := [.ref a1]) (mem' := m10) rfl ?_
  obtain ⟨fk16, hk16, h⟩ := dRc_some h
  refine wq_cI rfl (kCall_v hk16 (as := []) (rest := []) ⟨by decide, rfl, (show 0 < 90 by decide), by decide⟩ (show 0 ≤ 8 by decide)) h (fun r hr => ca_up (by decide) (m_ASB_isLatin1_ok xm N hr)) (fun v16 m16 h => ?_)
  refine wq_eq rfl h (fun h => ?_) (fun h => ?_)
  · refine wp_run 1 (pc' := 44) (lv' := [(4, .int v10), (3, .ref v5), (0, .ref a0), (1, .ref a1), (2, .null)]) (st' := [.int 1]) (mem' := m16) rfl ?_
    refine wq_eq rfl h (fun h => ?_) (fun h => ?_)
    · refine kGo_sub (lvS_of [2, 1, 0] rfl [4, 3, 0, 1, 2] rfl (by decide)) ?_
      exact m_Str_new_0_79_ok xm N _ _ _ m16 R h
    · refine wp_run 1 (pc' := 48) (lv' := [(4, .int v10), (3, .ref v5), (0, .ref a0), (1, .ref a1), (2, .null)]) (st' := [.ref a1]) (mem' := m16) rfl ?_
      refine wq_gI rfl h (fun v48 h => ?_)
      refine wq_eq rfl h (fun h => ?_) (fun h => ?_)
      · refine kGo_sub (lvS_of [2, 1, 0] rfl [4, 3, 0, 1, 2] rfl (by decide)) ?_
        exact m_Str_new_0_79_ok xm N _ _ _ m16 R h
      · refine wp_run 4 (pc' := 59) (lv' := [(4, .int v10), (3, .ref v5), (0, .ref a0), (1, .ref a1), (2, .null)]) (st' := [.int v10, .int 0, .ref v5, .ref a0]) (mem' := m16) rfl ?_
        cases h
  · refine wp_run 2 (pc' := 24) (lv' := [(4, .int v10), (3, .ref v5), (0, .ref a0), (1, .ref a1), (2, .null)]) (st' := [.int 0, .ref a0]) (mem' := m16) rfl ?_
    refine wq_p rfl rfl h (fun m24 h => ?_)
    refine wp_run 4 (pc' := 32) (lv' := [(4, .int v10), (3, .ref v5), (0, .ref a0), (1, .ref a1), (2, .null)]) (st' := [.int v10, .int 0, .ref v5, .ref a0]) (mem' := m24) rfl ?_
    refine wq_cR rfl (kCall_s (as := [.ref v5, .int 0, .int v10]) (rest := [.ref a0]) ⟨by decide, rfl⟩ (show 1 ≤ 8 by decide) (by decide)) h (fun r hr => ca_up (by decide) (m_Ars_copyOfRange_ok xm N hr)) (fun v32 m32 h => ?_)
    refine wq_p rfl rfl h (fun m35 h => ?_)
    refine wp_run 1 (pc' := 97) (lv' := [(4, .int v10), (3, .ref v5), (0, .ref a0), (1, .ref a1), (2, .null)]) (st' := []) (mem' := m35) rfl ?_
    exact wq_end rfl rfl h
/-- java/lang/String.init(Ljava/lang/StringBuilder;)V -/
def m_Str_new_1 (xm : Nat → Option kE) (N : Nat) (a0 : Nat) (a1 : Nat) (mem : kM) : dRes :=
  dCV (m_Str_new_0 xm N a0 a1 mem) fun m3 =>
  some (.inl none, m3)
theorem m_Str_new_1_ok (xm : Nat → Option kE) (N : Nat) {a0 : Nat} {a1 : Nat} {mem : kM} {R : kO × kM} (h : m_Str_new_1 xm N a0 a1 mem = some R) : kCa xm kSm kDfl kFty kG 5 188 [.ref a0, .ref a1] mem (dEq R) := by
  refine wq_ca (show 2 ≤ 2 by decide) ?_
  change kGo xm kSm kDfl kFty kG 4 188 0 [(0, .ref a0), (1, .ref a1)] [] mem (dEq R)
  unfold m_Str_new_1 at h
  refine wp_run 3 (pc' := 3) (lv' := [(0, .ref a0), (1, .ref a1)]) (st' := [.null, .ref a1, .ref a0]) (mem' := mem) rfl ?_
  refine wq_cV rfl (kCall_i (as := [.ref a1, .null]) (rest := []) ⟨by decide, rfl, (show 2 < 90 by decide)⟩ (show 0 ≤ 8 by decide)) h (fun r hr => ca_up (by decide) (m_Str_new_0_ok xm N hr)) (fun m3 h => ?_)
  exact wq_end rfl rfl h
/-- java/lang/StringBuilder.toString()Ljava/lang/String; -/
def m_SB_toString (xm : Nat → Option kE) (N : Nat) (a0 : Nat) (mem : kM) : dRes :=
  dN mem (.inl (0, [.null, .int 0, .int 0, .int 0])) fun m0 p0 =>
  dCV (m_Str_new_1 xm N p0 a0 m0) fun m5 =>
  some (.inl (some (.ref p0)), m5)
theorem m_SB_toString_ok (xm : Nat → Option kE) (N : Nat) {a0 : Nat} {mem : kM} {R : kO × kM} (h : m_SB_toString xm N a0 mem = some R) : kCa xm kSm kDfl kFty kG 6 200 [.ref a0] mem (dEq R) := by
  refine wq_ca (show 1 ≤ 1 by decide) ?_
  change kGo xm kSm kDfl kFty kG 5 200 0 [(0, .ref a0)] [] mem (dEq R)
  unfold m_SB_toString at h
  refine wq_n rfl (by decide) rfl h (fun m0 p0 h => ?_)
  refine wp_run 2 (pc' := 5) (lv' := [(0, .ref a0)]) (st' := [.ref a0, .ref p0, .ref p0]) (mem' := m0) rfl ?_
  refine wq_cV rfl (kCall_i (as := [.ref a0]) (rest := [.ref p0]) ⟨by decide, rfl, (show 1 < 90 by decide)⟩ (show 1 ≤ 8 by decide)) h (fun r hr => ca_up (by decide) (m_Str_new_1_ok xm N hr)) (fun m5 h => ?_)
  exact wq_end rfl rfl h
/-- Knitstead.seen(Z)Ljava/lang/String; -/
def m_K_seen_17 (xm : Nat → Option kE) (N : Nat) : Nat → Nat → Nat → Nat → Int32 → kM → dRes
  | 0, _, _, _, _, _ => none
  | n + 1, a0, a2, a3, a4, mem =>
    dGI xm mem a2 7 1 fun v20 =>
    if a4 < v20 then (
      dRc xm mem a2 7 <|
      dCI (m_Needle_at xm N a2 a4 mem) fun v31 m31 =>
      dRc xm m31 a0 11 <|
      dCI (m_K_signOf xm N a0 v31 m31) fun v34 m34 =>
      dRc xm m34 a3 1 <|
      dCR (m_SB_append_0 xm N a3 v34 m34) fun v37 m37 =>
      m_K_seen_17 xm N n a0 a2 a3 (a4 + 1) m37
    ) else (
      dRc xm mem a3 1 <|
      dCR (m_SB_toString xm N a3 mem) fun v48 m48 =>
      some (.inl (some (.ref v48)), m48)
    )
theorem m_K_seen_17_ok (xm : Nat → Option kE) (N : Nat) : ∀ (n : Nat) (a0 : Nat) (a2 : Nat) (a3 : Nat) (a4 : Int32) (mem : kM) (R : kO × kM), m_K_seen_17 xm N n a0 a2 a3 a4 mem = some R → kGo xm kSm kDfl kFty kG 6 58 17 [(0, .ref a0), (2, .ref a2), (3, .ref a3), (4, .int a4)] [] mem (dEq R) := by
  intro n
  induction n with
  | zero => intro a0 a2 a3 a4 mem R h; cases h
  | succ n ih =>
    intro a0 a2 a3 a4 mem R h
    rw [m_K_seen_17] at h
    refine wp_run 2 (pc' := 20) (lv' := [(0, .ref a0), (2, .ref a2), (3, .ref a3), (4, .int a4)]) (st' := [.ref a2, .int a4]) (mem' := mem) rfl ?_
    refine wq_gI rfl h (fun v20 h => ?_)
    refine wq_ge2 rfl h (fun h => ?_) (fun h => ?_)
    · refine wp_run 4 (pc' := 31) (lv' := [(0, .ref a0), (2, .ref a2), (3, .ref a3), (4, .int a4)]) (st' := [.int a4, .ref a2, .ref a0, .ref a3]) (mem' := mem) rfl ?_
      obtain ⟨fk31, hk31, h⟩ := dRc_some h
      refine wq_cI rfl (kCall_v hk31 (as := [.int a4]) (rest := [.ref a0, .ref a3]) ⟨by decide, rfl, (show 1 < 90 by decide), by decide⟩ (show 2 ≤ 8 by decide)) h (fun r hr => ca_up (by decide) (m_Needle_at_ok xm N hr)) (fun v31 m31 h => ?_)
      obtain ⟨fk34, hk34, h⟩ := dRc_some h
      refine wq_cI rfl (kCall_v hk34 (as := [.int v31]) (rest := [.ref a3]) ⟨by decide, rfl, (show 1 < 90 by decide), by decide⟩ (show 1 ≤ 8 by decide)) h (fun r hr => ca_up (by decide) (m_K_signOf_ok xm N hr)) (fun v34 m34 h => ?_)
      obtain ⟨fk37, hk37, h⟩ := dRc_some h
      refine wq_cR rfl (kCall_v hk37 (as := [.int v34]) (rest := []) ⟨by decide, rfl, (show 1 < 90 by decide), by decide⟩ (show 0 ≤ 8 by decide)) h (fun r hr => ca_up (by decide) (m_SB_append_0_ok xm N hr)) (fun v37 m37 h => ?_)
      refine wp_run 3 (pc' := 17) (lv' := [(4, .int (a4 + 1)), (0, .ref a0), (2, .ref a2), (3, .ref a3)]) (st' := []) (mem' := m37) rfl ?_
      refine kGo_sub (lvS_of [1, 2, 3, 0] rfl [4, 0, 2, 3] rfl (by decide)) ?_
      exact ih _ _ _ _ m37 R h
    · refine wp_run 1 (pc' := 48) (lv' := [(0, .ref a0), (2, .ref a2), (3, .ref a3), (4, .int a4)]) (st' := [.ref a3]) (mem' := mem) rfl ?_
      obtain ⟨fk48, hk48, h⟩ := dRc_some h
      refine wq_cR rfl (kCall_v hk48 (as := []) (rest := []) ⟨by decide, rfl, (show 0 < 90 by decide), by decide⟩ (show 0 ≤ 8 by decide)) h (fun r hr => ca_up (by decide) (m_SB_toString_ok xm N hr)) (fun v48 m48 h => ?_)
      exact wq_end rfl rfl h
def m_K_seen (xm : Nat → Option kE) (N : Nat) (a0 : Nat) (a1 : Int32) (mem : kM) : dRes :=
  dRc xm mem a0 11 <|
  dCR (m_K_needle xm N a0 a1 mem) fun v2 m2 =>
  dN m2 (.inl (1, [.null, .int 0, .int 0, .int 0])) fun m6 p6 =>
  dCV (m_SB_new xm N p6 m6) fun m10 =>
  m_K_seen_17 xm N N a0 v2 p6 0 m10
theorem m_K_seen_ok (xm : Nat → Option kE) (N : Nat) {a0 : Nat} {a1 : Int32} {mem : kM} {R : kO × kM} (h : m_K_seen xm N a0 a1 mem = some R) : kCa xm kSm kDfl kFty kG 7 58 [.ref a0, .int a1] mem (dEq R) := by
  refine wq_ca (show 2 ≤ 5 by decide) ?_
  change kGo xm kSm kDfl kFty kG 6 58 0 [(0, .ref a0), (1, .int a1)] [] mem (dEq R)
  unfold m_K_seen at h
  refine wp_run 2 (pc' := 2) (lv' := [(0, .ref a0), (1, .int a1)]) (st' := [.int a1, .ref a0]) (mem' := mem) rfl ?_
  obtain ⟨fk2, hk2, h⟩ := dRc_some h
  refine wq_cR rfl (kCall_v hk2 (as := [.int a1]) (rest := []) ⟨by decide, rfl, (show 1 < 90 by decide), by decide⟩ (show 0 ≤ 8 by decide)) h (fun r hr => ca_up (by decide) (m_K_needle_ok xm N hr)) (fun v2 m2 h => ?_)
  refine wp_run 1 (pc' := 6) (lv' := [(2, .ref v2), (0, .ref a0), (1, .int a1)]) (st' := []) (mem' := m2) rfl ?_
  refine wq_n rfl (by decide) rfl h (fun m6 p6 h => ?_)
  refine wp_run 1 (pc' := 10) (lv' := [(2, .ref v2), (0, .ref a0), (1, .int a1)]) (st' := [.ref p6, .ref p6]) (mem' := m6) rfl ?_
  refine wq_cV rfl (kCall_i (as := []) (rest := [.ref p6]) ⟨by decide, rfl, (show 0 < 90 by decide)⟩ (show 1 ≤ 8 by decide)) h (fun r hr => ca_up (by decide) (m_SB_new_ok xm N hr)) (fun m10 h => ?_)
  refine wp_run 3 (pc' := 17) (lv' := [(4, .int 0), (3, .ref p6), (2, .ref v2), (0, .ref a0), (1, .int a1)]) (st' := []) (mem' := m10) rfl ?_
  refine kGo_sub (lvS_of [3, 2, 1, 0] rfl [4, 3, 2, 0, 1] rfl (by decide)) ?_
  exact m_K_seen_17_ok xm N N _ _ _ _ m10 R h
/-- Knitstead.widthOf(LKnitstead$Needle;)F -/
def m_K_widthOf_49 (xm : Nat → Option kE) (N : Nat) (K12 : Nat → Nat → UInt32 → Int32 → kM → dRes) (a0 : Nat) (a1 : Nat) (a2 : UInt32) (a3 : Int32) (mem : kM) : dRes :=
  K12 a0 a1 a2 (a3 + 1) mem
theorem m_K_widthOf_49_ok (xm : Nat → Option kE) (N : Nat) (K12 : Nat → Nat → UInt32 → Int32 → kM → dRes) (hK12 : ∀ (a0 : Nat) (a1 : Nat) (a2 : UInt32) (a3 : Int32) (mem : kM) (R : kO × kM), K12 a0 a1 a2 a3 mem = some R → kGo xm kSm kDfl kFty kG 4 95 12 [(0, .ref a0), (1, .ref a1), (2, .float a2), (3, .int a3)] [] mem (dEq R)) : ∀ (a0 : Nat) (a1 : Nat) (a2 : UInt32) (a3 : Int32) (mem : kM) (R : kO × kM), m_K_widthOf_49 xm N K12 a0 a1 a2 a3 mem = some R → kGo xm kSm kDfl kFty kG 4 95 49 [(0, .ref a0), (1, .ref a1), (2, .float a2), (3, .int a3)] [] mem (dEq R) := by
  intro a0 a1 a2 a3 mem R h
  unfold m_K_widthOf_49 at h
  refine wp_run 2 (pc' := 12) (lv' := [(3, .int (a3 + 1)), (0, .ref a0), (1, .ref a1), (2, .float a2)]) (st' := []) (mem' := mem) rfl ?_
  refine kGo_sub (lvS_of [1, 2, 3, 0] rfl [3, 0, 1, 2] rfl (by decide)) ?_
  exact hK12 _ _ _ _ mem R h
def m_K_widthOf_12 (xm : Nat → Option kE) (N : Nat) : Nat → Nat → Nat → UInt32 → Int32 → kM → dRes
  | 0, _, _, _, _, _ => none
  | n + 1, a0, a1, a2, a3, mem =>
    dGI xm mem a1 7 1 fun v14 =>
    if a3 < v14 then (
      dRc xm mem a1 7 <|
      dCI (m_Needle_at xm N a1 (a3 - 1) mem) fun v25 m25 =>
      dRc xm m25 a0 11 <|
      dCI (m_K_isSmooth xm N a0 v25 m25) fun v28 m28 =>
      dRc xm m28 a1 7 <|
      dCI (m_Needle_at xm N a1 a3 m28) fun v34 m34 =>
      dRc xm m34 a0 11 <|
      dCI (m_K_isSmooth xm N a0 v34 m34) fun v37 m37 =>
      if v28 = v37 then (
        m_K_widthOf_49 xm N (fun a0 a1 a2 a3 mem => m_K_widthOf_12 xm N n a0 a1 a2 a3 mem) a0 a1 a2 a3 m37
      ) else (
        dF32 (FP.fsub a2 1040187392) fun v47 =>
        m_K_widthOf_49 xm N (fun a0 a1 a2 a3 mem => m_K_widthOf_12 xm N n a0 a1 a2 a3 mem) a0 a1 v47 a3 m37
      )
    ) else (
      some (.inl (some (.float a2)), mem)
    )
theorem m_K_widthOf_12_ok (xm : Nat → Option kE) (N : Nat) : ∀ (n : Nat) (a0 : Nat) (a1 : Nat) (a2 : UInt32) (a3 : Int32) (mem : kM) (R : kO × kM), m_K_widthOf_12 xm N n a0 a1 a2 a3 mem = some R → kGo xm kSm kDfl kFty kG 4 95 12 [(0, .ref a0), (1, .ref a1), (2, .float a2), (3, .int a3)] [] mem (dEq R) := by
  intro n
  induction n with
  | zero => intro a0 a1 a2 a3 mem R h; cases h
  | succ n ih =>
    intro a0 a1 a2 a3 mem R h
    rw [m_K_widthOf_12] at h
    refine wp_run 2 (pc' := 14) (lv' := [(0, .ref a0), (1, .ref a1), (2, .float a2), (3, .int a3)]) (st' := [.ref a1, .int a3]) (mem' := mem) rfl ?_
    refine wq_gI rfl h (fun v14 h => ?_)
    refine wq_ge2 rfl h (fun h => ?_) (fun h => ?_)
    · refine wp_run 5 (pc' := 25) (lv' := [(0, .ref a0), (1, .ref a1), (2, .float a2), (3, .int a3)]) (st' := [.int (a3 - 1), .ref a1, .ref a0]) (mem' := mem) rfl ?_
      obtain ⟨fk25, hk25, h⟩ := dRc_some h
      refine wq_cI rfl (kCall_v hk25 (as := [.int (a3 - 1)]) (rest := [.ref a0]) ⟨by decide, rfl, (show 1 < 90 by decide), by decide⟩ (show 1 ≤ 8 by decide)) h (fun r hr => ca_up (by decide) (m_Needle_at_ok xm N hr)) (fun v25 m25 h => ?_)
      obtain ⟨fk28, hk28, h⟩ := dRc_some h
      refine wq_cI rfl (kCall_v hk28 (as := [.int v25]) (rest := []) ⟨by decide, rfl, (show 1 < 90 by decide), by decide⟩ (show 0 ≤ 8 by decide)) h (fun r hr => ca_up (by decide) (m_K_isSmooth_ok xm N hr)) (fun v28 m28 h => ?_)
      refine wp_run 3 (pc' := 34) (lv' := [(0, .ref a0), (1, .ref a1), (2, .float a2), (3, .int a3)]) (st' := [.int a3, .ref a1, .ref a0, .int v28]) (mem' := m28) rfl ?_
      obtain ⟨fk34, hk34, h⟩ := dRc_some h
      refine wq_cI rfl (kCall_v hk34 (as := [.int a3]) (rest := [.ref a0, .int v28]) ⟨by decide, rfl, (show 1 < 90 by decide), by decide⟩ (show 2 ≤ 8 by decide)) h (fun r hr => ca_up (by decide) (m_Needle_at_ok xm N hr)) (fun v34 m34 h => ?_)
      obtain ⟨fk37, hk37, h⟩ := dRc_some h
      refine wq_cI rfl (kCall_v hk37 (as := [.int v34]) (rest := [.int v28]) ⟨by decide, rfl, (show 1 < 90 by decide), by decide⟩ (show 1 ≤ 8 by decide)) h (fun r hr => ca_up (by decide) (m_K_isSmooth_ok xm N hr)) (fun v37 m37 h => ?_)
      refine wq_eq2 rfl h (fun h => ?_) (fun h => ?_)
      · exact m_K_widthOf_49_ok xm N _ ih _ _ _ _ m37 R h
      · refine wp_run 2 (pc' := 47) (lv' := [(0, .ref a0), (1, .ref a1), (2, .float a2), (3, .int a3)]) (st' := [.float 1040187392, .float a2]) (mem' := m37) rfl ?_
        refine wq_fsub rfl h (fun v47 h => ?_)
        refine wp_run 1 (pc' := 49) (lv' := [(2, .float v47), (0, .ref a0), (1, .ref a1), (3, .int a3)]) (st' := []) (mem' := m37) rfl ?_
        refine kGo_sub (lvS_of [1, 2, 0, 3] rfl [2, 0, 1, 3] rfl (by decide)) ?_
        exact m_K_widthOf_49_ok xm N _ ih _ _ _ _ m37 R h
    · refine wp_run 1 (pc' := 56) (lv' := [(0, .ref a0), (1, .ref a1), (2, .float a2), (3, .int a3)]) (st' := [.float a2]) (mem' := mem) rfl ?_
      exact wq_end rfl rfl h
def m_K_widthOf (xm : Nat → Option kE) (N : Nat) (a0 : Nat) (a1 : Nat) (mem : kM) : dRes :=
  dGI xm mem a1 7 1 fun v4 =>
  dF32 (FP.fmul 1056964608 (FP.i2f v4)) fun v8 =>
  m_K_widthOf_12 xm N N a0 a1 v8 1 mem
theorem m_K_widthOf_ok (xm : Nat → Option kE) (N : Nat) {a0 : Nat} {a1 : Nat} {mem : kM} {R : kO × kM} (h : m_K_widthOf xm N a0 a1 mem = some R) : kCa xm kSm kDfl kFty kG 5 95 [.ref a0, .ref a1] mem (dEq R) := by
  refine wq_ca (show 2 ≤ 4 by decide) ?_
  change kGo xm kSm kDfl kFty kG 4 95 0 [(0, .ref a0), (1, .ref a1)] [] mem (dEq R)
  unfold m_K_widthOf at h
  refine wp_run 2 (pc' := 4) (lv' := [(0, .ref a0), (1, .ref a1)]) (st' := [.ref a1, .float 1056964608]) (mem' := mem) rfl ?_
  refine wq_gI rfl h (fun v4 h => ?_)
  refine wp_run 1 (pc' := 8) (lv' := [(0, .ref a0), (1, .ref a1)]) (st' := [.float (FP.i2f v4), .float 1056964608]) (mem' := mem) rfl ?_
  refine wq_fmul rfl h (fun v8 h => ?_)
  refine wp_run 3 (pc' := 12) (lv' := [(3, .int 1), (2, .float v8), (0, .ref a0), (1, .ref a1)]) (st' := []) (mem' := mem) rfl ?_
  refine kGo_sub (lvS_of [2, 3, 1, 0] rfl [3, 2, 0, 1] rfl (by decide)) ?_
  exact m_K_widthOf_12_ok xm N N _ _ _ _ mem R h
/-- Knitstead.width(Z)D -/
def m_K_width (xm : Nat → Option kE) (N : Nat) (a0 : Nat) (a1 : Int32) (mem : kM) : dRes :=
  dRc xm mem a0 11 <|
  dCR (m_K_needle xm N a0 a1 mem) fun v3 m3 =>
  dRc xm m3 a0 11 <|
  dCF (m_K_widthOf xm N a0 v3 m3) fun v6 m6 =>
  dF64 (FP.f2d v6) fun v9 =>
  some (.inl (some (.double v9)), m6)
theorem m_K_width_ok (xm : Nat → Option kE) (N : Nat) {a0 : Nat} {a1 : Int32} {mem : kM} {R : kO × kM} (h : m_K_width xm N a0 a1 mem = some R) : kCa xm kSm kDfl kFty kG 6 59 [.ref a0, .int a1] mem (dEq R) := by
  refine wq_ca (show 2 ≤ 2 by decide) ?_
  change kGo xm kSm kDfl kFty kG 5 59 0 [(0, .ref a0), (1, .int a1)] [] mem (dEq R)
  unfold m_K_width at h
  refine wp_run 3 (pc' := 3) (lv' := [(0, .ref a0), (1, .int a1)]) (st' := [.int a1, .ref a0, .ref a0]) (mem' := mem) rfl ?_
  obtain ⟨fk3, hk3, h⟩ := dRc_some h
  refine wq_cR rfl (kCall_v hk3 (as := [.int a1]) (rest := [.ref a0]) ⟨by decide, rfl, (show 1 < 90 by decide), by decide⟩ (show 1 ≤ 8 by decide)) h (fun r hr => ca_up (by decide) (m_K_needle_ok xm N hr)) (fun v3 m3 h => ?_)
  obtain ⟨fk6, hk6, h⟩ := dRc_some h
  refine wq_cF rfl (kCall_v hk6 (as := [.ref v3]) (rest := []) ⟨by decide, rfl, (show 1 < 90 by decide), by decide⟩ (show 0 ≤ 8 by decide)) h (fun r hr => ca_up (by decide) (m_K_widthOf_ok xm N hr)) (fun v6 m6 h => ?_)
  refine wq_f2d rfl h (fun v9 h => ?_)
  exact wq_end rfl rfl h
/-- Knitstead$Balls.has(I)Z -/
def m_Balls_has (xm : Nat → Option kE) (N : Nat) (a0 : Nat) (a1 : Int32) (mem : kM) : dRes :=
  if a1 < 0 then (
    some (.inl (some (.int 0)), mem)
  ) else (
    dGI xm mem a0 5 1 fun v6 =>
    if a1 < v6 then (
      dGR xm mem a0 5 0 fun v14 =>
      dLen xm mem v14 fun v17 =>
      if a1 < v17 then (
        some (.inl (some (.int 1)), mem)
      ) else (
        some (.inl (some (.int 0)), mem)
      )
    ) else (
      some (.inl (some (.int 0)), mem)
    )
  )
theorem m_Balls_has_ok (xm : Nat → Option kE) (N : Nat) {a0 : Nat} {a1 : Int32} {mem : kM} {R : kO × kM} (h : m_Balls_has xm N a0 a1 mem = some R) : kCa xm kSm kDfl kFty kG 1 2 [.ref a0, .int a1] mem (dEq R) := by
  refine wq_ca (show 2 ≤ 2 by decide) ?_
  change kGo xm kSm kDfl kFty kG 0 2 0 [(0, .ref a0), (1, .int a1)] [] mem (dEq R)
  unfold m_Balls_has at h
  refine wp_run 1 (pc' := 1) (lv' := [(0, .ref a0), (1, .int a1)]) (st' := [.int a1]) (mem' := mem) rfl ?_
  refine wq_lt rfl h (fun h => ?_) (fun h => ?_)
  · refine wp_run 1 (pc' := 26) (lv' := [(0, .ref a0), (1, .int a1)]) (st' := [.int 0]) (mem' := mem) rfl ?_
    exact wq_ret rfl rfl h
  · refine wp_run 2 (pc' := 6) (lv' := [(0, .ref a0), (1, .int a1)]) (st' := [.ref a0, .int a1]) (mem' := mem) rfl ?_
    refine wq_gI rfl h (fun v6 h => ?_)
    refine wq_ge2 rfl h (fun h => ?_) (fun h => ?_)
    · refine wp_run 2 (pc' := 14) (lv' := [(0, .ref a0), (1, .int a1)]) (st' := [.ref a0, .int a1]) (mem' := mem) rfl ?_
      refine wq_gR rfl h (fun v14 h => ?_)
      refine wq_len rfl h (fun v17 h => ?_)
      refine wq_ge2 rfl h (fun h => ?_) (fun h => ?_)
      · refine wp_run 2 (pc' := 26) (lv' := [(0, .ref a0), (1, .int a1)]) (st' := [.int 1]) (mem' := mem) rfl ?_
        exact wq_ret rfl rfl h
      · refine wp_run 1 (pc' := 26) (lv' := [(0, .ref a0), (1, .int a1)]) (st' := [.int 0]) (mem' := mem) rfl ?_
        exact wq_ret rfl rfl h
    · refine wp_run 1 (pc' := 26) (lv' := [(0, .ref a0), (1, .int a1)]) (st' := [.int 0]) (mem' := mem) rfl ?_
      exact wq_ret rfl rfl h
/-- Knitstead$Balls.of(I)I -/
def m_Balls_of (xm : Nat → Option kE) (N : Nat) (a0 : Nat) (a1 : Int32) (mem : kM) : dRes :=
  dRc xm mem a0 5 <|
  dCI (m_Balls_has xm N a0 a1 mem) fun v2 m2 =>
  if v2 = 0 then (
    some (.inl (some (.int 0)), m2)
  ) else (
    dGR xm m2 a0 5 0 fun v9 =>
    dIL xm 0 m2 v9 a1 fun v13 =>
    some (.inl (some (.int v13)), m2)
  )
theorem m_Balls_of_ok (xm : Nat → Option kE) (N : Nat) {a0 : Nat} {a1 : Int32} {mem : kM} {R : kO × kM} (h : m_Balls_of xm N a0 a1 mem = some R) : kCa xm kSm kDfl kFty kG 2 4 [.ref a0, .int a1] mem (dEq R) := by
  refine wq_ca (show 2 ≤ 2 by decide) ?_
  change kGo xm kSm kDfl kFty kG 1 4 0 [(0, .ref a0), (1, .int a1)] [] mem (dEq R)
  unfold m_Balls_of at h
  refine wp_run 2 (pc' := 2) (lv' := [(0, .ref a0), (1, .int a1)]) (st' := [.int a1, .ref a0]) (mem' := mem) rfl ?_
  obtain ⟨fk2, hk2, h⟩ := dRc_some h
  refine wq_cI rfl (kCall_v hk2 (as := [.int a1]) (rest := []) ⟨by decide, rfl, (show 1 < 90 by decide), by decide⟩ (show 0 ≤ 8 by decide)) h (fun r hr => ca_up (by decide) (m_Balls_has_ok xm N hr)) (fun v2 m2 h => ?_)
  refine wq_eq rfl h (fun h => ?_) (fun h => ?_)
  · refine wp_run 1 (pc' := 18) (lv' := [(0, .ref a0), (1, .int a1)]) (st' := [.int 0]) (mem' := m2) rfl ?_
    exact wq_ret rfl rfl h
  · refine wp_run 1 (pc' := 9) (lv' := [(0, .ref a0), (1, .int a1)]) (st' := [.ref a0]) (mem' := m2) rfl ?_
    refine wq_gR rfl h (fun v9 h => ?_)
    refine wp_run 1 (pc' := 13) (lv' := [(0, .ref a0), (1, .int a1)]) (st' := [.int a1, .ref v9]) (mem' := m2) rfl ?_
    refine wq_iL rfl h (fun v13 h => ?_)
    refine wp_run 1 (pc' := 18) (lv' := [(0, .ref a0), (1, .int a1)]) (st' := [.int v13]) (mem' := m2) rfl ?_
    exact wq_ret rfl rfl h
/-- Knitstead$Balls.ofJoined()I -/
def m_Balls_ofJoined (xm : Nat → Option kE) (N : Nat) (a0 : Nat) (mem : kM) : dRes :=
  dGI xm mem a0 5 2 fun v2 =>
  dRc xm mem a0 5 <|
  dCI (m_Balls_of xm N a0 v2 mem) fun v5 m5 =>
  some (.inl (some (.int v5)), m5)
theorem m_Balls_ofJoined_ok (xm : Nat → Option kE) (N : Nat) {a0 : Nat} {mem : kM} {R : kO × kM} (h : m_Balls_ofJoined xm N a0 mem = some R) : kCa xm kSm kDfl kFty kG 3 6 [.ref a0] mem (dEq R) := by
  refine wq_ca (show 1 ≤ 1 by decide) ?_
  change kGo xm kSm kDfl kFty kG 2 6 0 [(0, .ref a0)] [] mem (dEq R)
  unfold m_Balls_ofJoined at h
  refine wp_run 2 (pc' := 2) (lv' := [(0, .ref a0)]) (st' := [.ref a0, .ref a0]) (mem' := mem) rfl ?_
  refine wq_gI rfl h (fun v2 h => ?_)
  obtain ⟨fk5, hk5, h⟩ := dRc_some h
  refine wq_cI rfl (kCall_v hk5 (as := [.int v2]) (rest := []) ⟨by decide, rfl, (show 1 < 90 by decide), by decide⟩ (show 0 ≤ 8 by decide)) h (fun r hr => ca_up (by decide) (m_Balls_of_ok xm N hr)) (fun v5 m5 h => ?_)
  exact wq_ret rfl rfl h
/-- Knitstead$Trial.start(III)V -/
def m_Trial_start (xm : Nat → Option kE) (N : Nat) (a0 : Nat) (a1 : Int32) (a2 : Int32) (a3 : Int32) (mem : kM) : dRes :=
  dP xm mem a0 9 0 (.int a1) fun m2 =>
  dP xm m2 a0 9 1 (.int a2) fun m7 =>
  dP xm m7 a0 9 2 (.int a3) fun m12 =>
  dP xm m12 a0 9 3 (.int 0) fun m17 =>
  dP xm m17 a0 9 4 (.int 0) fun m22 =>
  some (.inl none, m22)
theorem m_Trial_start_ok (xm : Nat → Option kE) (N : Nat) {a0 : Nat} {a1 : Int32} {a2 : Int32} {a3 : Int32} {mem : kM} {R : kO × kM} (h : m_Trial_start xm N a0 a1 a2 a3 mem = some R) : kCa xm kSm kDfl kFty kG 1 29 [.ref a0, .int a1, .int a2, .int a3] mem (dEq R) := by
  refine wq_ca (show 4 ≤ 4 by decide) ?_
  change kGo xm kSm kDfl kFty kG 0 29 0 [(0, .ref a0), (1, .int a1), (2, .int a2), (3, .int a3)] [] mem (dEq R)
  unfold m_Trial_start at h
  refine wp_run 2 (pc' := 2) (lv' := [(0, .ref a0), (1, .int a1), (2, .int a2), (3, .int a3)]) (st' := [.int a1, .ref a0]) (mem' := mem) rfl ?_
  refine wq_p rfl rfl h (fun m2 h => ?_)
  refine wp_run 2 (pc' := 7) (lv' := [(0, .ref a0), (1, .int a1), (2, .int a2), (3, .int a3)]) (st' := [.int a2, .ref a0]) (mem' := m2) rfl ?_
  refine wq_p rfl rfl h (fun m7 h => ?_)
  refine wp_run 2 (pc' := 12) (lv' := [(0, .ref a0), (1, .int a1), (2, .int a2), (3, .int a3)]) (st' := [.int a3, .ref a0]) (mem' := m7) rfl ?_
  refine wq_p rfl rfl h (fun m12 h => ?_)
  refine wp_run 2 (pc' := 17) (lv' := [(0, .ref a0), (1, .int a1), (2, .int a2), (3, .int a3)]) (st' := [.int 0, .ref a0]) (mem' := m12) rfl ?_
  refine wq_p rfl rfl h (fun m17 h => ?_)
  refine wp_run 2 (pc' := 22) (lv' := [(0, .ref a0), (1, .int a1), (2, .int a2), (3, .int a3)]) (st' := [.int 0, .ref a0]) (mem' := m17) rfl ?_
  refine wq_p rfl rfl h (fun m22 h => ?_)
  exact wq_end rfl rfl h
/-- Knitstead.stepFact([II)I -/
def m_K_stepFact (xm : Nat → Option kE) (N : Nat) (a0 : Nat) (a1 : Int32) (mem : kM) : dRes :=
  if a1 < 0 then (
    some (.inl (some (.int 0)), mem)
  ) else (
    dLen xm mem a0 fun v6 =>
    if a1 < v6 then (
      dIL xm 0 mem a0 a1 fun v12 =>
      some (.inl (some (.int v12)), mem)
    ) else (
      some (.inl (some (.int 0)), mem)
    )
  )
theorem m_K_stepFact_ok (xm : Nat → Option kE) (N : Nat) {a0 : Nat} {a1 : Int32} {mem : kM} {R : kO × kM} (h : m_K_stepFact xm N a0 a1 mem = some R) : kCa xm kSm kDfl kFty kG 1 77 [.ref a0, .int a1] mem (dEq R) := by
  refine wq_ca (show 2 ≤ 2 by decide) ?_
  change kGo xm kSm kDfl kFty kG 0 77 0 [(0, .ref a0), (1, .int a1)] [] mem (dEq R)
  unfold m_K_stepFact at h
  refine wp_run 1 (pc' := 1) (lv' := [(0, .ref a0), (1, .int a1)]) (st' := [.int a1]) (mem' := mem) rfl ?_
  refine wq_lt rfl h (fun h => ?_) (fun h => ?_)
  · refine wp_run 1 (pc' := 17) (lv' := [(0, .ref a0), (1, .int a1)]) (st' := [.int 0]) (mem' := mem) rfl ?_
    exact wq_ret rfl rfl h
  · refine wp_run 2 (pc' := 6) (lv' := [(0, .ref a0), (1, .int a1)]) (st' := [.ref a0, .int a1]) (mem' := mem) rfl ?_
    refine wq_len rfl h (fun v6 h => ?_)
    refine wq_ge2 rfl h (fun h => ?_) (fun h => ?_)
    · refine wp_run 2 (pc' := 12) (lv' := [(0, .ref a0), (1, .int a1)]) (st' := [.int a1, .ref a0]) (mem' := mem) rfl ?_
      refine wq_iL rfl h (fun v12 h => ?_)
      refine wp_run 1 (pc' := 17) (lv' := [(0, .ref a0), (1, .int a1)]) (st' := [.int v12]) (mem' := mem) rfl ?_
      exact wq_ret rfl rfl h
    · refine wp_run 1 (pc' := 17) (lv' := [(0, .ref a0), (1, .int a1)]) (st' := [.int 0]) (mem' := mem) rfl ?_
      exact wq_ret rfl rfl h
/-- Knitstead.fits(IIII)Z -/
def m_K_fits (xm : Nat → Option kE) (N : Nat) (a0 : Int32) (a1 : Int32) (a2 : Int32) (a3 : Int32) (mem : kM) : dRes :=
  dCI (m_K_stepFact xm N 5 a0 mem) fun v4 m4 =>
  dCI (m_K_stepFact xm N 3 a0 m4) fun v11 m11 =>
  dCI (m_K_stepFact xm N 6 a0 m11) fun v22 m22 =>
  if a1 < v22 then (
    some (.inl (some (.int 0)), m22)
  ) else (
    if 24 < (a2 + (v4 - v11)) then (
      some (.inl (some (.int 0)), m22)
    ) else (
      dCI (m_K_stepFact xm N 4 a0 m22) fun v42 m42 =>
      if a3 < v42 then (
        some (.inl (some (.int 0)), m42)
      ) else (
        some (.inl (some (.int 1)), m42)
      )
    )
  )
theorem m_K_fits_ok (xm : Nat → Option kE) (N : Nat) {a0 : Int32} {a1 : Int32} {a2 : Int32} {a3 : Int32} {mem : kM} {R : kO × kM} (h : m_K_fits xm N a0 a1 a2 a3 mem = some R) : kCa xm kSm kDfl kFty kG 2 79 [.int a0, .int a1, .int a2, .int a3] mem (dEq R) := by
  refine wq_ca (show 4 ≤ 5 by decide) ?_
  change kGo xm kSm kDfl kFty kG 1 79 0 [(0, .int a0), (1, .int a1), (2, .int a2), (3, .int a3)] [] mem (dEq R)
  unfold m_K_fits at h
  refine wp_run 2 (pc' := 4) (lv' := [(0, .int a0), (1, .int a1), (2, .int a2), (3, .int a3)]) (st' := [.int a0, .ref 5]) (mem' := mem) rfl ?_
  refine wq_cI rfl (kCall_s (as := [.ref 5, .int a0]) (rest := []) ⟨by decide, rfl⟩ (show 0 ≤ 8 by decide) (by decide)) h (fun r hr => ca_up (by decide) (m_K_stepFact_ok xm N hr)) (fun v4 m4 h => ?_)
  refine wp_run 2 (pc' := 11) (lv' := [(0, .int a0), (1, .int a1), (2, .int a2), (3, .int a3)]) (st' := [.int a0, .ref 3, .int v4]) (mem' := m4) rfl ?_
  refine wq_cI rfl (kCall_s (as := [.ref 3, .int a0]) (rest := [.int v4]) ⟨by decide, rfl⟩ (show 1 ≤ 8 by decide) (by decide)) h (fun r hr => ca_up (by decide) (m_K_stepFact_ok xm N hr)) (fun v11 m11 h => ?_)
  refine wp_run 5 (pc' := 22) (lv' := [(4, .int (v4 - v11)), (0, .int a0), (1, .int a1), (2, .int a2), (3, .int a3)]) (st' := [.int a0, .ref 6, .int a1]) (mem' := m11) rfl ?_
  refine wq_cI rfl (kCall_s (as := [.ref 6, .int a0]) (rest := [.int a1]) ⟨by decide, rfl⟩ (show 1 ≤ 8 by decide) (by decide)) h (fun r hr => ca_up (by decide) (m_K_stepFact_ok xm N hr)) (fun v22 m22 h => ?_)
  refine wq_lt2 rfl h (fun h => ?_) (fun h => ?_)
  · refine wp_run 1 (pc' := 53) (lv' := [(4, .int (v4 - v11)), (0, .int a0), (1, .int a1), (2, .int a2), (3, .int a3)]) (st' := [.int 0]) (mem' := m22) rfl ?_
    exact wq_ret rfl rfl h
  · refine wp_run 4 (pc' := 34) (lv' := [(4, .int (v4 - v11)), (0, .int a0), (1, .int a1), (2, .int a2), (3, .int a3)]) (st' := [.int 24, .int (a2 + (v4 - v11))]) (mem' := m22) rfl ?_
    refine wq_gt2 rfl h (fun h => ?_) (fun h => ?_)
    · refine wp_run 1 (pc' := 53) (lv' := [(4, .int (v4 - v11)), (0, .int a0), (1, .int a1), (2, .int a2), (3, .int a3)]) (st' := [.int 0]) (mem' := m22) rfl ?_
      exact wq_ret rfl rfl h
    · refine wp_run 3 (pc' := 42) (lv' := [(4, .int (v4 - v11)), (0, .int a0), (1, .int a1), (2, .int a2), (3, .int a3)]) (st' := [.int a0, .ref 4, .int a3]) (mem' := m22) rfl ?_
      refine wq_cI rfl (kCall_s (as := [.ref 4, .int a0]) (rest := [.int a3]) ⟨by decide, rfl⟩ (show 1 ≤ 8 by decide) (by decide)) h (fun r hr => ca_up (by decide) (m_K_stepFact_ok xm N hr)) (fun v42 m42 h => ?_)
      refine wq_lt2 rfl h (fun h => ?_) (fun h => ?_)
      · refine wp_run 1 (pc' := 53) (lv' := [(4, .int (v4 - v11)), (0, .int a0), (1, .int a1), (2, .int a2), (3, .int a3)]) (st' := [.int 0]) (mem' := m42) rfl ?_
        exact wq_ret rfl rfl h
      · refine wp_run 2 (pc' := 53) (lv' := [(4, .int (v4 - v11)), (0, .int a0), (1, .int a1), (2, .int a2), (3, .int a3)]) (st' := [.int 1]) (mem' := m42) rfl ?_
        exact wq_ret rfl rfl h
