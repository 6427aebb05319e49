set_option maxRecDepth 20000
/-- KnitsteadLaw.law([I)Z -/
def m_law_law_1004 (xm : Nat → Option kE) (N : Nat) (K27 : Nat → Nat → Nat → Nat → Int32 → kM → dRes) (a0 : Nat) (a1 : Nat) (a2 : Nat) (a3 : Nat) (a4 : Int32) (mem : kM) : dRes :=
  K27 a0 a1 a2 a3 (a4 + 3) mem
theorem m_law_law_1004_ok (xm : Nat → Option kE) (N : Nat) (K27 : Nat → Nat → Nat → Nat → Int32 → kM → dRes) (hK27 : ∀ (a0 : Nat) (a1 : Nat) (a2 : Nat) (a3 : Nat) (a4 : Int32) (mem : kM) (R : kO × kM), K27 a0 a1 a2 a3 a4 mem = some R → kGo xm kSm kDfl kFty kG 11 0 27 [(0, .ref a0), (1, .ref a1), (2, .ref a2), (3, .ref a3), (4, .int a4)] [] mem (dEq R)) : ∀ (a0 : Nat) (a1 : Nat) (a2 : Nat) (a3 : Nat) (a4 : Int32) (mem : kM) (R : kO × kM), m_law_law_1004 xm N K27 a0 a1 a2 a3 a4 mem = some R → kGo xm kSm kDfl kFty kG 11 0 1004 [(0, .ref a0), (1, .ref a1), (2, .ref a2), (3, .ref a3), (4, .int a4)] [] mem (dEq R) := by
  intro a0 a1 a2 a3 a4 mem R h
  unfold m_law_law_1004 at h
  refine wp_run 2 (pc' := 27) (lv' := [(4, .int (a4 + 3)), (0, .ref a0), (1, .ref a1), (2, .ref a2), (3, .ref a3)]) (st' := []) (mem' := mem) rfl ?_
  refine kGo_sub (lvS_of [1, 2, 3, 4, 0] rfl [4, 0, 1, 2, 3] rfl (by decide)) ?_
  exact hK27 _ _ _ _ _ mem R h
def m_law_law_284 (xm : Nat → Option kE) (N : Nat) (K27 : Nat → Nat → Nat → Nat → Int32 → kM → dRes) (a0 : Nat) (a1 : Nat) (a2 : Nat) (a3 : Nat) (a4 : Int32) (s0 : Nat) (s1 : Int32) (mem : kM) : dRes :=
  dRc xm mem s0 15 <|
  dCI (m_M_work xm N s0 s1 mem) fun v284 m284 =>
  m_law_law_1004 xm N K27 a0 a1 a2 a3 a4 m284
theorem m_law_law_284_ok (xm : Nat → Option kE) (N : Nat) (K27 : Nat → Nat → Nat → Nat → Int32 → kM → dRes) (hK27 : ∀ (a0 : Nat) (a1 : Nat) (a2 : Nat) (a3 : Nat) (a4 : Int32) (mem : kM) (R : kO × kM), K27 a0 a1 a2 a3 a4 mem = some R → kGo xm kSm kDfl kFty kG 11 0 27 [(0, .ref a0), (1, .ref a1), (2, .ref a2), (3, .ref a3), (4, .int a4)] [] mem (dEq R)) : ∀ (a0 : Nat) (a1 : Nat) (a2 : Nat) (a3 : Nat) (a4 : Int32) (s0 : Nat) (s1 : Int32) (mem : kM) (R : kO × kM), m_law_law_284 xm N K27 a0 a1 a2 a3 a4 s0 s1 mem = some R → kGo xm kSm kDfl kFty kG 11 0 284 [(0, .ref a0), (1, .ref a1), (2, .ref a2), (3, .ref a3), (4, .int a4)] [.int s1, .ref s0] mem (dEq R) := by
  intro a0 a1 a2 a3 a4 s0 s1 mem R h
  unfold m_law_law_284 at h
  obtain ⟨fk284, hk284, h⟩ := dRc_some h
  refine wq_cI rfl (kCall_v hk284 (as := [.int s1]) (rest := []) ⟨by decide, rfl, (show 1 < 90 by decide), by decide⟩ (show 0 ≤ 8 by decide)) h (fun r hr => ca_up (by decide) (m_M_work_ok xm N hr)) (fun v284 m284 h => ?_)
  refine wp_run 2 (pc' := 1004) (lv' := [(6, .int v284), (0, .ref a0), (1, .ref a1), (2, .ref a2), (3, .ref a3), (4, .int a4)]) (st' := []) (mem' := m284) rfl ?_
  refine kGo_sub (lvS_of [1, 2, 3, 4, 5] rfl [6, 0, 1, 2, 3, 4] rfl (by decide)) ?_
  exact m_law_law_1004_ok xm N _ hK27 _ _ _ _ _ m284 R h
def m_law_law_263 (xm : Nat → Option kE) (N : Nat) (K27 : Nat → Nat → Nat → Nat → Int32 → kM → dRes) (a0 : Nat) (a1 : Nat) (a2 : Nat) (a3 : Nat) (a4 : Int32) (s0 : Nat) (s1 : Int32) (mem : kM) : dRes :=
  dCI (m_law_work xm N s0 s1 a3 mem) fun v264 m264 =>
  dIL xm 0 m264 a0 (a4 + 1) fun v275 =>
  if v275 = 0 then (
    m_law_law_284 xm N K27 a0 a1 a2 a3 a4 a2 0 m264
  ) else (
    m_law_law_284 xm N K27 a0 a1 a2 a3 a4 a2 1 m264
  )
theorem m_law_law_263_ok (xm : Nat → Option kE) (N : Nat) (K27 : Nat → Nat → Nat → Nat → Int32 → kM → dRes) (hK27 : ∀ (a0 : Nat) (a1 : Nat) (a2 : Nat) (a3 : Nat) (a4 : Int32) (mem : kM) (R : kO × kM), K27 a0 a1 a2 a3 a4 mem = some R → kGo xm kSm kDfl kFty kG 11 0 27 [(0, .ref a0), (1, .ref a1), (2, .ref a2), (3, .ref a3), (4, .int a4)] [] mem (dEq R)) : ∀ (a0 : Nat) (a1 : Nat) (a2 : Nat) (a3 : Nat) (a4 : Int32) (s0 : Nat) (s1 : Int32) (mem : kM) (R : kO × kM), m_law_law_263 xm N K27 a0 a1 a2 a3 a4 s0 s1 mem = some R → kGo xm kSm kDfl kFty kG 11 0 263 [(0, .ref a0), (1, .ref a1), (2, .ref a2), (3, .ref a3), (4, .int a4)] [.int s1, .ref s0] mem (dEq R) := by
  intro a0 a1 a2 a3 a4 s0 s1 mem R h
  unfold m_law_law_263 at h
  refine wp_run 1 (pc' := 264) (lv' := [(0, .ref a0), (1, .ref a1), (2, .ref a2), (3, .ref a3), (4, .int a4)]) (st' := [.ref a3, .int s1, .ref s0]) (mem' := mem) rfl ?_
  refine wq_cI rfl (kCall_s (as := [.ref s0, .int s1, .ref a3]) (rest := []) ⟨by decide, rfl⟩ (show 0 ≤ 8 by decide) (by decide)) h (fun r hr => ca_up (by decide) (m_law_work_ok xm N hr)) (fun v264 m264 h => ?_)
  refine wp_run 6 (pc' := 275) (lv' := [(5, .int v264), (0, .ref a0), (1, .ref a1), (2, .ref a2), (3, .ref a3), (4, .int a4)]) (st' := [.int (a4 + 1), .ref a0, .ref a2]) (mem' := m264) rfl ?_
  refine wq_iL rfl h (fun v275 h => ?_)
  refine wq_eq rfl h (fun h => ?_) (fun h => ?_)
  · refine wp_run 1 (pc' := 284) (lv' := [(5, .int v264), (0, .ref a0), (1, .ref a1), (2, .ref a2), (3, .ref a3), (4, .int a4)]) (st' := [.int 0, .ref a2]) (mem' := m264) rfl ?_
    refine kGo_sub (lvS_of [1, 2, 3, 4, 5] rfl [5, 0, 1, 2, 3, 4] rfl (by decide)) ?_
    exact m_law_law_284_ok xm N _ hK27 _ _ _ _ _ _ _ m264 R h
  · refine wp_run 2 (pc' := 284) (lv' := [(5, .int v264), (0, .ref a0), (1, .ref a1), (2, .ref a2), (3, .ref a3), (4, .int a4)]) (st' := [.int 1, .ref a2]) (mem' := m264) rfl ?_
    refine kGo_sub (lvS_of [1, 2, 3, 4, 5] rfl [5, 0, 1, 2, 3, 4] rfl (by decide)) ?_
    exact m_law_law_284_ok xm N _ hK27 _ _ _ _ _ _ _ m264 R h
def m_law_law_356 (xm : Nat → Option kE) (N : Nat) (K27 : Nat → Nat → Nat → Nat → Int32 → kM → dRes) (a0 : Nat) (a1 : Nat) (a2 : Nat) (a3 : Nat) (a4 : Int32) (s0 : Nat) (s1 : Int32) (s2 : Int32) (mem : kM) : dRes :=
  dRc xm mem s0 15 <|
  dCI (m_M_together xm N s0 s1 s2 mem) fun v356 m356 =>
  m_law_law_1004 xm N K27 a0 a1 a2 a3 a4 m356
theorem m_law_law_356_ok (xm : Nat → Option kE) (N : Nat) (K27 : Nat → Nat → Nat → Nat → Int32 → kM → dRes) (hK27 : ∀ (a0 : Nat) (a1 : Nat) (a2 : Nat) (a3 : Nat) (a4 : Int32) (mem : kM) (R : kO × kM), K27 a0 a1 a2 a3 a4 mem = some R → kGo xm kSm kDfl kFty kG 11 0 27 [(0, .ref a0), (1, .ref a1), (2, .ref a2), (3, .ref a3), (4, .int a4)] [] mem (dEq R)) : ∀ (a0 : Nat) (a1 : Nat) (a2 : Nat) (a3 : Nat) (a4 : Int32) (s0 : Nat) (s1 : Int32) (s2 : Int32) (mem : kM) (R : kO × kM), m_law_law_356 xm N K27 a0 a1 a2 a3 a4 s0 s1 s2 mem = some R → kGo xm kSm kDfl kFty kG 11 0 356 [(0, .ref a0), (1, .ref a1), (2, .ref a2), (3, .ref a3), (4, .int a4)] [.int s2, .int s1, .ref s0] mem (dEq R) := by
  intro a0 a1 a2 a3 a4 s0 s1 s2 mem R h
  unfold m_law_law_356 at h
  obtain ⟨fk356, hk356, h⟩ := dRc_some h
  refine wq_cI rfl (kCall_v hk356 (as := [.int s1, .int s2]) (rest := []) ⟨by decide, rfl, (show 2 < 90 by decide), by decide⟩ (show 0 ≤ 8 by decide)) h (fun r hr => ca_up (by decide) (m_M_together_ok xm N hr)) (fun v356 m356 h => ?_)
  refine wp_run 2 (pc' := 1004) (lv' := [(6, .int v356), (0, .ref a0), (1, .ref a1), (2, .ref a2), (3, .ref a3), (4, .int a4)]) (st' := []) (mem' := m356) rfl ?_
  refine kGo_sub (lvS_of [1, 2, 3, 4, 5] rfl [6, 0, 1, 2, 3, 4] rfl (by decide)) ?_
  exact m_law_law_1004_ok xm N _ hK27 _ _ _ _ _ m356 R h
def m_law_law_329 (xm : Nat → Option kE) (N : Nat) (K27 : Nat → Nat → Nat → Nat → Int32 → kM → dRes) (a0 : Nat) (a1 : Nat) (a2 : Nat) (a3 : Nat) (a4 : Int32) (s0 : Nat) (s1 : Int32) (s2 : Int32) (mem : kM) : dRes :=
  dCI (m_law_together xm N s0 s1 s2 a3 mem) fun v330 m330 =>
  dIL xm 0 m330 a0 (a4 + 1) fun v341 =>
  dIL xm 0 m330 a0 (a4 + 2) fun v347 =>
  if v347 = 0 then (
    m_law_law_356 xm N K27 a0 a1 a2 a3 a4 a2 v341 0 m330
  ) else (
    m_law_law_356 xm N K27 a0 a1 a2 a3 a4 a2 v341 1 m330
  )
theorem m_law_law_329_ok (xm : Nat → Option kE) (N : Nat) (K27 : Nat → Nat → Nat → Nat → Int32 → kM → dRes) (hK27 : ∀ (a0 : Nat) (a1 : Nat) (a2 : Nat) (a3 : Nat) (a4 : Int32) (mem : kM) (R : kO × kM), K27 a0 a1 a2 a3 a4 mem = some R → kGo xm kSm kDfl kFty kG 11 0 27 [(0, .ref a0), (1, .ref a1), (2, .ref a2), (3, .ref a3), (4, .int a4)] [] mem (dEq R)) : ∀ (a0 : Nat) (a1 : Nat) (a2 : Nat) (a3 : Nat) (a4 : Int32) (s0 : Nat) (s1 : Int32) (s2 : Int32) (mem : kM) (R : kO × kM), m_law_law_329 xm N K27 a0 a1 a2 a3 a4 s0 s1 s2 mem = some R → kGo xm kSm kDfl kFty kG 11 0 329 [(0, .ref a0), (1, .ref a1), (2, .ref a2), (3, .ref a3), (4, .int a4)] [.int s2, .int s1, .ref s0] mem (dEq R) := by
  intro a0 a1 a2 a3 a4 s0 s1 s2 mem R h
  unfold m_law_law_329 at h
  refine wp_run 1 (pc' := 330) (lv' := [(0, .ref a0), (1, .ref a1), (2, .ref a2), (3, .ref a3), (4, .int a4)]) (st' := [.ref a3, .int s2, .int s1, .ref s0]) (mem' := mem) rfl ?_
  refine wq_cI rfl (kCall_s (as := [.ref s0, .int s1, .int s2, .ref a3]) (rest := []) ⟨by decide, rfl⟩ (show 0 ≤ 8 by decide) (by decide)) h (fun r hr => ca_up (by decide) (m_law_together_ok xm N hr)) (fun v330 m330 h => ?_)
  refine wp_run 6 (pc' := 341) (lv' := [(5, .int v330), (0, .ref a0), (1, .ref a1), (2, .ref a2), (3, .ref a3), (4, .int a4)]) (st' := [.int (a4 + 1), .ref a0, .ref a2]) (mem' := m330) rfl ?_
  refine wq_iL rfl h (fun v341 h => ?_)
  refine wp_run 4 (pc' := 347) (lv' := [(5, .int v330), (0, .ref a0), (1, .ref a1), (2, .ref a2), (3, .ref a3), (4, .int a4)]) (st' := [.int (a4 + 2), .ref a0, .int v341, .ref a2]) (mem' := m330) rfl ?_
  refine wq_iL rfl h (fun v347 h => ?_)
  refine wq_eq rfl h (fun h => ?_) (fun h => ?_)
  · refine wp_run 1 (pc' := 356) (lv' := [(5, .int v330), (0, .ref a0), (1, .ref a1), (2, .ref a2), (3, .ref a3), (4, .int a4)]) (st' := [.int 0, .int v341, .ref a2]) (mem' := m330) rfl ?_
    refine kGo_sub (lvS_of [1, 2, 3, 4, 5] rfl [5, 0, 1, 2, 3, 4] rfl (by decide)) ?_
    exact m_law_law_356_ok xm N _ hK27 _ _ _ _ _ _ _ _ m330 R h
  · refine wp_run 2 (pc' := 356) (lv' := [(5, .int v330), (0, .ref a0), (1, .ref a1), (2, .ref a2), (3, .ref a3), (4, .int a4)]) (st' := [.int 1, .int v341, .ref a2]) (mem' := m330) rfl ?_
    refine kGo_sub (lvS_of [1, 2, 3, 4, 5] rfl [5, 0, 1, 2, 3, 4] rfl (by decide)) ?_
    exact m_law_law_356_ok xm N _ hK27 _ _ _ _ _ _ _ _ m330 R h
def m_law_law_622 (xm : Nat → Option kE) (N : Nat) (K27 : Nat → Nat → Nat → Nat → Int32 → kM → dRes) (a0 : Nat) (a1 : Nat) (a2 : Nat) (a3 : Nat) (a4 : Int32) (s0 : Nat) (s1 : Int32) (mem : kM) : dRes :=
  dIL xm 0 mem a0 (a4 + 2) fun v627 =>
  dRc xm mem s0 15 <|
  dCI (m_M_on xm N s0 s1 v627 mem) fun v628 m628 =>
  m_law_law_1004 xm N K27 a0 a1 a2 a3 a4 m628
theorem m_law_law_622_ok (xm : Nat → Option kE) (N : Nat) (K27 : Nat → Nat → Nat → Nat → Int32 → kM → dRes) (hK27 : ∀ (a0 : Nat) (a1 : Nat) (a2 : Nat) (a3 : Nat) (a4 : Int32) (mem : kM) (R : kO × kM), K27 a0 a1 a2 a3 a4 mem = some R → kGo xm kSm kDfl kFty kG 11 0 27 [(0, .ref a0), (1, .ref a1), (2, .ref a2), (3, .ref a3), (4, .int a4)] [] mem (dEq R)) : ∀ (a0 : Nat) (a1 : Nat) (a2 : Nat) (a3 : Nat) (a4 : Int32) (s0 : Nat) (s1 : Int32) (mem : kM) (R : kO × kM), m_law_law_622 xm N K27 a0 a1 a2 a3 a4 s0 s1 mem = some R → kGo xm kSm kDfl kFty kG 11 0 622 [(0, .ref a0), (1, .ref a1), (2, .ref a2), (3, .ref a3), (4, .int a4)] [.int s1, .ref s0] mem (dEq R) := by
  intro a0 a1 a2 a3 a4 s0 s1 mem R h
  unfold m_law_law_622 at h
  refine wp_run 4 (pc' := 627) (lv' := [(0, .ref a0), (1, .ref a1), (2, .ref a2), (3, .ref a3), (4, .int a4)]) (st' := [.int (a4 + 2), .ref a0, .int s1, .ref s0]) (mem' := mem) rfl ?_
  refine wq_iL rfl h (fun v627 h => ?_)
  obtain ⟨fk628, hk628, h⟩ := dRc_some h
  refine wq_cI rfl (kCall_v hk628 (as := [.int s1, .int v627]) (rest := []) ⟨by decide, rfl, (show 2 < 90 by decide), by decide⟩ (show 0 ≤ 8 by decide)) h (fun r hr => ca_up (by decide) (m_M_on_ok xm N hr)) (fun v628 m628 h => ?_)
  refine wp_run 2 (pc' := 1004) (lv' := [(6, .int v628), (0, .ref a0), (1, .ref a1), (2, .ref a2), (3, .ref a3), (4, .int a4)]) (st' := []) (mem' := m628) rfl ?_
  refine kGo_sub (lvS_of [1, 2, 3, 4, 5] rfl [6, 0, 1, 2, 3, 4] rfl (by decide)) ?_
  exact m_law_law_1004_ok xm N _ hK27 _ _ _ _ _ m628 R h
def m_law_law_595 (xm : Nat → Option kE) (N : Nat) (K27 : Nat → Nat → Nat → Nat → Int32 → kM → dRes) (a0 : Nat) (a1 : Nat) (a2 : Nat) (a3 : Nat) (a4 : Int32) (s0 : Nat) (s1 : Int32) (mem : kM) : dRes :=
  dIL xm 0 mem a0 (a4 + 2) fun v600 =>
  dCI (m_law_on xm N s0 s1 v600 a3 mem) fun v602 m602 =>
  dIL xm 0 m602 a0 (a4 + 1) fun v613 =>
  if v613 = 0 then (
    m_law_law_622 xm N K27 a0 a1 a2 a3 a4 a2 0 m602
  ) else (
    m_law_law_622 xm N K27 a0 a1 a2 a3 a4 a2 1 m602
  )
theorem m_law_law_595_ok (xm : Nat → Option kE) (N : Nat) (K27 : Nat → Nat → Nat → Nat → Int32 → kM → dRes) (hK27 : ∀ (a0 : Nat) (a1 : Nat) (a2 : Nat) (a3 : Nat) (a4 : Int32) (mem : kM) (R : kO × kM), K27 a0 a1 a2 a3 a4 mem = some R → kGo xm kSm kDfl kFty kG 11 0 27 [(0, .ref a0), (1, .ref a1), (2, .ref a2), (3, .ref a3), (4, .int a4)] [] mem (dEq R)) : ∀ (a0 : Nat) (a1 : Nat) (a2 : Nat) (a3 : Nat) (a4 : Int32) (s0 : Nat) (s1 : Int32) (mem : kM) (R : kO × kM), m_law_law_595 xm N K27 a0 a1 a2 a3 a4 s0 s1 mem = some R → kGo xm kSm kDfl kFty kG 11 0 595 [(0, .ref a0), (1, .ref a1), (2, .ref a2), (3, .ref a3), (4, .int a4)] [.int s1, .ref s0] mem (dEq R) := by
  intro a0 a1 a2 a3 a4 s0 s1 mem R h
  unfold m_law_law_595 at h
  refine wp_run 4 (pc' := 600) (lv' := [(0, .ref a0), (1, .ref a1), (2, .ref a2), (3, .ref a3), (4, .int a4)]) (st' := [.int (a4 + 2), .ref a0, .int s1, .ref s0]) (mem' := mem) rfl ?_
  refine wq_iL rfl h (fun v600 h => ?_)
  refine wp_run 1 (pc' := 602) (lv' := [(0, .ref a0), (1, .ref a1), (2, .ref a2), (3, .ref a3), (4, .int a4)]) (st' := [.ref a3, .int v600, .int s1, .ref s0]) (mem' := mem) rfl ?_
  refine wq_cI rfl (kCall_s (as := [.ref s0, .int s1, .int v600, .ref a3]) (rest := []) ⟨by decide, rfl⟩ (show 0 ≤ 8 by decide) (by decide)) h (fun r hr => ca_up (by decide) (m_law_on_ok xm N hr)) (fun v602 m602 h => ?_)
  refine wp_run 6 (pc' := 613) (lv' := [(5, .int v602), (0, .ref a0), (1, .ref a1), (2, .ref a2), (3, .ref a3), (4, .int a4)]) (st' := [.int (a4 + 1), .ref a0, .ref a2]) (mem' := m602) rfl ?_
  refine wq_iL rfl h (fun v613 h => ?_)
  refine wq_eq rfl h (fun h => ?_) (fun h => ?_)
  · refine wp_run 1 (pc' := 622) (lv' := [(5, .int v602), (0, .ref a0), (1, .ref a1), (2, .ref a2), (3, .ref a3), (4, .int a4)]) (st' := [.int 0, .ref a2]) (mem' := m602) rfl ?_
    refine kGo_sub (lvS_of [1, 2, 3, 4, 5] rfl [5, 0, 1, 2, 3, 4] rfl (by decide)) ?_
    exact m_law_law_622_ok xm N _ hK27 _ _ _ _ _ _ _ m602 R h
  · refine wp_run 2 (pc' := 622) (lv' := [(5, .int v602), (0, .ref a0), (1, .ref a1), (2, .ref a2), (3, .ref a3), (4, .int a4)]) (st' := [.int 1, .ref a2]) (mem' := m602) rfl ?_
    refine kGo_sub (lvS_of [1, 2, 3, 4, 5] rfl [5, 0, 1, 2, 3, 4] rfl (by decide)) ?_
    exact m_law_law_622_ok xm N _ hK27 _ _ _ _ _ _ _ m602 R h
def m_law_law_750 (xm : Nat → Option kE) (N : Nat) (K27 : Nat → Nat → Nat → Nat → Int32 → kM → dRes) (a0 : Nat) (a1 : Nat) (a2 : Nat) (a3 : Nat) (a4 : Int32) (s0 : Nat) (s1 : Int32) (mem : kM) : dRes :=
  dRc xm mem s0 15 <|
  dCR (m_M_seen xm N s0 s1 mem) fun v750 m750 =>
  m_law_law_1004 xm N K27 a0 a1 a2 a3 a4 m750
theorem m_law_law_750_ok (xm : Nat → Option kE) (N : Nat) (K27 : Nat → Nat → Nat → Nat → Int32 → kM → dRes) (hK27 : ∀ (a0 : Nat) (a1 : Nat) (a2 : Nat) (a3 : Nat) (a4 : Int32) (mem : kM) (R : kO × kM), K27 a0 a1 a2 a3 a4 mem = some R → kGo xm kSm kDfl kFty kG 11 0 27 [(0, .ref a0), (1, .ref a1), (2, .ref a2), (3, .ref a3), (4, .int a4)] [] mem (dEq R)) : ∀ (a0 : Nat) (a1 : Nat) (a2 : Nat) (a3 : Nat) (a4 : Int32) (s0 : Nat) (s1 : Int32) (mem : kM) (R : kO × kM), m_law_law_750 xm N K27 a0 a1 a2 a3 a4 s0 s1 mem = some R → kGo xm kSm kDfl kFty kG 11 0 750 [(0, .ref a0), (1, .ref a1), (2, .ref a2), (3, .ref a3), (4, .int a4)] [.int s1, .ref s0] mem (dEq R) := by
  intro a0 a1 a2 a3 a4 s0 s1 mem R h
  unfold m_law_law_750 at h
  obtain ⟨fk750, hk750, h⟩ := dRc_some h
  refine wq_cR rfl (kCall_v hk750 (as := [.int s1]) (rest := []) ⟨by decide, rfl, (show 1 < 90 by decide), by decide⟩ (show 0 ≤ 8 by decide)) h (fun r hr => ca_up (by decide) (m_M_seen_ok xm N hr)) (fun v750 m750 h => ?_)
  refine wp_run 2 (pc' := 1004) (lv' := [(0, .ref a0), (1, .ref a1), (2, .ref a2), (3, .ref a3), (4, .int a4)]) (st' := []) (mem' := m750) rfl ?_
  exact m_law_law_1004_ok xm N _ hK27 _ _ _ _ _ m750 R h
def m_law_law_731 (xm : Nat → Option kE) (N : Nat) (K27 : Nat → Nat → Nat → Nat → Int32 → kM → dRes) (a0 : Nat) (a1 : Nat) (a2 : Nat) (a3 : Nat) (a4 : Int32) (s0 : Nat) (s1 : Int32) (mem : kM) : dRes :=
  dRc xm mem s0 11 <|
  dCR (m_K_seen xm N s0 s1 mem) fun v731 m731 =>
  dIL xm 0 m731 a0 (a4 + 1) fun v741 =>
  if v741 = 0 then (
    m_law_law_750 xm N K27 a0 a1 a2 a3 a4 a2 0 m731
  ) else (
    m_law_law_750 xm N K27 a0 a1 a2 a3 a4 a2 1 m731
  )
theorem m_law_law_731_ok (xm : Nat → Option kE) (N : Nat) (K27 : Nat → Nat → Nat → Nat → Int32 → kM → dRes) (hK27 : ∀ (a0 : Nat) (a1 : Nat) (a2 : Nat) (a3 : Nat) (a4 : Int32) (mem : kM) (R : kO × kM), K27 a0 a1 a2 a3 a4 mem = some R → kGo xm kSm kDfl kFty kG 11 0 27 [(0, .ref a0), (1, .ref a1), (2, .ref a2), (3, .ref a3), (4, .int a4)] [] mem (dEq R)) : ∀ (a0 : Nat) (a1 : Nat) (a2 : Nat) (a3 : Nat) (a4 : Int32) (s0 : Nat) (s1 : Int32) (mem : kM) (R : kO × kM), m_law_law_731 xm N K27 a0 a1 a2 a3 a4 s0 s1 mem = some R → kGo xm kSm kDfl kFty kG 11 0 731 [(0, .ref a0), (1, .ref a1), (2, .ref a2), (3, .ref a3), (4, .int a4)] [.int s1, .ref s0] mem (dEq R) := by
  intro a0 a1 a2 a3 a4 s0 s1 mem R h
  unfold m_law_law_731 at h
  obtain ⟨fk731, hk731, h⟩ := dRc_some h
  refine wq_cR rfl (kCall_v hk731 (as := [.int s1]) (rest := []) ⟨by decide, rfl, (show 1 < 90 by decide), by decide⟩ (show 0 ≤ 8 by decide)) h (fun r hr => ca_up (by decide) (m_K_seen_ok xm N hr)) (fun v731 m731 h => ?_)
  refine wp_run 6 (pc' := 741) (lv' := [(0, .ref a0), (1, .ref a1), (2, .ref a2), (3, .ref a3), (4, .int a4)]) (st' := [.int (a4 + 1), .ref a0, .ref a2]) (mem' := m731) rfl ?_
  refine wq_iL rfl h (fun v741 h => ?_)
  refine wq_eq rfl h (fun h => ?_) (fun h => ?_)
  · refine wp_run 1 (pc' := 750) (lv' := [(0, .ref a0), (1, .ref a1), (2, .ref a2), (3, .ref a3), (4, .int a4)]) (st' := [.int 0, .ref a2]) (mem' := m731) rfl ?_
    exact m_law_law_750_ok xm N _ hK27 _ _ _ _ _ _ _ m731 R h
  · refine wp_run 2 (pc' := 750) (lv' := [(0, .ref a0), (1, .ref a1), (2, .ref a2), (3, .ref a3), (4, .int a4)]) (st' := [.int 1, .ref a2]) (mem' := m731) rfl ?_
    exact m_law_law_750_ok xm N _ hK27 _ _ _ _ _ _ _ m731 R h
def m_law_law_823 (xm : Nat → Option kE) (N : Nat) (K27 : Nat → Nat → Nat → Nat → Int32 → kM → dRes) (a0 : Nat) (a1 : Nat) (a2 : Nat) (a3 : Nat) (a4 : Int32) (mem : kM) : dRes :=
  m_law_law_1004 xm N K27 a0 a1 a2 a3 a4 mem
theorem m_law_law_823_ok (xm : Nat → Option kE) (N : Nat) (K27 : Nat → Nat → Nat → Nat → Int32 → kM → dRes) (hK27 : ∀ (a0 : Nat) (a1 : Nat) (a2 : Nat) (a3 : Nat) (a4 : Int32) (mem : kM) (R : kO × kM), K27 a0 a1 a2 a3 a4 mem = some R → kGo xm kSm kDfl kFty kG 11 0 27 [(0, .ref a0), (1, .ref a1), (2, .ref a2), (3, .ref a3), (4, .int a4)] [] mem (dEq R)) : ∀ (a0 : Nat) (a1 : Nat) (a2 : Nat) (a3 : Nat) (a4 : Int32) (mem : kM) (R : kO × kM), m_law_law_823 xm N K27 a0 a1 a2 a3 a4 mem = some R → kGo xm kSm kDfl kFty kG 11 0 823 [(0, .ref a0), (1, .ref a1), (2, .ref a2), (3, .ref a3), (4, .int a4)] [] mem (dEq R) := by
  intro a0 a1 a2 a3 a4 mem R h
  unfold m_law_law_823 at h
  refine wp_run 1 (pc' := 1004) (lv' := [(0, .ref a0), (1, .ref a1), (2, .ref a2), (3, .ref a3), (4, .int a4)]) (st' := []) (mem' := mem) rfl ?_
  exact m_law_law_1004_ok xm N _ hK27 _ _ _ _ _ mem R h
def m_law_law_792 (xm : Nat → Option kE) (N : Nat) (K27 : Nat → Nat → Nat → Nat → Int32 → kM → dRes) (a0 : Nat) (a1 : Nat) (a2 : Nat) (a3 : Nat) (a4 : Int32) (a5 : UInt64) (s0 : Nat) (s1 : Int32) (mem : kM) : dRes :=
  dRc xm mem s0 15 <|
  dCD (m_M_width xm N s0 s1 mem) fun v792 m792 =>
  if (Op.cmpValue (FP.dcmp a5 v792) .l) = 0 then (
    m_law_law_823 xm N K27 a0 a1 a2 a3 a4 m792
  ) else (
    if (Op.cmpValue (FP.dcmp a5 a5) .l) = 0 then (
      some (.inl (some (.int 0)), m792)
    ) else (
      if (Op.cmpValue (FP.dcmp v792 v792) .l) = 0 then (
        some (.inl (some (.int 0)), m792)
      ) else (
        m_law_law_823 xm N K27 a0 a1 a2 a3 a4 m792
      )
    )
  )
theorem m_law_law_792_ok (xm : Nat → Option kE) (N : Nat) (K27 : Nat → Nat → Nat → Nat → Int32 → kM → dRes) (hK27 : ∀ (a0 : Nat) (a1 : Nat) (a2 : Nat) (a3 : Nat) (a4 : Int32) (mem : kM) (R : kO × kM), K27 a0 a1 a2 a3 a4 mem = some R → kGo xm kSm kDfl kFty kG 11 0 27 [(0, .ref a0), (1, .ref a1), (2, .ref a2), (3, .ref a3), (4, .int a4)] [] mem (dEq R)) : ∀ (a0 : Nat) (a1 : Nat) (a2 : Nat) (a3 : Nat) (a4 : Int32) (a5 : UInt64) (s0 : Nat) (s1 : Int32) (mem : kM) (R : kO × kM), m_law_law_792 xm N K27 a0 a1 a2 a3 a4 a5 s0 s1 mem = some R → kGo xm kSm kDfl kFty kG 11 0 792 [(0, .ref a0), (1, .ref a1), (2, .ref a2), (3, .ref a3), (4, .int a4), (5, .double a5)] [.int s1, .ref s0] mem (dEq R) := by
  intro a0 a1 a2 a3 a4 a5 s0 s1 mem R h
  unfold m_law_law_792 at h
  obtain ⟨fk792, hk792, h⟩ := dRc_some h
  refine wq_cD rfl (kCall_v hk792 (as := [.int s1]) (rest := []) ⟨by decide, rfl, (show 1 < 90 by decide), by decide⟩ (show 0 ≤ 8 by decide)) h (fun r hr => ca_up (by decide) (m_M_width_ok xm N hr)) (fun v792 m792 h => ?_)
  refine wp_run 4 (pc' := 802) (lv' := [(7, .double v792), (0, .ref a0), (1, .ref a1), (2, .ref a2), (3, .ref a3), (4, .int a4), (5, .double a5)]) (st' := [.int (Op.cmpValue (FP.dcmp a5 v792) .l)]) (mem' := m792) rfl ?_
  refine wq_eq rfl h (fun h => ?_) (fun h => ?_)
  · refine kGo_sub (lvS_of [1, 2, 3, 4, 5] rfl [7, 0, 1, 2, 3, 4, 5] rfl (by decide)) ?_
    exact m_law_law_823_ok xm N _ hK27 _ _ _ _ _ m792 R h
  · refine wp_run 3 (pc' := 810) (lv' := [(7, .double v792), (0, .ref a0), (1, .ref a1), (2, .ref a2), (3, .ref a3), (4, .int a4), (5, .double a5)]) (st' := [.int (Op.cmpValue (FP.dcmp a5 a5) .l)]) (mem' := m792) rfl ?_
    refine wq_eq rfl h (fun h => ?_) (fun h => ?_)
    · refine wp_run 1 (pc' := 822) (lv' := [(7, .double v792), (0, .ref a0), (1, .ref a1), (2, .ref a2), (3, .ref a3), (4, .int a4), (5, .double a5)]) (st' := [.int 0]) (mem' := m792) rfl ?_
      exact wq_ret rfl rfl h
    · refine wp_run 3 (pc' := 818) (lv' := [(7, .double v792), (0, .ref a0), (1, .ref a1), (2, .ref a2), (3, .ref a3), (4, .int a4), (5, .double a5)]) (st' := [.int (Op.cmpValue (FP.dcmp v792 v792) .l)]) (mem' := m792) rfl ?_
      refine wq_ne rfl h (fun h => ?_) (fun h => ?_)
      · refine wp_run 1 (pc' := 822) (lv' := [(7, .double v792), (0, .ref a0), (1, .ref a1), (2, .ref a2), (3, .ref a3), (4, .int a4), (5, .double a5)]) (st' := [.int 0]) (mem' := m792) rfl ?_
        exact wq_ret rfl rfl h
      · refine kGo_sub (lvS_of [1, 2, 3, 4, 5] rfl [7, 0, 1, 2, 3, 4, 5] rfl (by decide)) ?_
        exact m_law_law_823_ok xm N _ hK27 _ _ _ _ _ m792 R h
def m_law_law_772 (xm : Nat → Option kE) (N : Nat) (K27 : Nat → Nat → Nat → Nat → Int32 → kM → dRes) (a0 : Nat) (a1 : Nat) (a2 : Nat) (a3 : Nat) (a4 : Int32) (s0 : Nat) (s1 : Int32) (mem : kM) : dRes :=
  dRc xm mem s0 11 <|
  dCD (m_K_width xm N s0 s1 mem) fun v772 m772 =>
  dIL xm 0 m772 a0 (a4 + 1) fun v783 =>
  if v783 = 0 then (
    m_law_law_792 xm N K27 a0 a1 a2 a3 a4 v772 a2 0 m772
  ) else (
    m_law_law_792 xm N K27 a0 a1 a2 a3 a4 v772 a2 1 m772
  )
theorem m_law_law_772_ok (xm : Nat → Option kE) (N : Nat) (K27 : Nat → Nat → Nat → Nat → Int32 → kM → dRes) (hK27 : ∀ (a0 : Nat) (a1 : Nat) (a2 : Nat) (a3 : Nat) (a4 : Int32) (mem : kM) (R : kO × kM), K27 a0 a1 a2 a3 a4 mem = some R → kGo xm kSm kDfl kFty kG 11 0 27 [(0, .ref a0), (1, .ref a1), (2, .ref a2), (3, .ref a3), (4, .int a4)] [] mem (dEq R)) : ∀ (a0 : Nat) (a1 : Nat) (a2 : Nat) (a3 : Nat) (a4 : Int32) (s0 : Nat) (s1 : Int32) (mem : kM) (R : kO × kM), m_law_law_772 xm N K27 a0 a1 a2 a3 a4 s0 s1 mem = some R → kGo xm kSm kDfl kFty kG 11 0 772 [(0, .ref a0), (1, .ref a1), (2, .ref a2), (3, .ref a3), (4, .int a4)] [.int s1, .ref s0] mem (dEq R) := by
  intro a0 a1 a2 a3 a4 s0 s1 mem R h
  unfold m_law_law_772 at h
  obtain ⟨fk772, hk772, h⟩ := dRc_some h
  refine wq_cD rfl (kCall_v hk772 (as := [.int s1]) (rest := []) ⟨by decide, rfl, (show 1 < 90 by decide), by decide⟩ (show 0 ≤ 8 by decide)) h (fun r hr => ca_up (by decide) (m_K_width_ok xm N hr)) (fun v772 m772 h => ?_)
  refine wp_run 6 (pc' := 783) (lv' := [(5, .double v772), (0, .ref a0), (1, .ref a1), (2, .ref a2), (3, .ref a3), (4, .int a4)]) (st' := [.int (a4 + 1), .ref a0, .ref a2]) (mem' := m772) rfl ?_
  refine wq_iL rfl h (fun v783 h => ?_)
  refine wq_eq rfl h (fun h => ?_) (fun h => ?_)
  · refine wp_run 1 (pc' := 792) (lv' := [(5, .double v772), (0, .ref a0), (1, .ref a1), (2, .ref a2), (3, .ref a3), (4, .int a4)]) (st' := [.int 0, .ref a2]) (mem' := m772) rfl ?_
    refine kGo_sub (lvS_of [1, 2, 3, 4, 5, 0] rfl [5, 0, 1, 2, 3, 4] rfl (by decide)) ?_
    exact m_law_law_792_ok xm N _ hK27 _ _ _ _ _ _ _ _ m772 R h
  · refine wp_run 2 (pc' := 792) (lv' := [(5, .double v772), (0, .ref a0), (1, .ref a1), (2, .ref a2), (3, .ref a3), (4, .int a4)]) (st' := [.int 1, .ref a2]) (mem' := m772) rfl ?_
    refine kGo_sub (lvS_of [1, 2, 3, 4, 5, 0] rfl [5, 0, 1, 2, 3, 4] rfl (by decide)) ?_
    exact m_law_law_792_ok xm N _ hK27 _ _ _ _ _ _ _ _ m772 R h
def m_law_law_27 (xm : Nat → Option kE) (N : Nat) : Nat → Nat → Nat → Nat → Nat → Int32 → kM → dRes
  | 0, _, _, _, _, _, _ => none
  | n + 1, a0, a1, a2, a3, a4, mem =>
    dLen xm mem a0 fun v30 =>
    if (v30 - 3) < a4 then (
      some (.inl (some (.int 1)), mem)
    ) else (
      dIL xm 0 mem a0 a4 fun v39 =>
      dSw (v39 &&& 31) 0 26 (
        m_law_law_1004 xm N (fun a0 a1 a2 a3 a4 mem => m_law_law_27 xm N n a0 a1 a2 a3 a4 mem) a0 a1 a2 a3 a4 mem
      ) [
      (
        dIL xm 0 mem a0 (a4 + 1) fun v170 =>
        dCI (m_law_buy xm N a1 v170 a3 mem) fun v172 m172 =>
        dIL xm 0 m172 a0 (a4 + 1) fun v183 =>
        dRc xm m172 a2 15 <|
        dCI (m_M_buy xm N a2 v183 m172) fun v184 m184 =>
        m_law_law_1004 xm N (fun a0 a1 a2 a3 a4 mem => m_law_law_27 xm N n a0 a1 a2 a3 a4 mem) a0 a1 a2 a3 a4 m184
      ),
      (
        dIL xm 0 mem a0 (a4 + 1) fun v198 =>
        dCI (m_law_join xm N a1 v198 a3 mem) fun v200 m200 =>
        dIL xm 0 m200 a0 (a4 + 1) fun v211 =>
        dRc xm m200 a2 15 <|
        dCI (m_M_join xm N a2 v211 m200) fun v212 m212 =>
        m_law_law_1004 xm N (fun a0 a1 a2 a3 a4 mem => m_law_law_27 xm N n a0 a1 a2 a3 a4 mem) a0 a1 a2 a3 a4 m212
      ),
      (
        dIL xm 0 mem a0 (a4 + 1) fun v226 =>
        dCI (m_law_cast xm N a1 v226 a3 mem) fun v228 m228 =>
        dIL xm 0 m228 a0 (a4 + 1) fun v239 =>
        dRc xm m228 a2 15 <|
        dCI (m_M_cast xm N a2 v239 m228) fun v240 m240 =>
        m_law_law_1004 xm N (fun a0 a1 a2 a3 a4 mem => m_law_law_27 xm N n a0 a1 a2 a3 a4 mem) a0 a1 a2 a3 a4 m240
      ),
      (
        dIL xm 0 mem a0 (a4 + 1) fun v254 =>
        if v254 = 0 then (
          m_law_law_263 xm N (fun a0 a1 a2 a3 a4 mem => m_law_law_27 xm N n a0 a1 a2 a3 a4 mem) a0 a1 a2 a3 a4 a1 0 mem
        ) else (
          m_law_law_263 xm N (fun a0 a1 a2 a3 a4 mem => m_law_law_27 xm N n a0 a1 a2 a3 a4 mem) a0 a1 a2 a3 a4 a1 1 mem
        )
      ),
      (
        dCI (m_law_over xm N a1 a3 mem) fun v294 m294 =>
        dRc xm m294 a2 15 <|
        dCI (m_M_over xm N a2 m294) fun v300 m300 =>
        m_law_law_1004 xm N (fun a0 a1 a2 a3 a4 mem => m_law_law_27 xm N n a0 a1 a2 a3 a4 mem) a0 a1 a2 a3 a4 m300
      ),
      (
        dIL xm 0 mem a0 (a4 + 1) fun v314 =>
        dIL xm 0 mem a0 (a4 + 2) fun v320 =>
        if v320 = 0 then (
          m_law_law_329 xm N (fun a0 a1 a2 a3 a4 mem => m_law_law_27 xm N n a0 a1 a2 a3 a4 mem) a0 a1 a2 a3 a4 a1 v314 0 mem
        ) else (
          m_law_law_329 xm N (fun a0 a1 a2 a3 a4 mem => m_law_law_27 xm N n a0 a1 a2 a3 a4 mem) a0 a1 a2 a3 a4 a1 v314 1 mem
        )
      ),
      (
        dCI (m_law_slip xm N a1 a3 mem) fun v366 m366 =>
        dRc xm m366 a2 15 <|
        dCI (m_M_slip xm N a2 m366) fun v372 m372 =>
        m_law_law_1004 xm N (fun a0 a1 a2 a3 a4 mem => m_law_law_27 xm N n a0 a1 a2 a3 a4 mem) a0 a1 a2 a3 a4 m372
      ),
      (
        dIL xm 0 mem a0 (a4 + 1) fun v386 =>
        dIL xm 0 mem a0 (a4 + 2) fun v392 =>
        dCI (m_law_cross xm N a1 v386 v392 a3 mem) fun v394 m394 =>
        dIL xm 0 m394 a0 (a4 + 1) fun v405 =>
        dIL xm 0 m394 a0 (a4 + 2) fun v411 =>
        dRc xm m394 a2 15 <|
        dCI (m_M_cross xm N a2 v405 v411 m394) fun v412 m412 =>
        m_law_law_1004 xm N (fun a0 a1 a2 a3 a4 mem => m_law_law_27 xm N n a0 a1 a2 a3 a4 mem) a0 a1 a2 a3 a4 m412
      ),
      (
        dCI (m_law_turn xm N a1 a3 mem) fun v422 m422 =>
        dRc xm m422 a2 15 <|
        dCI (m_M_turn xm N a2 m422) fun v428 m428 =>
        m_law_law_1004 xm N (fun a0 a1 a2 a3 a4 mem => m_law_law_27 xm N n a0 a1 a2 a3 a4 mem) a0 a1 a2 a3 a4 m428
      ),
      (
        dIL xm 0 mem a0 (a4 + 1) fun v442 =>
        dCI (m_law_bind xm N a1 v442 a3 mem) fun v444 m444 =>
        dIL xm 0 m444 a0 (a4 + 1) fun v455 =>
        dRc xm m444 a2 15 <|
        dCI (m_M_bind xm N a2 v455 m444) fun v456 m456 =>
        m_law_law_1004 xm N (fun a0 a1 a2 a3 a4 mem => m_law_law_27 xm N n a0 a1 a2 a3 a4 mem) a0 a1 a2 a3 a4 m456
      ),
      (
        dCI (m_law_drop xm N a1 a3 mem) fun v466 m466 =>
        dRc xm m466 a2 15 <|
        dCI (m_M_drop xm N a2 m466) fun v472 m472 =>
        m_law_law_1004 xm N (fun a0 a1 a2 a3 a4 mem => m_law_law_27 xm N n a0 a1 a2 a3 a4 mem) a0 a1 a2 a3 a4 m472
      ),
      (
        dIL xm 0 mem a0 (a4 + 1) fun v486 =>
        dCI (m_law_latch xm N a1 v486 a3 mem) fun v488 m488 =>
        dIL xm 0 m488 a0 (a4 + 1) fun v499 =>
        dRc xm m488 a2 15 <|
        dCI (m_M_latch xm N a2 v499 m488) fun v500 m500 =>
        m_law_law_1004 xm N (fun a0 a1 a2 a3 a4 mem => m_law_law_27 xm N n a0 a1 a2 a3 a4 mem) a0 a1 a2 a3 a4 m500
      ),
      (
        dIL xm 0 mem a0 (a4 + 1) fun v514 =>
        dCI (m_law_pattern xm N a1 v514 a3 mem) fun v516 m516 =>
        dIL xm 0 m516 a0 (a4 + 1) fun v527 =>
        dRc xm m516 a2 15 <|
        dCI (m_M_pattern xm N a2 v527 m516) fun v528 m528 =>
        m_law_law_1004 xm N (fun a0 a1 a2 a3 a4 mem => m_law_law_27 xm N n a0 a1 a2 a3 a4 mem) a0 a1 a2 a3 a4 m528
      ),
      (
        dIL xm 0 mem a0 (a4 + 1) fun v542 =>
        dCI (m_law_follow xm N a1 v542 a3 mem) fun v544 m544 =>
        dIL xm 0 m544 a0 (a4 + 1) fun v555 =>
        dRc xm m544 a2 15 <|
        dCI (m_M_follow xm N a2 v555 m544) fun v556 m556 =>
        m_law_law_1004 xm N (fun a0 a1 a2 a3 a4 mem => m_law_law_27 xm N n a0 a1 a2 a3 a4 mem) a0 a1 a2 a3 a4 m556
      ),
      (
        dCI (m_law_undo xm N a1 a3 mem) fun v566 m566 =>
        dRc xm m566 a2 15 <|
        dCI (m_M_undo xm N a2 m566) fun v572 m572 =>
        m_law_law_1004 xm N (fun a0 a1 a2 a3 a4 mem => m_law_law_27 xm N n a0 a1 a2 a3 a4 mem) a0 a1 a2 a3 a4 m572
      ),
      (
        dIL xm 0 mem a0 (a4 + 1) fun v586 =>
        if v586 = 0 then (
          m_law_law_595 xm N (fun a0 a1 a2 a3 a4 mem => m_law_law_27 xm N n a0 a1 a2 a3 a4 mem) a0 a1 a2 a3 a4 a1 0 mem
        ) else (
          m_law_law_595 xm N (fun a0 a1 a2 a3 a4 mem => m_law_law_27 xm N n a0 a1 a2 a3 a4 mem) a0 a1 a2 a3 a4 a1 1 mem
        )
      ),
      (
        dIL xm 0 mem a0 (a4 + 1) fun v642 =>
        dIL xm 0 mem a0 (a4 + 2) fun v648 =>
        dCI (m_law_ofLoop xm N a1 v642 v648 a3 mem) fun v650 m650 =>
        dIL xm 0 m650 a0 (a4 + 1) fun v661 =>
        dIL xm 0 m650 a0 (a4 + 2) fun v667 =>
        dRc xm m650 a2 15 <|
        dCI (m_M_ofLoop xm N a2 v661 v667 m650) fun v668 m668 =>
        m_law_law_1004 xm N (fun a0 a1 a2 a3 a4 mem => m_law_law_27 xm N n a0 a1 a2 a3 a4 mem) a0 a1 a2 a3 a4 m668
      ),
      (
        dIL xm 0 mem a0 (a4 + 1) fun v682 =>
        dIL xm 0 mem a0 (a4 + 2) fun v688 =>
        dCI (m_law_ofRun xm N a1 v682 v688 a3 mem) fun v690 m690 =>
        dIL xm 0 m690 a0 (a4 + 1) fun v701 =>
        dIL xm 0 m690 a0 (a4 + 2) fun v707 =>
        dRc xm m690 a2 15 <|
        dCI (m_M_ofRun xm N a2 v701 v707 m690) fun v708 m708 =>
        m_law_law_1004 xm N (fun a0 a1 a2 a3 a4 mem => m_law_law_27 xm N n a0 a1 a2 a3 a4 mem) a0 a1 a2 a3 a4 m708
      ),
      (
        dIL xm 0 mem a0 (a4 + 1) fun v722 =>
        if v722 = 0 then (
          m_law_law_731 xm N (fun a0 a1 a2 a3 a4 mem => m_law_law_27 xm N n a0 a1 a2 a3 a4 mem) a0 a1 a2 a3 a4 a1 0 mem
        ) else (
          m_law_law_731 xm N (fun a0 a1 a2 a3 a4 mem => m_law_law_27 xm N n a0 a1 a2 a3 a4 mem) a0 a1 a2 a3 a4 a1 1 mem
        )
      ),
      (
        dIL xm 0 mem a0 (a4 + 1) fun v763 =>
        if v763 = 0 then (
          m_law_law_772 xm N (fun a0 a1 a2 a3 a4 mem => m_law_law_27 xm N n a0 a1 a2 a3 a4 mem) a0 a1 a2 a3 a4 a1 0 mem
        ) else (
          m_law_law_772 xm N (fun a0 a1 a2 a3 a4 mem => m_law_law_27 xm N n a0 a1 a2 a3 a4 mem) a0 a1 a2 a3 a4 a1 1 mem
        )
      ),
      (
        dIL xm 0 mem a0 (a4 + 1) fun v832 =>
        dCI (m_law_many xm N a1 v832 a3 mem) fun v834 m834 =>
        dIL xm 0 m834 a0 (a4 + 1) fun v845 =>
        dRc xm m834 a2 15 <|
        dCI (m_M_many xm N a2 v845 m834) fun v846 m846 =>
        m_law_law_1004 xm N (fun a0 a1 a2 a3 a4 mem => m_law_law_27 xm N n a0 a1 a2 a3 a4 mem) a0 a1 a2 a3 a4 m846
      ),
      (
        dIL xm 0 mem a0 (a4 + 1) fun v860 =>
        dCI (m_law_left xm N a1 v860 a3 mem) fun v862 m862 =>
        dIL xm 0 m862 a0 (a4 + 1) fun v873 =>
        dRc xm m862 a2 15 <|
        dCI (m_M_left xm N a2 v873 m862) fun v874 m874 =>
        m_law_law_1004 xm N (fun a0 a1 a2 a3 a4 mem => m_law_law_27 xm N n a0 a1 a2 a3 a4 mem) a0 a1 a2 a3 a4 m874
      ),
      (
        dIL xm 0 mem a0 (a4 + 1) fun v888 =>
        dIL xm 0 mem a0 (a4 + 2) fun v894 =>
        dCI (m_law_ofPattern xm N a1 v888 v894 a3 mem) fun v896 m896 =>
        dIL xm 0 m896 a0 (a4 + 1) fun v907 =>
        dIL xm 0 m896 a0 (a4 + 2) fun v913 =>
        dRc xm m896 a2 15 <|
        dCI (m_M_ofPattern xm N a2 v907 v913 m896) fun v914 m914 =>
        m_law_law_1004 xm N (fun a0 a1 a2 a3 a4 mem => m_law_law_27 xm N n a0 a1 a2 a3 a4 mem) a0 a1 a2 a3 a4 m914
      ),
      (
        dIL xm 0 mem a0 (a4 + 1) fun v928 =>
        dCI (m_law_would xm N a1 v928 a3 mem) fun v930 m930 =>
        dIL xm 0 m930 a0 (a4 + 1) fun v941 =>
        dRc xm m930 a2 15 <|
        dCI (m_M_would xm N a2 v941 m930) fun v942 m942 =>
        m_law_law_1004 xm N (fun a0 a1 a2 a3 a4 mem => m_law_law_27 xm N n a0 a1 a2 a3 a4 mem) a0 a1 a2 a3 a4 m942
      ),
      (
        dIL xm 0 mem a0 (a4 + 1) fun v956 =>
        dCI (m_law_needs xm N a1 v956 a3 mem) fun v958 m958 =>
        dIL xm 0 m958 a0 (a4 + 1) fun v969 =>
        dRc xm m958 a2 15 <|
        dCI (m_M_needs xm N a2 v969 m958) fun v970 m970 =>
        m_law_law_1004 xm N (fun a0 a1 a2 a3 a4 mem => m_law_law_27 xm N n a0 a1 a2 a3 a4 mem) a0 a1 a2 a3 a4 m970
      ),
      (
        dRc xm mem a1 11 <|
        dCI (m_K_best xm N a1 mem) fun v979 m979 =>
        dRc xm m979 a2 15 <|
        dCI (m_M_best xm N a2 m979) fun v984 m984 =>
        m_law_law_1004 xm N (fun a0 a1 a2 a3 a4 mem => m_law_law_27 xm N n a0 a1 a2 a3 a4 mem) a0 a1 a2 a3 a4 m984
      ),
      (
        dRc xm mem a1 11 <|
        dCJ (m_K_digest xm N a1 mem) fun v992 m992 =>
        dRc xm m992 a2 15 <|
        dCJ (m_M_digest xm N a2 m992) fun v997 m997 =>
        m_law_law_1004 xm N (fun a0 a1 a2 a3 a4 mem => m_law_law_27 xm N n a0 a1 a2 a3 a4 mem) a0 a1 a2 a3 a4 m997
      )
      ]
    )
theorem m_law_law_27_ok (xm : Nat → Option kE) (N : Nat) : ∀ (n : Nat) (a0 : Nat) (a1 : Nat) (a2 : Nat) (a3 : Nat) (a4 : Int32) (mem : kM) (R : kO × kM), m_law_law_27 xm N n a0 a1 a2 a3 a4 mem = some R → kGo xm kSm kDfl kFty kG 11 0 27 [(0, .ref a0), (1, .ref a1), (2, .ref a2), (3, .ref a3), (4, .int a4)] [] mem (dEq R) := by
  intro n
  induction n with
  | zero => intro a0 a1 a2 a3 a4 mem R h; cases h
  | succ n ih =>
    intro a0 a1 a2 a3 a4 mem R h
    rw [m_law_law_27] at h
    refine wp_run 2 (pc' := 30) (lv' := [(0, .ref a0), (1, .ref a1), (2, .ref a2), (3, .ref a3), (4, .int a4)]) (st' := [.ref a0, .int a4]) (mem' := mem) rfl ?_
    refine wq_len rfl h (fun v30 h => ?_)
    refine wp_run 2 (pc' := 33) (lv' := [(0, .ref a0), (1, .ref a1), (2, .ref a2), (3, .ref a3), (4, .int a4)]) (st' := [.int (v30 - 3), .int a4]) (mem' := mem) rfl ?_
    refine wq_gt2 rfl h (fun h => ?_) (fun h => ?_)
    · refine wp_run 1 (pc' := 1011) (lv' := [(0, .ref a0), (1, .ref a1), (2, .ref a2), (3, .ref a3), (4, .int a4)]) (st' := [.int 1]) (mem' := mem) rfl ?_
      exact wq_ret rfl rfl h
    · refine wp_run 2 (pc' := 39) (lv' := [(0, .ref a0), (1, .ref a1), (2, .ref a2), (3, .ref a3), (4, .int a4)]) (st' := [.int a4, .ref a0]) (mem' := mem) rfl ?_
      refine wq_iL rfl h (fun v39 h => ?_)
      refine wp_run 2 (pc' := 43) (lv' := [(0, .ref a0), (1, .ref a1), (2, .ref a2), (3, .ref a3), (4, .int a4)]) (st' := [.int (v39 &&& 31)]) (mem' := mem) rfl ?_
      refine wq_sw rfl h rfl (fun h => ?_) (And.intro (fun h => ?_) (And.intro (fun h => ?_) (And.intro (fun h => ?_) (And.intro (fun h => ?_) (And.intro (fun h => ?_) (And.intro (fun h => ?_) (And.intro (fun h => ?_) (And.intro (fun h => ?_) (And.intro (fun h => ?_) (And.intro (fun h => ?_) (And.intro (fun h => ?_) (And.intro (fun h => ?_) (And.intro (fun h => ?_) (And.intro (fun h => ?_) (And.intro (fun h => ?_) (And.intro (fun h => ?_) (And.intro (fun h => ?_) (And.intro (fun h => ?_) (And.intro (fun h => ?_) (And.intro (fun h => ?_) (And.intro (fun h => ?_) (And.intro (fun h => ?_) (And.intro (fun h => ?_) (And.intro (fun h => ?_) (And.intro (fun h => ?_) (And.intro (fun h => ?_) (And.intro (fun h => ?_) (True.intro))))))))))))))))))))))))))))
      · change kGo xm kSm kDfl kFty kG 11 0 1004 [(0, .ref a0), (1, .ref a1), (2, .ref a2), (3, .ref a3), (4, .int a4)] [] mem (dEq R)
        exact m_law_law_1004_ok xm N _ ih _ _ _ _ _ mem R h
      · change kGo xm kSm kDfl kFty kG 11 0 164 [(0, .ref a0), (1, .ref a1), (2, .ref a2), (3, .ref a3), (4, .int a4)] [] mem (dEq R)
        refine wp_run 5 (pc' := 170) (lv' := [(0, .ref a0), (1, .ref a1), (2, .ref a2), (3, .ref a3), (4, .int a4)]) (st' := [.int (a4 + 1), .ref a0, .ref a1]) (mem' := mem) rfl ?_
        refine wq_iL rfl h (fun v170 h => ?_)
        refine wp_run 1 (pc' := 172) (lv' := [(0, .ref a0), (1, .ref a1), (2, .ref a2), (3, .ref a3), (4, .int a4)]) (st' := [.ref a3, .int v170, .ref a1]) (mem' := mem) rfl ?_
        refine wq_cI rfl (kCall_s (as := [.ref a1, .int v170, .ref a3]) (rest := []) ⟨by decide, rfl⟩ (show 0 ≤ 8 by decide) (by decide)) h (fun r hr => ca_up (by decide) (m_law_buy_ok xm N hr)) (fun v172 m172 h => ?_)
        refine wp_run 6 (pc' := 183) (lv' := [(5, .int v172), (0, .ref a0), (1, .ref a1), (2, .ref a2), (3, .ref a3), (4, .int a4)]) (st' := [.int (a4 + 1), .ref a0, .ref a2]) (mem' := m172) rfl ?_
        refine wq_iL rfl h (fun v183 h => ?_)
        obtain ⟨fk184, hk184, h⟩ := dRc_some h
        refine wq_cI rfl (kCall_v hk184 (as := [.int v183]) (rest := []) ⟨by decide, rfl, (show 1 < 90 by decide), by decide⟩ (show 0 ≤ 8 by decide)) h (fun r hr => ca_up (by decide) (m_M_buy_ok xm N hr)) (fun v184 m184 h => ?_)
        refine wp_run 2 (pc' := 1004) (lv' := [(6, .int v184), (5, .int v172), (0, .ref a0), (1, .ref a1), (2, .ref a2), (3, .ref a3), (4, .int a4)]) (st' := []) (mem' := m184) rfl ?_
        refine kGo_sub (lvS_of [2, 3, 4, 5, 6] rfl [6, 5, 0, 1, 2, 3, 4] rfl (by decide)) ?_
        exact m_law_law_1004_ok xm N _ ih _ _ _ _ _ m184 R h
      · change kGo xm kSm kDfl kFty kG 11 0 192 [(0, .ref a0), (1, .ref a1), (2, .ref a2), (3, .ref a3), (4, .int a4)] [] mem (dEq R)
        refine wp_run 5 (pc' := 198) (lv' := [(0, .ref a0), (1, .ref a1), (2, .ref a2), (3, .ref a3), (4, .int a4)]) (st' := [.int (a4 + 1), .ref a0, .ref a1]) (mem' := mem) rfl ?_
        refine wq_iL rfl h (fun v198 h => ?_)
        refine wp_run 1 (pc' := 200) (lv' := [(0, .ref a0), (1, .ref a1), (2, .ref a2), (3, .ref a3), (4, .int a4)]) (st' := [.ref a3, .int v198, .ref a1]) (mem' := mem) rfl ?_
        refine wq_cI rfl (kCall_s (as := [.ref a1, .int v198, .ref a3]) (rest := []) ⟨by decide, rfl⟩ (show 0 ≤ 8 by decide) (by decide)) h (fun r hr => ca_up (by decide) (m_law_join_ok xm N hr)) (fun v200 m200 h => ?_)
        refine wp_run 6 (pc' := 211) (lv' := [(5, .int v200), (0, .ref a0), (1, .ref a1), (2, .ref a2), (3, .ref a3), (4, .int a4)]) (st' := [.int (a4 + 1), .ref a0, .ref a2]) (mem' := m200) rfl ?_
        refine wq_iL rfl h (fun v211 h => ?_)
        obtain ⟨fk212, hk212, h⟩ := dRc_some h
        refine wq_cI rfl (kCall_v hk212 (as := [.int v211]) (rest := []) ⟨by decide, rfl, (show 1 < 90 by decide), by decide⟩ (show 0 ≤ 8 by decide)) h (fun r hr => ca_up (by decide) (m_M_join_ok xm N hr)) (fun v212 m212 h => ?_)
        refine wp_run 2 (pc' := 1004) (lv' := [(6, .int v212), (5, .int v200), (0, .ref a0), (1, .ref a1), (2, .ref a2), (3, .ref a3), (4, .int a4)]) (st' := []) (mem' := m212) rfl ?_
        refine kGo_sub (lvS_of [2, 3, 4, 5, 6] rfl [6, 5, 0, 1, 2, 3, 4] rfl (by decide)) ?_
        exact m_law_law_1004_ok xm N _ ih _ _ _ _ _ m212 R h
      · change kGo xm kSm kDfl kFty kG 11 0 220 [(0, .ref a0), (1, .ref a1), (2, .ref a2), (3, .ref a3), (4, .int a4)] [] mem (dEq R)
        refine wp_run 5 (pc' := 226) (lv' := [(0, .ref a0), (1, .ref a1), (2, .ref a2), (3, .ref a3), (4, .int a4)]) (st' := [.int (a4 + 1), .ref a0, .ref a1]) (mem' := mem) rfl ?_
        refine wq_iL rfl h (fun v226 h => ?_)
        refine wp_run 1 (pc' := 228) (lv' := [(0, .ref a0), (1, .ref a1), (2, .ref a2), (3, .ref a3), (4, .int a4)]) (st' := [.ref a3, .int v226, .ref a1]) (mem' := mem) rfl ?_
        refine wq_cI rfl (kCall_s (as := [.ref a1, .int v226, .ref a3]) (rest := []) ⟨by decide, rfl⟩ (show 0 ≤ 8 by decide) (by decide)) h (fun r hr => ca_up (by decide) (m_law_cast_ok xm N hr)) (fun v228 m228 h => ?_)
        refine wp_run 6 (pc' := 239) (lv' := [(5, .int v228), (0, .ref a0), (1, .ref a1), (2, .ref a2), (3, .ref a3), (4, .int a4)]) (st' := [.int (a4 + 1), .ref a0, .ref a2]) (mem' := m228) rfl ?_
        refine wq_iL rfl h (fun v239 h => ?_)
        obtain ⟨fk240, hk240, h⟩ := dRc_some h
        refine wq_cI rfl (kCall_v hk240 (as := [.int v239]) (rest := []) ⟨by decide, rfl, (show 1 < 90 by decide), by decide⟩ (show 0 ≤ 8 by decide)) h (fun r hr => ca_up (by decide) (m_M_cast_ok xm N hr)) (fun v240 m240 h => ?_)
        refine wp_run 2 (pc' := 1004) (lv' := [(6, .int v240), (5, .int v228), (0, .ref a0), (1, .ref a1), (2, .ref a2), (3, .ref a3), (4, .int a4)]) (st' := []) (mem' := m240) rfl ?_
        refine kGo_sub (lvS_of [2, 3, 4, 5, 6] rfl [6, 5, 0, 1, 2, 3, 4] rfl (by decide)) ?_
        exact m_law_law_1004_ok xm N _ ih _ _ _ _ _ m240 R h
      · change kGo xm kSm kDfl kFty kG 11 0 248 [(0, .ref a0), (1, .ref a1), (2, .ref a2), (3, .ref a3), (4, .int a4)] [] mem (dEq R)
        refine wp_run 5 (pc' := 254) (lv' := [(0, .ref a0), (1, .ref a1), (2, .ref a2), (3, .ref a3), (4, .int a4)]) (st' := [.int (a4 + 1), .ref a0, .ref a1]) (mem' := mem) rfl ?_
        refine wq_iL rfl h (fun v254 h => ?_)
        refine wq_eq rfl h (fun h => ?_) (fun h => ?_)
        · refine wp_run 1 (pc' := 263) (lv' := [(0, .ref a0), (1, .ref a1), (2, .ref a2), (3, .ref a3), (4, .int a4)]) (st' := [.int 0, .ref a1]) (mem' := mem) rfl ?_
          exact m_law_law_263_ok xm N _ ih _ _ _ _ _ _ _ mem R h
        · refine wp_run 2 (pc' := 263) (lv' := [(0, .ref a0), (1, .ref a1), (2, .ref a2), (3, .ref a3), (4, .int a4)]) (st' := [.int 1, .ref a1]) (mem' := mem) rfl ?_
          exact m_law_law_263_ok xm N _ ih _ _ _ _ _ _ _ mem R h
      · change kGo xm kSm kDfl kFty kG 11 0 292 [(0, .ref a0), (1, .ref a1), (2, .ref a2), (3, .ref a3), (4, .int a4)] [] mem (dEq R)
        refine wp_run 2 (pc' := 294) (lv' := [(0, .ref a0), (1, .ref a1), (2, .ref a2), (3, .ref a3), (4, .int a4)]) (st' := [.ref a3, .ref a1]) (mem' := mem) rfl ?_
        refine wq_cI rfl (kCall_s (as := [.ref a1, .ref a3]) (rest := []) ⟨by decide, rfl⟩ (show 0 ≤ 8 by decide) (by decide)) h (fun r hr => ca_up (by decide) (m_law_over_ok xm N hr)) (fun v294 m294 h => ?_)
        refine wp_run 2 (pc' := 300) (lv' := [(5, .int v294), (0, .ref a0), (1, .ref a1), (2, .ref a2), (3, .ref a3), (4, .int a4)]) (st' := [.ref a2]) (mem' := m294) rfl ?_
        obtain ⟨fk300, hk300, h⟩ := dRc_some h
        refine wq_cI rfl (kCall_v hk300 (as := []) (rest := []) ⟨by decide, rfl, (show 0 < 90 by decide), by decide⟩ (show 0 ≤ 8 by decide)) h (fun r hr => ca_up (by decide) (m_M_over_ok xm N hr)) (fun v300 m300 h => ?_)
        refine wp_run 2 (pc' := 1004) (lv' := [(6, .int v300), (5, .int v294), (0, .ref a0), (1, .ref a1), (2, .ref a2), (3, .ref a3), (4, .int a4)]) (st' := []) (mem' := m300) rfl ?_
        refine kGo_sub (lvS_of [2, 3, 4, 5, 6] rfl [6, 5, 0, 1, 2, 3, 4] rfl (by decide)) ?_
        exact m_law_law_1004_ok xm N _ ih _ _ _ _ _ m300 R h
      · change kGo xm kSm kDfl kFty kG 11 0 308 [(0, .ref a0), (1, .ref a1), (2, .ref a2), (3, .ref a3), (4, .int a4)] [] mem (dEq R)
        refine wp_run 5 (pc' := 314) (lv' := [(0, .ref a0), (1, .ref a1), (2, .ref a2), (3, .ref a3), (4, .int a4)]) (st' := [.int (a4 + 1), .ref a0, .ref a1]) (mem' := mem) rfl ?_
        refine wq_iL rfl h (fun v314 h => ?_)
        refine wp_run 4 (pc' := 320) (lv' := [(0, .ref a0), (1, .ref a1), (2, .ref a2), (3, .ref a3), (4, .int a4)]) (st' := [.int (a4 + 2), .ref a0, .int v314, .ref a1]) (mem' := mem) rfl ?_
        refine wq_iL rfl h (fun v320 h => ?_)
        refine wq_eq rfl h (fun h => ?_) (fun h => ?_)
        · refine wp_run 1 (pc' := 329) (lv' := [(0, .ref a0), (1, .ref a1), (2, .ref a2), (3, .ref a3), (4, .int a4)]) (st' := [.int 0, .int v314, .ref a1]) (mem' := mem) rfl ?_
          exact m_law_law_329_ok xm N _ ih _ _ _ _ _ _ _ _ mem R h
        · refine wp_run 2 (pc' := 329) (lv' := [(0, .ref a0), (1, .ref a1), (2, .ref a2), (3, .ref a3), (4, .int a4)]) (st' := [.int 1, .int v314, .ref a1]) (mem' := mem) rfl ?_
          exact m_law_law_329_ok xm N _ ih _ _ _ _ _ _ _ _ mem R h
      · change kGo xm kSm kDfl kFty kG 11 0 364 [(0, .ref a0), (1, .ref a1), (2, .ref a2), (3, .ref a3), (4, .int a4)] [] mem (dEq R)
        refine wp_run 2 (pc' := 366) (lv' := [(0, .ref a0), (1, .ref a1), (2, .ref a2), (3, .ref a3), (4, .int a4)]) (st' := [.ref a3, .ref a1]) (mem' := mem) rfl ?_
        refine wq_cI rfl (kCall_s (as := [.ref a1, .ref a3]) (rest := []) ⟨by decide, rfl⟩ (show 0 ≤ 8 by decide) (by decide)) h (fun r hr => ca_up (by decide) (m_law_slip_ok xm N hr)) (fun v366 m366 h => ?_)
        refine wp_run 2 (pc' := 372) (lv' := [(5, .int v366), (0, .ref a0), (1, .ref a1), (2, .ref a2), (3, .ref a3), (4, .int a4)]) (st' := [.ref a2]) (mem' := m366) rfl ?_
        obtain ⟨fk372, hk372, h⟩ := dRc_some h
        refine wq_cI rfl (kCall_v hk372 (as := []) (rest := []) ⟨by decide, rfl, (show 0 < 90 by decide), by decide⟩ (show 0 ≤ 8 by decide)) h (fun r hr => ca_up (by decide) (m_M_slip_ok xm N hr)) (fun v372 m372 h => ?_)
        refine wp_run 2 (pc' := 1004) (lv' := [(6, .int v372), (5, .int v366), (0, .ref a0), (1, .ref a1), (2, .ref a2), (3, .ref a3), (4, .int a4)]) (st' := []) (mem' := m372) rfl ?_
        refine kGo_sub (lvS_of [2, 3, 4, 5, 6] rfl [6, 5, 0, 1, 2, 3, 4] rfl (by decide)) ?_
        exact m_law_law_1004_ok xm N _ ih _ _ _ _ _ m372 R h
      · change kGo xm kSm kDfl kFty kG 11 0 380 [(0, .ref a0), (1, .ref a1), (2, .ref a2), (3, .ref a3), (4, .int a4)] [] mem (dEq R)
        refine wp_run 5 (pc' := 386) (lv' := [(0, .ref a0), (1, .ref a1), (2, .ref a2), (3, .ref a3), (4, .int a4)]) (st' := [.int (a4 + 1), .ref a0, .ref a1]) (mem' := mem) rfl ?_
        refine wq_iL rfl h (fun v386 h => ?_)
        refine wp_run 4 (pc' := 392) (lv' := [(0, .ref a0), (1, .ref a1), (2, .ref a2), (3, .ref a3), (4, .int a4)]) (st' := [.int (a4 + 2), .ref a0, .int v386, .ref a1]) (mem' := mem) rfl ?_
        refine wq_iL rfl h (fun v392 h => ?_)
        refine wp_run 1 (pc' := 394) (lv' := [(0, .ref a0), (1, .ref a1), (2, .ref a2), (3, .ref a3), (4, .int a4)]) (st' := [.ref a3, .int v392, .int v386, .ref a1]) (mem' := mem) rfl ?_
        refine wq_cI rfl (kCall_s (as := [.ref a1, .int v386, .int v392, .ref a3]) (rest := []) ⟨by decide, rfl⟩ (show 0 ≤ 8 by decide) (by decide)) h (fun r hr => ca_up (by decide) (m_law_cross_ok xm N hr)) (fun v394 m394 h => ?_)
        refine wp_run 6 (pc' := 405) (lv' := [(5, .int v394), (0, .ref a0), (1, .ref a1), (2, .ref a2), (3, .ref a3), (4, .int a4)]) (st' := [.int (a4 + 1), .ref a0, .ref a2]) (mem' := m394) rfl ?_
        refine wq_iL rfl h (fun v405 h => ?_)
        refine wp_run 4 (pc' := 411) (lv' := [(5, .int v394), (0, .ref a0), (1, .ref a1), (2, .ref a2), (3, .ref a3), (4, .int a4)]) (st' := [.int (a4 + 2), .ref a0, .int v405, .ref a2]) (mem' := m394) rfl ?_
        refine wq_iL rfl h (fun v411 h => ?_)
        obtain ⟨fk412, hk412, h⟩ := dRc_some h
        refine wq_cI rfl (kCall_v hk412 (as := [.int v405, .int v411]) (rest := []) ⟨by decide, rfl, (show 2 < 90 by decide), by decide⟩ (show 0 ≤ 8 by decide)) h (fun r hr => ca_up (by decide) (m_M_cross_ok xm N hr)) (fun v412 m412 h => ?_)
        refine wp_run 2 (pc' := 1004) (lv' := [(6, .int v412), (5, .int v394), (0, .ref a0), (1, .ref a1), (2, .ref a2), (3, .ref a3), (4, .int a4)]) (st' := []) (mem' := m412) rfl ?_
        refine kGo_sub (lvS_of [2, 3, 4, 5, 6] rfl [6, 5, 0, 1, 2, 3, 4] rfl (by decide)) ?_
        exact m_law_law_1004_ok xm N _ ih _ _ _ _ _ m412 R h
      · change kGo xm kSm kDfl kFty kG 11 0 420 [(0, .ref a0), (1, .ref a1), (2, .ref a2), (3, .ref a3), (4, .int a4)] [] mem (dEq R)
        refine wp_run 2 (pc' := 422) (lv' := [(0, .ref a0), (1, .ref a1), (2, .ref a2), (3, .ref a3), (4, .int a4)]) (st' := [.ref a3, .ref a1]) (mem' := mem) rfl ?_
        refine wq_cI rfl (kCall_s (as := [.ref a1, .ref a3]) (rest := []) ⟨by decide, rfl⟩ (show 0 ≤ 8 by decide) (by decide)) h (fun r hr => ca_up (by decide) (m_law_turn_ok xm N hr)) (fun v422 m422 h => ?_)
        refine wp_run 2 (pc' := 428) (lv' := [(5, .int v422), (0, .ref a0), (1, .ref a1), (2, .ref a2), (3, .ref a3), (4, .int a4)]) (st' := [.ref a2]) (mem' := m422) rfl ?_
        obtain ⟨fk428, hk428, h⟩ := dRc_some h
        refine wq_cI rfl (kCall_v hk428 (as := []) (rest := []) ⟨by decide, rfl, (show 0 < 90 by decide), by decide⟩ (show 0 ≤ 8 by decide)) h (fun r hr => ca_up (by decide) (m_M_turn_ok xm N hr)) (fun v428 m428 h => ?_)
        refine wp_run 2 (pc' := 1004) (lv' := [(6, .int v428), (5, .int v422), (0, .ref a0), (1, .ref a1), (2, .ref a2), (3, .ref a3), (4, .int a4)]) (st' := []) (mem' := m428) rfl ?_
        refine kGo_sub (lvS_of [2, 3, 4, 5, 6] rfl [6, 5, 0, 1, 2, 3, 4] rfl (by decide)) ?_
        exact m_law_law_1004_ok xm N _ ih _ _ _ _ _ m428 R h
      · change kGo xm kSm kDfl kFty kG 11 0 436 [(0, .ref a0), (1, .ref a1), (2, .ref a2), (3, .ref a3), (4, .int a4)] [] mem (dEq R)
        refine wp_run 5 (pc' := 442) (lv' := [(0, .ref a0), (1, .ref a1), (2, .ref a2), (3, .ref a3), (4, .int a4)]) (st' := [.int (a4 + 1), .ref a0, .ref a1]) (mem' := mem) rfl ?_
        refine wq_iL rfl h (fun v442 h => ?_)
        refine wp_run 1 (pc' := 444) (lv' := [(0, .ref a0), (1, .ref a1), (2, .ref a2), (3, .ref a3), (4, .int a4)]) (st' := [.ref a3, .int v442, .ref a1]) (mem' := mem) rfl ?_
        refine wq_cI rfl (kCall_s (as := [.ref a1, .int v442, .ref a3]) (rest := []) ⟨by decide, rfl⟩ (show 0 ≤ 8 by decide) (by decide)) h (fun r hr => ca_up (by decide) (m_law_bind_ok xm N hr)) (fun v444 m444 h => ?_)
        refine wp_run 6 (pc' := 455) (lv' := [(5, .int v444), (0, .ref a0), (1, .ref a1), (2, .ref a2), (3, .ref a3), (4, .int a4)]) (st' := [.int (a4 + 1), .ref a0, .ref a2]) (mem' := m444) rfl ?_
        refine wq_iL rfl h (fun v455 h => ?_)
        obtain ⟨fk456, hk456, h⟩ := dRc_some h
        refine wq_cI rfl (kCall_v hk456 (as := [.int v455]) (rest := []) ⟨by decide, rfl, (show 1 < 90 by decide), by decide⟩ (show 0 ≤ 8 by decide)) h (fun r hr => ca_up (by decide) (m_M_bind_ok xm N hr)) (fun v456 m456 h => ?_)
        refine wp_run 2 (pc' := 1004) (lv' := [(6, .int v456), (5, .int v444), (0, .ref a0), (1, .ref a1), (2, .ref a2), (3, .ref a3), (4, .int a4)]) (st' := []) (mem' := m456) rfl ?_
        refine kGo_sub (lvS_of [2, 3, 4, 5, 6] rfl [6, 5, 0, 1, 2, 3, 4] rfl (by decide)) ?_
        exact m_law_law_1004_ok xm N _ ih _ _ _ _ _ m456 R h
      · change kGo xm kSm kDfl kFty kG 11 0 464 [(0, .ref a0), (1, .ref a1), (2, .ref a2), (3, .ref a3), (4, .int a4)] [] mem (dEq R)
        refine wp_run 2 (pc' := 466) (lv' := [(0, .ref a0), (1, .ref a1), (2, .ref a2), (3, .ref a3), (4, .int a4)]) (st' := [.ref a3, .ref a1]) (mem' := mem) rfl ?_
        refine wq_cI rfl (kCall_s (as := [.ref a1, .ref a3]) (rest := []) ⟨by decide, rfl⟩ (show 0 ≤ 8 by decide) (by decide)) h (fun r hr => ca_up (by decide) (m_law_drop_ok xm N hr)) (fun v466 m466 h => ?_)
        refine wp_run 2 (pc' := 472) (lv' := [(5, .int v466), (0, .ref a0), (1, .ref a1), (2, .ref a2), (3, .ref a3), (4, .int a4)]) (st' := [.ref a2]) (mem' := m466) rfl ?_
        obtain ⟨fk472, hk472, h⟩ := dRc_some h
        refine wq_cI rfl (kCall_v hk472 (as := []) (rest := []) ⟨by decide, rfl, (show 0 < 90 by decide), by decide⟩ (show 0 ≤ 8 by decide)) h (fun r hr => ca_up (by decide) (m_M_drop_ok xm N hr)) (fun v472 m472 h => ?_)
        refine wp_run 2 (pc' := 1004) (lv' := [(6, .int v472), (5, .int v466), (0, .ref a0), (1, .ref a1), (2, .ref a2), (3, .ref a3), (4, .int a4)]) (st' := []) (mem' := m472) rfl ?_
        refine kGo_sub (lvS_of [2, 3, 4, 5, 6] rfl [6, 5, 0, 1, 2, 3, 4] rfl (by decide)) ?_
        exact m_law_law_1004_ok xm N _ ih _ _ _ _ _ m472 R h
      · change kGo xm kSm kDfl kFty kG 11 0 480 [(0, .ref a0), (1, .ref a1), (2, .ref a2), (3, .ref a3), (4, .int a4)] [] mem (dEq R)
        refine wp_run 5 (pc' := 486) (lv' := [(0, .ref a0), (1, .ref a1), (2, .ref a2), (3, .ref a3), (4, .int a4)]) (st' := [.int (a4 + 1), .ref a0, .ref a1]) (mem' := mem) rfl ?_
        refine wq_iL rfl h (fun v486 h => ?_)
        refine wp_run 1 (pc' := 488) (lv' := [(0, .ref a0), (1, .ref a1), (2, .ref a2), (3, .ref a3), (4, .int a4)]) (st' := [.ref a3, .int v486, .ref a1]) (mem' := mem) rfl ?_
        refine wq_cI rfl (kCall_s (as := [.ref a1, .int v486, .ref a3]) (rest := []) ⟨by decide, rfl⟩ (show 0 ≤ 8 by decide) (by decide)) h (fun r hr => ca_up (by decide) (m_law_latch_ok xm N hr)) (fun v488 m488 h => ?_)
        refine wp_run 6 (pc' := 499) (lv' := [(5, .int v488), (0, .ref a0), (1, .ref a1), (2, .ref a2), (3, .ref a3), (4, .int a4)]) (st' := [.int (a4 + 1), .ref a0, .ref a2]) (mem' := m488) rfl ?_
        refine wq_iL rfl h (fun v499 h => ?_)
        obtain ⟨fk500, hk500, h⟩ := dRc_some h
        refine wq_cI rfl (kCall_v hk500 (as := [.int v499]) (rest := []) ⟨by decide, rfl, (show 1 < 90 by decide), by decide⟩ (show 0 ≤ 8 by decide)) h (fun r hr => ca_up (by decide) (m_M_latch_ok xm N hr)) (fun v500 m500 h => ?_)
        refine wp_run 2 (pc' := 1004) (lv' := [(6, .int v500), (5, .int v488), (0, .ref a0), (1, .ref a1), (2, .ref a2), (3, .ref a3), (4, .int a4)]) (st' := []) (mem' := m500) rfl ?_
        refine kGo_sub (lvS_of [2, 3, 4, 5, 6] rfl [6, 5, 0, 1, 2, 3, 4] rfl (by decide)) ?_
        exact m_law_law_1004_ok xm N _ ih _ _ _ _ _ m500 R h
      · change kGo xm kSm kDfl kFty kG 11 0 508 [(0, .ref a0), (1, .ref a1), (2, .ref a2), (3, .ref a3), (4, .int a4)] [] mem (dEq R)
        refine wp_run 5 (pc' := 514) (lv' := [(0, .ref a0), (1, .ref a1), (2, .ref a2), (3, .ref a3), (4, .int a4)]) (st' := [.int (a4 + 1), .ref a0, .ref a1]) (mem' := mem) rfl ?_
        refine wq_iL rfl h (fun v514 h => ?_)
        refine wp_run 1 (pc' := 516) (lv' := [(0, .ref a0), (1, .ref a1), (2, .ref a2), (3, .ref a3), (4, .int a4)]) (st' := [.ref a3, .int v514, .ref a1]) (mem' := mem) rfl ?_
        refine wq_cI rfl (kCall_s (as := [.ref a1, .int v514, .ref a3]) (rest := []) ⟨by decide, rfl⟩ (show 0 ≤ 8 by decide) (by decide)) h (fun r hr => ca_up (by decide) (m_law_pattern_ok xm N hr)) (fun v516 m516 h => ?_)
        refine wp_run 6 (pc' := 527) (lv' := [(5, .int v516), (0, .ref a0), (1, .ref a1), (2, .ref a2), (3, .ref a3), (4, .int a4)]) (st' := [.int (a4 + 1), .ref a0, .ref a2]) (mem' := m516) rfl ?_
        refine wq_iL rfl h (fun v527 h => ?_)
        obtain ⟨fk528, hk528, h⟩ := dRc_some h
        refine wq_cI rfl (kCall_v hk528 (as := [.int v527]) (rest := []) ⟨by decide, rfl, (show 1 < 90 by decide), by decide⟩ (show 0 ≤ 8 by decide)) h (fun r hr => ca_up (by decide) (m_M_pattern_ok xm N hr)) (fun v528 m528 h => ?_)
        refine wp_run 2 (pc' := 1004) (lv' := [(6, .int v528), (5, .int v516), (0, .ref a0), (1, .ref a1), (2, .ref a2), (3, .ref a3), (4, .int a4)]) (st' := []) (mem' := m528) rfl ?_
        refine kGo_sub (lvS_of [2, 3, 4, 5, 6] rfl [6, 5, 0, 1, 2, 3, 4] rfl (by decide)) ?_
        exact m_law_law_1004_ok xm N _ ih _ _ _ _ _ m528 R h
      · change kGo xm kSm kDfl kFty kG 11 0 536 [(0, .ref a0), (1, .ref a1), (2, .ref a2), (3, .ref a3), (4, .int a4)] [] mem (dEq R)
        refine wp_run 5 (pc' := 542) (lv' := [(0, .ref a0), (1, .ref a1), (2, .ref a2), (3, .ref a3), (4, .int a4)]) (st' := [.int (a4 + 1), .ref a0, .ref a1]) (mem' := mem) rfl ?_
        refine wq_iL rfl h (fun v542 h => ?_)
        refine wp_run 1 (pc' := 544) (lv' := [(0, .ref a0), (1, .ref a1), (2, .ref a2), (3, .ref a3), (4, .int a4)]) (st' := [.ref a3, .int v542, .ref a1]) (mem' := mem) rfl ?_
        refine wq_cI rfl (kCall_s (as := [.ref a1, .int v542, .ref a3]) (rest := []) ⟨by decide, rfl⟩ (show 0 ≤ 8 by decide) (by decide)) h (fun r hr => ca_up (by decide) (m_law_follow_ok xm N hr)) (fun v544 m544 h => ?_)
        refine wp_run 6 (pc' := 555) (lv' := [(5, .int v544), (0, .ref a0), (1, .ref a1), (2, .ref a2), (3, .ref a3), (4, .int a4)]) (st' := [.int (a4 + 1), .ref a0, .ref a2]) (mem' := m544) rfl ?_
        refine wq_iL rfl h (fun v555 h => ?_)
        obtain ⟨fk556, hk556, h⟩ := dRc_some h
        refine wq_cI rfl (kCall_v hk556 (as := [.int v555]) (rest := []) ⟨by decide, rfl, (show 1 < 90 by decide), by decide⟩ (show 0 ≤ 8 by decide)) h (fun r hr => ca_up (by decide) (m_M_follow_ok xm N hr)) (fun v556 m556 h => ?_)
        refine wp_run 2 (pc' := 1004) (lv' := [(6, .int v556), (5, .int v544), (0, .ref a0), (1, .ref a1), (2, .ref a2), (3, .ref a3), (4, .int a4)]) (st' := []) (mem' := m556) rfl ?_
        refine kGo_sub (lvS_of [2, 3, 4, 5, 6] rfl [6, 5, 0, 1, 2, 3, 4] rfl (by decide)) ?_
        exact m_law_law_1004_ok xm N _ ih _ _ _ _ _ m556 R h
      · change kGo xm kSm kDfl kFty kG 11 0 564 [(0, .ref a0), (1, .ref a1), (2, .ref a2), (3, .ref a3), (4, .int a4)] [] mem (dEq R)
        refine wp_run 2 (pc' := 566) (lv' := [(0, .ref a0), (1, .ref a1), (2, .ref a2), (3, .ref a3), (4, .int a4)]) (st' := [.ref a3, .ref a1]) (mem' := mem) rfl ?_
        refine wq_cI rfl (kCall_s (as := [.ref a1, .ref a3]) (rest := []) ⟨by decide, rfl⟩ (show 0 ≤ 8 by decide) (by decide)) h (fun r hr => ca_up (by decide) (m_law_undo_ok xm N hr)) (fun v566 m566 h => ?_)
        refine wp_run 2 (pc' := 572) (lv' := [(5, .int v566), (0, .ref a0), (1, .ref a1), (2, .ref a2), (3, .ref a3), (4, .int a4)]) (st' := [.ref a2]) (mem' := m566) rfl ?_
        obtain ⟨fk572, hk572, h⟩ := dRc_some h
        refine wq_cI rfl (kCall_v hk572 (as := []) (rest := []) ⟨by decide, rfl, (show 0 < 90 by decide), by decide⟩ (show 0 ≤ 8 by decide)) h (fun r hr => ca_up (by decide) (m_M_undo_ok xm N hr)) (fun v572 m572 h => ?_)
        refine wp_run 2 (pc' := 1004) (lv' := [(6, .int v572), (5, .int v566), (0, .ref a0), (1, .ref a1), (2, .ref a2), (3, .ref a3), (4, .int a4)]) (st' := []) (mem' := m572) rfl ?_
        refine kGo_sub (lvS_of [2, 3, 4, 5, 6] rfl [6, 5, 0, 1, 2, 3, 4] rfl (by decide)) ?_
        exact m_law_law_1004_ok xm N _ ih _ _ _ _ _ m572 R h
      · change kGo xm kSm kDfl kFty kG 11 0 580 [(0, .ref a0), (1, .ref a1), (2, .ref a2), (3, .ref a3), (4, .int a4)] [] mem (dEq R)
        refine wp_run 5 (pc' := 586) (lv' := [(0, .ref a0), (1, .ref a1), (2, .ref a2), (3, .ref a3), (4, .int a4)]) (st' := [.int (a4 + 1), .ref a0, .ref a1]) (mem' := mem) rfl ?_
        refine wq_iL rfl h (fun v586 h => ?_)
        refine wq_eq rfl h (fun h => ?_) (fun h => ?_)
        · refine wp_run 1 (pc' := 595) (lv' := [(0, .ref a0), (1, .ref a1), (2, .ref a2), (3, .ref a3), (4, .int a4)]) (st' := [.int 0, .ref a1]) (mem' := mem) rfl ?_
          exact m_law_law_595_ok xm N _ ih _ _ _ _ _ _ _ mem R h
        · refine wp_run 2 (pc' := 595) (lv' := [(0, .ref a0), (1, .ref a1), (2, .ref a2), (3, .ref a3), (4, .int a4)]) (st' := [.int 1, .ref a1]) (mem' := mem) rfl ?_
          exact m_law_law_595_ok xm N _ ih _ _ _ _ _ _ _ mem R h
      · change kGo xm kSm kDfl kFty kG 11 0 636 [(0, .ref a0), (1, .ref a1), (2, .ref a2), (3, .ref a3), (4, .int a4)] [] mem (dEq R)
        refine wp_run 5 (pc' := 642) (lv' := [(0, .ref a0), (1, .ref a1), (2, .ref a2), (3, .ref a3), (4, .int a4)]) (st' := [.int (a4 + 1), .ref a0, .ref a1]) (mem' := mem) rfl ?_
        refine wq_iL rfl h (fun v642 h => ?_)
        refine wp_run 4 (pc' := 648) (lv' := [(0, .ref a0), (1, .ref a1), (2, .ref a2), (3, .ref a3), (4, .int a4)]) (st' := [.int (a4 + 2), .ref a0, .int v642, .ref a1]) (mem' := mem) rfl ?_
        refine wq_iL rfl h (fun v648 h => ?_)
        refine wp_run 1 (pc' := 650) (lv' := [(0, .ref a0), (1, .ref a1), (2, .ref a2), (3, .ref a3), (4, .int a4)]) (st' := [.ref a3, .int v648, .int v642, .ref a1]) (mem' := mem) rfl ?_
        refine wq_cI rfl (kCall_s (as := [.ref a1, .int v642, .int v648, .ref a3]) (rest := []) ⟨by decide, rfl⟩ (show 0 ≤ 8 by decide) (by decide)) h (fun r hr => ca_up (by decide) (m_law_ofLoop_ok xm N hr)) (fun v650 m650 h => ?_)
        refine wp_run 6 (pc' := 661) (lv' := [(5, .int v650), (0, .ref a0), (1, .ref a1), (2, .ref a2), (3, .ref a3), (4, .int a4)]) (st' := [.int (a4 + 1), .ref a0, .ref a2]) (mem' := m650) rfl ?_
        refine wq_iL rfl h (fun v661 h => ?_)
        refine wp_run 4 (pc' := 667) (lv' := [(5, .int v650), (0, .ref a0), (1, .ref a1), (2, .ref a2), (3, .ref a3), (4, .int a4)]) (st' := [.int (a4 + 2), .ref a0, .int v661, .ref a2]) (mem' := m650) rfl ?_
        refine wq_iL rfl h (fun v667 h => ?_)
        obtain ⟨fk668, hk668, h⟩ := dRc_some h
        refine wq_cI rfl (kCall_v hk668 (as := [.int v661, .int v667]) (rest := []) ⟨by decide, rfl, (show 2 < 90 by decide), by decide⟩ (show 0 ≤ 8 by decide)) h (fun r hr => ca_up (by decide) (m_M_ofLoop_ok xm N hr)) (fun v668 m668 h => ?_)
        refine wp_run 2 (pc' := 1004) (lv' := [(6, .int v668), (5, .int v650), (0, .ref a0), (1, .ref a1), (2, .ref a2), (3, .ref a3), (4, .int a4)]) (st' := []) (mem' := m668) rfl ?_
        refine kGo_sub (lvS_of [2, 3, 4, 5, 6] rfl [6, 5, 0, 1, 2, 3, 4] rfl (by decide)) ?_
        exact m_law_law_1004_ok xm N _ ih _ _ _ _ _ m668 R h
      · change kGo xm kSm kDfl kFty kG 11 0 676 [(0, .ref a0), (1, .ref a1), (2, .ref a2), (3, .ref a3), (4, .int a4)] [] mem (dEq R)
        refine wp_run 5 (pc' := 682) (lv' := [(0, .ref a0), (1, .ref a1), (2, .ref a2), (3, .ref a3), (4, .int a4)]) (st' := [.int (a4 + 1), .ref a0, .ref a1]) (mem' := mem) rfl ?_
        refine wq_iL rfl h (fun v682 h => ?_)
        refine wp_run 4 (pc' := 688) (lv' := [(0, .ref a0), (1, .ref a1), (2, .ref a2), (3, .ref a3), (4, .int a4)]) (st' := [.int (a4 + 2), .ref a0, .int v682, .ref a1]) (mem' := mem) rfl ?_
        refine wq_iL rfl h (fun v688 h => ?_)
        refine wp_run 1 (pc' := 690) (lv' := [(0, .ref a0), (1, .ref a1), (2, .ref a2), (3, .ref a3), (4, .int a4)]) (st' := [.ref a3, .int v688, .int v682, .ref a1]) (mem' := mem) rfl ?_
        refine wq_cI rfl (kCall_s (as := [.ref a1, .int v682, .int v688, .ref a3]) (rest := []) ⟨by decide, rfl⟩ (show 0 ≤ 8 by decide) (by decide)) h (fun r hr => ca_up (by decide) (m_law_ofRun_ok xm N hr)) (fun v690 m690 h => ?_)
        refine wp_run 6 (pc' := 701) (lv' := [(5, .int v690), (0, .ref a0), (1, .ref a1), (2, .ref a2), (3, .ref a3), (4, .int a4)]) (st' := [.int (a4 + 1), .ref a0, .ref a2]) (mem' := m690) rfl ?_
        refine wq_iL rfl h (fun v701 h => ?_)
        refine wp_run 4 (pc' := 707) (lv' := [(5, .int v690), (0, .ref a0), (1, .ref a1), (2, .ref a2), (3, .ref a3), (4, .int a4)]) (st' := [.int (a4 + 2), .ref a0, .int v701, .ref a2]) (mem' := m690) rfl ?_
        refine wq_iL rfl h (fun v707 h => ?_)
        obtain ⟨fk708, hk708, h⟩ := dRc_some h
        refine wq_cI rfl (kCall_v hk708 (as := [.int v701, .int v707]) (rest := []) ⟨by decide, rfl, (show 2 < 90 by decide), by decide⟩ (show 0 ≤ 8 by decide)) h (fun r hr => ca_up (by decide) (m_M_ofRun_ok xm N hr)) (fun v708 m708 h => ?_)
        refine wp_run 2 (pc' := 1004) (lv' := [(6, .int v708), (5, .int v690), (0, .ref a0), (1, .ref a1), (2, .ref a2), (3, .ref a3), (4, .int a4)]) (st' := []) (mem' := m708) rfl ?_
        refine kGo_sub (lvS_of [2, 3, 4, 5, 6] rfl [6, 5, 0, 1, 2, 3, 4] rfl (by decide)) ?_
        exact m_law_law_1004_ok xm N _ ih _ _ _ _ _ m708 R h
      · change kGo xm kSm kDfl kFty kG 11 0 716 [(0, .ref a0), (1, .ref a1), (2, .ref a2), (3, .ref a3), (4, .int a4)] [] mem (dEq R)
        refine wp_run 5 (pc' := 722) (lv' := [(0, .ref a0), (1, .ref a1), (2, .ref a2), (3, .ref a3), (4, .int a4)]) (st' := [.int (a4 + 1), .ref a0, .ref a1]) (mem' := mem) rfl ?_
        refine wq_iL rfl h (fun v722 h => ?_)
        refine wq_eq rfl h (fun h => ?_) (fun h => ?_)
        · refine wp_run 1 (pc' := 731) (lv' := [(0, .ref a0), (1, .ref a1), (2, .ref a2), (3, .ref a3), (4, .int a4)]) (st' := [.int 0, .ref a1]) (mem' := mem) rfl ?_
          exact m_law_law_731_ok xm N _ ih _ _ _ _ _ _ _ mem R h
        · refine wp_run 2 (pc' := 731) (lv' := [(0, .ref a0), (1, .ref a1), (2, .ref a2), (3, .ref a3), (4, .int a4)]) (st' := [.int 1, .ref a1]) (mem' := mem) rfl ?_
          exact m_law_law_731_ok xm N _ ih _ _ _ _ _ _ _ mem R h
      · change kGo xm kSm kDfl kFty kG 11 0 757 [(0, .ref a0), (1, .ref a1), (2, .ref a2), (3, .ref a3), (4, .int a4)] [] mem (dEq R)
        refine wp_run 5 (pc' := 763) (lv' := [(0, .ref a0), (1, .ref a1), (2, .ref a2), (3, .ref a3), (4, .int a4)]) (st' := [.int (a4 + 1), .ref a0, .ref a1]) (mem' := mem) rfl ?_
        refine wq_iL rfl h (fun v763 h => ?_)
        refine wq_eq rfl h (fun h => ?_) (fun h => ?_)
        · refine wp_run 1 (pc' := 772) (lv' := [(0, .ref a0), (1, .ref a1), (2, .ref a2), (3, .ref a3), (4, .int a4)]) (st' := [.int 0, .ref a1]) (mem' := mem) rfl ?_
          exact m_law_law_772_ok xm N _ ih _ _ _ _ _ _ _ mem R h
        · refine wp_run 2 (pc' := 772) (lv' := [(0, .ref a0), (1, .ref a1), (2, .ref a2), (3, .ref a3), (4, .int a4)]) (st' := [.int 1, .ref a1]) (mem' := mem) rfl ?_
          exact m_law_law_772_ok xm N _ ih _ _ _ _ _ _ _ mem R h
      · change kGo xm kSm kDfl kFty kG 11 0 826 [(0, .ref a0), (1, .ref a1), (2, .ref a2), (3, .ref a3), (4, .int a4)] [] mem (dEq R)
        refine wp_run 5 (pc' := 832) (lv' := [(0, .ref a0), (1, .ref a1), (2, .ref a2), (3, .ref a3), (4, .int a4)]) (st' := [.int (a4 + 1), .ref a0, .ref a1]) (mem' := mem) rfl ?_
        refine wq_iL rfl h (fun v832 h => ?_)
        refine wp_run 1 (pc' := 834) (lv' := [(0, .ref a0), (1, .ref a1), (2, .ref a2), (3, .ref a3), (4, .int a4)]) (st' := [.ref a3, .int v832, .ref a1]) (mem' := mem) rfl ?_
        refine wq_cI rfl (kCall_s (as := [.ref a1, .int v832, .ref a3]) (rest := []) ⟨by decide, rfl⟩ (show 0 ≤ 8 by decide) (by decide)) h (fun r hr => ca_up (by decide) (m_law_many_ok xm N hr)) (fun v834 m834 h => ?_)
        refine wp_run 6 (pc' := 845) (lv' := [(5, .int v834), (0, .ref a0), (1, .ref a1), (2, .ref a2), (3, .ref a3), (4, .int a4)]) (st' := [.int (a4 + 1), .ref a0, .ref a2]) (mem' := m834) rfl ?_
        refine wq_iL rfl h (fun v845 h => ?_)
        obtain ⟨fk846, hk846, h⟩ := dRc_some h
        refine wq_cI rfl (kCall_v hk846 (as := [.int v845]) (rest := []) ⟨by decide, rfl, (show 1 < 90 by decide), by decide⟩ (show 0 ≤ 8 by decide)) h (fun r hr => ca_up (by decide) (m_M_many_ok xm N hr)) (fun v846 m846 h => ?_)
        refine wp_run 2 (pc' := 1004) (lv' := [(6, .int v846), (5, .int v834), (0, .ref a0), (1, .ref a1), (2, .ref a2), (3, .ref a3), (4, .int a4)]) (st' := []) (mem' := m846) rfl ?_
        refine kGo_sub (lvS_of [2, 3, 4, 5, 6] rfl [6, 5, 0, 1, 2, 3, 4] rfl (by decide)) ?_
        exact m_law_law_1004_ok xm N _ ih _ _ _ _ _ m846 R h
      · change kGo xm kSm kDfl kFty kG 11 0 854 [(0, .ref a0), (1, .ref a1), (2, .ref a2), (3, .ref a3), (4, .int a4)] [] mem (dEq R)
        refine wp_run 5 (pc' := 860) (lv' := [(0, .ref a0), (1, .ref a1), (2, .ref a2), (3, .ref a3), (4, .int a4)]) (st' := [.int (a4 + 1), .ref a0, .ref a1]) (mem' := mem) rfl ?_
        refine wq_iL rfl h (fun v860 h => ?_)
        refine wp_run 1 (pc' := 862) (lv' := [(0, .ref a0), (1, .ref a1), (2, .ref a2), (3, .ref a3), (4, .int a4)]) (st' := [.ref a3, .int v860, .ref a1]) (mem' := mem) rfl ?_
        refine wq_cI rfl (kCall_s (as := [.ref a1, .int v860, .ref a3]) (rest := []) ⟨by decide, rfl⟩ (show 0 ≤ 8 by decide) (by decide)) h (fun r hr => ca_up (by decide) (m_law_left_ok xm N hr)) (fun v862 m862 h => ?_)
        refine wp_run 6 (pc' := 873) (lv' := [(5, .int v862), (0, .ref a0), (1, .ref a1), (2, .ref a2), (3, .ref a3), (4, .int a4)]) (st' := [.int (a4 + 1), .ref a0, .ref a2]) (mem' := m862) rfl ?_
        refine wq_iL rfl h (fun v873 h => ?_)
        obtain ⟨fk874, hk874, h⟩ := dRc_some h
        refine wq_cI rfl (kCall_v hk874 (as := [.int v873]) (rest := []) ⟨by decide, rfl, (show 1 < 90 by decide), by decide⟩ (show 0 ≤ 8 by decide)) h (fun r hr => ca_up (by decide) (m_M_left_ok xm N hr)) (fun v874 m874 h => ?_)
        refine wp_run 2 (pc' := 1004) (lv' := [(6, .int v874), (5, .int v862), (0, .ref a0), (1, .ref a1), (2, .ref a2), (3, .ref a3), (4, .int a4)]) (st' := []) (mem' := m874) rfl ?_
        refine kGo_sub (lvS_of [2, 3, 4, 5, 6] rfl [6, 5, 0, 1, 2, 3, 4] rfl (by decide)) ?_
        exact m_law_law_1004_ok xm N _ ih _ _ _ _ _ m874 R h
      · change kGo xm kSm kDfl kFty kG 11 0 882 [(0, .ref a0), (1, .ref a1), (2, .ref a2), (3, .ref a3), (4, .int a4)] [] mem (dEq R)
        refine wp_run 5 (pc' := 888) (lv' := [(0, .ref a0), (1, .ref a1), (2, .ref a2), (3, .ref a3), (4, .int a4)]) (st' := [.int (a4 + 1), .ref a0, .ref a1]) (mem' := mem) rfl ?_
        refine wq_iL rfl h (fun v888 h => ?_)
        refine wp_run 4 (pc' := 894) (lv' := [(0, .ref a0), (1, .ref a1), (2, .ref a2), (3, .ref a3), (4, .int a4)]) (st' := [.int (a4 + 2), .ref a0, .int v888, .ref a1]) (mem' := mem) rfl ?_
        refine wq_iL rfl h (fun v894 h => ?_)
        refine wp_run 1 (pc' := 896) (lv' := [(0, .ref a0), (1, .ref a1), (2, .ref a2), (3, .ref a3), (4, .int a4)]) (st' := [.ref a3, .int v894, .int v888, .ref a1]) (mem' := mem) rfl ?_
        refine wq_cI rfl (kCall_s (as := [.ref a1, .int v888, .int v894, .ref a3]) (rest := []) ⟨by decide, rfl⟩ (show 0 ≤ 8 by decide) (by decide)) h (fun r hr => ca_up (by decide) (m_law_ofPattern_ok xm N hr)) (fun v896 m896 h => ?_)
        refine wp_run 6 (pc' := 907) (lv' := [(5, .int v896), (0, .ref a0), (1, .ref a1), (2, .ref a2), (3, .ref a3), (4, .int a4)]) (st' := [.int (a4 + 1), .ref a0, .ref a2]) (mem' := m896) rfl ?_
        refine wq_iL rfl h (fun v907 h => ?_)
        refine wp_run 4 (pc' := 913) (lv' := [(5, .int v896), (0, .ref a0), (1, .ref a1), (2, .ref a2), (3, .ref a3), (4, .int a4)]) (st' := [.int (a4 + 2), .ref a0, .int v907, .ref a2]) (mem' := m896) rfl ?_
        refine wq_iL rfl h (fun v913 h => ?_)
        obtain ⟨fk914, hk914, h⟩ := dRc_some h
        refine wq_cI rfl (kCall_v hk914 (as := [.int v907, .int v913]) (rest := []) ⟨by decide, rfl, (show 2 < 90 by decide), by decide⟩ (show 0 ≤ 8 by decide)) h (fun r hr => ca_up (by decide) (m_M_ofPattern_ok xm N hr)) (fun v914 m914 h => ?_)
        refine wp_run 2 (pc' := 1004) (lv' := [(6, .int v914), (5, .int v896), (0, .ref a0), (1, .ref a1), (2, .ref a2), (3, .ref a3), (4, .int a4)]) (st' := []) (mem' := m914) rfl ?_
        refine kGo_sub (lvS_of [2, 3, 4, 5, 6] rfl [6, 5, 0, 1, 2, 3, 4] rfl (by decide)) ?_
        exact m_law_law_1004_ok xm N _ ih _ _ _ _ _ m914 R h
      · change kGo xm kSm kDfl kFty kG 11 0 922 [(0, .ref a0), (1, .ref a1), (2, .ref a2), (3, .ref a3), (4, .int a4)] [] mem (dEq R)
        refine wp_run 5 (pc' := 928) (lv' := [(0, .ref a0), (1, .ref a1), (2, .ref a2), (3, .ref a3), (4, .int a4)]) (st' := [.int (a4 + 1), .ref a0, .ref a1]) (mem' := mem) rfl ?_
        refine wq_iL rfl h (fun v928 h => ?_)
        refine wp_run 1 (pc' := 930) (lv' := [(0, .ref a0), (1, .ref a1), (2, .ref a2), (3, .ref a3), (4, .int a4)]) (st' := [.ref a3, .int v928, .ref a1]) (mem' := mem) rfl ?_
        refine wq_cI rfl (kCall_s (as := [.ref a1, .int v928, .ref a3]) (rest := []) ⟨by decide, rfl⟩ (show 0 ≤ 8 by decide) (by decide)) h (fun r hr => ca_up (by decide) (m_law_would_ok xm N hr)) (fun v930 m930 h => ?_)
        refine wp_run 6 (pc' := 941) (lv' := [(5, .int v930), (0, .ref a0), (1, .ref a1), (2, .ref a2), (3, .ref a3), (4, .int a4)]) (st' := [.int (a4 + 1), .ref a0, .ref a2]) (mem' := m930) rfl ?_
        refine wq_iL rfl h (fun v941 h => ?_)
        obtain ⟨fk942, hk942, h⟩ := dRc_some h
        refine wq_cI rfl (kCall_v hk942 (as := [.int v941]) (rest := []) ⟨by decide, rfl, (show 1 < 90 by decide), by decide⟩ (show 0 ≤ 8 by decide)) h (fun r hr => ca_up (by decide) (m_M_would_ok xm N hr)) (fun v942 m942 h => ?_)
        refine wp_run 2 (pc' := 1004) (lv' := [(6, .int v942), (5, .int v930), (0, .ref a0), (1, .ref a1), (2, .ref a2), (3, .ref a3), (4, .int a4)]) (st' := []) (mem' := m942) rfl ?_
        refine kGo_sub (lvS_of [2, 3, 4, 5, 6] rfl [6, 5, 0, 1, 2, 3, 4] rfl (by decide)) ?_
        exact m_law_law_1004_ok xm N _ ih _ _ _ _ _ m942 R h
      · change kGo xm kSm kDfl kFty kG 11 0 950 [(0, .ref a0), (1, .ref a1), (2, .ref a2), (3, .ref a3), (4, .int a4)] [] mem (dEq R)
        refine wp_run 5 (pc' := 956) (lv' := [(0, .ref a0), (1, .ref a1), (2, .ref a2), (3, .ref a3), (4, .int a4)]) (st' := [.int (a4 + 1), .ref a0, .ref a1]) (mem' := mem) rfl ?_
        refine wq_iL rfl h (fun v956 h => ?_)
        refine wp_run 1 (pc' := 958) (lv' := [(0, .ref a0), (1, .ref a1), (2, .ref a2), (3, .ref a3), (4, .int a4)]) (st' := [.ref a3, .int v956, .ref a1]) (mem' := mem) rfl ?_
        refine wq_cI rfl (kCall_s (as := [.ref a1, .int v956, .ref a3]) (rest := []) ⟨by decide, rfl⟩ (show 0 ≤ 8 by decide) (by decide)) h (fun r hr => ca_up (by decide) (m_law_needs_ok xm N hr)) (fun v958 m958 h => ?_)
        refine wp_run 6 (pc' := 969) (lv' := [(5, .int v958), (0, .ref a0), (1, .ref a1), (2, .ref a2), (3, .ref a3), (4, .int a4)]) (st' := [.int (a4 + 1), .ref a0, .ref a2]) (mem' := m958) rfl ?_
        refine wq_iL rfl h (fun v969 h => ?_)
        obtain ⟨fk970, hk970, h⟩ := dRc_some h
        refine wq_cI rfl (kCall_v hk970 (as := [.int v969]) (rest := []) ⟨by decide, rfl, (show 1 < 90 by decide), by decide⟩ (show 0 ≤ 8 by decide)) h (fun r hr => ca_up (by decide) (m_M_needs_ok xm N hr)) (fun v970 m970 h => ?_)
        refine wp_run 2 (pc' := 1004) (lv' := [(6, .int v970), (5, .int v958), (0, .ref a0), (1, .ref a1), (2, .ref a2), (3, .ref a3), (4, .int a4)]) (st' := []) (mem' := m970) rfl ?_
        refine kGo_sub (lvS_of [2, 3, 4, 5, 6] rfl [6, 5, 0, 1, 2, 3, 4] rfl (by decide)) ?_
        exact m_law_law_1004_ok xm N _ ih _ _ _ _ _ m970 R h
      · change kGo xm kSm kDfl kFty kG 11 0 978 [(0, .ref a0), (1, .ref a1), (2, .ref a2), (3, .ref a3), (4, .int a4)] [] mem (dEq R)
        refine wp_run 1 (pc' := 979) (lv' := [(0, .ref a0), (1, .ref a1), (2, .ref a2), (3, .ref a3), (4, .int a4)]) (st' := [.ref a1]) (mem' := mem) rfl ?_
        obtain ⟨fk979, hk979, h⟩ := dRc_some h
        refine wq_cI rfl (kCall_v hk979 (as := []) (rest := []) ⟨by decide, rfl, (show 0 < 90 by decide), by decide⟩ (show 0 ≤ 8 by decide)) h (fun r hr => ca_up (by decide) (m_K_best_ok xm N hr)) (fun v979 m979 h => ?_)
        refine wp_run 2 (pc' := 984) (lv' := [(0, .ref a0), (1, .ref a1), (2, .ref a2), (3, .ref a3), (4, .int a4)]) (st' := [.ref a2]) (mem' := m979) rfl ?_
        obtain ⟨fk984, hk984, h⟩ := dRc_some h
        refine wq_cI rfl (kCall_v hk984 (as := []) (rest := []) ⟨by decide, rfl, (show 0 < 90 by decide), by decide⟩ (show 0 ≤ 8 by decide)) h (fun r hr => ca_up (by decide) (m_M_best_ok xm N hr)) (fun v984 m984 h => ?_)
        refine wp_run 2 (pc' := 1004) (lv' := [(0, .ref a0), (1, .ref a1), (2, .ref a2), (3, .ref a3), (4, .int a4)]) (st' := []) (mem' := m984) rfl ?_
        exact m_law_law_1004_ok xm N _ ih _ _ _ _ _ m984 R h
      · change kGo xm kSm kDfl kFty kG 11 0 991 [(0, .ref a0), (1, .ref a1), (2, .ref a2), (3, .ref a3), (4, .int a4)] [] mem (dEq R)
        refine wp_run 1 (pc' := 992) (lv' := [(0, .ref a0), (1, .ref a1), (2, .ref a2), (3, .ref a3), (4, .int a4)]) (st' := [.ref a1]) (mem' := mem) rfl ?_
        obtain ⟨fk992, hk992, h⟩ := dRc_some h
        refine wq_cJ rfl (kCall_v hk992 (as := []) (rest := []) ⟨by decide, rfl, (show 0 < 90 by decide), by decide⟩ (show 0 ≤ 8 by decide)) h (fun r hr => ca_up (by decide) (m_K_digest_ok xm N hr)) (fun v992 m992 h => ?_)
        refine wp_run 2 (pc' := 997) (lv' := [(0, .ref a0), (1, .ref a1), (2, .ref a2), (3, .ref a3), (4, .int a4)]) (st' := [.ref a2]) (mem' := m992) rfl ?_
        obtain ⟨fk997, hk997, h⟩ := dRc_some h
        refine wq_cJ rfl (kCall_v hk997 (as := []) (rest := []) ⟨by decide, rfl, (show 0 < 90 by decide), by decide⟩ (show 0 ≤ 8 by decide)) h (fun r hr => ca_up (by decide) (m_M_digest_ok xm N hr)) (fun v997 m997 h => ?_)
        refine wp_run 2 (pc' := 1004) (lv' := [(0, .ref a0), (1, .ref a1), (2, .ref a2), (3, .ref a3), (4, .int a4)]) (st' := []) (mem' := m997) rfl ?_
        exact m_law_law_1004_ok xm N _ ih _ _ _ _ _ m997 R h
def m_law_law (xm : Nat → Option kE) (N : Nat) (a0 : Nat) (mem : kM) : dRes :=
  dN mem (.inl (11, [.null, .null, .null, .null, .null, .null, .null, .int 0])) fun m0 p0 =>
  dCV (m_K_new xm N p0 m0) fun m4 =>
  dN m4 (.inl (15, [.int 0, .null, .null, .null, .null, .null, .int 0, .int 0, .long 0])) fun m8 p8 =>
  dCV (m_M_new xm N p8 m8) fun m12 =>
  dN m12 (.inl (12, [.long 0])) fun m16 p16 =>
  dCV (m_Out_new xm N p16 m16) fun m20 =>
  m_law_law_27 xm N N a0 p0 p8 p16 0 m20
theorem m_law_law_ok (xm : Nat → Option kE) (N : Nat) {a0 : Nat} {mem : kM} {R : kO × kM} (h : m_law_law xm N a0 mem = some R) : kCa xm kSm kDfl kFty kG 12 0 [.ref a0] mem (dEq R) := by
  refine wq_ca (show 1 ≤ 9 by decide) ?_
  change kGo xm kSm kDfl kFty kG 11 0 0 [(0, .ref a0)] [] mem (dEq R)
  unfold m_law_law at h
  refine wq_n rfl (by decide) rfl h (fun m0 p0 h => ?_)
  refine wp_run 1 (pc' := 4) (lv' := [(0, .ref a0)]) (st' := [.ref p0, .ref p0]) (mem' := m0) rfl ?_
  refine wq_cV rfl (kCall_i (as := []) (rest := [.ref p0]) ⟨by decide, rfl, (show 0 < 90 by decide)⟩ (show 1 ≤ 8 by decide)) h (fun r hr => ca_up (by decide) (m_K_new_ok xm N hr)) (fun m4 h => ?_)
  refine wp_run 1 (pc' := 8) (lv' := [(1, .ref p0), (0, .ref a0)]) (st' := []) (mem' := m4) rfl ?_
  refine wq_n rfl (by decide) rfl h (fun m8 p8 h => ?_)
  refine wp_run 1 (pc' := 12) (lv' := [(1, .ref p0), (0, .ref a0)]) (st' := [.ref p8, .ref p8]) (mem' := m8) rfl ?_
  refine wq_cV rfl (kCall_i (as := []) (rest := [.ref p8]) ⟨by decide, rfl, (show 0 < 90 by decide)⟩ (show 1 ≤ 8 by decide)) h (fun r hr => ca_up (by decide) (m_M_new_ok xm N hr)) (fun m12 h => ?_)
  refine wp_run 1 (pc' := 16) (lv' := [(2, .ref p8), (1, .ref p0), (0, .ref a0)]) (st' := []) (mem' := m12) rfl ?_
  refine wq_n rfl (by decide) rfl h (fun m16 p16 h => ?_)
  refine wp_run 1 (pc' := 20) (lv' := [(2, .ref p8), (1, .ref p0), (0, .ref a0)]) (st' := [.ref p16, .ref p16]) (mem' := m16) rfl ?_
  refine wq_cV rfl (kCall_i (as := []) (rest := [.ref p16]) ⟨by decide, rfl, (show 0 < 90 by decide)⟩ (show 1 ≤ 8 by decide)) h (fun r hr => ca_up (by decide) (m_Out_new_ok xm N hr)) (fun m20 h => ?_)
  refine wp_run 3 (pc' := 27) (lv' := [(4, .int 0), (3, .ref p16), (2, .ref p8), (1, .ref p0), (0, .ref a0)]) (st' := []) (mem' := m20) rfl ?_
  refine kGo_sub (lvS_of [4, 3, 2, 1, 0] rfl [4, 3, 2, 1, 0] rfl (by decide)) ?_
  exact m_law_law_27_ok xm N N _ _ _ _ _ m20 R h
