set_option maxRecDepth 20000
section
variable {z : Value}
/-- KnitsteadLaw.law([I)Z -/
def m_law_law_1303 (xm : Nat → Option kE) (N : Nat) (K23 : Nat → Nat → Int32 → Int32 → kM → dRes) (a0 : Nat) (a1 : Nat) (a2 : Int32) (a3 : Int32) (mem : kM) : dRes :=
  dCI (m_law_isSo xm N a1 mem) fun v1304 m1304 =>
  if v1304 = 0 then (
    some (.inl (some (.int 0)), m1304)
  ) else (
    dRc xm m1304 a1 11 <|
    dCI (m_K_many xm N a1 1 m1304) fun v1312 m1312 =>
    if a2 < v1312 then (
      some (.inl (some (.int 0)), m1312)
    ) else (
      K23 a0 a1 a2 (a3 + 1) m1312
    )
  )
theorem m_law_law_1303_ok (hz : z.category = 1) (xm : Nat → Option kE) (N : Nat) (K23 : Nat → Nat → Int32 → Int32 → kM → dRes) (hK23 : ∀ (a0 : Nat) (a1 : Nat) (a2 : Int32) (a3 : Int32) (mem : kM) (R : kO × kM), K23 a0 a1 a2 a3 mem = some R → kGo xm (kSm z) kDfl kFty kG 10 0 23 [(0, .ref a0), (1, .ref a1), (2, .int a2), (3, .int a3)] [] mem (dEq R)) : ∀ (a0 : Nat) (a1 : Nat) (a2 : Int32) (a3 : Int32) (mem : kM) (R : kO × kM), m_law_law_1303 xm N K23 a0 a1 a2 a3 mem = some R → kGo xm (kSm z) kDfl kFty kG 10 0 1303 [(0, .ref a0), (1, .ref a1), (2, .int a2), (3, .int a3)] [] mem (dEq R) := by
  intro a0 a1 a2 a3 mem R h
  unfold m_law_law_1303 at h
  refine wp_run 1 (pc' := 1304) (lv' := [(0, .ref a0), (1, .ref a1), (2, .int a2), (3, .int a3)]) (st' := [.ref a1]) (mem' := mem) rfl ?_
  refine wq_cI rfl (kCall_s (as := [.ref a1]) (rest := []) ⟨by decide, rfl⟩ (show 0 ≤ 8 by decide) (by decide)) h (fun r hr => ca_up (by decide) (m_law_isSo_ok hz xm N hr)) (fun v1304 m1304 h => ?_)
  refine wq_eq rfl h (fun h => ?_) (fun h => ?_)
  · refine wp_run 1 (pc' := 1320) (lv' := [(0, .ref a0), (1, .ref a1), (2, .int a2), (3, .int a3)]) (st' := [.int 0]) (mem' := m1304) rfl ?_
    exact wq_ret rfl rfl h
  · refine wp_run 2 (pc' := 1312) (lv' := [(0, .ref a0), (1, .ref a1), (2, .int a2), (3, .int a3)]) (st' := [.int 1, .ref a1]) (mem' := m1304) rfl ?_
    obtain ⟨fk1312, hk1312, h⟩ := dRc_some h
    refine wq_cI rfl (kCall_v hk1312 (as := [.int 1]) (rest := []) ⟨by decide, rfl, (show 1 < 90 by decide), by decide⟩ (show 0 ≤ 8 by decide)) h (fun r hr => ca_up (by decide) (m_K_many_ok hz xm N hr)) (fun v1312 m1312 h => ?_)
    refine wp_run 1 (pc' := 1316) (lv' := [(0, .ref a0), (1, .ref a1), (2, .int a2), (3, .int a3)]) (st' := [.int a2, .int v1312]) (mem' := m1312) rfl ?_
    refine wq_le2 rfl h (fun h => ?_) (fun h => ?_)
    · refine wp_run 1 (pc' := 1320) (lv' := [(0, .ref a0), (1, .ref a1), (2, .int a2), (3, .int a3)]) (st' := [.int 0]) (mem' := m1312) rfl ?_
      exact wq_ret rfl rfl h
    · refine wp_run 2 (pc' := 23) (lv' := [(3, .int (a3 + 1)), (0, .ref a0), (1, .ref a1), (2, .int a2)]) (st' := []) (mem' := m1312) rfl ?_
      refine kGo_sub (lvS_of [1, 2, 3, 0] rfl [3, 0, 1, 2] rfl (by decide)) ?_
      exact hK23 _ _ _ _ m1312 R h
def m_law_law_518 (xm : Nat → Option kE) (N : Nat) (K23 : Nat → Nat → Int32 → Int32 → kM → dRes) (a0 : Nat) (a1 : Nat) (a2 : Int32) (a3 : Int32) (a10 : Int32) (a14 : Int32) (mem : kM) : dRes :=
  if 2 < a10 then (
    if a10 < 6 then (
      dRc xm mem a1 11 <|
      dCI (m_K_ofLoop xm N a1 a14 3 mem) fun v535 m535 =>
      if v535 = 1 then (
        m_law_law_1303 xm N K23 a0 a1 a2 a3 m535
      ) else (
        some (.inl (some (.int 0)), m535)
      )
    ) else (
      m_law_law_1303 xm N K23 a0 a1 a2 a3 mem
    )
  ) else (
    m_law_law_1303 xm N K23 a0 a1 a2 a3 mem
  )
theorem m_law_law_518_ok (hz : z.category = 1) (xm : Nat → Option kE) (N : Nat) (K23 : Nat → Nat → Int32 → Int32 → kM → dRes) (hK23 : ∀ (a0 : Nat) (a1 : Nat) (a2 : Int32) (a3 : Int32) (mem : kM) (R : kO × kM), K23 a0 a1 a2 a3 mem = some R → kGo xm (kSm z) kDfl kFty kG 10 0 23 [(0, .ref a0), (1, .ref a1), (2, .int a2), (3, .int a3)] [] mem (dEq R)) : ∀ (a0 : Nat) (a1 : Nat) (a2 : Int32) (a3 : Int32) (a10 : Int32) (a14 : Int32) (mem : kM) (R : kO × kM), m_law_law_518 xm N K23 a0 a1 a2 a3 a10 a14 mem = some R → kGo xm (kSm z) kDfl kFty kG 10 0 518 [(0, .ref a0), (1, .ref a1), (2, .int a2), (3, .int a3), (10, .int a10), (14, .int a14)] [] mem (dEq R) := by
  intro a0 a1 a2 a3 a10 a14 mem R h
  unfold m_law_law_518 at h
  refine wp_run 2 (pc' := 521) (lv' := [(0, .ref a0), (1, .ref a1), (2, .int a2), (3, .int a3), (10, .int a10), (14, .int a14)]) (st' := [.int 2, .int a10]) (mem' := mem) rfl ?_
  refine wq_le2 rfl h (fun h => ?_) (fun h => ?_)
  · refine wp_run 2 (pc' := 528) (lv' := [(0, .ref a0), (1, .ref a1), (2, .int a2), (3, .int a3), (10, .int a10), (14, .int a14)]) (st' := [.int 6, .int a10]) (mem' := mem) rfl ?_
    refine wq_ge2 rfl h (fun h => ?_) (fun h => ?_)
    · refine wp_run 3 (pc' := 535) (lv' := [(0, .ref a0), (1, .ref a1), (2, .int a2), (3, .int a3), (10, .int a10), (14, .int a14)]) (st' := [.int 3, .int a14, .ref a1]) (mem' := mem) rfl ?_
      obtain ⟨fk535, hk535, h⟩ := dRc_some h
      refine wq_cI rfl (kCall_v hk535 (as := [.int a14, .int 3]) (rest := []) ⟨by decide, rfl, (show 2 < 90 by decide), by decide⟩ (show 0 ≤ 8 by decide)) h (fun r hr => ca_up (by decide) (m_K_ofLoop_ok hz xm N hr)) (fun v535 m535 h => ?_)
      refine wp_run 1 (pc' := 539) (lv' := [(0, .ref a0), (1, .ref a1), (2, .int a2), (3, .int a3), (10, .int a10), (14, .int a14)]) (st' := [.int 1, .int v535]) (mem' := m535) rfl ?_
      refine wq_eq2 rfl h (fun h => ?_) (fun h => ?_)
      · refine kGo_sub (lvS_of [0, 1, 2, 3] rfl [0, 1, 2, 3, 10, 14] rfl (by decide)) ?_
        exact m_law_law_1303_ok hz xm N _ hK23 _ _ _ _ m535 R h
      · refine wp_run 1 (pc' := 543) (lv' := [(0, .ref a0), (1, .ref a1), (2, .int a2), (3, .int a3), (10, .int a10), (14, .int a14)]) (st' := [.int 0]) (mem' := m535) rfl ?_
        exact wq_ret rfl rfl h
    · refine kGo_sub (lvS_of [0, 1, 2, 3] rfl [0, 1, 2, 3, 10, 14] rfl (by decide)) ?_
      exact m_law_law_1303_ok hz xm N _ hK23 _ _ _ _ mem R h
  · refine kGo_sub (lvS_of [0, 1, 2, 3] rfl [0, 1, 2, 3, 10, 14] rfl (by decide)) ?_
    exact m_law_law_1303_ok hz xm N _ hK23 _ _ _ _ mem R h
def m_law_law_492 (xm : Nat → Option kE) (N : Nat) (K23 : Nat → Nat → Int32 → Int32 → kM → dRes) (a0 : Nat) (a1 : Nat) (a2 : Int32) (a3 : Int32) (a9 : Int32) (a10 : Int32) (a11 : Nat) (a14 : Int32) (mem : kM) : dRes :=
  if a10 < 6 then (
    dIL xm 0 mem a11 a10 fun v503 =>
    if 0 < v503 then (
      dRc xm mem a1 11 <|
      dCI (m_K_ofLoop xm N a1 a9 5 mem) fun v511 m511 =>
      if v511 = 2 then (
        m_law_law_518 xm N K23 a0 a1 a2 a3 a10 a14 m511
      ) else (
        some (.inl (some (.int 0)), m511)
      )
    ) else (
      m_law_law_518 xm N K23 a0 a1 a2 a3 a10 a14 mem
    )
  ) else (
    m_law_law_518 xm N K23 a0 a1 a2 a3 a10 a14 mem
  )
theorem m_law_law_492_ok (hz : z.category = 1) (xm : Nat → Option kE) (N : Nat) (K23 : Nat → Nat → Int32 → Int32 → kM → dRes) (hK23 : ∀ (a0 : Nat) (a1 : Nat) (a2 : Int32) (a3 : Int32) (mem : kM) (R : kO × kM), K23 a0 a1 a2 a3 mem = some R → kGo xm (kSm z) kDfl kFty kG 10 0 23 [(0, .ref a0), (1, .ref a1), (2, .int a2), (3, .int a3)] [] mem (dEq R)) : ∀ (a0 : Nat) (a1 : Nat) (a2 : Int32) (a3 : Int32) (a9 : Int32) (a10 : Int32) (a11 : Nat) (a14 : Int32) (mem : kM) (R : kO × kM), m_law_law_492 xm N K23 a0 a1 a2 a3 a9 a10 a11 a14 mem = some R → kGo xm (kSm z) kDfl kFty kG 10 0 492 [(0, .ref a0), (1, .ref a1), (2, .int a2), (3, .int a3), (9, .int a9), (10, .int a10), (11, .ref a11), (14, .int a14)] [] mem (dEq R) := by
  intro a0 a1 a2 a3 a9 a10 a11 a14 mem R h
  unfold m_law_law_492 at h
  refine wp_run 2 (pc' := 496) (lv' := [(0, .ref a0), (1, .ref a1), (2, .int a2), (3, .int a3), (9, .int a9), (10, .int a10), (11, .ref a11), (14, .int a14)]) (st' := [.int 6, .int a10]) (mem' := mem) rfl ?_
  refine wq_ge2 rfl h (fun h => ?_) (fun h => ?_)
  · refine wp_run 2 (pc' := 503) (lv' := [(0, .ref a0), (1, .ref a1), (2, .int a2), (3, .int a3), (9, .int a9), (10, .int a10), (11, .ref a11), (14, .int a14)]) (st' := [.int a10, .ref a11]) (mem' := mem) rfl ?_
    refine wq_iL rfl h (fun v503 h => ?_)
    refine wq_le rfl h (fun h => ?_) (fun h => ?_)
    · refine wp_run 3 (pc' := 511) (lv' := [(0, .ref a0), (1, .ref a1), (2, .int a2), (3, .int a3), (9, .int a9), (10, .int a10), (11, .ref a11), (14, .int a14)]) (st' := [.int 5, .int a9, .ref a1]) (mem' := mem) rfl ?_
      obtain ⟨fk511, hk511, h⟩ := dRc_some h
      refine wq_cI rfl (kCall_v hk511 (as := [.int a9, .int 5]) (rest := []) ⟨by decide, rfl, (show 2 < 90 by decide), by decide⟩ (show 0 ≤ 8 by decide)) h (fun r hr => ca_up (by decide) (m_K_ofLoop_ok hz xm N hr)) (fun v511 m511 h => ?_)
      refine wp_run 1 (pc' := 515) (lv' := [(0, .ref a0), (1, .ref a1), (2, .int a2), (3, .int a3), (9, .int a9), (10, .int a10), (11, .ref a11), (14, .int a14)]) (st' := [.int 2, .int v511]) (mem' := m511) rfl ?_
      refine wq_ne2 rfl h (fun h => ?_) (fun h => ?_)
      · refine kGo_sub (lvS_of [0, 1, 2, 3, 5, 7] rfl [0, 1, 2, 3, 9, 10, 11, 14] rfl (by decide)) ?_
        exact m_law_law_518_ok hz xm N _ hK23 _ _ _ _ _ _ m511 R h
      · refine wp_run 1 (pc' := 543) (lv' := [(0, .ref a0), (1, .ref a1), (2, .int a2), (3, .int a3), (9, .int a9), (10, .int a10), (11, .ref a11), (14, .int a14)]) (st' := [.int 0]) (mem' := m511) rfl ?_
        exact wq_ret rfl rfl h
    · refine kGo_sub (lvS_of [0, 1, 2, 3, 5, 7] rfl [0, 1, 2, 3, 9, 10, 11, 14] rfl (by decide)) ?_
      exact m_law_law_518_ok hz xm N _ hK23 _ _ _ _ _ _ mem R h
  · refine kGo_sub (lvS_of [0, 1, 2, 3, 5, 7] rfl [0, 1, 2, 3, 9, 10, 11, 14] rfl (by decide)) ?_
    exact m_law_law_518_ok hz xm N _ hK23 _ _ _ _ _ _ mem R h
def m_law_law_467 (xm : Nat → Option kE) (N : Nat) (K23 : Nat → Nat → Int32 → Int32 → kM → dRes) (a0 : Nat) (a1 : Nat) (a2 : Int32) (a3 : Int32) (a9 : Int32) (a10 : Int32) (a11 : Nat) (a14 : Int32) (mem : kM) : dRes :=
  if a10 < 3 then (
    dRc xm mem a1 11 <|
    dCI (m_K_ofLoop xm N a1 a14 3 mem) fun v477 m477 =>
    dRc xm m477 a1 11 <|
    dCI (m_K_ofLoop xm N a1 a9 3 m477) fun v484 m484 =>
    if v477 = (v484 + 1) then (
      m_law_law_492 xm N K23 a0 a1 a2 a3 a9 a10 a11 a14 m484
    ) else (
      some (.inl (some (.int 0)), m484)
    )
  ) else (
    m_law_law_492 xm N K23 a0 a1 a2 a3 a9 a10 a11 a14 mem
  )
theorem m_law_law_467_ok (hz : z.category = 1) (xm : Nat → Option kE) (N : Nat) (K23 : Nat → Nat → Int32 → Int32 → kM → dRes) (hK23 : ∀ (a0 : Nat) (a1 : Nat) (a2 : Int32) (a3 : Int32) (mem : kM) (R : kO × kM), K23 a0 a1 a2 a3 mem = some R → kGo xm (kSm z) kDfl kFty kG 10 0 23 [(0, .ref a0), (1, .ref a1), (2, .int a2), (3, .int a3)] [] mem (dEq R)) : ∀ (a0 : Nat) (a1 : Nat) (a2 : Int32) (a3 : Int32) (a9 : Int32) (a10 : Int32) (a11 : Nat) (a14 : Int32) (mem : kM) (R : kO × kM), m_law_law_467 xm N K23 a0 a1 a2 a3 a9 a10 a11 a14 mem = some R → kGo xm (kSm z) kDfl kFty kG 10 0 467 [(0, .ref a0), (1, .ref a1), (2, .int a2), (3, .int a3), (9, .int a9), (10, .int a10), (11, .ref a11), (14, .int a14)] [] mem (dEq R) := by
  intro a0 a1 a2 a3 a9 a10 a11 a14 mem R h
  unfold m_law_law_467 at h
  refine wp_run 2 (pc' := 470) (lv' := [(0, .ref a0), (1, .ref a1), (2, .int a2), (3, .int a3), (9, .int a9), (10, .int a10), (11, .ref a11), (14, .int a14)]) (st' := [.int 3, .int a10]) (mem' := mem) rfl ?_
  refine wq_ge2 rfl h (fun h => ?_) (fun h => ?_)
  · refine wp_run 3 (pc' := 477) (lv' := [(0, .ref a0), (1, .ref a1), (2, .int a2), (3, .int a3), (9, .int a9), (10, .int a10), (11, .ref a11), (14, .int a14)]) (st' := [.int 3, .int a14, .ref a1]) (mem' := mem) rfl ?_
    obtain ⟨fk477, hk477, h⟩ := dRc_some h
    refine wq_cI rfl (kCall_v hk477 (as := [.int a14, .int 3]) (rest := []) ⟨by decide, rfl, (show 2 < 90 by decide), by decide⟩ (show 0 ≤ 8 by decide)) h (fun r hr => ca_up (by decide) (m_K_ofLoop_ok hz xm N hr)) (fun v477 m477 h => ?_)
    refine wp_run 3 (pc' := 484) (lv' := [(0, .ref a0), (1, .ref a1), (2, .int a2), (3, .int a3), (9, .int a9), (10, .int a10), (11, .ref a11), (14, .int a14)]) (st' := [.int 3, .int a9, .ref a1, .int v477]) (mem' := m477) rfl ?_
    obtain ⟨fk484, hk484, h⟩ := dRc_some h
    refine wq_cI rfl (kCall_v hk484 (as := [.int a9, .int 3]) (rest := [.int v477]) ⟨by decide, rfl, (show 2 < 90 by decide), by decide⟩ (show 1 ≤ 8 by decide)) h (fun r hr => ca_up (by decide) (m_K_ofLoop_ok hz xm N hr)) (fun v484 m484 h => ?_)
    refine wp_run 2 (pc' := 489) (lv' := [(0, .ref a0), (1, .ref a1), (2, .int a2), (3, .int a3), (9, .int a9), (10, .int a10), (11, .ref a11), (14, .int a14)]) (st' := [.int (v484 + 1), .int v477]) (mem' := m484) rfl ?_
    refine wq_ne2 rfl h (fun h => ?_) (fun h => ?_)
    · exact m_law_law_492_ok hz xm N _ hK23 _ _ _ _ _ _ _ _ m484 R h
    · refine wp_run 1 (pc' := 543) (lv' := [(0, .ref a0), (1, .ref a1), (2, .int a2), (3, .int a3), (9, .int a9), (10, .int a10), (11, .ref a11), (14, .int a14)]) (st' := [.int 0]) (mem' := m484) rfl ?_
      exact wq_ret rfl rfl h
  · exact m_law_law_492_ok hz xm N _ hK23 _ _ _ _ _ _ _ _ mem R h
def m_law_law_367 (xm : Nat → Option kE) (N : Nat) (K23 : Nat → Nat → Int32 → Int32 → kM → dRes) (a0 : Nat) (a1 : Nat) (a2 : Int32) (a3 : Int32) (a8 : Int32) (a9 : Int32) (a10 : Int32) (a11 : Nat) (a13 : Int32) (mem : kM) : dRes :=
  if a13 = 0 then (
    m_law_law_1303 xm N K23 a0 a1 a2 a3 mem
  ) else (
    dRc xm mem a1 11 <|
    dCI (m_K_on xm N a1 1 0 mem) fun v378 m378 =>
    if a10 = 6 then (
      if v378 = a9 then (
        m_law_law_467 xm N K23 a0 a1 a2 a3 a9 a10 a11 v378 m378
      ) else (
        some (.inl (some (.int 0)), m378)
      )
    ) else (
      if v378 = a8 then (
        dRc xm m378 a1 11 <|
        dCI (m_K_ofLoop xm N a1 v378 0 m378) fun v411 m411 =>
        if v411 = a10 then (
          dRc xm m411 a1 11 <|
          dCI (m_K_ofLoop xm N a1 v378 4 m411) fun v423 m423 =>
          dIL xm 0 m423 a11 a10 fun v430 =>
          if v423 = v430 then (
            dRc xm m423 a1 11 <|
            dCI (m_K_ofLoop xm N a1 v378 2 m423) fun v438 m438 =>
            dRc xm m438 a1 11 <|
            dCI (m_K_many xm N a1 6 m438) fun v444 m444 =>
            if v438 = v444 then (
              dRc xm m444 a1 11 <|
              dCI (m_K_ofLoop xm N a1 v378 1 m444) fun v454 m454 =>
              dRc xm m454 a1 11 <|
              dCI (m_K_many xm N a1 2 m454) fun v459 m459 =>
              if v454 = v459 then (
                m_law_law_467 xm N K23 a0 a1 a2 a3 a9 a10 a11 v378 m459
              ) else (
                some (.inl (some (.int 0)), m459)
              )
            ) else (
              some (.inl (some (.int 0)), m444)
            )
          ) else (
            some (.inl (some (.int 0)), m423)
          )
        ) else (
          some (.inl (some (.int 0)), m411)
        )
      ) else (
        some (.inl (some (.int 0)), m378)
      )
    )
  )
theorem m_law_law_367_ok (hz : z.category = 1) (xm : Nat → Option kE) (N : Nat) (K23 : Nat → Nat → Int32 → Int32 → kM → dRes) (hK23 : ∀ (a0 : Nat) (a1 : Nat) (a2 : Int32) (a3 : Int32) (mem : kM) (R : kO × kM), K23 a0 a1 a2 a3 mem = some R → kGo xm (kSm z) kDfl kFty kG 10 0 23 [(0, .ref a0), (1, .ref a1), (2, .int a2), (3, .int a3)] [] mem (dEq R)) : ∀ (a0 : Nat) (a1 : Nat) (a2 : Int32) (a3 : Int32) (a8 : Int32) (a9 : Int32) (a10 : Int32) (a11 : Nat) (a13 : Int32) (mem : kM) (R : kO × kM), m_law_law_367 xm N K23 a0 a1 a2 a3 a8 a9 a10 a11 a13 mem = some R → kGo xm (kSm z) kDfl kFty kG 10 0 367 [(0, .ref a0), (1, .ref a1), (2, .int a2), (3, .int a3), (8, .int a8), (9, .int a9), (10, .int a10), (11, .ref a11), (13, .int a13)] [] mem (dEq R) := by
  intro a0 a1 a2 a3 a8 a9 a10 a11 a13 mem R h
  unfold m_law_law_367 at h
  refine wp_run 1 (pc' := 369) (lv' := [(0, .ref a0), (1, .ref a1), (2, .int a2), (3, .int a3), (8, .int a8), (9, .int a9), (10, .int a10), (11, .ref a11), (13, .int a13)]) (st' := [.int a13]) (mem' := mem) rfl ?_
  refine wq_ne rfl h (fun h => ?_) (fun h => ?_)
  · refine wp_run 1 (pc' := 1303) (lv' := [(0, .ref a0), (1, .ref a1), (2, .int a2), (3, .int a3), (8, .int a8), (9, .int a9), (10, .int a10), (11, .ref a11), (13, .int a13)]) (st' := []) (mem' := mem) rfl ?_
    refine kGo_sub (lvS_of [0, 1, 2, 3] rfl [0, 1, 2, 3, 8, 9, 10, 11, 13] rfl (by decide)) ?_
    exact m_law_law_1303_ok hz xm N _ hK23 _ _ _ _ mem R h
  · refine wp_run 3 (pc' := 378) (lv' := [(0, .ref a0), (1, .ref a1), (2, .int a2), (3, .int a3), (8, .int a8), (9, .int a9), (10, .int a10), (11, .ref a11), (13, .int a13)]) (st' := [.int 0, .int 1, .ref a1]) (mem' := mem) rfl ?_
    obtain ⟨fk378, hk378, h⟩ := dRc_some h
    refine wq_cI rfl (kCall_v hk378 (as := [.int 1, .int 0]) (rest := []) ⟨by decide, rfl, (show 2 < 90 by decide), by decide⟩ (show 0 ≤ 8 by decide)) h (fun r hr => ca_up (by decide) (m_K_on_ok hz xm N hr)) (fun v378 m378 h => ?_)
    refine wp_run 3 (pc' := 387) (lv' := [(14, .int v378), (0, .ref a0), (1, .ref a1), (2, .int a2), (3, .int a3), (8, .int a8), (9, .int a9), (10, .int a10), (11, .ref a11), (13, .int a13)]) (st' := [.int 6, .int a10]) (mem' := m378) rfl ?_
    refine wq_ne2 rfl h (fun h => ?_) (fun h => ?_)
    · refine wp_run 2 (pc' := 394) (lv' := [(14, .int v378), (0, .ref a0), (1, .ref a1), (2, .int a2), (3, .int a3), (8, .int a8), (9, .int a9), (10, .int a10), (11, .ref a11), (13, .int a13)]) (st' := [.int a9, .int v378]) (mem' := m378) rfl ?_
      refine wq_eq2 rfl h (fun h => ?_) (fun h => ?_)
      · refine kGo_sub (lvS_of [1, 2, 3, 4, 6, 7, 8, 0] rfl [14, 0, 1, 2, 3, 8, 9, 10, 11, 13] rfl (by decide)) ?_
        exact m_law_law_467_ok hz xm N _ hK23 _ _ _ _ _ _ _ _ m378 R h
      · refine wp_run 2 (pc' := 466) (lv' := [(14, .int v378), (0, .ref a0), (1, .ref a1), (2, .int a2), (3, .int a3), (8, .int a8), (9, .int a9), (10, .int a10), (11, .ref a11), (13, .int a13)]) (st' := [.int 0]) (mem' := m378) rfl ?_
        exact wq_ret rfl rfl h
    · refine wp_run 2 (pc' := 404) (lv' := [(14, .int v378), (0, .ref a0), (1, .ref a1), (2, .int a2), (3, .int a3), (8, .int a8), (9, .int a9), (10, .int a10), (11, .ref a11), (13, .int a13)]) (st' := [.int a8, .int v378]) (mem' := m378) rfl ?_
      refine wq_ne2 rfl h (fun h => ?_) (fun h => ?_)
      · refine wp_run 3 (pc' := 411) (lv' := [(14, .int v378), (0, .ref a0), (1, .ref a1), (2, .int a2), (3, .int a3), (8, .int a8), (9, .int a9), (10, .int a10), (11, .ref a11), (13, .int a13)]) (st' := [.int 0, .int v378, .ref a1]) (mem' := m378) rfl ?_
        obtain ⟨fk411, hk411, h⟩ := dRc_some h
        refine wq_cI rfl (kCall_v hk411 (as := [.int v378, .int 0]) (rest := []) ⟨by decide, rfl, (show 2 < 90 by decide), by decide⟩ (show 0 ≤ 8 by decide)) h (fun r hr => ca_up (by decide) (m_K_ofLoop_ok hz xm N hr)) (fun v411 m411 h => ?_)
        refine wp_run 1 (pc' := 416) (lv' := [(14, .int v378), (0, .ref a0), (1, .ref a1), (2, .int a2), (3, .int a3), (8, .int a8), (9, .int a9), (10, .int a10), (11, .ref a11), (13, .int a13)]) (st' := [.int a10, .int v411]) (mem' := m411) rfl ?_
        refine wq_ne2 rfl h (fun h => ?_) (fun h => ?_)
        · refine wp_run 3 (pc' := 423) (lv' := [(14, .int v378), (0, .ref a0), (1, .ref a1), (2, .int a2), (3, .int a3), (8, .int a8), (9, .int a9), (10, .int a10), (11, .ref a11), (13, .int a13)]) (st' := [.int 4, .int v378, .ref a1]) (mem' := m411) rfl ?_
          obtain ⟨fk423, hk423, h⟩ := dRc_some h
          refine wq_cI rfl (kCall_v hk423 (as := [.int v378, .int 4]) (rest := []) ⟨by decide, rfl, (show 2 < 90 by decide), by decide⟩ (show 0 ≤ 8 by decide)) h (fun r hr => ca_up (by decide) (m_K_ofLoop_ok hz xm N hr)) (fun v423 m423 h => ?_)
          refine wp_run 2 (pc' := 430) (lv' := [(14, .int v378), (0, .ref a0), (1, .ref a1), (2, .int a2), (3, .int a3), (8, .int a8), (9, .int a9), (10, .int a10), (11, .ref a11), (13, .int a13)]) (st' := [.int a10, .ref a11, .int v423]) (mem' := m423) rfl ?_
          refine wq_iL rfl h (fun v430 h => ?_)
          refine wq_ne2 rfl h (fun h => ?_) (fun h => ?_)
          · refine wp_run 3 (pc' := 438) (lv' := [(14, .int v378), (0, .ref a0), (1, .ref a1), (2, .int a2), (3, .int a3), (8, .int a8), (9, .int a9), (10, .int a10), (11, .ref a11), (13, .int a13)]) (st' := [.int 2, .int v378, .ref a1]) (mem' := m423) rfl ?_
            obtain ⟨fk438, hk438, h⟩ := dRc_some h
            refine wq_cI rfl (kCall_v hk438 (as := [.int v378, .int 2]) (rest := []) ⟨by decide, rfl, (show 2 < 90 by decide), by decide⟩ (show 0 ≤ 8 by decide)) h (fun r hr => ca_up (by decide) (m_K_ofLoop_ok hz xm N hr)) (fun v438 m438 h => ?_)
            refine wp_run 2 (pc' := 444) (lv' := [(14, .int v378), (0, .ref a0), (1, .ref a1), (2, .int a2), (3, .int a3), (8, .int a8), (9, .int a9), (10, .int a10), (11, .ref a11), (13, .int a13)]) (st' := [.int 6, .ref a1, .int v438]) (mem' := m438) rfl ?_
            obtain ⟨fk444, hk444, h⟩ := dRc_some h
            refine wq_cI rfl (kCall_v hk444 (as := [.int 6]) (rest := [.int v438]) ⟨by decide, rfl, (show 1 < 90 by decide), by decide⟩ (show 1 ≤ 8 by decide)) h (fun r hr => ca_up (by decide) (m_K_many_ok hz xm N hr)) (fun v444 m444 h => ?_)
            refine wq_ne2 rfl h (fun h => ?_) (fun h => ?_)
            · refine wp_run 3 (pc' := 454) (lv' := [(14, .int v378), (0, .ref a0), (1, .ref a1), (2, .int a2), (3, .int a3), (8, .int a8), (9, .int a9), (10, .int a10), (11, .ref a11), (13, .int a13)]) (st' := [.int 1, .int v378, .ref a1]) (mem' := m444) rfl ?_
              obtain ⟨fk454, hk454, h⟩ := dRc_some h
              refine wq_cI rfl (kCall_v hk454 (as := [.int v378, .int 1]) (rest := []) ⟨by decide, rfl, (show 2 < 90 by decide), by decide⟩ (show 0 ≤ 8 by decide)) h (fun r hr => ca_up (by decide) (m_K_ofLoop_ok hz xm N hr)) (fun v454 m454 h => ?_)
              refine wp_run 2 (pc' := 459) (lv' := [(14, .int v378), (0, .ref a0), (1, .ref a1), (2, .int a2), (3, .int a3), (8, .int a8), (9, .int a9), (10, .int a10), (11, .ref a11), (13, .int a13)]) (st' := [.int 2, .ref a1, .int v454]) (mem' := m454) rfl ?_
              obtain ⟨fk459, hk459, h⟩ := dRc_some h
              refine wq_cI rfl (kCall_v hk459 (as := [.int 2]) (rest := [.int v454]) ⟨by decide, rfl, (show 1 < 90 by decide), by decide⟩ (show 1 ≤ 8 by decide)) h (fun r hr => ca_up (by decide) (m_K_many_ok hz xm N hr)) (fun v459 m459 h => ?_)
              refine wq_eq2 rfl h (fun h => ?_) (fun h => ?_)
              · refine kGo_sub (lvS_of [1, 2, 3, 4, 6, 7, 8, 0] rfl [14, 0, 1, 2, 3, 8, 9, 10, 11, 13] rfl (by decide)) ?_
                exact m_law_law_467_ok hz xm N _ hK23 _ _ _ _ _ _ _ _ m459 R h
              · refine wp_run 1 (pc' := 466) (lv' := [(14, .int v378), (0, .ref a0), (1, .ref a1), (2, .int a2), (3, .int a3), (8, .int a8), (9, .int a9), (10, .int a10), (11, .ref a11), (13, .int a13)]) (st' := [.int 0]) (mem' := m459) rfl ?_
                exact wq_ret rfl rfl h
            · refine wp_run 1 (pc' := 466) (lv' := [(14, .int v378), (0, .ref a0), (1, .ref a1), (2, .int a2), (3, .int a3), (8, .int a8), (9, .int a9), (10, .int a10), (11, .ref a11), (13, .int a13)]) (st' := [.int 0]) (mem' := m444) rfl ?_
              exact wq_ret rfl rfl h
          · refine wp_run 1 (pc' := 466) (lv' := [(14, .int v378), (0, .ref a0), (1, .ref a1), (2, .int a2), (3, .int a3), (8, .int a8), (9, .int a9), (10, .int a10), (11, .ref a11), (13, .int a13)]) (st' := [.int 0]) (mem' := m423) rfl ?_
            exact wq_ret rfl rfl h
        · refine wp_run 1 (pc' := 466) (lv' := [(14, .int v378), (0, .ref a0), (1, .ref a1), (2, .int a2), (3, .int a3), (8, .int a8), (9, .int a9), (10, .int a10), (11, .ref a11), (13, .int a13)]) (st' := [.int 0]) (mem' := m411) rfl ?_
          exact wq_ret rfl rfl h
      · refine wp_run 1 (pc' := 466) (lv' := [(14, .int v378), (0, .ref a0), (1, .ref a1), (2, .int a2), (3, .int a3), (8, .int a8), (9, .int a9), (10, .int a10), (11, .ref a11), (13, .int a13)]) (st' := [.int 0]) (mem' := m378) rfl ?_
        exact wq_ret rfl rfl h
def m_law_law_328 (xm : Nat → Option kE) (N : Nat) (K23 : Nat → Nat → Int32 → Int32 → kM → dRes) (a0 : Nat) (a1 : Nat) (a2 : Int32) (a3 : Int32) (a8 : Int32) (a9 : Int32) (a10 : Int32) (a11 : Nat) (a13 : Int32) (s0 : Int32) (s1 : Int32) (s2 : Int32) (mem : kM) : dRes :=
  if s0 = (s1 + s2) then (
    m_law_law_367 xm N K23 a0 a1 a2 a3 a8 a9 a10 a11 a13 mem
  ) else (
    some (.inl (some (.int 0)), mem)
  )
theorem m_law_law_328_ok (hz : z.category = 1) (xm : Nat → Option kE) (N : Nat) (K23 : Nat → Nat → Int32 → Int32 → kM → dRes) (hK23 : ∀ (a0 : Nat) (a1 : Nat) (a2 : Int32) (a3 : Int32) (mem : kM) (R : kO × kM), K23 a0 a1 a2 a3 mem = some R → kGo xm (kSm z) kDfl kFty kG 10 0 23 [(0, .ref a0), (1, .ref a1), (2, .int a2), (3, .int a3)] [] mem (dEq R)) : ∀ (a0 : Nat) (a1 : Nat) (a2 : Int32) (a3 : Int32) (a8 : Int32) (a9 : Int32) (a10 : Int32) (a11 : Nat) (a13 : Int32) (s0 : Int32) (s1 : Int32) (s2 : Int32) (mem : kM) (R : kO × kM), m_law_law_328 xm N K23 a0 a1 a2 a3 a8 a9 a10 a11 a13 s0 s1 s2 mem = some R → kGo xm (kSm z) kDfl kFty kG 10 0 328 [(0, .ref a0), (1, .ref a1), (2, .int a2), (3, .int a3), (8, .int a8), (9, .int a9), (10, .int a10), (11, .ref a11), (13, .int a13)] [.int s2, .int s1, .int s0] mem (dEq R) := by
  intro a0 a1 a2 a3 a8 a9 a10 a11 a13 s0 s1 s2 mem R h
  unfold m_law_law_328 at h
  refine wp_run 1 (pc' := 329) (lv' := [(0, .ref a0), (1, .ref a1), (2, .int a2), (3, .int a3), (8, .int a8), (9, .int a9), (10, .int a10), (11, .ref a11), (13, .int a13)]) (st' := [.int (s1 + s2), .int s0]) (mem' := mem) rfl ?_
  refine wq_eq2 rfl h (fun h => ?_) (fun h => ?_)
  · exact m_law_law_367_ok hz xm N _ hK23 _ _ _ _ _ _ _ _ _ mem R h
  · refine wp_run 2 (pc' := 366) (lv' := [(0, .ref a0), (1, .ref a1), (2, .int a2), (3, .int a3), (8, .int a8), (9, .int a9), (10, .int a10), (11, .ref a11), (13, .int a13)]) (st' := [.int 0]) (mem' := mem) rfl ?_
    exact wq_ret rfl rfl h
def m_law_law_168 (xm : Nat → Option kE) (N : Nat) (K23 : Nat → Nat → Int32 → Int32 → kM → dRes) (a0 : Nat) (a1 : Nat) (a2 : Int32) (a3 : Int32) (a4 : Int32) (a5 : Int32) (a6 : Int32) (a7 : Int32) (a8 : Int32) (a9 : Int32) (mem : kM) : dRes :=
  dCI (m_law_below xm N (a4 >>> (4 &&& 31)) 6 mem) fun v175 m175 =>
  dNI 0 m175 7 fun m183 p183 =>
  dIS xm m183 p183 0 0 fun m188 =>
  dIS xm m188 p183 1 1 fun m192 =>
  dIS xm m192 p183 2 1 fun m196 =>
  dIS xm m196 p183 3 0 fun m200 =>
  dIS xm m200 p183 4 2 fun m204 =>
  dIS xm m204 p183 5 2 fun m208 =>
  dIS xm m208 p183 6 1 fun m213 =>
  dNI 0 m213 7 fun m218 p218 =>
  dIS xm m218 p218 0 0 fun m223 =>
  dIS xm m223 p218 1 4 fun m227 =>
  dIS xm m227 p218 2 4 fun m231 =>
  dIS xm m231 p218 3 3 fun m235 =>
  dIS xm m235 p218 4 5 fun m239 =>
  dIS xm m239 p218 5 5 fun m243 =>
  dIS xm m243 p218 6 0 fun m248 =>
  dCI (m_law_step xm N a1 (1 + v175) m248) fun v254 m254 =>
  if v254 = 0 then (
    dRc xm m254 a1 11 <|
    dCI (m_K_many xm N a1 1 m254) fun v337 m337 =>
    if v337 = a5 then (
      dRc xm m337 a1 11 <|
      dCI (m_K_many xm N a1 3 m337) fun v347 m347 =>
      if v347 = a6 then (
        dRc xm m347 a1 11 <|
        dCI (m_K_many xm N a1 4 m347) fun v357 m357 =>
        if v357 = a7 then (
          m_law_law_367 xm N K23 a0 a1 a2 a3 a8 a9 (1 + v175) p183 v254 m357
        ) else (
          some (.inl (some (.int 0)), m357)
        )
      ) else (
        some (.inl (some (.int 0)), m347)
      )
    ) else (
      some (.inl (some (.int 0)), m337)
    )
  ) else (
    dRc xm m254 a1 11 <|
    dCI (m_K_many xm N a1 3 m254) fun v266 m266 =>
    dIL xm 0 m266 p183 (1 + v175) fun v275 =>
    if v266 = (a6 - v275) then (
      dRc xm m266 a1 11 <|
      dCI (m_K_many xm N a1 4 m266) fun v282 m282 =>
      if v282 = (a7 + 1) then (
        dRc xm m282 a1 11 <|
        dCI (m_K_many xm N a1 1 m282) fun v294 m294 =>
        dIL xm 0 m294 p218 (1 + v175) fun v303 =>
        if v294 = (a5 - v303) then (
          dRc xm m294 a1 11 <|
          dCI (m_K_many xm N a1 7 m294) fun v311 m311 =>
          if (1 + v175) = 6 then (
            m_law_law_328 xm N K23 a0 a1 a2 a3 a8 a9 (1 + v175) p183 v254 v311 a8 0 m311
          ) else (
            m_law_law_328 xm N K23 a0 a1 a2 a3 a8 a9 (1 + v175) p183 v254 v311 a8 1 m311
          )
        ) else (
          some (.inl (some (.int 0)), m294)
        )
      ) else (
        some (.inl (some (.int 0)), m282)
      )
    ) else (
      some (.inl (some (.int 0)), m266)
    )
  )
theorem m_law_law_168_ok (hz : z.category = 1) (xm : Nat → Option kE) (N : Nat) (K23 : Nat → Nat → Int32 → Int32 → kM → dRes) (hK23 : ∀ (a0 : Nat) (a1 : Nat) (a2 : Int32) (a3 : Int32) (mem : kM) (R : kO × kM), K23 a0 a1 a2 a3 mem = some R → kGo xm (kSm z) kDfl kFty kG 10 0 23 [(0, .ref a0), (1, .ref a1), (2, .int a2), (3, .int a3)] [] mem (dEq R)) : ∀ (a0 : Nat) (a1 : Nat) (a2 : Int32) (a3 : Int32) (a4 : Int32) (a5 : Int32) (a6 : Int32) (a7 : Int32) (a8 : Int32) (a9 : Int32) (mem : kM) (R : kO × kM), m_law_law_168 xm N K23 a0 a1 a2 a3 a4 a5 a6 a7 a8 a9 mem = some R → kGo xm (kSm z) kDfl kFty kG 10 0 168 [(0, .ref a0), (1, .ref a1), (2, .int a2), (3, .int a3), (4, .int a4), (5, .int a5), (6, .int a6), (7, .int a7), (8, .int a8), (9, .int a9)] [] mem (dEq R) := by
  intro a0 a1 a2 a3 a4 a5 a6 a7 a8 a9 mem R h
  unfold m_law_law_168 at h
  refine wp_run 5 (pc' := 175) (lv' := [(0, .ref a0), (1, .ref a1), (2, .int a2), (3, .int a3), (4, .int a4), (5, .int a5), (6, .int a6), (7, .int a7), (8, .int a8), (9, .int a9)]) (st' := [.int 6, .int (a4 >>> (4 &&& 31)), .int 1]) (mem' := mem) rfl ?_
  refine wq_cI rfl (kCall_s (as := [.int (a4 >>> (4 &&& 31)), .int 6]) (rest := [.int 1]) ⟨by decide, rfl⟩ (show 1 ≤ 8 by decide) (by decide)) h (fun r hr => ca_up (by decide) (m_law_below_ok hz xm N hr)) (fun v175 m175 h => ?_)
  refine wp_run 3 (pc' := 183) (lv' := [(10, .int (1 + v175)), (0, .ref a0), (1, .ref a1), (2, .int a2), (3, .int a3), (4, .int a4), (5, .int a5), (6, .int a6), (7, .int a7), (8, .int a8), (9, .int a9)]) (st' := [.int 7]) (mem' := m175) rfl ?_
  refine wq_nI rfl rfl h (fun m183 p183 h => ?_)
  refine wp_run 3 (pc' := 188) (lv' := [(10, .int (1 + v175)), (0, .ref a0), (1, .ref a1), (2, .int a2), (3, .int a3), (4, .int a4), (5, .int a5), (6, .int a6), (7, .int a7), (8, .int a8), (9, .int a9)]) (st' := [.int 0, .int 0, .ref p183, .ref p183]) (mem' := m183) rfl ?_
  refine wq_iS rfl h (fun m188 h => ?_)
  refine wp_run 3 (pc' := 192) (lv' := [(10, .int (1 + v175)), (0, .ref a0), (1, .ref a1), (2, .int a2), (3, .int a3), (4, .int a4), (5, .int a5), (6, .int a6), (7, .int a7), (8, .int a8), (9, .int a9)]) (st' := [.int 1, .int 1, .ref p183, .ref p183]) (mem' := m188) rfl ?_
  refine wq_iS rfl h (fun m192 h => ?_)
  refine wp_run 3 (pc' := 196) (lv' := [(10, .int (1 + v175)), (0, .ref a0), (1, .ref a1), (2, .int a2), (3, .int a3), (4, .int a4), (5, .int a5), (6, .int a6), (7, .int a7), (8, .int a8), (9, .int a9)]) (st' := [.int 1, .int 2, .ref p183, .ref p183]) (mem' := m192) rfl ?_
  refine wq_iS rfl h (fun m196 h => ?_)
  refine wp_run 3 (pc' := 200) (lv' := [(10, .int (1 + v175)), (0, .ref a0), (1, .ref a1), (2, .int a2), (3, .int a3), (4, .int a4), (5, .int a5), (6, .int a6), (7, .int a7), (8, .int a8), (9, .int a9)]) (st' := [.int 0, .int 3, .ref p183, .ref p183]) (mem' := m196) rfl ?_
  refine wq_iS rfl h (fun m200 h => ?_)
  refine wp_run 3 (pc' := 204) (lv' := [(10, .int (1 + v175)), (0, .ref a0), (1, .ref a1), (2, .int a2), (3, .int a3), (4, .int a4), (5, .int a5), (6, .int a6), (7, .int a7), (8, .int a8), (9, .int a9)]) (st' := [.int 2, .int 4, .ref p183, .ref p183]) (mem' := m200) rfl ?_
  refine wq_iS rfl h (fun m204 h => ?_)
  refine wp_run 3 (pc' := 208) (lv' := [(10, .int (1 + v175)), (0, .ref a0), (1, .ref a1), (2, .int a2), (3, .int a3), (4, .int a4), (5, .int a5), (6, .int a6), (7, .int a7), (8, .int a8), (9, .int a9)]) (st' := [.int 2, .int 5, .ref p183, .ref p183]) (mem' := m204) rfl ?_
  refine wq_iS rfl h (fun m208 h => ?_)
  refine wp_run 3 (pc' := 213) (lv' := [(10, .int (1 + v175)), (0, .ref a0), (1, .ref a1), (2, .int a2), (3, .int a3), (4, .int a4), (5, .int a5), (6, .int a6), (7, .int a7), (8, .int a8), (9, .int a9)]) (st' := [.int 1, .int 6, .ref p183, .ref p183]) (mem' := m208) rfl ?_
  refine wq_iS rfl h (fun m213 h => ?_)
  refine wp_run 2 (pc' := 218) (lv' := [(11, .ref p183), (10, .int (1 + v175)), (0, .ref a0), (1, .ref a1), (2, .int a2), (3, .int a3), (4, .int a4), (5, .int a5), (6, .int a6), (7, .int a7), (8, .int a8), (9, .int a9)]) (st' := [.int 7]) (mem' := m213) rfl ?_
  refine wq_nI rfl rfl h (fun m218 p218 h => ?_)
  refine wp_run 3 (pc' := 223) (lv' := [(11, .ref p183), (10, .int (1 + v175)), (0, .ref a0), (1, .ref a1), (2, .int a2), (3, .int a3), (4, .int a4), (5, .int a5), (6, .int a6), (7, .int a7), (8, .int a8), (9, .int a9)]) (st' := [.int 0, .int 0, .ref p218, .ref p218]) (mem' := m218) rfl ?_
  refine wq_iS rfl h (fun m223 h => ?_)
  refine wp_run 3 (pc' := 227) (lv' := [(11, .ref p183), (10, .int (1 + v175)), (0, .ref a0), (1, .ref a1), (2, .int a2), (3, .int a3), (4, .int a4), (5, .int a5), (6, .int a6), (7, .int a7), (8, .int a8), (9, .int a9)]) (st' := [.int 4, .int 1, .ref p218, .ref p218]) (mem' := m223) rfl ?_
  refine wq_iS rfl h (fun m227 h => ?_)
  refine wp_run 3 (pc' := 231) (lv' := [(11, .ref p183), (10, .int (1 + v175)), (0, .ref a0), (1, .ref a1), (2, .int a2), (3, .int a3), (4, .int a4), (5, .int a5), (6, .int a6), (7, .int a7), (8, .int a8), (9, .int a9)]) (st' := [.int 4, .int 2, .ref p218, .ref p218]) (mem' := m227) rfl ?_
  refine wq_iS rfl h (fun m231 h => ?_)
  refine wp_run 3 (pc' := 235) (lv' := [(11, .ref p183), (10, .int (1 + v175)), (0, .ref a0), (1, .ref a1), (2, .int a2), (3, .int a3), (4, .int a4), (5, .int a5), (6, .int a6), (7, .int a7), (8, .int a8), (9, .int a9)]) (st' := [.int 3, .int 3, .ref p218, .ref p218]) (mem' := m231) rfl ?_
  refine wq_iS rfl h (fun m235 h => ?_)
  refine wp_run 3 (pc' := 239) (lv' := [(11, .ref p183), (10, .int (1 + v175)), (0, .ref a0), (1, .ref a1), (2, .int a2), (3, .int a3), (4, .int a4), (5, .int a5), (6, .int a6), (7, .int a7), (8, .int a8), (9, .int a9)]) (st' := [.int 5, .int 4, .ref p218, .ref p218]) (mem' := m235) rfl ?_
  refine wq_iS rfl h (fun m239 h => ?_)
  refine wp_run 3 (pc' := 243) (lv' := [(11, .ref p183), (10, .int (1 + v175)), (0, .ref a0), (1, .ref a1), (2, .int a2), (3, .int a3), (4, .int a4), (5, .int a5), (6, .int a6), (7, .int a7), (8, .int a8), (9, .int a9)]) (st' := [.int 5, .int 5, .ref p218, .ref p218]) (mem' := m239) rfl ?_
  refine wq_iS rfl h (fun m243 h => ?_)
  refine wp_run 3 (pc' := 248) (lv' := [(11, .ref p183), (10, .int (1 + v175)), (0, .ref a0), (1, .ref a1), (2, .int a2), (3, .int a3), (4, .int a4), (5, .int a5), (6, .int a6), (7, .int a7), (8, .int a8), (9, .int a9)]) (st' := [.int 0, .int 6, .ref p218, .ref p218]) (mem' := m243) rfl ?_
  refine wq_iS rfl h (fun m248 h => ?_)
  refine wp_run 3 (pc' := 254) (lv' := [(12, .ref p218), (11, .ref p183), (10, .int (1 + v175)), (0, .ref a0), (1, .ref a1), (2, .int a2), (3, .int a3), (4, .int a4), (5, .int a5), (6, .int a6), (7, .int a7), (8, .int a8), (9, .int a9)]) (st' := [.int (1 + v175), .ref a1]) (mem' := m248) rfl ?_
  refine wq_cI rfl (kCall_s (as := [.ref a1, .int (1 + v175)]) (rest := []) ⟨by decide, rfl⟩ (show 0 ≤ 8 by decide) (by decide)) h (fun r hr => ca_up (by decide) (m_law_step_ok hz xm N hr)) (fun v254 m254 h => ?_)
  refine wp_run 2 (pc' := 261) (lv' := [(13, .int v254), (12, .ref p218), (11, .ref p183), (10, .int (1 + v175)), (0, .ref a0), (1, .ref a1), (2, .int a2), (3, .int a3), (4, .int a4), (5, .int a5), (6, .int a6), (7, .int a7), (8, .int a8), (9, .int a9)]) (st' := [.int v254]) (mem' := m254) rfl ?_
  refine wq_eq rfl h (fun h => ?_) (fun h => ?_)
  · refine wp_run 2 (pc' := 337) (lv' := [(13, .int v254), (12, .ref p218), (11, .ref p183), (10, .int (1 + v175)), (0, .ref a0), (1, .ref a1), (2, .int a2), (3, .int a3), (4, .int a4), (5, .int a5), (6, .int a6), (7, .int a7), (8, .int a8), (9, .int a9)]) (st' := [.int 1, .ref a1]) (mem' := m254) rfl ?_
    obtain ⟨fk337, hk337, h⟩ := dRc_some h
    refine wq_cI rfl (kCall_v hk337 (as := [.int 1]) (rest := []) ⟨by decide, rfl, (show 1 < 90 by decide), by decide⟩ (show 0 ≤ 8 by decide)) h (fun r hr => ca_up (by decide) (m_K_many_ok hz xm N hr)) (fun v337 m337 h => ?_)
    refine wp_run 1 (pc' := 342) (lv' := [(13, .int v254), (12, .ref p218), (11, .ref p183), (10, .int (1 + v175)), (0, .ref a0), (1, .ref a1), (2, .int a2), (3, .int a3), (4, .int a4), (5, .int a5), (6, .int a6), (7, .int a7), (8, .int a8), (9, .int a9)]) (st' := [.int a5, .int v337]) (mem' := m337) rfl ?_
    refine wq_ne2 rfl h (fun h => ?_) (fun h => ?_)
    · refine wp_run 2 (pc' := 347) (lv' := [(13, .int v254), (12, .ref p218), (11, .ref p183), (10, .int (1 + v175)), (0, .ref a0), (1, .ref a1), (2, .int a2), (3, .int a3), (4, .int a4), (5, .int a5), (6, .int a6), (7, .int a7), (8, .int a8), (9, .int a9)]) (st' := [.int 3, .ref a1]) (mem' := m337) rfl ?_
      obtain ⟨fk347, hk347, h⟩ := dRc_some h
      refine wq_cI rfl (kCall_v hk347 (as := [.int 3]) (rest := []) ⟨by decide, rfl, (show 1 < 90 by decide), by decide⟩ (show 0 ≤ 8 by decide)) h (fun r hr => ca_up (by decide) (m_K_many_ok hz xm N hr)) (fun v347 m347 h => ?_)
      refine wp_run 1 (pc' := 352) (lv' := [(13, .int v254), (12, .ref p218), (11, .ref p183), (10, .int (1 + v175)), (0, .ref a0), (1, .ref a1), (2, .int a2), (3, .int a3), (4, .int a4), (5, .int a5), (6, .int a6), (7, .int a7), (8, .int a8), (9, .int a9)]) (st' := [.int a6, .int v347]) (mem' := m347) rfl ?_
      refine wq_ne2 rfl h (fun h => ?_) (fun h => ?_)
      · refine wp_run 2 (pc' := 357) (lv' := [(13, .int v254), (12, .ref p218), (11, .ref p183), (10, .int (1 + v175)), (0, .ref a0), (1, .ref a1), (2, .int a2), (3, .int a3), (4, .int a4), (5, .int a5), (6, .int a6), (7, .int a7), (8, .int a8), (9, .int a9)]) (st' := [.int 4, .ref a1]) (mem' := m347) rfl ?_
        obtain ⟨fk357, hk357, h⟩ := dRc_some h
        refine wq_cI rfl (kCall_v hk357 (as := [.int 4]) (rest := []) ⟨by decide, rfl, (show 1 < 90 by decide), by decide⟩ (show 0 ≤ 8 by decide)) h (fun r hr => ca_up (by decide) (m_K_many_ok hz xm N hr)) (fun v357 m357 h => ?_)
        refine wp_run 1 (pc' := 362) (lv' := [(13, .int v254), (12, .ref p218), (11, .ref p183), (10, .int (1 + v175)), (0, .ref a0), (1, .ref a1), (2, .int a2), (3, .int a3), (4, .int a4), (5, .int a5), (6, .int a6), (7, .int a7), (8, .int a8), (9, .int a9)]) (st' := [.int a7, .int v357]) (mem' := m357) rfl ?_
        refine wq_eq2 rfl h (fun h => ?_) (fun h => ?_)
        · refine kGo_sub (lvS_of [4, 5, 6, 7, 12, 13, 3, 2, 0] rfl [13, 12, 11, 10, 0, 1, 2, 3, 4, 5, 6, 7, 8, 9] rfl (by decide)) ?_
          exact m_law_law_367_ok hz xm N _ hK23 _ _ _ _ _ _ _ _ _ m357 R h
        · refine wp_run 1 (pc' := 366) (lv' := [(13, .int v254), (12, .ref p218), (11, .ref p183), (10, .int (1 + v175)), (0, .ref a0), (1, .ref a1), (2, .int a2), (3, .int a3), (4, .int a4), (5, .int a5), (6, .int a6), (7, .int a7), (8, .int a8), (9, .int a9)]) (st' := [.int 0]) (mem' := m357) rfl ?_
          exact wq_ret rfl rfl h
      · refine wp_run 1 (pc' := 366) (lv' := [(13, .int v254), (12, .ref p218), (11, .ref p183), (10, .int (1 + v175)), (0, .ref a0), (1, .ref a1), (2, .int a2), (3, .int a3), (4, .int a4), (5, .int a5), (6, .int a6), (7, .int a7), (8, .int a8), (9, .int a9)]) (st' := [.int 0]) (mem' := m347) rfl ?_
        exact wq_ret rfl rfl h
    · refine wp_run 1 (pc' := 366) (lv' := [(13, .int v254), (12, .ref p218), (11, .ref p183), (10, .int (1 + v175)), (0, .ref a0), (1, .ref a1), (2, .int a2), (3, .int a3), (4, .int a4), (5, .int a5), (6, .int a6), (7, .int a7), (8, .int a8), (9, .int a9)]) (st' := [.int 0]) (mem' := m337) rfl ?_
      exact wq_ret rfl rfl h
  · refine wp_run 2 (pc' := 266) (lv' := [(13, .int v254), (12, .ref p218), (11, .ref p183), (10, .int (1 + v175)), (0, .ref a0), (1, .ref a1), (2, .int a2), (3, .int a3), (4, .int a4), (5, .int a5), (6, .int a6), (7, .int a7), (8, .int a8), (9, .int a9)]) (st' := [.int 3, .ref a1]) (mem' := m254) rfl ?_
    obtain ⟨fk266, hk266, h⟩ := dRc_some h
    refine wq_cI rfl (kCall_v hk266 (as := [.int 3]) (rest := []) ⟨by decide, rfl, (show 1 < 90 by decide), by decide⟩ (show 0 ≤ 8 by decide)) h (fun r hr => ca_up (by decide) (m_K_many_ok hz xm N hr)) (fun v266 m266 h => ?_)
    refine wp_run 3 (pc' := 275) (lv' := [(13, .int v254), (12, .ref p218), (11, .ref p183), (10, .int (1 + v175)), (0, .ref a0), (1, .ref a1), (2, .int a2), (3, .int a3), (4, .int a4), (5, .int a5), (6, .int a6), (7, .int a7), (8, .int a8), (9, .int a9)]) (st' := [.int (1 + v175), .ref p183, .int a6, .int v266]) (mem' := m266) rfl ?_
    refine wq_iL rfl h (fun v275 h => ?_)
    refine wp_run 1 (pc' := 277) (lv' := [(13, .int v254), (12, .ref p218), (11, .ref p183), (10, .int (1 + v175)), (0, .ref a0), (1, .ref a1), (2, .int a2), (3, .int a3), (4, .int a4), (5, .int a5), (6, .int a6), (7, .int a7), (8, .int a8), (9, .int a9)]) (st' := [.int (a6 - v275), .int v266]) (mem' := m266) rfl ?_
    refine wq_ne2 rfl h (fun h => ?_) (fun h => ?_)
    · refine wp_run 2 (pc' := 282) (lv' := [(13, .int v254), (12, .ref p218), (11, .ref p183), (10, .int (1 + v175)), (0, .ref a0), (1, .ref a1), (2, .int a2), (3, .int a3), (4, .int a4), (5, .int a5), (6, .int a6), (7, .int a7), (8, .int a8), (9, .int a9)]) (st' := [.int 4, .ref a1]) (mem' := m266) rfl ?_
      obtain ⟨fk282, hk282, h⟩ := dRc_some h
      refine wq_cI rfl (kCall_v hk282 (as := [.int 4]) (rest := []) ⟨by decide, rfl, (show 1 < 90 by decide), by decide⟩ (show 0 ≤ 8 by decide)) h (fun r hr => ca_up (by decide) (m_K_many_ok hz xm N hr)) (fun v282 m282 h => ?_)
      refine wp_run 3 (pc' := 289) (lv' := [(13, .int v254), (12, .ref p218), (11, .ref p183), (10, .int (1 + v175)), (0, .ref a0), (1, .ref a1), (2, .int a2), (3, .int a3), (4, .int a4), (5, .int a5), (6, .int a6), (7, .int a7), (8, .int a8), (9, .int a9)]) (st' := [.int (a7 + 1), .int v282]) (mem' := m282) rfl ?_
      refine wq_ne2 rfl h (fun h => ?_) (fun h => ?_)
      · refine wp_run 2 (pc' := 294) (lv' := [(13, .int v254), (12, .ref p218), (11, .ref p183), (10, .int (1 + v175)), (0, .ref a0), (1, .ref a1), (2, .int a2), (3, .int a3), (4, .int a4), (5, .int a5), (6, .int a6), (7, .int a7), (8, .int a8), (9, .int a9)]) (st' := [.int 1, .ref a1]) (mem' := m282) rfl ?_
        obtain ⟨fk294, hk294, h⟩ := dRc_some h
        refine wq_cI rfl (kCall_v hk294 (as := [.int 1]) (rest := []) ⟨by decide, rfl, (show 1 < 90 by decide), by decide⟩ (show 0 ≤ 8 by decide)) h (fun r hr => ca_up (by decide) (m_K_many_ok hz xm N hr)) (fun v294 m294 h => ?_)
        refine wp_run 3 (pc' := 303) (lv' := [(13, .int v254), (12, .ref p218), (11, .ref p183), (10, .int (1 + v175)), (0, .ref a0), (1, .ref a1), (2, .int a2), (3, .int a3), (4, .int a4), (5, .int a5), (6, .int a6), (7, .int a7), (8, .int a8), (9, .int a9)]) (st' := [.int (1 + v175), .ref p218, .int a5, .int v294]) (mem' := m294) rfl ?_
        refine wq_iL rfl h (fun v303 h => ?_)
        refine wp_run 1 (pc' := 305) (lv' := [(13, .int v254), (12, .ref p218), (11, .ref p183), (10, .int (1 + v175)), (0, .ref a0), (1, .ref a1), (2, .int a2), (3, .int a3), (4, .int a4), (5, .int a5), (6, .int a6), (7, .int a7), (8, .int a8), (9, .int a9)]) (st' := [.int (a5 - v303), .int v294]) (mem' := m294) rfl ?_
        refine wq_ne2 rfl h (fun h => ?_) (fun h => ?_)
        · refine wp_run 2 (pc' := 311) (lv' := [(13, .int v254), (12, .ref p218), (11, .ref p183), (10, .int (1 + v175)), (0, .ref a0), (1, .ref a1), (2, .int a2), (3, .int a3), (4, .int a4), (5, .int a5), (6, .int a6), (7, .int a7), (8, .int a8), (9, .int a9)]) (st' := [.int 7, .ref a1]) (mem' := m294) rfl ?_
          obtain ⟨fk311, hk311, h⟩ := dRc_some h
          refine wq_cI rfl (kCall_v hk311 (as := [.int 7]) (rest := []) ⟨by decide, rfl, (show 1 < 90 by decide), by decide⟩ (show 0 ≤ 8 by decide)) h (fun r hr => ca_up (by decide) (m_K_many_ok hz xm N hr)) (fun v311 m311 h => ?_)
          refine wp_run 3 (pc' := 320) (lv' := [(13, .int v254), (12, .ref p218), (11, .ref p183), (10, .int (1 + v175)), (0, .ref a0), (1, .ref a1), (2, .int a2), (3, .int a3), (4, .int a4), (5, .int a5), (6, .int a6), (7, .int a7), (8, .int a8), (9, .int a9)]) (st' := [.int 6, .int (1 + v175), .int a8, .int v311]) (mem' := m311) rfl ?_
          refine wq_ne2 rfl h (fun h => ?_) (fun h => ?_)
          · refine wp_run 2 (pc' := 328) (lv' := [(13, .int v254), (12, .ref p218), (11, .ref p183), (10, .int (1 + v175)), (0, .ref a0), (1, .ref a1), (2, .int a2), (3, .int a3), (4, .int a4), (5, .int a5), (6, .int a6), (7, .int a7), (8, .int a8), (9, .int a9)]) (st' := [.int 0, .int a8, .int v311]) (mem' := m311) rfl ?_
            refine kGo_sub (lvS_of [4, 5, 6, 7, 12, 13, 3, 2, 0] rfl [13, 12, 11, 10, 0, 1, 2, 3, 4, 5, 6, 7, 8, 9] rfl (by decide)) ?_
            exact m_law_law_328_ok hz xm N _ hK23 _ _ _ _ _ _ _ _ _ _ _ _ m311 R h
          · refine wp_run 1 (pc' := 328) (lv' := [(13, .int v254), (12, .ref p218), (11, .ref p183), (10, .int (1 + v175)), (0, .ref a0), (1, .ref a1), (2, .int a2), (3, .int a3), (4, .int a4), (5, .int a5), (6, .int a6), (7, .int a7), (8, .int a8), (9, .int a9)]) (st' := [.int 1, .int a8, .int v311]) (mem' := m311) rfl ?_
            refine kGo_sub (lvS_of [4, 5, 6, 7, 12, 13, 3, 2, 0] rfl [13, 12, 11, 10, 0, 1, 2, 3, 4, 5, 6, 7, 8, 9] rfl (by decide)) ?_
            exact m_law_law_328_ok hz xm N _ hK23 _ _ _ _ _ _ _ _ _ _ _ _ m311 R h
        · refine wp_run 1 (pc' := 366) (lv' := [(13, .int v254), (12, .ref p218), (11, .ref p183), (10, .int (1 + v175)), (0, .ref a0), (1, .ref a1), (2, .int a2), (3, .int a3), (4, .int a4), (5, .int a5), (6, .int a6), (7, .int a7), (8, .int a8), (9, .int a9)]) (st' := [.int 0]) (mem' := m294) rfl ?_
          exact wq_ret rfl rfl h
      · refine wp_run 1 (pc' := 366) (lv' := [(13, .int v254), (12, .ref p218), (11, .ref p183), (10, .int (1 + v175)), (0, .ref a0), (1, .ref a1), (2, .int a2), (3, .int a3), (4, .int a4), (5, .int a5), (6, .int a6), (7, .int a7), (8, .int a8), (9, .int a9)]) (st' := [.int 0]) (mem' := m282) rfl ?_
        exact wq_ret rfl rfl h
    · refine wp_run 1 (pc' := 366) (lv' := [(13, .int v254), (12, .ref p218), (11, .ref p183), (10, .int (1 + v175)), (0, .ref a0), (1, .ref a1), (2, .int a2), (3, .int a3), (4, .int a4), (5, .int a5), (6, .int a6), (7, .int a7), (8, .int a8), (9, .int a9)]) (st' := [.int 0]) (mem' := m266) rfl ?_
      exact wq_ret rfl rfl h
def m_law_law_625 (xm : Nat → Option kE) (N : Nat) (K23 : Nat → Nat → Int32 → Int32 → kM → dRes) (a0 : Nat) (a1 : Nat) (a2 : Int32) (a3 : Int32) (a13 : Int32) (s0 : Int32) (s1 : Int32) (s2 : Int32) (mem : kM) : dRes :=
  if s0 = (s1 + s2) then (
    dRc xm mem a1 11 <|
    dCI (m_K_many xm N a1 5 mem) fun v631 m631 =>
    if v631 = (1 - a13) then (
      m_law_law_1303 xm N K23 a0 a1 a2 a3 m631
    ) else (
      some (.inl (some (.int 0)), m631)
    )
  ) else (
    some (.inl (some (.int 0)), mem)
  )
theorem m_law_law_625_ok (hz : z.category = 1) (xm : Nat → Option kE) (N : Nat) (K23 : Nat → Nat → Int32 → Int32 → kM → dRes) (hK23 : ∀ (a0 : Nat) (a1 : Nat) (a2 : Int32) (a3 : Int32) (mem : kM) (R : kO × kM), K23 a0 a1 a2 a3 mem = some R → kGo xm (kSm z) kDfl kFty kG 10 0 23 [(0, .ref a0), (1, .ref a1), (2, .int a2), (3, .int a3)] [] mem (dEq R)) : ∀ (a0 : Nat) (a1 : Nat) (a2 : Int32) (a3 : Int32) (a13 : Int32) (s0 : Int32) (s1 : Int32) (s2 : Int32) (mem : kM) (R : kO × kM), m_law_law_625 xm N K23 a0 a1 a2 a3 a13 s0 s1 s2 mem = some R → kGo xm (kSm z) kDfl kFty kG 10 0 625 [(0, .ref a0), (1, .ref a1), (2, .int a2), (3, .int a3), (13, .int a13)] [.int s2, .int s1, .int s0] mem (dEq R) := by
  intro a0 a1 a2 a3 a13 s0 s1 s2 mem R h
  unfold m_law_law_625 at h
  refine wp_run 1 (pc' := 626) (lv' := [(0, .ref a0), (1, .ref a1), (2, .int a2), (3, .int a3), (13, .int a13)]) (st' := [.int (s1 + s2), .int s0]) (mem' := mem) rfl ?_
  refine wq_ne2 rfl h (fun h => ?_) (fun h => ?_)
  · refine wp_run 2 (pc' := 631) (lv' := [(0, .ref a0), (1, .ref a1), (2, .int a2), (3, .int a3), (13, .int a13)]) (st' := [.int 5, .ref a1]) (mem' := mem) rfl ?_
    obtain ⟨fk631, hk631, h⟩ := dRc_some h
    refine wq_cI rfl (kCall_v hk631 (as := [.int 5]) (rest := []) ⟨by decide, rfl, (show 1 < 90 by decide), by decide⟩ (show 0 ≤ 8 by decide)) h (fun r hr => ca_up (by decide) (m_K_many_ok hz xm N hr)) (fun v631 m631 h => ?_)
    refine wp_run 3 (pc' := 638) (lv' := [(0, .ref a0), (1, .ref a1), (2, .int a2), (3, .int a3), (13, .int a13)]) (st' := [.int (1 - a13), .int v631]) (mem' := m631) rfl ?_
    refine wq_eq2 rfl h (fun h => ?_) (fun h => ?_)
    · refine kGo_sub (lvS_of [0, 1, 2, 3] rfl [0, 1, 2, 3, 13] rfl (by decide)) ?_
      exact m_law_law_1303_ok hz xm N _ hK23 _ _ _ _ m631 R h
    · refine wp_run 1 (pc' := 642) (lv' := [(0, .ref a0), (1, .ref a1), (2, .int a2), (3, .int a3), (13, .int a13)]) (st' := [.int 0]) (mem' := m631) rfl ?_
      exact wq_ret rfl rfl h
  · refine wp_run 1 (pc' := 642) (lv' := [(0, .ref a0), (1, .ref a1), (2, .int a2), (3, .int a3), (13, .int a13)]) (st' := [.int 0]) (mem' := mem) rfl ?_
    exact wq_ret rfl rfl h
def m_law_law_544 (xm : Nat → Option kE) (N : Nat) (K23 : Nat → Nat → Int32 → Int32 → kM → dRes) (a0 : Nat) (a1 : Nat) (a2 : Int32) (a3 : Int32) (a6 : Int32) (a7 : Int32) (mem : kM) : dRes :=
  if (a6 + a7) = 0 then (
    m_law_law_1303 xm N K23 a0 a1 a2 a3 mem
  ) else (
    dRc xm mem a1 11 <|
    dCD (m_K_width xm N a1 1 mem) fun v557 m557 =>
    dRc xm m557 a1 11 <|
    dCI (m_K_many xm N a1 10 m557) fun v565 m565 =>
    dRc xm m565 a1 11 <|
    dCI (m_K_many xm N a1 5 m565) fun v572 m572 =>
    dRc xm m572 a1 11 <|
    dCI (m_K_turn xm N a1 m572) fun v578 m578 =>
    if v578 = a7 then (
      dRc xm m578 a1 11 <|
      dCI (m_K_many xm N a1 4 m578) fun v588 m588 =>
      if v588 = a6 then (
        dRc xm m588 a1 11 <|
        dCD (m_K_width xm N a1 0 m588) fun v598 m598 =>
        if (Op.cmpValue (FP.dcmp v598 v557) .l) = 0 then (
          dRc xm m598 a1 11 <|
          dCI (m_K_many xm N a1 10 m598) fun v610 m610 =>
          if 0 < a6 then (
            m_law_law_625 xm N K23 a0 a1 a2 a3 v572 v610 v565 1 m610
          ) else (
            m_law_law_625 xm N K23 a0 a1 a2 a3 v572 v610 v565 0 m610
          )
        ) else (
          some (.inl (some (.int 0)), m598)
        )
      ) else (
        some (.inl (some (.int 0)), m588)
      )
    ) else (
      some (.inl (some (.int 0)), m578)
    )
  )
theorem m_law_law_544_ok (hz : z.category = 1) (xm : Nat → Option kE) (N : Nat) (K23 : Nat → Nat → Int32 → Int32 → kM → dRes) (hK23 : ∀ (a0 : Nat) (a1 : Nat) (a2 : Int32) (a3 : Int32) (mem : kM) (R : kO × kM), K23 a0 a1 a2 a3 mem = some R → kGo xm (kSm z) kDfl kFty kG 10 0 23 [(0, .ref a0), (1, .ref a1), (2, .int a2), (3, .int a3)] [] mem (dEq R)) : ∀ (a0 : Nat) (a1 : Nat) (a2 : Int32) (a3 : Int32) (a6 : Int32) (a7 : Int32) (mem : kM) (R : kO × kM), m_law_law_544 xm N K23 a0 a1 a2 a3 a6 a7 mem = some R → kGo xm (kSm z) kDfl kFty kG 10 0 544 [(0, .ref a0), (1, .ref a1), (2, .int a2), (3, .int a3), (6, .int a6), (7, .int a7)] [] mem (dEq R) := by
  intro a0 a1 a2 a3 a6 a7 mem R h
  unfold m_law_law_544 at h
  refine wp_run 3 (pc' := 549) (lv' := [(0, .ref a0), (1, .ref a1), (2, .int a2), (3, .int a3), (6, .int a6), (7, .int a7)]) (st' := [.int (a6 + a7)]) (mem' := mem) rfl ?_
  refine wq_ne rfl h (fun h => ?_) (fun h => ?_)
  · refine wp_run 1 (pc' := 1303) (lv' := [(0, .ref a0), (1, .ref a1), (2, .int a2), (3, .int a3), (6, .int a6), (7, .int a7)]) (st' := []) (mem' := mem) rfl ?_
    refine kGo_sub (lvS_of [0, 1, 2, 3] rfl [0, 1, 2, 3, 6, 7] rfl (by decide)) ?_
    exact m_law_law_1303_ok hz xm N _ hK23 _ _ _ _ mem R h
  · refine wp_run 2 (pc' := 557) (lv' := [(0, .ref a0), (1, .ref a1), (2, .int a2), (3, .int a3), (6, .int a6), (7, .int a7)]) (st' := [.int 1, .ref a1]) (mem' := mem) rfl ?_
    obtain ⟨fk557, hk557, h⟩ := dRc_some h
    refine wq_cD rfl (kCall_v hk557 (as := [.int 1]) (rest := []) ⟨by decide, rfl, (show 1 < 90 by decide), by decide⟩ (show 0 ≤ 8 by decide)) h (fun r hr => ca_up (by decide) (m_K_width_ok hz xm N hr)) (fun v557 m557 h => ?_)
    refine wp_run 3 (pc' := 565) (lv' := [(10, .double v557), (0, .ref a0), (1, .ref a1), (2, .int a2), (3, .int a3), (6, .int a6), (7, .int a7)]) (st' := [.int 10, .ref a1]) (mem' := m557) rfl ?_
    obtain ⟨fk565, hk565, h⟩ := dRc_some h
    refine wq_cI rfl (kCall_v hk565 (as := [.int 10]) (rest := []) ⟨by decide, rfl, (show 1 < 90 by decide), by decide⟩ (show 0 ≤ 8 by decide)) h (fun r hr => ca_up (by decide) (m_K_many_ok hz xm N hr)) (fun v565 m565 h => ?_)
    refine wp_run 3 (pc' := 572) (lv' := [(12, .int v565), (10, .double v557), (0, .ref a0), (1, .ref a1), (2, .int a2), (3, .int a3), (6, .int a6), (7, .int a7)]) (st' := [.int 5, .ref a1]) (mem' := m565) rfl ?_
    obtain ⟨fk572, hk572, h⟩ := dRc_some h
    refine wq_cI rfl (kCall_v hk572 (as := [.int 5]) (rest := []) ⟨by decide, rfl, (show 1 < 90 by decide), by decide⟩ (show 0 ≤ 8 by decide)) h (fun r hr => ca_up (by decide) (m_K_many_ok hz xm N hr)) (fun v572 m572 h => ?_)
    refine wp_run 2 (pc' := 578) (lv' := [(13, .int v572), (12, .int v565), (10, .double v557), (0, .ref a0), (1, .ref a1), (2, .int a2), (3, .int a3), (6, .int a6), (7, .int a7)]) (st' := [.ref a1]) (mem' := m572) rfl ?_
    obtain ⟨fk578, hk578, h⟩ := dRc_some h
    refine wq_cI rfl (kCall_v hk578 (as := []) (rest := []) ⟨by decide, rfl, (show 0 < 90 by decide), by decide⟩ (show 0 ≤ 8 by decide)) h (fun r hr => ca_up (by decide) (m_K_turn_ok hz xm N hr)) (fun v578 m578 h => ?_)
    refine wp_run 1 (pc' := 583) (lv' := [(13, .int v572), (12, .int v565), (10, .double v557), (0, .ref a0), (1, .ref a1), (2, .int a2), (3, .int a3), (6, .int a6), (7, .int a7)]) (st' := [.int a7, .int v578]) (mem' := m578) rfl ?_
    refine wq_ne2 rfl h (fun h => ?_) (fun h => ?_)
    · refine wp_run 2 (pc' := 588) (lv' := [(13, .int v572), (12, .int v565), (10, .double v557), (0, .ref a0), (1, .ref a1), (2, .int a2), (3, .int a3), (6, .int a6), (7, .int a7)]) (st' := [.int 4, .ref a1]) (mem' := m578) rfl ?_
      obtain ⟨fk588, hk588, h⟩ := dRc_some h
      refine wq_cI rfl (kCall_v hk588 (as := [.int 4]) (rest := []) ⟨by decide, rfl, (show 1 < 90 by decide), by decide⟩ (show 0 ≤ 8 by decide)) h (fun r hr => ca_up (by decide) (m_K_many_ok hz xm N hr)) (fun v588 m588 h => ?_)
      refine wp_run 1 (pc' := 593) (lv' := [(13, .int v572), (12, .int v565), (10, .double v557), (0, .ref a0), (1, .ref a1), (2, .int a2), (3, .int a3), (6, .int a6), (7, .int a7)]) (st' := [.int a6, .int v588]) (mem' := m588) rfl ?_
      refine wq_ne2 rfl h (fun h => ?_) (fun h => ?_)
      · refine wp_run 2 (pc' := 598) (lv' := [(13, .int v572), (12, .int v565), (10, .double v557), (0, .ref a0), (1, .ref a1), (2, .int a2), (3, .int a3), (6, .int a6), (7, .int a7)]) (st' := [.int 0, .ref a1]) (mem' := m588) rfl ?_
        obtain ⟨fk598, hk598, h⟩ := dRc_some h
        refine wq_cD rfl (kCall_v hk598 (as := [.int 0]) (rest := []) ⟨by decide, rfl, (show 1 < 90 by decide), by decide⟩ (show 0 ≤ 8 by decide)) h (fun r hr => ca_up (by decide) (m_K_width_ok hz xm N hr)) (fun v598 m598 h => ?_)
        refine wp_run 2 (pc' := 604) (lv' := [(13, .int v572), (12, .int v565), (10, .double v557), (0, .ref a0), (1, .ref a1), (2, .int a2), (3, .int a3), (6, .int a6), (7, .int a7)]) (st' := [.int (Op.cmpValue (FP.dcmp v598 v557) .l)]) (mem' := m598) rfl ?_
        refine wq_ne rfl h (fun h => ?_) (fun h => ?_)
        · refine wp_run 2 (pc' := 610) (lv' := [(13, .int v572), (12, .int v565), (10, .double v557), (0, .ref a0), (1, .ref a1), (2, .int a2), (3, .int a3), (6, .int a6), (7, .int a7)]) (st' := [.int 10, .ref a1]) (mem' := m598) rfl ?_
          obtain ⟨fk610, hk610, h⟩ := dRc_some h
          refine wq_cI rfl (kCall_v hk610 (as := [.int 10]) (rest := []) ⟨by decide, rfl, (show 1 < 90 by decide), by decide⟩ (show 0 ≤ 8 by decide)) h (fun r hr => ca_up (by decide) (m_K_many_ok hz xm N hr)) (fun v610 m610 h => ?_)
          refine wp_run 2 (pc' := 617) (lv' := [(13, .int v572), (12, .int v565), (10, .double v557), (0, .ref a0), (1, .ref a1), (2, .int a2), (3, .int a3), (6, .int a6), (7, .int a7)]) (st' := [.int a6, .int v565, .int v610]) (mem' := m610) rfl ?_
          refine wq_le rfl h (fun h => ?_) (fun h => ?_)
          · refine wp_run 2 (pc' := 625) (lv' := [(13, .int v572), (12, .int v565), (10, .double v557), (0, .ref a0), (1, .ref a1), (2, .int a2), (3, .int a3), (6, .int a6), (7, .int a7)]) (st' := [.int 1, .int v565, .int v610]) (mem' := m610) rfl ?_
            refine kGo_sub (lvS_of [3, 4, 5, 6, 0] rfl [13, 12, 10, 0, 1, 2, 3, 6, 7] rfl (by decide)) ?_
            exact m_law_law_625_ok hz xm N _ hK23 _ _ _ _ _ _ _ _ m610 R h
          · refine wp_run 1 (pc' := 625) (lv' := [(13, .int v572), (12, .int v565), (10, .double v557), (0, .ref a0), (1, .ref a1), (2, .int a2), (3, .int a3), (6, .int a6), (7, .int a7)]) (st' := [.int 0, .int v565, .int v610]) (mem' := m610) rfl ?_
            refine kGo_sub (lvS_of [3, 4, 5, 6, 0] rfl [13, 12, 10, 0, 1, 2, 3, 6, 7] rfl (by decide)) ?_
            exact m_law_law_625_ok hz xm N _ hK23 _ _ _ _ _ _ _ _ m610 R h
        · refine wp_run 1 (pc' := 642) (lv' := [(13, .int v572), (12, .int v565), (10, .double v557), (0, .ref a0), (1, .ref a1), (2, .int a2), (3, .int a3), (6, .int a6), (7, .int a7)]) (st' := [.int 0]) (mem' := m598) rfl ?_
          exact wq_ret rfl rfl h
      · refine wp_run 1 (pc' := 642) (lv' := [(13, .int v572), (12, .int v565), (10, .double v557), (0, .ref a0), (1, .ref a1), (2, .int a2), (3, .int a3), (6, .int a6), (7, .int a7)]) (st' := [.int 0]) (mem' := m588) rfl ?_
        exact wq_ret rfl rfl h
    · refine wp_run 1 (pc' := 642) (lv' := [(13, .int v572), (12, .int v565), (10, .double v557), (0, .ref a0), (1, .ref a1), (2, .int a2), (3, .int a3), (6, .int a6), (7, .int a7)]) (st' := [.int 0]) (mem' := m578) rfl ?_
      exact wq_ret rfl rfl h
def m_law_law_724 (xm : Nat → Option kE) (N : Nat) (K23 : Nat → Nat → Int32 → Int32 → kM → dRes) (a0 : Nat) (a1 : Nat) (a2 : Int32) (a3 : Int32) (a5 : Int32) (a8 : Int32) (mem : kM) : dRes :=
  dRc xm mem a1 11 <|
  dCI (m_K_many xm N a1 15 mem) fun v727 m727 =>
  if v727 = 0 then (
    m_law_law_1303 xm N K23 a0 a1 a2 a3 m727
  ) else (
    dRc xm m727 a1 11 <|
    dCI (m_K_many xm N a1 15 m727) fun v739 m739 =>
    dRc xm m739 a1 11 <|
    dCI (m_K_undo xm N a1 m739) fun v745 m745 =>
    if v745 = (v739 - 1) then (
      dRc xm m745 a1 11 <|
      dCI (m_K_many xm N a1 15 m745) fun v758 m758 =>
      if v758 = (v739 - 1) then (
        dRc xm m758 a1 11 <|
        dCI (m_K_many xm N a1 7 m758) fun v771 m771 =>
        if a8 < v771 then (
          some (.inl (some (.int 0)), m771)
        ) else (
          dRc xm m771 a1 11 <|
          dCI (m_K_many xm N a1 1 m771) fun v781 m781 =>
          if v781 < a5 then (
            some (.inl (some (.int 0)), m781)
          ) else (
            m_law_law_1303 xm N K23 a0 a1 a2 a3 m781
          )
        )
      ) else (
        some (.inl (some (.int 0)), m758)
      )
    ) else (
      some (.inl (some (.int 0)), m745)
    )
  )
theorem m_law_law_724_ok (hz : z.category = 1) (xm : Nat → Option kE) (N : Nat) (K23 : Nat → Nat → Int32 → Int32 → kM → dRes) (hK23 : ∀ (a0 : Nat) (a1 : Nat) (a2 : Int32) (a3 : Int32) (mem : kM) (R : kO × kM), K23 a0 a1 a2 a3 mem = some R → kGo xm (kSm z) kDfl kFty kG 10 0 23 [(0, .ref a0), (1, .ref a1), (2, .int a2), (3, .int a3)] [] mem (dEq R)) : ∀ (a0 : Nat) (a1 : Nat) (a2 : Int32) (a3 : Int32) (a5 : Int32) (a8 : Int32) (mem : kM) (R : kO × kM), m_law_law_724 xm N K23 a0 a1 a2 a3 a5 a8 mem = some R → kGo xm (kSm z) kDfl kFty kG 10 0 724 [(0, .ref a0), (1, .ref a1), (2, .int a2), (3, .int a3), (5, .int a5), (8, .int a8)] [] mem (dEq R) := by
  intro a0 a1 a2 a3 a5 a8 mem R h
  unfold m_law_law_724 at h
  refine wp_run 2 (pc' := 727) (lv' := [(0, .ref a0), (1, .ref a1), (2, .int a2), (3, .int a3), (5, .int a5), (8, .int a8)]) (st' := [.int 15, .ref a1]) (mem' := mem) rfl ?_
  obtain ⟨fk727, hk727, h⟩ := dRc_some h
  refine wq_cI rfl (kCall_v hk727 (as := [.int 15]) (rest := []) ⟨by decide, rfl, (show 1 < 90 by decide), by decide⟩ (show 0 ≤ 8 by decide)) h (fun r hr => ca_up (by decide) (m_K_many_ok hz xm N hr)) (fun v727 m727 h => ?_)
  refine wq_ne rfl h (fun h => ?_) (fun h => ?_)
  · refine wp_run 1 (pc' := 1303) (lv' := [(0, .ref a0), (1, .ref a1), (2, .int a2), (3, .int a3), (5, .int a5), (8, .int a8)]) (st' := []) (mem' := m727) rfl ?_
    refine kGo_sub (lvS_of [0, 1, 2, 3] rfl [0, 1, 2, 3, 5, 8] rfl (by decide)) ?_
    exact m_law_law_1303_ok hz xm N _ hK23 _ _ _ _ m727 R h
  · refine wp_run 2 (pc' := 739) (lv' := [(0, .ref a0), (1, .ref a1), (2, .int a2), (3, .int a3), (5, .int a5), (8, .int a8)]) (st' := [.int 15, .ref a1]) (mem' := m727) rfl ?_
    obtain ⟨fk739, hk739, h⟩ := dRc_some h
    refine wq_cI rfl (kCall_v hk739 (as := [.int 15]) (rest := []) ⟨by decide, rfl, (show 1 < 90 by decide), by decide⟩ (show 0 ≤ 8 by decide)) h (fun r hr => ca_up (by decide) (m_K_many_ok hz xm N hr)) (fun v739 m739 h => ?_)
    refine wp_run 2 (pc' := 745) (lv' := [(10, .int v739), (0, .ref a0), (1, .ref a1), (2, .int a2), (3, .int a3), (5, .int a5), (8, .int a8)]) (st' := [.ref a1]) (mem' := m739) rfl ?_
    obtain ⟨fk745, hk745, h⟩ := dRc_some h
    refine wq_cI rfl (kCall_v hk745 (as := []) (rest := []) ⟨by decide, rfl, (show 0 < 90 by decide), by decide⟩ (show 0 ≤ 8 by decide)) h (fun r hr => ca_up (by decide) (m_K_undo_ok hz xm N hr)) (fun v745 m745 h => ?_)
    refine wp_run 3 (pc' := 752) (lv' := [(10, .int v739), (0, .ref a0), (1, .ref a1), (2, .int a2), (3, .int a3), (5, .int a5), (8, .int a8)]) (st' := [.int (v739 - 1), .int v745]) (mem' := m745) rfl ?_
    refine wq_ne2 rfl h (fun h => ?_) (fun h => ?_)
    · refine wp_run 2 (pc' := 758) (lv' := [(10, .int v739), (0, .ref a0), (1, .ref a1), (2, .int a2), (3, .int a3), (5, .int a5), (8, .int a8)]) (st' := [.int 15, .ref a1]) (mem' := m745) rfl ?_
      obtain ⟨fk758, hk758, h⟩ := dRc_some h
      refine wq_cI rfl (kCall_v hk758 (as := [.int 15]) (rest := []) ⟨by decide, rfl, (show 1 < 90 by decide), by decide⟩ (show 0 ≤ 8 by decide)) h (fun r hr => ca_up (by decide) (m_K_many_ok hz xm N hr)) (fun v758 m758 h => ?_)
      refine wp_run 3 (pc' := 765) (lv' := [(10, .int v739), (0, .ref a0), (1, .ref a1), (2, .int a2), (3, .int a3), (5, .int a5), (8, .int a8)]) (st' := [.int (v739 - 1), .int v758]) (mem' := m758) rfl ?_
      refine wq_ne2 rfl h (fun h => ?_) (fun h => ?_)
      · refine wp_run 2 (pc' := 771) (lv' := [(10, .int v739), (0, .ref a0), (1, .ref a1), (2, .int a2), (3, .int a3), (5, .int a5), (8, .int a8)]) (st' := [.int 7, .ref a1]) (mem' := m758) rfl ?_
        obtain ⟨fk771, hk771, h⟩ := dRc_some h
        refine wq_cI rfl (kCall_v hk771 (as := [.int 7]) (rest := []) ⟨by decide, rfl, (show 1 < 90 by decide), by decide⟩ (show 0 ≤ 8 by decide)) h (fun r hr => ca_up (by decide) (m_K_many_ok hz xm N hr)) (fun v771 m771 h => ?_)
        refine wp_run 1 (pc' := 776) (lv' := [(10, .int v739), (0, .ref a0), (1, .ref a1), (2, .int a2), (3, .int a3), (5, .int a5), (8, .int a8)]) (st' := [.int a8, .int v771]) (mem' := m771) rfl ?_
        refine wq_gt2 rfl h (fun h => ?_) (fun h => ?_)
        · refine wp_run 1 (pc' := 790) (lv' := [(10, .int v739), (0, .ref a0), (1, .ref a1), (2, .int a2), (3, .int a3), (5, .int a5), (8, .int a8)]) (st' := [.int 0]) (mem' := m771) rfl ?_
          exact wq_ret rfl rfl h
        · refine wp_run 2 (pc' := 781) (lv' := [(10, .int v739), (0, .ref a0), (1, .ref a1), (2, .int a2), (3, .int a3), (5, .int a5), (8, .int a8)]) (st' := [.int 1, .ref a1]) (mem' := m771) rfl ?_
          obtain ⟨fk781, hk781, h⟩ := dRc_some h
          refine wq_cI rfl (kCall_v hk781 (as := [.int 1]) (rest := []) ⟨by decide, rfl, (show 1 < 90 by decide), by decide⟩ (show 0 ≤ 8 by decide)) h (fun r hr => ca_up (by decide) (m_K_many_ok hz xm N hr)) (fun v781 m781 h => ?_)
          refine wp_run 1 (pc' := 786) (lv' := [(10, .int v739), (0, .ref a0), (1, .ref a1), (2, .int a2), (3, .int a3), (5, .int a5), (8, .int a8)]) (st' := [.int a5, .int v781]) (mem' := m781) rfl ?_
          refine wq_ge2 rfl h (fun h => ?_) (fun h => ?_)
          · refine wp_run 1 (pc' := 790) (lv' := [(10, .int v739), (0, .ref a0), (1, .ref a1), (2, .int a2), (3, .int a3), (5, .int a5), (8, .int a8)]) (st' := [.int 0]) (mem' := m781) rfl ?_
            exact wq_ret rfl rfl h
          · refine kGo_sub (lvS_of [1, 2, 3, 4] rfl [10, 0, 1, 2, 3, 5, 8] rfl (by decide)) ?_
            exact m_law_law_1303_ok hz xm N _ hK23 _ _ _ _ m781 R h
      · refine wp_run 1 (pc' := 790) (lv' := [(10, .int v739), (0, .ref a0), (1, .ref a1), (2, .int a2), (3, .int a3), (5, .int a5), (8, .int a8)]) (st' := [.int 0]) (mem' := m758) rfl ?_
        exact wq_ret rfl rfl h
    · refine wp_run 1 (pc' := 790) (lv' := [(10, .int v739), (0, .ref a0), (1, .ref a1), (2, .int a2), (3, .int a3), (5, .int a5), (8, .int a8)]) (st' := [.int 0]) (mem' := m745) rfl ?_
      exact wq_ret rfl rfl h
def m_law_law_791 (xm : Nat → Option kE) (N : Nat) (K23 : Nat → Nat → Int32 → Int32 → kM → dRes) (a0 : Nat) (a1 : Nat) (a2 : Int32) (a3 : Int32) (a6 : Int32) (a9 : Int32) (mem : kM) : dRes :=
  if a6 = 0 then (
    m_law_law_1303 xm N K23 a0 a1 a2 a3 mem
  ) else (
    dRc xm mem a1 11 <|
    dCI (m_K_many xm N a1 12 mem) fun v799 m799 =>
    if v799 = 9 then (
      m_law_law_1303 xm N K23 a0 a1 a2 a3 m799
    ) else (
      dRc xm m799 a1 11 <|
      dCI (m_K_drop xm N a1 m799) fun v811 m811 =>
      dRc xm m811 a1 11 <|
      dCI (m_K_ofRun xm N a1 v811 0 m811) fun v820 m820 =>
      if v820 = a9 then (
        dRc xm m820 a1 11 <|
        dCI (m_K_ofLoop xm N a1 a9 5 m820) fun v832 m832 =>
        if v832 = 4 then (
          dRc xm m832 a1 11 <|
          dCI (m_K_ofRun xm N a1 v811 1 m832) fun v843 m843 =>
          dRc xm m843 a1 11 <|
          dCI (m_K_ofLoop xm N a1 a9 3 m843) fun v850 m850 =>
          if v843 = v850 then (
            dRc xm m850 a1 11 <|
            dCI (m_K_ofRun xm N a1 v811 2 m850) fun v860 m860 =>
            if v860 = 0 then (
              dRc xm m860 a1 11 <|
              dCI (m_K_many xm N a1 3 m860) fun v868 m868 =>
              if v868 = (a6 - 1) then (
                m_law_law_1303 xm N K23 a0 a1 a2 a3 m868
              ) else (
                some (.inl (some (.int 0)), m868)
              )
            ) else (
              some (.inl (some (.int 0)), m860)
            )
          ) else (
            some (.inl (some (.int 0)), m850)
          )
        ) else (
          some (.inl (some (.int 0)), m832)
        )
      ) else (
        some (.inl (some (.int 0)), m820)
      )
    )
  )
theorem m_law_law_791_ok (hz : z.category = 1) (xm : Nat → Option kE) (N : Nat) (K23 : Nat → Nat → Int32 → Int32 → kM → dRes) (hK23 : ∀ (a0 : Nat) (a1 : Nat) (a2 : Int32) (a3 : Int32) (mem : kM) (R : kO × kM), K23 a0 a1 a2 a3 mem = some R → kGo xm (kSm z) kDfl kFty kG 10 0 23 [(0, .ref a0), (1, .ref a1), (2, .int a2), (3, .int a3)] [] mem (dEq R)) : ∀ (a0 : Nat) (a1 : Nat) (a2 : Int32) (a3 : Int32) (a6 : Int32) (a9 : Int32) (mem : kM) (R : kO × kM), m_law_law_791 xm N K23 a0 a1 a2 a3 a6 a9 mem = some R → kGo xm (kSm z) kDfl kFty kG 10 0 791 [(0, .ref a0), (1, .ref a1), (2, .int a2), (3, .int a3), (6, .int a6), (9, .int a9)] [] mem (dEq R) := by
  intro a0 a1 a2 a3 a6 a9 mem R h
  unfold m_law_law_791 at h
  refine wp_run 1 (pc' := 793) (lv' := [(0, .ref a0), (1, .ref a1), (2, .int a2), (3, .int a3), (6, .int a6), (9, .int a9)]) (st' := [.int a6]) (mem' := mem) rfl ?_
  refine wq_eq rfl h (fun h => ?_) (fun h => ?_)
  · refine kGo_sub (lvS_of [0, 1, 2, 3] rfl [0, 1, 2, 3, 6, 9] rfl (by decide)) ?_
    exact m_law_law_1303_ok hz xm N _ hK23 _ _ _ _ mem R h
  · refine wp_run 2 (pc' := 799) (lv' := [(0, .ref a0), (1, .ref a1), (2, .int a2), (3, .int a3), (6, .int a6), (9, .int a9)]) (st' := [.int 12, .ref a1]) (mem' := mem) rfl ?_
    obtain ⟨fk799, hk799, h⟩ := dRc_some h
    refine wq_cI rfl (kCall_v hk799 (as := [.int 12]) (rest := []) ⟨by decide, rfl, (show 1 < 90 by decide), by decide⟩ (show 0 ≤ 8 by decide)) h (fun r hr => ca_up (by decide) (m_K_many_ok hz xm N hr)) (fun v799 m799 h => ?_)
    refine wp_run 1 (pc' := 804) (lv' := [(0, .ref a0), (1, .ref a1), (2, .int a2), (3, .int a3), (6, .int a6), (9, .int a9)]) (st' := [.int 9, .int v799]) (mem' := m799) rfl ?_
    refine wq_ne2 rfl h (fun h => ?_) (fun h => ?_)
    · refine wp_run 1 (pc' := 1303) (lv' := [(0, .ref a0), (1, .ref a1), (2, .int a2), (3, .int a3), (6, .int a6), (9, .int a9)]) (st' := []) (mem' := m799) rfl ?_
      refine kGo_sub (lvS_of [0, 1, 2, 3] rfl [0, 1, 2, 3, 6, 9] rfl (by decide)) ?_
      exact m_law_law_1303_ok hz xm N _ hK23 _ _ _ _ m799 R h
    · refine wp_run 1 (pc' := 811) (lv' := [(0, .ref a0), (1, .ref a1), (2, .int a2), (3, .int a3), (6, .int a6), (9, .int a9)]) (st' := [.ref a1]) (mem' := m799) rfl ?_
      obtain ⟨fk811, hk811, h⟩ := dRc_some h
      refine wq_cI rfl (kCall_v hk811 (as := []) (rest := []) ⟨by decide, rfl, (show 0 < 90 by decide), by decide⟩ (show 0 ≤ 8 by decide)) h (fun r hr => ca_up (by decide) (m_K_drop_ok hz xm N hr)) (fun v811 m811 h => ?_)
      refine wp_run 4 (pc' := 820) (lv' := [(10, .int v811), (0, .ref a0), (1, .ref a1), (2, .int a2), (3, .int a3), (6, .int a6), (9, .int a9)]) (st' := [.int 0, .int v811, .ref a1]) (mem' := m811) rfl ?_
      obtain ⟨fk820, hk820, h⟩ := dRc_some h
      refine wq_cI rfl (kCall_v hk820 (as := [.int v811, .int 0]) (rest := []) ⟨by decide, rfl, (show 2 < 90 by decide), by decide⟩ (show 0 ≤ 8 by decide)) h (fun r hr => ca_up (by decide) (m_K_ofRun_ok hz xm N hr)) (fun v820 m820 h => ?_)
      refine wp_run 1 (pc' := 825) (lv' := [(10, .int v811), (0, .ref a0), (1, .ref a1), (2, .int a2), (3, .int a3), (6, .int a6), (9, .int a9)]) (st' := [.int a9, .int v820]) (mem' := m820) rfl ?_
      refine wq_ne2 rfl h (fun h => ?_) (fun h => ?_)
      · refine wp_run 3 (pc' := 832) (lv' := [(10, .int v811), (0, .ref a0), (1, .ref a1), (2, .int a2), (3, .int a3), (6, .int a6), (9, .int a9)]) (st' := [.int 5, .int a9, .ref a1]) (mem' := m820) rfl ?_
        obtain ⟨fk832, hk832, h⟩ := dRc_some h
        refine wq_cI rfl (kCall_v hk832 (as := [.int a9, .int 5]) (rest := []) ⟨by decide, rfl, (show 2 < 90 by decide), by decide⟩ (show 0 ≤ 8 by decide)) h (fun r hr => ca_up (by decide) (m_K_ofLoop_ok hz xm N hr)) (fun v832 m832 h => ?_)
        refine wp_run 1 (pc' := 836) (lv' := [(10, .int v811), (0, .ref a0), (1, .ref a1), (2, .int a2), (3, .int a3), (6, .int a6), (9, .int a9)]) (st' := [.int 4, .int v832]) (mem' := m832) rfl ?_
        refine wq_ne2 rfl h (fun h => ?_) (fun h => ?_)
        · refine wp_run 3 (pc' := 843) (lv' := [(10, .int v811), (0, .ref a0), (1, .ref a1), (2, .int a2), (3, .int a3), (6, .int a6), (9, .int a9)]) (st' := [.int 1, .int v811, .ref a1]) (mem' := m832) rfl ?_
          obtain ⟨fk843, hk843, h⟩ := dRc_some h
          refine wq_cI rfl (kCall_v hk843 (as := [.int v811, .int 1]) (rest := []) ⟨by decide, rfl, (show 2 < 90 by decide), by decide⟩ (show 0 ≤ 8 by decide)) h (fun r hr => ca_up (by decide) (m_K_ofRun_ok hz xm N hr)) (fun v843 m843 h => ?_)
          refine wp_run 3 (pc' := 850) (lv' := [(10, .int v811), (0, .ref a0), (1, .ref a1), (2, .int a2), (3, .int a3), (6, .int a6), (9, .int a9)]) (st' := [.int 3, .int a9, .ref a1, .int v843]) (mem' := m843) rfl ?_
          obtain ⟨fk850, hk850, h⟩ := dRc_some h
          refine wq_cI rfl (kCall_v hk850 (as := [.int a9, .int 3]) (rest := [.int v843]) ⟨by decide, rfl, (show 2 < 90 by decide), by decide⟩ (show 1 ≤ 8 by decide)) h (fun r hr => ca_up (by decide) (m_K_ofLoop_ok hz xm N hr)) (fun v850 m850 h => ?_)
          refine wq_ne2 rfl h (fun h => ?_) (fun h => ?_)
          · refine wp_run 3 (pc' := 860) (lv' := [(10, .int v811), (0, .ref a0), (1, .ref a1), (2, .int a2), (3, .int a3), (6, .int a6), (9, .int a9)]) (st' := [.int 2, .int v811, .ref a1]) (mem' := m850) rfl ?_
            obtain ⟨fk860, hk860, h⟩ := dRc_some h
            refine wq_cI rfl (kCall_v hk860 (as := [.int v811, .int 2]) (rest := []) ⟨by decide, rfl, (show 2 < 90 by decide), by decide⟩ (show 0 ≤ 8 by decide)) h (fun r hr => ca_up (by decide) (m_K_ofRun_ok hz xm N hr)) (fun v860 m860 h => ?_)
            refine wq_ne rfl h (fun h => ?_) (fun h => ?_)
            · refine wp_run 2 (pc' := 868) (lv' := [(10, .int v811), (0, .ref a0), (1, .ref a1), (2, .int a2), (3, .int a3), (6, .int a6), (9, .int a9)]) (st' := [.int 3, .ref a1]) (mem' := m860) rfl ?_
              obtain ⟨fk868, hk868, h⟩ := dRc_some h
              refine wq_cI rfl (kCall_v hk868 (as := [.int 3]) (rest := []) ⟨by decide, rfl, (show 1 < 90 by decide), by decide⟩ (show 0 ≤ 8 by decide)) h (fun r hr => ca_up (by decide) (m_K_many_ok hz xm N hr)) (fun v868 m868 h => ?_)
              refine wp_run 3 (pc' := 875) (lv' := [(10, .int v811), (0, .ref a0), (1, .ref a1), (2, .int a2), (3, .int a3), (6, .int a6), (9, .int a9)]) (st' := [.int (a6 - 1), .int v868]) (mem' := m868) rfl ?_
              refine wq_eq2 rfl h (fun h => ?_) (fun h => ?_)
              · refine kGo_sub (lvS_of [1, 2, 3, 4] rfl [10, 0, 1, 2, 3, 6, 9] rfl (by decide)) ?_
                exact m_law_law_1303_ok hz xm N _ hK23 _ _ _ _ m868 R h
              · refine wp_run 1 (pc' := 879) (lv' := [(10, .int v811), (0, .ref a0), (1, .ref a1), (2, .int a2), (3, .int a3), (6, .int a6), (9, .int a9)]) (st' := [.int 0]) (mem' := m868) rfl ?_
                exact wq_ret rfl rfl h
            · refine wp_run 1 (pc' := 879) (lv' := [(10, .int v811), (0, .ref a0), (1, .ref a1), (2, .int a2), (3, .int a3), (6, .int a6), (9, .int a9)]) (st' := [.int 0]) (mem' := m860) rfl ?_
              exact wq_ret rfl rfl h
          · refine wp_run 1 (pc' := 879) (lv' := [(10, .int v811), (0, .ref a0), (1, .ref a1), (2, .int a2), (3, .int a3), (6, .int a6), (9, .int a9)]) (st' := [.int 0]) (mem' := m850) rfl ?_
            exact wq_ret rfl rfl h
        · refine wp_run 1 (pc' := 879) (lv' := [(10, .int v811), (0, .ref a0), (1, .ref a1), (2, .int a2), (3, .int a3), (6, .int a6), (9, .int a9)]) (st' := [.int 0]) (mem' := m832) rfl ?_
          exact wq_ret rfl rfl h
      · refine wp_run 1 (pc' := 879) (lv' := [(10, .int v811), (0, .ref a0), (1, .ref a1), (2, .int a2), (3, .int a3), (6, .int a6), (9, .int a9)]) (st' := [.int 0]) (mem' := m820) rfl ?_
        exact wq_ret rfl rfl h
def m_law_law_23 (xm : Nat → Option kE) (N : Nat) : Nat → Nat → Nat → Int32 → Int32 → kM → dRes
  | 0, _, _, _, _, _ => none
  | n + 1, a0, a1, a2, a3, mem =>
    if a3 < 45 then (
      dNz 20 <|
      dCI (m_law_cell xm N a0 (8 + (a3 - a3 / 20 * 20)) mem) fun v37 m37 =>
      dNz 20 <|
      dRc xm m37 a1 11 <|
      dCI (m_K_many xm N a1 1 m37) fun v51 m51 =>
      dRc xm m51 a1 11 <|
      dCI (m_K_many xm N a1 3 m51) fun v58 m58 =>
      dRc xm m58 a1 11 <|
      dCI (m_K_many xm N a1 4 m58) fun v65 m65 =>
      dRc xm m65 a1 11 <|
      dCI (m_K_many xm N a1 7 m65) fun v73 m73 =>
      dRc xm m73 a1 11 <|
      dCI (m_K_on xm N a1 0 0 m73) fun v81 m81 =>
      dCI (m_law_below xm N (v37 >>> (((a3 / 20) * 4) &&& 31)) 17 m81) fun v90 m90 =>
      dSw v90 0 14 (
        dCI (m_law_below xm N ((v37 >>> (((a3 / 20) * 4) &&& 31)) >>> (4 &&& 31)) 4 m90) fun v1196 m1196 =>
        if 24 < ((v58 + v65) + (1 + v1196)) then (
          m_law_law_1303 xm N (fun a0 a1 a2 a3 mem => m_law_law_23 xm N n a0 a1 a2 a3 mem) a0 a1 a2 a3 m1196
        ) else (
          dRc xm m1196 a1 11 <|
          dCI (m_K_many xm N a1 2 m1196) fun v1218 m1218 =>
          dRc xm m1218 a1 11 <|
          dCI (m_K_left xm N a1 v1218 m1218) fun v1221 m1221 =>
          if v1221 < (2 * (1 + v1196)) then (
            m_law_law_1303 xm N (fun a0 a1 a2 a3 mem => m_law_law_23 xm N n a0 a1 a2 a3 mem) a0 a1 a2 a3 m1221
          ) else (
            dRc xm m1221 a1 11 <|
            dCI (m_K_cast xm N a1 (1 + v1196) m1221) fun v1237 m1237 =>
            if v1237 = ((v58 + v65) + (1 + v1196)) then (
              dRc xm m1237 a1 11 <|
              dCI (m_K_many xm N a1 7 m1237) fun v1254 m1254 =>
              if v1254 = (v73 + (1 + v1196)) then (
                dRc xm m1254 a1 11 <|
                dCI (m_K_many xm N a1 1 m1254) fun v1267 m1267 =>
                if v1267 = (v51 - (2 * (1 + v1196))) then (
                  dRc xm m1267 a1 11 <|
                  dCI (m_K_ofLoop xm N a1 v73 0 m1267) fun v1284 m1284 =>
                  if v1284 = 0 then (
                    dRc xm m1284 a1 11 <|
                    dCI (m_K_ofLoop xm N a1 v73 3 m1284) fun v1294 m1294 =>
                    if v1294 = 1 then (
                      m_law_law_1303 xm N (fun a0 a1 a2 a3 mem => m_law_law_23 xm N n a0 a1 a2 a3 mem) a0 a1 a2 a3 m1294
                    ) else (
                      some (.inl (some (.int 0)), m1294)
                    )
                  ) else (
                    some (.inl (some (.int 0)), m1284)
                  )
                ) else (
                  some (.inl (some (.int 0)), m1267)
                )
              ) else (
                some (.inl (some (.int 0)), m1254)
              )
            ) else (
              some (.inl (some (.int 0)), m1237)
            )
          )
        )
      ) [
      (
        m_law_law_168 xm N (fun a0 a1 a2 a3 mem => m_law_law_23 xm N n a0 a1 a2 a3 mem) a0 a1 a2 a3 (v37 >>> (((a3 / 20) * 4) &&& 31)) v51 v58 v65 v73 v81 m90
      ),
      (
        m_law_law_168 xm N (fun a0 a1 a2 a3 mem => m_law_law_23 xm N n a0 a1 a2 a3 mem) a0 a1 a2 a3 (v37 >>> (((a3 / 20) * 4) &&& 31)) v51 v58 v65 v73 v81 m90
      ),
      (
        m_law_law_168 xm N (fun a0 a1 a2 a3 mem => m_law_law_23 xm N n a0 a1 a2 a3 mem) a0 a1 a2 a3 (v37 >>> (((a3 / 20) * 4) &&& 31)) v51 v58 v65 v73 v81 m90
      ),
      (
        m_law_law_168 xm N (fun a0 a1 a2 a3 mem => m_law_law_23 xm N n a0 a1 a2 a3 mem) a0 a1 a2 a3 (v37 >>> (((a3 / 20) * 4) &&& 31)) v51 v58 v65 v73 v81 m90
      ),
      (
        m_law_law_544 xm N (fun a0 a1 a2 a3 mem => m_law_law_23 xm N n a0 a1 a2 a3 mem) a0 a1 a2 a3 v58 v65 m90
      ),
      (
        m_law_law_544 xm N (fun a0 a1 a2 a3 mem => m_law_law_23 xm N n a0 a1 a2 a3 mem) a0 a1 a2 a3 v58 v65 m90
      ),
      (
        m_law_law_544 xm N (fun a0 a1 a2 a3 mem => m_law_law_23 xm N n a0 a1 a2 a3 mem) a0 a1 a2 a3 v58 v65 m90
      ),
      (
        dRc xm m90 a1 11 <|
        dCI (m_K_many xm N a1 14 m90) fun v650 m650 =>
        dCI (m_law_below xm N ((v37 >>> (((a3 / 20) * 4) &&& 31)) >>> (4 &&& 31)) v650 m650) fun v653 m653 =>
        dRc xm m653 a1 11 <|
        dCI (m_K_would xm N a1 v653 m653) fun v661 m661 =>
        dRc xm m661 a1 11 <|
        dCI (m_K_needs xm N a1 v653 m661) fun v669 m669 =>
        if v58 = 0 then (
          m_law_law_1303 xm N (fun a0 a1 a2 a3 mem => m_law_law_23 xm N n a0 a1 a2 a3 mem) a0 a1 a2 a3 m669
        ) else (
          dRc xm m669 a1 11 <|
          dCI (m_K_follow xm N a1 v653 m669) fun v685 m685 =>
          if 99 < v685 then (
            some (.inl (some (.int 0)), m685)
          ) else (
            dRc xm m685 a1 11 <|
            dCI (m_K_many xm N a1 3 m685) fun v695 m695 =>
            dRc xm m695 a1 11 <|
            dCI (m_K_many xm N a1 4 m695) fun v700 m700 =>
            if (v695 + v700) = v661 then (
              dRc xm m700 a1 11 <|
              dCI (m_K_many xm N a1 1 m700) fun v711 m711 =>
              if v711 = (v51 - v669) then (
                m_law_law_1303 xm N (fun a0 a1 a2 a3 mem => m_law_law_23 xm N n a0 a1 a2 a3 mem) a0 a1 a2 a3 m711
              ) else (
                some (.inl (some (.int 0)), m711)
              )
            ) else (
              some (.inl (some (.int 0)), m700)
            )
          )
        )
      ),
      (
        m_law_law_724 xm N (fun a0 a1 a2 a3 mem => m_law_law_23 xm N n a0 a1 a2 a3 mem) a0 a1 a2 a3 v51 v73 m90
      ),
      (
        m_law_law_724 xm N (fun a0 a1 a2 a3 mem => m_law_law_23 xm N n a0 a1 a2 a3 mem) a0 a1 a2 a3 v51 v73 m90
      ),
      (
        m_law_law_791 xm N (fun a0 a1 a2 a3 mem => m_law_law_23 xm N n a0 a1 a2 a3 mem) a0 a1 a2 a3 v58 v81 m90
      ),
      (
        m_law_law_791 xm N (fun a0 a1 a2 a3 mem => m_law_law_23 xm N n a0 a1 a2 a3 mem) a0 a1 a2 a3 v58 v81 m90
      ),
      (
        dRc xm m90 a1 11 <|
        dCI (m_K_many xm N a1 12 m90) fun v883 m883 =>
        if (v883 - 1) < 0 then (
          m_law_law_1303 xm N (fun a0 a1 a2 a3 mem => m_law_law_23 xm N n a0 a1 a2 a3 mem) a0 a1 a2 a3 m883
        ) else (
          dRc xm m883 a1 11 <|
          dCI (m_K_ofRun xm N a1 (v883 - 1) 3 m883) fun v899 m899 =>
          if v899 = 0 then (
            m_law_law_1303 xm N (fun a0 a1 a2 a3 mem => m_law_law_23 xm N n a0 a1 a2 a3 mem) a0 a1 a2 a3 m899
          ) else (
            if (v58 + v65) = 24 then (
              m_law_law_1303 xm N (fun a0 a1 a2 a3 mem => m_law_law_23 xm N n a0 a1 a2 a3 mem) a0 a1 a2 a3 m899
            ) else (
              dRc xm m899 a1 11 <|
              dCI (m_K_latch xm N a1 (v883 - 1) m899) fun v921 m921 =>
              dRc xm m921 a1 11 <|
              dCI (m_K_ofRun xm N a1 (v883 - 1) 2 m921) fun v928 m928 =>
              if v921 = v928 then (
                dRc xm m928 a1 11 <|
                dCI (m_K_on xm N a1 0 0 m928) fun v937 m937 =>
                dRc xm m937 a1 11 <|
                dCI (m_K_ofRun xm N a1 (v883 - 1) 0 m937) fun v944 m944 =>
                if v937 = v944 then (
                  dRc xm m944 a1 11 <|
                  dCI (m_K_ofRun xm N a1 (v883 - 1) 3 m944) fun v954 m954 =>
                  if v954 = 0 then (
                    dRc xm m954 a1 11 <|
                    dCI (m_K_many xm N a1 3 m954) fun v962 m962 =>
                    if v962 = (v58 + 1) then (
                      m_law_law_1303 xm N (fun a0 a1 a2 a3 mem => m_law_law_23 xm N n a0 a1 a2 a3 mem) a0 a1 a2 a3 m962
                    ) else (
                      some (.inl (some (.int 0)), m962)
                    )
                  ) else (
                    some (.inl (some (.int 0)), m954)
                  )
                ) else (
                  some (.inl (some (.int 0)), m944)
                )
              ) else (
                some (.inl (some (.int 0)), m928)
              )
            )
          )
        )
      ),
      (
        dCI (m_law_below xm N ((v37 >>> (((a3 / 20) * 4) &&& 31)) >>> (4 &&& 31)) 3 m90) fun v980 m980 =>
        if (1 + v980) < v65 then (
          dRc xm m980 a1 11 <|
          dCI (m_K_many xm N a1 11 m980) fun v999 m999 =>
          dRc xm m999 a1 11 <|
          dCI (m_K_on xm N a1 1 0 m999) fun v1007 m1007 =>
          dRc xm m1007 a1 11 <|
          dCI (m_K_on xm N a1 1 1 m1007) fun v1015 m1015 =>
          dRc xm m1015 a1 11 <|
          dCI (m_K_bind xm N a1 (1 + v980) m1015) fun v1023 m1023 =>
          if v1023 = ((v58 + v65) - (1 + v980)) then (
            dRc xm m1023 a1 11 <|
            dCI (m_K_many xm N a1 11 m1023) fun v1040 m1040 =>
            if v1040 = (v999 + (1 + v980)) then (
              dRc xm m1040 a1 11 <|
              dCI (m_K_on xm N a1 1 0 m1040) fun v1054 m1054 =>
              if v1054 = v1007 then (
                dRc xm m1054 a1 11 <|
                dCI (m_K_ofLoop xm N a1 v1015 5 m1054) fun v1066 m1066 =>
                if v1066 = 3 then (
                  dRc xm m1066 a1 11 <|
                  dCI (m_K_many xm N a1 1 m1066) fun v1075 m1075 =>
                  if v1075 = v51 then (
                    m_law_law_1303 xm N (fun a0 a1 a2 a3 mem => m_law_law_23 xm N n a0 a1 a2 a3 mem) a0 a1 a2 a3 m1075
                  ) else (
                    some (.inl (some (.int 0)), m1075)
                  )
                ) else (
                  some (.inl (some (.int 0)), m1066)
                )
              ) else (
                some (.inl (some (.int 0)), m1054)
              )
            ) else (
              some (.inl (some (.int 0)), m1040)
            )
          ) else (
            some (.inl (some (.int 0)), m1023)
          )
        ) else (
          m_law_law_1303 xm N (fun a0 a1 a2 a3 mem => m_law_law_23 xm N n a0 a1 a2 a3 mem) a0 a1 a2 a3 m980
        )
      ),
      (
        dCI (m_law_below xm N ((v37 >>> (((a3 / 20) * 4) &&& 31)) >>> (4 &&& 31)) 3 m90) fun v1091 m1091 =>
        dCI (m_law_below xm N ((v37 >>> (((a3 / 20) * 4) &&& 31)) >>> (6 &&& 31)) 3 m1091) fun v1104 m1104 =>
        if v58 < ((1 + v1091) + (1 + v1104)) then (
          m_law_law_1303 xm N (fun a0 a1 a2 a3 mem => m_law_law_23 xm N n a0 a1 a2 a3 mem) a0 a1 a2 a3 m1104
        ) else (
          dRc xm m1104 a1 11 <|
          dCI (m_K_on xm N a1 0 (1 + v1091) m1104) fun v1127 m1127 =>
          dRc xm m1127 a1 11 <|
          dCI (m_K_many xm N a1 9 m1127) fun v1135 m1135 =>
          dRc xm m1135 a1 11 <|
          dCI (m_K_cross xm N a1 (1 + v1091) (1 + v1104) m1135) fun v1145 m1145 =>
          if v1145 = v1127 then (
            dRc xm m1145 a1 11 <|
            dCI (m_K_on xm N a1 0 (1 + v1104) m1145) fun v1157 m1157 =>
            if v1157 = v81 then (
              dRc xm m1157 a1 11 <|
              dCI (m_K_many xm N a1 9 m1157) fun v1168 m1168 =>
              if v1168 = (v1135 + 1) then (
                dRc xm m1168 a1 11 <|
                dCI (m_K_many xm N a1 3 m1168) fun v1180 m1180 =>
                if v1180 = v58 then (
                  m_law_law_1303 xm N (fun a0 a1 a2 a3 mem => m_law_law_23 xm N n a0 a1 a2 a3 mem) a0 a1 a2 a3 m1180
                ) else (
                  some (.inl (some (.int 0)), m1180)
                )
              ) else (
                some (.inl (some (.int 0)), m1168)
              )
            ) else (
              some (.inl (some (.int 0)), m1157)
            )
          ) else (
            some (.inl (some (.int 0)), m1145)
          )
        )
      )
      ]
    ) else (
      dRc xm mem a1 11 <|
      dCJ (m_K_digest xm N a1 mem) fun v1328 m1328 =>
      dCI (m_law_isSo xm N a1 m1328) fun v1333 m1333 =>
      if v1333 = 0 then (
        some (.inl (some (.int 0)), m1333)
      ) else (
        dRc xm m1333 a1 11 <|
        dCJ (m_K_digest xm N a1 m1333) fun v1340 m1340 =>
        if (lg_cmp v1340 v1328) = 0 then (
          some (.inl (some (.int 1)), m1340)
        ) else (
          some (.inl (some (.int 0)), m1340)
        )
      )
    )
theorem m_law_law_23_ok (hz : z.category = 1) (xm : Nat → Option kE) (N : Nat) : ∀ (n : Nat) (a0 : Nat) (a1 : Nat) (a2 : Int32) (a3 : Int32) (mem : kM) (R : kO × kM), m_law_law_23 xm N n a0 a1 a2 a3 mem = some R → kGo xm (kSm z) kDfl kFty kG 10 0 23 [(0, .ref a0), (1, .ref a1), (2, .int a2), (3, .int a3)] [] mem (dEq R) := by
  intro n
  induction n with
  | zero => intro a0 a1 a2 a3 mem R h; cases h
  | succ n ih =>
    intro a0 a1 a2 a3 mem R h
    rw [m_law_law_23] at h
    refine wp_run 2 (pc' := 26) (lv' := [(0, .ref a0), (1, .ref a1), (2, .int a2), (3, .int a3)]) (st' := [.int 45, .int a3]) (mem' := mem) rfl ?_
    refine wq_ge2 rfl h (fun h => ?_) (fun h => ?_)
    · refine wp_run 4 (pc' := 35) (lv' := [(0, .ref a0), (1, .ref a1), (2, .int a2), (3, .int a3)]) (st' := [.int 20, .int a3, .int 8, .ref a0]) (mem' := mem) rfl ?_
      refine wq_irem rfl h (fun h => ?_)
      refine wp_run 1 (pc' := 37) (lv' := [(0, .ref a0), (1, .ref a1), (2, .int a2), (3, .int a3)]) (st' := [.int (8 + (a3 - a3 / 20 * 20)), .ref a0]) (mem' := mem) rfl ?_
      refine wq_cI rfl (kCall_s (as := [.ref a0, .int (8 + (a3 - a3 / 20 * 20))]) (rest := []) ⟨by decide, rfl⟩ (show 0 ≤ 8 by decide) (by decide)) h (fun r hr => ca_up (by decide) (m_law_cell_ok hz xm N hr)) (fun v37 m37 h => ?_)
      refine wp_run 2 (pc' := 43) (lv' := [(0, .ref a0), (1, .ref a1), (2, .int a2), (3, .int a3)]) (st' := [.int 20, .int a3, .int v37]) (mem' := m37) rfl ?_
      refine wq_idiv rfl h (fun h => ?_)
      refine wp_run 6 (pc' := 51) (lv' := [(4, .int (v37 >>> (((a3 / 20) * 4) &&& 31))), (0, .ref a0), (1, .ref a1), (2, .int a2), (3, .int a3)]) (st' := [.int 1, .ref a1]) (mem' := m37) rfl ?_
      obtain ⟨fk51, hk51, h⟩ := dRc_some h
      refine wq_cI rfl (kCall_v hk51 (as := [.int 1]) (rest := []) ⟨by decide, rfl, (show 1 < 90 by decide), by decide⟩ (show 0 ≤ 8 by decide)) h (fun r hr => ca_up (by decide) (m_K_many_ok hz xm N hr)) (fun v51 m51 h => ?_)
      refine wp_run 3 (pc' := 58) (lv' := [(5, .int v51), (4, .int (v37 >>> (((a3 / 20) * 4) &&& 31))), (0, .ref a0), (1, .ref a1), (2, .int a2), (3, .int a3)]) (st' := [.int 3, .ref a1]) (mem' := m51) rfl ?_
      obtain ⟨fk58, hk58, h⟩ := dRc_some h
      refine wq_cI rfl (kCall_v hk58 (as := [.int 3]) (rest := []) ⟨by decide, rfl, (show 1 < 90 by decide), by decide⟩ (show 0 ≤ 8 by decide)) h (fun r hr => ca_up (by decide) (m_K_many_ok hz xm N hr)) (fun v58 m58 h => ?_)
      refine wp_run 3 (pc' := 65) (lv' := [(6, .int v58), (5, .int v51), (4, .int (v37 >>> (((a3 / 20) * 4) &&& 31))), (0, .ref a0), (1, .ref a1), (2, .int a2), (3, .int a3)]) (st' := [.int 4, .ref a1]) (mem' := m58) rfl ?_
      obtain ⟨fk65, hk65, h⟩ := dRc_some h
      refine wq_cI rfl (kCall_v hk65 (as := [.int 4]) (rest := []) ⟨by decide, rfl, (show 1 < 90 by decide), by decide⟩ (show 0 ≤ 8 by decide)) h (fun r hr => ca_up (by decide) (m_K_many_ok hz xm N hr)) (fun v65 m65 h => ?_)
      refine wp_run 3 (pc' := 73) (lv' := [(7, .int v65), (6, .int v58), (5, .int v51), (4, .int (v37 >>> (((a3 / 20) * 4) &&& 31))), (0, .ref a0), (1, .ref a1), (2, .int a2), (3, .int a3)]) (st' := [.int 7, .ref a1]) (mem' := m65) rfl ?_
      obtain ⟨fk73, hk73, h⟩ := dRc_some h
      refine wq_cI rfl (kCall_v hk73 (as := [.int 7]) (rest := []) ⟨by decide, rfl, (show 1 < 90 by decide), by decide⟩ (show 0 ≤ 8 by decide)) h (fun r hr => ca_up (by decide) (m_K_many_ok hz xm N hr)) (fun v73 m73 h => ?_)
      refine wp_run 4 (pc' := 81) (lv' := [(8, .int v73), (7, .int v65), (6, .int v58), (5, .int v51), (4, .int (v37 >>> (((a3 / 20) * 4) &&& 31))), (0, .ref a0), (1, .ref a1), (2, .int a2), (3, .int a3)]) (st' := [.int 0, .int 0, .ref a1]) (mem' := m73) rfl ?_
      obtain ⟨fk81, hk81, h⟩ := dRc_some h
      refine wq_cI rfl (kCall_v hk81 (as := [.int 0, .int 0]) (rest := []) ⟨by decide, rfl, (show 2 < 90 by decide), by decide⟩ (show 0 ≤ 8 by decide)) h (fun r hr => ca_up (by decide) (m_K_on_ok hz xm N hr)) (fun v81 m81 h => ?_)
      refine wp_run 3 (pc' := 90) (lv' := [(9, .int v81), (8, .int v73), (7, .int v65), (6, .int v58), (5, .int v51), (4, .int (v37 >>> (((a3 / 20) * 4) &&& 31))), (0, .ref a0), (1, .ref a1), (2, .int a2), (3, .int a3)]) (st' := [.int 17, .int (v37 >>> (((a3 / 20) * 4) &&& 31))]) (mem' := m81) rfl ?_
      refine wq_cI rfl (kCall_s (as := [.int (v37 >>> (((a3 / 20) * 4) &&& 31)), .int 17]) (rest := []) ⟨by decide, rfl⟩ (show 0 ≤ 8 by decide) (by decide)) h (fun r hr => ca_up (by decide) (m_law_below_ok hz xm N hr)) (fun v90 m90 h => ?_)
      refine wq_sw rfl h rfl (fun h => ?_) (And.intro (fun h => ?_) (And.intro (fun h => ?_) (And.intro (fun h => ?_) (And.intro (fun h => ?_) (And.intro (fun h => ?_) (And.intro (fun h => ?_) (And.intro (fun h => ?_) (And.intro (fun h => ?_) (And.intro (fun h => ?_) (And.intro (fun h => ?_) (And.intro (fun h => ?_) (And.intro (fun h => ?_) (And.intro (fun h => ?_) (And.intro (fun h => ?_) (And.intro (fun h => ?_) (True.intro))))))))))))))))
      · change kGo xm (kSm z) kDfl kFty kG 10 0 1190 [(9, .int v81), (8, .int v73), (7, .int v65), (6, .int v58), (5, .int v51), (4, .int (v37 >>> (((a3 / 20) * 4) &&& 31))), (0, .ref a0), (1, .ref a1), (2, .int a2), (3, .int a3)] [] m90 (dEq R)
        refine wp_run 5 (pc' := 1196) (lv' := [(9, .int v81), (8, .int v73), (7, .int v65), (6, .int v58), (5, .int v51), (4, .int (v37 >>> (((a3 / 20) * 4) &&& 31))), (0, .ref a0), (1, .ref a1), (2, .int a2), (3, .int a3)]) (st' := [.int 4, .int ((v37 >>> (((a3 / 20) * 4) &&& 31)) >>> (4 &&& 31)), .int 1]) (mem' := m90) rfl ?_
        refine wq_cI rfl (kCall_s (as := [.int ((v37 >>> (((a3 / 20) * 4) &&& 31)) >>> (4 &&& 31)), .int 4]) (rest := [.int 1]) ⟨by decide, rfl⟩ (show 1 ≤ 8 by decide) (by decide)) h (fun r hr => ca_up (by decide) (m_law_below_ok hz xm N hr)) (fun v1196 m1196 h => ?_)
        refine wp_run 8 (pc' := 1212) (lv' := [(10, .int (1 + v1196)), (9, .int v81), (8, .int v73), (7, .int v65), (6, .int v58), (5, .int v51), (4, .int (v37 >>> (((a3 / 20) * 4) &&& 31))), (0, .ref a0), (1, .ref a1), (2, .int a2), (3, .int a3)]) (st' := [.int 24, .int ((v58 + v65) + (1 + v1196))]) (mem' := m1196) rfl ?_
        refine wq_gt2 rfl h (fun h => ?_) (fun h => ?_)
        · refine kGo_sub (lvS_of [7, 8, 9, 10] rfl [10, 9, 8, 7, 6, 5, 4, 0, 1, 2, 3] rfl (by decide)) ?_
          exact m_law_law_1303_ok hz xm N _ ih _ _ _ _ m1196 R h
        · refine wp_run 3 (pc' := 1218) (lv' := [(10, .int (1 + v1196)), (9, .int v81), (8, .int v73), (7, .int v65), (6, .int v58), (5, .int v51), (4, .int (v37 >>> (((a3 / 20) * 4) &&& 31))), (0, .ref a0), (1, .ref a1), (2, .int a2), (3, .int a3)]) (st' := [.int 2, .ref a1, .ref a1]) (mem' := m1196) rfl ?_
          obtain ⟨fk1218, hk1218, h⟩ := dRc_some h
          refine wq_cI rfl (kCall_v hk1218 (as := [.int 2]) (rest := [.ref a1]) ⟨by decide, rfl, (show 1 < 90 by decide), by decide⟩ (show 1 ≤ 8 by decide)) h (fun r hr => ca_up (by decide) (m_K_many_ok hz xm N hr)) (fun v1218 m1218 h => ?_)
          obtain ⟨fk1221, hk1221, h⟩ := dRc_some h
          refine wq_cI rfl (kCall_v hk1221 (as := [.int v1218]) (rest := []) ⟨by decide, rfl, (show 1 < 90 by decide), by decide⟩ (show 0 ≤ 8 by decide)) h (fun r hr => ca_up (by decide) (m_K_left_ok hz xm N hr)) (fun v1221 m1221 h => ?_)
          refine wp_run 3 (pc' := 1228) (lv' := [(10, .int (1 + v1196)), (9, .int v81), (8, .int v73), (7, .int v65), (6, .int v58), (5, .int v51), (4, .int (v37 >>> (((a3 / 20) * 4) &&& 31))), (0, .ref a0), (1, .ref a1), (2, .int a2), (3, .int a3)]) (st' := [.int (2 * (1 + v1196)), .int v1221]) (mem' := m1221) rfl ?_
          refine wq_ge2 rfl h (fun h => ?_) (fun h => ?_)
          · refine wp_run 1 (pc' := 1303) (lv' := [(10, .int (1 + v1196)), (9, .int v81), (8, .int v73), (7, .int v65), (6, .int v58), (5, .int v51), (4, .int (v37 >>> (((a3 / 20) * 4) &&& 31))), (0, .ref a0), (1, .ref a1), (2, .int a2), (3, .int a3)]) (st' := []) (mem' := m1221) rfl ?_
            refine kGo_sub (lvS_of [7, 8, 9, 10] rfl [10, 9, 8, 7, 6, 5, 4, 0, 1, 2, 3] rfl (by decide)) ?_
            exact m_law_law_1303_ok hz xm N _ ih _ _ _ _ m1221 R h
          · refine wp_run 2 (pc' := 1237) (lv' := [(10, .int (1 + v1196)), (9, .int v81), (8, .int v73), (7, .int v65), (6, .int v58), (5, .int v51), (4, .int (v37 >>> (((a3 / 20) * 4) &&& 31))), (0, .ref a0), (1, .ref a1), (2, .int a2), (3, .int a3)]) (st' := [.int (1 + v1196), .ref a1]) (mem' := m1221) rfl ?_
            obtain ⟨fk1237, hk1237, h⟩ := dRc_some h
            refine wq_cI rfl (kCall_v hk1237 (as := [.int (1 + v1196)]) (rest := []) ⟨by decide, rfl, (show 1 < 90 by decide), by decide⟩ (show 0 ≤ 8 by decide)) h (fun r hr => ca_up (by decide) (m_K_cast_ok hz xm N hr)) (fun v1237 m1237 h => ?_)
            refine wp_run 5 (pc' := 1248) (lv' := [(10, .int (1 + v1196)), (9, .int v81), (8, .int v73), (7, .int v65), (6, .int v58), (5, .int v51), (4, .int (v37 >>> (((a3 / 20) * 4) &&& 31))), (0, .ref a0), (1, .ref a1), (2, .int a2), (3, .int a3)]) (st' := [.int ((v58 + v65) + (1 + v1196)), .int v1237]) (mem' := m1237) rfl ?_
            refine wq_ne2 rfl h (fun h => ?_) (fun h => ?_)
            · refine wp_run 2 (pc' := 1254) (lv' := [(10, .int (1 + v1196)), (9, .int v81), (8, .int v73), (7, .int v65), (6, .int v58), (5, .int v51), (4, .int (v37 >>> (((a3 / 20) * 4) &&& 31))), (0, .ref a0), (1, .ref a1), (2, .int a2), (3, .int a3)]) (st' := [.int 7, .ref a1]) (mem' := m1237) rfl ?_
              obtain ⟨fk1254, hk1254, h⟩ := dRc_some h
              refine wq_cI rfl (kCall_v hk1254 (as := [.int 7]) (rest := []) ⟨by decide, rfl, (show 1 < 90 by decide), by decide⟩ (show 0 ≤ 8 by decide)) h (fun r hr => ca_up (by decide) (m_K_many_ok hz xm N hr)) (fun v1254 m1254 h => ?_)
              refine wp_run 3 (pc' := 1262) (lv' := [(10, .int (1 + v1196)), (9, .int v81), (8, .int v73), (7, .int v65), (6, .int v58), (5, .int v51), (4, .int (v37 >>> (((a3 / 20) * 4) &&& 31))), (0, .ref a0), (1, .ref a1), (2, .int a2), (3, .int a3)]) (st' := [.int (v73 + (1 + v1196)), .int v1254]) (mem' := m1254) rfl ?_
              refine wq_ne2 rfl h (fun h => ?_) (fun h => ?_)
              · refine wp_run 2 (pc' := 1267) (lv' := [(10, .int (1 + v1196)), (9, .int v81), (8, .int v73), (7, .int v65), (6, .int v58), (5, .int v51), (4, .int (v37 >>> (((a3 / 20) * 4) &&& 31))), (0, .ref a0), (1, .ref a1), (2, .int a2), (3, .int a3)]) (st' := [.int 1, .ref a1]) (mem' := m1254) rfl ?_
                obtain ⟨fk1267, hk1267, h⟩ := dRc_some h
                refine wq_cI rfl (kCall_v hk1267 (as := [.int 1]) (rest := []) ⟨by decide, rfl, (show 1 < 90 by decide), by decide⟩ (show 0 ≤ 8 by decide)) h (fun r hr => ca_up (by decide) (m_K_many_ok hz xm N hr)) (fun v1267 m1267 h => ?_)
                refine wp_run 5 (pc' := 1277) (lv' := [(10, .int (1 + v1196)), (9, .int v81), (8, .int v73), (7, .int v65), (6, .int v58), (5, .int v51), (4, .int (v37 >>> (((a3 / 20) * 4) &&& 31))), (0, .ref a0), (1, .ref a1), (2, .int a2), (3, .int a3)]) (st' := [.int (v51 - (2 * (1 + v1196))), .int v1267]) (mem' := m1267) rfl ?_
                refine wq_ne2 rfl h (fun h => ?_) (fun h => ?_)
                · refine wp_run 3 (pc' := 1284) (lv' := [(10, .int (1 + v1196)), (9, .int v81), (8, .int v73), (7, .int v65), (6, .int v58), (5, .int v51), (4, .int (v37 >>> (((a3 / 20) * 4) &&& 31))), (0, .ref a0), (1, .ref a1), (2, .int a2), (3, .int a3)]) (st' := [.int 0, .int v73, .ref a1]) (mem' := m1267) rfl ?_
                  obtain ⟨fk1284, hk1284, h⟩ := dRc_some h
                  refine wq_cI rfl (kCall_v hk1284 (as := [.int v73, .int 0]) (rest := []) ⟨by decide, rfl, (show 2 < 90 by decide), by decide⟩ (show 0 ≤ 8 by decide)) h (fun r hr => ca_up (by decide) (m_K_ofLoop_ok hz xm N hr)) (fun v1284 m1284 h => ?_)
                  refine wq_ne rfl h (fun h => ?_) (fun h => ?_)
                  · refine wp_run 3 (pc' := 1294) (lv' := [(10, .int (1 + v1196)), (9, .int v81), (8, .int v73), (7, .int v65), (6, .int v58), (5, .int v51), (4, .int (v37 >>> (((a3 / 20) * 4) &&& 31))), (0, .ref a0), (1, .ref a1), (2, .int a2), (3, .int a3)]) (st' := [.int 3, .int v73, .ref a1]) (mem' := m1284) rfl ?_
                    obtain ⟨fk1294, hk1294, h⟩ := dRc_some h
                    refine wq_cI rfl (kCall_v hk1294 (as := [.int v73, .int 3]) (rest := []) ⟨by decide, rfl, (show 2 < 90 by decide), by decide⟩ (show 0 ≤ 8 by decide)) h (fun r hr => ca_up (by decide) (m_K_ofLoop_ok hz xm N hr)) (fun v1294 m1294 h => ?_)
                    refine wp_run 1 (pc' := 1298) (lv' := [(10, .int (1 + v1196)), (9, .int v81), (8, .int v73), (7, .int v65), (6, .int v58), (5, .int v51), (4, .int (v37 >>> (((a3 / 20) * 4) &&& 31))), (0, .ref a0), (1, .ref a1), (2, .int a2), (3, .int a3)]) (st' := [.int 1, .int v1294]) (mem' := m1294) rfl ?_
                    refine wq_eq2 rfl h (fun h => ?_) (fun h => ?_)
                    · refine kGo_sub (lvS_of [7, 8, 9, 10] rfl [10, 9, 8, 7, 6, 5, 4, 0, 1, 2, 3] rfl (by decide)) ?_
                      exact m_law_law_1303_ok hz xm N _ ih _ _ _ _ m1294 R h
                    · refine wp_run 1 (pc' := 1302) (lv' := [(10, .int (1 + v1196)), (9, .int v81), (8, .int v73), (7, .int v65), (6, .int v58), (5, .int v51), (4, .int (v37 >>> (((a3 / 20) * 4) &&& 31))), (0, .ref a0), (1, .ref a1), (2, .int a2), (3, .int a3)]) (st' := [.int 0]) (mem' := m1294) rfl ?_
                      exact wq_ret rfl rfl h
                  · refine wp_run 1 (pc' := 1302) (lv' := [(10, .int (1 + v1196)), (9, .int v81), (8, .int v73), (7, .int v65), (6, .int v58), (5, .int v51), (4, .int (v37 >>> (((a3 / 20) * 4) &&& 31))), (0, .ref a0), (1, .ref a1), (2, .int a2), (3, .int a3)]) (st' := [.int 0]) (mem' := m1284) rfl ?_
                    exact wq_ret rfl rfl h
                · refine wp_run 1 (pc' := 1302) (lv' := [(10, .int (1 + v1196)), (9, .int v81), (8, .int v73), (7, .int v65), (6, .int v58), (5, .int v51), (4, .int (v37 >>> (((a3 / 20) * 4) &&& 31))), (0, .ref a0), (1, .ref a1), (2, .int a2), (3, .int a3)]) (st' := [.int 0]) (mem' := m1267) rfl ?_
                  exact wq_ret rfl rfl h
              · refine wp_run 1 (pc' := 1302) (lv' := [(10, .int (1 + v1196)), (9, .int v81), (8, .int v73), (7, .int v65), (6, .int v58), (5, .int v51), (4, .int (v37 >>> (((a3 / 20) * 4) &&& 31))), (0, .ref a0), (1, .ref a1), (2, .int a2), (3, .int a3)]) (st' := [.int 0]) (mem' := m1254) rfl ?_
                exact wq_ret rfl rfl h
            · refine wp_run 1 (pc' := 1302) (lv' := [(10, .int (1 + v1196)), (9, .int v81), (8, .int v73), (7, .int v65), (6, .int v58), (5, .int v51), (4, .int (v37 >>> (((a3 / 20) * 4) &&& 31))), (0, .ref a0), (1, .ref a1), (2, .int a2), (3, .int a3)]) (st' := [.int 0]) (mem' := m1237) rfl ?_
              exact wq_ret rfl rfl h
      · change kGo xm (kSm z) kDfl kFty kG 10 0 168 [(9, .int v81), (8, .int v73), (7, .int v65), (6, .int v58), (5, .int v51), (4, .int (v37 >>> (((a3 / 20) * 4) &&& 31))), (0, .ref a0), (1, .ref a1), (2, .int a2), (3, .int a3)] [] m90 (dEq R)
        refine kGo_sub (lvS_of [6, 7, 8, 9, 5, 4, 3, 2, 1, 0] rfl [9, 8, 7, 6, 5, 4, 0, 1, 2, 3] rfl (by decide)) ?_
        exact m_law_law_168_ok hz xm N _ ih _ _ _ _ _ _ _ _ _ _ m90 R h
      · change kGo xm (kSm z) kDfl kFty kG 10 0 168 [(9, .int v81), (8, .int v73), (7, .int v65), (6, .int v58), (5, .int v51), (4, .int (v37 >>> (((a3 / 20) * 4) &&& 31))), (0, .ref a0), (1, .ref a1), (2, .int a2), (3, .int a3)] [] m90 (dEq R)
        refine kGo_sub (lvS_of [6, 7, 8, 9, 5, 4, 3, 2, 1, 0] rfl [9, 8, 7, 6, 5, 4, 0, 1, 2, 3] rfl (by decide)) ?_
        exact m_law_law_168_ok hz xm N _ ih _ _ _ _ _ _ _ _ _ _ m90 R h
      · change kGo xm (kSm z) kDfl kFty kG 10 0 168 [(9, .int v81), (8, .int v73), (7, .int v65), (6, .int v58), (5, .int v51), (4, .int (v37 >>> (((a3 / 20) * 4) &&& 31))), (0, .ref a0), (1, .ref a1), (2, .int a2), (3, .int a3)] [] m90 (dEq R)
        refine kGo_sub (lvS_of [6, 7, 8, 9, 5, 4, 3, 2, 1, 0] rfl [9, 8, 7, 6, 5, 4, 0, 1, 2, 3] rfl (by decide)) ?_
        exact m_law_law_168_ok hz xm N _ ih _ _ _ _ _ _ _ _ _ _ m90 R h
      · change kGo xm (kSm z) kDfl kFty kG 10 0 168 [(9, .int v81), (8, .int v73), (7, .int v65), (6, .int v58), (5, .int v51), (4, .int (v37 >>> (((a3 / 20) * 4) &&& 31))), (0, .ref a0), (1, .ref a1), (2, .int a2), (3, .int a3)] [] m90 (dEq R)
        refine kGo_sub (lvS_of [6, 7, 8, 9, 5, 4, 3, 2, 1, 0] rfl [9, 8, 7, 6, 5, 4, 0, 1, 2, 3] rfl (by decide)) ?_
        exact m_law_law_168_ok hz xm N _ ih _ _ _ _ _ _ _ _ _ _ m90 R h
      · change kGo xm (kSm z) kDfl kFty kG 10 0 544 [(9, .int v81), (8, .int v73), (7, .int v65), (6, .int v58), (5, .int v51), (4, .int (v37 >>> (((a3 / 20) * 4) &&& 31))), (0, .ref a0), (1, .ref a1), (2, .int a2), (3, .int a3)] [] m90 (dEq R)
        refine kGo_sub (lvS_of [6, 7, 8, 9, 3, 2] rfl [9, 8, 7, 6, 5, 4, 0, 1, 2, 3] rfl (by decide)) ?_
        exact m_law_law_544_ok hz xm N _ ih _ _ _ _ _ _ m90 R h
      · change kGo xm (kSm z) kDfl kFty kG 10 0 544 [(9, .int v81), (8, .int v73), (7, .int v65), (6, .int v58), (5, .int v51), (4, .int (v37 >>> (((a3 / 20) * 4) &&& 31))), (0, .ref a0), (1, .ref a1), (2, .int a2), (3, .int a3)] [] m90 (dEq R)
        refine kGo_sub (lvS_of [6, 7, 8, 9, 3, 2] rfl [9, 8, 7, 6, 5, 4, 0, 1, 2, 3] rfl (by decide)) ?_
        exact m_law_law_544_ok hz xm N _ ih _ _ _ _ _ _ m90 R h
      · change kGo xm (kSm z) kDfl kFty kG 10 0 544 [(9, .int v81), (8, .int v73), (7, .int v65), (6, .int v58), (5, .int v51), (4, .int (v37 >>> (((a3 / 20) * 4) &&& 31))), (0, .ref a0), (1, .ref a1), (2, .int a2), (3, .int a3)] [] m90 (dEq R)
        refine kGo_sub (lvS_of [6, 7, 8, 9, 3, 2] rfl [9, 8, 7, 6, 5, 4, 0, 1, 2, 3] rfl (by decide)) ?_
        exact m_law_law_544_ok hz xm N _ ih _ _ _ _ _ _ m90 R h
      · change kGo xm (kSm z) kDfl kFty kG 10 0 643 [(9, .int v81), (8, .int v73), (7, .int v65), (6, .int v58), (5, .int v51), (4, .int (v37 >>> (((a3 / 20) * 4) &&& 31))), (0, .ref a0), (1, .ref a1), (2, .int a2), (3, .int a3)] [] m90 (dEq R)
        refine wp_run 5 (pc' := 650) (lv' := [(9, .int v81), (8, .int v73), (7, .int v65), (6, .int v58), (5, .int v51), (4, .int (v37 >>> (((a3 / 20) * 4) &&& 31))), (0, .ref a0), (1, .ref a1), (2, .int a2), (3, .int a3)]) (st' := [.int 14, .ref a1, .int ((v37 >>> (((a3 / 20) * 4) &&& 31)) >>> (4 &&& 31))]) (mem' := m90) rfl ?_
        obtain ⟨fk650, hk650, h⟩ := dRc_some h
        refine wq_cI rfl (kCall_v hk650 (as := [.int 14]) (rest := [.int ((v37 >>> (((a3 / 20) * 4) &&& 31)) >>> (4 &&& 31))]) ⟨by decide, rfl, (show 1 < 90 by decide), by decide⟩ (show 1 ≤ 8 by decide)) h (fun r hr => ca_up (by decide) (m_K_many_ok hz xm N hr)) (fun v650 m650 h => ?_)
        refine wq_cI rfl (kCall_s (as := [.int ((v37 >>> (((a3 / 20) * 4) &&& 31)) >>> (4 &&& 31)), .int v650]) (rest := []) ⟨by decide, rfl⟩ (show 0 ≤ 8 by decide) (by decide)) h (fun r hr => ca_up (by decide) (m_law_below_ok hz xm N hr)) (fun v653 m653 h => ?_)
        refine wp_run 3 (pc' := 661) (lv' := [(10, .int v653), (9, .int v81), (8, .int v73), (7, .int v65), (6, .int v58), (5, .int v51), (4, .int (v37 >>> (((a3 / 20) * 4) &&& 31))), (0, .ref a0), (1, .ref a1), (2, .int a2), (3, .int a3)]) (st' := [.int v653, .ref a1]) (mem' := m653) rfl ?_
        obtain ⟨fk661, hk661, h⟩ := dRc_some h
        refine wq_cI rfl (kCall_v hk661 (as := [.int v653]) (rest := []) ⟨by decide, rfl, (show 1 < 90 by decide), by decide⟩ (show 0 ≤ 8 by decide)) h (fun r hr => ca_up (by decide) (m_K_would_ok hz xm N hr)) (fun v661 m661 h => ?_)
        refine wp_run 3 (pc' := 669) (lv' := [(11, .int v661), (10, .int v653), (9, .int v81), (8, .int v73), (7, .int v65), (6, .int v58), (5, .int v51), (4, .int (v37 >>> (((a3 / 20) * 4) &&& 31))), (0, .ref a0), (1, .ref a1), (2, .int a2), (3, .int a3)]) (st' := [.int v653, .ref a1]) (mem' := m661) rfl ?_
        obtain ⟨fk669, hk669, h⟩ := dRc_some h
        refine wq_cI rfl (kCall_v hk669 (as := [.int v653]) (rest := []) ⟨by decide, rfl, (show 1 < 90 by decide), by decide⟩ (show 0 ≤ 8 by decide)) h (fun r hr => ca_up (by decide) (m_K_needs_ok hz xm N hr)) (fun v669 m669 h => ?_)
        refine wp_run 2 (pc' := 676) (lv' := [(12, .int v669), (11, .int v661), (10, .int v653), (9, .int v81), (8, .int v73), (7, .int v65), (6, .int v58), (5, .int v51), (4, .int (v37 >>> (((a3 / 20) * 4) &&& 31))), (0, .ref a0), (1, .ref a1), (2, .int a2), (3, .int a3)]) (st' := [.int v58]) (mem' := m669) rfl ?_
        refine wq_ne rfl h (fun h => ?_) (fun h => ?_)
        · refine wp_run 1 (pc' := 1303) (lv' := [(12, .int v669), (11, .int v661), (10, .int v653), (9, .int v81), (8, .int v73), (7, .int v65), (6, .int v58), (5, .int v51), (4, .int (v37 >>> (((a3 / 20) * 4) &&& 31))), (0, .ref a0), (1, .ref a1), (2, .int a2), (3, .int a3)]) (st' := []) (mem' := m669) rfl ?_
          refine kGo_sub (lvS_of [9, 10, 11, 12] rfl [12, 11, 10, 9, 8, 7, 6, 5, 4, 0, 1, 2, 3] rfl (by decide)) ?_
          exact m_law_law_1303_ok hz xm N _ ih _ _ _ _ m669 R h
        · refine wp_run 2 (pc' := 685) (lv' := [(12, .int v669), (11, .int v661), (10, .int v653), (9, .int v81), (8, .int v73), (7, .int v65), (6, .int v58), (5, .int v51), (4, .int (v37 >>> (((a3 / 20) * 4) &&& 31))), (0, .ref a0), (1, .ref a1), (2, .int a2), (3, .int a3)]) (st' := [.int v653, .ref a1]) (mem' := m669) rfl ?_
          obtain ⟨fk685, hk685, h⟩ := dRc_some h
          refine wq_cI rfl (kCall_v hk685 (as := [.int v653]) (rest := []) ⟨by decide, rfl, (show 1 < 90 by decide), by decide⟩ (show 0 ≤ 8 by decide)) h (fun r hr => ca_up (by decide) (m_K_follow_ok hz xm N hr)) (fun v685 m685 h => ?_)
          refine wp_run 1 (pc' := 690) (lv' := [(12, .int v669), (11, .int v661), (10, .int v653), (9, .int v81), (8, .int v73), (7, .int v65), (6, .int v58), (5, .int v51), (4, .int (v37 >>> (((a3 / 20) * 4) &&& 31))), (0, .ref a0), (1, .ref a1), (2, .int a2), (3, .int a3)]) (st' := [.int 99, .int v685]) (mem' := m685) rfl ?_
          refine wq_gt2 rfl h (fun h => ?_) (fun h => ?_)
          · refine wp_run 1 (pc' := 723) (lv' := [(12, .int v669), (11, .int v661), (10, .int v653), (9, .int v81), (8, .int v73), (7, .int v65), (6, .int v58), (5, .int v51), (4, .int (v37 >>> (((a3 / 20) * 4) &&& 31))), (0, .ref a0), (1, .ref a1), (2, .int a2), (3, .int a3)]) (st' := [.int 0]) (mem' := m685) rfl ?_
            exact wq_ret rfl rfl h
          · refine wp_run 2 (pc' := 695) (lv' := [(12, .int v669), (11, .int v661), (10, .int v653), (9, .int v81), (8, .int v73), (7, .int v65), (6, .int v58), (5, .int v51), (4, .int (v37 >>> (((a3 / 20) * 4) &&& 31))), (0, .ref a0), (1, .ref a1), (2, .int a2), (3, .int a3)]) (st' := [.int 3, .ref a1]) (mem' := m685) rfl ?_
            obtain ⟨fk695, hk695, h⟩ := dRc_some h
            refine wq_cI rfl (kCall_v hk695 (as := [.int 3]) (rest := []) ⟨by decide, rfl, (show 1 < 90 by decide), by decide⟩ (show 0 ≤ 8 by decide)) h (fun r hr => ca_up (by decide) (m_K_many_ok hz xm N hr)) (fun v695 m695 h => ?_)
            refine wp_run 2 (pc' := 700) (lv' := [(12, .int v669), (11, .int v661), (10, .int v653), (9, .int v81), (8, .int v73), (7, .int v65), (6, .int v58), (5, .int v51), (4, .int (v37 >>> (((a3 / 20) * 4) &&& 31))), (0, .ref a0), (1, .ref a1), (2, .int a2), (3, .int a3)]) (st' := [.int 4, .ref a1, .int v695]) (mem' := m695) rfl ?_
            obtain ⟨fk700, hk700, h⟩ := dRc_some h
            refine wq_cI rfl (kCall_v hk700 (as := [.int 4]) (rest := [.int v695]) ⟨by decide, rfl, (show 1 < 90 by decide), by decide⟩ (show 1 ≤ 8 by decide)) h (fun r hr => ca_up (by decide) (m_K_many_ok hz xm N hr)) (fun v700 m700 h => ?_)
            refine wp_run 2 (pc' := 706) (lv' := [(12, .int v669), (11, .int v661), (10, .int v653), (9, .int v81), (8, .int v73), (7, .int v65), (6, .int v58), (5, .int v51), (4, .int (v37 >>> (((a3 / 20) * 4) &&& 31))), (0, .ref a0), (1, .ref a1), (2, .int a2), (3, .int a3)]) (st' := [.int v661, .int (v695 + v700)]) (mem' := m700) rfl ?_
            refine wq_ne2 rfl h (fun h => ?_) (fun h => ?_)
            · refine wp_run 2 (pc' := 711) (lv' := [(12, .int v669), (11, .int v661), (10, .int v653), (9, .int v81), (8, .int v73), (7, .int v65), (6, .int v58), (5, .int v51), (4, .int (v37 >>> (((a3 / 20) * 4) &&& 31))), (0, .ref a0), (1, .ref a1), (2, .int a2), (3, .int a3)]) (st' := [.int 1, .ref a1]) (mem' := m700) rfl ?_
              obtain ⟨fk711, hk711, h⟩ := dRc_some h
              refine wq_cI rfl (kCall_v hk711 (as := [.int 1]) (rest := []) ⟨by decide, rfl, (show 1 < 90 by decide), by decide⟩ (show 0 ≤ 8 by decide)) h (fun r hr => ca_up (by decide) (m_K_many_ok hz xm N hr)) (fun v711 m711 h => ?_)
              refine wp_run 3 (pc' := 719) (lv' := [(12, .int v669), (11, .int v661), (10, .int v653), (9, .int v81), (8, .int v73), (7, .int v65), (6, .int v58), (5, .int v51), (4, .int (v37 >>> (((a3 / 20) * 4) &&& 31))), (0, .ref a0), (1, .ref a1), (2, .int a2), (3, .int a3)]) (st' := [.int (v51 - v669), .int v711]) (mem' := m711) rfl ?_
              refine wq_eq2 rfl h (fun h => ?_) (fun h => ?_)
              · refine kGo_sub (lvS_of [9, 10, 11, 12] rfl [12, 11, 10, 9, 8, 7, 6, 5, 4, 0, 1, 2, 3] rfl (by decide)) ?_
                exact m_law_law_1303_ok hz xm N _ ih _ _ _ _ m711 R h
              · refine wp_run 1 (pc' := 723) (lv' := [(12, .int v669), (11, .int v661), (10, .int v653), (9, .int v81), (8, .int v73), (7, .int v65), (6, .int v58), (5, .int v51), (4, .int (v37 >>> (((a3 / 20) * 4) &&& 31))), (0, .ref a0), (1, .ref a1), (2, .int a2), (3, .int a3)]) (st' := [.int 0]) (mem' := m711) rfl ?_
                exact wq_ret rfl rfl h
            · refine wp_run 1 (pc' := 723) (lv' := [(12, .int v669), (11, .int v661), (10, .int v653), (9, .int v81), (8, .int v73), (7, .int v65), (6, .int v58), (5, .int v51), (4, .int (v37 >>> (((a3 / 20) * 4) &&& 31))), (0, .ref a0), (1, .ref a1), (2, .int a2), (3, .int a3)]) (st' := [.int 0]) (mem' := m700) rfl ?_
              exact wq_ret rfl rfl h
      · change kGo xm (kSm z) kDfl kFty kG 10 0 724 [(9, .int v81), (8, .int v73), (7, .int v65), (6, .int v58), (5, .int v51), (4, .int (v37 >>> (((a3 / 20) * 4) &&& 31))), (0, .ref a0), (1, .ref a1), (2, .int a2), (3, .int a3)] [] m90 (dEq R)
        refine kGo_sub (lvS_of [6, 7, 8, 9, 4, 1] rfl [9, 8, 7, 6, 5, 4, 0, 1, 2, 3] rfl (by decide)) ?_
        exact m_law_law_724_ok hz xm N _ ih _ _ _ _ _ _ m90 R h
      · change kGo xm (kSm z) kDfl kFty kG 10 0 724 [(9, .int v81), (8, .int v73), (7, .int v65), (6, .int v58), (5, .int v51), (4, .int (v37 >>> (((a3 / 20) * 4) &&& 31))), (0, .ref a0), (1, .ref a1), (2, .int a2), (3, .int a3)] [] m90 (dEq R)
        refine kGo_sub (lvS_of [6, 7, 8, 9, 4, 1] rfl [9, 8, 7, 6, 5, 4, 0, 1, 2, 3] rfl (by decide)) ?_
        exact m_law_law_724_ok hz xm N _ ih _ _ _ _ _ _ m90 R h
      · change kGo xm (kSm z) kDfl kFty kG 10 0 791 [(9, .int v81), (8, .int v73), (7, .int v65), (6, .int v58), (5, .int v51), (4, .int (v37 >>> (((a3 / 20) * 4) &&& 31))), (0, .ref a0), (1, .ref a1), (2, .int a2), (3, .int a3)] [] m90 (dEq R)
        refine kGo_sub (lvS_of [6, 7, 8, 9, 3, 0] rfl [9, 8, 7, 6, 5, 4, 0, 1, 2, 3] rfl (by decide)) ?_
        exact m_law_law_791_ok hz xm N _ ih _ _ _ _ _ _ m90 R h
      · change kGo xm (kSm z) kDfl kFty kG 10 0 791 [(9, .int v81), (8, .int v73), (7, .int v65), (6, .int v58), (5, .int v51), (4, .int (v37 >>> (((a3 / 20) * 4) &&& 31))), (0, .ref a0), (1, .ref a1), (2, .int a2), (3, .int a3)] [] m90 (dEq R)
        refine kGo_sub (lvS_of [6, 7, 8, 9, 3, 0] rfl [9, 8, 7, 6, 5, 4, 0, 1, 2, 3] rfl (by decide)) ?_
        exact m_law_law_791_ok hz xm N _ ih _ _ _ _ _ _ m90 R h
      · change kGo xm (kSm z) kDfl kFty kG 10 0 880 [(9, .int v81), (8, .int v73), (7, .int v65), (6, .int v58), (5, .int v51), (4, .int (v37 >>> (((a3 / 20) * 4) &&& 31))), (0, .ref a0), (1, .ref a1), (2, .int a2), (3, .int a3)] [] m90 (dEq R)
        refine wp_run 2 (pc' := 883) (lv' := [(9, .int v81), (8, .int v73), (7, .int v65), (6, .int v58), (5, .int v51), (4, .int (v37 >>> (((a3 / 20) * 4) &&& 31))), (0, .ref a0), (1, .ref a1), (2, .int a2), (3, .int a3)]) (st' := [.int 12, .ref a1]) (mem' := m90) rfl ?_
        obtain ⟨fk883, hk883, h⟩ := dRc_some h
        refine wq_cI rfl (kCall_v hk883 (as := [.int 12]) (rest := []) ⟨by decide, rfl, (show 1 < 90 by decide), by decide⟩ (show 0 ≤ 8 by decide)) h (fun r hr => ca_up (by decide) (m_K_many_ok hz xm N hr)) (fun v883 m883 h => ?_)
        refine wp_run 4 (pc' := 892) (lv' := [(10, .int (v883 - 1)), (9, .int v81), (8, .int v73), (7, .int v65), (6, .int v58), (5, .int v51), (4, .int (v37 >>> (((a3 / 20) * 4) &&& 31))), (0, .ref a0), (1, .ref a1), (2, .int a2), (3, .int a3)]) (st' := [.int (v883 - 1)]) (mem' := m883) rfl ?_
        refine wq_lt rfl h (fun h => ?_) (fun h => ?_)
        · refine kGo_sub (lvS_of [7, 8, 9, 10] rfl [10, 9, 8, 7, 6, 5, 4, 0, 1, 2, 3] rfl (by decide)) ?_
          exact m_law_law_1303_ok hz xm N _ ih _ _ _ _ m883 R h
        · refine wp_run 3 (pc' := 899) (lv' := [(10, .int (v883 - 1)), (9, .int v81), (8, .int v73), (7, .int v65), (6, .int v58), (5, .int v51), (4, .int (v37 >>> (((a3 / 20) * 4) &&& 31))), (0, .ref a0), (1, .ref a1), (2, .int a2), (3, .int a3)]) (st' := [.int 3, .int (v883 - 1), .ref a1]) (mem' := m883) rfl ?_
          obtain ⟨fk899, hk899, h⟩ := dRc_some h
          refine wq_cI rfl (kCall_v hk899 (as := [.int (v883 - 1), .int 3]) (rest := []) ⟨by decide, rfl, (show 2 < 90 by decide), by decide⟩ (show 0 ≤ 8 by decide)) h (fun r hr => ca_up (by decide) (m_K_ofRun_ok hz xm N hr)) (fun v899 m899 h => ?_)
          refine wq_eq rfl h (fun h => ?_) (fun h => ?_)
          · refine kGo_sub (lvS_of [7, 8, 9, 10] rfl [10, 9, 8, 7, 6, 5, 4, 0, 1, 2, 3] rfl (by decide)) ?_
            exact m_law_law_1303_ok hz xm N _ ih _ _ _ _ m899 R h
          · refine wp_run 4 (pc' := 912) (lv' := [(10, .int (v883 - 1)), (9, .int v81), (8, .int v73), (7, .int v65), (6, .int v58), (5, .int v51), (4, .int (v37 >>> (((a3 / 20) * 4) &&& 31))), (0, .ref a0), (1, .ref a1), (2, .int a2), (3, .int a3)]) (st' := [.int 24, .int (v58 + v65)]) (mem' := m899) rfl ?_
            refine wq_ne2 rfl h (fun h => ?_) (fun h => ?_)
            · refine wp_run 1 (pc' := 1303) (lv' := [(10, .int (v883 - 1)), (9, .int v81), (8, .int v73), (7, .int v65), (6, .int v58), (5, .int v51), (4, .int (v37 >>> (((a3 / 20) * 4) &&& 31))), (0, .ref a0), (1, .ref a1), (2, .int a2), (3, .int a3)]) (st' := []) (mem' := m899) rfl ?_
              refine kGo_sub (lvS_of [7, 8, 9, 10] rfl [10, 9, 8, 7, 6, 5, 4, 0, 1, 2, 3] rfl (by decide)) ?_
              exact m_law_law_1303_ok hz xm N _ ih _ _ _ _ m899 R h
            · refine wp_run 2 (pc' := 921) (lv' := [(10, .int (v883 - 1)), (9, .int v81), (8, .int v73), (7, .int v65), (6, .int v58), (5, .int v51), (4, .int (v37 >>> (((a3 / 20) * 4) &&& 31))), (0, .ref a0), (1, .ref a1), (2, .int a2), (3, .int a3)]) (st' := [.int (v883 - 1), .ref a1]) (mem' := m899) rfl ?_
              obtain ⟨fk921, hk921, h⟩ := dRc_some h
              refine wq_cI rfl (kCall_v hk921 (as := [.int (v883 - 1)]) (rest := []) ⟨by decide, rfl, (show 1 < 90 by decide), by decide⟩ (show 0 ≤ 8 by decide)) h (fun r hr => ca_up (by decide) (m_K_latch_ok hz xm N hr)) (fun v921 m921 h => ?_)
              refine wp_run 3 (pc' := 928) (lv' := [(10, .int (v883 - 1)), (9, .int v81), (8, .int v73), (7, .int v65), (6, .int v58), (5, .int v51), (4, .int (v37 >>> (((a3 / 20) * 4) &&& 31))), (0, .ref a0), (1, .ref a1), (2, .int a2), (3, .int a3)]) (st' := [.int 2, .int (v883 - 1), .ref a1, .int v921]) (mem' := m921) rfl ?_
              obtain ⟨fk928, hk928, h⟩ := dRc_some h
              refine wq_cI rfl (kCall_v hk928 (as := [.int (v883 - 1), .int 2]) (rest := [.int v921]) ⟨by decide, rfl, (show 2 < 90 by decide), by decide⟩ (show 1 ≤ 8 by decide)) h (fun r hr => ca_up (by decide) (m_K_ofRun_ok hz xm N hr)) (fun v928 m928 h => ?_)
              refine wq_ne2 rfl h (fun h => ?_) (fun h => ?_)
              · refine wp_run 3 (pc' := 937) (lv' := [(10, .int (v883 - 1)), (9, .int v81), (8, .int v73), (7, .int v65), (6, .int v58), (5, .int v51), (4, .int (v37 >>> (((a3 / 20) * 4) &&& 31))), (0, .ref a0), (1, .ref a1), (2, .int a2), (3, .int a3)]) (st' := [.int 0, .int 0, .ref a1]) (mem' := m928) rfl ?_
                obtain ⟨fk937, hk937, h⟩ := dRc_some h
                refine wq_cI rfl (kCall_v hk937 (as := [.int 0, .int 0]) (rest := []) ⟨by decide, rfl, (show 2 < 90 by decide), by decide⟩ (show 0 ≤ 8 by decide)) h (fun r hr => ca_up (by decide) (m_K_on_ok hz xm N hr)) (fun v937 m937 h => ?_)
                refine wp_run 3 (pc' := 944) (lv' := [(10, .int (v883 - 1)), (9, .int v81), (8, .int v73), (7, .int v65), (6, .int v58), (5, .int v51), (4, .int (v37 >>> (((a3 / 20) * 4) &&& 31))), (0, .ref a0), (1, .ref a1), (2, .int a2), (3, .int a3)]) (st' := [.int 0, .int (v883 - 1), .ref a1, .int v937]) (mem' := m937) rfl ?_
                obtain ⟨fk944, hk944, h⟩ := dRc_some h
                refine wq_cI rfl (kCall_v hk944 (as := [.int (v883 - 1), .int 0]) (rest := [.int v937]) ⟨by decide, rfl, (show 2 < 90 by decide), by decide⟩ (show 1 ≤ 8 by decide)) h (fun r hr => ca_up (by decide) (m_K_ofRun_ok hz xm N hr)) (fun v944 m944 h => ?_)
                refine wq_ne2 rfl h (fun h => ?_) (fun h => ?_)
                · refine wp_run 3 (pc' := 954) (lv' := [(10, .int (v883 - 1)), (9, .int v81), (8, .int v73), (7, .int v65), (6, .int v58), (5, .int v51), (4, .int (v37 >>> (((a3 / 20) * 4) &&& 31))), (0, .ref a0), (1, .ref a1), (2, .int a2), (3, .int a3)]) (st' := [.int 3, .int (v883 - 1), .ref a1]) (mem' := m944) rfl ?_
                  obtain ⟨fk954, hk954, h⟩ := dRc_some h
                  refine wq_cI rfl (kCall_v hk954 (as := [.int (v883 - 1), .int 3]) (rest := []) ⟨by decide, rfl, (show 2 < 90 by decide), by decide⟩ (show 0 ≤ 8 by decide)) h (fun r hr => ca_up (by decide) (m_K_ofRun_ok hz xm N hr)) (fun v954 m954 h => ?_)
                  refine wq_ne rfl h (fun h => ?_) (fun h => ?_)
                  · refine wp_run 2 (pc' := 962) (lv' := [(10, .int (v883 - 1)), (9, .int v81), (8, .int v73), (7, .int v65), (6, .int v58), (5, .int v51), (4, .int (v37 >>> (((a3 / 20) * 4) &&& 31))), (0, .ref a0), (1, .ref a1), (2, .int a2), (3, .int a3)]) (st' := [.int 3, .ref a1]) (mem' := m954) rfl ?_
                    obtain ⟨fk962, hk962, h⟩ := dRc_some h
                    refine wq_cI rfl (kCall_v hk962 (as := [.int 3]) (rest := []) ⟨by decide, rfl, (show 1 < 90 by decide), by decide⟩ (show 0 ≤ 8 by decide)) h (fun r hr => ca_up (by decide) (m_K_many_ok hz xm N hr)) (fun v962 m962 h => ?_)
                    refine wp_run 3 (pc' := 969) (lv' := [(10, .int (v883 - 1)), (9, .int v81), (8, .int v73), (7, .int v65), (6, .int v58), (5, .int v51), (4, .int (v37 >>> (((a3 / 20) * 4) &&& 31))), (0, .ref a0), (1, .ref a1), (2, .int a2), (3, .int a3)]) (st' := [.int (v58 + 1), .int v962]) (mem' := m962) rfl ?_
                    refine wq_eq2 rfl h (fun h => ?_) (fun h => ?_)
                    · refine kGo_sub (lvS_of [7, 8, 9, 10] rfl [10, 9, 8, 7, 6, 5, 4, 0, 1, 2, 3] rfl (by decide)) ?_
                      exact m_law_law_1303_ok hz xm N _ ih _ _ _ _ m962 R h
                    · refine wp_run 1 (pc' := 973) (lv' := [(10, .int (v883 - 1)), (9, .int v81), (8, .int v73), (7, .int v65), (6, .int v58), (5, .int v51), (4, .int (v37 >>> (((a3 / 20) * 4) &&& 31))), (0, .ref a0), (1, .ref a1), (2, .int a2), (3, .int a3)]) (st' := [.int 0]) (mem' := m962) rfl ?_
                      exact wq_ret rfl rfl h
                  · refine wp_run 1 (pc' := 973) (lv' := [(10, .int (v883 - 1)), (9, .int v81), (8, .int v73), (7, .int v65), (6, .int v58), (5, .int v51), (4, .int (v37 >>> (((a3 / 20) * 4) &&& 31))), (0, .ref a0), (1, .ref a1), (2, .int a2), (3, .int a3)]) (st' := [.int 0]) (mem' := m954) rfl ?_
                    exact wq_ret rfl rfl h
                · refine wp_run 1 (pc' := 973) (lv' := [(10, .int (v883 - 1)), (9, .int v81), (8, .int v73), (7, .int v65), (6, .int v58), (5, .int v51), (4, .int (v37 >>> (((a3 / 20) * 4) &&& 31))), (0, .ref a0), (1, .ref a1), (2, .int a2), (3, .int a3)]) (st' := [.int 0]) (mem' := m944) rfl ?_
                  exact wq_ret rfl rfl h
              · refine wp_run 1 (pc' := 973) (lv' := [(10, .int (v883 - 1)), (9, .int v81), (8, .int v73), (7, .int v65), (6, .int v58), (5, .int v51), (4, .int (v37 >>> (((a3 / 20) * 4) &&& 31))), (0, .ref a0), (1, .ref a1), (2, .int a2), (3, .int a3)]) (st' := [.int 0]) (mem' := m928) rfl ?_
                exact wq_ret rfl rfl h
      · change kGo xm (kSm z) kDfl kFty kG 10 0 974 [(9, .int v81), (8, .int v73), (7, .int v65), (6, .int v58), (5, .int v51), (4, .int (v37 >>> (((a3 / 20) * 4) &&& 31))), (0, .ref a0), (1, .ref a1), (2, .int a2), (3, .int a3)] [] m90 (dEq R)
        refine wp_run 5 (pc' := 980) (lv' := [(9, .int v81), (8, .int v73), (7, .int v65), (6, .int v58), (5, .int v51), (4, .int (v37 >>> (((a3 / 20) * 4) &&& 31))), (0, .ref a0), (1, .ref a1), (2, .int a2), (3, .int a3)]) (st' := [.int 3, .int ((v37 >>> (((a3 / 20) * 4) &&& 31)) >>> (4 &&& 31)), .int 1]) (mem' := m90) rfl ?_
        refine wq_cI rfl (kCall_s (as := [.int ((v37 >>> (((a3 / 20) * 4) &&& 31)) >>> (4 &&& 31)), .int 3]) (rest := [.int 1]) ⟨by decide, rfl⟩ (show 1 ≤ 8 by decide) (by decide)) h (fun r hr => ca_up (by decide) (m_law_below_ok hz xm N hr)) (fun v980 m980 h => ?_)
        refine wp_run 4 (pc' := 990) (lv' := [(10, .int (1 + v980)), (9, .int v81), (8, .int v73), (7, .int v65), (6, .int v58), (5, .int v51), (4, .int (v37 >>> (((a3 / 20) * 4) &&& 31))), (0, .ref a0), (1, .ref a1), (2, .int a2), (3, .int a3)]) (st' := [.int v65, .int (1 + v980)]) (mem' := m980) rfl ?_
        refine wq_lt2 rfl h (fun h => ?_) (fun h => ?_)
        · refine wp_run 2 (pc' := 999) (lv' := [(10, .int (1 + v980)), (9, .int v81), (8, .int v73), (7, .int v65), (6, .int v58), (5, .int v51), (4, .int (v37 >>> (((a3 / 20) * 4) &&& 31))), (0, .ref a0), (1, .ref a1), (2, .int a2), (3, .int a3)]) (st' := [.int 11, .ref a1]) (mem' := m980) rfl ?_
          obtain ⟨fk999, hk999, h⟩ := dRc_some h
          refine wq_cI rfl (kCall_v hk999 (as := [.int 11]) (rest := []) ⟨by decide, rfl, (show 1 < 90 by decide), by decide⟩ (show 0 ≤ 8 by decide)) h (fun r hr => ca_up (by decide) (m_K_many_ok hz xm N hr)) (fun v999 m999 h => ?_)
          refine wp_run 4 (pc' := 1007) (lv' := [(11, .int v999), (10, .int (1 + v980)), (9, .int v81), (8, .int v73), (7, .int v65), (6, .int v58), (5, .int v51), (4, .int (v37 >>> (((a3 / 20) * 4) &&& 31))), (0, .ref a0), (1, .ref a1), (2, .int a2), (3, .int a3)]) (st' := [.int 0, .int 1, .ref a1]) (mem' := m999) rfl ?_
          obtain ⟨fk1007, hk1007, h⟩ := dRc_some h
          refine wq_cI rfl (kCall_v hk1007 (as := [.int 1, .int 0]) (rest := []) ⟨by decide, rfl, (show 2 < 90 by decide), by decide⟩ (show 0 ≤ 8 by decide)) h (fun r hr => ca_up (by decide) (m_K_on_ok hz xm N hr)) (fun v1007 m1007 h => ?_)
          refine wp_run 4 (pc' := 1015) (lv' := [(12, .int v1007), (11, .int v999), (10, .int (1 + v980)), (9, .int v81), (8, .int v73), (7, .int v65), (6, .int v58), (5, .int v51), (4, .int (v37 >>> (((a3 / 20) * 4) &&& 31))), (0, .ref a0), (1, .ref a1), (2, .int a2), (3, .int a3)]) (st' := [.int 1, .int 1, .ref a1]) (mem' := m1007) rfl ?_
          obtain ⟨fk1015, hk1015, h⟩ := dRc_some h
          refine wq_cI rfl (kCall_v hk1015 (as := [.int 1, .int 1]) (rest := []) ⟨by decide, rfl, (show 2 < 90 by decide), by decide⟩ (show 0 ≤ 8 by decide)) h (fun r hr => ca_up (by decide) (m_K_on_ok hz xm N hr)) (fun v1015 m1015 h => ?_)
          refine wp_run 3 (pc' := 1023) (lv' := [(13, .int v1015), (12, .int v1007), (11, .int v999), (10, .int (1 + v980)), (9, .int v81), (8, .int v73), (7, .int v65), (6, .int v58), (5, .int v51), (4, .int (v37 >>> (((a3 / 20) * 4) &&& 31))), (0, .ref a0), (1, .ref a1), (2, .int a2), (3, .int a3)]) (st' := [.int (1 + v980), .ref a1]) (mem' := m1015) rfl ?_
          obtain ⟨fk1023, hk1023, h⟩ := dRc_some h
          refine wq_cI rfl (kCall_v hk1023 (as := [.int (1 + v980)]) (rest := []) ⟨by decide, rfl, (show 1 < 90 by decide), by decide⟩ (show 0 ≤ 8 by decide)) h (fun r hr => ca_up (by decide) (m_K_bind_ok hz xm N hr)) (fun v1023 m1023 h => ?_)
          refine wp_run 5 (pc' := 1034) (lv' := [(13, .int v1015), (12, .int v1007), (11, .int v999), (10, .int (1 + v980)), (9, .int v81), (8, .int v73), (7, .int v65), (6, .int v58), (5, .int v51), (4, .int (v37 >>> (((a3 / 20) * 4) &&& 31))), (0, .ref a0), (1, .ref a1), (2, .int a2), (3, .int a3)]) (st' := [.int ((v58 + v65) - (1 + v980)), .int v1023]) (mem' := m1023) rfl ?_
          refine wq_ne2 rfl h (fun h => ?_) (fun h => ?_)
          · refine wp_run 2 (pc' := 1040) (lv' := [(13, .int v1015), (12, .int v1007), (11, .int v999), (10, .int (1 + v980)), (9, .int v81), (8, .int v73), (7, .int v65), (6, .int v58), (5, .int v51), (4, .int (v37 >>> (((a3 / 20) * 4) &&& 31))), (0, .ref a0), (1, .ref a1), (2, .int a2), (3, .int a3)]) (st' := [.int 11, .ref a1]) (mem' := m1023) rfl ?_
            obtain ⟨fk1040, hk1040, h⟩ := dRc_some h
            refine wq_cI rfl (kCall_v hk1040 (as := [.int 11]) (rest := []) ⟨by decide, rfl, (show 1 < 90 by decide), by decide⟩ (show 0 ≤ 8 by decide)) h (fun r hr => ca_up (by decide) (m_K_many_ok hz xm N hr)) (fun v1040 m1040 h => ?_)
            refine wp_run 3 (pc' := 1048) (lv' := [(13, .int v1015), (12, .int v1007), (11, .int v999), (10, .int (1 + v980)), (9, .int v81), (8, .int v73), (7, .int v65), (6, .int v58), (5, .int v51), (4, .int (v37 >>> (((a3 / 20) * 4) &&& 31))), (0, .ref a0), (1, .ref a1), (2, .int a2), (3, .int a3)]) (st' := [.int (v999 + (1 + v980)), .int v1040]) (mem' := m1040) rfl ?_
            refine wq_ne2 rfl h (fun h => ?_) (fun h => ?_)
            · refine wp_run 3 (pc' := 1054) (lv' := [(13, .int v1015), (12, .int v1007), (11, .int v999), (10, .int (1 + v980)), (9, .int v81), (8, .int v73), (7, .int v65), (6, .int v58), (5, .int v51), (4, .int (v37 >>> (((a3 / 20) * 4) &&& 31))), (0, .ref a0), (1, .ref a1), (2, .int a2), (3, .int a3)]) (st' := [.int 0, .int 1, .ref a1]) (mem' := m1040) rfl ?_
              obtain ⟨fk1054, hk1054, h⟩ := dRc_some h
              refine wq_cI rfl (kCall_v hk1054 (as := [.int 1, .int 0]) (rest := []) ⟨by decide, rfl, (show 2 < 90 by decide), by decide⟩ (show 0 ≤ 8 by decide)) h (fun r hr => ca_up (by decide) (m_K_on_ok hz xm N hr)) (fun v1054 m1054 h => ?_)
              refine wp_run 1 (pc' := 1059) (lv' := [(13, .int v1015), (12, .int v1007), (11, .int v999), (10, .int (1 + v980)), (9, .int v81), (8, .int v73), (7, .int v65), (6, .int v58), (5, .int v51), (4, .int (v37 >>> (((a3 / 20) * 4) &&& 31))), (0, .ref a0), (1, .ref a1), (2, .int a2), (3, .int a3)]) (st' := [.int v1007, .int v1054]) (mem' := m1054) rfl ?_
              refine wq_ne2 rfl h (fun h => ?_) (fun h => ?_)
              · refine wp_run 3 (pc' := 1066) (lv' := [(13, .int v1015), (12, .int v1007), (11, .int v999), (10, .int (1 + v980)), (9, .int v81), (8, .int v73), (7, .int v65), (6, .int v58), (5, .int v51), (4, .int (v37 >>> (((a3 / 20) * 4) &&& 31))), (0, .ref a0), (1, .ref a1), (2, .int a2), (3, .int a3)]) (st' := [.int 5, .int v1015, .ref a1]) (mem' := m1054) rfl ?_
                obtain ⟨fk1066, hk1066, h⟩ := dRc_some h
                refine wq_cI rfl (kCall_v hk1066 (as := [.int v1015, .int 5]) (rest := []) ⟨by decide, rfl, (show 2 < 90 by decide), by decide⟩ (show 0 ≤ 8 by decide)) h (fun r hr => ca_up (by decide) (m_K_ofLoop_ok hz xm N hr)) (fun v1066 m1066 h => ?_)
                refine wp_run 1 (pc' := 1070) (lv' := [(13, .int v1015), (12, .int v1007), (11, .int v999), (10, .int (1 + v980)), (9, .int v81), (8, .int v73), (7, .int v65), (6, .int v58), (5, .int v51), (4, .int (v37 >>> (((a3 / 20) * 4) &&& 31))), (0, .ref a0), (1, .ref a1), (2, .int a2), (3, .int a3)]) (st' := [.int 3, .int v1066]) (mem' := m1066) rfl ?_
                refine wq_ne2 rfl h (fun h => ?_) (fun h => ?_)
                · refine wp_run 2 (pc' := 1075) (lv' := [(13, .int v1015), (12, .int v1007), (11, .int v999), (10, .int (1 + v980)), (9, .int v81), (8, .int v73), (7, .int v65), (6, .int v58), (5, .int v51), (4, .int (v37 >>> (((a3 / 20) * 4) &&& 31))), (0, .ref a0), (1, .ref a1), (2, .int a2), (3, .int a3)]) (st' := [.int 1, .ref a1]) (mem' := m1066) rfl ?_
                  obtain ⟨fk1075, hk1075, h⟩ := dRc_some h
                  refine wq_cI rfl (kCall_v hk1075 (as := [.int 1]) (rest := []) ⟨by decide, rfl, (show 1 < 90 by decide), by decide⟩ (show 0 ≤ 8 by decide)) h (fun r hr => ca_up (by decide) (m_K_many_ok hz xm N hr)) (fun v1075 m1075 h => ?_)
                  refine wp_run 1 (pc' := 1080) (lv' := [(13, .int v1015), (12, .int v1007), (11, .int v999), (10, .int (1 + v980)), (9, .int v81), (8, .int v73), (7, .int v65), (6, .int v58), (5, .int v51), (4, .int (v37 >>> (((a3 / 20) * 4) &&& 31))), (0, .ref a0), (1, .ref a1), (2, .int a2), (3, .int a3)]) (st' := [.int v51, .int v1075]) (mem' := m1075) rfl ?_
                  refine wq_eq2 rfl h (fun h => ?_) (fun h => ?_)
                  · refine kGo_sub (lvS_of [10, 11, 12, 13] rfl [13, 12, 11, 10, 9, 8, 7, 6, 5, 4, 0, 1, 2, 3] rfl (by decide)) ?_
                    exact m_law_law_1303_ok hz xm N _ ih _ _ _ _ m1075 R h
                  · refine wp_run 1 (pc' := 1084) (lv' := [(13, .int v1015), (12, .int v1007), (11, .int v999), (10, .int (1 + v980)), (9, .int v81), (8, .int v73), (7, .int v65), (6, .int v58), (5, .int v51), (4, .int (v37 >>> (((a3 / 20) * 4) &&& 31))), (0, .ref a0), (1, .ref a1), (2, .int a2), (3, .int a3)]) (st' := [.int 0]) (mem' := m1075) rfl ?_
                    exact wq_ret rfl rfl h
                · refine wp_run 1 (pc' := 1084) (lv' := [(13, .int v1015), (12, .int v1007), (11, .int v999), (10, .int (1 + v980)), (9, .int v81), (8, .int v73), (7, .int v65), (6, .int v58), (5, .int v51), (4, .int (v37 >>> (((a3 / 20) * 4) &&& 31))), (0, .ref a0), (1, .ref a1), (2, .int a2), (3, .int a3)]) (st' := [.int 0]) (mem' := m1066) rfl ?_
                  exact wq_ret rfl rfl h
              · refine wp_run 1 (pc' := 1084) (lv' := [(13, .int v1015), (12, .int v1007), (11, .int v999), (10, .int (1 + v980)), (9, .int v81), (8, .int v73), (7, .int v65), (6, .int v58), (5, .int v51), (4, .int (v37 >>> (((a3 / 20) * 4) &&& 31))), (0, .ref a0), (1, .ref a1), (2, .int a2), (3, .int a3)]) (st' := [.int 0]) (mem' := m1054) rfl ?_
                exact wq_ret rfl rfl h
            · refine wp_run 1 (pc' := 1084) (lv' := [(13, .int v1015), (12, .int v1007), (11, .int v999), (10, .int (1 + v980)), (9, .int v81), (8, .int v73), (7, .int v65), (6, .int v58), (5, .int v51), (4, .int (v37 >>> (((a3 / 20) * 4) &&& 31))), (0, .ref a0), (1, .ref a1), (2, .int a2), (3, .int a3)]) (st' := [.int 0]) (mem' := m1040) rfl ?_
              exact wq_ret rfl rfl h
          · refine wp_run 1 (pc' := 1084) (lv' := [(13, .int v1015), (12, .int v1007), (11, .int v999), (10, .int (1 + v980)), (9, .int v81), (8, .int v73), (7, .int v65), (6, .int v58), (5, .int v51), (4, .int (v37 >>> (((a3 / 20) * 4) &&& 31))), (0, .ref a0), (1, .ref a1), (2, .int a2), (3, .int a3)]) (st' := [.int 0]) (mem' := m1023) rfl ?_
            exact wq_ret rfl rfl h
        · refine wp_run 1 (pc' := 1303) (lv' := [(10, .int (1 + v980)), (9, .int v81), (8, .int v73), (7, .int v65), (6, .int v58), (5, .int v51), (4, .int (v37 >>> (((a3 / 20) * 4) &&& 31))), (0, .ref a0), (1, .ref a1), (2, .int a2), (3, .int a3)]) (st' := []) (mem' := m980) rfl ?_
          refine kGo_sub (lvS_of [7, 8, 9, 10] rfl [10, 9, 8, 7, 6, 5, 4, 0, 1, 2, 3] rfl (by decide)) ?_
          exact m_law_law_1303_ok hz xm N _ ih _ _ _ _ m980 R h
      · change kGo xm (kSm z) kDfl kFty kG 10 0 1085 [(9, .int v81), (8, .int v73), (7, .int v65), (6, .int v58), (5, .int v51), (4, .int (v37 >>> (((a3 / 20) * 4) &&& 31))), (0, .ref a0), (1, .ref a1), (2, .int a2), (3, .int a3)] [] m90 (dEq R)
        refine wp_run 5 (pc' := 1091) (lv' := [(9, .int v81), (8, .int v73), (7, .int v65), (6, .int v58), (5, .int v51), (4, .int (v37 >>> (((a3 / 20) * 4) &&& 31))), (0, .ref a0), (1, .ref a1), (2, .int a2), (3, .int a3)]) (st' := [.int 3, .int ((v37 >>> (((a3 / 20) * 4) &&& 31)) >>> (4 &&& 31)), .int 1]) (mem' := m90) rfl ?_
        refine wq_cI rfl (kCall_s (as := [.int ((v37 >>> (((a3 / 20) * 4) &&& 31)) >>> (4 &&& 31)), .int 3]) (rest := [.int 1]) ⟨by decide, rfl⟩ (show 1 ≤ 8 by decide) (by decide)) h (fun r hr => ca_up (by decide) (m_law_below_ok hz xm N hr)) (fun v1091 m1091 h => ?_)
        refine wp_run 7 (pc' := 1104) (lv' := [(10, .int (1 + v1091)), (9, .int v81), (8, .int v73), (7, .int v65), (6, .int v58), (5, .int v51), (4, .int (v37 >>> (((a3 / 20) * 4) &&& 31))), (0, .ref a0), (1, .ref a1), (2, .int a2), (3, .int a3)]) (st' := [.int 3, .int ((v37 >>> (((a3 / 20) * 4) &&& 31)) >>> (6 &&& 31)), .int 1]) (mem' := m1091) rfl ?_
        refine wq_cI rfl (kCall_s (as := [.int ((v37 >>> (((a3 / 20) * 4) &&& 31)) >>> (6 &&& 31)), .int 3]) (rest := [.int 1]) ⟨by decide, rfl⟩ (show 1 ≤ 8 by decide) (by decide)) h (fun r hr => ca_up (by decide) (m_law_below_ok hz xm N hr)) (fun v1104 m1104 h => ?_)
        refine wp_run 6 (pc' := 1117) (lv' := [(11, .int (1 + v1104)), (10, .int (1 + v1091)), (9, .int v81), (8, .int v73), (7, .int v65), (6, .int v58), (5, .int v51), (4, .int (v37 >>> (((a3 / 20) * 4) &&& 31))), (0, .ref a0), (1, .ref a1), (2, .int a2), (3, .int a3)]) (st' := [.int v58, .int ((1 + v1091) + (1 + v1104))]) (mem' := m1104) rfl ?_
        refine wq_le2 rfl h (fun h => ?_) (fun h => ?_)
        · refine wp_run 1 (pc' := 1303) (lv' := [(11, .int (1 + v1104)), (10, .int (1 + v1091)), (9, .int v81), (8, .int v73), (7, .int v65), (6, .int v58), (5, .int v51), (4, .int (v37 >>> (((a3 / 20) * 4) &&& 31))), (0, .ref a0), (1, .ref a1), (2, .int a2), (3, .int a3)]) (st' := []) (mem' := m1104) rfl ?_
          refine kGo_sub (lvS_of [8, 9, 10, 11] rfl [11, 10, 9, 8, 7, 6, 5, 4, 0, 1, 2, 3] rfl (by decide)) ?_
          exact m_law_law_1303_ok hz xm N _ ih _ _ _ _ m1104 R h
        · refine wp_run 3 (pc' := 1127) (lv' := [(11, .int (1 + v1104)), (10, .int (1 + v1091)), (9, .int v81), (8, .int v73), (7, .int v65), (6, .int v58), (5, .int v51), (4, .int (v37 >>> (((a3 / 20) * 4) &&& 31))), (0, .ref a0), (1, .ref a1), (2, .int a2), (3, .int a3)]) (st' := [.int (1 + v1091), .int 0, .ref a1]) (mem' := m1104) rfl ?_
          obtain ⟨fk1127, hk1127, h⟩ := dRc_some h
          refine wq_cI rfl (kCall_v hk1127 (as := [.int 0, .int (1 + v1091)]) (rest := []) ⟨by decide, rfl, (show 2 < 90 by decide), by decide⟩ (show 0 ≤ 8 by decide)) h (fun r hr => ca_up (by decide) (m_K_on_ok hz xm N hr)) (fun v1127 m1127 h => ?_)
          refine wp_run 3 (pc' := 1135) (lv' := [(12, .int v1127), (11, .int (1 + v1104)), (10, .int (1 + v1091)), (9, .int v81), (8, .int v73), (7, .int v65), (6, .int v58), (5, .int v51), (4, .int (v37 >>> (((a3 / 20) * 4) &&& 31))), (0, .ref a0), (1, .ref a1), (2, .int a2), (3, .int a3)]) (st' := [.int 9, .ref a1]) (mem' := m1127) rfl ?_
          obtain ⟨fk1135, hk1135, h⟩ := dRc_some h
          refine wq_cI rfl (kCall_v hk1135 (as := [.int 9]) (rest := []) ⟨by decide, rfl, (show 1 < 90 by decide), by decide⟩ (show 0 ≤ 8 by decide)) h (fun r hr => ca_up (by decide) (m_K_many_ok hz xm N hr)) (fun v1135 m1135 h => ?_)
          refine wp_run 4 (pc' := 1145) (lv' := [(13, .int v1135), (12, .int v1127), (11, .int (1 + v1104)), (10, .int (1 + v1091)), (9, .int v81), (8, .int v73), (7, .int v65), (6, .int v58), (5, .int v51), (4, .int (v37 >>> (((a3 / 20) * 4) &&& 31))), (0, .ref a0), (1, .ref a1), (2, .int a2), (3, .int a3)]) (st' := [.int (1 + v1104), .int (1 + v1091), .ref a1]) (mem' := m1135) rfl ?_
          obtain ⟨fk1145, hk1145, h⟩ := dRc_some h
          refine wq_cI rfl (kCall_v hk1145 (as := [.int (1 + v1091), .int (1 + v1104)]) (rest := []) ⟨by decide, rfl, (show 2 < 90 by decide), by decide⟩ (show 0 ≤ 8 by decide)) h (fun r hr => ca_up (by decide) (m_K_cross_ok hz xm N hr)) (fun v1145 m1145 h => ?_)
          refine wp_run 1 (pc' := 1150) (lv' := [(13, .int v1135), (12, .int v1127), (11, .int (1 + v1104)), (10, .int (1 + v1091)), (9, .int v81), (8, .int v73), (7, .int v65), (6, .int v58), (5, .int v51), (4, .int (v37 >>> (((a3 / 20) * 4) &&& 31))), (0, .ref a0), (1, .ref a1), (2, .int a2), (3, .int a3)]) (st' := [.int v1127, .int v1145]) (mem' := m1145) rfl ?_
          refine wq_ne2 rfl h (fun h => ?_) (fun h => ?_)
          · refine wp_run 3 (pc' := 1157) (lv' := [(13, .int v1135), (12, .int v1127), (11, .int (1 + v1104)), (10, .int (1 + v1091)), (9, .int v81), (8, .int v73), (7, .int v65), (6, .int v58), (5, .int v51), (4, .int (v37 >>> (((a3 / 20) * 4) &&& 31))), (0, .ref a0), (1, .ref a1), (2, .int a2), (3, .int a3)]) (st' := [.int (1 + v1104), .int 0, .ref a1]) (mem' := m1145) rfl ?_
            obtain ⟨fk1157, hk1157, h⟩ := dRc_some h
            refine wq_cI rfl (kCall_v hk1157 (as := [.int 0, .int (1 + v1104)]) (rest := []) ⟨by decide, rfl, (show 2 < 90 by decide), by decide⟩ (show 0 ≤ 8 by decide)) h (fun r hr => ca_up (by decide) (m_K_on_ok hz xm N hr)) (fun v1157 m1157 h => ?_)
            refine wp_run 1 (pc' := 1162) (lv' := [(13, .int v1135), (12, .int v1127), (11, .int (1 + v1104)), (10, .int (1 + v1091)), (9, .int v81), (8, .int v73), (7, .int v65), (6, .int v58), (5, .int v51), (4, .int (v37 >>> (((a3 / 20) * 4) &&& 31))), (0, .ref a0), (1, .ref a1), (2, .int a2), (3, .int a3)]) (st' := [.int v81, .int v1157]) (mem' := m1157) rfl ?_
            refine wq_ne2 rfl h (fun h => ?_) (fun h => ?_)
            · refine wp_run 2 (pc' := 1168) (lv' := [(13, .int v1135), (12, .int v1127), (11, .int (1 + v1104)), (10, .int (1 + v1091)), (9, .int v81), (8, .int v73), (7, .int v65), (6, .int v58), (5, .int v51), (4, .int (v37 >>> (((a3 / 20) * 4) &&& 31))), (0, .ref a0), (1, .ref a1), (2, .int a2), (3, .int a3)]) (st' := [.int 9, .ref a1]) (mem' := m1157) rfl ?_
              obtain ⟨fk1168, hk1168, h⟩ := dRc_some h
              refine wq_cI rfl (kCall_v hk1168 (as := [.int 9]) (rest := []) ⟨by decide, rfl, (show 1 < 90 by decide), by decide⟩ (show 0 ≤ 8 by decide)) h (fun r hr => ca_up (by decide) (m_K_many_ok hz xm N hr)) (fun v1168 m1168 h => ?_)
              refine wp_run 3 (pc' := 1175) (lv' := [(13, .int v1135), (12, .int v1127), (11, .int (1 + v1104)), (10, .int (1 + v1091)), (9, .int v81), (8, .int v73), (7, .int v65), (6, .int v58), (5, .int v51), (4, .int (v37 >>> (((a3 / 20) * 4) &&& 31))), (0, .ref a0), (1, .ref a1), (2, .int a2), (3, .int a3)]) (st' := [.int (v1135 + 1), .int v1168]) (mem' := m1168) rfl ?_
              refine wq_ne2 rfl h (fun h => ?_) (fun h => ?_)
              · refine wp_run 2 (pc' := 1180) (lv' := [(13, .int v1135), (12, .int v1127), (11, .int (1 + v1104)), (10, .int (1 + v1091)), (9, .int v81), (8, .int v73), (7, .int v65), (6, .int v58), (5, .int v51), (4, .int (v37 >>> (((a3 / 20) * 4) &&& 31))), (0, .ref a0), (1, .ref a1), (2, .int a2), (3, .int a3)]) (st' := [.int 3, .ref a1]) (mem' := m1168) rfl ?_
                obtain ⟨fk1180, hk1180, h⟩ := dRc_some h
                refine wq_cI rfl (kCall_v hk1180 (as := [.int 3]) (rest := []) ⟨by decide, rfl, (show 1 < 90 by decide), by decide⟩ (show 0 ≤ 8 by decide)) h (fun r hr => ca_up (by decide) (m_K_many_ok hz xm N hr)) (fun v1180 m1180 h => ?_)
                refine wp_run 1 (pc' := 1185) (lv' := [(13, .int v1135), (12, .int v1127), (11, .int (1 + v1104)), (10, .int (1 + v1091)), (9, .int v81), (8, .int v73), (7, .int v65), (6, .int v58), (5, .int v51), (4, .int (v37 >>> (((a3 / 20) * 4) &&& 31))), (0, .ref a0), (1, .ref a1), (2, .int a2), (3, .int a3)]) (st' := [.int v58, .int v1180]) (mem' := m1180) rfl ?_
                refine wq_eq2 rfl h (fun h => ?_) (fun h => ?_)
                · refine kGo_sub (lvS_of [10, 11, 12, 13] rfl [13, 12, 11, 10, 9, 8, 7, 6, 5, 4, 0, 1, 2, 3] rfl (by decide)) ?_
                  exact m_law_law_1303_ok hz xm N _ ih _ _ _ _ m1180 R h
                · refine wp_run 1 (pc' := 1189) (lv' := [(13, .int v1135), (12, .int v1127), (11, .int (1 + v1104)), (10, .int (1 + v1091)), (9, .int v81), (8, .int v73), (7, .int v65), (6, .int v58), (5, .int v51), (4, .int (v37 >>> (((a3 / 20) * 4) &&& 31))), (0, .ref a0), (1, .ref a1), (2, .int a2), (3, .int a3)]) (st' := [.int 0]) (mem' := m1180) rfl ?_
                  exact wq_ret rfl rfl h
              · refine wp_run 1 (pc' := 1189) (lv' := [(13, .int v1135), (12, .int v1127), (11, .int (1 + v1104)), (10, .int (1 + v1091)), (9, .int v81), (8, .int v73), (7, .int v65), (6, .int v58), (5, .int v51), (4, .int (v37 >>> (((a3 / 20) * 4) &&& 31))), (0, .ref a0), (1, .ref a1), (2, .int a2), (3, .int a3)]) (st' := [.int 0]) (mem' := m1168) rfl ?_
                exact wq_ret rfl rfl h
            · refine wp_run 1 (pc' := 1189) (lv' := [(13, .int v1135), (12, .int v1127), (11, .int (1 + v1104)), (10, .int (1 + v1091)), (9, .int v81), (8, .int v73), (7, .int v65), (6, .int v58), (5, .int v51), (4, .int (v37 >>> (((a3 / 20) * 4) &&& 31))), (0, .ref a0), (1, .ref a1), (2, .int a2), (3, .int a3)]) (st' := [.int 0]) (mem' := m1157) rfl ?_
              exact wq_ret rfl rfl h
          · refine wp_run 1 (pc' := 1189) (lv' := [(13, .int v1135), (12, .int v1127), (11, .int (1 + v1104)), (10, .int (1 + v1091)), (9, .int v81), (8, .int v73), (7, .int v65), (6, .int v58), (5, .int v51), (4, .int (v37 >>> (((a3 / 20) * 4) &&& 31))), (0, .ref a0), (1, .ref a1), (2, .int a2), (3, .int a3)]) (st' := [.int 0]) (mem' := m1145) rfl ?_
            exact wq_ret rfl rfl h
    · refine wp_run 1 (pc' := 1328) (lv' := [(0, .ref a0), (1, .ref a1), (2, .int a2), (3, .int a3)]) (st' := [.ref a1]) (mem' := mem) rfl ?_
      obtain ⟨fk1328, hk1328, h⟩ := dRc_some h
      refine wq_cJ rfl (kCall_v hk1328 (as := []) (rest := []) ⟨by decide, rfl, (show 0 < 90 by decide), by decide⟩ (show 0 ≤ 8 by decide)) h (fun r hr => ca_up (by decide) (m_K_digest_ok hz xm N hr)) (fun v1328 m1328 h => ?_)
      refine wp_run 2 (pc' := 1333) (lv' := [(3, .long v1328), (0, .ref a0), (1, .ref a1), (2, .int a2)]) (st' := [.ref a1]) (mem' := m1328) rfl ?_
      refine wq_cI rfl (kCall_s (as := [.ref a1]) (rest := []) ⟨by decide, rfl⟩ (show 0 ≤ 8 by decide) (by decide)) h (fun r hr => ca_up (by decide) (m_law_isSo_ok hz xm N hr)) (fun v1333 m1333 h => ?_)
      refine wq_eq rfl h (fun h => ?_) (fun h => ?_)
      · refine wp_run 1 (pc' := 1353) (lv' := [(3, .long v1328), (0, .ref a0), (1, .ref a1), (2, .int a2)]) (st' := [.int 0]) (mem' := m1333) rfl ?_
        exact wq_ret rfl rfl h
      · refine wp_run 1 (pc' := 1340) (lv' := [(3, .long v1328), (0, .ref a0), (1, .ref a1), (2, .int a2)]) (st' := [.ref a1]) (mem' := m1333) rfl ?_
        obtain ⟨fk1340, hk1340, h⟩ := dRc_some h
        refine wq_cJ rfl (kCall_v hk1340 (as := []) (rest := []) ⟨by decide, rfl, (show 0 < 90 by decide), by decide⟩ (show 0 ≤ 8 by decide)) h (fun r hr => ca_up (by decide) (m_K_digest_ok hz xm N hr)) (fun v1340 m1340 h => ?_)
        refine wp_run 2 (pc' := 1345) (lv' := [(3, .long v1328), (0, .ref a0), (1, .ref a1), (2, .int a2)]) (st' := [.int (lg_cmp v1340 v1328)]) (mem' := m1340) rfl ?_
        refine wq_ne rfl h (fun h => ?_) (fun h => ?_)
        · refine wp_run 2 (pc' := 1353) (lv' := [(3, .long v1328), (0, .ref a0), (1, .ref a1), (2, .int a2)]) (st' := [.int 1]) (mem' := m1340) rfl ?_
          exact wq_ret rfl rfl h
        · refine wp_run 1 (pc' := 1353) (lv' := [(3, .long v1328), (0, .ref a0), (1, .ref a1), (2, .int a2)]) (st' := [.int 0]) (mem' := m1340) rfl ?_
          exact wq_ret rfl rfl h
def m_law_law (xm : Nat → Option kE) (N : Nat) (a0 : Nat) (mem : kM) : dRes :=
  dCR (m_law_work xm N a0 1 mem) fun v2 m2 =>
  dRc xm m2 v2 11 <|
  dCI (m_K_many xm N v2 1 m2) fun v8 m8 =>
  dRc xm m8 v2 11 <|
  dCI (m_K_many xm N v2 7 m8) fun v15 m15 =>
  m_law_law_23 xm N N a0 v2 (v8 + (2 * v15)) 0 m15
theorem m_law_law_ok (hz : z.category = 1) (xm : Nat → Option kE) (N : Nat) {a0 : Nat} {mem : kM} {R : kO × kM} (h : m_law_law xm N a0 mem = some R) : kCa xm (kSm z) kDfl kFty kG 11 0 [.ref a0] mem (dEq R) := by
  refine wq_ca (show 1 ≤ 15 by decide) ?_
  change kGo xm (kSm z) kDfl kFty kG 10 0 0 [(0, .ref a0)] [] mem (dEq R)
  unfold m_law_law at h
  refine wp_run 2 (pc' := 2) (lv' := [(0, .ref a0)]) (st' := [.int 1, .ref a0]) (mem' := mem) rfl ?_
  refine wq_cR rfl (kCall_s (as := [.ref a0, .int 1]) (rest := []) ⟨by decide, rfl⟩ (show 0 ≤ 8 by decide) (by decide)) h (fun r hr => ca_up (by decide) (m_law_work_ok hz xm N hr)) (fun v2 m2 h => ?_)
  refine wp_run 3 (pc' := 8) (lv' := [(1, .ref v2), (0, .ref a0)]) (st' := [.int 1, .ref v2]) (mem' := m2) rfl ?_
  obtain ⟨fk8, hk8, h⟩ := dRc_some h
  refine wq_cI rfl (kCall_v hk8 (as := [.int 1]) (rest := []) ⟨by decide, rfl, (show 1 < 90 by decide), by decide⟩ (show 0 ≤ 8 by decide)) h (fun r hr => ca_up (by decide) (m_K_many_ok hz xm N hr)) (fun v8 m8 h => ?_)
  refine wp_run 3 (pc' := 15) (lv' := [(1, .ref v2), (0, .ref a0)]) (st' := [.int 7, .ref v2, .int 2, .int v8]) (mem' := m8) rfl ?_
  obtain ⟨fk15, hk15, h⟩ := dRc_some h
  refine wq_cI rfl (kCall_v hk15 (as := [.int 7]) (rest := [.int 2, .int v8]) ⟨by decide, rfl, (show 1 < 90 by decide), by decide⟩ (show 2 ≤ 8 by decide)) h (fun r hr => ca_up (by decide) (m_K_many_ok hz xm N hr)) (fun v15 m15 h => ?_)
  refine wp_run 5 (pc' := 23) (lv' := [(3, .int 0), (2, .int (v8 + (2 * v15))), (1, .ref v2), (0, .ref a0)]) (st' := []) (mem' := m15) rfl ?_
  refine kGo_sub (lvS_of [3, 2, 1, 0] rfl [3, 2, 1, 0] rfl (by decide)) ?_
  exact m_law_law_23_ok hz xm N N _ _ _ _ m15 R h
end
