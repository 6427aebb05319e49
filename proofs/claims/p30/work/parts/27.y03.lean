set_option maxRecDepth 20000
section
variable {z : Value}
/-- Knitstead.tellPattern(II)V -/
def m_K_tellPattern_22 (xm : Nat → Option kE) (N : Nat) : Nat → Nat → Int32 → Int32 → Int32 → Int32 → Int32 → Int32 → Int32 → Int32 → kM → dRes
  | 0, _, _, _, _, _, _, _, _, _, _ => none
  | n + 1, a0, a1, a2, a3, a4, a5, a6, a7, a8, mem =>
    if a8 < 0 then (
      dGR xm mem a0 11 3 fun v99 =>
      dRc xm mem v99 8 <|
      dCV (m_Table_set xm N v99 a1 0 a2 mem) fun m105 =>
      dGR xm m105 a0 11 3 fun v109 =>
      dRc xm m105 v109 8 <|
      dCV (m_Table_set xm N v109 a1 1 a3 m105) fun m115 =>
      dGR xm m115 a0 11 3 fun v119 =>
      dRc xm m115 v119 8 <|
      dCV (m_Table_set xm N v119 a1 2 a4 m115) fun m126 =>
      dGR xm m126 a0 11 3 fun v130 =>
      dRc xm m126 v130 8 <|
      dCV (m_Table_set xm N v130 a1 3 a5 m126) fun m137 =>
      dGR xm m137 a0 11 3 fun v141 =>
      dRc xm m137 v141 8 <|
      dCV (m_Table_set xm N v141 a1 4 a6 m137) fun m148 =>
      some (.inl none, m148)
    ) else (
      dNz 10 <|
      dNz 10 <|
      dGR xm mem a0 11 4 fun v42 =>
      dRc xm mem v42 8 <|
      dCV (m_Table_set xm N v42 a1 a8 (a7 - a7 / 10 * 10) mem) fun m50 =>
      dCI (m_K_stepFact xm N 3 (a7 - a7 / 10 * 10) m50) fun v60 m60 =>
      dCI (m_K_stepFact xm N 5 (a7 - a7 / 10 * 10) m60) fun v73 m73 =>
      dCI (m_K_stepFact xm N 4 (a7 - a7 / 10 * 10) m73) fun v86 m86 =>
      m_K_tellPattern_22 xm N n a0 a1 a2 a3 (a4 + v60) (a5 + v73) (a6 + v86) (a7 / 10) (a8 + (-1)) m86
    )
theorem m_K_tellPattern_22_ok (hz : z.category = 1) (xm : Nat → Option kE) (N : Nat) : ∀ (n : Nat) (a0 : Nat) (a1 : Int32) (a2 : Int32) (a3 : Int32) (a4 : Int32) (a5 : Int32) (a6 : Int32) (a7 : Int32) (a8 : Int32) (mem : kM) (R : kO × kM), m_K_tellPattern_22 xm N n a0 a1 a2 a3 a4 a5 a6 a7 a8 mem = some R → kGo xm (kSm z) kDfl kFty kG 4 83 22 [(0, .ref a0), (1, .int a1), (2, .int a2), (3, .int a3), (4, .int a4), (5, .int a5), (6, .int a6), (7, .int a7), (8, .int a8)] [] mem (dEq R) := by
  intro n
  induction n with
  | zero => intro a0 a1 a2 a3 a4 a5 a6 a7 a8 mem R h; cases h
  | succ n ih =>
    intro a0 a1 a2 a3 a4 a5 a6 a7 a8 mem R h
    rw [m_K_tellPattern_22] at h
    refine wp_run 1 (pc' := 24) (lv' := [(0, .ref a0), (1, .int a1), (2, .int a2), (3, .int a3), (4, .int a4), (5, .int a5), (6, .int a6), (7, .int a7), (8, .int a8)]) (st' := [.int a8]) (mem' := mem) rfl ?_
    refine wq_lt rfl h (fun h => ?_) (fun h => ?_)
    · refine wp_run 1 (pc' := 99) (lv' := [(0, .ref a0), (1, .int a1), (2, .int a2), (3, .int a3), (4, .int a4), (5, .int a5), (6, .int a6), (7, .int a7), (8, .int a8)]) (st' := [.ref a0]) (mem' := mem) rfl ?_
      refine wq_gR rfl h (fun v99 h => ?_)
      refine wp_run 3 (pc' := 105) (lv' := [(0, .ref a0), (1, .int a1), (2, .int a2), (3, .int a3), (4, .int a4), (5, .int a5), (6, .int a6), (7, .int a7), (8, .int a8)]) (st' := [.int a2, .int 0, .int a1, .ref v99]) (mem' := mem) rfl ?_
      obtain ⟨fk105, hk105, h⟩ := dRc_some h
      refine wq_cV rfl (kCall_v hk105 (as := [.int a1, .int 0, .int a2]) (rest := []) ⟨by decide, rfl, (show 3 < 90 by decide), by decide⟩ (show 0 ≤ 8 by decide)) h (fun r hr => ca_up (by decide) (m_Table_set_ok hz xm N hr)) (fun m105 h => ?_)
      refine wp_run 1 (pc' := 109) (lv' := [(0, .ref a0), (1, .int a1), (2, .int a2), (3, .int a3), (4, .int a4), (5, .int a5), (6, .int a6), (7, .int a7), (8, .int a8)]) (st' := [.ref a0]) (mem' := m105) rfl ?_
      refine wq_gR rfl h (fun v109 h => ?_)
      refine wp_run 3 (pc' := 115) (lv' := [(0, .ref a0), (1, .int a1), (2, .int a2), (3, .int a3), (4, .int a4), (5, .int a5), (6, .int a6), (7, .int a7), (8, .int a8)]) (st' := [.int a3, .int 1, .int a1, .ref v109]) (mem' := m105) rfl ?_
      obtain ⟨fk115, hk115, h⟩ := dRc_some h
      refine wq_cV rfl (kCall_v hk115 (as := [.int a1, .int 1, .int a3]) (rest := []) ⟨by decide, rfl, (show 3 < 90 by decide), by decide⟩ (show 0 ≤ 8 by decide)) h (fun r hr => ca_up (by decide) (m_Table_set_ok hz xm N hr)) (fun m115 h => ?_)
      refine wp_run 1 (pc' := 119) (lv' := [(0, .ref a0), (1, .int a1), (2, .int a2), (3, .int a3), (4, .int a4), (5, .int a5), (6, .int a6), (7, .int a7), (8, .int a8)]) (st' := [.ref a0]) (mem' := m115) rfl ?_
      refine wq_gR rfl h (fun v119 h => ?_)
      refine wp_run 3 (pc' := 126) (lv' := [(0, .ref a0), (1, .int a1), (2, .int a2), (3, .int a3), (4, .int a4), (5, .int a5), (6, .int a6), (7, .int a7), (8, .int a8)]) (st' := [.int a4, .int 2, .int a1, .ref v119]) (mem' := m115) rfl ?_
      obtain ⟨fk126, hk126, h⟩ := dRc_some h
      refine wq_cV rfl (kCall_v hk126 (as := [.int a1, .int 2, .int a4]) (rest := []) ⟨by decide, rfl, (show 3 < 90 by decide), by decide⟩ (show 0 ≤ 8 by decide)) h (fun r hr => ca_up (by decide) (m_Table_set_ok hz xm N hr)) (fun m126 h => ?_)
      refine wp_run 1 (pc' := 130) (lv' := [(0, .ref a0), (1, .int a1), (2, .int a2), (3, .int a3), (4, .int a4), (5, .int a5), (6, .int a6), (7, .int a7), (8, .int a8)]) (st' := [.ref a0]) (mem' := m126) rfl ?_
      refine wq_gR rfl h (fun v130 h => ?_)
      refine wp_run 3 (pc' := 137) (lv' := [(0, .ref a0), (1, .int a1), (2, .int a2), (3, .int a3), (4, .int a4), (5, .int a5), (6, .int a6), (7, .int a7), (8, .int a8)]) (st' := [.int a5, .int 3, .int a1, .ref v130]) (mem' := m126) rfl ?_
      obtain ⟨fk137, hk137, h⟩ := dRc_some h
      refine wq_cV rfl (kCall_v hk137 (as := [.int a1, .int 3, .int a5]) (rest := []) ⟨by decide, rfl, (show 3 < 90 by decide), by decide⟩ (show 0 ≤ 8 by decide)) h (fun r hr => ca_up (by decide) (m_Table_set_ok hz xm N hr)) (fun m137 h => ?_)
      refine wp_run 1 (pc' := 141) (lv' := [(0, .ref a0), (1, .int a1), (2, .int a2), (3, .int a3), (4, .int a4), (5, .int a5), (6, .int a6), (7, .int a7), (8, .int a8)]) (st' := [.ref a0]) (mem' := m137) rfl ?_
      refine wq_gR rfl h (fun v141 h => ?_)
      refine wp_run 3 (pc' := 148) (lv' := [(0, .ref a0), (1, .int a1), (2, .int a2), (3, .int a3), (4, .int a4), (5, .int a5), (6, .int a6), (7, .int a7), (8, .int a8)]) (st' := [.int a6, .int 4, .int a1, .ref v141]) (mem' := m137) rfl ?_
      obtain ⟨fk148, hk148, h⟩ := dRc_some h
      refine wq_cV rfl (kCall_v hk148 (as := [.int a1, .int 4, .int a6]) (rest := []) ⟨by decide, rfl, (show 3 < 90 by decide), by decide⟩ (show 0 ≤ 8 by decide)) h (fun r hr => ca_up (by decide) (m_Table_set_ok hz xm N hr)) (fun m148 h => ?_)
      exact wq_end rfl rfl h
    · refine wp_run 2 (pc' := 31) (lv' := [(0, .ref a0), (1, .int a1), (2, .int a2), (3, .int a3), (4, .int a4), (5, .int a5), (6, .int a6), (7, .int a7), (8, .int a8)]) (st' := [.int 10, .int a7]) (mem' := mem) rfl ?_
      refine wq_irem rfl h (fun h => ?_)
      refine wp_run 3 (pc' := 38) (lv' := [(9, .int (a7 - a7 / 10 * 10)), (0, .ref a0), (1, .int a1), (2, .int a2), (3, .int a3), (4, .int a4), (5, .int a5), (6, .int a6), (7, .int a7), (8, .int a8)]) (st' := [.int 10, .int a7]) (mem' := mem) rfl ?_
      refine wq_idiv rfl h (fun h => ?_)
      refine wp_run 2 (pc' := 42) (lv' := [(7, .int (a7 / 10)), (9, .int (a7 - a7 / 10 * 10)), (0, .ref a0), (1, .int a1), (2, .int a2), (3, .int a3), (4, .int a4), (5, .int a5), (6, .int a6), (8, .int a8)]) (st' := [.ref a0]) (mem' := mem) rfl ?_
      refine wq_gR rfl h (fun v42 h => ?_)
      refine wp_run 3 (pc' := 50) (lv' := [(7, .int (a7 / 10)), (9, .int (a7 - a7 / 10 * 10)), (0, .ref a0), (1, .int a1), (2, .int a2), (3, .int a3), (4, .int a4), (5, .int a5), (6, .int a6), (8, .int a8)]) (st' := [.int (a7 - a7 / 10 * 10), .int a8, .int a1, .ref v42]) (mem' := mem) rfl ?_
      obtain ⟨fk50, hk50, h⟩ := dRc_some h
      refine wq_cV rfl (kCall_v hk50 (as := [.int a1, .int a8, .int (a7 - a7 / 10 * 10)]) (rest := []) ⟨by decide, rfl, (show 3 < 90 by decide), by decide⟩ (show 0 ≤ 8 by decide)) h (fun r hr => ca_up (by decide) (m_Table_set_ok hz xm N hr)) (fun m50 h => ?_)
      refine wp_run 3 (pc' := 60) (lv' := [(7, .int (a7 / 10)), (9, .int (a7 - a7 / 10 * 10)), (0, .ref a0), (1, .int a1), (2, .int a2), (3, .int a3), (4, .int a4), (5, .int a5), (6, .int a6), (8, .int a8)]) (st' := [.int (a7 - a7 / 10 * 10), .ref 3, .int a4]) (mem' := m50) rfl ?_
      refine wq_cI rfl (kCall_s (as := [.ref 3, .int (a7 - a7 / 10 * 10)]) (rest := [.int a4]) ⟨by decide, rfl⟩ (show 1 ≤ 8 by decide) (by decide)) h (fun r hr => ca_up (by decide) (m_K_stepFact_ok hz xm N hr)) (fun v60 m60 h => ?_)
      refine wp_run 5 (pc' := 73) (lv' := [(4, .int (a4 + v60)), (7, .int (a7 / 10)), (9, .int (a7 - a7 / 10 * 10)), (0, .ref a0), (1, .int a1), (2, .int a2), (3, .int a3), (5, .int a5), (6, .int a6), (8, .int a8)]) (st' := [.int (a7 - a7 / 10 * 10), .ref 5, .int a5]) (mem' := m60) rfl ?_
      refine wq_cI rfl (kCall_s (as := [.ref 5, .int (a7 - a7 / 10 * 10)]) (rest := [.int a5]) ⟨by decide, rfl⟩ (show 1 ≤ 8 by decide) (by decide)) h (fun r hr => ca_up (by decide) (m_K_stepFact_ok hz xm N hr)) (fun v73 m73 h => ?_)
      refine wp_run 5 (pc' := 86) (lv' := [(5, .int (a5 + v73)), (4, .int (a4 + v60)), (7, .int (a7 / 10)), (9, .int (a7 - a7 / 10 * 10)), (0, .ref a0), (1, .int a1), (2, .int a2), (3, .int a3), (6, .int a6), (8, .int a8)]) (st' := [.int (a7 - a7 / 10 * 10), .ref 4, .int a6]) (mem' := m73) rfl ?_
      refine wq_cI rfl (kCall_s (as := [.ref 4, .int (a7 - a7 / 10 * 10)]) (rest := [.int a6]) ⟨by decide, rfl⟩ (show 1 ≤ 8 by decide) (by decide)) h (fun r hr => ca_up (by decide) (m_K_stepFact_ok hz xm N hr)) (fun v86 m86 h => ?_)
      refine wp_run 4 (pc' := 22) (lv' := [(8, .int (a8 + (-1))), (6, .int (a6 + v86)), (5, .int (a5 + v73)), (4, .int (a4 + v60)), (7, .int (a7 / 10)), (9, .int (a7 - a7 / 10 * 10)), (0, .ref a0), (1, .int a1), (2, .int a2), (3, .int a3)]) (st' := []) (mem' := m86) rfl ?_
      refine kGo_sub (lvS_of [6, 7, 8, 9, 3, 2, 1, 4, 0] rfl [8, 6, 5, 4, 7, 9, 0, 1, 2, 3] rfl (by decide)) ?_
      exact ih _ _ _ _ _ _ _ _ _ m86 R h
def m_K_tellPattern (xm : Nat → Option kE) (N : Nat) (a0 : Nat) (a1 : Int32) (a2 : Int32) (mem : kM) : dRes :=
  dCI (m_K_digitsIn xm N a2 mem) fun v1 m1 =>
  m_K_tellPattern_22 xm N N a0 a1 a2 v1 0 0 0 a2 (v1 - 1) m1
theorem m_K_tellPattern_ok (hz : z.category = 1) (xm : Nat → Option kE) (N : Nat) {a0 : Nat} {a1 : Int32} {a2 : Int32} {mem : kM} {R : kO × kM} (h : m_K_tellPattern xm N a0 a1 a2 mem = some R) : kCa xm (kSm z) kDfl kFty kG 5 83 [.ref a0, .int a1, .int a2] mem (dEq R) := by
  refine wq_ca (show 3 ≤ 10 by decide) ?_
  change kGo xm (kSm z) kDfl kFty kG 4 83 0 [(0, .ref a0), (1, .int a1), (2, .int a2)] [] mem (dEq R)
  unfold m_K_tellPattern at h
  refine wp_run 1 (pc' := 1) (lv' := [(0, .ref a0), (1, .int a1), (2, .int a2)]) (st' := [.int a2]) (mem' := mem) rfl ?_
  refine wq_cI rfl (kCall_s (as := [.int a2]) (rest := []) ⟨by decide, rfl⟩ (show 0 ≤ 8 by decide) (by decide)) h (fun r hr => ca_up (by decide) (m_K_digitsIn_ok hz xm N hr)) (fun v1 m1 h => ?_)
  refine wp_run 12 (pc' := 20) (lv' := [(7, .int a2), (6, .int 0), (5, .int 0), (4, .int 0), (3, .int v1), (0, .ref a0), (1, .int a1), (2, .int a2)]) (st' := [.int (v1 - 1)]) (mem' := m1) rfl ?_
  refine wp_run 1 (pc' := 22) (lv' := [(8, .int (v1 - 1)), (7, .int a2), (6, .int 0), (5, .int 0), (4, .int 0), (3, .int v1), (0, .ref a0), (1, .int a1), (2, .int a2)]) (st' := []) (mem' := m1) rfl ?_
  refine kGo_sub (lvS_of [6, 7, 8, 5, 4, 3, 2, 1, 0] rfl [8, 7, 6, 5, 4, 3, 0, 1, 2] rfl (by decide)) ?_
  exact m_K_tellPattern_22_ok hz xm N N _ _ _ _ _ _ _ _ _ m1 R h
/-- Knitstead.pattern(I)I -/
def m_K_pattern (xm : Nat → Option kE) (N : Nat) (a0 : Nat) (a1 : Int32) (mem : kM) : dRes :=
  if a1 < 1 then (
    some (.inr 0, mem ++ [.inl (1000, [.null, .null, .null, .null, .null, .null])])
  ) else (
    if 999999999 < a1 then (
      some (.inr 0, mem ++ [.inl (1000, [.null, .null, .null, .null, .null, .null])])
    ) else (
      dCI (m_K_hasZero xm N a1 mem) fun v12 m12 =>
      if v12 = 0 then (
        dGI xm m12 a0 11 7 fun v29 =>
        if v29 < 6 then (
          dGI xm m12 a0 11 7 fun v48 =>
          dGI xm m12 a0 11 7 fun v54 =>
          dP xm m12 a0 11 7 (.int (v54 + 1)) fun m59 =>
          dRc xm m59 a0 11 <|
          dCV (m_K_tellPattern xm N a0 v48 a1 m59) fun m65 =>
          some (.inl (some (.int v48)), m65)
        ) else (
          some (.inr 1, m12 ++ [.inl (1000, [.null, .null, .null, .null, .null, .null])])
        )
      ) else (
        some (.inr 0, m12 ++ [.inl (1000, [.null, .null, .null, .null, .null, .null])])
      )
    )
  )
theorem m_K_pattern_ok (hz : z.category = 1) (xm : Nat → Option kE) (N : Nat) {a0 : Nat} {a1 : Int32} {mem : kM} {R : kO × kM} (h : m_K_pattern xm N a0 a1 mem = some R) : kCa xm (kSm z) kDfl kFty kG 6 52 [.ref a0, .int a1] mem (dEq R) := by
  refine wq_ca (show 2 ≤ 3 by decide) ?_
  change kGo xm (kSm z) kDfl kFty kG 5 52 0 [(0, .ref a0), (1, .int a1)] [] mem (dEq R)
  unfold m_K_pattern at h
  refine wp_run 2 (pc' := 2) (lv' := [(0, .ref a0), (1, .int a1)]) (st' := [.int 1, .int a1]) (mem' := mem) rfl ?_
  refine wq_lt2 rfl h (fun h => ?_) (fun h => ?_)
  · exact wq_end rfl rfl h
  · refine wp_run 2 (pc' := 8) (lv' := [(0, .ref a0), (1, .int a1)]) (st' := [.int 999999999, .int a1]) (mem' := mem) rfl ?_
    refine wq_gt2 rfl h (fun h => ?_) (fun h => ?_)
    · exact wq_end rfl rfl h
    · refine wp_run 1 (pc' := 12) (lv' := [(0, .ref a0), (1, .int a1)]) (st' := [.int a1]) (mem' := mem) rfl ?_
      refine wq_cI rfl (kCall_s (as := [.int a1]) (rest := []) ⟨by decide, rfl⟩ (show 0 ≤ 8 by decide) (by decide)) h (fun r hr => ca_up (by decide) (m_K_hasZero_ok hz xm N hr)) (fun v12 m12 h => ?_)
      refine wq_eq rfl h (fun h => ?_) (fun h => ?_)
      · refine wp_run 1 (pc' := 29) (lv' := [(0, .ref a0), (1, .int a1)]) (st' := [.ref a0]) (mem' := m12) rfl ?_
        refine wq_gI rfl h (fun v29 h => ?_)
        refine wp_run 1 (pc' := 34) (lv' := [(0, .ref a0), (1, .int a1)]) (st' := [.int 6, .int v29]) (mem' := m12) rfl ?_
        refine wq_lt2 rfl h (fun h => ?_) (fun h => ?_)
        · refine wp_run 1 (pc' := 48) (lv' := [(0, .ref a0), (1, .int a1)]) (st' := [.ref a0]) (mem' := m12) rfl ?_
          refine wq_gI rfl h (fun v48 h => ?_)
          refine wp_run 3 (pc' := 54) (lv' := [(2, .int v48), (0, .ref a0), (1, .int a1)]) (st' := [.ref a0, .ref a0]) (mem' := m12) rfl ?_
          refine wq_gI rfl h (fun v54 h => ?_)
          refine wp_run 2 (pc' := 59) (lv' := [(2, .int v48), (0, .ref a0), (1, .int a1)]) (st' := [.int (v54 + 1), .ref a0]) (mem' := m12) rfl ?_
          refine wq_p rfl rfl h (fun m59 h => ?_)
          refine wp_run 3 (pc' := 65) (lv' := [(2, .int v48), (0, .ref a0), (1, .int a1)]) (st' := [.int a1, .int v48, .ref a0]) (mem' := m59) rfl ?_
          obtain ⟨fk65, hk65, h⟩ := dRc_some h
          refine wq_cV rfl (kCall_v hk65 (as := [.int v48, .int a1]) (rest := []) ⟨by decide, rfl, (show 2 < 90 by decide), by decide⟩ (show 0 ≤ 8 by decide)) h (fun r hr => ca_up (by decide) (m_K_tellPattern_ok hz xm N hr)) (fun m65 h => ?_)
          refine wp_run 1 (pc' := 69) (lv' := [(2, .int v48), (0, .ref a0), (1, .int a1)]) (st' := [.int v48]) (mem' := m65) rfl ?_
          exact wq_ret rfl rfl h
        · exact wq_end rfl rfl h
      · exact wq_end rfl rfl h
/-- KnitsteadLaw.work([II)LKnitstead; -/
def m_law_work_107 (xm : Nat → Option kE) (N : Nat) (K85 : Nat → Int32 → Nat → Int32 → kM → dRes) : Nat → Nat → Int32 → Nat → Int32 → Int32 → Int32 → Int32 → kM → dRes
  | 0, _, _, _, _, _, _, _, _ => none
  | n + 1, a0, a1, a2, a3, a4, a5, a6, mem =>
    dCI (m_law_below xm N a4 4 mem) fun v113 m113 =>
    if a6 < (1 + v113) then (
      dCI (m_law_below xm N (a4 >>> (((a6 * 3) + 2) &&& 31)) 9 m113) fun v138 m138 =>
      m_law_work_107 xm N K85 n a0 a1 a2 a3 a4 (((10 * a5) + 1) + v138) (a6 + 1) m138
    ) else (
      dRc xm m113 a2 11 <|
      dCI (m_K_pattern xm N a2 a5 m113) fun v153 m153 =>
      K85 a0 a1 a2 (a3 + 1) m153
    )
theorem m_law_work_107_ok (hz : z.category = 1) (xm : Nat → Option kE) (N : Nat) (K85 : Nat → Int32 → Nat → Int32 → kM → dRes) (hK85 : ∀ (a0 : Nat) (a1 : Int32) (a2 : Nat) (a3 : Int32) (mem : kM) (R : kO × kM), K85 a0 a1 a2 a3 mem = some R → kGo xm (kSm z) kDfl kFty kG 7 136 85 [(0, .ref a0), (1, .int a1), (2, .ref a2), (3, .int a3)] [] mem (dEq R)) : ∀ (n : Nat) (a0 : Nat) (a1 : Int32) (a2 : Nat) (a3 : Int32) (a4 : Int32) (a5 : Int32) (a6 : Int32) (mem : kM) (R : kO × kM), m_law_work_107 xm N K85 n a0 a1 a2 a3 a4 a5 a6 mem = some R → kGo xm (kSm z) kDfl kFty kG 7 136 107 [(0, .ref a0), (1, .int a1), (2, .ref a2), (3, .int a3), (4, .int a4), (5, .int a5), (6, .int a6)] [] mem (dEq R) := by
  intro n
  induction n with
  | zero => intro a0 a1 a2 a3 a4 a5 a6 mem R h; cases h
  | succ n ih =>
    intro a0 a1 a2 a3 a4 a5 a6 mem R h
    rw [m_law_work_107] at h
    refine wp_run 4 (pc' := 113) (lv' := [(0, .ref a0), (1, .int a1), (2, .ref a2), (3, .int a3), (4, .int a4), (5, .int a5), (6, .int a6)]) (st' := [.int 4, .int a4, .int 1, .int a6]) (mem' := mem) rfl ?_
    refine wq_cI rfl (kCall_s (as := [.int a4, .int 4]) (rest := [.int 1, .int a6]) ⟨by decide, rfl⟩ (show 2 ≤ 8 by decide) (by decide)) h (fun r hr => ca_up (by decide) (m_law_below_ok hz xm N hr)) (fun v113 m113 h => ?_)
    refine wp_run 1 (pc' := 117) (lv' := [(0, .ref a0), (1, .int a1), (2, .ref a2), (3, .int a3), (4, .int a4), (5, .int a5), (6, .int a6)]) (st' := [.int (1 + v113), .int a6]) (mem' := m113) rfl ?_
    refine wq_ge2 rfl h (fun h => ?_) (fun h => ?_)
    · refine wp_run 12 (pc' := 136) (lv' := [(0, .ref a0), (1, .int a1), (2, .ref a2), (3, .int a3), (4, .int a4), (5, .int a5), (6, .int a6)]) (st' := [.int (a4 >>> (((a6 * 3) + 2) &&& 31)), .int ((10 * a5) + 1)]) (mem' := m113) rfl ?_
      refine wp_run 1 (pc' := 138) (lv' := [(0, .ref a0), (1, .int a1), (2, .ref a2), (3, .int a3), (4, .int a4), (5, .int a5), (6, .int a6)]) (st' := [.int 9, .int (a4 >>> (((a6 * 3) + 2) &&& 31)), .int ((10 * a5) + 1)]) (mem' := m113) rfl ?_
      refine wq_cI rfl (kCall_s (as := [.int (a4 >>> (((a6 * 3) + 2) &&& 31)), .int 9]) (rest := [.int ((10 * a5) + 1)]) ⟨by decide, rfl⟩ (show 1 ≤ 8 by decide) (by decide)) h (fun r hr => ca_up (by decide) (m_law_below_ok hz xm N hr)) (fun v138 m138 h => ?_)
      refine wp_run 4 (pc' := 107) (lv' := [(6, .int (a6 + 1)), (5, .int (((10 * a5) + 1) + v138)), (0, .ref a0), (1, .int a1), (2, .ref a2), (3, .int a3), (4, .int a4)]) (st' := []) (mem' := m138) rfl ?_
      refine kGo_sub (lvS_of [2, 3, 4, 5, 6, 1, 0] rfl [6, 5, 0, 1, 2, 3, 4] rfl (by decide)) ?_
      exact ih _ _ _ _ _ _ _ m138 R h
    · refine wp_run 2 (pc' := 153) (lv' := [(0, .ref a0), (1, .int a1), (2, .ref a2), (3, .int a3), (4, .int a4), (5, .int a5), (6, .int a6)]) (st' := [.int a5, .ref a2]) (mem' := m113) rfl ?_
      obtain ⟨fk153, hk153, h⟩ := dRc_some h
      refine wq_cI rfl (kCall_v hk153 (as := [.int a5]) (rest := []) ⟨by decide, rfl, (show 1 < 90 by decide), by decide⟩ (show 0 ≤ 8 by decide)) h (fun r hr => ca_up (by decide) (m_K_pattern_ok hz xm N hr)) (fun v153 m153 h => ?_)
      refine wp_run 3 (pc' := 85) (lv' := [(3, .int (a3 + 1)), (0, .ref a0), (1, .int a1), (2, .ref a2), (4, .int a4), (5, .int a5), (6, .int a6)]) (st' := []) (mem' := m153) rfl ?_
      refine kGo_sub (lvS_of [1, 2, 3, 0] rfl [3, 0, 1, 2, 4, 5, 6] rfl (by decide)) ?_
      exact hK85 _ _ _ _ m153 R h
def m_law_work_85 (xm : Nat → Option kE) (N : Nat) : Nat → Nat → Int32 → Nat → Int32 → kM → dRes
  | 0, _, _, _, _, _ => none
  | n + 1, a0, a1, a2, a3, mem =>
    if a3 < (4 + a1) then (
      dCI (m_law_cell xm N a0 (2 + a3) mem) fun v96 m96 =>
      m_law_work_107 xm N (fun a0 a1 a2 a3 mem => m_law_work_85 xm N n a0 a1 a2 a3 mem) N a0 a1 a2 a3 v96 0 0 m96
    ) else (
      some (.inl (some (.ref a2)), mem)
    )
theorem m_law_work_85_ok (hz : z.category = 1) (xm : Nat → Option kE) (N : Nat) : ∀ (n : Nat) (a0 : Nat) (a1 : Int32) (a2 : Nat) (a3 : Int32) (mem : kM) (R : kO × kM), m_law_work_85 xm N n a0 a1 a2 a3 mem = some R → kGo xm (kSm z) kDfl kFty kG 7 136 85 [(0, .ref a0), (1, .int a1), (2, .ref a2), (3, .int a3)] [] mem (dEq R) := by
  intro n
  induction n with
  | zero => intro a0 a1 a2 a3 mem R h; cases h
  | succ n ih =>
    intro a0 a1 a2 a3 mem R h
    rw [m_law_work_85] at h
    refine wp_run 4 (pc' := 89) (lv' := [(0, .ref a0), (1, .int a1), (2, .ref a2), (3, .int a3)]) (st' := [.int (4 + a1), .int a3]) (mem' := mem) rfl ?_
    refine wq_ge2 rfl h (fun h => ?_) (fun h => ?_)
    · refine wp_run 4 (pc' := 96) (lv' := [(0, .ref a0), (1, .int a1), (2, .ref a2), (3, .int a3)]) (st' := [.int (2 + a3), .ref a0]) (mem' := mem) rfl ?_
      refine wq_cI rfl (kCall_s (as := [.ref a0, .int (2 + a3)]) (rest := []) ⟨by decide, rfl⟩ (show 0 ≤ 8 by decide) (by decide)) h (fun r hr => ca_up (by decide) (m_law_cell_ok hz xm N hr)) (fun v96 m96 h => ?_)
      refine wp_run 5 (pc' := 107) (lv' := [(6, .int 0), (5, .int 0), (4, .int v96), (0, .ref a0), (1, .int a1), (2, .ref a2), (3, .int a3)]) (st' := []) (mem' := m96) rfl ?_
      refine kGo_sub (lvS_of [3, 4, 5, 6, 2, 1, 0] rfl [6, 5, 4, 0, 1, 2, 3] rfl (by decide)) ?_
      exact m_law_work_107_ok hz xm N _ ih N _ _ _ _ _ _ _ m96 R h
    · refine wp_run 1 (pc' := 164) (lv' := [(0, .ref a0), (1, .int a1), (2, .ref a2), (3, .int a3)]) (st' := [.ref a2]) (mem' := mem) rfl ?_
      exact wq_end rfl rfl h
def m_law_work_57 (xm : Nat → Option kE) (N : Nat) (a0 : Nat) (a1 : Int32) (a2 : Nat) (s0 : Nat) (s1 : Int32) (mem : kM) : dRes :=
  dRc xm mem s0 11 <|
  dCI (m_K_join xm N s0 s1 mem) fun v57 m57 =>
  dCI (m_law_cell xm N a0 1 m57) fun v65 m65 =>
  dCI (m_law_below xm N v65 16 m65) fun v70 m70 =>
  dRc xm m70 a2 11 <|
  dCI (m_K_cast xm N a2 (3 + v70) m70) fun v74 m74 =>
  dRc xm m74 a2 11 <|
  dCI (m_K_turn xm N a2 m74) fun v79 m79 =>
  m_law_work_85 xm N N a0 a1 a2 0 m79
theorem m_law_work_57_ok (hz : z.category = 1) (xm : Nat → Option kE) (N : Nat) : ∀ (a0 : Nat) (a1 : Int32) (a2 : Nat) (s0 : Nat) (s1 : Int32) (mem : kM) (R : kO × kM), m_law_work_57 xm N a0 a1 a2 s0 s1 mem = some R → kGo xm (kSm z) kDfl kFty kG 7 136 57 [(0, .ref a0), (1, .int a1), (2, .ref a2)] [.int s1, .ref s0] mem (dEq R) := by
  intro a0 a1 a2 s0 s1 mem R h
  unfold m_law_work_57 at h
  obtain ⟨fk57, hk57, h⟩ := dRc_some h
  refine wq_cI rfl (kCall_v hk57 (as := [.int s1]) (rest := []) ⟨by decide, rfl, (show 1 < 90 by decide), by decide⟩ (show 0 ≤ 8 by decide)) h (fun r hr => ca_up (by decide) (m_K_join_ok hz xm N hr)) (fun v57 m57 h => ?_)
  refine wp_run 5 (pc' := 65) (lv' := [(0, .ref a0), (1, .int a1), (2, .ref a2)]) (st' := [.int 1, .ref a0, .int 3, .ref a2]) (mem' := m57) rfl ?_
  refine wq_cI rfl (kCall_s (as := [.ref a0, .int 1]) (rest := [.int 3, .ref a2]) ⟨by decide, rfl⟩ (show 2 ≤ 8 by decide) (by decide)) h (fun r hr => ca_up (by decide) (m_law_cell_ok hz xm N hr)) (fun v65 m65 h => ?_)
  refine wp_run 1 (pc' := 70) (lv' := [(0, .ref a0), (1, .int a1), (2, .ref a2)]) (st' := [.int 16, .int v65, .int 3, .ref a2]) (mem' := m65) rfl ?_
  refine wq_cI rfl (kCall_s (as := [.int v65, .int 16]) (rest := [.int 3, .ref a2]) ⟨by decide, rfl⟩ (show 2 ≤ 8 by decide) (by decide)) h (fun r hr => ca_up (by decide) (m_law_below_ok hz xm N hr)) (fun v70 m70 h => ?_)
  refine wp_run 1 (pc' := 74) (lv' := [(0, .ref a0), (1, .int a1), (2, .ref a2)]) (st' := [.int (3 + v70), .ref a2]) (mem' := m70) rfl ?_
  obtain ⟨fk74, hk74, h⟩ := dRc_some h
  refine wq_cI rfl (kCall_v hk74 (as := [.int (3 + v70)]) (rest := []) ⟨by decide, rfl, (show 1 < 90 by decide), by decide⟩ (show 0 ≤ 8 by decide)) h (fun r hr => ca_up (by decide) (m_K_cast_ok hz xm N hr)) (fun v74 m74 h => ?_)
  refine wp_run 2 (pc' := 79) (lv' := [(0, .ref a0), (1, .int a1), (2, .ref a2)]) (st' := [.ref a2]) (mem' := m74) rfl ?_
  obtain ⟨fk79, hk79, h⟩ := dRc_some h
  refine wq_cI rfl (kCall_v hk79 (as := []) (rest := []) ⟨by decide, rfl, (show 0 < 90 by decide), by decide⟩ (show 0 ≤ 8 by decide)) h (fun r hr => ca_up (by decide) (m_K_turn_ok hz xm N hr)) (fun v79 m79 h => ?_)
  refine wp_run 3 (pc' := 85) (lv' := [(3, .int 0), (0, .ref a0), (1, .int a1), (2, .ref a2)]) (st' := []) (mem' := m79) rfl ?_
  refine kGo_sub (lvS_of [1, 2, 3, 0] rfl [3, 0, 1, 2] rfl (by decide)) ?_
  exact m_law_work_85_ok hz xm N N _ _ _ _ m79 R h
def m_law_work (xm : Nat → Option kE) (N : Nat) (a0 : Nat) (a1 : Int32) (mem : kM) : dRes :=
  dN mem (.inl (11, [.null, .null, .null, .null, .null, .null, .null, .int 0])) fun m0 p0 =>
  dCV (m_K_new xm N p0 m0) fun m4 =>
  dCI (m_law_cell xm N a0 0 m4) fun v13 m13 =>
  dCI (m_law_below xm N v13 400 m13) fun v19 m19 =>
  dRc xm m19 p0 11 <|
  dCI (m_K_buy xm N p0 (60 + v19) m19) fun v23 m23 =>
  dRc xm m23 p0 11 <|
  dCI (m_K_buy xm N p0 200 m23) fun v31 m31 =>
  dCI (m_law_cell xm N a0 0 m31) fun v38 m38 =>
  dCI (m_law_below xm N (v38 >>> (6 &&& 31)) 6 m38) fun v46 m46 =>
  if v46 = 0 then (
    m_law_work_57 xm N a0 a1 p0 p0 1 m46
  ) else (
    m_law_work_57 xm N a0 a1 p0 p0 0 m46
  )
theorem m_law_work_ok (hz : z.category = 1) (xm : Nat → Option kE) (N : Nat) {a0 : Nat} {a1 : Int32} {mem : kM} {R : kO × kM} (h : m_law_work xm N a0 a1 mem = some R) : kCa xm (kSm z) kDfl kFty kG 8 136 [.ref a0, .int a1] mem (dEq R) := by
  refine wq_ca (show 2 ≤ 7 by decide) ?_
  change kGo xm (kSm z) kDfl kFty kG 7 136 0 [(0, .ref a0), (1, .int a1)] [] mem (dEq R)
  unfold m_law_work at h
  refine wq_n rfl (by decide) rfl h (fun m0 p0 h => ?_)
  refine wp_run 1 (pc' := 4) (lv' := [(0, .ref a0), (1, .int a1)]) (st' := [.ref p0, .ref p0]) (mem' := m0) rfl ?_
  refine wq_cV rfl (kCall_i (as := []) (rest := [.ref p0]) ⟨by decide, rfl, (show 0 < 90 by decide)⟩ (show 1 ≤ 8 by decide)) h (fun r hr => ca_up (by decide) (m_K_new_ok hz xm N hr)) (fun m4 h => ?_)
  refine wp_run 5 (pc' := 13) (lv' := [(2, .ref p0), (0, .ref a0), (1, .int a1)]) (st' := [.int 0, .ref a0, .int 60, .ref p0]) (mem' := m4) rfl ?_
  refine wq_cI rfl (kCall_s (as := [.ref a0, .int 0]) (rest := [.int 60, .ref p0]) ⟨by decide, rfl⟩ (show 2 ≤ 8 by decide) (by decide)) h (fun r hr => ca_up (by decide) (m_law_cell_ok hz xm N hr)) (fun v13 m13 h => ?_)
  refine wp_run 1 (pc' := 19) (lv' := [(2, .ref p0), (0, .ref a0), (1, .int a1)]) (st' := [.int 400, .int v13, .int 60, .ref p0]) (mem' := m13) rfl ?_
  refine wq_cI rfl (kCall_s (as := [.int v13, .int 400]) (rest := [.int 60, .ref p0]) ⟨by decide, rfl⟩ (show 2 ≤ 8 by decide) (by decide)) h (fun r hr => ca_up (by decide) (m_law_below_ok hz xm N hr)) (fun v19 m19 h => ?_)
  refine wp_run 1 (pc' := 23) (lv' := [(2, .ref p0), (0, .ref a0), (1, .int a1)]) (st' := [.int (60 + v19), .ref p0]) (mem' := m19) rfl ?_
  obtain ⟨fk23, hk23, h⟩ := dRc_some h
  refine wq_cI rfl (kCall_v hk23 (as := [.int (60 + v19)]) (rest := []) ⟨by decide, rfl, (show 1 < 90 by decide), by decide⟩ (show 0 ≤ 8 by decide)) h (fun r hr => ca_up (by decide) (m_K_buy_ok hz xm N hr)) (fun v23 m23 h => ?_)
  refine wp_run 3 (pc' := 31) (lv' := [(2, .ref p0), (0, .ref a0), (1, .int a1)]) (st' := [.int 200, .ref p0]) (mem' := m23) rfl ?_
  obtain ⟨fk31, hk31, h⟩ := dRc_some h
  refine wq_cI rfl (kCall_v hk31 (as := [.int 200]) (rest := []) ⟨by decide, rfl, (show 1 < 90 by decide), by decide⟩ (show 0 ≤ 8 by decide)) h (fun r hr => ca_up (by decide) (m_K_buy_ok hz xm N hr)) (fun v31 m31 h => ?_)
  refine wp_run 4 (pc' := 38) (lv' := [(2, .ref p0), (0, .ref a0), (1, .int a1)]) (st' := [.int 0, .ref a0, .ref p0]) (mem' := m31) rfl ?_
  refine wq_cI rfl (kCall_s (as := [.ref a0, .int 0]) (rest := [.ref p0]) ⟨by decide, rfl⟩ (show 1 ≤ 8 by decide) (by decide)) h (fun r hr => ca_up (by decide) (m_law_cell_ok hz xm N hr)) (fun v38 m38 h => ?_)
  refine wp_run 3 (pc' := 46) (lv' := [(2, .ref p0), (0, .ref a0), (1, .int a1)]) (st' := [.int 6, .int (v38 >>> (6 &&& 31)), .ref p0]) (mem' := m38) rfl ?_
  refine wq_cI rfl (kCall_s (as := [.int (v38 >>> (6 &&& 31)), .int 6]) (rest := [.ref p0]) ⟨by decide, rfl⟩ (show 1 ≤ 8 by decide) (by decide)) h (fun r hr => ca_up (by decide) (m_law_below_ok hz xm N hr)) (fun v46 m46 h => ?_)
  refine wq_ne rfl h (fun h => ?_) (fun h => ?_)
  · refine wp_run 2 (pc' := 57) (lv' := [(2, .ref p0), (0, .ref a0), (1, .int a1)]) (st' := [.int 1, .ref p0]) (mem' := m46) rfl ?_
    refine kGo_sub (lvS_of [1, 2, 0] rfl [2, 0, 1] rfl (by decide)) ?_
    exact m_law_work_57_ok hz xm N _ _ _ _ _ m46 R h
  · refine wp_run 1 (pc' := 57) (lv' := [(2, .ref p0), (0, .ref a0), (1, .int a1)]) (st' := [.int 0, .ref p0]) (mem' := m46) rfl ?_
    refine kGo_sub (lvS_of [1, 2, 0] rfl [2, 0, 1] rfl (by decide)) ?_
    exact m_law_work_57_ok hz xm N _ _ _ _ _ m46 R h
/-- Knitstead.canDo(I)Z -/
def m_K_canDo (xm : Nat → Option kE) (N : Nat) (a0 : Nat) (a1 : Int32) (mem : kM) : dRes :=
  dGR xm mem a0 11 1 fun v2 =>
  dGR xm mem v2 10 0 fun v5 =>
  dGI xm mem v5 7 1 fun v8 =>
  dGR xm mem a0 11 1 fun v12 =>
  dRc xm mem v12 10 <|
  dCI (m_Work_onBoth xm N v12 mem) fun v15 m15 =>
  dGR xm m15 a0 11 0 fun v19 =>
  dRc xm m15 v19 5 <|
  dCI (m_Balls_ofJoined xm N v19 m15) fun v22 m22 =>
  dCI (m_K_fits xm N a1 v8 v15 v22 m22) fun v25 m25 =>
  dRt (some .boolean) v25 m25
theorem m_K_canDo_ok (hz : z.category = 1) (xm : Nat → Option kE) (N : Nat) {a0 : Nat} {a1 : Int32} {mem : kM} {R : kO × kM} (h : m_K_canDo xm N a0 a1 mem = some R) : kCa xm (kSm z) kDfl kFty kG 4 77 [.ref a0, .int a1] mem (dEq R) := by
  refine wq_ca (show 2 ≤ 2 by decide) ?_
  change kGo xm (kSm z) kDfl kFty kG 3 77 0 [(0, .ref a0), (1, .int a1)] [] mem (dEq R)
  unfold m_K_canDo at h
  refine wp_run 2 (pc' := 2) (lv' := [(0, .ref a0), (1, .int a1)]) (st' := [.ref a0, .int a1]) (mem' := mem) rfl ?_
  refine wq_gR rfl h (fun v2 h => ?_)
  refine wq_gR rfl h (fun v5 h => ?_)
  refine wq_gI rfl h (fun v8 h => ?_)
  refine wp_run 1 (pc' := 12) (lv' := [(0, .ref a0), (1, .int a1)]) (st' := [.ref a0, .int v8, .int a1]) (mem' := mem) rfl ?_
  refine wq_gR rfl h (fun v12 h => ?_)
  obtain ⟨fk15, hk15, h⟩ := dRc_some h
  refine wq_cI rfl (kCall_v hk15 (as := []) (rest := [.int v8, .int a1]) ⟨by decide, rfl, (show 0 < 90 by decide), by decide⟩ (show 2 ≤ 8 by decide)) h (fun r hr => ca_up (by decide) (m_Work_onBoth_ok hz xm N hr)) (fun v15 m15 h => ?_)
  refine wp_run 1 (pc' := 19) (lv' := [(0, .ref a0), (1, .int a1)]) (st' := [.ref a0, .int v15, .int v8, .int a1]) (mem' := m15) rfl ?_
  refine wq_gR rfl h (fun v19 h => ?_)
  obtain ⟨fk22, hk22, h⟩ := dRc_some h
  refine wq_cI rfl (kCall_v hk22 (as := []) (rest := [.int v15, .int v8, .int a1]) ⟨by decide, rfl, (show 0 < 90 by decide), by decide⟩ (show 3 ≤ 8 by decide)) h (fun r hr => ca_up (by decide) (m_Balls_ofJoined_ok hz xm N hr)) (fun v22 m22 h => ?_)
  refine wq_cI rfl (kCall_s (as := [.int a1, .int v8, .int v15, .int v22]) (rest := []) ⟨by decide, rfl⟩ (show 0 ≤ 8 by decide) (by decide)) h (fun r hr => ca_up (by decide) (m_K_fits_ok hz xm N hr)) (fun v25 m25 h => ?_)
  exact wq_retB rfl rfl h
/-- Knitstead.work(Z)I -/
def m_K_work_51 (xm : Nat → Option kE) (N : Nat) (s0 : Nat) (s1 : Int32) (mem : kM) : dRes :=
  dRc xm mem s0 11 <|
  dCI (m_K_workNext xm N s0 s1 mem) fun v51 m51 =>
  some (.inl (some (.int v51)), m51)
theorem m_K_work_51_ok (hz : z.category = 1) (xm : Nat → Option kE) (N : Nat) : ∀ (s0 : Nat) (s1 : Int32) (mem : kM) (R : kO × kM), m_K_work_51 xm N s0 s1 mem = some R → kGo xm (kSm z) kDfl kFty kG 7 43 51 [] [.int s1, .ref s0] mem (dEq R) := by
  intro s0 s1 mem R h
  unfold m_K_work_51 at h
  obtain ⟨fk51, hk51, h⟩ := dRc_some h
  refine wq_cI rfl (kCall_v hk51 (as := [.int s1]) (rest := []) ⟨by decide, rfl, (show 1 < 90 by decide), by decide⟩ (show 0 ≤ 8 by decide)) h (fun r hr => ca_up (by decide) (m_K_workNext_ok hz xm N hr)) (fun v51 m51 h => ?_)
  exact wq_ret rfl rfl h
def m_K_work_10 (xm : Nat → Option kE) (N : Nat) (a0 : Nat) (a1 : Int32) (s0 : Nat) (s1 : Int32) (mem : kM) : dRes :=
  dRc xm mem s0 11 <|
  dCI (m_K_canDo xm N s0 s1 mem) fun v10 m10 =>
  if v10 = 0 then (
    some (.inr 1, m10 ++ [.inl (1000, [.null, .null, .null, .null, .null, .null])])
  ) else (
    dGR xm m10 a0 11 5 fun v27 =>
    dGR xm m10 a0 11 1 fun v31 =>
    dGR xm m10 a0 11 0 fun v35 =>
    dRc xm m10 v27 6 <|
    dCV (m_History_keep xm N v27 v31 v35 m10) fun m38 =>
    if a1 = 0 then (
      m_K_work_51 xm N a0 1 m38
    ) else (
      m_K_work_51 xm N a0 2 m38
    )
  )
theorem m_K_work_10_ok (hz : z.category = 1) (xm : Nat → Option kE) (N : Nat) : ∀ (a0 : Nat) (a1 : Int32) (s0 : Nat) (s1 : Int32) (mem : kM) (R : kO × kM), m_K_work_10 xm N a0 a1 s0 s1 mem = some R → kGo xm (kSm z) kDfl kFty kG 7 43 10 [(0, .ref a0), (1, .int a1)] [.int s1, .ref s0] mem (dEq R) := by
  intro a0 a1 s0 s1 mem R h
  unfold m_K_work_10 at h
  obtain ⟨fk10, hk10, h⟩ := dRc_some h
  refine wq_cI rfl (kCall_v hk10 (as := [.int s1]) (rest := []) ⟨by decide, rfl, (show 1 < 90 by decide), by decide⟩ (show 0 ≤ 8 by decide)) h (fun r hr => ca_up (by decide) (m_K_canDo_ok hz xm N hr)) (fun v10 m10 h => ?_)
  refine wq_ne rfl h (fun h => ?_) (fun h => ?_)
  · exact wq_end rfl rfl h
  · refine wp_run 1 (pc' := 27) (lv' := [(0, .ref a0), (1, .int a1)]) (st' := [.ref a0]) (mem' := m10) rfl ?_
    refine wq_gR rfl h (fun v27 h => ?_)
    refine wp_run 1 (pc' := 31) (lv' := [(0, .ref a0), (1, .int a1)]) (st' := [.ref a0, .ref v27]) (mem' := m10) rfl ?_
    refine wq_gR rfl h (fun v31 h => ?_)
    refine wp_run 1 (pc' := 35) (lv' := [(0, .ref a0), (1, .int a1)]) (st' := [.ref a0, .ref v31, .ref v27]) (mem' := m10) rfl ?_
    refine wq_gR rfl h (fun v35 h => ?_)
    obtain ⟨fk38, hk38, h⟩ := dRc_some h
    refine wq_cV rfl (kCall_v hk38 (as := [.ref v31, .ref v35]) (rest := []) ⟨by decide, rfl, (show 2 < 90 by decide), by decide⟩ (show 0 ≤ 8 by decide)) h (fun r hr => ca_up (by decide) (m_History_keep_ok hz xm N hr)) (fun m38 h => ?_)
    refine wp_run 2 (pc' := 43) (lv' := [(0, .ref a0), (1, .int a1)]) (st' := [.int a1, .ref a0]) (mem' := m38) rfl ?_
    refine wq_eq rfl h (fun h => ?_) (fun h => ?_)
    · refine wp_run 1 (pc' := 51) (lv' := [(0, .ref a0), (1, .int a1)]) (st' := [.int 1, .ref a0]) (mem' := m38) rfl ?_
      refine kGo_sub (lvS_of [] rfl [0, 1] rfl (by decide)) ?_
      exact m_K_work_51_ok hz xm N _ _ m38 R h
    · refine wp_run 2 (pc' := 51) (lv' := [(0, .ref a0), (1, .int a1)]) (st' := [.int 2, .ref a0]) (mem' := m38) rfl ?_
      refine kGo_sub (lvS_of [] rfl [0, 1] rfl (by decide)) ?_
      exact m_K_work_51_ok hz xm N _ _ m38 R h
def m_K_work (xm : Nat → Option kE) (N : Nat) (a0 : Nat) (a1 : Int32) (mem : kM) : dRes :=
  if a1 = 0 then (
    m_K_work_10 xm N a0 a1 a0 1 mem
  ) else (
    m_K_work_10 xm N a0 a1 a0 2 mem
  )
theorem m_K_work_ok (hz : z.category = 1) (xm : Nat → Option kE) (N : Nat) {a0 : Nat} {a1 : Int32} {mem : kM} {R : kO × kM} (h : m_K_work xm N a0 a1 mem = some R) : kCa xm (kSm z) kDfl kFty kG 8 43 [.ref a0, .int a1] mem (dEq R) := by
  refine wq_ca (show 2 ≤ 2 by decide) ?_
  change kGo xm (kSm z) kDfl kFty kG 7 43 0 [(0, .ref a0), (1, .int a1)] [] mem (dEq R)
  unfold m_K_work at h
  refine wp_run 2 (pc' := 2) (lv' := [(0, .ref a0), (1, .int a1)]) (st' := [.int a1, .ref a0]) (mem' := mem) rfl ?_
  refine wq_eq rfl h (fun h => ?_) (fun h => ?_)
  · refine wp_run 1 (pc' := 10) (lv' := [(0, .ref a0), (1, .int a1)]) (st' := [.int 1, .ref a0]) (mem' := mem) rfl ?_
    exact m_K_work_10_ok hz xm N _ _ _ _ mem R h
  · refine wp_run 2 (pc' := 10) (lv' := [(0, .ref a0), (1, .int a1)]) (st' := [.int 2, .ref a0]) (mem' := mem) rfl ?_
    exact m_K_work_10_ok hz xm N _ _ _ _ mem R h
/-- Knitstead.over()I -/
def m_K_over (xm : Nat → Option kE) (N : Nat) (a0 : Nat) (mem : kM) : dRes :=
  dRc xm mem a0 11 <|
  dCI (m_K_canDo xm N a0 3 mem) fun v2 m2 =>
  if v2 = 0 then (
    some (.inr 1, m2 ++ [.inl (1000, [.null, .null, .null, .null, .null, .null])])
  ) else (
    dGR xm m2 a0 11 5 fun v19 =>
    dGR xm m2 a0 11 1 fun v23 =>
    dGR xm m2 a0 11 0 fun v27 =>
    dRc xm m2 v19 6 <|
    dCV (m_History_keep xm N v19 v23 v27 m2) fun m30 =>
    dRc xm m30 a0 11 <|
    dCI (m_K_makeOver xm N a0 m30) fun v34 m34 =>
    some (.inl (some (.int v34)), m34)
  )
theorem m_K_over_ok (hz : z.category = 1) (xm : Nat → Option kE) (N : Nat) {a0 : Nat} {mem : kM} {R : kO × kM} (h : m_K_over xm N a0 mem = some R) : kCa xm (kSm z) kDfl kFty kG 8 44 [.ref a0] mem (dEq R) := by
  refine wq_ca (show 1 ≤ 1 by decide) ?_
  change kGo xm (kSm z) kDfl kFty kG 7 44 0 [(0, .ref a0)] [] mem (dEq R)
  unfold m_K_over at h
  refine wp_run 2 (pc' := 2) (lv' := [(0, .ref a0)]) (st' := [.int 3, .ref a0]) (mem' := mem) rfl ?_
  obtain ⟨fk2, hk2, h⟩ := dRc_some h
  refine wq_cI rfl (kCall_v hk2 (as := [.int 3]) (rest := []) ⟨by decide, rfl, (show 1 < 90 by decide), by decide⟩ (show 0 ≤ 8 by decide)) h (fun r hr => ca_up (by decide) (m_K_canDo_ok hz xm N hr)) (fun v2 m2 h => ?_)
  refine wq_ne rfl h (fun h => ?_) (fun h => ?_)
  · exact wq_end rfl rfl h
  · refine wp_run 1 (pc' := 19) (lv' := [(0, .ref a0)]) (st' := [.ref a0]) (mem' := m2) rfl ?_
    refine wq_gR rfl h (fun v19 h => ?_)
    refine wp_run 1 (pc' := 23) (lv' := [(0, .ref a0)]) (st' := [.ref a0, .ref v19]) (mem' := m2) rfl ?_
    refine wq_gR rfl h (fun v23 h => ?_)
    refine wp_run 1 (pc' := 27) (lv' := [(0, .ref a0)]) (st' := [.ref a0, .ref v23, .ref v19]) (mem' := m2) rfl ?_
    refine wq_gR rfl h (fun v27 h => ?_)
    obtain ⟨fk30, hk30, h⟩ := dRc_some h
    refine wq_cV rfl (kCall_v hk30 (as := [.ref v23, .ref v27]) (rest := []) ⟨by decide, rfl, (show 2 < 90 by decide), by decide⟩ (show 0 ≤ 8 by decide)) h (fun r hr => ca_up (by decide) (m_History_keep_ok hz xm N hr)) (fun m30 h => ?_)
    refine wp_run 1 (pc' := 34) (lv' := [(0, .ref a0)]) (st' := [.ref a0]) (mem' := m30) rfl ?_
    obtain ⟨fk34, hk34, h⟩ := dRc_some h
    refine wq_cI rfl (kCall_v hk34 (as := []) (rest := []) ⟨by decide, rfl, (show 0 < 90 by decide), by decide⟩ (show 0 ≤ 8 by decide)) h (fun r hr => ca_up (by decide) (m_K_makeOver_ok hz xm N hr)) (fun v34 m34 h => ?_)
    exact wq_ret rfl rfl h
/-- Knitstead.together(IZ)I -/
def m_K_together_74 (xm : Nat → Option kE) (N : Nat) (s0 : Nat) (s1 : Int32) (s2 : Int32) (mem : kM) : dRes :=
  dRc xm mem s0 11 <|
  dCI (m_K_takeTogether xm N s0 s1 s2 mem) fun v74 m74 =>
  some (.inl (some (.int v74)), m74)
theorem m_K_together_74_ok (hz : z.category = 1) (xm : Nat → Option kE) (N : Nat) : ∀ (s0 : Nat) (s1 : Int32) (s2 : Int32) (mem : kM) (R : kO × kM), m_K_together_74 xm N s0 s1 s2 mem = some R → kGo xm (kSm z) kDfl kFty kG 7 45 74 [] [.int s2, .int s1, .ref s0] mem (dEq R) := by
  intro s0 s1 s2 mem R h
  unfold m_K_together_74 at h
  obtain ⟨fk74, hk74, h⟩ := dRc_some h
  refine wq_cI rfl (kCall_v hk74 (as := [.int s1, .int s2]) (rest := []) ⟨by decide, rfl, (show 2 < 90 by decide), by decide⟩ (show 0 ≤ 8 by decide)) h (fun r hr => ca_up (by decide) (m_K_takeTogether_ok hz xm N hr)) (fun v74 m74 h => ?_)
  exact wq_ret rfl rfl h
def m_K_together_32 (xm : Nat → Option kE) (N : Nat) (a0 : Nat) (a1 : Int32) (a2 : Int32) (s0 : Nat) (s1 : Int32) (mem : kM) : dRes :=
  dRc xm mem s0 11 <|
  dCI (m_K_canDo xm N s0 s1 mem) fun v32 m32 =>
  if v32 = 0 then (
    some (.inr 1, m32 ++ [.inl (1000, [.null, .null, .null, .null, .null, .null])])
  ) else (
    dGR xm m32 a0 11 5 fun v49 =>
    dGR xm m32 a0 11 1 fun v53 =>
    dGR xm m32 a0 11 0 fun v57 =>
    dRc xm m32 v49 6 <|
    dCV (m_History_keep xm N v49 v53 v57 m32) fun m60 =>
    if a2 = 0 then (
      m_K_together_74 xm N a0 a1 4 m60
    ) else (
      m_K_together_74 xm N a0 a1 5 m60
    )
  )
theorem m_K_together_32_ok (hz : z.category = 1) (xm : Nat → Option kE) (N : Nat) : ∀ (a0 : Nat) (a1 : Int32) (a2 : Int32) (s0 : Nat) (s1 : Int32) (mem : kM) (R : kO × kM), m_K_together_32 xm N a0 a1 a2 s0 s1 mem = some R → kGo xm (kSm z) kDfl kFty kG 7 45 32 [(0, .ref a0), (1, .int a1), (2, .int a2)] [.int s1, .ref s0] mem (dEq R) := by
  intro a0 a1 a2 s0 s1 mem R h
  unfold m_K_together_32 at h
  obtain ⟨fk32, hk32, h⟩ := dRc_some h
  refine wq_cI rfl (kCall_v hk32 (as := [.int s1]) (rest := []) ⟨by decide, rfl, (show 1 < 90 by decide), by decide⟩ (show 0 ≤ 8 by decide)) h (fun r hr => ca_up (by decide) (m_K_canDo_ok hz xm N hr)) (fun v32 m32 h => ?_)
  refine wq_ne rfl h (fun h => ?_) (fun h => ?_)
  · exact wq_end rfl rfl h
  · refine wp_run 1 (pc' := 49) (lv' := [(0, .ref a0), (1, .int a1), (2, .int a2)]) (st' := [.ref a0]) (mem' := m32) rfl ?_
    refine wq_gR rfl h (fun v49 h => ?_)
    refine wp_run 1 (pc' := 53) (lv' := [(0, .ref a0), (1, .int a1), (2, .int a2)]) (st' := [.ref a0, .ref v49]) (mem' := m32) rfl ?_
    refine wq_gR rfl h (fun v53 h => ?_)
    refine wp_run 1 (pc' := 57) (lv' := [(0, .ref a0), (1, .int a1), (2, .int a2)]) (st' := [.ref a0, .ref v53, .ref v49]) (mem' := m32) rfl ?_
    refine wq_gR rfl h (fun v57 h => ?_)
    obtain ⟨fk60, hk60, h⟩ := dRc_some h
    refine wq_cV rfl (kCall_v hk60 (as := [.ref v53, .ref v57]) (rest := []) ⟨by decide, rfl, (show 2 < 90 by decide), by decide⟩ (show 0 ≤ 8 by decide)) h (fun r hr => ca_up (by decide) (m_History_keep_ok hz xm N hr)) (fun m60 h => ?_)
    refine wp_run 3 (pc' := 66) (lv' := [(0, .ref a0), (1, .int a1), (2, .int a2)]) (st' := [.int a2, .int a1, .ref a0]) (mem' := m60) rfl ?_
    refine wq_eq rfl h (fun h => ?_) (fun h => ?_)
    · refine wp_run 1 (pc' := 74) (lv' := [(0, .ref a0), (1, .int a1), (2, .int a2)]) (st' := [.int 4, .int a1, .ref a0]) (mem' := m60) rfl ?_
      refine kGo_sub (lvS_of [] rfl [0, 1, 2] rfl (by decide)) ?_
      exact m_K_together_74_ok hz xm N _ _ _ m60 R h
    · refine wp_run 2 (pc' := 74) (lv' := [(0, .ref a0), (1, .int a1), (2, .int a2)]) (st' := [.int 5, .int a1, .ref a0]) (mem' := m60) rfl ?_
      refine kGo_sub (lvS_of [] rfl [0, 1, 2] rfl (by decide)) ?_
      exact m_K_together_74_ok hz xm N _ _ _ m60 R h
def m_K_together_20 (xm : Nat → Option kE) (N : Nat) (a0 : Nat) (a1 : Int32) (a2 : Int32) (mem : kM) : dRes :=
  if a1 = 2 then (
    m_K_together_32 xm N a0 a1 a2 a0 4 mem
  ) else (
    m_K_together_32 xm N a0 a1 a2 a0 8 mem
  )
theorem m_K_together_20_ok (hz : z.category = 1) (xm : Nat → Option kE) (N : Nat) : ∀ (a0 : Nat) (a1 : Int32) (a2 : Int32) (mem : kM) (R : kO × kM), m_K_together_20 xm N a0 a1 a2 mem = some R → kGo xm (kSm z) kDfl kFty kG 7 45 20 [(0, .ref a0), (1, .int a1), (2, .int a2)] [] mem (dEq R) := by
  intro a0 a1 a2 mem R h
  unfold m_K_together_20 at h
  refine wp_run 3 (pc' := 23) (lv' := [(0, .ref a0), (1, .int a1), (2, .int a2)]) (st' := [.int 2, .int a1, .ref a0]) (mem' := mem) rfl ?_
  refine wq_ne2 rfl h (fun h => ?_) (fun h => ?_)
  · refine wp_run 2 (pc' := 32) (lv' := [(0, .ref a0), (1, .int a1), (2, .int a2)]) (st' := [.int 4, .ref a0]) (mem' := mem) rfl ?_
    exact m_K_together_32_ok hz xm N _ _ _ _ _ mem R h
  · refine wp_run 1 (pc' := 32) (lv' := [(0, .ref a0), (1, .int a1), (2, .int a2)]) (st' := [.int 8, .ref a0]) (mem' := mem) rfl ?_
    exact m_K_together_32_ok hz xm N _ _ _ _ _ mem R h
def m_K_together (xm : Nat → Option kE) (N : Nat) (a0 : Nat) (a1 : Int32) (a2 : Int32) (mem : kM) : dRes :=
  if a1 = 2 then (
    m_K_together_20 xm N a0 a1 a2 mem
  ) else (
    if a1 = 3 then (
      m_K_together_20 xm N a0 a1 a2 mem
    ) else (
      some (.inr 0, mem ++ [.inl (1000, [.null, .null, .null, .null, .null, .null])])
    )
  )
theorem m_K_together_ok (hz : z.category = 1) (xm : Nat → Option kE) (N : Nat) {a0 : Nat} {a1 : Int32} {a2 : Int32} {mem : kM} {R : kO × kM} (h : m_K_together xm N a0 a1 a2 mem = some R) : kCa xm (kSm z) kDfl kFty kG 8 45 [.ref a0, .int a1, .int a2] mem (dEq R) := by
  refine wq_ca (show 3 ≤ 3 by decide) ?_
  change kGo xm (kSm z) kDfl kFty kG 7 45 0 [(0, .ref a0), (1, .int a1), (2, .int a2)] [] mem (dEq R)
  unfold m_K_together at h
  refine wp_run 2 (pc' := 2) (lv' := [(0, .ref a0), (1, .int a1), (2, .int a2)]) (st' := [.int 2, .int a1]) (mem' := mem) rfl ?_
  refine wq_eq2 rfl h (fun h => ?_) (fun h => ?_)
  · exact m_K_together_20_ok hz xm N _ _ _ mem R h
  · refine wp_run 2 (pc' := 7) (lv' := [(0, .ref a0), (1, .int a1), (2, .int a2)]) (st' := [.int 3, .int a1]) (mem' := mem) rfl ?_
    refine wq_eq2 rfl h (fun h => ?_) (fun h => ?_)
    · exact m_K_together_20_ok hz xm N _ _ _ mem R h
    · exact wq_end rfl rfl h
/-- Knitstead.slip()I -/
def m_K_slip (xm : Nat → Option kE) (N : Nat) (a0 : Nat) (mem : kM) : dRes :=
  dRc xm mem a0 11 <|
  dCI (m_K_canDo xm N a0 6 mem) fun v3 m3 =>
  if v3 = 0 then (
    some (.inr 1, m3 ++ [.inl (1000, [.null, .null, .null, .null, .null, .null])])
  ) else (
    dGR xm m3 a0 11 5 fun v20 =>
    dGR xm m3 a0 11 1 fun v24 =>
    dGR xm m3 a0 11 0 fun v28 =>
    dRc xm m3 v20 6 <|
    dCV (m_History_keep xm N v20 v24 v28 m3) fun m31 =>
    dRc xm m31 a0 11 <|
    dCI (m_K_slipNext xm N a0 m31) fun v35 m35 =>
    some (.inl (some (.int v35)), m35)
  )
theorem m_K_slip_ok (hz : z.category = 1) (xm : Nat → Option kE) (N : Nat) {a0 : Nat} {mem : kM} {R : kO × kM} (h : m_K_slip xm N a0 mem = some R) : kCa xm (kSm z) kDfl kFty kG 5 46 [.ref a0] mem (dEq R) := by
  refine wq_ca (show 1 ≤ 1 by decide) ?_
  change kGo xm (kSm z) kDfl kFty kG 4 46 0 [(0, .ref a0)] [] mem (dEq R)
  unfold m_K_slip at h
  refine wp_run 2 (pc' := 3) (lv' := [(0, .ref a0)]) (st' := [.int 6, .ref a0]) (mem' := mem) rfl ?_
  obtain ⟨fk3, hk3, h⟩ := dRc_some h
  refine wq_cI rfl (kCall_v hk3 (as := [.int 6]) (rest := []) ⟨by decide, rfl, (show 1 < 90 by decide), by decide⟩ (show 0 ≤ 8 by decide)) h (fun r hr => ca_up (by decide) (m_K_canDo_ok hz xm N hr)) (fun v3 m3 h => ?_)
  refine wq_ne rfl h (fun h => ?_) (fun h => ?_)
  · exact wq_end rfl rfl h
  · refine wp_run 1 (pc' := 20) (lv' := [(0, .ref a0)]) (st' := [.ref a0]) (mem' := m3) rfl ?_
    refine wq_gR rfl h (fun v20 h => ?_)
    refine wp_run 1 (pc' := 24) (lv' := [(0, .ref a0)]) (st' := [.ref a0, .ref v20]) (mem' := m3) rfl ?_
    refine wq_gR rfl h (fun v24 h => ?_)
    refine wp_run 1 (pc' := 28) (lv' := [(0, .ref a0)]) (st' := [.ref a0, .ref v24, .ref v20]) (mem' := m3) rfl ?_
    refine wq_gR rfl h (fun v28 h => ?_)
    obtain ⟨fk31, hk31, h⟩ := dRc_some h
    refine wq_cV rfl (kCall_v hk31 (as := [.ref v24, .ref v28]) (rest := []) ⟨by decide, rfl, (show 2 < 90 by decide), by decide⟩ (show 0 ≤ 8 by decide)) h (fun r hr => ca_up (by decide) (m_History_keep_ok hz xm N hr)) (fun m31 h => ?_)
    refine wp_run 1 (pc' := 35) (lv' := [(0, .ref a0)]) (st' := [.ref a0]) (mem' := m31) rfl ?_
    obtain ⟨fk35, hk35, h⟩ := dRc_some h
    refine wq_cI rfl (kCall_v hk35 (as := []) (rest := []) ⟨by decide, rfl, (show 0 < 90 by decide), by decide⟩ (show 0 ≤ 8 by decide)) h (fun r hr => ca_up (by decide) (m_K_slipNext_ok hz xm N hr)) (fun v35 m35 h => ?_)
    exact wq_ret rfl rfl h
/-- KnitsteadLaw.nine(LKnitstead;)Z -/
def m_law_nine (xm : Nat → Option kE) (N : Nat) (a0 : Nat) (mem : kM) : dRes :=
  dRc xm mem a0 11 <|
  dCI (m_K_many xm N a0 3 mem) fun v2 m2 =>
  if v2 < 2 then (
    some (.inl (some (.int 0)), m2)
  ) else (
    dRc xm m2 a0 11 <|
    dCI (m_K_many xm N a0 4 m2) fun v14 m14 =>
    if 23 < (v2 + v14) then (
      some (.inl (some (.int 0)), m14)
    ) else (
      dRc xm m14 a0 11 <|
      dCI (m_K_many xm N a0 2 m14) fun v26 m26 =>
      dRc xm m26 a0 11 <|
      dCI (m_K_left xm N a0 v26 m26) fun v29 m29 =>
      if v29 < 11 then (
        some (.inl (some (.int 0)), m29)
      ) else (
        dRc xm m29 a0 11 <|
        dCI (m_K_work xm N a0 0 m29) fun v41 m41 =>
        dRc xm m41 a0 11 <|
        dCI (m_K_over xm N a0 m41) fun v46 m46 =>
        dRc xm m46 a0 11 <|
        dCI (m_K_work xm N a0 0 m46) fun v52 m52 =>
        some (.inl (some (.int 1)), m52)
      )
    )
  )
theorem m_law_nine_ok (hz : z.category = 1) (xm : Nat → Option kE) (N : Nat) {a0 : Nat} {mem : kM} {R : kO × kM} (h : m_law_nine xm N a0 mem = some R) : kCa xm (kSm z) kDfl kFty kG 9 138 [.ref a0] mem (dEq R) := by
  refine wq_ca (show 1 ≤ 2 by decide) ?_
  change kGo xm (kSm z) kDfl kFty kG 8 138 0 [(0, .ref a0)] [] mem (dEq R)
  unfold m_law_nine at h
  refine wp_run 2 (pc' := 2) (lv' := [(0, .ref a0)]) (st' := [.int 3, .ref a0]) (mem' := mem) rfl ?_
  obtain ⟨fk2, hk2, h⟩ := dRc_some h
  refine wq_cI rfl (kCall_v hk2 (as := [.int 3]) (rest := []) ⟨by decide, rfl, (show 1 < 90 by decide), by decide⟩ (show 0 ≤ 8 by decide)) h (fun r hr => ca_up (by decide) (m_K_many_ok hz xm N hr)) (fun v2 m2 h => ?_)
  refine wp_run 3 (pc' := 8) (lv' := [(1, .int v2), (0, .ref a0)]) (st' := [.int 2, .int v2]) (mem' := m2) rfl ?_
  refine wq_lt2 rfl h (fun h => ?_) (fun h => ?_)
  · refine wp_run 1 (pc' := 38) (lv' := [(1, .int v2), (0, .ref a0)]) (st' := [.int 0]) (mem' := m2) rfl ?_
    exact wq_ret rfl rfl h
  · refine wp_run 3 (pc' := 14) (lv' := [(1, .int v2), (0, .ref a0)]) (st' := [.int 4, .ref a0, .int v2]) (mem' := m2) rfl ?_
    obtain ⟨fk14, hk14, h⟩ := dRc_some h
    refine wq_cI rfl (kCall_v hk14 (as := [.int 4]) (rest := [.int v2]) ⟨by decide, rfl, (show 1 < 90 by decide), by decide⟩ (show 1 ≤ 8 by decide)) h (fun r hr => ca_up (by decide) (m_K_many_ok hz xm N hr)) (fun v14 m14 h => ?_)
    refine wp_run 2 (pc' := 20) (lv' := [(1, .int v2), (0, .ref a0)]) (st' := [.int 23, .int (v2 + v14)]) (mem' := m14) rfl ?_
    refine wq_gt2 rfl h (fun h => ?_) (fun h => ?_)
    · refine wp_run 1 (pc' := 38) (lv' := [(1, .int v2), (0, .ref a0)]) (st' := [.int 0]) (mem' := m14) rfl ?_
      exact wq_ret rfl rfl h
    · refine wp_run 3 (pc' := 26) (lv' := [(1, .int v2), (0, .ref a0)]) (st' := [.int 2, .ref a0, .ref a0]) (mem' := m14) rfl ?_
      obtain ⟨fk26, hk26, h⟩ := dRc_some h
      refine wq_cI rfl (kCall_v hk26 (as := [.int 2]) (rest := [.ref a0]) ⟨by decide, rfl, (show 1 < 90 by decide), by decide⟩ (show 1 ≤ 8 by decide)) h (fun r hr => ca_up (by decide) (m_K_many_ok hz xm N hr)) (fun v26 m26 h => ?_)
      obtain ⟨fk29, hk29, h⟩ := dRc_some h
      refine wq_cI rfl (kCall_v hk29 (as := [.int v26]) (rest := []) ⟨by decide, rfl, (show 1 < 90 by decide), by decide⟩ (show 0 ≤ 8 by decide)) h (fun r hr => ca_up (by decide) (m_K_left_ok hz xm N hr)) (fun v29 m29 h => ?_)
      refine wp_run 1 (pc' := 34) (lv' := [(1, .int v2), (0, .ref a0)]) (st' := [.int 11, .int v29]) (mem' := m29) rfl ?_
      refine wq_ge2 rfl h (fun h => ?_) (fun h => ?_)
      · refine wp_run 1 (pc' := 38) (lv' := [(1, .int v2), (0, .ref a0)]) (st' := [.int 0]) (mem' := m29) rfl ?_
        exact wq_ret rfl rfl h
      · refine wp_run 2 (pc' := 41) (lv' := [(1, .int v2), (0, .ref a0)]) (st' := [.int 0, .ref a0]) (mem' := m29) rfl ?_
        obtain ⟨fk41, hk41, h⟩ := dRc_some h
        refine wq_cI rfl (kCall_v hk41 (as := [.int 0]) (rest := []) ⟨by decide, rfl, (show 1 < 90 by decide), by decide⟩ (show 0 ≤ 8 by decide)) h (fun r hr => ca_up (by decide) (m_K_work_ok hz xm N hr)) (fun v41 m41 h => ?_)
        refine wp_run 2 (pc' := 46) (lv' := [(1, .int v2), (0, .ref a0)]) (st' := [.ref a0]) (mem' := m41) rfl ?_
        obtain ⟨fk46, hk46, h⟩ := dRc_some h
        refine wq_cI rfl (kCall_v hk46 (as := []) (rest := []) ⟨by decide, rfl, (show 0 < 90 by decide), by decide⟩ (show 0 ≤ 8 by decide)) h (fun r hr => ca_up (by decide) (m_K_over_ok hz xm N hr)) (fun v46 m46 h => ?_)
        refine wp_run 3 (pc' := 52) (lv' := [(1, .int v2), (0, .ref a0)]) (st' := [.int 0, .ref a0]) (mem' := m46) rfl ?_
        obtain ⟨fk52, hk52, h⟩ := dRc_some h
        refine wq_cI rfl (kCall_v hk52 (as := [.int 0]) (rest := []) ⟨by decide, rfl, (show 1 < 90 by decide), by decide⟩ (show 0 ≤ 8 by decide)) h (fun r hr => ca_up (by decide) (m_K_work_ok hz xm N hr)) (fun v52 m52 h => ?_)
        refine wp_run 2 (pc' := 57) (lv' := [(1, .int v2), (0, .ref a0)]) (st' := [.int 1]) (mem' := m52) rfl ?_
        exact wq_ret rfl rfl h
/-- KnitsteadLaw.step(LKnitstead;I)Z -/
def m_law_step_59 (xm : Nat → Option kE) (N : Nat) (s0 : Nat) (s1 : Int32) (mem : kM) : dRes :=
  dRc xm mem s0 11 <|
  dCX (m_K_work xm N s0 s1 mem) (fun v59 m59 =>
    some (.inl (some (.int 1)), m59)
  ) (fun E m59 => match E with
    | 1 =>
      some (.inl (some (.int 0)), m59)
    | _ => none)
theorem m_law_step_59_ok (hz : z.category = 1) (xm : Nat → Option kE) (N : Nat) : ∀ (s0 : Nat) (s1 : Int32) (mem : kM) (R : kO × kM), m_law_step_59 xm N s0 s1 mem = some R → kGo xm (kSm z) kDfl kFty kG 9 137 59 [] [.int s1, .ref s0] mem (dEq R) := by
  intro s0 s1 mem R h
  unfold m_law_step_59 at h
  obtain ⟨fk59, hk59, h⟩ := dRc_some h
  refine wq_cX rfl (kCall_v hk59 (as := [.int s1]) (rest := []) ⟨by decide, rfl, (show 1 < 90 by decide), by decide⟩ (show 0 ≤ 8 by decide)) h (fun r hr => ca_up (by decide) (m_K_work_ok hz xm N hr)) (fun v59 m59 h => ?_) (fun E m59 h => ?_)
  · refine wp_run 3 (pc' := 127) (lv' := []) (st' := [.int 1]) (mem' := m59) rfl ?_
    exact wq_ret rfl rfl h
  · match E, h with
    | 1, h =>
      refine ⟨129, 2, rfl, ?_⟩
      change kGo xm (kSm z) kDfl kFty kG 9 137 129 [] [] m59 (dEq R)
      refine wp_run 1 (pc' := 130) (lv' := []) (st' := [.int 0]) (mem' := m59) rfl ?_
      exact wq_ret rfl rfl h
    | 0, h => cases h
    | 2, h => cases h
    | (k + 3), h => cases h
def m_law_step_48 (xm : Nat → Option kE) (N : Nat) (a0 : Nat) (a1 : Int32) (mem : kM) : dRes :=
  if a1 = 2 then (
    m_law_step_59 xm N a0 1 mem
  ) else (
    m_law_step_59 xm N a0 0 mem
  )
theorem m_law_step_48_ok (hz : z.category = 1) (xm : Nat → Option kE) (N : Nat) : ∀ (a0 : Nat) (a1 : Int32) (mem : kM) (R : kO × kM), m_law_step_48 xm N a0 a1 mem = some R → kGo xm (kSm z) kDfl kFty kG 9 137 48 [(0, .ref a0), (1, .int a1)] [] mem (dEq R) := by
  intro a0 a1 mem R h
  unfold m_law_step_48 at h
  refine wp_run 3 (pc' := 51) (lv' := [(0, .ref a0), (1, .int a1)]) (st' := [.int 2, .int a1, .ref a0]) (mem' := mem) rfl ?_
  refine wq_ne2 rfl h (fun h => ?_) (fun h => ?_)
  · refine wp_run 2 (pc' := 59) (lv' := [(0, .ref a0), (1, .int a1)]) (st' := [.int 1, .ref a0]) (mem' := mem) rfl ?_
    refine kGo_sub (lvS_of [] rfl [0, 1] rfl (by decide)) ?_
    exact m_law_step_59_ok hz xm N _ _ mem R h
  · refine wp_run 1 (pc' := 59) (lv' := [(0, .ref a0), (1, .int a1)]) (st' := [.int 0, .ref a0]) (mem' := mem) rfl ?_
    refine kGo_sub (lvS_of [] rfl [0, 1] rfl (by decide)) ?_
    exact m_law_step_59_ok hz xm N _ _ mem R h
def m_law_step_86 (xm : Nat → Option kE) (N : Nat) (s0 : Nat) (s1 : Int32) (s2 : Int32) (mem : kM) : dRes :=
  dRc xm mem s0 11 <|
  dCX (m_K_together xm N s0 s1 s2 mem) (fun v86 m86 =>
    some (.inl (some (.int 1)), m86)
  ) (fun E m86 => match E with
    | 1 =>
      some (.inl (some (.int 0)), m86)
    | _ => none)
theorem m_law_step_86_ok (hz : z.category = 1) (xm : Nat → Option kE) (N : Nat) : ∀ (s0 : Nat) (s1 : Int32) (s2 : Int32) (mem : kM) (R : kO × kM), m_law_step_86 xm N s0 s1 s2 mem = some R → kGo xm (kSm z) kDfl kFty kG 9 137 86 [] [.int s2, .int s1, .ref s0] mem (dEq R) := by
  intro s0 s1 s2 mem R h
  unfold m_law_step_86 at h
  obtain ⟨fk86, hk86, h⟩ := dRc_some h
  refine wq_cX rfl (kCall_v hk86 (as := [.int s1, .int s2]) (rest := []) ⟨by decide, rfl, (show 2 < 90 by decide), by decide⟩ (show 0 ≤ 8 by decide)) h (fun r hr => ca_up (by decide) (m_K_together_ok hz xm N hr)) (fun v86 m86 h => ?_) (fun E m86 h => ?_)
  · refine wp_run 3 (pc' := 127) (lv' := []) (st' := [.int 1]) (mem' := m86) rfl ?_
    exact wq_ret rfl rfl h
  · match E, h with
    | 1, h =>
      refine ⟨129, 2, rfl, ?_⟩
      change kGo xm (kSm z) kDfl kFty kG 9 137 129 [] [] m86 (dEq R)
      refine wp_run 1 (pc' := 130) (lv' := []) (st' := [.int 0]) (mem' := m86) rfl ?_
      exact wq_ret rfl rfl h
    | 0, h => cases h
    | 2, h => cases h
    | (k + 3), h => cases h
def m_law_step_74 (xm : Nat → Option kE) (N : Nat) (a0 : Nat) (a1 : Int32) (mem : kM) : dRes :=
  if a1 = 5 then (
    m_law_step_86 xm N a0 2 1 mem
  ) else (
    m_law_step_86 xm N a0 2 0 mem
  )
theorem m_law_step_74_ok (hz : z.category = 1) (xm : Nat → Option kE) (N : Nat) : ∀ (a0 : Nat) (a1 : Int32) (mem : kM) (R : kO × kM), m_law_step_74 xm N a0 a1 mem = some R → kGo xm (kSm z) kDfl kFty kG 9 137 74 [(0, .ref a0), (1, .int a1)] [] mem (dEq R) := by
  intro a0 a1 mem R h
  unfold m_law_step_74 at h
  refine wp_run 4 (pc' := 78) (lv' := [(0, .ref a0), (1, .int a1)]) (st' := [.int 5, .int a1, .int 2, .ref a0]) (mem' := mem) rfl ?_
  refine wq_ne2 rfl h (fun h => ?_) (fun h => ?_)
  · refine wp_run 2 (pc' := 86) (lv' := [(0, .ref a0), (1, .int a1)]) (st' := [.int 1, .int 2, .ref a0]) (mem' := mem) rfl ?_
    refine kGo_sub (lvS_of [] rfl [0, 1] rfl (by decide)) ?_
    exact m_law_step_86_ok hz xm N _ _ _ mem R h
  · refine wp_run 1 (pc' := 86) (lv' := [(0, .ref a0), (1, .int a1)]) (st' := [.int 0, .int 2, .ref a0]) (mem' := mem) rfl ?_
    refine kGo_sub (lvS_of [] rfl [0, 1] rfl (by decide)) ?_
    exact m_law_step_86_ok hz xm N _ _ _ mem R h
def m_law_step (xm : Nat → Option kE) (N : Nat) (a0 : Nat) (a1 : Int32) (mem : kM) : dRes :=
  dSw a1 1 8 (
    dCI (m_law_nine xm N a0 mem) fun v122 m122 =>
    dRt (some .boolean) v122 m122
  ) [
  (
    m_law_step_48 xm N a0 a1 mem
  ),
  (
    m_law_step_48 xm N a0 a1 mem
  ),
  (
    dRc xm mem a0 11 <|
    dCX (m_K_over xm N a0 mem) (fun v67 m67 =>
      some (.inl (some (.int 1)), m67)
    ) (fun E m67 => match E with
      | 1 =>
        some (.inl (some (.int 0)), m67)
      | _ => none)
  ),
  (
    m_law_step_74 xm N a0 a1 mem
  ),
  (
    m_law_step_74 xm N a0 a1 mem
  ),
  (
    dRc xm mem a0 11 <|
    dCX (m_K_slip xm N a0 mem) (fun v94 m94 =>
      some (.inl (some (.int 1)), m94)
    ) (fun E m94 => match E with
      | 1 =>
        some (.inl (some (.int 0)), m94)
      | _ => none)
  ),
  (
    dRc xm mem a0 11 <|
    dCX (m_K_cross xm N a0 1 1 mem) (fun v104 m104 =>
      some (.inl (some (.int 1)), m104)
    ) (fun E m104 => match E with
      | 1 =>
        some (.inl (some (.int 0)), m104)
      | _ => none)
  ),
  (
    dRc xm mem a0 11 <|
    dCX (m_K_together xm N a0 3 0 mem) (fun v114 m114 =>
      some (.inl (some (.int 1)), m114)
    ) (fun E m114 => match E with
      | 1 =>
        some (.inl (some (.int 0)), m114)
      | _ => none)
  )
  ]
theorem m_law_step_ok (hz : z.category = 1) (xm : Nat → Option kE) (N : Nat) {a0 : Nat} {a1 : Int32} {mem : kM} {R : kO × kM} (h : m_law_step xm N a0 a1 mem = some R) : kCa xm (kSm z) kDfl kFty kG 10 137 [.ref a0, .int a1] mem (dEq R) := by
  refine wq_ca (show 2 ≤ 3 by decide) ?_
  change kGo xm (kSm z) kDfl kFty kG 9 137 0 [(0, .ref a0), (1, .int a1)] [] mem (dEq R)
  unfold m_law_step at h
  refine wp_run 1 (pc' := 1) (lv' := [(0, .ref a0), (1, .int a1)]) (st' := [.int a1]) (mem' := mem) rfl ?_
  refine wq_sw rfl h rfl (fun h => ?_) (And.intro (fun h => ?_) (And.intro (fun h => ?_) (And.intro (fun h => ?_) (And.intro (fun h => ?_) (And.intro (fun h => ?_) (And.intro (fun h => ?_) (And.intro (fun h => ?_) (And.intro (fun h => ?_) (True.intro)))))))))
  · change kGo xm (kSm z) kDfl kFty kG 9 137 121 [(0, .ref a0), (1, .int a1)] [] mem (dEq R)
    refine wp_run 1 (pc' := 122) (lv' := [(0, .ref a0), (1, .int a1)]) (st' := [.ref a0]) (mem' := mem) rfl ?_
    refine wq_cI rfl (kCall_s (as := [.ref a0]) (rest := []) ⟨by decide, rfl⟩ (show 0 ≤ 8 by decide) (by decide)) h (fun r hr => ca_up (by decide) (m_law_nine_ok hz xm N hr)) (fun v122 m122 h => ?_)
    exact wq_retB rfl rfl h
  · change kGo xm (kSm z) kDfl kFty kG 9 137 48 [(0, .ref a0), (1, .int a1)] [] mem (dEq R)
    exact m_law_step_48_ok hz xm N _ _ mem R h
  · change kGo xm (kSm z) kDfl kFty kG 9 137 48 [(0, .ref a0), (1, .int a1)] [] mem (dEq R)
    exact m_law_step_48_ok hz xm N _ _ mem R h
  · change kGo xm (kSm z) kDfl kFty kG 9 137 66 [(0, .ref a0), (1, .int a1)] [] mem (dEq R)
    refine wp_run 1 (pc' := 67) (lv' := [(0, .ref a0), (1, .int a1)]) (st' := [.ref a0]) (mem' := mem) rfl ?_
    obtain ⟨fk67, hk67, h⟩ := dRc_some h
    refine wq_cX rfl (kCall_v hk67 (as := []) (rest := []) ⟨by decide, rfl, (show 0 < 90 by decide), by decide⟩ (show 0 ≤ 8 by decide)) h (fun r hr => ca_up (by decide) (m_K_over_ok hz xm N hr)) (fun v67 m67 h => ?_) (fun E m67 h => ?_)
    · refine wp_run 3 (pc' := 127) (lv' := [(0, .ref a0), (1, .int a1)]) (st' := [.int 1]) (mem' := m67) rfl ?_
      exact wq_ret rfl rfl h
    · match E, h with
      | 1, h =>
        refine ⟨129, 2, rfl, ?_⟩
        change kGo xm (kSm z) kDfl kFty kG 9 137 129 [(0, .ref a0), (1, .int a1)] [] m67 (dEq R)
        refine wp_run 1 (pc' := 130) (lv' := [(0, .ref a0), (1, .int a1)]) (st' := [.int 0]) (mem' := m67) rfl ?_
        exact wq_ret rfl rfl h
      | 0, h => cases h
      | 2, h => cases h
      | (k + 3), h => cases h
  · change kGo xm (kSm z) kDfl kFty kG 9 137 74 [(0, .ref a0), (1, .int a1)] [] mem (dEq R)
    exact m_law_step_74_ok hz xm N _ _ mem R h
  · change kGo xm (kSm z) kDfl kFty kG 9 137 74 [(0, .ref a0), (1, .int a1)] [] mem (dEq R)
    exact m_law_step_74_ok hz xm N _ _ mem R h
  · change kGo xm (kSm z) kDfl kFty kG 9 137 93 [(0, .ref a0), (1, .int a1)] [] mem (dEq R)
    refine wp_run 1 (pc' := 94) (lv' := [(0, .ref a0), (1, .int a1)]) (st' := [.ref a0]) (mem' := mem) rfl ?_
    obtain ⟨fk94, hk94, h⟩ := dRc_some h
    refine wq_cX rfl (kCall_v hk94 (as := []) (rest := []) ⟨by decide, rfl, (show 0 < 90 by decide), by decide⟩ (show 0 ≤ 8 by decide)) h (fun r hr => ca_up (by decide) (m_K_slip_ok hz xm N hr)) (fun v94 m94 h => ?_) (fun E m94 h => ?_)
    · refine wp_run 3 (pc' := 127) (lv' := [(0, .ref a0), (1, .int a1)]) (st' := [.int 1]) (mem' := m94) rfl ?_
      exact wq_ret rfl rfl h
    · match E, h with
      | 1, h =>
        refine ⟨129, 2, rfl, ?_⟩
        change kGo xm (kSm z) kDfl kFty kG 9 137 129 [(0, .ref a0), (1, .int a1)] [] m94 (dEq R)
        refine wp_run 1 (pc' := 130) (lv' := [(0, .ref a0), (1, .int a1)]) (st' := [.int 0]) (mem' := m94) rfl ?_
        exact wq_ret rfl rfl h
      | 0, h => cases h
      | 2, h => cases h
      | (k + 3), h => cases h
  · change kGo xm (kSm z) kDfl kFty kG 9 137 101 [(0, .ref a0), (1, .int a1)] [] mem (dEq R)
    refine wp_run 3 (pc' := 104) (lv' := [(0, .ref a0), (1, .int a1)]) (st' := [.int 1, .int 1, .ref a0]) (mem' := mem) rfl ?_
    obtain ⟨fk104, hk104, h⟩ := dRc_some h
    refine wq_cX rfl (kCall_v hk104 (as := [.int 1, .int 1]) (rest := []) ⟨by decide, rfl, (show 2 < 90 by decide), by decide⟩ (show 0 ≤ 8 by decide)) h (fun r hr => ca_up (by decide) (m_K_cross_ok hz xm N hr)) (fun v104 m104 h => ?_) (fun E m104 h => ?_)
    · refine wp_run 3 (pc' := 127) (lv' := [(0, .ref a0), (1, .int a1)]) (st' := [.int 1]) (mem' := m104) rfl ?_
      exact wq_ret rfl rfl h
    · match E, h with
      | 1, h =>
        refine ⟨129, 2, rfl, ?_⟩
        change kGo xm (kSm z) kDfl kFty kG 9 137 129 [(0, .ref a0), (1, .int a1)] [] m104 (dEq R)
        refine wp_run 1 (pc' := 130) (lv' := [(0, .ref a0), (1, .int a1)]) (st' := [.int 0]) (mem' := m104) rfl ?_
        exact wq_ret rfl rfl h
      | 0, h => cases h
      | 2, h => cases h
      | (k + 3), h => cases h
  · change kGo xm (kSm z) kDfl kFty kG 9 137 111 [(0, .ref a0), (1, .int a1)] [] mem (dEq R)
    refine wp_run 3 (pc' := 114) (lv' := [(0, .ref a0), (1, .int a1)]) (st' := [.int 0, .int 3, .ref a0]) (mem' := mem) rfl ?_
    obtain ⟨fk114, hk114, h⟩ := dRc_some h
    refine wq_cX rfl (kCall_v hk114 (as := [.int 3, .int 0]) (rest := []) ⟨by decide, rfl, (show 2 < 90 by decide), by decide⟩ (show 0 ≤ 8 by decide)) h (fun r hr => ca_up (by decide) (m_K_together_ok hz xm N hr)) (fun v114 m114 h => ?_) (fun E m114 h => ?_)
    · refine wp_run 3 (pc' := 127) (lv' := [(0, .ref a0), (1, .int a1)]) (st' := [.int 1]) (mem' := m114) rfl ?_
      exact wq_ret rfl rfl h
    · match E, h with
      | 1, h =>
        refine ⟨129, 2, rfl, ?_⟩
        change kGo xm (kSm z) kDfl kFty kG 9 137 129 [(0, .ref a0), (1, .int a1)] [] m114 (dEq R)
        refine wp_run 1 (pc' := 130) (lv' := [(0, .ref a0), (1, .int a1)]) (st' := [.int 0]) (mem' := m114) rfl ?_
        exact wq_ret rfl rfl h
      | 0, h => cases h
      | 2, h => cases h
      | (k + 3), h => cases h
/-- Knitstead.signOf(I)C -/
def m_K_signOf_38 (xm : Nat → Option kE) (N : Nat) (a0 : Nat) (a1 : Int32) (s0 : Int32) (mem : kM) : dRes :=
  dRc xm mem a0 11 <|
  dCI (m_K_isAsMade xm N a0 a1 mem) fun v40 m40 =>
  if s0 = v40 then (
    some (.inl (some (.int 60)), m40)
  ) else (
    some (.inl (some (.int 62)), m40)
  )
theorem m_K_signOf_38_ok (hz : z.category = 1) (xm : Nat → Option kE) (N : Nat) : ∀ (a0 : Nat) (a1 : Int32) (s0 : Int32) (mem : kM) (R : kO × kM), m_K_signOf_38 xm N a0 a1 s0 mem = some R → kGo xm (kSm z) kDfl kFty kG 4 93 38 [(0, .ref a0), (1, .int a1)] [.int s0] mem (dEq R) := by
  intro a0 a1 s0 mem R h
  unfold m_K_signOf_38 at h
  refine wp_run 2 (pc' := 40) (lv' := [(0, .ref a0), (1, .int a1)]) (st' := [.int a1, .ref a0, .int s0]) (mem' := mem) rfl ?_
  obtain ⟨fk40, hk40, h⟩ := dRc_some h
  refine wq_cI rfl (kCall_v hk40 (as := [.int a1]) (rest := [.int s0]) ⟨by decide, rfl, (show 1 < 90 by decide), by decide⟩ (show 1 ≤ 8 by decide)) h (fun r hr => ca_up (by decide) (m_K_isAsMade_ok hz xm N hr)) (fun v40 m40 h => ?_)
  refine wq_ne2 rfl h (fun h => ?_) (fun h => ?_)
  · refine wp_run 2 (pc' := 53) (lv' := [(0, .ref a0), (1, .int a1)]) (st' := [.int 60]) (mem' := m40) rfl ?_
    exact wq_ret rfl rfl h
  · refine wp_run 1 (pc' := 53) (lv' := [(0, .ref a0), (1, .int a1)]) (st' := [.int 62]) (mem' := m40) rfl ?_
    exact wq_ret rfl rfl h
def m_K_signOf_28 (xm : Nat → Option kE) (N : Nat) (a0 : Nat) (a1 : Int32) (a2 : Int32) (mem : kM) : dRes :=
  if a2 = 4 then (
    m_K_signOf_38 xm N a0 a1 1 mem
  ) else (
    m_K_signOf_38 xm N a0 a1 0 mem
  )
theorem m_K_signOf_28_ok (hz : z.category = 1) (xm : Nat → Option kE) (N : Nat) : ∀ (a0 : Nat) (a1 : Int32) (a2 : Int32) (mem : kM) (R : kO × kM), m_K_signOf_28 xm N a0 a1 a2 mem = some R → kGo xm (kSm z) kDfl kFty kG 4 93 28 [(0, .ref a0), (1, .int a1), (2, .int a2)] [] mem (dEq R) := by
  intro a0 a1 a2 mem R h
  unfold m_K_signOf_28 at h
  refine wp_run 2 (pc' := 30) (lv' := [(0, .ref a0), (1, .int a1), (2, .int a2)]) (st' := [.int 4, .int a2]) (mem' := mem) rfl ?_
  refine wq_ne2 rfl h (fun h => ?_) (fun h => ?_)
  · refine wp_run 2 (pc' := 38) (lv' := [(0, .ref a0), (1, .int a1), (2, .int a2)]) (st' := [.int 1]) (mem' := mem) rfl ?_
    refine kGo_sub (lvS_of [0, 1] rfl [0, 1, 2] rfl (by decide)) ?_
    exact m_K_signOf_38_ok hz xm N _ _ _ mem R h
  · refine wp_run 1 (pc' := 38) (lv' := [(0, .ref a0), (1, .int a1), (2, .int a2)]) (st' := [.int 0]) (mem' := mem) rfl ?_
    refine kGo_sub (lvS_of [0, 1] rfl [0, 1, 2] rfl (by decide)) ?_
    exact m_K_signOf_38_ok hz xm N _ _ _ mem R h
def m_K_signOf (xm : Nat → Option kE) (N : Nat) (a0 : Nat) (a1 : Int32) (mem : kM) : dRes :=
  dGR xm mem a0 11 2 fun v1 =>
  dRc xm mem v1 8 <|
  dCI (m_Table_get xm N v1 a1 0 mem) fun v6 m6 =>
  if v6 = 3 then (
    some (.inl (some (.int 111)), m6)
  ) else (
    if v6 = 4 then (
      m_K_signOf_28 xm N a0 a1 v6 m6
    ) else (
      if v6 = 5 then (
        m_K_signOf_28 xm N a0 a1 v6 m6
      ) else (
        dRc xm m6 a0 11 <|
        dCI (m_K_isSmooth xm N a0 a1 m6) fun v56 m56 =>
        if v56 = 0 then (
          some (.inl (some (.int 45)), m56)
        ) else (
          some (.inl (some (.int 118)), m56)
        )
      )
    )
  )
theorem m_K_signOf_ok (hz : z.category = 1) (xm : Nat → Option kE) (N : Nat) {a0 : Nat} {a1 : Int32} {mem : kM} {R : kO × kM} (h : m_K_signOf xm N a0 a1 mem = some R) : kCa xm (kSm z) kDfl kFty kG 5 93 [.ref a0, .int a1] mem (dEq R) := by
  refine wq_ca (show 2 ≤ 3 by decide) ?_
  change kGo xm (kSm z) kDfl kFty kG 4 93 0 [(0, .ref a0), (1, .int a1)] [] mem (dEq R)
  unfold m_K_signOf at h
  refine wp_run 1 (pc' := 1) (lv' := [(0, .ref a0), (1, .int a1)]) (st' := [.ref a0]) (mem' := mem) rfl ?_
  refine wq_gR rfl h (fun v1 h => ?_)
  refine wp_run 2 (pc' := 6) (lv' := [(0, .ref a0), (1, .int a1)]) (st' := [.int 0, .int a1, .ref v1]) (mem' := mem) rfl ?_
  obtain ⟨fk6, hk6, h⟩ := dRc_some h
  refine wq_cI rfl (kCall_v hk6 (as := [.int a1, .int 0]) (rest := []) ⟨by decide, rfl, (show 2 < 90 by decide), by decide⟩ (show 0 ≤ 8 by decide)) h (fun r hr => ca_up (by decide) (m_Table_get_ok hz xm N hr)) (fun v6 m6 h => ?_)
  refine wp_run 3 (pc' := 12) (lv' := [(2, .int v6), (0, .ref a0), (1, .int a1)]) (st' := [.int 3, .int v6]) (mem' := m6) rfl ?_
  refine wq_ne2 rfl h (fun h => ?_) (fun h => ?_)
  · refine wp_run 1 (pc' := 17) (lv' := [(2, .int v6), (0, .ref a0), (1, .int a1)]) (st' := [.int 111]) (mem' := m6) rfl ?_
    exact wq_ret rfl rfl h
  · refine wp_run 2 (pc' := 20) (lv' := [(2, .int v6), (0, .ref a0), (1, .int a1)]) (st' := [.int 4, .int v6]) (mem' := m6) rfl ?_
    refine wq_eq2 rfl h (fun h => ?_) (fun h => ?_)
    · refine kGo_sub (lvS_of [1, 2, 0] rfl [2, 0, 1] rfl (by decide)) ?_
      exact m_K_signOf_28_ok hz xm N _ _ _ m6 R h
    · refine wp_run 2 (pc' := 25) (lv' := [(2, .int v6), (0, .ref a0), (1, .int a1)]) (st' := [.int 5, .int v6]) (mem' := m6) rfl ?_
      refine wq_ne2 rfl h (fun h => ?_) (fun h => ?_)
      · refine kGo_sub (lvS_of [1, 2, 0] rfl [2, 0, 1] rfl (by decide)) ?_
        exact m_K_signOf_28_ok hz xm N _ _ _ m6 R h
      · refine wp_run 2 (pc' := 56) (lv' := [(2, .int v6), (0, .ref a0), (1, .int a1)]) (st' := [.int a1, .ref a0]) (mem' := m6) rfl ?_
        obtain ⟨fk56, hk56, h⟩ := dRc_some h
        refine wq_cI rfl (kCall_v hk56 (as := [.int a1]) (rest := []) ⟨by decide, rfl, (show 1 < 90 by decide), by decide⟩ (show 0 ≤ 8 by decide)) h (fun r hr => ca_up (by decide) (m_K_isSmooth_ok hz xm N hr)) (fun v56 m56 h => ?_)
        refine wq_eq rfl h (fun h => ?_) (fun h => ?_)
        · refine wp_run 1 (pc' := 69) (lv' := [(2, .int v6), (0, .ref a0), (1, .int a1)]) (st' := [.int 45]) (mem' := m56) rfl ?_
          exact wq_ret rfl rfl h
        · refine wp_run 2 (pc' := 69) (lv' := [(2, .int v6), (0, .ref a0), (1, .int a1)]) (st' := [.int 118]) (mem' := m56) rfl ?_
          exact wq_ret rfl rfl h
/-- java/lang/AbstractStringBuilder.init(I)V -/
def m_ASB_new (xm : Nat → Option kE) (N : Nat) (a0 : Nat) (a1 : Int32) (mem : kM) : dRes :=
  if (1 : Int32) = 0 then (
    none
  ) else (
    dNI 1 mem a1 fun m12 p12 =>
    dP xm m12 a0 1 0 (.ref p12) fun m14 =>
    dP xm m14 a0 1 1 (.int 0) fun m19 =>
    some (.inl none, m19)
  )
theorem m_ASB_new_ok (hz : z.category = 1) (xm : Nat → Option kE) (N : Nat) {a0 : Nat} {a1 : Int32} {mem : kM} {R : kO × kM} (h : m_ASB_new xm N a0 a1 mem = some R) : kCa xm (kSm z) kDfl kFty kG 1 100 [.ref a0, .int a1] mem (dEq R) := by
  refine wq_ca (show 2 ≤ 2 by decide) ?_
  change kGo xm (kSm z) kDfl kFty kG 0 100 0 [(0, .ref a0), (1, .int a1)] [] mem (dEq R)
  unfold m_ASB_new at h
  refine wp_run 3 (pc' := 7) (lv' := [(0, .ref a0), (1, .int a1)]) (st' := [.int 1]) (mem' := mem) rfl ?_
  refine wq_eq rfl h (fun h => ?_) (fun h => ?_)
  · refine wp_run 2 (pc' := 27) (lv' := [(0, .ref a0), (1, .int a1)]) (st' := [.int a1, .ref a0]) (mem' := mem) rfl ?_
    cases h
  · refine wp_run 2 (pc' := 12) (lv' := [(0, .ref a0), (1, .int a1)]) (st' := [.int a1, .ref a0]) (mem' := mem) rfl ?_
    refine wq_nI rfl rfl h (fun m12 p12 h => ?_)
    refine wq_p rfl rfl h (fun m14 h => ?_)
    refine wp_run 2 (pc' := 19) (lv' := [(0, .ref a0), (1, .int a1)]) (st' := [.int 0, .ref a0]) (mem' := m14) rfl ?_
    refine wq_p rfl rfl h (fun m19 h => ?_)
    refine wp_run 1 (pc' := 38) (lv' := [(0, .ref a0), (1, .int a1)]) (st' := []) (mem' := m19) rfl ?_
    exact wq_end rfl rfl h
/-- java/lang/StringBuilder.init()V -/
def m_SB_new (xm : Nat → Option kE) (N : Nat) (a0 : Nat) (mem : kM) : dRes :=
  dCV (m_ASB_new xm N a0 16 mem) fun m3 =>
  some (.inl none, m3)
theorem m_SB_new_ok (hz : z.category = 1) (xm : Nat → Option kE) (N : Nat) {a0 : Nat} {mem : kM} {R : kO × kM} (h : m_SB_new xm N a0 mem = some R) : kCa xm (kSm z) kDfl kFty kG 2 118 [.ref a0] mem (dEq R) := by
  refine wq_ca (show 1 ≤ 1 by decide) ?_
  change kGo xm (kSm z) kDfl kFty kG 1 118 0 [(0, .ref a0)] [] mem (dEq R)
  unfold m_SB_new at h
  refine wp_run 2 (pc' := 3) (lv' := [(0, .ref a0)]) (st' := [.int 16, .ref a0]) (mem' := mem) rfl ?_
  refine wq_cV rfl (kCall_i (as := [.int 16]) (rest := []) ⟨by decide, rfl, (show 1 < 90 by decide)⟩ (show 0 ≤ 8 by decide)) h (fun r hr => ca_up (by decide) (m_ASB_new_ok hz xm N hr)) (fun m3 h => ?_)
  exact wq_end rfl rfl h
/-- jdk/internal/util/ArraysSupport.hugeLength(II)I -/
def m_AS_hugeLength (xm : Nat → Option kE) (N : Nat) (a0 : Int32) (a1 : Int32) (mem : kM) : dRes :=
  if (a0 + a1) < 0 then (
    none
  ) else (
    if 2147483639 < (a0 + a1) then (
      some (.inl (some (.int (a0 + a1))), mem)
    ) else (
      some (.inl (some (.int 2147483639)), mem)
    )
  )
theorem m_AS_hugeLength_ok (hz : z.category = 1) (xm : Nat → Option kE) (N : Nat) {a0 : Int32} {a1 : Int32} {mem : kM} {R : kO × kM} (h : m_AS_hugeLength xm N a0 a1 mem = some R) : kCa xm (kSm z) kDfl kFty kG 1 131 [.int a0, .int a1] mem (dEq R) := by
  refine wq_ca (show 2 ≤ 3 by decide) ?_
  change kGo xm (kSm z) kDfl kFty kG 0 131 0 [(0, .int a0), (1, .int a1)] [] mem (dEq R)
  unfold m_AS_hugeLength at h
  refine wp_run 5 (pc' := 5) (lv' := [(2, .int (a0 + a1)), (0, .int a0), (1, .int a1)]) (st' := [.int (a0 + a1)]) (mem' := mem) rfl ?_
  refine wq_ge rfl h (fun h => ?_) (fun h => ?_)
  · cases h
  · refine wp_run 2 (pc' := 52) (lv' := [(2, .int (a0 + a1)), (0, .int a0), (1, .int a1)]) (st' := [.int 2147483639, .int (a0 + a1)]) (mem' := mem) rfl ?_
    refine wq_gt2 rfl h (fun h => ?_) (fun h => ?_)
    · refine wp_run 1 (pc' := 59) (lv' := [(2, .int (a0 + a1)), (0, .int a0), (1, .int a1)]) (st' := [.int (a0 + a1)]) (mem' := mem) rfl ?_
      exact wq_ret rfl rfl h
    · refine wp_run 1 (pc' := 57) (lv' := [(2, .int (a0 + a1)), (0, .int a0), (1, .int a1)]) (st' := [.int 2147483639]) (mem' := mem) rfl ?_
      exact wq_ret rfl rfl h
/-- jdk/internal/util/ArraysSupport.newLength(III)I -/
def m_AS_newLength_21 (xm : Nat → Option kE) (N : Nat) (a0 : Int32) (a1 : Int32) (mem : kM) : dRes :=
  dCI (m_AS_hugeLength xm N a0 a1 mem) fun v23 m23 =>
  some (.inl (some (.int v23)), m23)
theorem m_AS_newLength_21_ok (hz : z.category = 1) (xm : Nat → Option kE) (N : Nat) : ∀ (a0 : Int32) (a1 : Int32) (mem : kM) (R : kO × kM), m_AS_newLength_21 xm N a0 a1 mem = some R → kGo xm (kSm z) kDfl kFty kG 1 130 21 [(0, .int a0), (1, .int a1)] [] mem (dEq R) := by
  intro a0 a1 mem R h
  unfold m_AS_newLength_21 at h
  refine wp_run 2 (pc' := 23) (lv' := [(0, .int a0), (1, .int a1)]) (st' := [.int a1, .int a0]) (mem' := mem) rfl ?_
  refine wq_cI rfl (kCall_s (as := [.int a0, .int a1]) (rest := []) ⟨by decide, rfl⟩ (show 0 ≤ 8 by decide) (by decide)) h (fun r hr => ca_up (by decide) (m_AS_hugeLength_ok hz xm N hr)) (fun v23 m23 h => ?_)
  exact wq_ret rfl rfl h
def m_AS_newLength (xm : Nat → Option kE) (N : Nat) (a0 : Int32) (a1 : Int32) (a2 : Int32) (mem : kM) : dRes :=
  dCI (m_Math_max xm N a1 a2 mem) fun v3 m3 =>
  if (0 : Int32) < (a0 + v3) then (
    if 2147483639 < (a0 + v3) then (
      m_AS_newLength_21 xm N a0 a1 m3
    ) else (
      some (.inl (some (.int (a0 + v3))), m3)
    )
  ) else (
    m_AS_newLength_21 xm N a0 a1 m3
  )
theorem m_AS_newLength_ok (hz : z.category = 1) (xm : Nat → Option kE) (N : Nat) {a0 : Int32} {a1 : Int32} {a2 : Int32} {mem : kM} {R : kO × kM} (h : m_AS_newLength xm N a0 a1 a2 mem = some R) : kCa xm (kSm z) kDfl kFty kG 2 130 [.int a0, .int a1, .int a2] mem (dEq R) := by
  refine wq_ca (show 3 ≤ 4 by decide) ?_
  change kGo xm (kSm z) kDfl kFty kG 1 130 0 [(0, .int a0), (1, .int a1), (2, .int a2)] [] mem (dEq R)
  unfold m_AS_newLength at h
  refine wp_run 3 (pc' := 3) (lv' := [(0, .int a0), (1, .int a1), (2, .int a2)]) (st' := [.int a2, .int a1, .int a0]) (mem' := mem) rfl ?_
  refine wq_cI rfl (kCall_s (as := [.int a1, .int a2]) (rest := [.int a0]) ⟨by decide, rfl⟩ (show 1 ≤ 8 by decide) (by decide)) h (fun r hr => ca_up (by decide) (m_Math_max_ok hz xm N hr)) (fun v3 m3 h => ?_)
  refine wp_run 4 (pc' := 10) (lv' := [(3, .int (a0 + v3)), (0, .int a0), (1, .int a1), (2, .int a2)]) (st' := [.int (a0 + v3), .int 0]) (mem' := m3) rfl ?_
  refine wq_ge2 rfl h (fun h => ?_) (fun h => ?_)
  · refine wp_run 2 (pc' := 16) (lv' := [(3, .int (a0 + v3)), (0, .int a0), (1, .int a1), (2, .int a2)]) (st' := [.int 2147483639, .int (a0 + v3)]) (mem' := m3) rfl ?_
    refine wq_gt2 rfl h (fun h => ?_) (fun h => ?_)
    · refine kGo_sub (lvS_of [1, 2] rfl [3, 0, 1, 2] rfl (by decide)) ?_
      exact m_AS_newLength_21_ok hz xm N _ _ m3 R h
    · refine wp_run 1 (pc' := 20) (lv' := [(3, .int (a0 + v3)), (0, .int a0), (1, .int a1), (2, .int a2)]) (st' := [.int (a0 + v3)]) (mem' := m3) rfl ?_
      exact wq_ret rfl rfl h
  · refine kGo_sub (lvS_of [1, 2] rfl [3, 0, 1, 2] rfl (by decide)) ?_
    exact m_AS_newLength_21_ok hz xm N _ _ m3 R h
/-- java/lang/AbstractStringBuilder.newCapacity(I)I -/
def m_ASB_newCapacity (xm : Nat → Option kE) (N : Nat) (a0 : Nat) (a1 : Int32) (mem : kM) : dRes :=
  dGR xm mem a0 1 0 fun v1 =>
  dLen xm mem v1 fun v4 =>
  dGI xm mem a0 1 1 fun v8 =>
  dGI xm mem a0 1 1 fun v24 =>
  dCI (m_AS_newLength xm N v4 ((a1 <<< (v8 &&& 31)) - v4) (v4 + (2 <<< (v24 &&& 31))) mem) fun v29 m29 =>
  if v29 = 2147483647 then (
    none
  ) else (
    dGI xm m29 a0 1 1 fun v54 =>
    some (.inl (some (.int (v29 >>> (v54 &&& 31)))), m29)
  )
theorem m_ASB_newCapacity_ok (hz : z.category = 1) (xm : Nat → Option kE) (N : Nat) {a0 : Nat} {a1 : Int32} {mem : kM} {R : kO × kM} (h : m_ASB_newCapacity xm N a0 a1 mem = some R) : kCa xm (kSm z) kDfl kFty kG 3 103 [.ref a0, .int a1] mem (dEq R) := by
  refine wq_ca (show 2 ≤ 6 by decide) ?_
  change kGo xm (kSm z) kDfl kFty kG 2 103 0 [(0, .ref a0), (1, .int a1)] [] mem (dEq R)
  unfold m_ASB_newCapacity at h
  refine wp_run 1 (pc' := 1) (lv' := [(0, .ref a0), (1, .int a1)]) (st' := [.ref a0]) (mem' := mem) rfl ?_
  refine wq_gR rfl h (fun v1 h => ?_)
  refine wq_len rfl h (fun v4 h => ?_)
  refine wp_run 3 (pc' := 8) (lv' := [(2, .int v4), (0, .ref a0), (1, .int a1)]) (st' := [.ref a0, .int a1]) (mem' := mem) rfl ?_
  refine wq_gI rfl h (fun v8 h => ?_)
  refine wp_run 11 (pc' := 24) (lv' := [(4, .int ((a1 <<< (v8 &&& 31)) - v4)), (3, .int (a1 <<< (v8 &&& 31))), (2, .int v4), (0, .ref a0), (1, .int a1)]) (st' := [.ref a0, .int 2, .int v4, .int ((a1 <<< (v8 &&& 31)) - v4), .int v4]) (mem' := mem) rfl ?_
  refine wq_gI rfl h (fun v24 h => ?_)
  refine wp_run 2 (pc' := 29) (lv' := [(4, .int ((a1 <<< (v8 &&& 31)) - v4)), (3, .int (a1 <<< (v8 &&& 31))), (2, .int v4), (0, .ref a0), (1, .int a1)]) (st' := [.int (v4 + (2 <<< (v24 &&& 31))), .int ((a1 <<< (v8 &&& 31)) - v4), .int v4]) (mem' := mem) rfl ?_
  refine wq_cI rfl (kCall_s (as := [.int v4, .int ((a1 <<< (v8 &&& 31)) - v4), .int (v4 + (2 <<< (v24 &&& 31)))]) (rest := []) ⟨by decide, rfl⟩ (show 0 ≤ 8 by decide) (by decide)) h (fun r hr => ca_up (by decide) (m_AS_newLength_ok hz xm N hr)) (fun v29 m29 h => ?_)
  refine wp_run 3 (pc' := 38) (lv' := [(5, .int v29), (4, .int ((a1 <<< (v8 &&& 31)) - v4)), (3, .int (a1 <<< (v8 &&& 31))), (2, .int v4), (0, .ref a0), (1, .int a1)]) (st' := [.int 2147483647, .int v29]) (mem' := m29) rfl ?_
  refine wq_ne2 rfl h (fun h => ?_) (fun h => ?_)
  · cases h
  · refine wp_run 2 (pc' := 54) (lv' := [(5, .int v29), (4, .int ((a1 <<< (v8 &&& 31)) - v4)), (3, .int (a1 <<< (v8 &&& 31))), (2, .int v4), (0, .ref a0), (1, .int a1)]) (st' := [.ref a0, .int v29]) (mem' := m29) rfl ?_
    refine wq_gI rfl h (fun v54 h => ?_)
    refine wp_run 1 (pc' := 58) (lv' := [(5, .int v29), (4, .int ((a1 <<< (v8 &&& 31)) - v4)), (3, .int (a1 <<< (v8 &&& 31))), (2, .int v4), (0, .ref a0), (1, .int a1)]) (st' := [.int (v29 >>> (v54 &&& 31))]) (mem' := m29) rfl ?_
    exact wq_ret rfl rfl h
/-- java/util/Arrays.copyOf([BI)[B -/
def m_Ars_copyOf_0 (xm : Nat → Option kE) (N : Nat) (a0 : Nat) (a1 : Int32) (mem : kM) : dRes :=
  dLen xm mem a0 fun v2 =>
  if a1 = v2 then (
    dSp xm 9004 mem a0 fun m7 p7 =>
    dCC xm m7 p7 1 1 <|
    some (.inl (some (.ref p7)), m7)
  ) else (
    dNI 1 mem a1 fun m15 p15 =>
    dLen xm m15 a0 fun v23 =>
    dCI (m_Math_min xm N v23 a1 m15) fun v25 m25 =>
    dCpy xm m25 a0 0 p15 0 v25 fun m28 =>
    some (.inl (some (.ref p15)), m28)
  )
theorem m_Ars_copyOf_0_ok (hz : z.category = 1) (xm : Nat → Option kE) (N : Nat) {a0 : Nat} {a1 : Int32} {mem : kM} {R : kO × kM} (h : m_Ars_copyOf_0 xm N a0 a1 mem = some R) : kCa xm (kSm z) kDfl kFty kG 2 125 [.ref a0, .int a1] mem (dEq R) := by
  refine wq_ca (show 2 ≤ 3 by decide) ?_
  change kGo xm (kSm z) kDfl kFty kG 1 125 0 [(0, .ref a0), (1, .int a1)] [] mem (dEq R)
  unfold m_Ars_copyOf_0 at h
  refine wp_run 2 (pc' := 2) (lv' := [(0, .ref a0), (1, .int a1)]) (st' := [.ref a0, .int a1]) (mem' := mem) rfl ?_
  refine wq_len rfl h (fun v2 h => ?_)
  refine wq_ne2 rfl h (fun h => ?_) (fun h => ?_)
  · refine wp_run 1 (pc' := 7) (lv' := [(0, .ref a0), (1, .int a1)]) (st' := [.ref a0]) (mem' := mem) rfl ?_
    refine wq_sp rfl (by decide) h (show 0 ≤ 90 by decide) (fun m7 p7 h => ?_)
    refine wq_cc rfl h (fun h => ?_)
    exact wq_end rfl rfl h
  · refine wp_run 1 (pc' := 15) (lv' := [(0, .ref a0), (1, .int a1)]) (st' := [.int a1]) (mem' := mem) rfl ?_
    refine wq_nI rfl rfl h (fun m15 p15 h => ?_)
    refine wp_run 6 (pc' := 23) (lv' := [(2, .ref p15), (0, .ref a0), (1, .int a1)]) (st' := [.ref a0, .int 0, .ref p15, .int 0, .ref a0]) (mem' := m15) rfl ?_
    refine wq_len rfl h (fun v23 h => ?_)
    refine wp_run 1 (pc' := 25) (lv' := [(2, .ref p15), (0, .ref a0), (1, .int a1)]) (st' := [.int a1, .int v23, .int 0, .ref p15, .int 0, .ref a0]) (mem' := m15) rfl ?_
    refine wq_cI rfl (kCall_s (as := [.int v23, .int a1]) (rest := [.int 0, .ref p15, .int 0, .ref a0]) ⟨by decide, rfl⟩ (show 4 ≤ 8 by decide) (by decide)) h (fun r hr => ca_up (by decide) (m_Math_min_ok hz xm N hr)) (fun v25 m25 h => ?_)
    refine wq_cpy rfl h (show 0 ≤ 90 by decide) (fun m28 h => ?_)
    refine wp_run 1 (pc' := 32) (lv' := [(2, .ref p15), (0, .ref a0), (1, .int a1)]) (st' := [.ref p15]) (mem' := m28) rfl ?_
    exact wq_end rfl rfl h
/-- java/lang/AbstractStringBuilder.ensureCapacityInternal(I)V -/
def m_ASB_ensureCapacityInternal (xm : Nat → Option kE) (N : Nat) (a0 : Nat) (a1 : Int32) (mem : kM) : dRes :=
  dGR xm mem a0 1 0 fun v1 =>
  dLen xm mem v1 fun v4 =>
  dGI xm mem a0 1 1 fun v6 =>
  if 0 < (a1 - (v4 >>> (v6 &&& 31))) then (
    dGR xm mem a0 1 0 fun v19 =>
    dRc xm mem a0 1 <|
    dCI (m_ASB_newCapacity xm N a0 a1 mem) fun v24 m24 =>
    dGI xm m24 a0 1 1 fun v28 =>
    dCR (m_Ars_copyOf_0 xm N v19 (v24 <<< (v28 &&& 31)) m24) fun v32 m32 =>
    dP xm m32 a0 1 0 (.ref v32) fun m35 =>
    some (.inl none, m35)
  ) else (
    some (.inl none, mem)
  )
theorem m_ASB_ensureCapacityInternal_ok (hz : z.category = 1) (xm : Nat → Option kE) (N : Nat) {a0 : Nat} {a1 : Int32} {mem : kM} {R : kO × kM} (h : m_ASB_ensureCapacityInternal xm N a0 a1 mem = some R) : kCa xm (kSm z) kDfl kFty kG 4 102 [.ref a0, .int a1] mem (dEq R) := by
  refine wq_ca (show 2 ≤ 3 by decide) ?_
  change kGo xm (kSm z) kDfl kFty kG 3 102 0 [(0, .ref a0), (1, .int a1)] [] mem (dEq R)
  unfold m_ASB_ensureCapacityInternal at h
  refine wp_run 1 (pc' := 1) (lv' := [(0, .ref a0), (1, .int a1)]) (st' := [.ref a0]) (mem' := mem) rfl ?_
  refine wq_gR rfl h (fun v1 h => ?_)
  refine wq_len rfl h (fun v4 h => ?_)
  refine wp_run 1 (pc' := 6) (lv' := [(0, .ref a0), (1, .int a1)]) (st' := [.ref a0, .int v4]) (mem' := mem) rfl ?_
  refine wq_gI rfl h (fun v6 h => ?_)
  refine wp_run 5 (pc' := 14) (lv' := [(2, .int (v4 >>> (v6 &&& 31))), (0, .ref a0), (1, .int a1)]) (st' := [.int (a1 - (v4 >>> (v6 &&& 31)))]) (mem' := mem) rfl ?_
  refine wq_le rfl h (fun h => ?_) (fun h => ?_)
  · refine wp_run 2 (pc' := 19) (lv' := [(2, .int (v4 >>> (v6 &&& 31))), (0, .ref a0), (1, .int a1)]) (st' := [.ref a0, .ref a0]) (mem' := mem) rfl ?_
    refine wq_gR rfl h (fun v19 h => ?_)
    refine wp_run 2 (pc' := 24) (lv' := [(2, .int (v4 >>> (v6 &&& 31))), (0, .ref a0), (1, .int a1)]) (st' := [.int a1, .ref a0, .ref v19, .ref a0]) (mem' := mem) rfl ?_
    obtain ⟨fk24, hk24, h⟩ := dRc_some h
    refine wq_cI rfl (kCall_v hk24 (as := [.int a1]) (rest := [.ref v19, .ref a0]) ⟨by decide, rfl, (show 1 < 90 by decide), by decide⟩ (show 2 ≤ 8 by decide)) h (fun r hr => ca_up (by decide) (m_ASB_newCapacity_ok hz xm N hr)) (fun v24 m24 h => ?_)
    refine wp_run 1 (pc' := 28) (lv' := [(2, .int (v4 >>> (v6 &&& 31))), (0, .ref a0), (1, .int a1)]) (st' := [.ref a0, .int v24, .ref v19, .ref a0]) (mem' := m24) rfl ?_
    refine wq_gI rfl h (fun v28 h => ?_)
    refine wp_run 1 (pc' := 32) (lv' := [(2, .int (v4 >>> (v6 &&& 31))), (0, .ref a0), (1, .int a1)]) (st' := [.int (v24 <<< (v28 &&& 31)), .ref v19, .ref a0]) (mem' := m24) rfl ?_
    refine wq_cR rfl (kCall_s (as := [.ref v19, .int (v24 <<< (v28 &&& 31))]) (rest := [.ref a0]) ⟨by decide, rfl⟩ (show 1 ≤ 8 by decide) (by decide)) h (fun r hr => ca_up (by decide) (m_Ars_copyOf_0_ok hz xm N hr)) (fun v32 m32 h => ?_)
    refine wq_p rfl rfl h (fun m35 h => ?_)
    exact wq_end rfl rfl h
  · exact wq_end rfl rfl h
/-- java/lang/AbstractStringBuilder.isLatin1()Z -/
def m_ASB_isLatin1 (xm : Nat → Option kE) (N : Nat) (a0 : Nat) (mem : kM) : dRes :=
  if (1 : Int32) = 0 then (
    some (.inl (some (.int 0)), mem)
  ) else (
    dGI xm mem a0 1 1 fun v7 =>
    if v7 = 0 then (
      some (.inl (some (.int 1)), mem)
    ) else (
      some (.inl (some (.int 0)), mem)
    )
  )
theorem m_ASB_isLatin1_ok (hz : z.category = 1) (xm : Nat → Option kE) (N : Nat) {a0 : Nat} {mem : kM} {R : kO × kM} (h : m_ASB_isLatin1 xm N a0 mem = some R) : kCa xm (kSm z) kDfl kFty kG 1 107 [.ref a0] mem (dEq R) := by
  refine wq_ca (show 1 ≤ 1 by decide) ?_
  change kGo xm (kSm z) kDfl kFty kG 0 107 0 [(0, .ref a0)] [] mem (dEq R)
  unfold m_ASB_isLatin1 at h
  refine wp_run 1 (pc' := 3) (lv' := [(0, .ref a0)]) (st' := [.int 1]) (mem' := mem) rfl ?_
  refine wq_eq rfl h (fun h => ?_) (fun h => ?_)
  · refine wp_run 1 (pc' := 18) (lv' := [(0, .ref a0)]) (st' := [.int 0]) (mem' := mem) rfl ?_
    exact wq_ret rfl rfl h
  · refine wp_run 1 (pc' := 7) (lv' := [(0, .ref a0)]) (st' := [.ref a0]) (mem' := mem) rfl ?_
    refine wq_gI rfl h (fun v7 h => ?_)
    refine wq_ne rfl h (fun h => ?_) (fun h => ?_)
    · refine wp_run 2 (pc' := 18) (lv' := [(0, .ref a0)]) (st' := [.int 1]) (mem' := mem) rfl ?_
      exact wq_ret rfl rfl h
    · refine wp_run 1 (pc' := 18) (lv' := [(0, .ref a0)]) (st' := [.int 0]) (mem' := mem) rfl ?_
      exact wq_ret rfl rfl h
/-- java/lang/StringLatin1.canEncode(C)Z -/
def m_Lat_canEncode (xm : Nat → Option kE) (N : Nat) (a0 : Int32) (mem : kM) : dRes :=
  if 255 < a0 then (
    some (.inl (some (.int 0)), mem)
  ) else (
    some (.inl (some (.int 1)), mem)
  )
theorem m_Lat_canEncode_ok (hz : z.category = 1) (xm : Nat → Option kE) (N : Nat) {a0 : Int32} {mem : kM} {R : kO × kM} (h : m_Lat_canEncode xm N a0 mem = some R) : kCa xm (kSm z) kDfl kFty kG 1 123 [.int a0] mem (dEq R) := by
  refine wq_ca (show 1 ≤ 1 by decide) ?_
  change kGo xm (kSm z) kDfl kFty kG 0 123 0 [(0, .int a0)] [] mem (dEq R)
  unfold m_Lat_canEncode at h
  refine wp_run 2 (pc' := 4) (lv' := [(0, .int a0)]) (st' := [.int 255, .int a0]) (mem' := mem) rfl ?_
  refine wq_gt2 rfl h (fun h => ?_) (fun h => ?_)
  · refine wp_run 1 (pc' := 12) (lv' := [(0, .int a0)]) (st' := [.int 0]) (mem' := mem) rfl ?_
    exact wq_ret rfl rfl h
  · refine wp_run 2 (pc' := 12) (lv' := [(0, .int a0)]) (st' := [.int 1]) (mem' := mem) rfl ?_
    exact wq_ret rfl rfl h
/-- java/lang/AbstractStringBuilder.append(C)Ljava/lang/AbstractStringBuilder; -/
def m_ASB_append_45 (xm : Nat → Option kE) (N : Nat) (a0 : Nat) (a1 : Int32) (mem : kM) : dRes :=
  dRc xm mem a0 1 <|
  dCI (m_ASB_isLatin1 xm N a0 mem) fun v46 m46 =>
  if v46 = 0 then (
    dGR xm m46 a0 1 0 fun v57 =>
    dGI xm m46 a0 1 3 fun v62 =>
    dP xm m46 a0 1 3 (.int (v62 + 1)) fun m68 =>
    none
  ) else (
    none
  )
theorem m_ASB_append_45_ok (hz : z.category = 1) (xm : Nat → Option kE) (N : Nat) : ∀ (a0 : Nat) (a1 : Int32) (mem : kM) (R : kO × kM), m_ASB_append_45 xm N a0 a1 mem = some R → kGo xm (kSm z) kDfl kFty kG 4 105 45 [(0, .ref a0), (1, .int a1)] [] mem (dEq R) := by
  intro a0 a1 mem R h
  unfold m_ASB_append_45 at h
  refine wp_run 1 (pc' := 46) (lv' := [(0, .ref a0), (1, .int a1)]) (st' := [.ref a0]) (mem' := mem) rfl ?_
  obtain ⟨fk46, hk46, h⟩ := dRc_some h
  refine wq_cI rfl (kCall_v hk46 (as := []) (rest := []) ⟨by decide, rfl, (show 0 < 90 by decide), by decide⟩ (show 0 ≤ 8 by decide)) h (fun r hr => ca_up (by decide) (m_ASB_isLatin1_ok hz xm N hr)) (fun v46 m46 h => ?_)
  refine wq_eq rfl h (fun h => ?_) (fun h => ?_)
  · refine wp_run 1 (pc' := 57) (lv' := [(0, .ref a0), (1, .int a1)]) (st' := [.ref a0]) (mem' := m46) rfl ?_
    refine wq_gR rfl h (fun v57 h => ?_)
    refine wp_run 2 (pc' := 62) (lv' := [(0, .ref a0), (1, .int a1)]) (st' := [.ref a0, .ref a0, .ref v57]) (mem' := m46) rfl ?_
    refine wq_gI rfl h (fun v62 h => ?_)
    refine wp_run 3 (pc' := 68) (lv' := [(0, .ref a0), (1, .int a1)]) (st' := [.int (v62 + 1), .ref a0, .int v62, .ref v57]) (mem' := m46) rfl ?_
    refine wq_p rfl rfl h (fun m68 h => ?_)
    cases h
  · refine wp_run 1 (pc' := 53) (lv' := [(0, .ref a0), (1, .int a1)]) (st' := [.ref a0]) (mem' := m46) rfl ?_
    cases h
def m_ASB_append (xm : Nat → Option kE) (N : Nat) (a0 : Nat) (a1 : Int32) (mem : kM) : dRes :=
  dGI xm mem a0 1 3 fun v2 =>
  dRc xm mem a0 1 <|
  dCV (m_ASB_ensureCapacityInternal xm N a0 (v2 + 1) mem) fun m7 =>
  dRc xm m7 a0 1 <|
  dCI (m_ASB_isLatin1 xm N a0 m7) fun v11 m11 =>
  if v11 = 0 then (
    m_ASB_append_45 xm N a0 a1 m11
  ) else (
    dCI (m_Lat_canEncode xm N a1 m11) fun v18 m18 =>
    if v18 = 0 then (
      m_ASB_append_45 xm N a0 a1 m18
    ) else (
      dGR xm m18 a0 1 0 fun v25 =>
      dGI xm m18 a0 1 3 fun v30 =>
      dP xm m18 a0 1 3 (.int (v30 + 1)) fun m36 =>
      dBS xm m36 v25 v30 (Int8.toInt32 (Int32.toInt8 a1)) fun m41 =>
      some (.inl (some (.ref a0)), m41)
    )
  )
theorem m_ASB_append_ok (hz : z.category = 1) (xm : Nat → Option kE) (N : Nat) {a0 : Nat} {a1 : Int32} {mem : kM} {R : kO × kM} (h : m_ASB_append xm N a0 a1 mem = some R) : kCa xm (kSm z) kDfl kFty kG 5 105 [.ref a0, .int a1] mem (dEq R) := by
  refine wq_ca (show 2 ≤ 2 by decide) ?_
  change kGo xm (kSm z) kDfl kFty kG 4 105 0 [(0, .ref a0), (1, .int a1)] [] mem (dEq R)
  unfold m_ASB_append at h
  refine wp_run 2 (pc' := 2) (lv' := [(0, .ref a0), (1, .int a1)]) (st' := [.ref a0, .ref a0]) (mem' := mem) rfl ?_
  refine wq_gI rfl h (fun v2 h => ?_)
  refine wp_run 2 (pc' := 7) (lv' := [(0, .ref a0), (1, .int a1)]) (st' := [.int (v2 + 1), .ref a0]) (mem' := mem) rfl ?_
  obtain ⟨fk7, hk7, h⟩ := dRc_some h
  refine wq_cV rfl (kCall_v hk7 (as := [.int (v2 + 1)]) (rest := []) ⟨by decide, rfl, (show 1 < 90 by decide), by decide⟩ (show 0 ≤ 8 by decide)) h (fun r hr => ca_up (by decide) (m_ASB_ensureCapacityInternal_ok hz xm N hr)) (fun m7 h => ?_)
  refine wp_run 1 (pc' := 11) (lv' := [(0, .ref a0), (1, .int a1)]) (st' := [.ref a0]) (mem' := m7) rfl ?_
  obtain ⟨fk11, hk11, h⟩ := dRc_some h
  refine wq_cI rfl (kCall_v hk11 (as := []) (rest := []) ⟨by decide, rfl, (show 0 < 90 by decide), by decide⟩ (show 0 ≤ 8 by decide)) h (fun r hr => ca_up (by decide) (m_ASB_isLatin1_ok hz xm N hr)) (fun v11 m11 h => ?_)
  refine wq_eq rfl h (fun h => ?_) (fun h => ?_)
  · exact m_ASB_append_45_ok hz xm N _ _ m11 R h
  · refine wp_run 1 (pc' := 18) (lv' := [(0, .ref a0), (1, .int a1)]) (st' := [.int a1]) (mem' := m11) rfl ?_
    refine wq_cI rfl (kCall_s (as := [.int a1]) (rest := []) ⟨by decide, rfl⟩ (show 0 ≤ 8 by decide) (by decide)) h (fun r hr => ca_up (by decide) (m_Lat_canEncode_ok hz xm N hr)) (fun v18 m18 h => ?_)
    refine wq_eq rfl h (fun h => ?_) (fun h => ?_)
    · exact m_ASB_append_45_ok hz xm N _ _ m18 R h
    · refine wp_run 1 (pc' := 25) (lv' := [(0, .ref a0), (1, .int a1)]) (st' := [.ref a0]) (mem' := m18) rfl ?_
      refine wq_gR rfl h (fun v25 h => ?_)
      refine wp_run 2 (pc' := 30) (lv' := [(0, .ref a0), (1, .int a1)]) (st' := [.ref a0, .ref a0, .ref v25]) (mem' := m18) rfl ?_
      refine wq_gI rfl h (fun v30 h => ?_)
      refine wp_run 3 (pc' := 36) (lv' := [(0, .ref a0), (1, .int a1)]) (st' := [.int (v30 + 1), .ref a0, .int v30, .ref v25]) (mem' := m18) rfl ?_
      refine wq_p rfl rfl h (fun m36 h => ?_)
      refine wp_run 2 (pc' := 41) (lv' := [(0, .ref a0), (1, .int a1)]) (st' := [.int (Int8.toInt32 (Int32.toInt8 a1)), .int v30, .ref v25]) (mem' := m36) rfl ?_
      refine wq_bS rfl h (fun m41 h => ?_)
      refine wp_run 2 (pc' := 76) (lv' := [(0, .ref a0), (1, .int a1)]) (st' := [.ref a0]) (mem' := m41) rfl ?_
      exact wq_end rfl rfl h
/-- java/lang/StringBuilder.append(C)Ljava/lang/StringBuilder; -/
def m_SB_append (xm : Nat → Option kE) (N : Nat) (a0 : Nat) (a1 : Int32) (mem : kM) : dRes :=
  dRc xm mem a0 1 <|
  dCR (m_ASB_append xm N a0 a1 mem) fun v2 m2 =>
  some (.inl (some (.ref a0)), m2)
theorem m_SB_append_ok (hz : z.category = 1) (xm : Nat → Option kE) (N : Nat) {a0 : Nat} {a1 : Int32} {mem : kM} {R : kO × kM} (h : m_SB_append xm N a0 a1 mem = some R) : kCa xm (kSm z) kDfl kFty kG 6 119 [.ref a0, .int a1] mem (dEq R) := by
  refine wq_ca (show 2 ≤ 2 by decide) ?_
  change kGo xm (kSm z) kDfl kFty kG 5 119 0 [(0, .ref a0), (1, .int a1)] [] mem (dEq R)
  unfold m_SB_append at h
  refine wp_run 2 (pc' := 2) (lv' := [(0, .ref a0), (1, .int a1)]) (st' := [.int a1, .ref a0]) (mem' := mem) rfl ?_
  obtain ⟨fk2, hk2, h⟩ := dRc_some h
  refine wq_cR rfl (kCall_v hk2 (as := [.int a1]) (rest := []) ⟨by decide, rfl, (show 1 < 90 by decide), by decide⟩ (show 0 ≤ 8 by decide)) h (fun r hr => ca_up (by decide) (m_ASB_append_ok hz xm N hr)) (fun v2 m2 h => ?_)
  refine wp_run 2 (pc' := 7) (lv' := [(0, .ref a0), (1, .int a1)]) (st' := [.ref a0]) (mem' := m2) rfl ?_
  exact wq_end rfl rfl h
/-- java/lang/AbstractStringBuilder.getValue()[B -/
def m_ASB_getValue (xm : Nat → Option kE) (N : Nat) (a0 : Nat) (mem : kM) : dRes :=
  dGR xm mem a0 1 0 fun v1 =>
  some (.inl (some (.ref v1)), mem)
theorem m_ASB_getValue_ok (hz : z.category = 1) (xm : Nat → Option kE) (N : Nat) {a0 : Nat} {mem : kM} {R : kO × kM} (h : m_ASB_getValue xm N a0 mem = some R) : kCa xm (kSm z) kDfl kFty kG 1 106 [.ref a0] mem (dEq R) := by
  refine wq_ca (show 1 ≤ 1 by decide) ?_
  change kGo xm (kSm z) kDfl kFty kG 0 106 0 [(0, .ref a0)] [] mem (dEq R)
  unfold m_ASB_getValue at h
  refine wp_run 1 (pc' := 1) (lv' := [(0, .ref a0)]) (st' := [.ref a0]) (mem' := mem) rfl ?_
  refine wq_gR rfl h (fun v1 h => ?_)
  exact wq_end rfl rfl h
/-- java/lang/AbstractStringBuilder.length()I -/
def m_ASB_length (xm : Nat → Option kE) (N : Nat) (a0 : Nat) (mem : kM) : dRes :=
  dGI xm mem a0 1 3 fun v1 =>
  some (.inl (some (.int v1)), mem)
theorem m_ASB_length_ok (hz : z.category = 1) (xm : Nat → Option kE) (N : Nat) {a0 : Nat} {mem : kM} {R : kO × kM} (h : m_ASB_length xm N a0 mem = some R) : kCa xm (kSm z) kDfl kFty kG 1 101 [.ref a0] mem (dEq R) := by
  refine wq_ca (show 1 ≤ 1 by decide) ?_
  change kGo xm (kSm z) kDfl kFty kG 0 101 0 [(0, .ref a0)] [] mem (dEq R)
  unfold m_ASB_length at h
  refine wp_run 1 (pc' := 1) (lv' := [(0, .ref a0)]) (st' := [.ref a0]) (mem' := mem) rfl ?_
  refine wq_gI rfl h (fun v1 h => ?_)
  exact wq_ret rfl rfl h
/-- java/lang/StringBuilder.length()I -/
def m_SB_length (xm : Nat → Option kE) (N : Nat) (a0 : Nat) (mem : kM) : dRes :=
  dRc xm mem a0 1 <|
  dCI (m_ASB_length xm N a0 mem) fun v1 m1 =>
  some (.inl (some (.int v1)), m1)
theorem m_SB_length_ok (hz : z.category = 1) (xm : Nat → Option kE) (N : Nat) {a0 : Nat} {mem : kM} {R : kO × kM} (h : m_SB_length xm N a0 mem = some R) : kCa xm (kSm z) kDfl kFty kG 2 121 [.ref a0] mem (dEq R) := by
  refine wq_ca (show 1 ≤ 1 by decide) ?_
  change kGo xm (kSm z) kDfl kFty kG 1 121 0 [(0, .ref a0)] [] mem (dEq R)
  unfold m_SB_length at h
  refine wp_run 1 (pc' := 1) (lv' := [(0, .ref a0)]) (st' := [.ref a0]) (mem' := mem) rfl ?_
  obtain ⟨fk1, hk1, h⟩ := dRc_some h
  refine wq_cI rfl (kCall_v hk1 (as := []) (rest := []) ⟨by decide, rfl, (show 0 < 90 by decide), by decide⟩ (show 0 ≤ 8 by decide)) h (fun r hr => ca_up (by decide) (m_ASB_length_ok hz xm N hr)) (fun v1 m1 h => ?_)
  exact wq_ret rfl rfl h
/-- java/util/Arrays.checkLength(II)V -/
def m_Ars_checkLength (xm : Nat → Option kE) (N : Nat) (a0 : Int32) (a1 : Int32) (mem : kM) : dRes :=
  if a1 < a0 then (
    none
  ) else (
    some (.inl none, mem)
  )
theorem m_Ars_checkLength_ok (hz : z.category = 1) (xm : Nat → Option kE) (N : Nat) {a0 : Int32} {a1 : Int32} {mem : kM} {R : kO × kM} (h : m_Ars_checkLength xm N a0 a1 mem = some R) : kCa xm (kSm z) kDfl kFty kG 1 127 [.int a0, .int a1] mem (dEq R) := by
  refine wq_ca (show 2 ≤ 2 by decide) ?_
  change kGo xm (kSm z) kDfl kFty kG 0 127 0 [(0, .int a0), (1, .int a1)] [] mem (dEq R)
  unfold m_Ars_checkLength at h
  refine wp_run 2 (pc' := 2) (lv' := [(0, .int a0), (1, .int a1)]) (st' := [.int a0, .int a1]) (mem' := mem) rfl ?_
  refine wq_ge2 rfl h (fun h => ?_) (fun h => ?_)
  · cases h
  · exact wq_end rfl rfl h
/-- java/util/Arrays.copyOfRangeByte([BII)[B -/
def m_Ars_copyOfRangeByte (xm : Nat → Option kE) (N : Nat) (a0 : Nat) (a1 : Int32) (a2 : Int32) (mem : kM) : dRes :=
  dCV (m_Ars_checkLength xm N a1 a2 mem) fun m2 =>
  dNI 1 m2 (a2 - a1) fun m10 p10 =>
  dLen xm m10 a0 fun v20 =>
  dCI (m_Math_min xm N (v20 - a1) (a2 - a1) m10) fun v24 m24 =>
  dCpy xm m24 a0 a1 p10 0 v24 fun m27 =>
  some (.inl (some (.ref p10)), m27)
theorem m_Ars_copyOfRangeByte_ok (hz : z.category = 1) (xm : Nat → Option kE) (N : Nat) {a0 : Nat} {a1 : Int32} {a2 : Int32} {mem : kM} {R : kO × kM} (h : m_Ars_copyOfRangeByte xm N a0 a1 a2 mem = some R) : kCa xm (kSm z) kDfl kFty kG 2 129 [.ref a0, .int a1, .int a2] mem (dEq R) := by
  refine wq_ca (show 3 ≤ 5 by decide) ?_
  change kGo xm (kSm z) kDfl kFty kG 1 129 0 [(0, .ref a0), (1, .int a1), (2, .int a2)] [] mem (dEq R)
  unfold m_Ars_copyOfRangeByte at h
  refine wp_run 2 (pc' := 2) (lv' := [(0, .ref a0), (1, .int a1), (2, .int a2)]) (st' := [.int a2, .int a1]) (mem' := mem) rfl ?_
  refine wq_cV rfl (kCall_s (as := [.int a1, .int a2]) (rest := []) ⟨by decide, rfl⟩ (show 0 ≤ 8 by decide) (by decide)) h (fun r hr => ca_up (by decide) (m_Ars_checkLength_ok hz xm N hr)) (fun m2 h => ?_)
  refine wp_run 5 (pc' := 10) (lv' := [(3, .int (a2 - a1)), (0, .ref a0), (1, .int a1), (2, .int a2)]) (st' := [.int (a2 - a1)]) (mem' := m2) rfl ?_
  refine wq_nI rfl rfl h (fun m10 p10 h => ?_)
  refine wp_run 6 (pc' := 20) (lv' := [(4, .ref p10), (3, .int (a2 - a1)), (0, .ref a0), (1, .int a1), (2, .int a2)]) (st' := [.ref a0, .int 0, .ref p10, .int a1, .ref a0]) (mem' := m10) rfl ?_
  refine wq_len rfl h (fun v20 h => ?_)
  refine wp_run 3 (pc' := 24) (lv' := [(4, .ref p10), (3, .int (a2 - a1)), (0, .ref a0), (1, .int a1), (2, .int a2)]) (st' := [.int (a2 - a1), .int (v20 - a1), .int 0, .ref p10, .int a1, .ref a0]) (mem' := m10) rfl ?_
  refine wq_cI rfl (kCall_s (as := [.int (v20 - a1), .int (a2 - a1)]) (rest := [.int 0, .ref p10, .int a1, .ref a0]) ⟨by decide, rfl⟩ (show 4 ≤ 8 by decide) (by decide)) h (fun r hr => ca_up (by decide) (m_Math_min_ok hz xm N hr)) (fun v24 m24 h => ?_)
  refine wq_cpy rfl h (show 0 ≤ 90 by decide) (fun m27 h => ?_)
  refine wp_run 1 (pc' := 32) (lv' := [(4, .ref p10), (3, .int (a2 - a1)), (0, .ref a0), (1, .int a1), (2, .int a2)]) (st' := [.ref p10]) (mem' := m27) rfl ?_
  exact wq_end rfl rfl h
/-- java/util/Arrays.copyOfRange([BII)[B -/
def m_Ars_copyOfRange_10 (xm : Nat → Option kE) (N : Nat) (a0 : Nat) (a1 : Int32) (a2 : Int32) (mem : kM) : dRes :=
  dCR (m_Ars_copyOfRangeByte xm N a0 a1 a2 mem) fun v13 m13 =>
  some (.inl (some (.ref v13)), m13)
theorem m_Ars_copyOfRange_10_ok (hz : z.category = 1) (xm : Nat → Option kE) (N : Nat) : ∀ (a0 : Nat) (a1 : Int32) (a2 : Int32) (mem : kM) (R : kO × kM), m_Ars_copyOfRange_10 xm N a0 a1 a2 mem = some R → kGo xm (kSm z) kDfl kFty kG 2 128 10 [(0, .ref a0), (1, .int a1), (2, .int a2)] [] mem (dEq R) := by
  intro a0 a1 a2 mem R h
  unfold m_Ars_copyOfRange_10 at h
  refine wp_run 3 (pc' := 13) (lv' := [(0, .ref a0), (1, .int a1), (2, .int a2)]) (st' := [.int a2, .int a1, .ref a0]) (mem' := mem) rfl ?_
  refine wq_cR rfl (kCall_s (as := [.ref a0, .int a1, .int a2]) (rest := []) ⟨by decide, rfl⟩ (show 0 ≤ 8 by decide) (by decide)) h (fun r hr => ca_up (by decide) (m_Ars_copyOfRangeByte_ok hz xm N hr)) (fun v13 m13 h => ?_)
  exact wq_end rfl rfl h
def m_Ars_copyOfRange (xm : Nat → Option kE) (N : Nat) (a0 : Nat) (a1 : Int32) (a2 : Int32) (mem : kM) : dRes :=
  if a1 = 0 then (
    dLen xm mem a0 fun v6 =>
    if a2 = v6 then (
      dSp xm 9004 mem a0 fun m18 p18 =>
      dCC xm m18 p18 1 1 <|
      some (.inl (some (.ref p18)), m18)
    ) else (
      m_Ars_copyOfRange_10 xm N a0 a1 a2 mem
    )
  ) else (
    m_Ars_copyOfRange_10 xm N a0 a1 a2 mem
  )
theorem m_Ars_copyOfRange_ok (hz : z.category = 1) (xm : Nat → Option kE) (N : Nat) {a0 : Nat} {a1 : Int32} {a2 : Int32} {mem : kM} {R : kO × kM} (h : m_Ars_copyOfRange xm N a0 a1 a2 mem = some R) : kCa xm (kSm z) kDfl kFty kG 3 128 [.ref a0, .int a1, .int a2] mem (dEq R) := by
  refine wq_ca (show 3 ≤ 3 by decide) ?_
  change kGo xm (kSm z) kDfl kFty kG 2 128 0 [(0, .ref a0), (1, .int a1), (2, .int a2)] [] mem (dEq R)
  unfold m_Ars_copyOfRange at h
  refine wp_run 1 (pc' := 1) (lv' := [(0, .ref a0), (1, .int a1), (2, .int a2)]) (st' := [.int a1]) (mem' := mem) rfl ?_
  refine wq_ne rfl h (fun h => ?_) (fun h => ?_)
  · refine wp_run 2 (pc' := 6) (lv' := [(0, .ref a0), (1, .int a1), (2, .int a2)]) (st' := [.ref a0, .int a2]) (mem' := mem) rfl ?_
    refine wq_len rfl h (fun v6 h => ?_)
    refine wq_eq2 rfl h (fun h => ?_) (fun h => ?_)
    · refine wp_run 1 (pc' := 18) (lv' := [(0, .ref a0), (1, .int a1), (2, .int a2)]) (st' := [.ref a0]) (mem' := mem) rfl ?_
      refine wq_sp rfl (by decide) h (show 0 ≤ 90 by decide) (fun m18 p18 h => ?_)
      refine wq_cc rfl h (fun h => ?_)
      exact wq_end rfl rfl h
    · exact m_Ars_copyOfRange_10_ok hz xm N _ _ _ mem R h
  · exact m_Ars_copyOfRange_10_ok hz xm N _ _ _ mem R h
/-- java/lang/String.init(Ljava/lang/AbstractStringBuilder;Ljava/lang/Void;)V -/
def m_Str_new_0_79 (xm : Nat → Option kE) (N : Nat) (a0 : Nat) (a3 : Nat) (a4 : Int32) (mem : kM) : dRes :=
  dP xm mem a0 0 1 (.int 1) fun m81 =>
  dCR (m_Ars_copyOfRange xm N a3 0 (a4 <<< (1 &&& 31)) m81) fun v91 m91 =>
  dP xm m91 a0 0 0 (.ref v91) fun m94 =>
  some (.inl none, m94)
theorem m_Str_new_0_79_ok (hz : z.category = 1) (xm : Nat → Option kE) (N : Nat) : ∀ (a0 : Nat) (a3 : Nat) (a4 : Int32) (mem : kM) (R : kO × kM), m_Str_new_0_79 xm N a0 a3 a4 mem = some R → kGo xm (kSm z) kDfl kFty kG 3 113 79 [(0, .ref a0), (3, .ref a3), (4, .int a4)] [] mem (dEq R) := by
  intro a0 a3 a4 mem R h
  unfold m_Str_new_0_79 at h
  refine wp_run 2 (pc' := 81) (lv' := [(0, .ref a0), (3, .ref a3), (4, .int a4)]) (st' := [.int 1, .ref a0]) (mem' := mem) rfl ?_
  refine wq_p rfl rfl h (fun m81 h => ?_)
  refine wp_run 6 (pc' := 91) (lv' := [(0, .ref a0), (3, .ref a3), (4, .int a4)]) (st' := [.int (a4 <<< (1 &&& 31)), .int 0, .ref a3, .ref a0]) (mem' := m81) rfl ?_
  refine wq_cR rfl (kCall_s (as := [.ref a3, .int 0, .int (a4 <<< (1 &&& 31))]) (rest := [.ref a0]) ⟨by decide, rfl⟩ (show 1 ≤ 8 by decide) (by decide)) h (fun r hr => ca_up (by decide) (m_Ars_copyOfRange_ok hz xm N hr)) (fun v91 m91 h => ?_)
  refine wq_p rfl rfl h (fun m94 h => ?_)
  exact wq_end rfl rfl h
def m_Str_new_0 (xm : Nat → Option kE) (N : Nat) (a0 : Nat) (a1 : Nat) (mem : kM) : dRes :=
  dRc xm mem a1 1 <|
  dCR (m_ASB_getValue xm N a1 mem) fun v5 m5 =>
  dRc xm m5 a1 1 <|
  dCI (m_SB_length xm N a1 m5) fun v10 m10 =>
  dRc xm m10 a1 1 <|
  dCI (m_ASB_isLatin1 xm N a1 m10) fun v16 m16 =>
  if v16 = 0 then (
    if (1 : Int32) = 0 then (
      m_Str_new_0_79 xm N a0 v5 v10 m16
    ) else (
      dGI xm m16 a1 1 2 fun v48 =>
      if v48 = 0 then (
        m_Str_new_0_79 xm N a0 v5 v10 m16
      ) else (
        none
      )
    )
  ) else (
    dP xm m16 a0 0 1 (.int 0) fun m24 =>
    dCR (m_Ars_copyOfRange xm N v5 0 v10 m24) fun v32 m32 =>
    dP xm m32 a0 0 0 (.ref v32) fun m35 =>
    some (.inl none, m35)
  )
theorem m_Str_new_0_ok (hz : z.category = 1) (xm : Nat → Option kE) (N : Nat) {a0 : Nat} {a1 : Nat} {mem : kM} {R : kO × kM} (h : m_Str_new_0 xm N a0 a1 mem = some R) : kCa xm (kSm z) kDfl kFty kG 4 113 [.ref a0, .ref a1, .null] mem (dEq R) := by
  refine wq_ca (show 3 ≤ 5 by decide) ?_
  change kGo xm (kSm z) kDfl kFty kG 3 113 0 [(0, .ref a0), (1, .ref a1), (2, .null)] [] mem (dEq R)
  unfold m_Str_new_0 at h
  refine wp_run 3 (pc' := 5) (lv' := [(0, .ref a0), (1, .ref a1), (2, .null)]) (st' := [.ref a1]) (mem' := mem) rfl ?_
  obtain ⟨fk5, hk5, h⟩ := dRc_some h
  refine wq_cR rfl (kCall_v hk5 (as := []) (rest := []) ⟨by decide, rfl, (show 0 < 90 by decide), by decide⟩ (show 0 ≤ 8 by decide)) h (fun r hr => ca_up (by decide) (m_ASB_getValue_ok hz xm N hr)) (fun v5 m5 h => ?_)
  refine wp_run 2 (pc' := 10) (lv' := [(3, .ref v5), (0, .ref a0), (1, .ref a1), (2, .null)]) (st' := [.ref a1]) (mem' := m5) rfl ?_
  obtain ⟨fk10, hk10, h⟩ := dRc_some h
  refine wq_cI rfl (kCall_v hk10 (as := []) (rest := []) ⟨by decide, rfl, (show 0 < 90 by decide), by decide⟩ (show 0 ≤ 8 by decide)) h (fun r hr => ca_up (by decide) (m_SB_length_ok hz xm N hr)) (fun v10 m10 h => ?_)
  refine wp_run 2 (pc' := 16) (lv' := [(4, .int v10), (3, .ref v5), (0, .ref a0), (1, .ref a1), (2, .null)]) (st' := [.ref a1]) (mem' := m10) rfl ?_
  obtain ⟨fk16, hk16, h⟩ := dRc_some h
  refine wq_cI rfl (kCall_v hk16 (as := []) (rest := []) ⟨by decide, rfl, (show 0 < 90 by decide), by decide⟩ (show 0 ≤ 8 by decide)) h (fun r hr => ca_up (by decide) (m_ASB_isLatin1_ok hz xm N hr)) (fun v16 m16 h => ?_)
  refine wq_eq rfl h (fun h => ?_) (fun h => ?_)
  · refine wp_run 1 (pc' := 44) (lv' := [(4, .int v10), (3, .ref v5), (0, .ref a0), (1, .ref a1), (2, .null)]) (st' := [.int 1]) (mem' := m16) rfl ?_
    refine wq_eq rfl h (fun h => ?_) (fun h => ?_)
    · refine kGo_sub (lvS_of [2, 1, 0] rfl [4, 3, 0, 1, 2] rfl (by decide)) ?_
      exact m_Str_new_0_79_ok hz xm N _ _ _ m16 R h
    · refine wp_run 1 (pc' := 48) (lv' := [(4, .int v10), (3, .ref v5), (0, .ref a0), (1, .ref a1), (2, .null)]) (st' := [.ref a1]) (mem' := m16) rfl ?_
      refine wq_gI rfl h (fun v48 h => ?_)
      refine wq_eq rfl h (fun h => ?_) (fun h => ?_)
      · refine kGo_sub (lvS_of [2, 1, 0] rfl [4, 3, 0, 1, 2] rfl (by decide)) ?_
        exact m_Str_new_0_79_ok hz xm N _ _ _ m16 R h
      · refine wp_run 4 (pc' := 59) (lv' := [(4, .int v10), (3, .ref v5), (0, .ref a0), (1, .ref a1), (2, .null)]) (st' := [.int v10, .int 0, .ref v5, .ref a0]) (mem' := m16) rfl ?_
        cases h
  · refine wp_run 2 (pc' := 24) (lv' := [(4, .int v10), (3, .ref v5), (0, .ref a0), (1, .ref a1), (2, .null)]) (st' := [.int 0, .ref a0]) (mem' := m16) rfl ?_
    refine wq_p rfl rfl h (fun m24 h => ?_)
    refine wp_run 4 (pc' := 32) (lv' := [(4, .int v10), (3, .ref v5), (0, .ref a0), (1, .ref a1), (2, .null)]) (st' := [.int v10, .int 0, .ref v5, .ref a0]) (mem' := m24) rfl ?_
    refine wq_cR rfl (kCall_s (as := [.ref v5, .int 0, .int v10]) (rest := [.ref a0]) ⟨by decide, rfl⟩ (show 1 ≤ 8 by decide) (by decide)) h (fun r hr => ca_up (by decide) (m_Ars_copyOfRange_ok hz xm N hr)) (fun v32 m32 h => ?_)
    refine wq_p rfl rfl h (fun m35 h => ?_)
    refine wp_run 1 (pc' := 97) (lv' := [(4, .int v10), (3, .ref v5), (0, .ref a0), (1, .ref a1), (2, .null)]) (st' := []) (mem' := m35) rfl ?_
    exact wq_end rfl rfl h
/-- java/lang/String.init(Ljava/lang/StringBuilder;)V -/
def m_Str_new_1 (xm : Nat → Option kE) (N : Nat) (a0 : Nat) (a1 : Nat) (mem : kM) : dRes :=
  dCV (m_Str_new_0 xm N a0 a1 mem) fun m3 =>
  some (.inl none, m3)
theorem m_Str_new_1_ok (hz : z.category = 1) (xm : Nat → Option kE) (N : Nat) {a0 : Nat} {a1 : Nat} {mem : kM} {R : kO × kM} (h : m_Str_new_1 xm N a0 a1 mem = some R) : kCa xm (kSm z) kDfl kFty kG 5 110 [.ref a0, .ref a1] mem (dEq R) := by
  refine wq_ca (show 2 ≤ 2 by decide) ?_
  change kGo xm (kSm z) kDfl kFty kG 4 110 0 [(0, .ref a0), (1, .ref a1)] [] mem (dEq R)
  unfold m_Str_new_1 at h
  refine wp_run 3 (pc' := 3) (lv' := [(0, .ref a0), (1, .ref a1)]) (st' := [.null, .ref a1, .ref a0]) (mem' := mem) rfl ?_
  refine wq_cV rfl (kCall_i (as := [.ref a1, .null]) (rest := []) ⟨by decide, rfl, (show 2 < 90 by decide)⟩ (show 0 ≤ 8 by decide)) h (fun r hr => ca_up (by decide) (m_Str_new_0_ok hz xm N hr)) (fun m3 h => ?_)
  exact wq_end rfl rfl h
/-- java/lang/StringBuilder.toString()Ljava/lang/String; -/
def m_SB_toString (xm : Nat → Option kE) (N : Nat) (a0 : Nat) (mem : kM) : dRes :=
  dN mem (.inl (0, [.null, .int 0, .int 0, .int 0])) fun m0 p0 =>
  dCV (m_Str_new_1 xm N p0 a0 m0) fun m5 =>
  some (.inl (some (.ref p0)), m5)
theorem m_SB_toString_ok (hz : z.category = 1) (xm : Nat → Option kE) (N : Nat) {a0 : Nat} {mem : kM} {R : kO × kM} (h : m_SB_toString xm N a0 mem = some R) : kCa xm (kSm z) kDfl kFty kG 6 120 [.ref a0] mem (dEq R) := by
  refine wq_ca (show 1 ≤ 1 by decide) ?_
  change kGo xm (kSm z) kDfl kFty kG 5 120 0 [(0, .ref a0)] [] mem (dEq R)
  unfold m_SB_toString at h
  refine wq_n rfl (by decide) rfl h (fun m0 p0 h => ?_)
  refine wp_run 2 (pc' := 5) (lv' := [(0, .ref a0)]) (st' := [.ref a0, .ref p0, .ref p0]) (mem' := m0) rfl ?_
  refine wq_cV rfl (kCall_i (as := [.ref a0]) (rest := [.ref p0]) ⟨by decide, rfl, (show 1 < 90 by decide)⟩ (show 1 ≤ 8 by decide)) h (fun r hr => ca_up (by decide) (m_Str_new_1_ok hz xm N hr)) (fun m5 h => ?_)
  exact wq_end rfl rfl h
end
