set_option maxRecDepth 20000
/-- Knitstead.make(IIII)I -/
def m_K_make (xm : Nat → Option kE) (N : Nat) (a0 : Nat) (a1 : Int32) (a2 : Int32) (a3 : Int32) (a4 : Int32) (mem : kM) : dRes :=
  dGR xm mem a0 11 1 fun v1 =>
  dGI xm mem v1 10 4 fun v4 =>
  dGR xm mem a0 11 1 fun v10 =>
  dGI xm mem v10 10 4 fun v14 =>
  dP xm mem v10 10 4 (.int (v14 + 1)) fun m19 =>
  dGR xm m19 a0 11 2 fun v23 =>
  dRc xm m19 v23 8 <|
  dCV (m_Table_set xm N v23 v4 0 a1 m19) fun m30 =>
  dGR xm m30 a0 11 2 fun v34 =>
  dGR xm m30 a0 11 0 fun v41 =>
  dGI xm m30 v41 5 2 fun v44 =>
  dRc xm m30 v34 8 <|
  dCV (m_Table_set xm N v34 v4 1 v44 m30) fun m47 =>
  dGR xm m47 a0 11 2 fun v51 =>
  dGR xm m47 a0 11 1 fun v58 =>
  dGI xm m47 v58 10 5 fun v61 =>
  dRc xm m47 v51 8 <|
  dCV (m_Table_set xm N v51 v4 2 v61 m47) fun m64 =>
  dGR xm m64 a0 11 2 fun v68 =>
  dRc xm m64 v68 8 <|
  dCV (m_Table_set xm N v68 v4 3 a2 m64) fun m75 =>
  dGR xm m75 a0 11 2 fun v79 =>
  dRc xm m75 v79 8 <|
  dCV (m_Table_set xm N v79 v4 4 a3 m75) fun m86 =>
  dGR xm m86 a0 11 0 fun v90 =>
  dRc xm m86 v90 5 <|
  dCV (m_Balls_spend xm N v90 a4 m86) fun m95 =>
  dGR xm m95 a0 11 1 fun v99 =>
  dGR xm m95 v99 10 1 fun v102 =>
  dRc xm m95 v102 7 <|
  dCV (m_Needle_put xm N v102 v4 m95) fun m107 =>
  dGR xm m107 a0 11 1 fun v111 =>
  dRc xm m107 v111 10 <|
  dCV (m_Work_letRunsFall xm N v111 m107) fun m114 =>
  some (.inl (some (.int v4)), m114)
theorem m_K_make_ok (xm : Nat → Option kE) (N : Nat) {a0 : Nat} {a1 : Int32} {a2 : Int32} {a3 : Int32} {a4 : Int32} {mem : kM} {R : kO × kM} (h : m_K_make xm N a0 a1 a2 a3 a4 mem = some R) : kCa xm kSm kDfl kFty kG 6 67 [.ref a0, .int a1, .int a2, .int a3, .int a4] mem (dEq R) := by
  refine wq_ca (show 5 ≤ 6 by decide) ?_
  change kGo xm kSm kDfl kFty kG 5 67 0 [(0, .ref a0), (1, .int a1), (2, .int a2), (3, .int a3), (4, .int a4)] [] mem (dEq R)
  unfold m_K_make at h
  refine wp_run 1 (pc' := 1) (lv' := [(0, .ref a0), (1, .int a1), (2, .int a2), (3, .int a3), (4, .int a4)]) (st' := [.ref a0]) (mem' := mem) rfl ?_
  refine wq_gR rfl h (fun v1 h => ?_)
  refine wq_gI rfl h (fun v4 h => ?_)
  refine wp_run 2 (pc' := 10) (lv' := [(5, .int v4), (0, .ref a0), (1, .int a1), (2, .int a2), (3, .int a3), (4, .int a4)]) (st' := [.ref a0]) (mem' := mem) rfl ?_
  refine wq_gR rfl h (fun v10 h => ?_)
  refine wp_run 1 (pc' := 14) (lv' := [(5, .int v4), (0, .ref a0), (1, .int a1), (2, .int a2), (3, .int a3), (4, .int a4)]) (st' := [.ref v10, .ref v10]) (mem' := mem) rfl ?_
  refine wq_gI rfl h (fun v14 h => ?_)
  refine wp_run 2 (pc' := 19) (lv' := [(5, .int v4), (0, .ref a0), (1, .int a1), (2, .int a2), (3, .int a3), (4, .int a4)]) (st' := [.int (v14 + 1), .ref v10]) (mem' := mem) rfl ?_
  refine wq_p rfl rfl h (fun m19 h => ?_)
  refine wp_run 1 (pc' := 23) (lv' := [(5, .int v4), (0, .ref a0), (1, .int a1), (2, .int a2), (3, .int a3), (4, .int a4)]) (st' := [.ref a0]) (mem' := m19) rfl ?_
  refine wq_gR rfl h (fun v23 h => ?_)
  refine wp_run 3 (pc' := 30) (lv' := [(5, .int v4), (0, .ref a0), (1, .int a1), (2, .int a2), (3, .int a3), (4, .int a4)]) (st' := [.int a1, .int 0, .int v4, .ref v23]) (mem' := m19) rfl ?_
  obtain ⟨fk30, hk30, h⟩ := dRc_some h
  refine wq_cV rfl (kCall_v hk30 (as := [.int v4, .int 0, .int a1]) (rest := []) ⟨by decide, rfl, (show 3 < 90 by decide), by decide⟩ (show 0 ≤ 8 by decide)) h (fun r hr => ca_up (by decide) (m_Table_set_ok xm N hr)) (fun m30 h => ?_)
  refine wp_run 1 (pc' := 34) (lv' := [(5, .int v4), (0, .ref a0), (1, .int a1), (2, .int a2), (3, .int a3), (4, .int a4)]) (st' := [.ref a0]) (mem' := m30) rfl ?_
  refine wq_gR rfl h (fun v34 h => ?_)
  refine wp_run 3 (pc' := 41) (lv' := [(5, .int v4), (0, .ref a0), (1, .int a1), (2, .int a2), (3, .int a3), (4, .int a4)]) (st' := [.ref a0, .int 1, .int v4, .ref v34]) (mem' := m30) rfl ?_
  refine wq_gR rfl h (fun v41 h => ?_)
  refine wq_gI rfl h (fun v44 h => ?_)
  obtain ⟨fk47, hk47, h⟩ := dRc_some h
  refine wq_cV rfl (kCall_v hk47 (as := [.int v4, .int 1, .int v44]) (rest := []) ⟨by decide, rfl, (show 3 < 90 by decide), by decide⟩ (show 0 ≤ 8 by decide)) h (fun r hr => ca_up (by decide) (m_Table_set_ok xm N hr)) (fun m47 h => ?_)
  refine wp_run 1 (pc' := 51) (lv' := [(5, .int v4), (0, .ref a0), (1, .int a1), (2, .int a2), (3, .int a3), (4, .int a4)]) (st' := [.ref a0]) (mem' := m47) rfl ?_
  refine wq_gR rfl h (fun v51 h => ?_)
  refine wp_run 3 (pc' := 58) (lv' := [(5, .int v4), (0, .ref a0), (1, .int a1), (2, .int a2), (3, .int a3), (4, .int a4)]) (st' := [.ref a0, .int 2, .int v4, .ref v51]) (mem' := m47) rfl ?_
  refine wq_gR rfl h (fun v58 h => ?_)
  refine wq_gI rfl h (fun v61 h => ?_)
  obtain ⟨fk64, hk64, h⟩ := dRc_some h
  refine wq_cV rfl (kCall_v hk64 (as := [.int v4, .int 2, .int v61]) (rest := []) ⟨by decide, rfl, (show 3 < 90 by decide), by decide⟩ (show 0 ≤ 8 by decide)) h (fun r hr => ca_up (by decide) (m_Table_set_ok xm N hr)) (fun m64 h => ?_)
  refine wp_run 1 (pc' := 68) (lv' := [(5, .int v4), (0, .ref a0), (1, .int a1), (2, .int a2), (3, .int a3), (4, .int a4)]) (st' := [.ref a0]) (mem' := m64) rfl ?_
  refine wq_gR rfl h (fun v68 h => ?_)
  refine wp_run 3 (pc' := 75) (lv' := [(5, .int v4), (0, .ref a0), (1, .int a1), (2, .int a2), (3, .int a3), (4, .int a4)]) (st' := [.int a2, .int 3, .int v4, .ref v68]) (mem' := m64) rfl ?_
  obtain ⟨fk75, hk75, h⟩ := dRc_some h
  refine wq_cV rfl (kCall_v hk75 (as := [.int v4, .int 3, .int a2]) (rest := []) ⟨by decide, rfl, (show 3 < 90 by decide), by decide⟩ (show 0 ≤ 8 by decide)) h (fun r hr => ca_up (by decide) (m_Table_set_ok xm N hr)) (fun m75 h => ?_)
  refine wp_run 1 (pc' := 79) (lv' := [(5, .int v4), (0, .ref a0), (1, .int a1), (2, .int a2), (3, .int a3), (4, .int a4)]) (st' := [.ref a0]) (mem' := m75) rfl ?_
  refine wq_gR rfl h (fun v79 h => ?_)
  refine wp_run 3 (pc' := 86) (lv' := [(5, .int v4), (0, .ref a0), (1, .int a1), (2, .int a2), (3, .int a3), (4, .int a4)]) (st' := [.int a3, .int 4, .int v4, .ref v79]) (mem' := m75) rfl ?_
  obtain ⟨fk86, hk86, h⟩ := dRc_some h
  refine wq_cV rfl (kCall_v hk86 (as := [.int v4, .int 4, .int a3]) (rest := []) ⟨by decide, rfl, (show 3 < 90 by decide), by decide⟩ (show 0 ≤ 8 by decide)) h (fun r hr => ca_up (by decide) (m_Table_set_ok xm N hr)) (fun m86 h => ?_)
  refine wp_run 1 (pc' := 90) (lv' := [(5, .int v4), (0, .ref a0), (1, .int a1), (2, .int a2), (3, .int a3), (4, .int a4)]) (st' := [.ref a0]) (mem' := m86) rfl ?_
  refine wq_gR rfl h (fun v90 h => ?_)
  refine wp_run 1 (pc' := 95) (lv' := [(5, .int v4), (0, .ref a0), (1, .int a1), (2, .int a2), (3, .int a3), (4, .int a4)]) (st' := [.int a4, .ref v90]) (mem' := m86) rfl ?_
  obtain ⟨fk95, hk95, h⟩ := dRc_some h
  refine wq_cV rfl (kCall_v hk95 (as := [.int a4]) (rest := []) ⟨by decide, rfl, (show 1 < 90 by decide), by decide⟩ (show 0 ≤ 8 by decide)) h (fun r hr => ca_up (by decide) (m_Balls_spend_ok xm N hr)) (fun m95 h => ?_)
  refine wp_run 1 (pc' := 99) (lv' := [(5, .int v4), (0, .ref a0), (1, .int a1), (2, .int a2), (3, .int a3), (4, .int a4)]) (st' := [.ref a0]) (mem' := m95) rfl ?_
  refine wq_gR rfl h (fun v99 h => ?_)
  refine wq_gR rfl h (fun v102 h => ?_)
  refine wp_run 1 (pc' := 107) (lv' := [(5, .int v4), (0, .ref a0), (1, .int a1), (2, .int a2), (3, .int a3), (4, .int a4)]) (st' := [.int v4, .ref v102]) (mem' := m95) rfl ?_
  obtain ⟨fk107, hk107, h⟩ := dRc_some h
  refine wq_cV rfl (kCall_v hk107 (as := [.int v4]) (rest := []) ⟨by decide, rfl, (show 1 < 90 by decide), by decide⟩ (show 0 ≤ 8 by decide)) h (fun r hr => ca_up (by decide) (m_Needle_put_ok xm N hr)) (fun m107 h => ?_)
  refine wp_run 1 (pc' := 111) (lv' := [(5, .int v4), (0, .ref a0), (1, .int a1), (2, .int a2), (3, .int a3), (4, .int a4)]) (st' := [.ref a0]) (mem' := m107) rfl ?_
  refine wq_gR rfl h (fun v111 h => ?_)
  obtain ⟨fk114, hk114, h⟩ := dRc_some h
  refine wq_cV rfl (kCall_v hk114 (as := []) (rest := []) ⟨by decide, rfl, (show 0 < 90 by decide), by decide⟩ (show 0 ≤ 8 by decide)) h (fun r hr => ca_up (by decide) (m_Work_letRunsFall_ok xm N hr)) (fun m114 h => ?_)
  refine wp_run 1 (pc' := 119) (lv' := [(5, .int v4), (0, .ref a0), (1, .int a1), (2, .int a2), (3, .int a3), (4, .int a4)]) (st' := [.int v4]) (mem' := m114) rfl ?_
  exact wq_ret rfl rfl h
/-- Knitstead.cast(I)I -/
def m_K_cast_75 (xm : Nat → Option kE) (N : Nat) : Nat → Nat → Int32 → Int32 → kM → dRes
  | 0, _, _, _, _ => none
  | n + 1, a0, a1, a2, mem =>
    if a2 < a1 then (
      dRc xm mem a0 11 <|
      dCI (m_K_make xm N a0 0 1 0 2 mem) fun v85 m85 =>
      m_K_cast_75 xm N n a0 a1 (a2 + 1) m85
    ) else (
      dGR xm mem a0 11 1 fun v96 =>
      dRc xm mem v96 10 <|
      dCI (m_Work_onBoth xm N v96 mem) fun v99 m99 =>
      some (.inl (some (.int v99)), m99)
    )
theorem m_K_cast_75_ok (xm : Nat → Option kE) (N : Nat) : ∀ (n : Nat) (a0 : Nat) (a1 : Int32) (a2 : Int32) (mem : kM) (R : kO × kM), m_K_cast_75 xm N n a0 a1 a2 mem = some R → kGo xm kSm kDfl kFty kG 6 42 75 [(0, .ref a0), (1, .int a1), (2, .int a2)] [] mem (dEq R) := by
  intro n
  induction n with
  | zero => intro a0 a1 a2 mem R h; cases h
  | succ n ih =>
    intro a0 a1 a2 mem R h
    rw [m_K_cast_75] at h
    refine wp_run 2 (pc' := 77) (lv' := [(0, .ref a0), (1, .int a1), (2, .int a2)]) (st' := [.int a1, .int a2]) (mem' := mem) rfl ?_
    refine wq_ge2 rfl h (fun h => ?_) (fun h => ?_)
    · refine wp_run 5 (pc' := 85) (lv' := [(0, .ref a0), (1, .int a1), (2, .int a2)]) (st' := [.int 2, .int 0, .int 1, .int 0, .ref a0]) (mem' := mem) rfl ?_
      obtain ⟨fk85, hk85, h⟩ := dRc_some h
      refine wq_cI rfl (kCall_v hk85 (as := [.int 0, .int 1, .int 0, .int 2]) (rest := []) ⟨by decide, rfl, (show 4 < 90 by decide), by decide⟩ (show 0 ≤ 8 by decide)) h (fun r hr => ca_up (by decide) (m_K_make_ok xm N hr)) (fun v85 m85 h => ?_)
      refine wp_run 3 (pc' := 75) (lv' := [(2, .int (a2 + 1)), (0, .ref a0), (1, .int a1)]) (st' := []) (mem' := m85) rfl ?_
      refine kGo_sub (lvS_of [1, 2, 0] rfl [2, 0, 1] rfl (by decide)) ?_
      exact ih _ _ _ m85 R h
    · refine wp_run 1 (pc' := 96) (lv' := [(0, .ref a0), (1, .int a1), (2, .int a2)]) (st' := [.ref a0]) (mem' := mem) rfl ?_
      refine wq_gR rfl h (fun v96 h => ?_)
      obtain ⟨fk99, hk99, h⟩ := dRc_some h
      refine wq_cI rfl (kCall_v hk99 (as := []) (rest := []) ⟨by decide, rfl, (show 0 < 90 by decide), by decide⟩ (show 0 ≤ 8 by decide)) h (fun r hr => ca_up (by decide) (m_Work_onBoth_ok xm N hr)) (fun v99 m99 h => ?_)
      exact wq_ret rfl rfl h
def m_K_cast (xm : Nat → Option kE) (N : Nat) (a0 : Nat) (a1 : Int32) (mem : kM) : dRes :=
  if a1 < 1 then (
    some (.inr 0, mem ++ [.inl (1000, [.null, .null, .null, .null, .null, .null])])
  ) else (
    if 24 < a1 then (
      some (.inr 0, mem ++ [.inl (1000, [.null, .null, .null, .null, .null, .null])])
    ) else (
      dGR xm mem a0 11 0 fun v22 =>
      dRc xm mem v22 5 <|
      dCI (m_Balls_ofJoined xm N v22 mem) fun v25 m25 =>
      if v25 < (a1 * 2) then (
        some (.inr 1, m25 ++ [.inl (1000, [.null, .null, .null, .null, .null, .null])])
      ) else (
        dGR xm m25 a0 11 1 fun v35 =>
        dRc xm m25 v35 10 <|
        dCI (m_Work_onBoth xm N v35 m25) fun v38 m38 =>
        if 24 < (v38 + a1) then (
          some (.inr 1, m38 ++ [.inl (1000, [.null, .null, .null, .null, .null, .null])])
        ) else (
          dGR xm m38 a0 11 5 fun v59 =>
          dGR xm m38 a0 11 1 fun v63 =>
          dGR xm m38 a0 11 0 fun v67 =>
          dRc xm m38 v59 6 <|
          dCV (m_History_keep xm N v59 v63 v67 m38) fun m70 =>
          m_K_cast_75 xm N N a0 a1 0 m70
        )
      )
    )
  )
theorem m_K_cast_ok (xm : Nat → Option kE) (N : Nat) {a0 : Nat} {a1 : Int32} {mem : kM} {R : kO × kM} (h : m_K_cast xm N a0 a1 mem = some R) : kCa xm kSm kDfl kFty kG 7 42 [.ref a0, .int a1] mem (dEq R) := by
  refine wq_ca (show 2 ≤ 3 by decide) ?_
  change kGo xm kSm kDfl kFty kG 6 42 0 [(0, .ref a0), (1, .int a1)] [] mem (dEq R)
  unfold m_K_cast at h
  refine wp_run 2 (pc' := 2) (lv' := [(0, .ref a0), (1, .int a1)]) (st' := [.int 1, .int a1]) (mem' := mem) rfl ?_
  refine wq_lt2 rfl h (fun h => ?_) (fun h => ?_)
  · exact wq_end rfl rfl h
  · refine wp_run 2 (pc' := 8) (lv' := [(0, .ref a0), (1, .int a1)]) (st' := [.int 24, .int a1]) (mem' := mem) rfl ?_
    refine wq_le2 rfl h (fun h => ?_) (fun h => ?_)
    · exact wq_end rfl rfl h
    · refine wp_run 1 (pc' := 22) (lv' := [(0, .ref a0), (1, .int a1)]) (st' := [.ref a0]) (mem' := mem) rfl ?_
      refine wq_gR rfl h (fun v22 h => ?_)
      obtain ⟨fk25, hk25, h⟩ := dRc_some h
      refine wq_cI rfl (kCall_v hk25 (as := []) (rest := []) ⟨by decide, rfl, (show 0 < 90 by decide), by decide⟩ (show 0 ≤ 8 by decide)) h (fun r hr => ca_up (by decide) (m_Balls_ofJoined_ok xm N hr)) (fun v25 m25 h => ?_)
      refine wp_run 3 (pc' := 31) (lv' := [(0, .ref a0), (1, .int a1)]) (st' := [.int (a1 * 2), .int v25]) (mem' := m25) rfl ?_
      refine wq_lt2 rfl h (fun h => ?_) (fun h => ?_)
      · exact wq_end rfl rfl h
      · refine wp_run 1 (pc' := 35) (lv' := [(0, .ref a0), (1, .int a1)]) (st' := [.ref a0]) (mem' := m25) rfl ?_
        refine wq_gR rfl h (fun v35 h => ?_)
        obtain ⟨fk38, hk38, h⟩ := dRc_some h
        refine wq_cI rfl (kCall_v hk38 (as := []) (rest := []) ⟨by decide, rfl, (show 0 < 90 by decide), by decide⟩ (show 0 ≤ 8 by decide)) h (fun r hr => ca_up (by decide) (m_Work_onBoth_ok xm N hr)) (fun v38 m38 h => ?_)
        refine wp_run 3 (pc' := 45) (lv' := [(0, .ref a0), (1, .int a1)]) (st' := [.int 24, .int (v38 + a1)]) (mem' := m38) rfl ?_
        refine wq_le2 rfl h (fun h => ?_) (fun h => ?_)
        · exact wq_end rfl rfl h
        · refine wp_run 1 (pc' := 59) (lv' := [(0, .ref a0), (1, .int a1)]) (st' := [.ref a0]) (mem' := m38) rfl ?_
          refine wq_gR rfl h (fun v59 h => ?_)
          refine wp_run 1 (pc' := 63) (lv' := [(0, .ref a0), (1, .int a1)]) (st' := [.ref a0, .ref v59]) (mem' := m38) rfl ?_
          refine wq_gR rfl h (fun v63 h => ?_)
          refine wp_run 1 (pc' := 67) (lv' := [(0, .ref a0), (1, .int a1)]) (st' := [.ref a0, .ref v63, .ref v59]) (mem' := m38) rfl ?_
          refine wq_gR rfl h (fun v67 h => ?_)
          obtain ⟨fk70, hk70, h⟩ := dRc_some h
          refine wq_cV rfl (kCall_v hk70 (as := [.ref v63, .ref v67]) (rest := []) ⟨by decide, rfl, (show 2 < 90 by decide), by decide⟩ (show 0 ≤ 8 by decide)) h (fun r hr => ca_up (by decide) (m_History_keep_ok xm N hr)) (fun m70 h => ?_)
          refine wp_run 2 (pc' := 75) (lv' := [(2, .int 0), (0, .ref a0), (1, .int a1)]) (st' := []) (mem' := m70) rfl ?_
          refine kGo_sub (lvS_of [1, 2, 0] rfl [2, 0, 1] rfl (by decide)) ?_
          exact m_K_cast_75_ok xm N N _ _ _ m70 R h
/-- KnitsteadLaw.cast(LKnitstead;ILKnitsteadLaw$Out;)I -/
def m_law_cast (xm : Nat → Option kE) (N : Nat) (a0 : Nat) (a1 : Int32) (a2 : Nat) (mem : kM) : dRes :=
  dRc xm mem a0 11 <|
  dCX (m_K_cast xm N a0 a1 mem) (fun v3 m3 =>
    dP xm m3 a2 12 0 (.long (Int32.toInt64 v3)) fun m7 =>
    some (.inl (some (.int 0)), m7)
  ) (fun E m3 => match E with
    | 0 =>
      some (.inl (some (.int 1)), m3)
    | 1 =>
      some (.inl (some (.int 2)), m3)
    | _ => none)
theorem m_law_cast_ok (xm : Nat → Option kE) (N : Nat) {a0 : Nat} {a1 : Int32} {a2 : Nat} {mem : kM} {R : kO × kM} (h : m_law_cast xm N a0 a1 a2 mem = some R) : kCa xm kSm kDfl kFty kG 8 242 [.ref a0, .int a1, .ref a2] mem (dEq R) := by
  refine wq_ca (show 3 ≤ 4 by decide) ?_
  change kGo xm kSm kDfl kFty kG 7 242 0 [(0, .ref a0), (1, .int a1), (2, .ref a2)] [] mem (dEq R)
  unfold m_law_cast at h
  refine wp_run 3 (pc' := 3) (lv' := [(0, .ref a0), (1, .int a1), (2, .ref a2)]) (st' := [.int a1, .ref a0, .ref a2]) (mem' := mem) rfl ?_
  obtain ⟨fk3, hk3, h⟩ := dRc_some h
  refine wq_cX rfl (kCall_v hk3 (as := [.int a1]) (rest := [.ref a2]) ⟨by decide, rfl, (show 1 < 90 by decide), by decide⟩ (show 1 ≤ 8 by decide)) h (fun r hr => ca_up (by decide) (m_K_cast_ok xm N hr)) (fun v3 m3 h => ?_) (fun E m3 h => ?_)
  · refine wp_run 1 (pc' := 7) (lv' := [(0, .ref a0), (1, .int a1), (2, .ref a2)]) (st' := [.long (Int32.toInt64 v3), .ref a2]) (mem' := m3) rfl ?_
    refine wq_p rfl rfl h (fun m7 h => ?_)
    refine wp_run 2 (pc' := 20) (lv' := [(0, .ref a0), (1, .int a1), (2, .ref a2)]) (st' := [.int 0]) (mem' := m7) rfl ?_
    exact wq_ret rfl rfl h
  · match E, h with
    | 0, h =>
      refine ⟨14, 3, rfl, ?_⟩
      change kGo xm kSm kDfl kFty kG 7 242 14 [(0, .ref a0), (1, .int a1), (2, .ref a2)] [] m3 (dEq R)
      refine wp_run 1 (pc' := 15) (lv' := [(0, .ref a0), (1, .int a1), (2, .ref a2)]) (st' := [.int 1]) (mem' := m3) rfl ?_
      exact wq_ret rfl rfl h
    | 1, h =>
      refine ⟨17, 3, rfl, ?_⟩
      change kGo xm kSm kDfl kFty kG 7 242 17 [(0, .ref a0), (1, .int a1), (2, .ref a2)] [] m3 (dEq R)
      refine wp_run 1 (pc' := 18) (lv' := [(0, .ref a0), (1, .int a1), (2, .ref a2)]) (st' := [.int 2]) (mem' := m3) rfl ?_
      exact wq_ret rfl rfl h
    | 2, h => cases h
    | (k + 3), h => cases h
/-- Knitstead$Needle.replace(II)V -/
def m_Needle_replace (xm : Nat → Option kE) (N : Nat) (a0 : Nat) (a1 : Int32) (a2 : Int32) (mem : kM) : dRes :=
  dGI xm mem a0 7 1 fun v1 =>
  if a1 < 0 then (
    some (.inl none, mem)
  ) else (
    if ((v1 - 1) - a1) < 0 then (
      some (.inl none, mem)
    ) else (
      dGR xm mem a0 7 0 fun v19 =>
      dLen xm mem v19 fun v22 =>
      if ((v1 - 1) - a1) < v22 then (
        dGR xm mem a0 7 0 fun v27 =>
        dIS xm mem v27 ((v1 - 1) - a1) a2 fun m32 =>
        some (.inl none, m32)
      ) else (
        some (.inl none, mem)
      )
    )
  )
theorem m_Needle_replace_ok (xm : Nat → Option kE) (N : Nat) {a0 : Nat} {a1 : Int32} {a2 : Int32} {mem : kM} {R : kO × kM} (h : m_Needle_replace xm N a0 a1 a2 mem = some R) : kCa xm kSm kDfl kFty kG 1 15 [.ref a0, .int a1, .int a2] mem (dEq R) := by
  refine wq_ca (show 3 ≤ 4 by decide) ?_
  change kGo xm kSm kDfl kFty kG 0 15 0 [(0, .ref a0), (1, .int a1), (2, .int a2)] [] mem (dEq R)
  unfold m_Needle_replace at h
  refine wp_run 1 (pc' := 1) (lv' := [(0, .ref a0), (1, .int a1), (2, .int a2)]) (st' := [.ref a0]) (mem' := mem) rfl ?_
  refine wq_gI rfl h (fun v1 h => ?_)
  refine wp_run 6 (pc' := 10) (lv' := [(3, .int ((v1 - 1) - a1)), (0, .ref a0), (1, .int a1), (2, .int a2)]) (st' := [.int a1]) (mem' := mem) rfl ?_
  refine wq_lt rfl h (fun h => ?_) (fun h => ?_)
  · exact wq_end rfl rfl h
  · refine wp_run 1 (pc' := 14) (lv' := [(3, .int ((v1 - 1) - a1)), (0, .ref a0), (1, .int a1), (2, .int a2)]) (st' := [.int ((v1 - 1) - a1)]) (mem' := mem) rfl ?_
    refine wq_lt rfl h (fun h => ?_) (fun h => ?_)
    · exact wq_end rfl rfl h
    · refine wp_run 2 (pc' := 19) (lv' := [(3, .int ((v1 - 1) - a1)), (0, .ref a0), (1, .int a1), (2, .int a2)]) (st' := [.ref a0, .int ((v1 - 1) - a1)]) (mem' := mem) rfl ?_
      refine wq_gR rfl h (fun v19 h => ?_)
      refine wq_len rfl h (fun v22 h => ?_)
      refine wq_ge2 rfl h (fun h => ?_) (fun h => ?_)
      · refine wp_run 1 (pc' := 27) (lv' := [(3, .int ((v1 - 1) - a1)), (0, .ref a0), (1, .int a1), (2, .int a2)]) (st' := [.ref a0]) (mem' := mem) rfl ?_
        refine wq_gR rfl h (fun v27 h => ?_)
        refine wp_run 2 (pc' := 32) (lv' := [(3, .int ((v1 - 1) - a1)), (0, .ref a0), (1, .int a1), (2, .int a2)]) (st' := [.int a2, .int ((v1 - 1) - a1), .ref v27]) (mem' := mem) rfl ?_
        refine wq_iS rfl h (fun m32 h => ?_)
        exact wq_end rfl rfl h
      · exact wq_end rfl rfl h
/-- Knitstead$Needle.takeAt(I)I -/
def m_Needle_takeAt_15 (xm : Nat → Option kE) (N : Nat) : Nat → Nat → Int32 → Int32 → kM → dRes
  | 0, _, _, _, _ => none
  | n + 1, a0, a2, a3, mem =>
    if 0 < a3 then (
      dRc xm mem a0 7 <|
      dCI (m_Needle_at xm N a0 (a3 - 1) mem) fun v25 m25 =>
      dRc xm m25 a0 7 <|
      dCV (m_Needle_replace xm N a0 a3 v25 m25) fun m28 =>
      m_Needle_takeAt_15 xm N n a0 a2 (a3 + (-1)) m28
    ) else (
      dGI xm mem a0 7 1 fun v39 =>
      dP xm mem a0 7 1 (.int (v39 - 1)) fun m44 =>
      some (.inl (some (.int a2)), m44)
    )
theorem m_Needle_takeAt_15_ok (xm : Nat → Option kE) (N : Nat) : ∀ (n : Nat) (a0 : Nat) (a2 : Int32) (a3 : Int32) (mem : kM) (R : kO × kM), m_Needle_takeAt_15 xm N n a0 a2 a3 mem = some R → kGo xm kSm kDfl kFty kG 1 18 15 [(0, .ref a0), (2, .int a2), (3, .int a3)] [] mem (dEq R) := by
  intro n
  induction n with
  | zero => intro a0 a2 a3 mem R h; cases h
  | succ n ih =>
    intro a0 a2 a3 mem R h
    rw [m_Needle_takeAt_15] at h
    refine wp_run 1 (pc' := 16) (lv' := [(0, .ref a0), (2, .int a2), (3, .int a3)]) (st' := [.int a3]) (mem' := mem) rfl ?_
    refine wq_le rfl h (fun h => ?_) (fun h => ?_)
    · refine wp_run 6 (pc' := 25) (lv' := [(0, .ref a0), (2, .int a2), (3, .int a3)]) (st' := [.int (a3 - 1), .ref a0, .int a3, .ref a0]) (mem' := mem) rfl ?_
      obtain ⟨fk25, hk25, h⟩ := dRc_some h
      refine wq_cI rfl (kCall_v hk25 (as := [.int (a3 - 1)]) (rest := [.int a3, .ref a0]) ⟨by decide, rfl, (show 1 < 90 by decide), by decide⟩ (show 2 ≤ 8 by decide)) h (fun r hr => ca_up (by decide) (m_Needle_at_ok xm N hr)) (fun v25 m25 h => ?_)
      obtain ⟨fk28, hk28, h⟩ := dRc_some h
      refine wq_cV rfl (kCall_v hk28 (as := [.int a3, .int v25]) (rest := []) ⟨by decide, rfl, (show 2 < 90 by decide), by decide⟩ (show 0 ≤ 8 by decide)) h (fun r hr => ca_up (by decide) (m_Needle_replace_ok xm N hr)) (fun m28 h => ?_)
      refine wp_run 2 (pc' := 15) (lv' := [(3, .int (a3 + (-1))), (0, .ref a0), (2, .int a2)]) (st' := []) (mem' := m28) rfl ?_
      refine kGo_sub (lvS_of [1, 2, 0] rfl [3, 0, 2] rfl (by decide)) ?_
      exact ih _ _ _ m28 R h
    · refine wp_run 2 (pc' := 39) (lv' := [(0, .ref a0), (2, .int a2), (3, .int a3)]) (st' := [.ref a0, .ref a0]) (mem' := mem) rfl ?_
      refine wq_gI rfl h (fun v39 h => ?_)
      refine wp_run 2 (pc' := 44) (lv' := [(0, .ref a0), (2, .int a2), (3, .int a3)]) (st' := [.int (v39 - 1), .ref a0]) (mem' := mem) rfl ?_
      refine wq_p rfl rfl h (fun m44 h => ?_)
      refine wp_run 1 (pc' := 48) (lv' := [(0, .ref a0), (2, .int a2), (3, .int a3)]) (st' := [.int a2]) (mem' := m44) rfl ?_
      exact wq_ret rfl rfl h
def m_Needle_takeAt (xm : Nat → Option kE) (N : Nat) (a0 : Nat) (a1 : Int32) (mem : kM) : dRes :=
  dRc xm mem a0 7 <|
  dCI (m_Needle_at xm N a0 a1 mem) fun v2 m2 =>
  if v2 = (-1) then (
    some (.inl (some (.int (-1))), m2)
  ) else (
    m_Needle_takeAt_15 xm N N a0 v2 a1 m2
  )
theorem m_Needle_takeAt_ok (xm : Nat → Option kE) (N : Nat) {a0 : Nat} {a1 : Int32} {mem : kM} {R : kO × kM} (h : m_Needle_takeAt xm N a0 a1 mem = some R) : kCa xm kSm kDfl kFty kG 2 18 [.ref a0, .int a1] mem (dEq R) := by
  refine wq_ca (show 2 ≤ 4 by decide) ?_
  change kGo xm kSm kDfl kFty kG 1 18 0 [(0, .ref a0), (1, .int a1)] [] mem (dEq R)
  unfold m_Needle_takeAt at h
  refine wp_run 2 (pc' := 2) (lv' := [(0, .ref a0), (1, .int a1)]) (st' := [.int a1, .ref a0]) (mem' := mem) rfl ?_
  obtain ⟨fk2, hk2, h⟩ := dRc_some h
  refine wq_cI rfl (kCall_v hk2 (as := [.int a1]) (rest := []) ⟨by decide, rfl, (show 1 < 90 by decide), by decide⟩ (show 0 ≤ 8 by decide)) h (fun r hr => ca_up (by decide) (m_Needle_at_ok xm N hr)) (fun v2 m2 h => ?_)
  refine wp_run 3 (pc' := 8) (lv' := [(2, .int v2), (0, .ref a0), (1, .int a1)]) (st' := [.int (-1), .int v2]) (mem' := m2) rfl ?_
  refine wq_ne2 rfl h (fun h => ?_) (fun h => ?_)
  · refine wp_run 1 (pc' := 12) (lv' := [(2, .int v2), (0, .ref a0), (1, .int a1)]) (st' := [.int (-1)]) (mem' := m2) rfl ?_
    exact wq_ret rfl rfl h
  · refine wp_run 2 (pc' := 15) (lv' := [(3, .int a1), (2, .int v2), (0, .ref a0), (1, .int a1)]) (st' := []) (mem' := m2) rfl ?_
    refine kGo_sub (lvS_of [2, 1, 0] rfl [3, 2, 0, 1] rfl (by decide)) ?_
    exact m_Needle_takeAt_15_ok xm N N _ _ _ m2 R h
/-- Knitstead.takeWorked()I -/
def m_K_takeWorked (xm : Nat → Option kE) (N : Nat) (a0 : Nat) (mem : kM) : dRes :=
  dGR xm mem a0 11 1 fun v1 =>
  dGR xm mem v1 10 0 fun v4 =>
  dRc xm mem v4 7 <|
  dCI (m_Needle_takeAt xm N v4 0 mem) fun v8 m8 =>
  dGR xm m8 a0 11 2 fun v13 =>
  dRc xm m8 v13 8 <|
  dCV (m_Table_set xm N v13 v8 5 2 m8) fun m19 =>
  some (.inl (some (.int v8)), m19)
theorem m_K_takeWorked_ok (xm : Nat → Option kE) (N : Nat) {a0 : Nat} {mem : kM} {R : kO × kM} (h : m_K_takeWorked xm N a0 mem = some R) : kCa xm kSm kDfl kFty kG 5 68 [.ref a0] mem (dEq R) := by
  refine wq_ca (show 1 ≤ 2 by decide) ?_
  change kGo xm kSm kDfl kFty kG 4 68 0 [(0, .ref a0)] [] mem (dEq R)
  unfold m_K_takeWorked at h
  refine wp_run 1 (pc' := 1) (lv' := [(0, .ref a0)]) (st' := [.ref a0]) (mem' := mem) rfl ?_
  refine wq_gR rfl h (fun v1 h => ?_)
  refine wq_gR rfl h (fun v4 h => ?_)
  refine wp_run 1 (pc' := 8) (lv' := [(0, .ref a0)]) (st' := [.int 0, .ref v4]) (mem' := mem) rfl ?_
  obtain ⟨fk8, hk8, h⟩ := dRc_some h
  refine wq_cI rfl (kCall_v hk8 (as := [.int 0]) (rest := []) ⟨by decide, rfl, (show 1 < 90 by decide), by decide⟩ (show 0 ≤ 8 by decide)) h (fun r hr => ca_up (by decide) (m_Needle_takeAt_ok xm N hr)) (fun v8 m8 h => ?_)
  refine wp_run 2 (pc' := 13) (lv' := [(1, .int v8), (0, .ref a0)]) (st' := [.ref a0]) (mem' := m8) rfl ?_
  refine wq_gR rfl h (fun v13 h => ?_)
  refine wp_run 3 (pc' := 19) (lv' := [(1, .int v8), (0, .ref a0)]) (st' := [.int 2, .int 5, .int v8, .ref v13]) (mem' := m8) rfl ?_
  obtain ⟨fk19, hk19, h⟩ := dRc_some h
  refine wq_cV rfl (kCall_v hk19 (as := [.int v8, .int 5, .int 2]) (rest := []) ⟨by decide, rfl, (show 3 < 90 by decide), by decide⟩ (show 0 ≤ 8 by decide)) h (fun r hr => ca_up (by decide) (m_Table_set_ok xm N hr)) (fun m19 h => ?_)
  refine wp_run 1 (pc' := 23) (lv' := [(1, .int v8), (0, .ref a0)]) (st' := [.int v8]) (mem' := m19) rfl ?_
  exact wq_ret rfl rfl h
/-- Knitstead.workNext(I)I -/
def m_K_workNext (xm : Nat → Option kE) (N : Nat) (a0 : Nat) (a1 : Int32) (mem : kM) : dRes :=
  dRc xm mem a0 11 <|
  dCI (m_K_takeWorked xm N a0 mem) fun v1 m1 =>
  dGR xm m1 a0 11 2 fun v8 =>
  dRc xm m1 v8 8 <|
  dCI (m_Table_get xm N v8 v1 3 m1) fun v13 m13 =>
  dRc xm m13 a0 11 <|
  dCI (m_K_make xm N a0 a1 (v13 + 1) 1 4 m13) fun v20 m20 =>
  some (.inl (some (.int v20)), m20)
theorem m_K_workNext_ok (xm : Nat → Option kE) (N : Nat) {a0 : Nat} {a1 : Int32} {mem : kM} {R : kO × kM} (h : m_K_workNext xm N a0 a1 mem = some R) : kCa xm kSm kDfl kFty kG 7 69 [.ref a0, .int a1] mem (dEq R) := by
  refine wq_ca (show 2 ≤ 3 by decide) ?_
  change kGo xm kSm kDfl kFty kG 6 69 0 [(0, .ref a0), (1, .int a1)] [] mem (dEq R)
  unfold m_K_workNext at h
  refine wp_run 1 (pc' := 1) (lv' := [(0, .ref a0), (1, .int a1)]) (st' := [.ref a0]) (mem' := mem) rfl ?_
  obtain ⟨fk1, hk1, h⟩ := dRc_some h
  refine wq_cI rfl (kCall_v hk1 (as := []) (rest := []) ⟨by decide, rfl, (show 0 < 90 by decide), by decide⟩ (show 0 ≤ 8 by decide)) h (fun r hr => ca_up (by decide) (m_K_takeWorked_ok xm N hr)) (fun v1 m1 h => ?_)
  refine wp_run 4 (pc' := 8) (lv' := [(2, .int v1), (0, .ref a0), (1, .int a1)]) (st' := [.ref a0, .int a1, .ref a0]) (mem' := m1) rfl ?_
  refine wq_gR rfl h (fun v8 h => ?_)
  refine wp_run 2 (pc' := 13) (lv' := [(2, .int v1), (0, .ref a0), (1, .int a1)]) (st' := [.int 3, .int v1, .ref v8, .int a1, .ref a0]) (mem' := m1) rfl ?_
  obtain ⟨fk13, hk13, h⟩ := dRc_some h
  refine wq_cI rfl (kCall_v hk13 (as := [.int v1, .int 3]) (rest := [.int a1, .ref a0]) ⟨by decide, rfl, (show 2 < 90 by decide), by decide⟩ (show 2 ≤ 8 by decide)) h (fun r hr => ca_up (by decide) (m_Table_get_ok xm N hr)) (fun v13 m13 h => ?_)
  refine wp_run 4 (pc' := 20) (lv' := [(2, .int v1), (0, .ref a0), (1, .int a1)]) (st' := [.int 4, .int 1, .int (v13 + 1), .int a1, .ref a0]) (mem' := m13) rfl ?_
  obtain ⟨fk20, hk20, h⟩ := dRc_some h
  refine wq_cI rfl (kCall_v hk20 (as := [.int a1, .int (v13 + 1), .int 1, .int 4]) (rest := []) ⟨by decide, rfl, (show 4 < 90 by decide), by decide⟩ (show 0 ≤ 8 by decide)) h (fun r hr => ca_up (by decide) (m_K_make_ok xm N hr)) (fun v20 m20 h => ?_)
  exact wq_ret rfl rfl h
/-- Knitstead.canDo(I)Z -/
def m_K_canDo (xm : Nat → Option kE) (N : Nat) (a0 : Nat) (a1 : Int32) (mem : kM) : dRes :=
  dGR xm mem a0 11 1 fun v2 =>
  dGR xm mem v2 10 0 fun v5 =>
  dGI xm mem v5 7 1 fun v8 =>
  dGR xm mem a0 11 1 fun v12 =>
  dRc xm mem v12 10 <|
  dCI (m_Work_onBoth xm N v12 mem) fun v15 m15 =>
  dGR xm m15 a0 11 0 fun v19 =>
  dRc xm m15 v19 5 <|
  dCI (m_Balls_ofJoined xm N v19 m15) fun v22 m22 =>
  dCI (m_K_fits xm N a1 v8 v15 v22 m22) fun v25 m25 =>
  dRt (some .boolean) v25 m25
theorem m_K_canDo_ok (xm : Nat → Option kE) (N : Nat) {a0 : Nat} {a1 : Int32} {mem : kM} {R : kO × kM} (h : m_K_canDo xm N a0 a1 mem = some R) : kCa xm kSm kDfl kFty kG 4 78 [.ref a0, .int a1] mem (dEq R) := by
  refine wq_ca (show 2 ≤ 2 by decide) ?_
  change kGo xm kSm kDfl kFty kG 3 78 0 [(0, .ref a0), (1, .int a1)] [] mem (dEq R)
  unfold m_K_canDo at h
  refine wp_run 2 (pc' := 2) (lv' := [(0, .ref a0), (1, .int a1)]) (st' := [.ref a0, .int a1]) (mem' := mem) rfl ?_
  refine wq_gR rfl h (fun v2 h => ?_)
  refine wq_gR rfl h (fun v5 h => ?_)
  refine wq_gI rfl h (fun v8 h => ?_)
  refine wp_run 1 (pc' := 12) (lv' := [(0, .ref a0), (1, .int a1)]) (st' := [.ref a0, .int v8, .int a1]) (mem' := mem) rfl ?_
  refine wq_gR rfl h (fun v12 h => ?_)
  obtain ⟨fk15, hk15, h⟩ := dRc_some h
  refine wq_cI rfl (kCall_v hk15 (as := []) (rest := [.int v8, .int a1]) ⟨by decide, rfl, (show 0 < 90 by decide), by decide⟩ (show 2 ≤ 8 by decide)) h (fun r hr => ca_up (by decide) (m_Work_onBoth_ok xm N hr)) (fun v15 m15 h => ?_)
  refine wp_run 1 (pc' := 19) (lv' := [(0, .ref a0), (1, .int a1)]) (st' := [.ref a0, .int v15, .int v8, .int a1]) (mem' := m15) rfl ?_
  refine wq_gR rfl h (fun v19 h => ?_)
  obtain ⟨fk22, hk22, h⟩ := dRc_some h
  refine wq_cI rfl (kCall_v hk22 (as := []) (rest := [.int v15, .int v8, .int a1]) ⟨by decide, rfl, (show 0 < 90 by decide), by decide⟩ (show 3 ≤ 8 by decide)) h (fun r hr => ca_up (by decide) (m_Balls_ofJoined_ok xm N hr)) (fun v22 m22 h => ?_)
  refine wq_cI rfl (kCall_s (as := [.int a1, .int v8, .int v15, .int v22]) (rest := []) ⟨by decide, rfl⟩ (show 0 ≤ 8 by decide) (by decide)) h (fun r hr => ca_up (by decide) (m_K_fits_ok xm N hr)) (fun v25 m25 h => ?_)
  exact wq_retB rfl rfl h
/-- Knitstead.work(Z)I -/
def m_K_work_51 (xm : Nat → Option kE) (N : Nat) (s0 : Nat) (s1 : Int32) (mem : kM) : dRes :=
  dRc xm mem s0 11 <|
  dCI (m_K_workNext xm N s0 s1 mem) fun v51 m51 =>
  some (.inl (some (.int v51)), m51)
theorem m_K_work_51_ok (xm : Nat → Option kE) (N : Nat) : ∀ (s0 : Nat) (s1 : Int32) (mem : kM) (R : kO × kM), m_K_work_51 xm N s0 s1 mem = some R → kGo xm kSm kDfl kFty kG 7 43 51 [] [.int s1, .ref s0] mem (dEq R) := by
  intro s0 s1 mem R h
  unfold m_K_work_51 at h
  obtain ⟨fk51, hk51, h⟩ := dRc_some h
  refine wq_cI rfl (kCall_v hk51 (as := [.int s1]) (rest := []) ⟨by decide, rfl, (show 1 < 90 by decide), by decide⟩ (show 0 ≤ 8 by decide)) h (fun r hr => ca_up (by decide) (m_K_workNext_ok xm N hr)) (fun v51 m51 h => ?_)
  exact wq_ret rfl rfl h
def m_K_work_10 (xm : Nat → Option kE) (N : Nat) (a0 : Nat) (a1 : Int32) (s0 : Nat) (s1 : Int32) (mem : kM) : dRes :=
  dRc xm mem s0 11 <|
  dCI (m_K_canDo xm N s0 s1 mem) fun v10 m10 =>
  if v10 = 0 then (
    some (.inr 1, m10 ++ [.inl (1000, [.null, .null, .null, .null, .null, .null])])
  ) else (
    dGR xm m10 a0 11 5 fun v27 =>
    dGR xm m10 a0 11 1 fun v31 =>
    dGR xm m10 a0 11 0 fun v35 =>
    dRc xm m10 v27 6 <|
    dCV (m_History_keep xm N v27 v31 v35 m10) fun m38 =>
    if a1 = 0 then (
      m_K_work_51 xm N a0 1 m38
    ) else (
      m_K_work_51 xm N a0 2 m38
    )
  )
theorem m_K_work_10_ok (xm : Nat → Option kE) (N : Nat) : ∀ (a0 : Nat) (a1 : Int32) (s0 : Nat) (s1 : Int32) (mem : kM) (R : kO × kM), m_K_work_10 xm N a0 a1 s0 s1 mem = some R → kGo xm kSm kDfl kFty kG 7 43 10 [(0, .ref a0), (1, .int a1)] [.int s1, .ref s0] mem (dEq R) := by
  intro a0 a1 s0 s1 mem R h
  unfold m_K_work_10 at h
  obtain ⟨fk10, hk10, h⟩ := dRc_some h
  refine wq_cI rfl (kCall_v hk10 (as := [.int s1]) (rest := []) ⟨by decide, rfl, (show 1 < 90 by decide), by decide⟩ (show 0 ≤ 8 by decide)) h (fun r hr => ca_up (by decide) (m_K_canDo_ok xm N hr)) (fun v10 m10 h => ?_)
  refine wq_ne rfl h (fun h => ?_) (fun h => ?_)
  · exact wq_end rfl rfl h
  · refine wp_run 1 (pc' := 27) (lv' := [(0, .ref a0), (1, .int a1)]) (st' := [.ref a0]) (mem' := m10) rfl ?_
    refine wq_gR rfl h (fun v27 h => ?_)
    refine wp_run 1 (pc' := 31) (lv' := [(0, .ref a0), (1, .int a1)]) (st' := [.ref a0, .ref v27]) (mem' := m10) rfl ?_
    refine wq_gR rfl h (fun v31 h => ?_)
    refine wp_run 1 (pc' := 35) (lv' := [(0, .ref a0), (1, .int a1)]) (st' := [.ref a0, .ref v31, .ref v27]) (mem' := m10) rfl ?_
    refine wq_gR rfl h (fun v35 h => ?_)
    obtain ⟨fk38, hk38, h⟩ := dRc_some h
    refine wq_cV rfl (kCall_v hk38 (as := [.ref v31, .ref v35]) (rest := []) ⟨by decide, rfl, (show 2 < 90 by decide), by decide⟩ (show 0 ≤ 8 by decide)) h (fun r hr => ca_up (by decide) (m_History_keep_ok xm N hr)) (fun m38 h => ?_)
    refine wp_run 2 (pc' := 43) (lv' := [(0, .ref a0), (1, .int a1)]) (st' := [.int a1, .ref a0]) (mem' := m38) rfl ?_
    refine wq_eq rfl h (fun h => ?_) (fun h => ?_)
    · refine wp_run 1 (pc' := 51) (lv' := [(0, .ref a0), (1, .int a1)]) (st' := [.int 1, .ref a0]) (mem' := m38) rfl ?_
      refine kGo_sub (lvS_of [] rfl [0, 1] rfl (by decide)) ?_
      exact m_K_work_51_ok xm N _ _ m38 R h
    · refine wp_run 2 (pc' := 51) (lv' := [(0, .ref a0), (1, .int a1)]) (st' := [.int 2, .ref a0]) (mem' := m38) rfl ?_
      refine kGo_sub (lvS_of [] rfl [0, 1] rfl (by decide)) ?_
      exact m_K_work_51_ok xm N _ _ m38 R h
def m_K_work (xm : Nat → Option kE) (N : Nat) (a0 : Nat) (a1 : Int32) (mem : kM) : dRes :=
  if a1 = 0 then (
    m_K_work_10 xm N a0 a1 a0 1 mem
  ) else (
    m_K_work_10 xm N a0 a1 a0 2 mem
  )
theorem m_K_work_ok (xm : Nat → Option kE) (N : Nat) {a0 : Nat} {a1 : Int32} {mem : kM} {R : kO × kM} (h : m_K_work xm N a0 a1 mem = some R) : kCa xm kSm kDfl kFty kG 8 43 [.ref a0, .int a1] mem (dEq R) := by
  refine wq_ca (show 2 ≤ 2 by decide) ?_
  change kGo xm kSm kDfl kFty kG 7 43 0 [(0, .ref a0), (1, .int a1)] [] mem (dEq R)
  unfold m_K_work at h
  refine wp_run 2 (pc' := 2) (lv' := [(0, .ref a0), (1, .int a1)]) (st' := [.int a1, .ref a0]) (mem' := mem) rfl ?_
  refine wq_eq rfl h (fun h => ?_) (fun h => ?_)
  · refine wp_run 1 (pc' := 10) (lv' := [(0, .ref a0), (1, .int a1)]) (st' := [.int 1, .ref a0]) (mem' := mem) rfl ?_
    exact m_K_work_10_ok xm N _ _ _ _ mem R h
  · refine wp_run 2 (pc' := 10) (lv' := [(0, .ref a0), (1, .int a1)]) (st' := [.int 2, .ref a0]) (mem' := mem) rfl ?_
    exact m_K_work_10_ok xm N _ _ _ _ mem R h
/-- KnitsteadLaw.work(LKnitstead;ZLKnitsteadLaw$Out;)I -/
def m_law_work (xm : Nat → Option kE) (N : Nat) (a0 : Nat) (a1 : Int32) (a2 : Nat) (mem : kM) : dRes :=
  dRc xm mem a0 11 <|
  dCX (m_K_work xm N a0 a1 mem) (fun v3 m3 =>
    dP xm m3 a2 12 0 (.long (Int32.toInt64 v3)) fun m7 =>
    some (.inl (some (.int 0)), m7)
  ) (fun E m3 => match E with
    | 1 =>
      some (.inl (some (.int 1)), m3)
    | _ => none)
theorem m_law_work_ok (xm : Nat → Option kE) (N : Nat) {a0 : Nat} {a1 : Int32} {a2 : Nat} {mem : kM} {R : kO × kM} (h : m_law_work xm N a0 a1 a2 mem = some R) : kCa xm kSm kDfl kFty kG 9 243 [.ref a0, .int a1, .ref a2] mem (dEq R) := by
  refine wq_ca (show 3 ≤ 4 by decide) ?_
  change kGo xm kSm kDfl kFty kG 8 243 0 [(0, .ref a0), (1, .int a1), (2, .ref a2)] [] mem (dEq R)
  unfold m_law_work at h
  refine wp_run 3 (pc' := 3) (lv' := [(0, .ref a0), (1, .int a1), (2, .ref a2)]) (st' := [.int a1, .ref a0, .ref a2]) (mem' := mem) rfl ?_
  obtain ⟨fk3, hk3, h⟩ := dRc_some h
  refine wq_cX rfl (kCall_v hk3 (as := [.int a1]) (rest := [.ref a2]) ⟨by decide, rfl, (show 1 < 90 by decide), by decide⟩ (show 1 ≤ 8 by decide)) h (fun r hr => ca_up (by decide) (m_K_work_ok xm N hr)) (fun v3 m3 h => ?_) (fun E m3 h => ?_)
  · refine wp_run 1 (pc' := 7) (lv' := [(0, .ref a0), (1, .int a1), (2, .ref a2)]) (st' := [.long (Int32.toInt64 v3), .ref a2]) (mem' := m3) rfl ?_
    refine wq_p rfl rfl h (fun m7 h => ?_)
    refine wp_run 2 (pc' := 17) (lv' := [(0, .ref a0), (1, .int a1), (2, .ref a2)]) (st' := [.int 0]) (mem' := m7) rfl ?_
    exact wq_ret rfl rfl h
  · match E, h with
    | 1, h =>
      refine ⟨14, 3, rfl, ?_⟩
      change kGo xm kSm kDfl kFty kG 8 243 14 [(0, .ref a0), (1, .int a1), (2, .ref a2)] [] m3 (dEq R)
      refine wp_run 1 (pc' := 15) (lv' := [(0, .ref a0), (1, .int a1), (2, .ref a2)]) (st' := [.int 1]) (mem' := m3) rfl ?_
      exact wq_ret rfl rfl h
    | 0, h => cases h
    | 2, h => cases h
    | (k + 3), h => cases h
/-- Knitstead.makeOver()I -/
def m_K_makeOver (xm : Nat → Option kE) (N : Nat) (a0 : Nat) (mem : kM) : dRes :=
  dGR xm mem a0 11 1 fun v1 =>
  dGI xm mem v1 10 6 fun v5 =>
  dP xm mem v1 10 6 (.int (v5 + 1)) fun m10 =>
  dRc xm m10 a0 11 <|
  dCI (m_K_make xm N a0 3 1 0 3 m10) fun v18 m18 =>
  some (.inl (some (.int v18)), m18)
theorem m_K_makeOver_ok (xm : Nat → Option kE) (N : Nat) {a0 : Nat} {mem : kM} {R : kO × kM} (h : m_K_makeOver xm N a0 mem = some R) : kCa xm kSm kDfl kFty kG 7 70 [.ref a0] mem (dEq R) := by
  refine wq_ca (show 1 ≤ 1 by decide) ?_
  change kGo xm kSm kDfl kFty kG 6 70 0 [(0, .ref a0)] [] mem (dEq R)
  unfold m_K_makeOver at h
  refine wp_run 1 (pc' := 1) (lv' := [(0, .ref a0)]) (st' := [.ref a0]) (mem' := mem) rfl ?_
  refine wq_gR rfl h (fun v1 h => ?_)
  refine wp_run 1 (pc' := 5) (lv' := [(0, .ref a0)]) (st' := [.ref v1, .ref v1]) (mem' := mem) rfl ?_
  refine wq_gI rfl h (fun v5 h => ?_)
  refine wp_run 2 (pc' := 10) (lv' := [(0, .ref a0)]) (st' := [.int (v5 + 1), .ref v1]) (mem' := mem) rfl ?_
  refine wq_p rfl rfl h (fun m10 h => ?_)
  refine wp_run 5 (pc' := 18) (lv' := [(0, .ref a0)]) (st' := [.int 3, .int 0, .int 1, .int 3, .ref a0]) (mem' := m10) rfl ?_
  obtain ⟨fk18, hk18, h⟩ := dRc_some h
  refine wq_cI rfl (kCall_v hk18 (as := [.int 3, .int 1, .int 0, .int 3]) (rest := []) ⟨by decide, rfl, (show 4 < 90 by decide), by decide⟩ (show 0 ≤ 8 by decide)) h (fun r hr => ca_up (by decide) (m_K_make_ok xm N hr)) (fun v18 m18 h => ?_)
  exact wq_ret rfl rfl h
/-- Knitstead.over()I -/
def m_K_over (xm : Nat → Option kE) (N : Nat) (a0 : Nat) (mem : kM) : dRes :=
  dRc xm mem a0 11 <|
  dCI (m_K_canDo xm N a0 3 mem) fun v2 m2 =>
  if v2 = 0 then (
    some (.inr 1, m2 ++ [.inl (1000, [.null, .null, .null, .null, .null, .null])])
  ) else (
    dGR xm m2 a0 11 5 fun v19 =>
    dGR xm m2 a0 11 1 fun v23 =>
    dGR xm m2 a0 11 0 fun v27 =>
    dRc xm m2 v19 6 <|
    dCV (m_History_keep xm N v19 v23 v27 m2) fun m30 =>
    dRc xm m30 a0 11 <|
    dCI (m_K_makeOver xm N a0 m30) fun v34 m34 =>
    some (.inl (some (.int v34)), m34)
  )
theorem m_K_over_ok (xm : Nat → Option kE) (N : Nat) {a0 : Nat} {mem : kM} {R : kO × kM} (h : m_K_over xm N a0 mem = some R) : kCa xm kSm kDfl kFty kG 8 44 [.ref a0] mem (dEq R) := by
  refine wq_ca (show 1 ≤ 1 by decide) ?_
  change kGo xm kSm kDfl kFty kG 7 44 0 [(0, .ref a0)] [] mem (dEq R)
  unfold m_K_over at h
  refine wp_run 2 (pc' := 2) (lv' := [(0, .ref a0)]) (st' := [.int 3, .ref a0]) (mem' := mem) rfl ?_
  obtain ⟨fk2, hk2, h⟩ := dRc_some h
  refine wq_cI rfl (kCall_v hk2 (as := [.int 3]) (rest := []) ⟨by decide, rfl, (show 1 < 90 by decide), by decide⟩ (show 0 ≤ 8 by decide)) h (fun r hr => ca_up (by decide) (m_K_canDo_ok xm N hr)) (fun v2 m2 h => ?_)
  refine wq_ne rfl h (fun h => ?_) (fun h => ?_)
  · exact wq_end rfl rfl h
  · refine wp_run 1 (pc' := 19) (lv' := [(0, .ref a0)]) (st' := [.ref a0]) (mem' := m2) rfl ?_
    refine wq_gR rfl h (fun v19 h => ?_)
    refine wp_run 1 (pc' := 23) (lv' := [(0, .ref a0)]) (st' := [.ref a0, .ref v19]) (mem' := m2) rfl ?_
    refine wq_gR rfl h (fun v23 h => ?_)
    refine wp_run 1 (pc' := 27) (lv' := [(0, .ref a0)]) (st' := [.ref a0, .ref v23, .ref v19]) (mem' := m2) rfl ?_
    refine wq_gR rfl h (fun v27 h => ?_)
    obtain ⟨fk30, hk30, h⟩ := dRc_some h
    refine wq_cV rfl (kCall_v hk30 (as := [.ref v23, .ref v27]) (rest := []) ⟨by decide, rfl, (show 2 < 90 by decide), by decide⟩ (show 0 ≤ 8 by decide)) h (fun r hr => ca_up (by decide) (m_History_keep_ok xm N hr)) (fun m30 h => ?_)
    refine wp_run 1 (pc' := 34) (lv' := [(0, .ref a0)]) (st' := [.ref a0]) (mem' := m30) rfl ?_
    obtain ⟨fk34, hk34, h⟩ := dRc_some h
    refine wq_cI rfl (kCall_v hk34 (as := []) (rest := []) ⟨by decide, rfl, (show 0 < 90 by decide), by decide⟩ (show 0 ≤ 8 by decide)) h (fun r hr => ca_up (by decide) (m_K_makeOver_ok xm N hr)) (fun v34 m34 h => ?_)
    exact wq_ret rfl rfl h
/-- KnitsteadLaw.over(LKnitstead;LKnitsteadLaw$Out;)I -/
def m_law_over (xm : Nat → Option kE) (N : Nat) (a0 : Nat) (a1 : Nat) (mem : kM) : dRes :=
  dRc xm mem a0 11 <|
  dCX (m_K_over xm N a0 mem) (fun v2 m2 =>
    dP xm m2 a1 12 0 (.long (Int32.toInt64 v2)) fun m6 =>
    some (.inl (some (.int 0)), m6)
  ) (fun E m2 => match E with
    | 1 =>
      some (.inl (some (.int 1)), m2)
    | _ => none)
theorem m_law_over_ok (xm : Nat → Option kE) (N : Nat) {a0 : Nat} {a1 : Nat} {mem : kM} {R : kO × kM} (h : m_law_over xm N a0 a1 mem = some R) : kCa xm kSm kDfl kFty kG 9 244 [.ref a0, .ref a1] mem (dEq R) := by
  refine wq_ca (show 2 ≤ 3 by decide) ?_
  change kGo xm kSm kDfl kFty kG 8 244 0 [(0, .ref a0), (1, .ref a1)] [] mem (dEq R)
  unfold m_law_over at h
  refine wp_run 2 (pc' := 2) (lv' := [(0, .ref a0), (1, .ref a1)]) (st' := [.ref a0, .ref a1]) (mem' := mem) rfl ?_
  obtain ⟨fk2, hk2, h⟩ := dRc_some h
  refine wq_cX rfl (kCall_v hk2 (as := []) (rest := [.ref a1]) ⟨by decide, rfl, (show 0 < 90 by decide), by decide⟩ (show 1 ≤ 8 by decide)) h (fun r hr => ca_up (by decide) (m_K_over_ok xm N hr)) (fun v2 m2 h => ?_) (fun E m2 h => ?_)
  · refine wp_run 1 (pc' := 6) (lv' := [(0, .ref a0), (1, .ref a1)]) (st' := [.long (Int32.toInt64 v2), .ref a1]) (mem' := m2) rfl ?_
    refine wq_p rfl rfl h (fun m6 h => ?_)
    refine wp_run 2 (pc' := 16) (lv' := [(0, .ref a0), (1, .ref a1)]) (st' := [.int 0]) (mem' := m6) rfl ?_
    exact wq_ret rfl rfl h
  · match E, h with
    | 1, h =>
      refine ⟨13, 2, rfl, ?_⟩
      change kGo xm kSm kDfl kFty kG 8 244 13 [(0, .ref a0), (1, .ref a1)] [] m2 (dEq R)
      refine wp_run 1 (pc' := 14) (lv' := [(0, .ref a0), (1, .ref a1)]) (st' := [.int 1]) (mem' := m2) rfl ?_
      exact wq_ret rfl rfl h
    | 0, h => cases h
    | 2, h => cases h
    | (k + 3), h => cases h
/-- Knitstead.takeTogether(II)I -/
def m_K_takeTogether_2 (xm : Nat → Option kE) (N : Nat) : Nat → Nat → Int32 → Int32 → Int32 → kM → dRes
  | 0, _, _, _, _, _ => none
  | n + 1, a0, a1, a2, a3, mem =>
    if a3 < a1 then (
      dRc xm mem a0 11 <|
      dCI (m_K_takeWorked xm N a0 mem) fun v8 m8 =>
      m_K_takeTogether_2 xm N n a0 a1 a2 (a3 + 1) m8
    ) else (
      dRc xm mem a0 11 <|
      dCI (m_K_make xm N a0 a2 1 a1 5 mem) fun v23 m23 =>
      some (.inl (some (.int v23)), m23)
    )
theorem m_K_takeTogether_2_ok (xm : Nat → Option kE) (N : Nat) : ∀ (n : Nat) (a0 : Nat) (a1 : Int32) (a2 : Int32) (a3 : Int32) (mem : kM) (R : kO × kM), m_K_takeTogether_2 xm N n a0 a1 a2 a3 mem = some R → kGo xm kSm kDfl kFty kG 6 71 2 [(0, .ref a0), (1, .int a1), (2, .int a2), (3, .int a3)] [] mem (dEq R) := by
  intro n
  induction n with
  | zero => intro a0 a1 a2 a3 mem R h; cases h
  | succ n ih =>
    intro a0 a1 a2 a3 mem R h
    rw [m_K_takeTogether_2] at h
    refine wp_run 2 (pc' := 4) (lv' := [(0, .ref a0), (1, .int a1), (2, .int a2), (3, .int a3)]) (st' := [.int a1, .int a3]) (mem' := mem) rfl ?_
    refine wq_ge2 rfl h (fun h => ?_) (fun h => ?_)
    · refine wp_run 1 (pc' := 8) (lv' := [(0, .ref a0), (1, .int a1), (2, .int a2), (3, .int a3)]) (st' := [.ref a0]) (mem' := mem) rfl ?_
      obtain ⟨fk8, hk8, h⟩ := dRc_some h
      refine wq_cI rfl (kCall_v hk8 (as := []) (rest := []) ⟨by decide, rfl, (show 0 < 90 by decide), by decide⟩ (show 0 ≤ 8 by decide)) h (fun r hr => ca_up (by decide) (m_K_takeWorked_ok xm N hr)) (fun v8 m8 h => ?_)
      refine wp_run 3 (pc' := 2) (lv' := [(3, .int (a3 + 1)), (0, .ref a0), (1, .int a1), (2, .int a2)]) (st' := []) (mem' := m8) rfl ?_
      refine kGo_sub (lvS_of [1, 2, 3, 0] rfl [3, 0, 1, 2] rfl (by decide)) ?_
      exact ih _ _ _ _ m8 R h
    · refine wp_run 5 (pc' := 23) (lv' := [(0, .ref a0), (1, .int a1), (2, .int a2), (3, .int a3)]) (st' := [.int 5, .int a1, .int 1, .int a2, .ref a0]) (mem' := mem) rfl ?_
      obtain ⟨fk23, hk23, h⟩ := dRc_some h
      refine wq_cI rfl (kCall_v hk23 (as := [.int a2, .int 1, .int a1, .int 5]) (rest := []) ⟨by decide, rfl, (show 4 < 90 by decide), by decide⟩ (show 0 ≤ 8 by decide)) h (fun r hr => ca_up (by decide) (m_K_make_ok xm N hr)) (fun v23 m23 h => ?_)
      exact wq_ret rfl rfl h
def m_K_takeTogether (xm : Nat → Option kE) (N : Nat) (a0 : Nat) (a1 : Int32) (a2 : Int32) (mem : kM) : dRes :=
  m_K_takeTogether_2 xm N N a0 a1 a2 0 mem
theorem m_K_takeTogether_ok (xm : Nat → Option kE) (N : Nat) {a0 : Nat} {a1 : Int32} {a2 : Int32} {mem : kM} {R : kO × kM} (h : m_K_takeTogether xm N a0 a1 a2 mem = some R) : kCa xm kSm kDfl kFty kG 7 71 [.ref a0, .int a1, .int a2] mem (dEq R) := by
  refine wq_ca (show 3 ≤ 4 by decide) ?_
  change kGo xm kSm kDfl kFty kG 6 71 0 [(0, .ref a0), (1, .int a1), (2, .int a2)] [] mem (dEq R)
  unfold m_K_takeTogether at h
  refine wp_run 2 (pc' := 2) (lv' := [(3, .int 0), (0, .ref a0), (1, .int a1), (2, .int a2)]) (st' := []) (mem' := mem) rfl ?_
  refine kGo_sub (lvS_of [1, 2, 3, 0] rfl [3, 0, 1, 2] rfl (by decide)) ?_
  exact m_K_takeTogether_2_ok xm N N _ _ _ _ mem R h
/-- Knitstead.together(IZ)I -/
def m_K_together_74 (xm : Nat → Option kE) (N : Nat) (s0 : Nat) (s1 : Int32) (s2 : Int32) (mem : kM) : dRes :=
  dRc xm mem s0 11 <|
  dCI (m_K_takeTogether xm N s0 s1 s2 mem) fun v74 m74 =>
  some (.inl (some (.int v74)), m74)
theorem m_K_together_74_ok (xm : Nat → Option kE) (N : Nat) : ∀ (s0 : Nat) (s1 : Int32) (s2 : Int32) (mem : kM) (R : kO × kM), m_K_together_74 xm N s0 s1 s2 mem = some R → kGo xm kSm kDfl kFty kG 7 45 74 [] [.int s2, .int s1, .ref s0] mem (dEq R) := by
  intro s0 s1 s2 mem R h
  unfold m_K_together_74 at h
  obtain ⟨fk74, hk74, h⟩ := dRc_some h
  refine wq_cI rfl (kCall_v hk74 (as := [.int s1, .int s2]) (rest := []) ⟨by decide, rfl, (show 2 < 90 by decide), by decide⟩ (show 0 ≤ 8 by decide)) h (fun r hr => ca_up (by decide) (m_K_takeTogether_ok xm N hr)) (fun v74 m74 h => ?_)
  exact wq_ret rfl rfl h
def m_K_together_32 (xm : Nat → Option kE) (N : Nat) (a0 : Nat) (a1 : Int32) (a2 : Int32) (s0 : Nat) (s1 : Int32) (mem : kM) : dRes :=
  dRc xm mem s0 11 <|
  dCI (m_K_canDo xm N s0 s1 mem) fun v32 m32 =>
  if v32 = 0 then (
    some (.inr 1, m32 ++ [.inl (1000, [.null, .null, .null, .null, .null, .null])])
  ) else (
    dGR xm m32 a0 11 5 fun v49 =>
    dGR xm m32 a0 11 1 fun v53 =>
    dGR xm m32 a0 11 0 fun v57 =>
    dRc xm m32 v49 6 <|
    dCV (m_History_keep xm N v49 v53 v57 m32) fun m60 =>
    if a2 = 0 then (
      m_K_together_74 xm N a0 a1 4 m60
    ) else (
      m_K_together_74 xm N a0 a1 5 m60
    )
  )
theorem m_K_together_32_ok (xm : Nat → Option kE) (N : Nat) : ∀ (a0 : Nat) (a1 : Int32) (a2 : Int32) (s0 : Nat) (s1 : Int32) (mem : kM) (R : kO × kM), m_K_together_32 xm N a0 a1 a2 s0 s1 mem = some R → kGo xm kSm kDfl kFty kG 7 45 32 [(0, .ref a0), (1, .int a1), (2, .int a2)] [.int s1, .ref s0] mem (dEq R) := by
  intro a0 a1 a2 s0 s1 mem R h
  unfold m_K_together_32 at h
  obtain ⟨fk32, hk32, h⟩ := dRc_some h
  refine wq_cI rfl (kCall_v hk32 (as := [.int s1]) (rest := []) ⟨by decide, rfl, (show 1 < 90 by decide), by decide⟩ (show 0 ≤ 8 by decide)) h (fun r hr => ca_up (by decide) (m_K_canDo_ok xm N hr)) (fun v32 m32 h => ?_)
  refine wq_ne rfl h (fun h => ?_) (fun h => ?_)
  · exact wq_end rfl rfl h
  · refine wp_run 1 (pc' := 49) (lv' := [(0, .ref a0), (1, .int a1), (2, .int a2)]) (st' := [.ref a0]) (mem' := m32) rfl ?_
    refine wq_gR rfl h (fun v49 h => ?_)
    refine wp_run 1 (pc' := 53) (lv' := [(0, .ref a0), (1, .int a1), (2, .int a2)]) (st' := [.ref a0, .ref v49]) (mem' := m32) rfl ?_
    refine wq_gR rfl h (fun v53 h => ?_)
    refine wp_run 1 (pc' := 57) (lv' := [(0, .ref a0), (1, .int a1), (2, .int a2)]) (st' := [.ref a0, .ref v53, .ref v49]) (mem' := m32) rfl ?_
    refine wq_gR rfl h (fun v57 h => ?_)
    obtain ⟨fk60, hk60, h⟩ := dRc_some h
    refine wq_cV rfl (kCall_v hk60 (as := [.ref v53, .ref v57]) (rest := []) ⟨by decide, rfl, (show 2 < 90 by decide), by decide⟩ (show 0 ≤ 8 by decide)) h (fun r hr => ca_up (by decide) (m_History_keep_ok xm N hr)) (fun m60 h => ?_)
    refine wp_run 3 (pc' := 66) (lv' := [(0, .ref a0), (1, .int a1), (2, .int a2)]) (st' := [.int a2, .int a1, .ref a0]) (mem' := m60) rfl ?_
    refine wq_eq rfl h (fun h => ?_) (fun h => ?_)
    · refine wp_run 1 (pc' := 74) (lv' := [(0, .ref a0), (1, .int a1), (2, .int a2)]) (st' := [.int 4, .int a1, .ref a0]) (mem' := m60) rfl ?_
      refine kGo_sub (lvS_of [] rfl [0, 1, 2] rfl (by decide)) ?_
      exact m_K_together_74_ok xm N _ _ _ m60 R h
    · refine wp_run 2 (pc' := 74) (lv' := [(0, .ref a0), (1, .int a1), (2, .int a2)]) (st' := [.int 5, .int a1, .ref a0]) (mem' := m60) rfl ?_
      refine kGo_sub (lvS_of [] rfl [0, 1, 2] rfl (by decide)) ?_
      exact m_K_together_74_ok xm N _ _ _ m60 R h
def m_K_together_20 (xm : Nat → Option kE) (N : Nat) (a0 : Nat) (a1 : Int32) (a2 : Int32) (mem : kM) : dRes :=
  if a1 = 2 then (
    m_K_together_32 xm N a0 a1 a2 a0 4 mem
  ) else (
    m_K_together_32 xm N a0 a1 a2 a0 8 mem
  )
theorem m_K_together_20_ok (xm : Nat → Option kE) (N : Nat) : ∀ (a0 : Nat) (a1 : Int32) (a2 : Int32) (mem : kM) (R : kO × kM), m_K_together_20 xm N a0 a1 a2 mem = some R → kGo xm kSm kDfl kFty kG 7 45 20 [(0, .ref a0), (1, .int a1), (2, .int a2)] [] mem (dEq R) := by
  intro a0 a1 a2 mem R h
  unfold m_K_together_20 at h
  refine wp_run 3 (pc' := 23) (lv' := [(0, .ref a0), (1, .int a1), (2, .int a2)]) (st' := [.int 2, .int a1, .ref a0]) (mem' := mem) rfl ?_
  refine wq_ne2 rfl h (fun h => ?_) (fun h => ?_)
  · refine wp_run 2 (pc' := 32) (lv' := [(0, .ref a0), (1, .int a1), (2, .int a2)]) (st' := [.int 4, .ref a0]) (mem' := mem) rfl ?_
    exact m_K_together_32_ok xm N _ _ _ _ _ mem R h
  · refine wp_run 1 (pc' := 32) (lv' := [(0, .ref a0), (1, .int a1), (2, .int a2)]) (st' := [.int 8, .ref a0]) (mem' := mem) rfl ?_
    exact m_K_together_32_ok xm N _ _ _ _ _ mem R h
def m_K_together (xm : Nat → Option kE) (N : Nat) (a0 : Nat) (a1 : Int32) (a2 : Int32) (mem : kM) : dRes :=
  if a1 = 2 then (
    m_K_together_20 xm N a0 a1 a2 mem
  ) else (
    if a1 = 3 then (
      m_K_together_20 xm N a0 a1 a2 mem
    ) else (
      some (.inr 0, mem ++ [.inl (1000, [.null, .null, .null, .null, .null, .null])])
    )
  )
theorem m_K_together_ok (xm : Nat → Option kE) (N : Nat) {a0 : Nat} {a1 : Int32} {a2 : Int32} {mem : kM} {R : kO × kM} (h : m_K_together xm N a0 a1 a2 mem = some R) : kCa xm kSm kDfl kFty kG 8 45 [.ref a0, .int a1, .int a2] mem (dEq R) := by
  refine wq_ca (show 3 ≤ 3 by decide) ?_
  change kGo xm kSm kDfl kFty kG 7 45 0 [(0, .ref a0), (1, .int a1), (2, .int a2)] [] mem (dEq R)
  unfold m_K_together at h
  refine wp_run 2 (pc' := 2) (lv' := [(0, .ref a0), (1, .int a1), (2, .int a2)]) (st' := [.int 2, .int a1]) (mem' := mem) rfl ?_
  refine wq_eq2 rfl h (fun h => ?_) (fun h => ?_)
  · exact m_K_together_20_ok xm N _ _ _ mem R h
  · refine wp_run 2 (pc' := 7) (lv' := [(0, .ref a0), (1, .int a1), (2, .int a2)]) (st' := [.int 3, .int a1]) (mem' := mem) rfl ?_
    refine wq_eq2 rfl h (fun h => ?_) (fun h => ?_)
    · exact m_K_together_20_ok xm N _ _ _ mem R h
    · exact wq_end rfl rfl h
/-- KnitsteadLaw.together(LKnitstead;IZLKnitsteadLaw$Out;)I -/
def m_law_together (xm : Nat → Option kE) (N : Nat) (a0 : Nat) (a1 : Int32) (a2 : Int32) (a3 : Nat) (mem : kM) : dRes :=
  dRc xm mem a0 11 <|
  dCX (m_K_together xm N a0 a1 a2 mem) (fun v4 m4 =>
    dP xm m4 a3 12 0 (.long (Int32.toInt64 v4)) fun m8 =>
    some (.inl (some (.int 0)), m8)
  ) (fun E m4 => match E with
    | 0 =>
      some (.inl (some (.int 1)), m4)
    | 1 =>
      some (.inl (some (.int 2)), m4)
    | _ => none)
theorem m_law_together_ok (xm : Nat → Option kE) (N : Nat) {a0 : Nat} {a1 : Int32} {a2 : Int32} {a3 : Nat} {mem : kM} {R : kO × kM} (h : m_law_together xm N a0 a1 a2 a3 mem = some R) : kCa xm kSm kDfl kFty kG 9 245 [.ref a0, .int a1, .int a2, .ref a3] mem (dEq R) := by
  refine wq_ca (show 4 ≤ 5 by decide) ?_
  change kGo xm kSm kDfl kFty kG 8 245 0 [(0, .ref a0), (1, .int a1), (2, .int a2), (3, .ref a3)] [] mem (dEq R)
  unfold m_law_together at h
  refine wp_run 4 (pc' := 4) (lv' := [(0, .ref a0), (1, .int a1), (2, .int a2), (3, .ref a3)]) (st' := [.int a2, .int a1, .ref a0, .ref a3]) (mem' := mem) rfl ?_
  obtain ⟨fk4, hk4, h⟩ := dRc_some h
  refine wq_cX rfl (kCall_v hk4 (as := [.int a1, .int a2]) (rest := [.ref a3]) ⟨by decide, rfl, (show 2 < 90 by decide), by decide⟩ (show 1 ≤ 8 by decide)) h (fun r hr => ca_up (by decide) (m_K_together_ok xm N hr)) (fun v4 m4 h => ?_) (fun E m4 h => ?_)
  · refine wp_run 1 (pc' := 8) (lv' := [(0, .ref a0), (1, .int a1), (2, .int a2), (3, .ref a3)]) (st' := [.long (Int32.toInt64 v4), .ref a3]) (mem' := m4) rfl ?_
    refine wq_p rfl rfl h (fun m8 h => ?_)
    refine wp_run 2 (pc' := 23) (lv' := [(0, .ref a0), (1, .int a1), (2, .int a2), (3, .ref a3)]) (st' := [.int 0]) (mem' := m8) rfl ?_
    exact wq_ret rfl rfl h
  · match E, h with
    | 0, h =>
      refine ⟨16, 4, rfl, ?_⟩
      change kGo xm kSm kDfl kFty kG 8 245 16 [(0, .ref a0), (1, .int a1), (2, .int a2), (3, .ref a3)] [] m4 (dEq R)
      refine wp_run 1 (pc' := 17) (lv' := [(0, .ref a0), (1, .int a1), (2, .int a2), (3, .ref a3)]) (st' := [.int 1]) (mem' := m4) rfl ?_
      exact wq_ret rfl rfl h
    | 1, h =>
      refine ⟨20, 4, rfl, ?_⟩
      change kGo xm kSm kDfl kFty kG 8 245 20 [(0, .ref a0), (1, .int a1), (2, .int a2), (3, .ref a3)] [] m4 (dEq R)
      refine wp_run 1 (pc' := 21) (lv' := [(0, .ref a0), (1, .int a1), (2, .int a2), (3, .ref a3)]) (st' := [.int 2]) (mem' := m4) rfl ?_
      exact wq_ret rfl rfl h
    | 2, h => cases h
    | (k + 3), h => cases h
/-- Knitstead.slipNext()I -/
def m_K_slipNext (xm : Nat → Option kE) (N : Nat) (a0 : Nat) (mem : kM) : dRes :=
  dGR xm mem a0 11 1 fun v1 =>
  dGR xm mem v1 10 0 fun v4 =>
  dRc xm mem v4 7 <|
  dCI (m_Needle_takeAt xm N v4 0 mem) fun v8 m8 =>
  dGR xm m8 a0 11 1 fun v13 =>
  dGR xm m8 v13 10 1 fun v16 =>
  dRc xm m8 v16 7 <|
  dCV (m_Needle_put xm N v16 v8 m8) fun m20 =>
  some (.inl (some (.int v8)), m20)
theorem m_K_slipNext_ok (xm : Nat → Option kE) (N : Nat) {a0 : Nat} {mem : kM} {R : kO × kM} (h : m_K_slipNext xm N a0 mem = some R) : kCa xm kSm kDfl kFty kG 3 72 [.ref a0] mem (dEq R) := by
  refine wq_ca (show 1 ≤ 2 by decide) ?_
  change kGo xm kSm kDfl kFty kG 2 72 0 [(0, .ref a0)] [] mem (dEq R)
  unfold m_K_slipNext at h
  refine wp_run 1 (pc' := 1) (lv' := [(0, .ref a0)]) (st' := [.ref a0]) (mem' := mem) rfl ?_
  refine wq_gR rfl h (fun v1 h => ?_)
  refine wq_gR rfl h (fun v4 h => ?_)
  refine wp_run 1 (pc' := 8) (lv' := [(0, .ref a0)]) (st' := [.int 0, .ref v4]) (mem' := mem) rfl ?_
  obtain ⟨fk8, hk8, h⟩ := dRc_some h
  refine wq_cI rfl (kCall_v hk8 (as := [.int 0]) (rest := []) ⟨by decide, rfl, (show 1 < 90 by decide), by decide⟩ (show 0 ≤ 8 by decide)) h (fun r hr => ca_up (by decide) (m_Needle_takeAt_ok xm N hr)) (fun v8 m8 h => ?_)
  refine wp_run 2 (pc' := 13) (lv' := [(1, .int v8), (0, .ref a0)]) (st' := [.ref a0]) (mem' := m8) rfl ?_
  refine wq_gR rfl h (fun v13 h => ?_)
  refine wq_gR rfl h (fun v16 h => ?_)
  refine wp_run 1 (pc' := 20) (lv' := [(1, .int v8), (0, .ref a0)]) (st' := [.int v8, .ref v16]) (mem' := m8) rfl ?_
  obtain ⟨fk20, hk20, h⟩ := dRc_some h
  refine wq_cV rfl (kCall_v hk20 (as := [.int v8]) (rest := []) ⟨by decide, rfl, (show 1 < 90 by decide), by decide⟩ (show 0 ≤ 8 by decide)) h (fun r hr => ca_up (by decide) (m_Needle_put_ok xm N hr)) (fun m20 h => ?_)
  refine wp_run 1 (pc' := 24) (lv' := [(1, .int v8), (0, .ref a0)]) (st' := [.int v8]) (mem' := m20) rfl ?_
  exact wq_ret rfl rfl h
/-- Knitstead.slip()I -/
def m_K_slip (xm : Nat → Option kE) (N : Nat) (a0 : Nat) (mem : kM) : dRes :=
  dRc xm mem a0 11 <|
  dCI (m_K_canDo xm N a0 6 mem) fun v3 m3 =>
  if v3 = 0 then (
    some (.inr 1, m3 ++ [.inl (1000, [.null, .null, .null, .null, .null, .null])])
  ) else (
    dGR xm m3 a0 11 5 fun v20 =>
    dGR xm m3 a0 11 1 fun v24 =>
    dGR xm m3 a0 11 0 fun v28 =>
    dRc xm m3 v20 6 <|
    dCV (m_History_keep xm N v20 v24 v28 m3) fun m31 =>
    dRc xm m31 a0 11 <|
    dCI (m_K_slipNext xm N a0 m31) fun v35 m35 =>
    some (.inl (some (.int v35)), m35)
  )
theorem m_K_slip_ok (xm : Nat → Option kE) (N : Nat) {a0 : Nat} {mem : kM} {R : kO × kM} (h : m_K_slip xm N a0 mem = some R) : kCa xm kSm kDfl kFty kG 5 46 [.ref a0] mem (dEq R) := by
  refine wq_ca (show 1 ≤ 1 by decide) ?_
  change kGo xm kSm kDfl kFty kG 4 46 0 [(0, .ref a0)] [] mem (dEq R)
  unfold m_K_slip at h
  refine wp_run 2 (pc' := 3) (lv' := [(0, .ref a0)]) (st' := [.int 6, .ref a0]) (mem' := mem) rfl ?_
  obtain ⟨fk3, hk3, h⟩ := dRc_some h
  refine wq_cI rfl (kCall_v hk3 (as := [.int 6]) (rest := []) ⟨by decide, rfl, (show 1 < 90 by decide), by decide⟩ (show 0 ≤ 8 by decide)) h (fun r hr => ca_up (by decide) (m_K_canDo_ok xm N hr)) (fun v3 m3 h => ?_)
  refine wq_ne rfl h (fun h => ?_) (fun h => ?_)
  · exact wq_end rfl rfl h
  · refine wp_run 1 (pc' := 20) (lv' := [(0, .ref a0)]) (st' := [.ref a0]) (mem' := m3) rfl ?_
    refine wq_gR rfl h (fun v20 h => ?_)
    refine wp_run 1 (pc' := 24) (lv' := [(0, .ref a0)]) (st' := [.ref a0, .ref v20]) (mem' := m3) rfl ?_
    refine wq_gR rfl h (fun v24 h => ?_)
    refine wp_run 1 (pc' := 28) (lv' := [(0, .ref a0)]) (st' := [.ref a0, .ref v24, .ref v20]) (mem' := m3) rfl ?_
    refine wq_gR rfl h (fun v28 h => ?_)
    obtain ⟨fk31, hk31, h⟩ := dRc_some h
    refine wq_cV rfl (kCall_v hk31 (as := [.ref v24, .ref v28]) (rest := []) ⟨by decide, rfl, (show 2 < 90 by decide), by decide⟩ (show 0 ≤ 8 by decide)) h (fun r hr => ca_up (by decide) (m_History_keep_ok xm N hr)) (fun m31 h => ?_)
    refine wp_run 1 (pc' := 35) (lv' := [(0, .ref a0)]) (st' := [.ref a0]) (mem' := m31) rfl ?_
    obtain ⟨fk35, hk35, h⟩ := dRc_some h
    refine wq_cI rfl (kCall_v hk35 (as := []) (rest := []) ⟨by decide, rfl, (show 0 < 90 by decide), by decide⟩ (show 0 ≤ 8 by decide)) h (fun r hr => ca_up (by decide) (m_K_slipNext_ok xm N hr)) (fun v35 m35 h => ?_)
    exact wq_ret rfl rfl h
/-- KnitsteadLaw.slip(LKnitstead;LKnitsteadLaw$Out;)I -/
def m_law_slip (xm : Nat → Option kE) (N : Nat) (a0 : Nat) (a1 : Nat) (mem : kM) : dRes :=
  dRc xm mem a0 11 <|
  dCX (m_K_slip xm N a0 mem) (fun v2 m2 =>
    dP xm m2 a1 12 0 (.long (Int32.toInt64 v2)) fun m6 =>
    some (.inl (some (.int 0)), m6)
  ) (fun E m2 => match E with
    | 1 =>
      some (.inl (some (.int 1)), m2)
    | _ => none)
theorem m_law_slip_ok (xm : Nat → Option kE) (N : Nat) {a0 : Nat} {a1 : Nat} {mem : kM} {R : kO × kM} (h : m_law_slip xm N a0 a1 mem = some R) : kCa xm kSm kDfl kFty kG 6 246 [.ref a0, .ref a1] mem (dEq R) := by
  refine wq_ca (show 2 ≤ 3 by decide) ?_
  change kGo xm kSm kDfl kFty kG 5 246 0 [(0, .ref a0), (1, .ref a1)] [] mem (dEq R)
  unfold m_law_slip at h
  refine wp_run 2 (pc' := 2) (lv' := [(0, .ref a0), (1, .ref a1)]) (st' := [.ref a0, .ref a1]) (mem' := mem) rfl ?_
  obtain ⟨fk2, hk2, h⟩ := dRc_some h
  refine wq_cX rfl (kCall_v hk2 (as := []) (rest := [.ref a1]) ⟨by decide, rfl, (show 0 < 90 by decide), by decide⟩ (show 1 ≤ 8 by decide)) h (fun r hr => ca_up (by decide) (m_K_slip_ok xm N hr)) (fun v2 m2 h => ?_) (fun E m2 h => ?_)
  · refine wp_run 1 (pc' := 6) (lv' := [(0, .ref a0), (1, .ref a1)]) (st' := [.long (Int32.toInt64 v2), .ref a1]) (mem' := m2) rfl ?_
    refine wq_p rfl rfl h (fun m6 h => ?_)
    refine wp_run 2 (pc' := 16) (lv' := [(0, .ref a0), (1, .ref a1)]) (st' := [.int 0]) (mem' := m6) rfl ?_
    exact wq_ret rfl rfl h
  · match E, h with
    | 1, h =>
      refine ⟨13, 2, rfl, ?_⟩
      change kGo xm kSm kDfl kFty kG 5 246 13 [(0, .ref a0), (1, .ref a1)] [] m2 (dEq R)
      refine wp_run 1 (pc' := 14) (lv' := [(0, .ref a0), (1, .ref a1)]) (st' := [.int 1]) (mem' := m2) rfl ?_
      exact wq_ret rfl rfl h
    | 0, h => cases h
    | 2, h => cases h
    | (k + 3), h => cases h
/-- Knitstead$Needle.moveTipBehind(I)V -/
def m_Needle_moveTipBehind_8 (xm : Nat → Option kE) (N : Nat) : Nat → Nat → Int32 → Int32 → Int32 → kM → dRes
  | 0, _, _, _, _, _ => none
  | n + 1, a0, a1, a2, a3, mem =>
    if a3 < a1 then (
      dRc xm mem a0 7 <|
      dCI (m_Needle_at xm N a0 (a3 + 1) mem) fun v19 m19 =>
      dRc xm m19 a0 7 <|
      dCV (m_Needle_replace xm N a0 a3 v19 m19) fun m22 =>
      m_Needle_moveTipBehind_8 xm N n a0 a1 a2 (a3 + 1) m22
    ) else (
      dRc xm mem a0 7 <|
      dCV (m_Needle_replace xm N a0 a1 a2 mem) fun m34 =>
      some (.inl none, m34)
    )
theorem m_Needle_moveTipBehind_8_ok (xm : Nat → Option kE) (N : Nat) : ∀ (n : Nat) (a0 : Nat) (a1 : Int32) (a2 : Int32) (a3 : Int32) (mem : kM) (R : kO × kM), m_Needle_moveTipBehind_8 xm N n a0 a1 a2 a3 mem = some R → kGo xm kSm kDfl kFty kG 1 19 8 [(0, .ref a0), (1, .int a1), (2, .int a2), (3, .int a3)] [] mem (dEq R) := by
  intro n
  induction n with
  | zero => intro a0 a1 a2 a3 mem R h; cases h
  | succ n ih =>
    intro a0 a1 a2 a3 mem R h
    rw [m_Needle_moveTipBehind_8] at h
    refine wp_run 2 (pc' := 10) (lv' := [(0, .ref a0), (1, .int a1), (2, .int a2), (3, .int a3)]) (st' := [.int a1, .int a3]) (mem' := mem) rfl ?_
    refine wq_ge2 rfl h (fun h => ?_) (fun h => ?_)
    · refine wp_run 6 (pc' := 19) (lv' := [(0, .ref a0), (1, .int a1), (2, .int a2), (3, .int a3)]) (st' := [.int (a3 + 1), .ref a0, .int a3, .ref a0]) (mem' := mem) rfl ?_
      obtain ⟨fk19, hk19, h⟩ := dRc_some h
      refine wq_cI rfl (kCall_v hk19 (as := [.int (a3 + 1)]) (rest := [.int a3, .ref a0]) ⟨by decide, rfl, (show 1 < 90 by decide), by decide⟩ (show 2 ≤ 8 by decide)) h (fun r hr => ca_up (by decide) (m_Needle_at_ok xm N hr)) (fun v19 m19 h => ?_)
      obtain ⟨fk22, hk22, h⟩ := dRc_some h
      refine wq_cV rfl (kCall_v hk22 (as := [.int a3, .int v19]) (rest := []) ⟨by decide, rfl, (show 2 < 90 by decide), by decide⟩ (show 0 ≤ 8 by decide)) h (fun r hr => ca_up (by decide) (m_Needle_replace_ok xm N hr)) (fun m22 h => ?_)
      refine wp_run 2 (pc' := 8) (lv' := [(3, .int (a3 + 1)), (0, .ref a0), (1, .int a1), (2, .int a2)]) (st' := []) (mem' := m22) rfl ?_
      refine kGo_sub (lvS_of [1, 2, 3, 0] rfl [3, 0, 1, 2] rfl (by decide)) ?_
      exact ih _ _ _ _ m22 R h
    · refine wp_run 3 (pc' := 34) (lv' := [(0, .ref a0), (1, .int a1), (2, .int a2), (3, .int a3)]) (st' := [.int a2, .int a1, .ref a0]) (mem' := mem) rfl ?_
      obtain ⟨fk34, hk34, h⟩ := dRc_some h
      refine wq_cV rfl (kCall_v hk34 (as := [.int a1, .int a2]) (rest := []) ⟨by decide, rfl, (show 2 < 90 by decide), by decide⟩ (show 0 ≤ 8 by decide)) h (fun r hr => ca_up (by decide) (m_Needle_replace_ok xm N hr)) (fun m34 h => ?_)
      exact wq_end rfl rfl h
def m_Needle_moveTipBehind (xm : Nat → Option kE) (N : Nat) (a0 : Nat) (a1 : Int32) (mem : kM) : dRes :=
  dRc xm mem a0 7 <|
  dCI (m_Needle_at xm N a0 0 mem) fun v2 m2 =>
  m_Needle_moveTipBehind_8 xm N N a0 a1 v2 0 m2
theorem m_Needle_moveTipBehind_ok (xm : Nat → Option kE) (N : Nat) {a0 : Nat} {a1 : Int32} {mem : kM} {R : kO × kM} (h : m_Needle_moveTipBehind xm N a0 a1 mem = some R) : kCa xm kSm kDfl kFty kG 2 19 [.ref a0, .int a1] mem (dEq R) := by
  refine wq_ca (show 2 ≤ 4 by decide) ?_
  change kGo xm kSm kDfl kFty kG 1 19 0 [(0, .ref a0), (1, .int a1)] [] mem (dEq R)
  unfold m_Needle_moveTipBehind at h
  refine wp_run 2 (pc' := 2) (lv' := [(0, .ref a0), (1, .int a1)]) (st' := [.int 0, .ref a0]) (mem' := mem) rfl ?_
  obtain ⟨fk2, hk2, h⟩ := dRc_some h
  refine wq_cI rfl (kCall_v hk2 (as := [.int 0]) (rest := []) ⟨by decide, rfl, (show 1 < 90 by decide), by decide⟩ (show 0 ≤ 8 by decide)) h (fun r hr => ca_up (by decide) (m_Needle_at_ok xm N hr)) (fun v2 m2 h => ?_)
  refine wp_run 3 (pc' := 8) (lv' := [(3, .int 0), (2, .int v2), (0, .ref a0), (1, .int a1)]) (st' := []) (mem' := m2) rfl ?_
  refine kGo_sub (lvS_of [2, 3, 1, 0] rfl [3, 2, 0, 1] rfl (by decide)) ?_
  exact m_Needle_moveTipBehind_8_ok xm N N _ _ _ _ m2 R h
/-- Knitstead.crossNext(II)I -/
def m_K_crossNext_2 (xm : Nat → Option kE) (N : Nat) : Nat → Nat → Int32 → Int32 → Int32 → kM → dRes
  | 0, _, _, _, _, _ => none
  | n + 1, a0, a1, a2, a3, mem =>
    if a3 < a1 then (
      dGR xm mem a0 11 1 fun v8 =>
      dGR xm mem v8 10 0 fun v11 =>
      dRc xm mem v11 7 <|
      dCV (m_Needle_moveTipBehind xm N v11 ((a1 + a2) - 1) mem) fun m19 =>
      m_K_crossNext_2 xm N n a0 a1 a2 (a3 + 1) m19
    ) else (
      dGR xm mem a0 11 1 fun v29 =>
      dGI xm mem v29 10 7 fun v33 =>
      dP xm mem v29 10 7 (.int (v33 + 1)) fun m38 =>
      dGR xm m38 a0 11 1 fun v42 =>
      dGR xm m38 v42 10 0 fun v45 =>
      dRc xm m38 v45 7 <|
      dCI (m_Needle_at xm N v45 0 m38) fun v49 m49 =>
      some (.inl (some (.int v49)), m49)
    )
theorem m_K_crossNext_2_ok (xm : Nat → Option kE) (N : Nat) : ∀ (n : Nat) (a0 : Nat) (a1 : Int32) (a2 : Int32) (a3 : Int32) (mem : kM) (R : kO × kM), m_K_crossNext_2 xm N n a0 a1 a2 a3 mem = some R → kGo xm kSm kDfl kFty kG 2 73 2 [(0, .ref a0), (1, .int a1), (2, .int a2), (3, .int a3)] [] mem (dEq R) := by
  intro n
  induction n with
  | zero => intro a0 a1 a2 a3 mem R h; cases h
  | succ n ih =>
    intro a0 a1 a2 a3 mem R h
    rw [m_K_crossNext_2] at h
    refine wp_run 2 (pc' := 4) (lv' := [(0, .ref a0), (1, .int a1), (2, .int a2), (3, .int a3)]) (st' := [.int a1, .int a3]) (mem' := mem) rfl ?_
    refine wq_ge2 rfl h (fun h => ?_) (fun h => ?_)
    · refine wp_run 1 (pc' := 8) (lv' := [(0, .ref a0), (1, .int a1), (2, .int a2), (3, .int a3)]) (st' := [.ref a0]) (mem' := mem) rfl ?_
      refine wq_gR rfl h (fun v8 h => ?_)
      refine wq_gR rfl h (fun v11 h => ?_)
      refine wp_run 5 (pc' := 19) (lv' := [(0, .ref a0), (1, .int a1), (2, .int a2), (3, .int a3)]) (st' := [.int ((a1 + a2) - 1), .ref v11]) (mem' := mem) rfl ?_
      obtain ⟨fk19, hk19, h⟩ := dRc_some h
      refine wq_cV rfl (kCall_v hk19 (as := [.int ((a1 + a2) - 1)]) (rest := []) ⟨by decide, rfl, (show 1 < 90 by decide), by decide⟩ (show 0 ≤ 8 by decide)) h (fun r hr => ca_up (by decide) (m_Needle_moveTipBehind_ok xm N hr)) (fun m19 h => ?_)
      refine wp_run 2 (pc' := 2) (lv' := [(3, .int (a3 + 1)), (0, .ref a0), (1, .int a1), (2, .int a2)]) (st' := []) (mem' := m19) rfl ?_
      refine kGo_sub (lvS_of [1, 2, 3, 0] rfl [3, 0, 1, 2] rfl (by decide)) ?_
      exact ih _ _ _ _ m19 R h
    · refine wp_run 1 (pc' := 29) (lv' := [(0, .ref a0), (1, .int a1), (2, .int a2), (3, .int a3)]) (st' := [.ref a0]) (mem' := mem) rfl ?_
      refine wq_gR rfl h (fun v29 h => ?_)
      refine wp_run 1 (pc' := 33) (lv' := [(0, .ref a0), (1, .int a1), (2, .int a2), (3, .int a3)]) (st' := [.ref v29, .ref v29]) (mem' := mem) rfl ?_
      refine wq_gI rfl h (fun v33 h => ?_)
      refine wp_run 2 (pc' := 38) (lv' := [(0, .ref a0), (1, .int a1), (2, .int a2), (3, .int a3)]) (st' := [.int (v33 + 1), .ref v29]) (mem' := mem) rfl ?_
      refine wq_p rfl rfl h (fun m38 h => ?_)
      refine wp_run 1 (pc' := 42) (lv' := [(0, .ref a0), (1, .int a1), (2, .int a2), (3, .int a3)]) (st' := [.ref a0]) (mem' := m38) rfl ?_
      refine wq_gR rfl h (fun v42 h => ?_)
      refine wq_gR rfl h (fun v45 h => ?_)
      refine wp_run 1 (pc' := 49) (lv' := [(0, .ref a0), (1, .int a1), (2, .int a2), (3, .int a3)]) (st' := [.int 0, .ref v45]) (mem' := m38) rfl ?_
      obtain ⟨fk49, hk49, h⟩ := dRc_some h
      refine wq_cI rfl (kCall_v hk49 (as := [.int 0]) (rest := []) ⟨by decide, rfl, (show 1 < 90 by decide), by decide⟩ (show 0 ≤ 8 by decide)) h (fun r hr => ca_up (by decide) (m_Needle_at_ok xm N hr)) (fun v49 m49 h => ?_)
      exact wq_ret rfl rfl h
def m_K_crossNext (xm : Nat → Option kE) (N : Nat) (a0 : Nat) (a1 : Int32) (a2 : Int32) (mem : kM) : dRes :=
  m_K_crossNext_2 xm N N a0 a1 a2 0 mem
theorem m_K_crossNext_ok (xm : Nat → Option kE) (N : Nat) {a0 : Nat} {a1 : Int32} {a2 : Int32} {mem : kM} {R : kO × kM} (h : m_K_crossNext xm N a0 a1 a2 mem = some R) : kCa xm kSm kDfl kFty kG 3 73 [.ref a0, .int a1, .int a2] mem (dEq R) := by
  refine wq_ca (show 3 ≤ 4 by decide) ?_
  change kGo xm kSm kDfl kFty kG 2 73 0 [(0, .ref a0), (1, .int a1), (2, .int a2)] [] mem (dEq R)
  unfold m_K_crossNext at h
  refine wp_run 2 (pc' := 2) (lv' := [(3, .int 0), (0, .ref a0), (1, .int a1), (2, .int a2)]) (st' := []) (mem' := mem) rfl ?_
  refine kGo_sub (lvS_of [1, 2, 3, 0] rfl [3, 0, 1, 2] rfl (by decide)) ?_
  exact m_K_crossNext_2_ok xm N N _ _ _ _ mem R h
/-- Knitstead.cross(II)I -/
def m_K_cross (xm : Nat → Option kE) (N : Nat) (a0 : Nat) (a1 : Int32) (a2 : Int32) (mem : kM) : dRes :=
  if a1 < 1 then (
    some (.inr 0, mem ++ [.inl (1000, [.null, .null, .null, .null, .null, .null])])
  ) else (
    if 3 < a1 then (
      some (.inr 0, mem ++ [.inl (1000, [.null, .null, .null, .null, .null, .null])])
    ) else (
      if a2 < 1 then (
        some (.inr 0, mem ++ [.inl (1000, [.null, .null, .null, .null, .null, .null])])
      ) else (
        if 3 < a2 then (
          some (.inr 0, mem ++ [.inl (1000, [.null, .null, .null, .null, .null, .null])])
        ) else (
          dGR xm mem a0 11 1 fun v31 =>
          dGR xm mem v31 10 0 fun v34 =>
          dGI xm mem v34 7 1 fun v37 =>
          if v37 < (a1 + a2) then (
            some (.inr 1, mem ++ [.inl (1000, [.null, .null, .null, .null, .null, .null])])
          ) else (
            dGR xm mem a0 11 5 fun v57 =>
            dGR xm mem a0 11 1 fun v61 =>
            dGR xm mem a0 11 0 fun v65 =>
            dRc xm mem v57 6 <|
            dCV (m_History_keep xm N v57 v61 v65 mem) fun m68 =>
            dRc xm m68 a0 11 <|
            dCI (m_K_crossNext xm N a0 a1 a2 m68) fun v74 m74 =>
            some (.inl (some (.int v74)), m74)
          )
        )
      )
    )
  )
theorem m_K_cross_ok (xm : Nat → Option kE) (N : Nat) {a0 : Nat} {a1 : Int32} {a2 : Int32} {mem : kM} {R : kO × kM} (h : m_K_cross xm N a0 a1 a2 mem = some R) : kCa xm kSm kDfl kFty kG 5 47 [.ref a0, .int a1, .int a2] mem (dEq R) := by
  refine wq_ca (show 3 ≤ 3 by decide) ?_
  change kGo xm kSm kDfl kFty kG 4 47 0 [(0, .ref a0), (1, .int a1), (2, .int a2)] [] mem (dEq R)
  unfold m_K_cross at h
  refine wp_run 2 (pc' := 2) (lv' := [(0, .ref a0), (1, .int a1), (2, .int a2)]) (st' := [.int 1, .int a1]) (mem' := mem) rfl ?_
  refine wq_lt2 rfl h (fun h => ?_) (fun h => ?_)
  · exact wq_end rfl rfl h
  · refine wp_run 2 (pc' := 7) (lv' := [(0, .ref a0), (1, .int a1), (2, .int a2)]) (st' := [.int 3, .int a1]) (mem' := mem) rfl ?_
    refine wq_gt2 rfl h (fun h => ?_) (fun h => ?_)
    · exact wq_end rfl rfl h
    · refine wp_run 2 (pc' := 12) (lv' := [(0, .ref a0), (1, .int a1), (2, .int a2)]) (st' := [.int 1, .int a2]) (mem' := mem) rfl ?_
      refine wq_lt2 rfl h (fun h => ?_) (fun h => ?_)
      · exact wq_end rfl rfl h
      · refine wp_run 2 (pc' := 17) (lv' := [(0, .ref a0), (1, .int a1), (2, .int a2)]) (st' := [.int 3, .int a2]) (mem' := mem) rfl ?_
        refine wq_le2 rfl h (fun h => ?_) (fun h => ?_)
        · exact wq_end rfl rfl h
        · refine wp_run 1 (pc' := 31) (lv' := [(0, .ref a0), (1, .int a1), (2, .int a2)]) (st' := [.ref a0]) (mem' := mem) rfl ?_
          refine wq_gR rfl h (fun v31 h => ?_)
          refine wq_gR rfl h (fun v34 h => ?_)
          refine wq_gI rfl h (fun v37 h => ?_)
          refine wp_run 3 (pc' := 43) (lv' := [(0, .ref a0), (1, .int a1), (2, .int a2)]) (st' := [.int (a1 + a2), .int v37]) (mem' := mem) rfl ?_
          refine wq_ge2 rfl h (fun h => ?_) (fun h => ?_)
          · exact wq_end rfl rfl h
          · refine wp_run 1 (pc' := 57) (lv' := [(0, .ref a0), (1, .int a1), (2, .int a2)]) (st' := [.ref a0]) (mem' := mem) rfl ?_
            refine wq_gR rfl h (fun v57 h => ?_)
            refine wp_run 1 (pc' := 61) (lv' := [(0, .ref a0), (1, .int a1), (2, .int a2)]) (st' := [.ref a0, .ref v57]) (mem' := mem) rfl ?_
            refine wq_gR rfl h (fun v61 h => ?_)
            refine wp_run 1 (pc' := 65) (lv' := [(0, .ref a0), (1, .int a1), (2, .int a2)]) (st' := [.ref a0, .ref v61, .ref v57]) (mem' := mem) rfl ?_
            refine wq_gR rfl h (fun v65 h => ?_)
            obtain ⟨fk68, hk68, h⟩ := dRc_some h
            refine wq_cV rfl (kCall_v hk68 (as := [.ref v61, .ref v65]) (rest := []) ⟨by decide, rfl, (show 2 < 90 by decide), by decide⟩ (show 0 ≤ 8 by decide)) h (fun r hr => ca_up (by decide) (m_History_keep_ok xm N hr)) (fun m68 h => ?_)
            refine wp_run 3 (pc' := 74) (lv' := [(0, .ref a0), (1, .int a1), (2, .int a2)]) (st' := [.int a2, .int a1, .ref a0]) (mem' := m68) rfl ?_
            obtain ⟨fk74, hk74, h⟩ := dRc_some h
            refine wq_cI rfl (kCall_v hk74 (as := [.int a1, .int a2]) (rest := []) ⟨by decide, rfl, (show 2 < 90 by decide), by decide⟩ (show 0 ≤ 8 by decide)) h (fun r hr => ca_up (by decide) (m_K_crossNext_ok xm N hr)) (fun v74 m74 h => ?_)
            exact wq_ret rfl rfl h
/-- KnitsteadLaw.cross(LKnitstead;IILKnitsteadLaw$Out;)I -/
def m_law_cross (xm : Nat → Option kE) (N : Nat) (a0 : Nat) (a1 : Int32) (a2 : Int32) (a3 : Nat) (mem : kM) : dRes :=
  dRc xm mem a0 11 <|
  dCX (m_K_cross xm N a0 a1 a2 mem) (fun v4 m4 =>
    dP xm m4 a3 12 0 (.long (Int32.toInt64 v4)) fun m8 =>
    some (.inl (some (.int 0)), m8)
  ) (fun E m4 => match E with
    | 0 =>
      some (.inl (some (.int 1)), m4)
    | 1 =>
      some (.inl (some (.int 2)), m4)
    | _ => none)
theorem m_law_cross_ok (xm : Nat → Option kE) (N : Nat) {a0 : Nat} {a1 : Int32} {a2 : Int32} {a3 : Nat} {mem : kM} {R : kO × kM} (h : m_law_cross xm N a0 a1 a2 a3 mem = some R) : kCa xm kSm kDfl kFty kG 6 247 [.ref a0, .int a1, .int a2, .ref a3] mem (dEq R) := by
  refine wq_ca (show 4 ≤ 5 by decide) ?_
  change kGo xm kSm kDfl kFty kG 5 247 0 [(0, .ref a0), (1, .int a1), (2, .int a2), (3, .ref a3)] [] mem (dEq R)
  unfold m_law_cross at h
  refine wp_run 4 (pc' := 4) (lv' := [(0, .ref a0), (1, .int a1), (2, .int a2), (3, .ref a3)]) (st' := [.int a2, .int a1, .ref a0, .ref a3]) (mem' := mem) rfl ?_
  obtain ⟨fk4, hk4, h⟩ := dRc_some h
  refine wq_cX rfl (kCall_v hk4 (as := [.int a1, .int a2]) (rest := [.ref a3]) ⟨by decide, rfl, (show 2 < 90 by decide), by decide⟩ (show 1 ≤ 8 by decide)) h (fun r hr => ca_up (by decide) (m_K_cross_ok xm N hr)) (fun v4 m4 h => ?_) (fun E m4 h => ?_)
  · refine wp_run 1 (pc' := 8) (lv' := [(0, .ref a0), (1, .int a1), (2, .int a2), (3, .ref a3)]) (st' := [.long (Int32.toInt64 v4), .ref a3]) (mem' := m4) rfl ?_
    refine wq_p rfl rfl h (fun m8 h => ?_)
    refine wp_run 2 (pc' := 23) (lv' := [(0, .ref a0), (1, .int a1), (2, .int a2), (3, .ref a3)]) (st' := [.int 0]) (mem' := m8) rfl ?_
    exact wq_ret rfl rfl h
  · match E, h with
    | 0, h =>
      refine ⟨16, 4, rfl, ?_⟩
      change kGo xm kSm kDfl kFty kG 5 247 16 [(0, .ref a0), (1, .int a1), (2, .int a2), (3, .ref a3)] [] m4 (dEq R)
      refine wp_run 1 (pc' := 17) (lv' := [(0, .ref a0), (1, .int a1), (2, .int a2), (3, .ref a3)]) (st' := [.int 1]) (mem' := m4) rfl ?_
      exact wq_ret rfl rfl h
    | 1, h =>
      refine ⟨20, 4, rfl, ?_⟩
      change kGo xm kSm kDfl kFty kG 5 247 20 [(0, .ref a0), (1, .int a1), (2, .int a2), (3, .ref a3)] [] m4 (dEq R)
      refine wp_run 1 (pc' := 21) (lv' := [(0, .ref a0), (1, .int a1), (2, .int a2), (3, .ref a3)]) (st' := [.int 2]) (mem' := m4) rfl ?_
      exact wq_ret rfl rfl h
    | 2, h => cases h
    | (k + 3), h => cases h
/-- Knitstead$Needle.swapWith(LKnitstead$Needle;)V -/
def m_Needle_swapWith_20 (xm : Nat → Option kE) (N : Nat) : Nat → Nat → Nat → Int32 → kM → dRes
  | 0, _, _, _, _ => none
  | n + 1, a0, a1, a3, mem =>
    dGR xm mem a0 7 0 fun v22 =>
    dLen xm mem v22 fun v25 =>
    if a3 < v25 then (
      dGR xm mem a1 7 0 fun v31 =>
      dLen xm mem v31 fun v34 =>
      if a3 < v34 then (
        dGR xm mem a0 7 0 fun v39 =>
        dIL xm 0 mem v39 a3 fun v43 =>
        dGR xm mem a0 7 0 fun v47 =>
        dGR xm mem a1 7 0 fun v52 =>
        dIL xm 0 mem v52 a3 fun v56 =>
        dIS xm mem v47 a3 v56 fun m57 =>
        dGR xm m57 a1 7 0 fun v59 =>
        dIS xm m57 v59 a3 v43 fun m65 =>
        m_Needle_swapWith_20 xm N n a0 a1 (a3 + 1) m65
      ) else (
        some (.inl none, mem)
      )
    ) else (
      some (.inl none, mem)
    )
theorem m_Needle_swapWith_20_ok (xm : Nat → Option kE) (N : Nat) : ∀ (n : Nat) (a0 : Nat) (a1 : Nat) (a3 : Int32) (mem : kM) (R : kO × kM), m_Needle_swapWith_20 xm N n a0 a1 a3 mem = some R → kGo xm kSm kDfl kFty kG 0 20 20 [(0, .ref a0), (1, .ref a1), (3, .int a3)] [] mem (dEq R) := by
  intro n
  induction n with
  | zero => intro a0 a1 a3 mem R h; cases h
  | succ n ih =>
    intro a0 a1 a3 mem R h
    rw [m_Needle_swapWith_20] at h
    refine wp_run 2 (pc' := 22) (lv' := [(0, .ref a0), (1, .ref a1), (3, .int a3)]) (st' := [.ref a0, .int a3]) (mem' := mem) rfl ?_
    refine wq_gR rfl h (fun v22 h => ?_)
    refine wq_len rfl h (fun v25 h => ?_)
    refine wq_ge2 rfl h (fun h => ?_) (fun h => ?_)
    · refine wp_run 2 (pc' := 31) (lv' := [(0, .ref a0), (1, .ref a1), (3, .int a3)]) (st' := [.ref a1, .int a3]) (mem' := mem) rfl ?_
      refine wq_gR rfl h (fun v31 h => ?_)
      refine wq_len rfl h (fun v34 h => ?_)
      refine wq_ge2 rfl h (fun h => ?_) (fun h => ?_)
      · refine wp_run 1 (pc' := 39) (lv' := [(0, .ref a0), (1, .ref a1), (3, .int a3)]) (st' := [.ref a0]) (mem' := mem) rfl ?_
        refine wq_gR rfl h (fun v39 h => ?_)
        refine wp_run 1 (pc' := 43) (lv' := [(0, .ref a0), (1, .ref a1), (3, .int a3)]) (st' := [.int a3, .ref v39]) (mem' := mem) rfl ?_
        refine wq_iL rfl h (fun v43 h => ?_)
        refine wp_run 2 (pc' := 47) (lv' := [(4, .int v43), (0, .ref a0), (1, .ref a1), (3, .int a3)]) (st' := [.ref a0]) (mem' := mem) rfl ?_
        refine wq_gR rfl h (fun v47 h => ?_)
        refine wp_run 2 (pc' := 52) (lv' := [(4, .int v43), (0, .ref a0), (1, .ref a1), (3, .int a3)]) (st' := [.ref a1, .int a3, .ref v47]) (mem' := mem) rfl ?_
        refine wq_gR rfl h (fun v52 h => ?_)
        refine wp_run 1 (pc' := 56) (lv' := [(4, .int v43), (0, .ref a0), (1, .ref a1), (3, .int a3)]) (st' := [.int a3, .ref v52, .int a3, .ref v47]) (mem' := mem) rfl ?_
        refine wq_iL rfl h (fun v56 h => ?_)
        refine wq_iS rfl h (fun m57 h => ?_)
        refine wp_run 1 (pc' := 59) (lv' := [(4, .int v43), (0, .ref a0), (1, .ref a1), (3, .int a3)]) (st' := [.ref a1]) (mem' := m57) rfl ?_
        refine wq_gR rfl h (fun v59 h => ?_)
        refine wp_run 2 (pc' := 65) (lv' := [(4, .int v43), (0, .ref a0), (1, .ref a1), (3, .int a3)]) (st' := [.int v43, .int a3, .ref v59]) (mem' := m57) rfl ?_
        refine wq_iS rfl h (fun m65 h => ?_)
        refine wp_run 2 (pc' := 20) (lv' := [(3, .int (a3 + 1)), (4, .int v43), (0, .ref a0), (1, .ref a1)]) (st' := []) (mem' := m65) rfl ?_
        refine kGo_sub (lvS_of [2, 3, 0] rfl [3, 4, 0, 1] rfl (by decide)) ?_
        exact ih _ _ _ m65 R h
      · exact wq_end rfl rfl h
    · exact wq_end rfl rfl h
def m_Needle_swapWith (xm : Nat → Option kE) (N : Nat) (a0 : Nat) (a1 : Nat) (mem : kM) : dRes :=
  dGI xm mem a0 7 1 fun v1 =>
  dGI xm mem a1 7 1 fun v7 =>
  dP xm mem a0 7 1 (.int v7) fun m10 =>
  dP xm m10 a1 7 1 (.int v1) fun m15 =>
  m_Needle_swapWith_20 xm N N a0 a1 0 m15
theorem m_Needle_swapWith_ok (xm : Nat → Option kE) (N : Nat) {a0 : Nat} {a1 : Nat} {mem : kM} {R : kO × kM} (h : m_Needle_swapWith xm N a0 a1 mem = some R) : kCa xm kSm kDfl kFty kG 1 20 [.ref a0, .ref a1] mem (dEq R) := by
  refine wq_ca (show 2 ≤ 5 by decide) ?_
  change kGo xm kSm kDfl kFty kG 0 20 0 [(0, .ref a0), (1, .ref a1)] [] mem (dEq R)
  unfold m_Needle_swapWith at h
  refine wp_run 1 (pc' := 1) (lv' := [(0, .ref a0), (1, .ref a1)]) (st' := [.ref a0]) (mem' := mem) rfl ?_
  refine wq_gI rfl h (fun v1 h => ?_)
  refine wp_run 3 (pc' := 7) (lv' := [(2, .int v1), (0, .ref a0), (1, .ref a1)]) (st' := [.ref a1, .ref a0]) (mem' := mem) rfl ?_
  refine wq_gI rfl h (fun v7 h => ?_)
  refine wq_p rfl rfl h (fun m10 h => ?_)
  refine wp_run 2 (pc' := 15) (lv' := [(2, .int v1), (0, .ref a0), (1, .ref a1)]) (st' := [.int v1, .ref a1]) (mem' := m10) rfl ?_
  refine wq_p rfl rfl h (fun m15 h => ?_)
  refine wp_run 2 (pc' := 20) (lv' := [(3, .int 0), (2, .int v1), (0, .ref a0), (1, .ref a1)]) (st' := []) (mem' := m15) rfl ?_
  refine kGo_sub (lvS_of [2, 3, 0] rfl [3, 2, 0, 1] rfl (by decide)) ?_
  exact m_Needle_swapWith_20_ok xm N N _ _ _ m15 R h
/-- Knitstead.turn()I -/
def m_K_turn_61 (xm : Nat → Option kE) (N : Nat) (a0 : Nat) (mem : kM) : dRes :=
  dGR xm mem a0 11 1 fun v62 =>
  dGR xm mem v62 10 0 fun v65 =>
  dGR xm mem a0 11 1 fun v69 =>
  dGR xm mem v69 10 1 fun v72 =>
  dRc xm mem v65 7 <|
  dCV (m_Needle_swapWith xm N v65 v72 mem) fun m75 =>
  dGR xm m75 a0 11 1 fun v79 =>
  dGI xm m75 v79 10 5 fun v83 =>
  dP xm m75 v79 10 5 (.int (v83 + 1)) fun m88 =>
  dGR xm m88 a0 11 1 fun v92 =>
  dGR xm m88 v92 10 0 fun v95 =>
  dGI xm m88 v95 7 1 fun v98 =>
  some (.inl (some (.int v98)), m88)
theorem m_K_turn_61_ok (xm : Nat → Option kE) (N : Nat) : ∀ (a0 : Nat) (mem : kM) (R : kO × kM), m_K_turn_61 xm N a0 mem = some R → kGo xm kSm kDfl kFty kG 4 48 61 [(0, .ref a0)] [] mem (dEq R) := by
  intro a0 mem R h
  unfold m_K_turn_61 at h
  refine wp_run 1 (pc' := 62) (lv' := [(0, .ref a0)]) (st' := [.ref a0]) (mem' := mem) rfl ?_
  refine wq_gR rfl h (fun v62 h => ?_)
  refine wq_gR rfl h (fun v65 h => ?_)
  refine wp_run 1 (pc' := 69) (lv' := [(0, .ref a0)]) (st' := [.ref a0, .ref v65]) (mem' := mem) rfl ?_
  refine wq_gR rfl h (fun v69 h => ?_)
  refine wq_gR rfl h (fun v72 h => ?_)
  obtain ⟨fk75, hk75, h⟩ := dRc_some h
  refine wq_cV rfl (kCall_v hk75 (as := [.ref v72]) (rest := []) ⟨by decide, rfl, (show 1 < 90 by decide), by decide⟩ (show 0 ≤ 8 by decide)) h (fun r hr => ca_up (by decide) (m_Needle_swapWith_ok xm N hr)) (fun m75 h => ?_)
  refine wp_run 1 (pc' := 79) (lv' := [(0, .ref a0)]) (st' := [.ref a0]) (mem' := m75) rfl ?_
  refine wq_gR rfl h (fun v79 h => ?_)
  refine wp_run 1 (pc' := 83) (lv' := [(0, .ref a0)]) (st' := [.ref v79, .ref v79]) (mem' := m75) rfl ?_
  refine wq_gI rfl h (fun v83 h => ?_)
  refine wp_run 2 (pc' := 88) (lv' := [(0, .ref a0)]) (st' := [.int (v83 + 1), .ref v79]) (mem' := m75) rfl ?_
  refine wq_p rfl rfl h (fun m88 h => ?_)
  refine wp_run 1 (pc' := 92) (lv' := [(0, .ref a0)]) (st' := [.ref a0]) (mem' := m88) rfl ?_
  refine wq_gR rfl h (fun v92 h => ?_)
  refine wq_gR rfl h (fun v95 h => ?_)
  refine wq_gI rfl h (fun v98 h => ?_)
  exact wq_ret rfl rfl h
def m_K_turn (xm : Nat → Option kE) (N : Nat) (a0 : Nat) (mem : kM) : dRes :=
  dGR xm mem a0 11 1 fun v1 =>
  dRc xm mem v1 10 <|
  dCI (m_Work_onBoth xm N v1 mem) fun v4 m4 =>
  if v4 = 0 then (
    some (.inr 1, m4 ++ [.inl (1000, [.null, .null, .null, .null, .null, .null])])
  ) else (
    dGR xm m4 a0 11 5 fun v21 =>
    dGR xm m4 a0 11 1 fun v25 =>
    dGR xm m4 a0 11 0 fun v29 =>
    dRc xm m4 v21 6 <|
    dCV (m_History_keep xm N v21 v25 v29 m4) fun m32 =>
    dGR xm m32 a0 11 1 fun v36 =>
    dGR xm m32 v36 10 0 fun v39 =>
    dGI xm m32 v39 7 1 fun v42 =>
    if 0 < v42 then (
      dGR xm m32 a0 11 1 fun v49 =>
      dGI xm m32 v49 10 8 fun v53 =>
      dP xm m32 v49 10 8 (.int (v53 + 1)) fun m58 =>
      m_K_turn_61 xm N a0 m58
    ) else (
      m_K_turn_61 xm N a0 m32
    )
  )
theorem m_K_turn_ok (xm : Nat → Option kE) (N : Nat) {a0 : Nat} {mem : kM} {R : kO × kM} (h : m_K_turn xm N a0 mem = some R) : kCa xm kSm kDfl kFty kG 5 48 [.ref a0] mem (dEq R) := by
  refine wq_ca (show 1 ≤ 1 by decide) ?_
  change kGo xm kSm kDfl kFty kG 4 48 0 [(0, .ref a0)] [] mem (dEq R)
  unfold m_K_turn at h
  refine wp_run 1 (pc' := 1) (lv' := [(0, .ref a0)]) (st' := [.ref a0]) (mem' := mem) rfl ?_
  refine wq_gR rfl h (fun v1 h => ?_)
  obtain ⟨fk4, hk4, h⟩ := dRc_some h
  refine wq_cI rfl (kCall_v hk4 (as := []) (rest := []) ⟨by decide, rfl, (show 0 < 90 by decide), by decide⟩ (show 0 ≤ 8 by decide)) h (fun r hr => ca_up (by decide) (m_Work_onBoth_ok xm N hr)) (fun v4 m4 h => ?_)
  refine wq_ne rfl h (fun h => ?_) (fun h => ?_)
  · exact wq_end rfl rfl h
  · refine wp_run 1 (pc' := 21) (lv' := [(0, .ref a0)]) (st' := [.ref a0]) (mem' := m4) rfl ?_
    refine wq_gR rfl h (fun v21 h => ?_)
    refine wp_run 1 (pc' := 25) (lv' := [(0, .ref a0)]) (st' := [.ref a0, .ref v21]) (mem' := m4) rfl ?_
    refine wq_gR rfl h (fun v25 h => ?_)
    refine wp_run 1 (pc' := 29) (lv' := [(0, .ref a0)]) (st' := [.ref a0, .ref v25, .ref v21]) (mem' := m4) rfl ?_
    refine wq_gR rfl h (fun v29 h => ?_)
    obtain ⟨fk32, hk32, h⟩ := dRc_some h
    refine wq_cV rfl (kCall_v hk32 (as := [.ref v25, .ref v29]) (rest := []) ⟨by decide, rfl, (show 2 < 90 by decide), by decide⟩ (show 0 ≤ 8 by decide)) h (fun r hr => ca_up (by decide) (m_History_keep_ok xm N hr)) (fun m32 h => ?_)
    refine wp_run 1 (pc' := 36) (lv' := [(0, .ref a0)]) (st' := [.ref a0]) (mem' := m32) rfl ?_
    refine wq_gR rfl h (fun v36 h => ?_)
    refine wq_gR rfl h (fun v39 h => ?_)
    refine wq_gI rfl h (fun v42 h => ?_)
    refine wq_le rfl h (fun h => ?_) (fun h => ?_)
    · refine wp_run 1 (pc' := 49) (lv' := [(0, .ref a0)]) (st' := [.ref a0]) (mem' := m32) rfl ?_
      refine wq_gR rfl h (fun v49 h => ?_)
      refine wp_run 1 (pc' := 53) (lv' := [(0, .ref a0)]) (st' := [.ref v49, .ref v49]) (mem' := m32) rfl ?_
      refine wq_gI rfl h (fun v53 h => ?_)
      refine wp_run 2 (pc' := 58) (lv' := [(0, .ref a0)]) (st' := [.int (v53 + 1), .ref v49]) (mem' := m32) rfl ?_
      refine wq_p rfl rfl h (fun m58 h => ?_)
      exact m_K_turn_61_ok xm N _ m58 R h
    · exact m_K_turn_61_ok xm N _ m32 R h
/-- KnitsteadLaw.turn(LKnitstead;LKnitsteadLaw$Out;)I -/
def m_law_turn (xm : Nat → Option kE) (N : Nat) (a0 : Nat) (a1 : Nat) (mem : kM) : dRes :=
  dRc xm mem a0 11 <|
  dCX (m_K_turn xm N a0 mem) (fun v2 m2 =>
    dP xm m2 a1 12 0 (.long (Int32.toInt64 v2)) fun m6 =>
    some (.inl (some (.int 0)), m6)
  ) (fun E m2 => match E with
    | 1 =>
      some (.inl (some (.int 1)), m2)
    | _ => none)
theorem m_law_turn_ok (xm : Nat → Option kE) (N : Nat) {a0 : Nat} {a1 : Nat} {mem : kM} {R : kO × kM} (h : m_law_turn xm N a0 a1 mem = some R) : kCa xm kSm kDfl kFty kG 6 248 [.ref a0, .ref a1] mem (dEq R) := by
  refine wq_ca (show 2 ≤ 3 by decide) ?_
  change kGo xm kSm kDfl kFty kG 5 248 0 [(0, .ref a0), (1, .ref a1)] [] mem (dEq R)
  unfold m_law_turn at h
  refine wp_run 2 (pc' := 2) (lv' := [(0, .ref a0), (1, .ref a1)]) (st' := [.ref a0, .ref a1]) (mem' := mem) rfl ?_
  obtain ⟨fk2, hk2, h⟩ := dRc_some h
  refine wq_cX rfl (kCall_v hk2 (as := []) (rest := [.ref a1]) ⟨by decide, rfl, (show 0 < 90 by decide), by decide⟩ (show 1 ≤ 8 by decide)) h (fun r hr => ca_up (by decide) (m_K_turn_ok xm N hr)) (fun v2 m2 h => ?_) (fun E m2 h => ?_)
  · refine wp_run 1 (pc' := 6) (lv' := [(0, .ref a0), (1, .ref a1)]) (st' := [.long (Int32.toInt64 v2), .ref a1]) (mem' := m2) rfl ?_
    refine wq_p rfl rfl h (fun m6 h => ?_)
    refine wp_run 2 (pc' := 16) (lv' := [(0, .ref a0), (1, .ref a1)]) (st' := [.int 0]) (mem' := m6) rfl ?_
    exact wq_ret rfl rfl h
  · match E, h with
    | 1, h =>
      refine ⟨13, 2, rfl, ?_⟩
      change kGo xm kSm kDfl kFty kG 5 248 13 [(0, .ref a0), (1, .ref a1)] [] m2 (dEq R)
      refine wp_run 1 (pc' := 14) (lv' := [(0, .ref a0), (1, .ref a1)]) (st' := [.int 1]) (mem' := m2) rfl ?_
      exact wq_ret rfl rfl h
    | 0, h => cases h
    | 2, h => cases h
    | (k + 3), h => cases h
/-- Knitstead.bindAt(I)V -/
def m_K_bindAt (xm : Nat → Option kE) (N : Nat) (a0 : Nat) (a1 : Int32) (mem : kM) : dRes :=
  dGR xm mem a0 11 1 fun v1 =>
  dGR xm mem v1 10 1 fun v4 =>
  dRc xm mem v4 7 <|
  dCI (m_Needle_takeAt xm N v4 a1 mem) fun v8 m8 =>
  dGR xm m8 a0 11 2 fun v13 =>
  dRc xm m8 v13 8 <|
  dCV (m_Table_set xm N v13 v8 5 3 m8) fun m19 =>
  dGR xm m19 a0 11 1 fun v23 =>
  dGI xm m19 v23 10 9 fun v27 =>
  dP xm m19 v23 10 9 (.int (v27 + 1)) fun m32 =>
  some (.inl none, m32)
theorem m_K_bindAt_ok (xm : Nat → Option kE) (N : Nat) {a0 : Nat} {a1 : Int32} {mem : kM} {R : kO × kM} (h : m_K_bindAt xm N a0 a1 mem = some R) : kCa xm kSm kDfl kFty kG 5 76 [.ref a0, .int a1] mem (dEq R) := by
  refine wq_ca (show 2 ≤ 3 by decide) ?_
  change kGo xm kSm kDfl kFty kG 4 76 0 [(0, .ref a0), (1, .int a1)] [] mem (dEq R)
  unfold m_K_bindAt at h
  refine wp_run 1 (pc' := 1) (lv' := [(0, .ref a0), (1, .int a1)]) (st' := [.ref a0]) (mem' := mem) rfl ?_
  refine wq_gR rfl h (fun v1 h => ?_)
  refine wq_gR rfl h (fun v4 h => ?_)
  refine wp_run 1 (pc' := 8) (lv' := [(0, .ref a0), (1, .int a1)]) (st' := [.int a1, .ref v4]) (mem' := mem) rfl ?_
  obtain ⟨fk8, hk8, h⟩ := dRc_some h
  refine wq_cI rfl (kCall_v hk8 (as := [.int a1]) (rest := []) ⟨by decide, rfl, (show 1 < 90 by decide), by decide⟩ (show 0 ≤ 8 by decide)) h (fun r hr => ca_up (by decide) (m_Needle_takeAt_ok xm N hr)) (fun v8 m8 h => ?_)
  refine wp_run 2 (pc' := 13) (lv' := [(2, .int v8), (0, .ref a0), (1, .int a1)]) (st' := [.ref a0]) (mem' := m8) rfl ?_
  refine wq_gR rfl h (fun v13 h => ?_)
  refine wp_run 3 (pc' := 19) (lv' := [(2, .int v8), (0, .ref a0), (1, .int a1)]) (st' := [.int 3, .int 5, .int v8, .ref v13]) (mem' := m8) rfl ?_
  obtain ⟨fk19, hk19, h⟩ := dRc_some h
  refine wq_cV rfl (kCall_v hk19 (as := [.int v8, .int 5, .int 3]) (rest := []) ⟨by decide, rfl, (show 3 < 90 by decide), by decide⟩ (show 0 ≤ 8 by decide)) h (fun r hr => ca_up (by decide) (m_Table_set_ok xm N hr)) (fun m19 h => ?_)
  refine wp_run 1 (pc' := 23) (lv' := [(2, .int v8), (0, .ref a0), (1, .int a1)]) (st' := [.ref a0]) (mem' := m19) rfl ?_
  refine wq_gR rfl h (fun v23 h => ?_)
  refine wp_run 1 (pc' := 27) (lv' := [(2, .int v8), (0, .ref a0), (1, .int a1)]) (st' := [.ref v23, .ref v23]) (mem' := m19) rfl ?_
  refine wq_gI rfl h (fun v27 h => ?_)
  refine wp_run 2 (pc' := 32) (lv' := [(2, .int v8), (0, .ref a0), (1, .int a1)]) (st' := [.int (v27 + 1), .ref v23]) (mem' := m19) rfl ?_
  refine wq_p rfl rfl h (fun m32 h => ?_)
  exact wq_end rfl rfl h
/-- Knitstead.bindSeconds(I)V -/
def m_K_bindSeconds_2 (xm : Nat → Option kE) (N : Nat) : Nat → Nat → Int32 → Int32 → kM → dRes
  | 0, _, _, _, _ => none
  | n + 1, a0, a1, a2, mem =>
    if a2 < a1 then (
      dRc xm mem a0 11 <|
      dCV (m_K_bindAt xm N a0 1 mem) fun m9 =>
      m_K_bindSeconds_2 xm N n a0 a1 (a2 + 1) m9
    ) else (
      some (.inl none, mem)
    )
theorem m_K_bindSeconds_2_ok (xm : Nat → Option kE) (N : Nat) : ∀ (n : Nat) (a0 : Nat) (a1 : Int32) (a2 : Int32) (mem : kM) (R : kO × kM), m_K_bindSeconds_2 xm N n a0 a1 a2 mem = some R → kGo xm kSm kDfl kFty kG 5 74 2 [(0, .ref a0), (1, .int a1), (2, .int a2)] [] mem (dEq R) := by
  intro n
  induction n with
  | zero => intro a0 a1 a2 mem R h; cases h
  | succ n ih =>
    intro a0 a1 a2 mem R h
    rw [m_K_bindSeconds_2] at h
    refine wp_run 2 (pc' := 4) (lv' := [(0, .ref a0), (1, .int a1), (2, .int a2)]) (st' := [.int a1, .int a2]) (mem' := mem) rfl ?_
    refine wq_ge2 rfl h (fun h => ?_) (fun h => ?_)
    · refine wp_run 2 (pc' := 9) (lv' := [(0, .ref a0), (1, .int a1), (2, .int a2)]) (st' := [.int 1, .ref a0]) (mem' := mem) rfl ?_
      obtain ⟨fk9, hk9, h⟩ := dRc_some h
      refine wq_cV rfl (kCall_v hk9 (as := [.int 1]) (rest := []) ⟨by decide, rfl, (show 1 < 90 by decide), by decide⟩ (show 0 ≤ 8 by decide)) h (fun r hr => ca_up (by decide) (m_K_bindAt_ok xm N hr)) (fun m9 h => ?_)
      refine wp_run 2 (pc' := 2) (lv' := [(2, .int (a2 + 1)), (0, .ref a0), (1, .int a1)]) (st' := []) (mem' := m9) rfl ?_
      refine kGo_sub (lvS_of [1, 2, 0] rfl [2, 0, 1] rfl (by decide)) ?_
      exact ih _ _ _ m9 R h
    · exact wq_end rfl rfl h
def m_K_bindSeconds (xm : Nat → Option kE) (N : Nat) (a0 : Nat) (a1 : Int32) (mem : kM) : dRes :=
  m_K_bindSeconds_2 xm N N a0 a1 0 mem
theorem m_K_bindSeconds_ok (xm : Nat → Option kE) (N : Nat) {a0 : Nat} {a1 : Int32} {mem : kM} {R : kO × kM} (h : m_K_bindSeconds xm N a0 a1 mem = some R) : kCa xm kSm kDfl kFty kG 6 74 [.ref a0, .int a1] mem (dEq R) := by
  refine wq_ca (show 2 ≤ 3 by decide) ?_
  change kGo xm kSm kDfl kFty kG 5 74 0 [(0, .ref a0), (1, .int a1)] [] mem (dEq R)
  unfold m_K_bindSeconds at h
  refine wp_run 2 (pc' := 2) (lv' := [(2, .int 0), (0, .ref a0), (1, .int a1)]) (st' := []) (mem' := mem) rfl ?_
  refine kGo_sub (lvS_of [1, 2, 0] rfl [2, 0, 1] rfl (by decide)) ?_
  exact m_K_bindSeconds_2_ok xm N N _ _ _ mem R h
/-- Knitstead.fastenLast()V -/
def m_K_fastenLast (xm : Nat → Option kE) (N : Nat) (a0 : Nat) (mem : kM) : dRes :=
  dGR xm mem a0 11 0 fun v1 =>
  dRc xm mem v1 5 <|
  dCV (m_Balls_spend xm N v1 6 mem) fun m6 =>
  dRc xm m6 a0 11 <|
  dCV (m_K_bindAt xm N a0 0 m6) fun m11 =>
  some (.inl none, m11)
theorem m_K_fastenLast_ok (xm : Nat → Option kE) (N : Nat) {a0 : Nat} {mem : kM} {R : kO × kM} (h : m_K_fastenLast xm N a0 mem = some R) : kCa xm kSm kDfl kFty kG 6 75 [.ref a0] mem (dEq R) := by
  refine wq_ca (show 1 ≤ 1 by decide) ?_
  change kGo xm kSm kDfl kFty kG 5 75 0 [(0, .ref a0)] [] mem (dEq R)
  unfold m_K_fastenLast at h
  refine wp_run 1 (pc' := 1) (lv' := [(0, .ref a0)]) (st' := [.ref a0]) (mem' := mem) rfl ?_
  refine wq_gR rfl h (fun v1 h => ?_)
  refine wp_run 1 (pc' := 6) (lv' := [(0, .ref a0)]) (st' := [.int 6, .ref v1]) (mem' := mem) rfl ?_
  obtain ⟨fk6, hk6, h⟩ := dRc_some h
  refine wq_cV rfl (kCall_v hk6 (as := [.int 6]) (rest := []) ⟨by decide, rfl, (show 1 < 90 by decide), by decide⟩ (show 0 ≤ 8 by decide)) h (fun r hr => ca_up (by decide) (m_Balls_spend_ok xm N hr)) (fun m6 h => ?_)
  refine wp_run 2 (pc' := 11) (lv' := [(0, .ref a0)]) (st' := [.int 0, .ref a0]) (mem' := m6) rfl ?_
  obtain ⟨fk11, hk11, h⟩ := dRc_some h
  refine wq_cV rfl (kCall_v hk11 (as := [.int 0]) (rest := []) ⟨by decide, rfl, (show 1 < 90 by decide), by decide⟩ (show 0 ≤ 8 by decide)) h (fun r hr => ca_up (by decide) (m_K_bindAt_ok xm N hr)) (fun m11 h => ?_)
  exact wq_end rfl rfl h
/-- Knitstead.bind(I)I -/
def m_K_bind_148 (xm : Nat → Option kE) (N : Nat) (a0 : Nat) (mem : kM) : dRes :=
  dGR xm mem a0 11 1 fun v149 =>
  dRc xm mem v149 10 <|
  dCI (m_Work_onBoth xm N v149 mem) fun v152 m152 =>
  some (.inl (some (.int v152)), m152)
theorem m_K_bind_148_ok (xm : Nat → Option kE) (N : Nat) : ∀ (a0 : Nat) (mem : kM) (R : kO × kM), m_K_bind_148 xm N a0 mem = some R → kGo xm kSm kDfl kFty kG 6 49 148 [(0, .ref a0)] [] mem (dEq R) := by
  intro a0 mem R h
  unfold m_K_bind_148 at h
  refine wp_run 1 (pc' := 149) (lv' := [(0, .ref a0)]) (st' := [.ref a0]) (mem' := mem) rfl ?_
  refine wq_gR rfl h (fun v149 h => ?_)
  obtain ⟨fk152, hk152, h⟩ := dRc_some h
  refine wq_cI rfl (kCall_v hk152 (as := []) (rest := []) ⟨by decide, rfl, (show 0 < 90 by decide), by decide⟩ (show 0 ≤ 8 by decide)) h (fun r hr => ca_up (by decide) (m_Work_onBoth_ok xm N hr)) (fun v152 m152 h => ?_)
  exact wq_ret rfl rfl h
def m_K_bind_137 (xm : Nat → Option kE) (N : Nat) (a0 : Nat) (a2 : Int32) (s0 : Nat) (s1 : Int32) (mem : kM) : dRes :=
  dRc xm mem s0 11 <|
  dCV (m_K_bindSeconds xm N s0 s1 mem) fun m137 =>
  if a2 = 0 then (
    m_K_bind_148 xm N a0 m137
  ) else (
    dRc xm m137 a0 11 <|
    dCV (m_K_fastenLast xm N a0 m137) fun m145 =>
    m_K_bind_148 xm N a0 m145
  )
theorem m_K_bind_137_ok (xm : Nat → Option kE) (N : Nat) : ∀ (a0 : Nat) (a2 : Int32) (s0 : Nat) (s1 : Int32) (mem : kM) (R : kO × kM), m_K_bind_137 xm N a0 a2 s0 s1 mem = some R → kGo xm kSm kDfl kFty kG 6 49 137 [(0, .ref a0), (2, .int a2)] [.int s1, .ref s0] mem (dEq R) := by
  intro a0 a2 s0 s1 mem R h
  unfold m_K_bind_137 at h
  obtain ⟨fk137, hk137, h⟩ := dRc_some h
  refine wq_cV rfl (kCall_v hk137 (as := [.int s1]) (rest := []) ⟨by decide, rfl, (show 1 < 90 by decide), by decide⟩ (show 0 ≤ 8 by decide)) h (fun r hr => ca_up (by decide) (m_K_bindSeconds_ok xm N hr)) (fun m137 h => ?_)
  refine wp_run 1 (pc' := 141) (lv' := [(0, .ref a0), (2, .int a2)]) (st' := [.int a2]) (mem' := m137) rfl ?_
  refine wq_eq rfl h (fun h => ?_) (fun h => ?_)
  · refine kGo_sub (lvS_of [0] rfl [0, 2] rfl (by decide)) ?_
    exact m_K_bind_148_ok xm N _ m137 R h
  · refine wp_run 1 (pc' := 145) (lv' := [(0, .ref a0), (2, .int a2)]) (st' := [.ref a0]) (mem' := m137) rfl ?_
    obtain ⟨fk145, hk145, h⟩ := dRc_some h
    refine wq_cV rfl (kCall_v hk145 (as := []) (rest := []) ⟨by decide, rfl, (show 0 < 90 by decide), by decide⟩ (show 0 ≤ 8 by decide)) h (fun r hr => ca_up (by decide) (m_K_fastenLast_ok xm N hr)) (fun m145 h => ?_)
    refine kGo_sub (lvS_of [0] rfl [0, 2] rfl (by decide)) ?_
    exact m_K_bind_148_ok xm N _ m145 R h
def m_K_bind_110 (xm : Nat → Option kE) (N : Nat) (a0 : Nat) (a1 : Int32) (a2 : Int32) (mem : kM) : dRes :=
  dGR xm mem a0 11 5 fun v111 =>
  dGR xm mem a0 11 1 fun v115 =>
  dGR xm mem a0 11 0 fun v119 =>
  dRc xm mem v111 6 <|
  dCV (m_History_keep xm N v111 v115 v119 mem) fun m122 =>
  if a2 = 0 then (
    m_K_bind_137 xm N a0 a2 a0 a1 m122
  ) else (
    m_K_bind_137 xm N a0 a2 a0 (a1 - 1) m122
  )
theorem m_K_bind_110_ok (xm : Nat → Option kE) (N : Nat) : ∀ (a0 : Nat) (a1 : Int32) (a2 : Int32) (mem : kM) (R : kO × kM), m_K_bind_110 xm N a0 a1 a2 mem = some R → kGo xm kSm kDfl kFty kG 6 49 110 [(0, .ref a0), (1, .int a1), (2, .int a2)] [] mem (dEq R) := by
  intro a0 a1 a2 mem R h
  unfold m_K_bind_110 at h
  refine wp_run 1 (pc' := 111) (lv' := [(0, .ref a0), (1, .int a1), (2, .int a2)]) (st' := [.ref a0]) (mem' := mem) rfl ?_
  refine wq_gR rfl h (fun v111 h => ?_)
  refine wp_run 1 (pc' := 115) (lv' := [(0, .ref a0), (1, .int a1), (2, .int a2)]) (st' := [.ref a0, .ref v111]) (mem' := mem) rfl ?_
  refine wq_gR rfl h (fun v115 h => ?_)
  refine wp_run 1 (pc' := 119) (lv' := [(0, .ref a0), (1, .int a1), (2, .int a2)]) (st' := [.ref a0, .ref v115, .ref v111]) (mem' := mem) rfl ?_
  refine wq_gR rfl h (fun v119 h => ?_)
  obtain ⟨fk122, hk122, h⟩ := dRc_some h
  refine wq_cV rfl (kCall_v hk122 (as := [.ref v115, .ref v119]) (rest := []) ⟨by decide, rfl, (show 2 < 90 by decide), by decide⟩ (show 0 ≤ 8 by decide)) h (fun r hr => ca_up (by decide) (m_History_keep_ok xm N hr)) (fun m122 h => ?_)
  refine wp_run 2 (pc' := 127) (lv' := [(0, .ref a0), (1, .int a1), (2, .int a2)]) (st' := [.int a2, .ref a0]) (mem' := m122) rfl ?_
  refine wq_eq rfl h (fun h => ?_) (fun h => ?_)
  · refine wp_run 1 (pc' := 137) (lv' := [(0, .ref a0), (1, .int a1), (2, .int a2)]) (st' := [.int a1, .ref a0]) (mem' := m122) rfl ?_
    refine kGo_sub (lvS_of [0, 2] rfl [0, 1, 2] rfl (by decide)) ?_
    exact m_K_bind_137_ok xm N _ _ _ _ m122 R h
  · refine wp_run 4 (pc' := 137) (lv' := [(0, .ref a0), (1, .int a1), (2, .int a2)]) (st' := [.int (a1 - 1), .ref a0]) (mem' := m122) rfl ?_
    refine kGo_sub (lvS_of [0, 2] rfl [0, 1, 2] rfl (by decide)) ?_
    exact m_K_bind_137_ok xm N _ _ _ _ m122 R h
def m_K_bind_84 (xm : Nat → Option kE) (N : Nat) (a0 : Nat) (a1 : Int32) (a2 : Int32) (mem : kM) : dRes :=
  if a2 = 0 then (
    m_K_bind_110 xm N a0 a1 a2 mem
  ) else (
    dGR xm mem a0 11 0 fun v89 =>
    dRc xm mem v89 5 <|
    dCI (m_Balls_ofJoined xm N v89 mem) fun v92 m92 =>
    if v92 < 6 then (
      some (.inr 1, m92 ++ [.inl (1000, [.null, .null, .null, .null, .null, .null])])
    ) else (
      m_K_bind_110 xm N a0 a1 a2 m92
    )
  )
theorem m_K_bind_84_ok (xm : Nat → Option kE) (N : Nat) : ∀ (a0 : Nat) (a1 : Int32) (a2 : Int32) (mem : kM) (R : kO × kM), m_K_bind_84 xm N a0 a1 a2 mem = some R → kGo xm kSm kDfl kFty kG 6 49 84 [(0, .ref a0), (1, .int a1), (2, .int a2)] [] mem (dEq R) := by
  intro a0 a1 a2 mem R h
  unfold m_K_bind_84 at h
  refine wp_run 1 (pc' := 85) (lv' := [(0, .ref a0), (1, .int a1), (2, .int a2)]) (st' := [.int a2]) (mem' := mem) rfl ?_
  refine wq_eq rfl h (fun h => ?_) (fun h => ?_)
  · exact m_K_bind_110_ok xm N _ _ _ mem R h
  · refine wp_run 1 (pc' := 89) (lv' := [(0, .ref a0), (1, .int a1), (2, .int a2)]) (st' := [.ref a0]) (mem' := mem) rfl ?_
    refine wq_gR rfl h (fun v89 h => ?_)
    obtain ⟨fk92, hk92, h⟩ := dRc_some h
    refine wq_cI rfl (kCall_v hk92 (as := []) (rest := []) ⟨by decide, rfl, (show 0 < 90 by decide), by decide⟩ (show 0 ≤ 8 by decide)) h (fun r hr => ca_up (by decide) (m_Balls_ofJoined_ok xm N hr)) (fun v92 m92 h => ?_)
    refine wp_run 1 (pc' := 97) (lv' := [(0, .ref a0), (1, .int a1), (2, .int a2)]) (st' := [.int 6, .int v92]) (mem' := m92) rfl ?_
    refine wq_ge2 rfl h (fun h => ?_) (fun h => ?_)
    · exact wq_end rfl rfl h
    · exact m_K_bind_110_ok xm N _ _ _ m92 R h
def m_K_bind_53 (xm : Nat → Option kE) (N : Nat) (a0 : Nat) (a1 : Int32) (s0 : Int32) (mem : kM) : dRes :=
  if s0 = 0 then (
    dGR xm mem a0 11 1 fun v60 =>
    dGR xm mem v60 10 1 fun v63 =>
    dGI xm mem v63 7 1 fun v66 =>
    if (v66 - 1) < a1 then (
      some (.inr 1, mem ++ [.inl (1000, [.null, .null, .null, .null, .null, .null])])
    ) else (
      m_K_bind_84 xm N a0 a1 s0 mem
    )
  ) else (
    m_K_bind_84 xm N a0 a1 s0 mem
  )
theorem m_K_bind_53_ok (xm : Nat → Option kE) (N : Nat) : ∀ (a0 : Nat) (a1 : Int32) (s0 : Int32) (mem : kM) (R : kO × kM), m_K_bind_53 xm N a0 a1 s0 mem = some R → kGo xm kSm kDfl kFty kG 6 49 53 [(0, .ref a0), (1, .int a1)] [.int s0] mem (dEq R) := by
  intro a0 a1 s0 mem R h
  unfold m_K_bind_53 at h
  refine wp_run 2 (pc' := 55) (lv' := [(2, .int s0), (0, .ref a0), (1, .int a1)]) (st' := [.int s0]) (mem' := mem) rfl ?_
  refine wq_ne rfl h (fun h => ?_) (fun h => ?_)
  · refine wp_run 2 (pc' := 60) (lv' := [(2, .int s0), (0, .ref a0), (1, .int a1)]) (st' := [.ref a0, .int a1]) (mem' := mem) rfl ?_
    refine wq_gR rfl h (fun v60 h => ?_)
    refine wq_gR rfl h (fun v63 h => ?_)
    refine wq_gI rfl h (fun v66 h => ?_)
    refine wp_run 2 (pc' := 71) (lv' := [(2, .int s0), (0, .ref a0), (1, .int a1)]) (st' := [.int (v66 - 1), .int a1]) (mem' := mem) rfl ?_
    refine wq_le2 rfl h (fun h => ?_) (fun h => ?_)
    · exact wq_end rfl rfl h
    · refine kGo_sub (lvS_of [1, 2, 0] rfl [2, 0, 1] rfl (by decide)) ?_
      exact m_K_bind_84_ok xm N _ _ _ mem R h
  · refine kGo_sub (lvS_of [1, 2, 0] rfl [2, 0, 1] rfl (by decide)) ?_
    exact m_K_bind_84_ok xm N _ _ _ mem R h
def m_K_bind_52 (xm : Nat → Option kE) (N : Nat) (a0 : Nat) (a1 : Int32) (mem : kM) : dRes :=
  m_K_bind_53 xm N a0 a1 0 mem
theorem m_K_bind_52_ok (xm : Nat → Option kE) (N : Nat) : ∀ (a0 : Nat) (a1 : Int32) (mem : kM) (R : kO × kM), m_K_bind_52 xm N a0 a1 mem = some R → kGo xm kSm kDfl kFty kG 6 49 52 [(0, .ref a0), (1, .int a1)] [] mem (dEq R) := by
  intro a0 a1 mem R h
  unfold m_K_bind_52 at h
  refine wp_run 1 (pc' := 53) (lv' := [(0, .ref a0), (1, .int a1)]) (st' := [.int 0]) (mem' := mem) rfl ?_
  exact m_K_bind_53_ok xm N _ _ _ mem R h
def m_K_bind (xm : Nat → Option kE) (N : Nat) (a0 : Nat) (a1 : Int32) (mem : kM) : dRes :=
  if a1 < 1 then (
    some (.inr 0, mem ++ [.inl (1000, [.null, .null, .null, .null, .null, .null])])
  ) else (
    if 24 < a1 then (
      some (.inr 0, mem ++ [.inl (1000, [.null, .null, .null, .null, .null, .null])])
    ) else (
      dGR xm mem a0 11 1 fun v23 =>
      dGR xm mem v23 10 1 fun v26 =>
      dGI xm mem v26 7 1 fun v29 =>
      if a1 = v29 then (
        dGR xm mem a0 11 1 fun v36 =>
        dGR xm mem v36 10 0 fun v39 =>
        dGI xm mem v39 7 1 fun v42 =>
        if v42 = 0 then (
          m_K_bind_53 xm N a0 a1 1 mem
        ) else (
          m_K_bind_52 xm N a0 a1 mem
        )
      ) else (
        m_K_bind_52 xm N a0 a1 mem
      )
    )
  )
theorem m_K_bind_ok (xm : Nat → Option kE) (N : Nat) {a0 : Nat} {a1 : Int32} {mem : kM} {R : kO × kM} (h : m_K_bind xm N a0 a1 mem = some R) : kCa xm kSm kDfl kFty kG 7 49 [.ref a0, .int a1] mem (dEq R) := by
  refine wq_ca (show 2 ≤ 3 by decide) ?_
  change kGo xm kSm kDfl kFty kG 6 49 0 [(0, .ref a0), (1, .int a1)] [] mem (dEq R)
  unfold m_K_bind at h
  refine wp_run 2 (pc' := 2) (lv' := [(0, .ref a0), (1, .int a1)]) (st' := [.int 1, .int a1]) (mem' := mem) rfl ?_
  refine wq_lt2 rfl h (fun h => ?_) (fun h => ?_)
  · exact wq_end rfl rfl h
  · refine wp_run 2 (pc' := 8) (lv' := [(0, .ref a0), (1, .int a1)]) (st' := [.int 24, .int a1]) (mem' := mem) rfl ?_
    refine wq_le2 rfl h (fun h => ?_) (fun h => ?_)
    · exact wq_end rfl rfl h
    · refine wp_run 2 (pc' := 23) (lv' := [(0, .ref a0), (1, .int a1)]) (st' := [.ref a0, .int a1]) (mem' := mem) rfl ?_
      refine wq_gR rfl h (fun v23 h => ?_)
      refine wq_gR rfl h (fun v26 h => ?_)
      refine wq_gI rfl h (fun v29 h => ?_)
      refine wq_ne2 rfl h (fun h => ?_) (fun h => ?_)
      · refine wp_run 1 (pc' := 36) (lv' := [(0, .ref a0), (1, .int a1)]) (st' := [.ref a0]) (mem' := mem) rfl ?_
        refine wq_gR rfl h (fun v36 h => ?_)
        refine wq_gR rfl h (fun v39 h => ?_)
        refine wq_gI rfl h (fun v42 h => ?_)
        refine wq_ne rfl h (fun h => ?_) (fun h => ?_)
        · refine wp_run 2 (pc' := 53) (lv' := [(0, .ref a0), (1, .int a1)]) (st' := [.int 1]) (mem' := mem) rfl ?_
          exact m_K_bind_53_ok xm N _ _ _ mem R h
        · exact m_K_bind_52_ok xm N _ _ mem R h
      · exact m_K_bind_52_ok xm N _ _ mem R h
/-- KnitsteadLaw.bind(LKnitstead;ILKnitsteadLaw$Out;)I -/
def m_law_bind (xm : Nat → Option kE) (N : Nat) (a0 : Nat) (a1 : Int32) (a2 : Nat) (mem : kM) : dRes :=
  dRc xm mem a0 11 <|
  dCX (m_K_bind xm N a0 a1 mem) (fun v3 m3 =>
    dP xm m3 a2 12 0 (.long (Int32.toInt64 v3)) fun m7 =>
    some (.inl (some (.int 0)), m7)
  ) (fun E m3 => match E with
    | 0 =>
      some (.inl (some (.int 1)), m3)
    | 1 =>
      some (.inl (some (.int 2)), m3)
    | _ => none)
theorem m_law_bind_ok (xm : Nat → Option kE) (N : Nat) {a0 : Nat} {a1 : Int32} {a2 : Nat} {mem : kM} {R : kO × kM} (h : m_law_bind xm N a0 a1 a2 mem = some R) : kCa xm kSm kDfl kFty kG 8 249 [.ref a0, .int a1, .ref a2] mem (dEq R) := by
  refine wq_ca (show 3 ≤ 4 by decide) ?_
  change kGo xm kSm kDfl kFty kG 7 249 0 [(0, .ref a0), (1, .int a1), (2, .ref a2)] [] mem (dEq R)
  unfold m_law_bind at h
  refine wp_run 3 (pc' := 3) (lv' := [(0, .ref a0), (1, .int a1), (2, .ref a2)]) (st' := [.int a1, .ref a0, .ref a2]) (mem' := mem) rfl ?_
  obtain ⟨fk3, hk3, h⟩ := dRc_some h
  refine wq_cX rfl (kCall_v hk3 (as := [.int a1]) (rest := [.ref a2]) ⟨by decide, rfl, (show 1 < 90 by decide), by decide⟩ (show 1 ≤ 8 by decide)) h (fun r hr => ca_up (by decide) (m_K_bind_ok xm N hr)) (fun v3 m3 h => ?_) (fun E m3 h => ?_)
  · refine wp_run 1 (pc' := 7) (lv' := [(0, .ref a0), (1, .int a1), (2, .ref a2)]) (st' := [.long (Int32.toInt64 v3), .ref a2]) (mem' := m3) rfl ?_
    refine wq_p rfl rfl h (fun m7 h => ?_)
    refine wp_run 2 (pc' := 20) (lv' := [(0, .ref a0), (1, .int a1), (2, .ref a2)]) (st' := [.int 0]) (mem' := m7) rfl ?_
    exact wq_ret rfl rfl h
  · match E, h with
    | 0, h =>
      refine ⟨14, 3, rfl, ?_⟩
      change kGo xm kSm kDfl kFty kG 7 249 14 [(0, .ref a0), (1, .int a1), (2, .ref a2)] [] m3 (dEq R)
      refine wp_run 1 (pc' := 15) (lv' := [(0, .ref a0), (1, .int a1), (2, .ref a2)]) (st' := [.int 1]) (mem' := m3) rfl ?_
      exact wq_ret rfl rfl h
    | 1, h =>
      refine ⟨17, 3, rfl, ?_⟩
      change kGo xm kSm kDfl kFty kG 7 249 17 [(0, .ref a0), (1, .int a1), (2, .ref a2)] [] m3 (dEq R)
      refine wp_run 1 (pc' := 18) (lv' := [(0, .ref a0), (1, .int a1), (2, .ref a2)]) (st' := [.int 2]) (mem' := m3) rfl ?_
      exact wq_ret rfl rfl h
    | 2, h => cases h
    | (k + 3), h => cases h
