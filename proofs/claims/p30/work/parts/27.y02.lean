set_option maxRecDepth 20000
section
variable {z : Value}
/-- Knitstead.isSmooth(I)Z -/
def m_K_isSmooth_24 (xm : Nat → Option kE) (N : Nat) (a0 : Nat) (a1 : Int32) (s0 : Int32) (mem : kM) : dRes :=
  dRc xm mem a0 11 <|
  dCI (m_K_isAsMade xm N a0 a1 mem) fun v28 m28 =>
  if s0 = v28 then (
    some (.inl (some (.int 1)), m28)
  ) else (
    some (.inl (some (.int 0)), m28)
  )
theorem m_K_isSmooth_24_ok (hz : z.category = 1) (xm : Nat → Option kE) (N : Nat) : ∀ (a0 : Nat) (a1 : Int32) (s0 : Int32) (mem : kM) (R : kO × kM), m_K_isSmooth_24 xm N a0 a1 s0 mem = some R → kGo xm (kSm z) kDfl kFty kG 3 92 24 [(0, .ref a0), (1, .int a1)] [.int s0] mem (dEq R) := by
  intro a0 a1 s0 mem R h
  unfold m_K_isSmooth_24 at h
  refine wp_run 4 (pc' := 28) (lv' := [(3, .int s0), (0, .ref a0), (1, .int a1)]) (st' := [.int a1, .ref a0, .int s0]) (mem' := mem) rfl ?_
  obtain ⟨fk28, hk28, h⟩ := dRc_some h
  refine wq_cI rfl (kCall_v hk28 (as := [.int a1]) (rest := [.int s0]) ⟨by decide, rfl, (show 1 < 90 by decide), by decide⟩ (show 1 ≤ 8 by decide)) h (fun r hr => ca_up (by decide) (m_K_isAsMade_ok hz xm N hr)) (fun v28 m28 h => ?_)
  refine wq_ne2 rfl h (fun h => ?_) (fun h => ?_)
  · refine wp_run 2 (pc' := 39) (lv' := [(3, .int s0), (0, .ref a0), (1, .int a1)]) (st' := [.int 1]) (mem' := m28) rfl ?_
    exact wq_ret rfl rfl h
  · refine wp_run 1 (pc' := 39) (lv' := [(3, .int s0), (0, .ref a0), (1, .int a1)]) (st' := [.int 0]) (mem' := m28) rfl ?_
    exact wq_ret rfl rfl h
def m_K_isSmooth_23 (xm : Nat → Option kE) (N : Nat) (a0 : Nat) (a1 : Int32) (mem : kM) : dRes :=
  m_K_isSmooth_24 xm N a0 a1 0 mem
theorem m_K_isSmooth_23_ok (hz : z.category = 1) (xm : Nat → Option kE) (N : Nat) : ∀ (a0 : Nat) (a1 : Int32) (mem : kM) (R : kO × kM), m_K_isSmooth_23 xm N a0 a1 mem = some R → kGo xm (kSm z) kDfl kFty kG 3 92 23 [(0, .ref a0), (1, .int a1)] [] mem (dEq R) := by
  intro a0 a1 mem R h
  unfold m_K_isSmooth_23 at h
  refine wp_run 1 (pc' := 24) (lv' := [(0, .ref a0), (1, .int a1)]) (st' := [.int 0]) (mem' := mem) rfl ?_
  exact m_K_isSmooth_24_ok hz xm N _ _ _ mem R h
def m_K_isSmooth (xm : Nat → Option kE) (N : Nat) (a0 : Nat) (a1 : Int32) (mem : kM) : dRes :=
  dGR xm mem a0 11 2 fun v1 =>
  dRc xm mem v1 8 <|
  dCI (m_Table_get xm N v1 a1 0 mem) fun v6 m6 =>
  if v6 = 0 then (
    m_K_isSmooth_23 xm N a0 a1 m6
  ) else (
    if v6 = 2 then (
      m_K_isSmooth_23 xm N a0 a1 m6
    ) else (
      m_K_isSmooth_24 xm N a0 a1 1 m6
    )
  )
theorem m_K_isSmooth_ok (hz : z.category = 1) (xm : Nat → Option kE) (N : Nat) {a0 : Nat} {a1 : Int32} {mem : kM} {R : kO × kM} (h : m_K_isSmooth xm N a0 a1 mem = some R) : kCa xm (kSm z) kDfl kFty kG 4 92 [.ref a0, .int a1] mem (dEq R) := by
  refine wq_ca (show 2 ≤ 4 by decide) ?_
  change kGo xm (kSm z) kDfl kFty kG 3 92 0 [(0, .ref a0), (1, .int a1)] [] mem (dEq R)
  unfold m_K_isSmooth at h
  refine wp_run 1 (pc' := 1) (lv' := [(0, .ref a0), (1, .int a1)]) (st' := [.ref a0]) (mem' := mem) rfl ?_
  refine wq_gR rfl h (fun v1 h => ?_)
  refine wp_run 2 (pc' := 6) (lv' := [(0, .ref a0), (1, .int a1)]) (st' := [.int 0, .int a1, .ref v1]) (mem' := mem) rfl ?_
  obtain ⟨fk6, hk6, h⟩ := dRc_some h
  refine wq_cI rfl (kCall_v hk6 (as := [.int a1, .int 0]) (rest := []) ⟨by decide, rfl, (show 2 < 90 by decide), by decide⟩ (show 0 ≤ 8 by decide)) h (fun r hr => ca_up (by decide) (m_Table_get_ok hz xm N hr)) (fun v6 m6 h => ?_)
  refine wp_run 2 (pc' := 11) (lv' := [(2, .int v6), (0, .ref a0), (1, .int a1)]) (st' := [.int v6]) (mem' := m6) rfl ?_
  refine wq_eq rfl h (fun h => ?_) (fun h => ?_)
  · refine kGo_sub (lvS_of [1, 2] rfl [2, 0, 1] rfl (by decide)) ?_
    exact m_K_isSmooth_23_ok hz xm N _ _ m6 R h
  · refine wp_run 2 (pc' := 16) (lv' := [(2, .int v6), (0, .ref a0), (1, .int a1)]) (st' := [.int 2, .int v6]) (mem' := m6) rfl ?_
    refine wq_eq2 rfl h (fun h => ?_) (fun h => ?_)
    · refine kGo_sub (lvS_of [1, 2] rfl [2, 0, 1] rfl (by decide)) ?_
      exact m_K_isSmooth_23_ok hz xm N _ _ m6 R h
    · refine wp_run 2 (pc' := 24) (lv' := [(2, .int v6), (0, .ref a0), (1, .int a1)]) (st' := [.int 1]) (mem' := m6) rfl ?_
      refine kGo_sub (lvS_of [1, 2] rfl [2, 0, 1] rfl (by decide)) ?_
      exact m_K_isSmooth_24_ok hz xm N _ _ _ m6 R h
/-- Knitstead.widthOf(LKnitstead$Needle;)F -/
def m_K_widthOf_49 (xm : Nat → Option kE) (N : Nat) (K12 : Nat → Nat → UInt32 → Int32 → kM → dRes) (a0 : Nat) (a1 : Nat) (a2 : UInt32) (a3 : Int32) (mem : kM) : dRes :=
  K12 a0 a1 a2 (a3 + 1) mem
theorem m_K_widthOf_49_ok (hz : z.category = 1) (xm : Nat → Option kE) (N : Nat) (K12 : Nat → Nat → UInt32 → Int32 → kM → dRes) (hK12 : ∀ (a0 : Nat) (a1 : Nat) (a2 : UInt32) (a3 : Int32) (mem : kM) (R : kO × kM), K12 a0 a1 a2 a3 mem = some R → kGo xm (kSm z) kDfl kFty kG 4 94 12 [(0, .ref a0), (1, .ref a1), (2, .float a2), (3, .int a3)] [] mem (dEq R)) : ∀ (a0 : Nat) (a1 : Nat) (a2 : UInt32) (a3 : Int32) (mem : kM) (R : kO × kM), m_K_widthOf_49 xm N K12 a0 a1 a2 a3 mem = some R → kGo xm (kSm z) kDfl kFty kG 4 94 49 [(0, .ref a0), (1, .ref a1), (2, .float a2), (3, .int a3)] [] mem (dEq R) := by
  intro a0 a1 a2 a3 mem R h
  unfold m_K_widthOf_49 at h
  refine wp_run 2 (pc' := 12) (lv' := [(3, .int (a3 + 1)), (0, .ref a0), (1, .ref a1), (2, .float a2)]) (st' := []) (mem' := mem) rfl ?_
  refine kGo_sub (lvS_of [1, 2, 3, 0] rfl [3, 0, 1, 2] rfl (by decide)) ?_
  exact hK12 _ _ _ _ mem R h
def m_K_widthOf_12 (xm : Nat → Option kE) (N : Nat) : Nat → Nat → Nat → UInt32 → Int32 → kM → dRes
  | 0, _, _, _, _, _ => none
  | n + 1, a0, a1, a2, a3, mem =>
    dGI xm mem a1 7 1 fun v14 =>
    if a3 < v14 then (
      dRc xm mem a1 7 <|
      dCI (m_Needle_at xm N a1 (a3 - 1) mem) fun v25 m25 =>
      dRc xm m25 a0 11 <|
      dCI (m_K_isSmooth xm N a0 v25 m25) fun v28 m28 =>
      dRc xm m28 a1 7 <|
      dCI (m_Needle_at xm N a1 a3 m28) fun v34 m34 =>
      dRc xm m34 a0 11 <|
      dCI (m_K_isSmooth xm N a0 v34 m34) fun v37 m37 =>
      if v28 = v37 then (
        m_K_widthOf_49 xm N (fun a0 a1 a2 a3 mem => m_K_widthOf_12 xm N n a0 a1 a2 a3 mem) a0 a1 a2 a3 m37
      ) else (
        dF32 (FP.fsub a2 1040187392) fun v47 =>
        m_K_widthOf_49 xm N (fun a0 a1 a2 a3 mem => m_K_widthOf_12 xm N n a0 a1 a2 a3 mem) a0 a1 v47 a3 m37
      )
    ) else (
      some (.inl (some (.float a2)), mem)
    )
theorem m_K_widthOf_12_ok (hz : z.category = 1) (xm : Nat → Option kE) (N : Nat) : ∀ (n : Nat) (a0 : Nat) (a1 : Nat) (a2 : UInt32) (a3 : Int32) (mem : kM) (R : kO × kM), m_K_widthOf_12 xm N n a0 a1 a2 a3 mem = some R → kGo xm (kSm z) kDfl kFty kG 4 94 12 [(0, .ref a0), (1, .ref a1), (2, .float a2), (3, .int a3)] [] mem (dEq R) := by
  intro n
  induction n with
  | zero => intro a0 a1 a2 a3 mem R h; cases h
  | succ n ih =>
    intro a0 a1 a2 a3 mem R h
    rw [m_K_widthOf_12] at h
    refine wp_run 2 (pc' := 14) (lv' := [(0, .ref a0), (1, .ref a1), (2, .float a2), (3, .int a3)]) (st' := [.ref a1, .int a3]) (mem' := mem) rfl ?_
    refine wq_gI rfl h (fun v14 h => ?_)
    refine wq_ge2 rfl h (fun h => ?_) (fun h => ?_)
    · refine wp_run 5 (pc' := 25) (lv' := [(0, .ref a0), (1, .ref a1), (2, .float a2), (3, .int a3)]) (st' := [.int (a3 - 1), .ref a1, .ref a0]) (mem' := mem) rfl ?_
      obtain ⟨fk25, hk25, h⟩ := dRc_some h
      refine wq_cI rfl (kCall_v hk25 (as := [.int (a3 - 1)]) (rest := [.ref a0]) ⟨by decide, rfl, (show 1 < 90 by decide), by decide⟩ (show 1 ≤ 8 by decide)) h (fun r hr => ca_up (by decide) (m_Needle_at_ok hz xm N hr)) (fun v25 m25 h => ?_)
      obtain ⟨fk28, hk28, h⟩ := dRc_some h
      refine wq_cI rfl (kCall_v hk28 (as := [.int v25]) (rest := []) ⟨by decide, rfl, (show 1 < 90 by decide), by decide⟩ (show 0 ≤ 8 by decide)) h (fun r hr => ca_up (by decide) (m_K_isSmooth_ok hz xm N hr)) (fun v28 m28 h => ?_)
      refine wp_run 3 (pc' := 34) (lv' := [(0, .ref a0), (1, .ref a1), (2, .float a2), (3, .int a3)]) (st' := [.int a3, .ref a1, .ref a0, .int v28]) (mem' := m28) rfl ?_
      obtain ⟨fk34, hk34, h⟩ := dRc_some h
      refine wq_cI rfl (kCall_v hk34 (as := [.int a3]) (rest := [.ref a0, .int v28]) ⟨by decide, rfl, (show 1 < 90 by decide), by decide⟩ (show 2 ≤ 8 by decide)) h (fun r hr => ca_up (by decide) (m_Needle_at_ok hz xm N hr)) (fun v34 m34 h => ?_)
      obtain ⟨fk37, hk37, h⟩ := dRc_some h
      refine wq_cI rfl (kCall_v hk37 (as := [.int v34]) (rest := [.int v28]) ⟨by decide, rfl, (show 1 < 90 by decide), by decide⟩ (show 1 ≤ 8 by decide)) h (fun r hr => ca_up (by decide) (m_K_isSmooth_ok hz xm N hr)) (fun v37 m37 h => ?_)
      refine wq_eq2 rfl h (fun h => ?_) (fun h => ?_)
      · exact m_K_widthOf_49_ok hz xm N _ ih _ _ _ _ m37 R h
      · refine wp_run 2 (pc' := 47) (lv' := [(0, .ref a0), (1, .ref a1), (2, .float a2), (3, .int a3)]) (st' := [.float 1040187392, .float a2]) (mem' := m37) rfl ?_
        refine wq_fsub rfl h (fun v47 h => ?_)
        refine wp_run 1 (pc' := 49) (lv' := [(2, .float v47), (0, .ref a0), (1, .ref a1), (3, .int a3)]) (st' := []) (mem' := m37) rfl ?_
        refine kGo_sub (lvS_of [1, 2, 0, 3] rfl [2, 0, 1, 3] rfl (by decide)) ?_
        exact m_K_widthOf_49_ok hz xm N _ ih _ _ _ _ m37 R h
    · refine wp_run 1 (pc' := 56) (lv' := [(0, .ref a0), (1, .ref a1), (2, .float a2), (3, .int a3)]) (st' := [.float a2]) (mem' := mem) rfl ?_
      exact wq_end rfl rfl h
def m_K_widthOf (xm : Nat → Option kE) (N : Nat) (a0 : Nat) (a1 : Nat) (mem : kM) : dRes :=
  dGI xm mem a1 7 1 fun v4 =>
  dF32 (FP.fmul 1056964608 (FP.i2f v4)) fun v8 =>
  m_K_widthOf_12 xm N N a0 a1 v8 1 mem
theorem m_K_widthOf_ok (hz : z.category = 1) (xm : Nat → Option kE) (N : Nat) {a0 : Nat} {a1 : Nat} {mem : kM} {R : kO × kM} (h : m_K_widthOf xm N a0 a1 mem = some R) : kCa xm (kSm z) kDfl kFty kG 5 94 [.ref a0, .ref a1] mem (dEq R) := by
  refine wq_ca (show 2 ≤ 4 by decide) ?_
  change kGo xm (kSm z) kDfl kFty kG 4 94 0 [(0, .ref a0), (1, .ref a1)] [] mem (dEq R)
  unfold m_K_widthOf at h
  refine wp_run 2 (pc' := 4) (lv' := [(0, .ref a0), (1, .ref a1)]) (st' := [.ref a1, .float 1056964608]) (mem' := mem) rfl ?_
  refine wq_gI rfl h (fun v4 h => ?_)
  refine wp_run 1 (pc' := 8) (lv' := [(0, .ref a0), (1, .ref a1)]) (st' := [.float (FP.i2f v4), .float 1056964608]) (mem' := mem) rfl ?_
  refine wq_fmul rfl h (fun v8 h => ?_)
  refine wp_run 3 (pc' := 12) (lv' := [(3, .int 1), (2, .float v8), (0, .ref a0), (1, .ref a1)]) (st' := []) (mem' := mem) rfl ?_
  refine kGo_sub (lvS_of [2, 3, 1, 0] rfl [3, 2, 0, 1] rfl (by decide)) ?_
  exact m_K_widthOf_12_ok hz xm N N _ _ _ _ mem R h
/-- Knitstead.width(Z)D -/
def m_K_width (xm : Nat → Option kE) (N : Nat) (a0 : Nat) (a1 : Int32) (mem : kM) : dRes :=
  dRc xm mem a0 11 <|
  dCR (m_K_needle xm N a0 a1 mem) fun v3 m3 =>
  dRc xm m3 a0 11 <|
  dCF (m_K_widthOf xm N a0 v3 m3) fun v6 m6 =>
  dF64 (FP.f2d v6) fun v9 =>
  some (.inl (some (.double v9)), m6)
theorem m_K_width_ok (hz : z.category = 1) (xm : Nat → Option kE) (N : Nat) {a0 : Nat} {a1 : Int32} {mem : kM} {R : kO × kM} (h : m_K_width xm N a0 a1 mem = some R) : kCa xm (kSm z) kDfl kFty kG 6 59 [.ref a0, .int a1] mem (dEq R) := by
  refine wq_ca (show 2 ≤ 2 by decide) ?_
  change kGo xm (kSm z) kDfl kFty kG 5 59 0 [(0, .ref a0), (1, .int a1)] [] mem (dEq R)
  unfold m_K_width at h
  refine wp_run 3 (pc' := 3) (lv' := [(0, .ref a0), (1, .int a1)]) (st' := [.int a1, .ref a0, .ref a0]) (mem' := mem) rfl ?_
  obtain ⟨fk3, hk3, h⟩ := dRc_some h
  refine wq_cR rfl (kCall_v hk3 (as := [.int a1]) (rest := [.ref a0]) ⟨by decide, rfl, (show 1 < 90 by decide), by decide⟩ (show 1 ≤ 8 by decide)) h (fun r hr => ca_up (by decide) (m_K_needle_ok hz xm N hr)) (fun v3 m3 h => ?_)
  obtain ⟨fk6, hk6, h⟩ := dRc_some h
  refine wq_cF rfl (kCall_v hk6 (as := [.ref v3]) (rest := []) ⟨by decide, rfl, (show 1 < 90 by decide), by decide⟩ (show 0 ≤ 8 by decide)) h (fun r hr => ca_up (by decide) (m_K_widthOf_ok hz xm N hr)) (fun v6 m6 h => ?_)
  refine wq_f2d rfl h (fun v9 h => ?_)
  exact wq_end rfl rfl h
/-- Knitstead$Balls.ofAll()I -/
def m_Balls_ofAll_4 (xm : Nat → Option kE) (N : Nat) : Nat → Nat → Int32 → Int32 → kM → dRes
  | 0, _, _, _, _ => none
  | n + 1, a0, a1, a2, mem =>
    dGI xm mem a0 5 1 fun v6 =>
    if a2 < v6 then (
      dRc xm mem a0 5 <|
      dCI (m_Balls_of xm N a0 a2 mem) fun v15 m15 =>
      m_Balls_ofAll_4 xm N n a0 (a1 + v15) (a2 + 1) m15
    ) else (
      some (.inl (some (.int a1)), mem)
    )
theorem m_Balls_ofAll_4_ok (hz : z.category = 1) (xm : Nat → Option kE) (N : Nat) : ∀ (n : Nat) (a0 : Nat) (a1 : Int32) (a2 : Int32) (mem : kM) (R : kO × kM), m_Balls_ofAll_4 xm N n a0 a1 a2 mem = some R → kGo xm (kSm z) kDfl kFty kG 2 8 4 [(0, .ref a0), (1, .int a1), (2, .int a2)] [] mem (dEq R) := by
  intro n
  induction n with
  | zero => intro a0 a1 a2 mem R h; cases h
  | succ n ih =>
    intro a0 a1 a2 mem R h
    rw [m_Balls_ofAll_4] at h
    refine wp_run 2 (pc' := 6) (lv' := [(0, .ref a0), (1, .int a1), (2, .int a2)]) (st' := [.ref a0, .int a2]) (mem' := mem) rfl ?_
    refine wq_gI rfl h (fun v6 h => ?_)
    refine wq_ge2 rfl h (fun h => ?_) (fun h => ?_)
    · refine wp_run 3 (pc' := 15) (lv' := [(0, .ref a0), (1, .int a1), (2, .int a2)]) (st' := [.int a2, .ref a0, .int a1]) (mem' := mem) rfl ?_
      obtain ⟨fk15, hk15, h⟩ := dRc_some h
      refine wq_cI rfl (kCall_v hk15 (as := [.int a2]) (rest := [.int a1]) ⟨by decide, rfl, (show 1 < 90 by decide), by decide⟩ (show 1 ≤ 8 by decide)) h (fun r hr => ca_up (by decide) (m_Balls_of_ok hz xm N hr)) (fun v15 m15 h => ?_)
      refine wp_run 4 (pc' := 4) (lv' := [(2, .int (a2 + 1)), (1, .int (a1 + v15)), (0, .ref a0)]) (st' := []) (mem' := m15) rfl ?_
      refine kGo_sub (lvS_of [2, 1, 0] rfl [2, 1, 0] rfl (by decide)) ?_
      exact ih _ _ _ m15 R h
    · refine wp_run 1 (pc' := 27) (lv' := [(0, .ref a0), (1, .int a1), (2, .int a2)]) (st' := [.int a1]) (mem' := mem) rfl ?_
      exact wq_ret rfl rfl h
def m_Balls_ofAll (xm : Nat → Option kE) (N : Nat) (a0 : Nat) (mem : kM) : dRes :=
  m_Balls_ofAll_4 xm N N a0 0 0 mem
theorem m_Balls_ofAll_ok (hz : z.category = 1) (xm : Nat → Option kE) (N : Nat) {a0 : Nat} {mem : kM} {R : kO × kM} (h : m_Balls_ofAll xm N a0 mem = some R) : kCa xm (kSm z) kDfl kFty kG 3 8 [.ref a0] mem (dEq R) := by
  refine wq_ca (show 1 ≤ 3 by decide) ?_
  change kGo xm (kSm z) kDfl kFty kG 2 8 0 [(0, .ref a0)] [] mem (dEq R)
  unfold m_Balls_ofAll at h
  refine wp_run 4 (pc' := 4) (lv' := [(2, .int 0), (1, .int 0), (0, .ref a0)]) (st' := []) (mem' := mem) rfl ?_
  refine kGo_sub (lvS_of [2, 1, 0] rfl [2, 1, 0] rfl (by decide)) ?_
  exact m_Balls_ofAll_4_ok hz xm N N _ _ _ mem R h
/-- Knitstead$Work.openRuns()I -/
def m_Work_openRuns_23 (xm : Nat → Option kE) (N : Nat) (K4 : Nat → Int32 → Int32 → kM → dRes) (a0 : Nat) (a1 : Int32) (a2 : Int32) (mem : kM) : dRes :=
  K4 a0 a1 (a2 + 1) mem
theorem m_Work_openRuns_23_ok (hz : z.category = 1) (xm : Nat → Option kE) (N : Nat) (K4 : Nat → Int32 → Int32 → kM → dRes) (hK4 : ∀ (a0 : Nat) (a1 : Int32) (a2 : Int32) (mem : kM) (R : kO × kM), K4 a0 a1 a2 mem = some R → kGo xm (kSm z) kDfl kFty kG 3 35 4 [(0, .ref a0), (1, .int a1), (2, .int a2)] [] mem (dEq R)) : ∀ (a0 : Nat) (a1 : Int32) (a2 : Int32) (mem : kM) (R : kO × kM), m_Work_openRuns_23 xm N K4 a0 a1 a2 mem = some R → kGo xm (kSm z) kDfl kFty kG 3 35 23 [(0, .ref a0), (1, .int a1), (2, .int a2)] [] mem (dEq R) := by
  intro a0 a1 a2 mem R h
  unfold m_Work_openRuns_23 at h
  refine wp_run 2 (pc' := 4) (lv' := [(2, .int (a2 + 1)), (0, .ref a0), (1, .int a1)]) (st' := []) (mem' := mem) rfl ?_
  refine kGo_sub (lvS_of [1, 2, 0] rfl [2, 0, 1] rfl (by decide)) ?_
  exact hK4 _ _ _ mem R h
def m_Work_openRuns_4 (xm : Nat → Option kE) (N : Nat) : Nat → Nat → Int32 → Int32 → kM → dRes
  | 0, _, _, _, _ => none
  | n + 1, a0, a1, a2, mem =>
    dGI xm mem a0 10 3 fun v6 =>
    if a2 < v6 then (
      dRc xm mem a0 10 <|
      dCI (m_Work_isOpen xm N a0 a2 mem) fun v14 m14 =>
      if v14 = 0 then (
        m_Work_openRuns_23 xm N (fun a0 a1 a2 mem => m_Work_openRuns_4 xm N n a0 a1 a2 mem) a0 a1 a2 m14
      ) else (
        m_Work_openRuns_23 xm N (fun a0 a1 a2 mem => m_Work_openRuns_4 xm N n a0 a1 a2 mem) a0 (a1 + 1) a2 m14
      )
    ) else (
      some (.inl (some (.int a1)), mem)
    )
theorem m_Work_openRuns_4_ok (hz : z.category = 1) (xm : Nat → Option kE) (N : Nat) : ∀ (n : Nat) (a0 : Nat) (a1 : Int32) (a2 : Int32) (mem : kM) (R : kO × kM), m_Work_openRuns_4 xm N n a0 a1 a2 mem = some R → kGo xm (kSm z) kDfl kFty kG 3 35 4 [(0, .ref a0), (1, .int a1), (2, .int a2)] [] mem (dEq R) := by
  intro n
  induction n with
  | zero => intro a0 a1 a2 mem R h; cases h
  | succ n ih =>
    intro a0 a1 a2 mem R h
    rw [m_Work_openRuns_4] at h
    refine wp_run 2 (pc' := 6) (lv' := [(0, .ref a0), (1, .int a1), (2, .int a2)]) (st' := [.ref a0, .int a2]) (mem' := mem) rfl ?_
    refine wq_gI rfl h (fun v6 h => ?_)
    refine wq_ge2 rfl h (fun h => ?_) (fun h => ?_)
    · refine wp_run 2 (pc' := 14) (lv' := [(0, .ref a0), (1, .int a1), (2, .int a2)]) (st' := [.int a2, .ref a0]) (mem' := mem) rfl ?_
      obtain ⟨fk14, hk14, h⟩ := dRc_some h
      refine wq_cI rfl (kCall_v hk14 (as := [.int a2]) (rest := []) ⟨by decide, rfl, (show 1 < 90 by decide), by decide⟩ (show 0 ≤ 8 by decide)) h (fun r hr => ca_up (by decide) (m_Work_isOpen_ok hz xm N hr)) (fun v14 m14 h => ?_)
      refine wq_eq rfl h (fun h => ?_) (fun h => ?_)
      · exact m_Work_openRuns_23_ok hz xm N _ ih _ _ _ m14 R h
      · refine wp_run 1 (pc' := 23) (lv' := [(1, .int (a1 + 1)), (0, .ref a0), (2, .int a2)]) (st' := []) (mem' := m14) rfl ?_
        refine kGo_sub (lvS_of [1, 0, 2] rfl [1, 0, 2] rfl (by decide)) ?_
        exact m_Work_openRuns_23_ok hz xm N _ ih _ _ _ m14 R h
    · refine wp_run 1 (pc' := 30) (lv' := [(0, .ref a0), (1, .int a1), (2, .int a2)]) (st' := [.int a1]) (mem' := mem) rfl ?_
      exact wq_ret rfl rfl h
def m_Work_openRuns (xm : Nat → Option kE) (N : Nat) (a0 : Nat) (mem : kM) : dRes :=
  m_Work_openRuns_4 xm N N a0 0 0 mem
theorem m_Work_openRuns_ok (hz : z.category = 1) (xm : Nat → Option kE) (N : Nat) {a0 : Nat} {mem : kM} {R : kO × kM} (h : m_Work_openRuns xm N a0 mem = some R) : kCa xm (kSm z) kDfl kFty kG 4 35 [.ref a0] mem (dEq R) := by
  refine wq_ca (show 1 ≤ 3 by decide) ?_
  change kGo xm (kSm z) kDfl kFty kG 3 35 0 [(0, .ref a0)] [] mem (dEq R)
  unfold m_Work_openRuns at h
  refine wp_run 4 (pc' := 4) (lv' := [(2, .int 0), (1, .int 0), (0, .ref a0)]) (st' := []) (mem' := mem) rfl ?_
  refine kGo_sub (lvS_of [2, 1, 0] rfl [2, 1, 0] rfl (by decide)) ?_
  exact m_Work_openRuns_4_ok hz xm N N _ _ _ mem R h
/-- Knitstead.number(I)I -/
def m_K_number (xm : Nat → Option kE) (N : Nat) (a0 : Nat) (a1 : Int32) (mem : kM) : dRes :=
  dSw a1 0 14 (
    dGR xm mem a0 11 5 fun v202 =>
    dGI xm mem v202 6 4 fun v205 =>
    some (.inl (some (.int v205)), mem)
  ) [
  (
    dGR xm mem a0 11 0 fun v77 =>
    dGI xm mem v77 5 1 fun v80 =>
    some (.inl (some (.int v80)), mem)
  ),
  (
    dGR xm mem a0 11 0 fun v85 =>
    dRc xm mem v85 5 <|
    dCI (m_Balls_ofAll xm N v85 mem) fun v88 m88 =>
    some (.inl (some (.int v88)), m88)
  ),
  (
    dGR xm mem a0 11 0 fun v93 =>
    dGI xm mem v93 5 2 fun v96 =>
    some (.inl (some (.int v96)), mem)
  ),
  (
    dGR xm mem a0 11 1 fun v101 =>
    dGR xm mem v101 10 0 fun v104 =>
    dGI xm mem v104 7 1 fun v107 =>
    some (.inl (some (.int v107)), mem)
  ),
  (
    dGR xm mem a0 11 1 fun v112 =>
    dGR xm mem v112 10 1 fun v115 =>
    dGI xm mem v115 7 1 fun v118 =>
    some (.inl (some (.int v118)), mem)
  ),
  (
    dGR xm mem a0 11 1 fun v123 =>
    dGI xm mem v123 10 5 fun v126 =>
    some (.inl (some (.int (v126 &&& 1))), mem)
  ),
  (
    dGR xm mem a0 11 1 fun v133 =>
    dGI xm mem v133 10 5 fun v136 =>
    some (.inl (some (.int v136)), mem)
  ),
  (
    dGR xm mem a0 11 1 fun v141 =>
    dGI xm mem v141 10 4 fun v144 =>
    some (.inl (some (.int v144)), mem)
  ),
  (
    dGR xm mem a0 11 1 fun v149 =>
    dGI xm mem v149 10 6 fun v152 =>
    some (.inl (some (.int v152)), mem)
  ),
  (
    dGR xm mem a0 11 1 fun v157 =>
    dGI xm mem v157 10 7 fun v160 =>
    some (.inl (some (.int v160)), mem)
  ),
  (
    dGR xm mem a0 11 1 fun v165 =>
    dGI xm mem v165 10 8 fun v168 =>
    some (.inl (some (.int v168)), mem)
  ),
  (
    dGR xm mem a0 11 1 fun v173 =>
    dGI xm mem v173 10 9 fun v176 =>
    some (.inl (some (.int v176)), mem)
  ),
  (
    dGR xm mem a0 11 1 fun v181 =>
    dGI xm mem v181 10 3 fun v184 =>
    some (.inl (some (.int v184)), mem)
  ),
  (
    dGR xm mem a0 11 1 fun v189 =>
    dRc xm mem v189 10 <|
    dCI (m_Work_openRuns xm N v189 mem) fun v192 m192 =>
    some (.inl (some (.int v192)), m192)
  ),
  (
    dGI xm mem a0 11 7 fun v197 =>
    some (.inl (some (.int v197)), mem)
  )
  ]
theorem m_K_number_ok (hz : z.category = 1) (xm : Nat → Option kE) (N : Nat) {a0 : Nat} {a1 : Int32} {mem : kM} {R : kO × kM} (h : m_K_number xm N a0 a1 mem = some R) : kCa xm (kSm z) kDfl kFty kG 5 95 [.ref a0, .int a1] mem (dEq R) := by
  refine wq_ca (show 2 ≤ 2 by decide) ?_
  change kGo xm (kSm z) kDfl kFty kG 4 95 0 [(0, .ref a0), (1, .int a1)] [] mem (dEq R)
  unfold m_K_number at h
  refine wp_run 1 (pc' := 1) (lv' := [(0, .ref a0), (1, .int a1)]) (st' := [.int a1]) (mem' := mem) rfl ?_
  refine wq_sw rfl h rfl (fun h => ?_) (And.intro (fun h => ?_) (And.intro (fun h => ?_) (And.intro (fun h => ?_) (And.intro (fun h => ?_) (And.intro (fun h => ?_) (And.intro (fun h => ?_) (And.intro (fun h => ?_) (And.intro (fun h => ?_) (And.intro (fun h => ?_) (And.intro (fun h => ?_) (And.intro (fun h => ?_) (And.intro (fun h => ?_) (And.intro (fun h => ?_) (And.intro (fun h => ?_) (And.intro (fun h => ?_) (True.intro))))))))))))))))
  · change kGo xm (kSm z) kDfl kFty kG 4 95 201 [(0, .ref a0), (1, .int a1)] [] mem (dEq R)
    refine wp_run 1 (pc' := 202) (lv' := [(0, .ref a0), (1, .int a1)]) (st' := [.ref a0]) (mem' := mem) rfl ?_
    refine wq_gR rfl h (fun v202 h => ?_)
    refine wq_gI rfl h (fun v205 h => ?_)
    exact wq_ret rfl rfl h
  · change kGo xm (kSm z) kDfl kFty kG 4 95 76 [(0, .ref a0), (1, .int a1)] [] mem (dEq R)
    refine wp_run 1 (pc' := 77) (lv' := [(0, .ref a0), (1, .int a1)]) (st' := [.ref a0]) (mem' := mem) rfl ?_
    refine wq_gR rfl h (fun v77 h => ?_)
    refine wq_gI rfl h (fun v80 h => ?_)
    exact wq_ret rfl rfl h
  · change kGo xm (kSm z) kDfl kFty kG 4 95 84 [(0, .ref a0), (1, .int a1)] [] mem (dEq R)
    refine wp_run 1 (pc' := 85) (lv' := [(0, .ref a0), (1, .int a1)]) (st' := [.ref a0]) (mem' := mem) rfl ?_
    refine wq_gR rfl h (fun v85 h => ?_)
    obtain ⟨fk88, hk88, h⟩ := dRc_some h
    refine wq_cI rfl (kCall_v hk88 (as := []) (rest := []) ⟨by decide, rfl, (show 0 < 90 by decide), by decide⟩ (show 0 ≤ 8 by decide)) h (fun r hr => ca_up (by decide) (m_Balls_ofAll_ok hz xm N hr)) (fun v88 m88 h => ?_)
    exact wq_ret rfl rfl h
  · change kGo xm (kSm z) kDfl kFty kG 4 95 92 [(0, .ref a0), (1, .int a1)] [] mem (dEq R)
    refine wp_run 1 (pc' := 93) (lv' := [(0, .ref a0), (1, .int a1)]) (st' := [.ref a0]) (mem' := mem) rfl ?_
    refine wq_gR rfl h (fun v93 h => ?_)
    refine wq_gI rfl h (fun v96 h => ?_)
    exact wq_ret rfl rfl h
  · change kGo xm (kSm z) kDfl kFty kG 4 95 100 [(0, .ref a0), (1, .int a1)] [] mem (dEq R)
    refine wp_run 1 (pc' := 101) (lv' := [(0, .ref a0), (1, .int a1)]) (st' := [.ref a0]) (mem' := mem) rfl ?_
    refine wq_gR rfl h (fun v101 h => ?_)
    refine wq_gR rfl h (fun v104 h => ?_)
    refine wq_gI rfl h (fun v107 h => ?_)
    exact wq_ret rfl rfl h
  · change kGo xm (kSm z) kDfl kFty kG 4 95 111 [(0, .ref a0), (1, .int a1)] [] mem (dEq R)
    refine wp_run 1 (pc' := 112) (lv' := [(0, .ref a0), (1, .int a1)]) (st' := [.ref a0]) (mem' := mem) rfl ?_
    refine wq_gR rfl h (fun v112 h => ?_)
    refine wq_gR rfl h (fun v115 h => ?_)
    refine wq_gI rfl h (fun v118 h => ?_)
    exact wq_ret rfl rfl h
  · change kGo xm (kSm z) kDfl kFty kG 4 95 122 [(0, .ref a0), (1, .int a1)] [] mem (dEq R)
    refine wp_run 1 (pc' := 123) (lv' := [(0, .ref a0), (1, .int a1)]) (st' := [.ref a0]) (mem' := mem) rfl ?_
    refine wq_gR rfl h (fun v123 h => ?_)
    refine wq_gI rfl h (fun v126 h => ?_)
    refine wp_run 2 (pc' := 131) (lv' := [(0, .ref a0), (1, .int a1)]) (st' := [.int (v126 &&& 1)]) (mem' := mem) rfl ?_
    exact wq_ret rfl rfl h
  · change kGo xm (kSm z) kDfl kFty kG 4 95 132 [(0, .ref a0), (1, .int a1)] [] mem (dEq R)
    refine wp_run 1 (pc' := 133) (lv' := [(0, .ref a0), (1, .int a1)]) (st' := [.ref a0]) (mem' := mem) rfl ?_
    refine wq_gR rfl h (fun v133 h => ?_)
    refine wq_gI rfl h (fun v136 h => ?_)
    exact wq_ret rfl rfl h
  · change kGo xm (kSm z) kDfl kFty kG 4 95 140 [(0, .ref a0), (1, .int a1)] [] mem (dEq R)
    refine wp_run 1 (pc' := 141) (lv' := [(0, .ref a0), (1, .int a1)]) (st' := [.ref a0]) (mem' := mem) rfl ?_
    refine wq_gR rfl h (fun v141 h => ?_)
    refine wq_gI rfl h (fun v144 h => ?_)
    exact wq_ret rfl rfl h
  · change kGo xm (kSm z) kDfl kFty kG 4 95 148 [(0, .ref a0), (1, .int a1)] [] mem (dEq R)
    refine wp_run 1 (pc' := 149) (lv' := [(0, .ref a0), (1, .int a1)]) (st' := [.ref a0]) (mem' := mem) rfl ?_
    refine wq_gR rfl h (fun v149 h => ?_)
    refine wq_gI rfl h (fun v152 h => ?_)
    exact wq_ret rfl rfl h
  · change kGo xm (kSm z) kDfl kFty kG 4 95 156 [(0, .ref a0), (1, .int a1)] [] mem (dEq R)
    refine wp_run 1 (pc' := 157) (lv' := [(0, .ref a0), (1, .int a1)]) (st' := [.ref a0]) (mem' := mem) rfl ?_
    refine wq_gR rfl h (fun v157 h => ?_)
    refine wq_gI rfl h (fun v160 h => ?_)
    exact wq_ret rfl rfl h
  · change kGo xm (kSm z) kDfl kFty kG 4 95 164 [(0, .ref a0), (1, .int a1)] [] mem (dEq R)
    refine wp_run 1 (pc' := 165) (lv' := [(0, .ref a0), (1, .int a1)]) (st' := [.ref a0]) (mem' := mem) rfl ?_
    refine wq_gR rfl h (fun v165 h => ?_)
    refine wq_gI rfl h (fun v168 h => ?_)
    exact wq_ret rfl rfl h
  · change kGo xm (kSm z) kDfl kFty kG 4 95 172 [(0, .ref a0), (1, .int a1)] [] mem (dEq R)
    refine wp_run 1 (pc' := 173) (lv' := [(0, .ref a0), (1, .int a1)]) (st' := [.ref a0]) (mem' := mem) rfl ?_
    refine wq_gR rfl h (fun v173 h => ?_)
    refine wq_gI rfl h (fun v176 h => ?_)
    exact wq_ret rfl rfl h
  · change kGo xm (kSm z) kDfl kFty kG 4 95 180 [(0, .ref a0), (1, .int a1)] [] mem (dEq R)
    refine wp_run 1 (pc' := 181) (lv' := [(0, .ref a0), (1, .int a1)]) (st' := [.ref a0]) (mem' := mem) rfl ?_
    refine wq_gR rfl h (fun v181 h => ?_)
    refine wq_gI rfl h (fun v184 h => ?_)
    exact wq_ret rfl rfl h
  · change kGo xm (kSm z) kDfl kFty kG 4 95 188 [(0, .ref a0), (1, .int a1)] [] mem (dEq R)
    refine wp_run 1 (pc' := 189) (lv' := [(0, .ref a0), (1, .int a1)]) (st' := [.ref a0]) (mem' := mem) rfl ?_
    refine wq_gR rfl h (fun v189 h => ?_)
    obtain ⟨fk192, hk192, h⟩ := dRc_some h
    refine wq_cI rfl (kCall_v hk192 (as := []) (rest := []) ⟨by decide, rfl, (show 0 < 90 by decide), by decide⟩ (show 0 ≤ 8 by decide)) h (fun r hr => ca_up (by decide) (m_Work_openRuns_ok hz xm N hr)) (fun v192 m192 h => ?_)
    exact wq_ret rfl rfl h
  · change kGo xm (kSm z) kDfl kFty kG 4 95 196 [(0, .ref a0), (1, .int a1)] [] mem (dEq R)
    refine wp_run 1 (pc' := 197) (lv' := [(0, .ref a0), (1, .int a1)]) (st' := [.ref a0]) (mem' := mem) rfl ?_
    refine wq_gI rfl h (fun v197 h => ?_)
    exact wq_ret rfl rfl h
/-- Knitstead.many(I)I -/
def m_K_many (xm : Nat → Option kE) (N : Nat) (a0 : Nat) (a1 : Int32) (mem : kM) : dRes :=
  if a1 < 0 then (
    some (.inr 0, mem ++ [.inl (1000, [.null, .null, .null, .null, .null, .null])])
  ) else (
    if a1 < 16 then (
      dRc xm mem a0 11 <|
      dCI (m_K_number xm N a0 a1 mem) fun v23 m23 =>
      some (.inl (some (.int v23)), m23)
    ) else (
      some (.inr 0, mem ++ [.inl (1000, [.null, .null, .null, .null, .null, .null])])
    )
  )
theorem m_K_many_ok (hz : z.category = 1) (xm : Nat → Option kE) (N : Nat) {a0 : Nat} {a1 : Int32} {mem : kM} {R : kO × kM} (h : m_K_many xm N a0 a1 mem = some R) : kCa xm (kSm z) kDfl kFty kG 6 60 [.ref a0, .int a1] mem (dEq R) := by
  refine wq_ca (show 2 ≤ 2 by decide) ?_
  change kGo xm (kSm z) kDfl kFty kG 5 60 0 [(0, .ref a0), (1, .int a1)] [] mem (dEq R)
  unfold m_K_many at h
  refine wp_run 1 (pc' := 1) (lv' := [(0, .ref a0), (1, .int a1)]) (st' := [.int a1]) (mem' := mem) rfl ?_
  refine wq_lt rfl h (fun h => ?_) (fun h => ?_)
  · exact wq_end rfl rfl h
  · refine wp_run 2 (pc' := 7) (lv' := [(0, .ref a0), (1, .int a1)]) (st' := [.int 16, .int a1]) (mem' := mem) rfl ?_
    refine wq_lt2 rfl h (fun h => ?_) (fun h => ?_)
    · refine wp_run 2 (pc' := 23) (lv' := [(0, .ref a0), (1, .int a1)]) (st' := [.int a1, .ref a0]) (mem' := mem) rfl ?_
      obtain ⟨fk23, hk23, h⟩ := dRc_some h
      refine wq_cI rfl (kCall_v hk23 (as := [.int a1]) (rest := []) ⟨by decide, rfl, (show 1 < 90 by decide), by decide⟩ (show 0 ≤ 8 by decide)) h (fun r hr => ca_up (by decide) (m_K_number_ok hz xm N hr)) (fun v23 m23 h => ?_)
      exact wq_ret rfl rfl h
    · exact wq_end rfl rfl h
/-- Knitstead.left(I)I -/
def m_K_left (xm : Nat → Option kE) (N : Nat) (a0 : Nat) (a1 : Int32) (mem : kM) : dRes :=
  dGR xm mem a0 11 0 fun v1 =>
  dRc xm mem v1 5 <|
  dCI (m_Balls_has xm N v1 a1 mem) fun v5 m5 =>
  if v5 = 0 then (
    some (.inr 2, m5 ++ [.inl (1000, [.null, .null, .null, .null, .null, .null])])
  ) else (
    dGR xm m5 a0 11 0 fun v22 =>
    dRc xm m5 v22 5 <|
    dCI (m_Balls_of xm N v22 a1 m5) fun v26 m26 =>
    some (.inl (some (.int v26)), m26)
  )
theorem m_K_left_ok (hz : z.category = 1) (xm : Nat → Option kE) (N : Nat) {a0 : Nat} {a1 : Int32} {mem : kM} {R : kO × kM} (h : m_K_left xm N a0 a1 mem = some R) : kCa xm (kSm z) kDfl kFty kG 3 61 [.ref a0, .int a1] mem (dEq R) := by
  refine wq_ca (show 2 ≤ 2 by decide) ?_
  change kGo xm (kSm z) kDfl kFty kG 2 61 0 [(0, .ref a0), (1, .int a1)] [] mem (dEq R)
  unfold m_K_left at h
  refine wp_run 1 (pc' := 1) (lv' := [(0, .ref a0), (1, .int a1)]) (st' := [.ref a0]) (mem' := mem) rfl ?_
  refine wq_gR rfl h (fun v1 h => ?_)
  refine wp_run 1 (pc' := 5) (lv' := [(0, .ref a0), (1, .int a1)]) (st' := [.int a1, .ref v1]) (mem' := mem) rfl ?_
  obtain ⟨fk5, hk5, h⟩ := dRc_some h
  refine wq_cI rfl (kCall_v hk5 (as := [.int a1]) (rest := []) ⟨by decide, rfl, (show 1 < 90 by decide), by decide⟩ (show 0 ≤ 8 by decide)) h (fun r hr => ca_up (by decide) (m_Balls_has_ok hz xm N hr)) (fun v5 m5 h => ?_)
  refine wq_ne rfl h (fun h => ?_) (fun h => ?_)
  · exact wq_end rfl rfl h
  · refine wp_run 1 (pc' := 22) (lv' := [(0, .ref a0), (1, .int a1)]) (st' := [.ref a0]) (mem' := m5) rfl ?_
    refine wq_gR rfl h (fun v22 h => ?_)
    refine wp_run 1 (pc' := 26) (lv' := [(0, .ref a0), (1, .int a1)]) (st' := [.int a1, .ref v22]) (mem' := m5) rfl ?_
    obtain ⟨fk26, hk26, h⟩ := dRc_some h
    refine wq_cI rfl (kCall_v hk26 (as := [.int a1]) (rest := []) ⟨by decide, rfl, (show 1 < 90 by decide), by decide⟩ (show 0 ≤ 8 by decide)) h (fun r hr => ca_up (by decide) (m_Balls_of_ok hz xm N hr)) (fun v26 m26 h => ?_)
    exact wq_ret rfl rfl h
/-- Knitstead.would(I)I -/
def m_K_would (xm : Nat → Option kE) (N : Nat) (a0 : Nat) (a1 : Int32) (mem : kM) : dRes :=
  dRc xm mem a0 11 <|
  dCI (m_K_hasPattern xm N a0 a1 mem) fun v2 m2 =>
  if v2 = 0 then (
    some (.inr 2, m2 ++ [.inl (1000, [.null, .null, .null, .null, .null, .null])])
  ) else (
    dRc xm m2 a0 11 <|
    dCV (m_K_tryOut xm N a0 a1 m2) fun m20 =>
    dGR xm m20 a0 11 6 fun v24 =>
    dGI xm m20 v24 9 1 fun v27 =>
    some (.inl (some (.int v27)), m20)
  )
theorem m_K_would_ok (hz : z.category = 1) (xm : Nat → Option kE) (N : Nat) {a0 : Nat} {a1 : Int32} {mem : kM} {R : kO × kM} (h : m_K_would xm N a0 a1 mem = some R) : kCa xm (kSm z) kDfl kFty kG 5 62 [.ref a0, .int a1] mem (dEq R) := by
  refine wq_ca (show 2 ≤ 2 by decide) ?_
  change kGo xm (kSm z) kDfl kFty kG 4 62 0 [(0, .ref a0), (1, .int a1)] [] mem (dEq R)
  unfold m_K_would at h
  refine wp_run 2 (pc' := 2) (lv' := [(0, .ref a0), (1, .int a1)]) (st' := [.int a1, .ref a0]) (mem' := mem) rfl ?_
  obtain ⟨fk2, hk2, h⟩ := dRc_some h
  refine wq_cI rfl (kCall_v hk2 (as := [.int a1]) (rest := []) ⟨by decide, rfl, (show 1 < 90 by decide), by decide⟩ (show 0 ≤ 8 by decide)) h (fun r hr => ca_up (by decide) (m_K_hasPattern_ok hz xm N hr)) (fun v2 m2 h => ?_)
  refine wq_ne rfl h (fun h => ?_) (fun h => ?_)
  · exact wq_end rfl rfl h
  · refine wp_run 2 (pc' := 20) (lv' := [(0, .ref a0), (1, .int a1)]) (st' := [.int a1, .ref a0]) (mem' := m2) rfl ?_
    obtain ⟨fk20, hk20, h⟩ := dRc_some h
    refine wq_cV rfl (kCall_v hk20 (as := [.int a1]) (rest := []) ⟨by decide, rfl, (show 1 < 90 by decide), by decide⟩ (show 0 ≤ 8 by decide)) h (fun r hr => ca_up (by decide) (m_K_tryOut_ok hz xm N hr)) (fun m20 h => ?_)
    refine wp_run 1 (pc' := 24) (lv' := [(0, .ref a0), (1, .int a1)]) (st' := [.ref a0]) (mem' := m20) rfl ?_
    refine wq_gR rfl h (fun v24 h => ?_)
    refine wq_gI rfl h (fun v27 h => ?_)
    exact wq_ret rfl rfl h
/-- Knitstead.needs(I)I -/
def m_K_needs (xm : Nat → Option kE) (N : Nat) (a0 : Nat) (a1 : Int32) (mem : kM) : dRes :=
  dRc xm mem a0 11 <|
  dCI (m_K_hasPattern xm N a0 a1 mem) fun v2 m2 =>
  if v2 = 0 then (
    some (.inr 2, m2 ++ [.inl (1000, [.null, .null, .null, .null, .null, .null])])
  ) else (
    dRc xm m2 a0 11 <|
    dCV (m_K_tryOut xm N a0 a1 m2) fun m20 =>
    dGR xm m20 a0 11 6 fun v24 =>
    dGI xm m20 v24 9 3 fun v27 =>
    some (.inl (some (.int v27)), m20)
  )
theorem m_K_needs_ok (hz : z.category = 1) (xm : Nat → Option kE) (N : Nat) {a0 : Nat} {a1 : Int32} {mem : kM} {R : kO × kM} (h : m_K_needs xm N a0 a1 mem = some R) : kCa xm (kSm z) kDfl kFty kG 5 63 [.ref a0, .int a1] mem (dEq R) := by
  refine wq_ca (show 2 ≤ 2 by decide) ?_
  change kGo xm (kSm z) kDfl kFty kG 4 63 0 [(0, .ref a0), (1, .int a1)] [] mem (dEq R)
  unfold m_K_needs at h
  refine wp_run 2 (pc' := 2) (lv' := [(0, .ref a0), (1, .int a1)]) (st' := [.int a1, .ref a0]) (mem' := mem) rfl ?_
  obtain ⟨fk2, hk2, h⟩ := dRc_some h
  refine wq_cI rfl (kCall_v hk2 (as := [.int a1]) (rest := []) ⟨by decide, rfl, (show 1 < 90 by decide), by decide⟩ (show 0 ≤ 8 by decide)) h (fun r hr => ca_up (by decide) (m_K_hasPattern_ok hz xm N hr)) (fun v2 m2 h => ?_)
  refine wq_ne rfl h (fun h => ?_) (fun h => ?_)
  · exact wq_end rfl rfl h
  · refine wp_run 2 (pc' := 20) (lv' := [(0, .ref a0), (1, .int a1)]) (st' := [.int a1, .ref a0]) (mem' := m2) rfl ?_
    obtain ⟨fk20, hk20, h⟩ := dRc_some h
    refine wq_cV rfl (kCall_v hk20 (as := [.int a1]) (rest := []) ⟨by decide, rfl, (show 1 < 90 by decide), by decide⟩ (show 0 ≤ 8 by decide)) h (fun r hr => ca_up (by decide) (m_K_tryOut_ok hz xm N hr)) (fun m20 h => ?_)
    refine wp_run 1 (pc' := 24) (lv' := [(0, .ref a0), (1, .int a1)]) (st' := [.ref a0]) (mem' := m20) rfl ?_
    refine wq_gR rfl h (fun v24 h => ?_)
    refine wq_gI rfl h (fun v27 h => ?_)
    exact wq_ret rfl rfl h
/-- Knitstead.endsWhole(I)Z -/
def m_K_endsWhole (xm : Nat → Option kE) (N : Nat) (a0 : Nat) (a1 : Int32) (mem : kM) : dRes :=
  dGR xm mem a0 11 3 fun v1 =>
  dRc xm mem v1 8 <|
  dCI (m_Table_get xm N v1 a1 1 mem) fun v6 m6 =>
  if 0 < v6 then (
    dGR xm m6 a0 11 6 fun v15 =>
    dGI xm m6 v15 9 0 fun v18 =>
    if v18 = 0 then (
      dGR xm m6 a0 11 6 fun v25 =>
      dGI xm m6 v25 9 4 fun v28 =>
      dNz v6 <|
      if (v28 - v28 / v6 * v6) = 0 then (
        some (.inl (some (.int 1)), m6)
      ) else (
        some (.inl (some (.int 0)), m6)
      )
    ) else (
      some (.inl (some (.int 0)), m6)
    )
  ) else (
    some (.inl (some (.int 0)), m6)
  )
theorem m_K_endsWhole_ok (hz : z.category = 1) (xm : Nat → Option kE) (N : Nat) {a0 : Nat} {a1 : Int32} {mem : kM} {R : kO × kM} (h : m_K_endsWhole xm N a0 a1 mem = some R) : kCa xm (kSm z) kDfl kFty kG 3 86 [.ref a0, .int a1] mem (dEq R) := by
  refine wq_ca (show 2 ≤ 3 by decide) ?_
  change kGo xm (kSm z) kDfl kFty kG 2 86 0 [(0, .ref a0), (1, .int a1)] [] mem (dEq R)
  unfold m_K_endsWhole at h
  refine wp_run 1 (pc' := 1) (lv' := [(0, .ref a0), (1, .int a1)]) (st' := [.ref a0]) (mem' := mem) rfl ?_
  refine wq_gR rfl h (fun v1 h => ?_)
  refine wp_run 2 (pc' := 6) (lv' := [(0, .ref a0), (1, .int a1)]) (st' := [.int 1, .int a1, .ref v1]) (mem' := mem) rfl ?_
  obtain ⟨fk6, hk6, h⟩ := dRc_some h
  refine wq_cI rfl (kCall_v hk6 (as := [.int a1, .int 1]) (rest := []) ⟨by decide, rfl, (show 2 < 90 by decide), by decide⟩ (show 0 ≤ 8 by decide)) h (fun r hr => ca_up (by decide) (m_Table_get_ok hz xm N hr)) (fun v6 m6 h => ?_)
  refine wp_run 2 (pc' := 11) (lv' := [(2, .int v6), (0, .ref a0), (1, .int a1)]) (st' := [.int v6]) (mem' := m6) rfl ?_
  refine wq_le rfl h (fun h => ?_) (fun h => ?_)
  · refine wp_run 1 (pc' := 15) (lv' := [(2, .int v6), (0, .ref a0), (1, .int a1)]) (st' := [.ref a0]) (mem' := m6) rfl ?_
    refine wq_gR rfl h (fun v15 h => ?_)
    refine wq_gI rfl h (fun v18 h => ?_)
    refine wq_ne rfl h (fun h => ?_) (fun h => ?_)
    · refine wp_run 1 (pc' := 25) (lv' := [(2, .int v6), (0, .ref a0), (1, .int a1)]) (st' := [.ref a0]) (mem' := m6) rfl ?_
      refine wq_gR rfl h (fun v25 h => ?_)
      refine wq_gI rfl h (fun v28 h => ?_)
      refine wp_run 1 (pc' := 32) (lv' := [(2, .int v6), (0, .ref a0), (1, .int a1)]) (st' := [.int v6, .int v28]) (mem' := m6) rfl ?_
      refine wq_irem rfl h (fun h => ?_)
      refine wq_ne rfl h (fun h => ?_) (fun h => ?_)
      · refine wp_run 2 (pc' := 41) (lv' := [(2, .int v6), (0, .ref a0), (1, .int a1)]) (st' := [.int 1]) (mem' := m6) rfl ?_
        exact wq_ret rfl rfl h
      · refine wp_run 1 (pc' := 41) (lv' := [(2, .int v6), (0, .ref a0), (1, .int a1)]) (st' := [.int 0]) (mem' := m6) rfl ?_
        exact wq_ret rfl rfl h
    · refine wp_run 1 (pc' := 41) (lv' := [(2, .int v6), (0, .ref a0), (1, .int a1)]) (st' := [.int 0]) (mem' := m6) rfl ?_
      exact wq_ret rfl rfl h
  · refine wp_run 1 (pc' := 41) (lv' := [(2, .int v6), (0, .ref a0), (1, .int a1)]) (st' := [.int 0]) (mem' := m6) rfl ?_
    exact wq_ret rfl rfl h
/-- Knitstead.bestPattern()I -/
def m_K_bestPattern_69 (xm : Nat → Option kE) (N : Nat) (K22 : Nat → Int32 → Int32 → Int32 → kM → dRes) (a0 : Nat) (a1 : Int32) (a2 : Int32) (a3 : Int32) (mem : kM) : dRes :=
  K22 a0 a1 a2 (a3 + 1) mem
theorem m_K_bestPattern_69_ok (hz : z.category = 1) (xm : Nat → Option kE) (N : Nat) (K22 : Nat → Int32 → Int32 → Int32 → kM → dRes) (hK22 : ∀ (a0 : Nat) (a1 : Int32) (a2 : Int32) (a3 : Int32) (mem : kM) (R : kO × kM), K22 a0 a1 a2 a3 mem = some R → kGo xm (kSm z) kDfl kFty kG 4 87 22 [(0, .ref a0), (1, .int a1), (2, .int a2), (3, .int a3)] [] mem (dEq R)) : ∀ (a0 : Nat) (a1 : Int32) (a2 : Int32) (a3 : Int32) (mem : kM) (R : kO × kM), m_K_bestPattern_69 xm N K22 a0 a1 a2 a3 mem = some R → kGo xm (kSm z) kDfl kFty kG 4 87 69 [(0, .ref a0), (1, .int a1), (2, .int a2), (3, .int a3)] [] mem (dEq R) := by
  intro a0 a1 a2 a3 mem R h
  unfold m_K_bestPattern_69 at h
  refine wp_run 2 (pc' := 22) (lv' := [(3, .int (a3 + 1)), (0, .ref a0), (1, .int a1), (2, .int a2)]) (st' := []) (mem' := mem) rfl ?_
  refine kGo_sub (lvS_of [1, 2, 3, 0] rfl [3, 0, 1, 2] rfl (by decide)) ?_
  exact hK22 _ _ _ _ mem R h
def m_K_bestPattern_59 (xm : Nat → Option kE) (N : Nat) (K22 : Nat → Int32 → Int32 → Int32 → kM → dRes) (a0 : Nat) (a3 : Int32) (mem : kM) : dRes :=
  dGR xm mem a0 11 6 fun v62 =>
  dGI xm mem v62 9 3 fun v65 =>
  m_K_bestPattern_69 xm N K22 a0 a3 v65 a3 mem
theorem m_K_bestPattern_59_ok (hz : z.category = 1) (xm : Nat → Option kE) (N : Nat) (K22 : Nat → Int32 → Int32 → Int32 → kM → dRes) (hK22 : ∀ (a0 : Nat) (a1 : Int32) (a2 : Int32) (a3 : Int32) (mem : kM) (R : kO × kM), K22 a0 a1 a2 a3 mem = some R → kGo xm (kSm z) kDfl kFty kG 4 87 22 [(0, .ref a0), (1, .int a1), (2, .int a2), (3, .int a3)] [] mem (dEq R)) : ∀ (a0 : Nat) (a3 : Int32) (mem : kM) (R : kO × kM), m_K_bestPattern_59 xm N K22 a0 a3 mem = some R → kGo xm (kSm z) kDfl kFty kG 4 87 59 [(0, .ref a0), (3, .int a3)] [] mem (dEq R) := by
  intro a0 a3 mem R h
  unfold m_K_bestPattern_59 at h
  refine wp_run 3 (pc' := 62) (lv' := [(1, .int a3), (0, .ref a0), (3, .int a3)]) (st' := [.ref a0]) (mem' := mem) rfl ?_
  refine wq_gR rfl h (fun v62 h => ?_)
  refine wq_gI rfl h (fun v65 h => ?_)
  refine wp_run 1 (pc' := 69) (lv' := [(2, .int v65), (1, .int a3), (0, .ref a0), (3, .int a3)]) (st' := []) (mem' := mem) rfl ?_
  refine kGo_sub (lvS_of [2, 1, 0, 3] rfl [2, 1, 0, 3] rfl (by decide)) ?_
  exact m_K_bestPattern_69_ok hz xm N _ hK22 _ _ _ _ mem R h
def m_K_bestPattern_22 (xm : Nat → Option kE) (N : Nat) : Nat → Nat → Int32 → Int32 → Int32 → kM → dRes
  | 0, _, _, _, _, _ => none
  | n + 1, a0, a1, a2, a3, mem =>
    dGI xm mem a0 11 7 fun v24 =>
    if a3 < v24 then (
      dRc xm mem a0 11 <|
      dCV (m_K_tryOut xm N a0 a3 mem) fun m32 =>
      dRc xm m32 a0 11 <|
      dCI (m_K_endsWhole xm N a0 a3 m32) fun v37 m37 =>
      if v37 = 0 then (
        m_K_bestPattern_69 xm N (fun a0 a1 a2 a3 mem => m_K_bestPattern_22 xm N n a0 a1 a2 a3 mem) a0 a1 a2 a3 m37
      ) else (
        if a1 = (-1) then (
          m_K_bestPattern_59 xm N (fun a0 a1 a2 a3 mem => m_K_bestPattern_22 xm N n a0 a1 a2 a3 mem) a0 a3 m37
        ) else (
          dGR xm m37 a0 11 6 fun v49 =>
          dGI xm m37 v49 9 3 fun v52 =>
          if v52 < a2 then (
            m_K_bestPattern_59 xm N (fun a0 a1 a2 a3 mem => m_K_bestPattern_22 xm N n a0 a1 a2 a3 mem) a0 a3 m37
          ) else (
            m_K_bestPattern_69 xm N (fun a0 a1 a2 a3 mem => m_K_bestPattern_22 xm N n a0 a1 a2 a3 mem) a0 a1 a2 a3 m37
          )
        )
      )
    ) else (
      some (.inl (some (.int a1)), mem)
    )
theorem m_K_bestPattern_22_ok (hz : z.category = 1) (xm : Nat → Option kE) (N : Nat) : ∀ (n : Nat) (a0 : Nat) (a1 : Int32) (a2 : Int32) (a3 : Int32) (mem : kM) (R : kO × kM), m_K_bestPattern_22 xm N n a0 a1 a2 a3 mem = some R → kGo xm (kSm z) kDfl kFty kG 4 87 22 [(0, .ref a0), (1, .int a1), (2, .int a2), (3, .int a3)] [] mem (dEq R) := by
  intro n
  induction n with
  | zero => intro a0 a1 a2 a3 mem R h; cases h
  | succ n ih =>
    intro a0 a1 a2 a3 mem R h
    rw [m_K_bestPattern_22] at h
    refine wp_run 2 (pc' := 24) (lv' := [(0, .ref a0), (1, .int a1), (2, .int a2), (3, .int a3)]) (st' := [.ref a0, .int a3]) (mem' := mem) rfl ?_
    refine wq_gI rfl h (fun v24 h => ?_)
    refine wq_ge2 rfl h (fun h => ?_) (fun h => ?_)
    · refine wp_run 2 (pc' := 32) (lv' := [(0, .ref a0), (1, .int a1), (2, .int a2), (3, .int a3)]) (st' := [.int a3, .ref a0]) (mem' := mem) rfl ?_
      obtain ⟨fk32, hk32, h⟩ := dRc_some h
      refine wq_cV rfl (kCall_v hk32 (as := [.int a3]) (rest := []) ⟨by decide, rfl, (show 1 < 90 by decide), by decide⟩ (show 0 ≤ 8 by decide)) h (fun r hr => ca_up (by decide) (m_K_tryOut_ok hz xm N hr)) (fun m32 h => ?_)
      refine wp_run 2 (pc' := 37) (lv' := [(0, .ref a0), (1, .int a1), (2, .int a2), (3, .int a3)]) (st' := [.int a3, .ref a0]) (mem' := m32) rfl ?_
      obtain ⟨fk37, hk37, h⟩ := dRc_some h
      refine wq_cI rfl (kCall_v hk37 (as := [.int a3]) (rest := []) ⟨by decide, rfl, (show 1 < 90 by decide), by decide⟩ (show 0 ≤ 8 by decide)) h (fun r hr => ca_up (by decide) (m_K_endsWhole_ok hz xm N hr)) (fun v37 m37 h => ?_)
      refine wq_eq rfl h (fun h => ?_) (fun h => ?_)
      · exact m_K_bestPattern_69_ok hz xm N _ ih _ _ _ _ m37 R h
      · refine wp_run 2 (pc' := 45) (lv' := [(0, .ref a0), (1, .int a1), (2, .int a2), (3, .int a3)]) (st' := [.int (-1), .int a1]) (mem' := m37) rfl ?_
        refine wq_eq2 rfl h (fun h => ?_) (fun h => ?_)
        · refine kGo_sub (lvS_of [0, 3] rfl [0, 1, 2, 3] rfl (by decide)) ?_
          exact m_K_bestPattern_59_ok hz xm N _ ih _ _ m37 R h
        · refine wp_run 1 (pc' := 49) (lv' := [(0, .ref a0), (1, .int a1), (2, .int a2), (3, .int a3)]) (st' := [.ref a0]) (mem' := m37) rfl ?_
          refine wq_gR rfl h (fun v49 h => ?_)
          refine wq_gI rfl h (fun v52 h => ?_)
          refine wp_run 1 (pc' := 56) (lv' := [(0, .ref a0), (1, .int a1), (2, .int a2), (3, .int a3)]) (st' := [.int a2, .int v52]) (mem' := m37) rfl ?_
          refine wq_ge2 rfl h (fun h => ?_) (fun h => ?_)
          · refine kGo_sub (lvS_of [0, 3] rfl [0, 1, 2, 3] rfl (by decide)) ?_
            exact m_K_bestPattern_59_ok hz xm N _ ih _ _ m37 R h
          · exact m_K_bestPattern_69_ok hz xm N _ ih _ _ _ _ m37 R h
    · refine wp_run 1 (pc' := 76) (lv' := [(0, .ref a0), (1, .int a1), (2, .int a2), (3, .int a3)]) (st' := [.int a1]) (mem' := mem) rfl ?_
      exact wq_ret rfl rfl h
def m_K_bestPattern (xm : Nat → Option kE) (N : Nat) (a0 : Nat) (mem : kM) : dRes :=
  dGR xm mem a0 11 1 fun v1 =>
  dGR xm mem v1 10 0 fun v4 =>
  dGI xm mem v4 7 1 fun v7 =>
  if v7 < 1 then (
    some (.inl (some (.int (-1))), mem)
  ) else (
    m_K_bestPattern_22 xm N N a0 (-1) 0 0 mem
  )
theorem m_K_bestPattern_ok (hz : z.category = 1) (xm : Nat → Option kE) (N : Nat) {a0 : Nat} {mem : kM} {R : kO × kM} (h : m_K_bestPattern xm N a0 mem = some R) : kCa xm (kSm z) kDfl kFty kG 5 87 [.ref a0] mem (dEq R) := by
  refine wq_ca (show 1 ≤ 4 by decide) ?_
  change kGo xm (kSm z) kDfl kFty kG 4 87 0 [(0, .ref a0)] [] mem (dEq R)
  unfold m_K_bestPattern at h
  refine wp_run 1 (pc' := 1) (lv' := [(0, .ref a0)]) (st' := [.ref a0]) (mem' := mem) rfl ?_
  refine wq_gR rfl h (fun v1 h => ?_)
  refine wq_gR rfl h (fun v4 h => ?_)
  refine wq_gI rfl h (fun v7 h => ?_)
  refine wp_run 1 (pc' := 11) (lv' := [(0, .ref a0)]) (st' := [.int 1, .int v7]) (mem' := mem) rfl ?_
  refine wq_ge2 rfl h (fun h => ?_) (fun h => ?_)
  · refine wp_run 1 (pc' := 15) (lv' := [(0, .ref a0)]) (st' := [.int (-1)]) (mem' := mem) rfl ?_
    exact wq_ret rfl rfl h
  · refine wp_run 6 (pc' := 22) (lv' := [(3, .int 0), (2, .int 0), (1, .int (-1)), (0, .ref a0)]) (st' := []) (mem' := mem) rfl ?_
    refine kGo_sub (lvS_of [3, 2, 1, 0] rfl [3, 2, 1, 0] rfl (by decide)) ?_
    exact m_K_bestPattern_22_ok hz xm N N _ _ _ _ mem R h
/-- Knitstead.mixed(JJ)J -/
def m_K_mixed (xm : Nat → Option kE) (N : Nat) (a0 : Int64) (a2 : Int64) (mem : kM) : dRes :=
  some (.inl (some (.long ((a0 * 31) + a2))), mem)
theorem m_K_mixed_ok (hz : z.category = 1) (xm : Nat → Option kE) (N : Nat) {a0 : Int64} {a2 : Int64} {mem : kM} {R : kO × kM} (h : m_K_mixed xm N a0 a2 mem = some R) : kCa xm (kSm z) kDfl kFty kG 1 96 [.long a0, .long a2] mem (dEq R) := by
  refine wq_ca (show 4 ≤ 4 by decide) ?_
  change kGo xm (kSm z) kDfl kFty kG 0 96 0 [(0, .long a0), (2, .long a2)] [] mem (dEq R)
  unfold m_K_mixed at h
  refine wp_run 5 (pc' := 7) (lv' := [(0, .long a0), (2, .long a2)]) (st' := [.long ((a0 * 31) + a2)]) (mem' := mem) rfl ?_
  exact wq_end rfl rfl h
/-- Knitstead.mixedRow(JLKnitstead$Table;II)J -/
def m_K_mixedRow_6 (xm : Nat → Option kE) (N : Nat) : Nat → Nat → Int32 → Int32 → Int64 → Int32 → kM → dRes
  | 0, _, _, _, _, _, _ => none
  | n + 1, a2, a3, a4, a5, a7, mem =>
    if a7 < a4 then (
      dRc xm mem a2 8 <|
      dCI (m_Table_get xm N a2 a3 a7 mem) fun v19 m19 =>
      dCJ (m_K_mixed xm N a5 (Int32.toInt64 v19) m19) fun v23 m23 =>
      m_K_mixedRow_6 xm N n a2 a3 a4 v23 (a7 + 1) m23
    ) else (
      some (.inl (some (.long a5)), mem)
    )
theorem m_K_mixedRow_6_ok (hz : z.category = 1) (xm : Nat → Option kE) (N : Nat) : ∀ (n : Nat) (a2 : Nat) (a3 : Int32) (a4 : Int32) (a5 : Int64) (a7 : Int32) (mem : kM) (R : kO × kM), m_K_mixedRow_6 xm N n a2 a3 a4 a5 a7 mem = some R → kGo xm (kSm z) kDfl kFty kG 2 97 6 [(2, .ref a2), (3, .int a3), (4, .int a4), (5, .long a5), (7, .int a7)] [] mem (dEq R) := by
  intro n
  induction n with
  | zero => intro a2 a3 a4 a5 a7 mem R h; cases h
  | succ n ih =>
    intro a2 a3 a4 a5 a7 mem R h
    rw [m_K_mixedRow_6] at h
    refine wp_run 2 (pc' := 10) (lv' := [(2, .ref a2), (3, .int a3), (4, .int a4), (5, .long a5), (7, .int a7)]) (st' := [.int a4, .int a7]) (mem' := mem) rfl ?_
    refine wq_ge2 rfl h (fun h => ?_) (fun h => ?_)
    · refine wp_run 4 (pc' := 19) (lv' := [(2, .ref a2), (3, .int a3), (4, .int a4), (5, .long a5), (7, .int a7)]) (st' := [.int a7, .int a3, .ref a2, .long a5]) (mem' := mem) rfl ?_
      obtain ⟨fk19, hk19, h⟩ := dRc_some h
      refine wq_cI rfl (kCall_v hk19 (as := [.int a3, .int a7]) (rest := [.long a5]) ⟨by decide, rfl, (show 2 < 90 by decide), by decide⟩ (show 2 ≤ 8 by decide)) h (fun r hr => ca_up (by decide) (m_Table_get_ok hz xm N hr)) (fun v19 m19 h => ?_)
      refine wp_run 1 (pc' := 23) (lv' := [(2, .ref a2), (3, .int a3), (4, .int a4), (5, .long a5), (7, .int a7)]) (st' := [.long (Int32.toInt64 v19), .long a5]) (mem' := m19) rfl ?_
      refine wq_cJ rfl (kCall_s (as := [.long a5, .long (Int32.toInt64 v19)]) (rest := []) ⟨by decide, rfl⟩ (show 0 ≤ 8 by decide) (by decide)) h (fun r hr => ca_up (by decide) (m_K_mixed_ok hz xm N hr)) (fun v23 m23 h => ?_)
      refine wp_run 3 (pc' := 6) (lv' := [(7, .int (a7 + 1)), (5, .long v23), (2, .ref a2), (3, .int a3), (4, .int a4)]) (st' := []) (mem' := m23) rfl ?_
      refine kGo_sub (lvS_of [2, 3, 4, 1, 0] rfl [7, 5, 2, 3, 4] rfl (by decide)) ?_
      exact ih _ _ _ _ _ m23 R h
    · refine wp_run 1 (pc' := 36) (lv' := [(2, .ref a2), (3, .int a3), (4, .int a4), (5, .long a5), (7, .int a7)]) (st' := [.long a5]) (mem' := mem) rfl ?_
      exact wq_end rfl rfl h
def m_K_mixedRow (xm : Nat → Option kE) (N : Nat) (a0 : Int64) (a2 : Nat) (a3 : Int32) (a4 : Int32) (mem : kM) : dRes :=
  m_K_mixedRow_6 xm N N a2 a3 a4 a0 0 mem
theorem m_K_mixedRow_ok (hz : z.category = 1) (xm : Nat → Option kE) (N : Nat) {a0 : Int64} {a2 : Nat} {a3 : Int32} {a4 : Int32} {mem : kM} {R : kO × kM} (h : m_K_mixedRow xm N a0 a2 a3 a4 mem = some R) : kCa xm (kSm z) kDfl kFty kG 3 97 [.long a0, .ref a2, .int a3, .int a4] mem (dEq R) := by
  refine wq_ca (show 5 ≤ 8 by decide) ?_
  change kGo xm (kSm z) kDfl kFty kG 2 97 0 [(0, .long a0), (2, .ref a2), (3, .int a3), (4, .int a4)] [] mem (dEq R)
  unfold m_K_mixedRow at h
  refine wp_run 4 (pc' := 6) (lv' := [(7, .int 0), (5, .long a0), (0, .long a0), (2, .ref a2), (3, .int a3), (4, .int a4)]) (st' := []) (mem' := mem) rfl ?_
  refine kGo_sub (lvS_of [3, 4, 5, 1, 0] rfl [7, 5, 0, 2, 3, 4] rfl (by decide)) ?_
  exact m_K_mixedRow_6_ok hz xm N N _ _ _ _ _ mem R h
/-- Knitstead.mixedLoops(JLKnitstead$Needle;)J -/
def m_K_mixedLoops_36 (xm : Nat → Option kE) (N : Nat) (K6 : Nat → Nat → Int64 → Int32 → kM → dRes) : Nat → Nat → Nat → Int64 → Int32 → Int32 → Int32 → kM → dRes
  | 0, _, _, _, _, _, _, _ => none
  | n + 1, a0, a3, a4, a6, a7, a8, mem =>
    if a8 < 6 then (
      dRc xm mem a0 11 <|
      dCI (m_K_loopFact xm N a0 a7 a8 mem) fun v50 m50 =>
      dCJ (m_K_mixed xm N a4 (Int32.toInt64 v50) m50) fun v54 m54 =>
      m_K_mixedLoops_36 xm N K6 n a0 a3 v54 a6 a7 (a8 + 1) m54
    ) else (
      K6 a0 a3 a4 (a6 + 1) mem
    )
theorem m_K_mixedLoops_36_ok (hz : z.category = 1) (xm : Nat → Option kE) (N : Nat) (K6 : Nat → Nat → Int64 → Int32 → kM → dRes) (hK6 : ∀ (a0 : Nat) (a3 : Nat) (a4 : Int64) (a6 : Int32) (mem : kM) (R : kO × kM), K6 a0 a3 a4 a6 mem = some R → kGo xm (kSm z) kDfl kFty kG 6 98 6 [(0, .ref a0), (3, .ref a3), (4, .long a4), (6, .int a6)] [] mem (dEq R)) : ∀ (n : Nat) (a0 : Nat) (a3 : Nat) (a4 : Int64) (a6 : Int32) (a7 : Int32) (a8 : Int32) (mem : kM) (R : kO × kM), m_K_mixedLoops_36 xm N K6 n a0 a3 a4 a6 a7 a8 mem = some R → kGo xm (kSm z) kDfl kFty kG 6 98 36 [(0, .ref a0), (3, .ref a3), (4, .long a4), (6, .int a6), (7, .int a7), (8, .int a8)] [] mem (dEq R) := by
  intro n
  induction n with
  | zero => intro a0 a3 a4 a6 a7 a8 mem R h; cases h
  | succ n ih =>
    intro a0 a3 a4 a6 a7 a8 mem R h
    rw [m_K_mixedLoops_36] at h
    refine wp_run 2 (pc' := 40) (lv' := [(0, .ref a0), (3, .ref a3), (4, .long a4), (6, .int a6), (7, .int a7), (8, .int a8)]) (st' := [.int 6, .int a8]) (mem' := mem) rfl ?_
    refine wq_ge2 rfl h (fun h => ?_) (fun h => ?_)
    · refine wp_run 4 (pc' := 50) (lv' := [(0, .ref a0), (3, .ref a3), (4, .long a4), (6, .int a6), (7, .int a7), (8, .int a8)]) (st' := [.int a8, .int a7, .ref a0, .long a4]) (mem' := mem) rfl ?_
      obtain ⟨fk50, hk50, h⟩ := dRc_some h
      refine wq_cI rfl (kCall_v hk50 (as := [.int a7, .int a8]) (rest := [.long a4]) ⟨by decide, rfl, (show 2 < 90 by decide), by decide⟩ (show 2 ≤ 8 by decide)) h (fun r hr => ca_up (by decide) (m_K_loopFact_ok hz xm N hr)) (fun v50 m50 h => ?_)
      refine wp_run 1 (pc' := 54) (lv' := [(0, .ref a0), (3, .ref a3), (4, .long a4), (6, .int a6), (7, .int a7), (8, .int a8)]) (st' := [.long (Int32.toInt64 v50), .long a4]) (mem' := m50) rfl ?_
      refine wq_cJ rfl (kCall_s (as := [.long a4, .long (Int32.toInt64 v50)]) (rest := []) ⟨by decide, rfl⟩ (show 0 ≤ 8 by decide) (by decide)) h (fun r hr => ca_up (by decide) (m_K_mixed_ok hz xm N hr)) (fun v54 m54 h => ?_)
      refine wp_run 3 (pc' := 36) (lv' := [(8, .int (a8 + 1)), (4, .long v54), (0, .ref a0), (3, .ref a3), (6, .int a6), (7, .int a7)]) (st' := []) (mem' := m54) rfl ?_
      refine kGo_sub (lvS_of [2, 3, 1, 4, 5, 0] rfl [8, 4, 0, 3, 6, 7] rfl (by decide)) ?_
      exact ih _ _ _ _ _ _ m54 R h
    · refine wp_run 2 (pc' := 6) (lv' := [(6, .int (a6 + 1)), (0, .ref a0), (3, .ref a3), (4, .long a4), (7, .int a7), (8, .int a8)]) (st' := []) (mem' := mem) rfl ?_
      refine kGo_sub (lvS_of [1, 2, 3, 0] rfl [6, 0, 3, 4, 7, 8] rfl (by decide)) ?_
      exact hK6 _ _ _ _ mem R h
def m_K_mixedLoops_6 (xm : Nat → Option kE) (N : Nat) : Nat → Nat → Nat → Int64 → Int32 → kM → dRes
  | 0, _, _, _, _, _ => none
  | n + 1, a0, a3, a4, a6, mem =>
    dGI xm mem a3 7 1 fun v9 =>
    if a6 < v9 then (
      dRc xm mem a3 7 <|
      dCI (m_Needle_at xm N a3 a6 mem) fun v18 m18 =>
      dCJ (m_K_mixed xm N a4 (Int32.toInt64 v18) m18) fun v28 m28 =>
      m_K_mixedLoops_36 xm N (fun a0 a3 a4 a6 mem => m_K_mixedLoops_6 xm N n a0 a3 a4 a6 mem) N a0 a3 v28 a6 v18 0 m28
    ) else (
      some (.inl (some (.long a4)), mem)
    )
theorem m_K_mixedLoops_6_ok (hz : z.category = 1) (xm : Nat → Option kE) (N : Nat) : ∀ (n : Nat) (a0 : Nat) (a3 : Nat) (a4 : Int64) (a6 : Int32) (mem : kM) (R : kO × kM), m_K_mixedLoops_6 xm N n a0 a3 a4 a6 mem = some R → kGo xm (kSm z) kDfl kFty kG 6 98 6 [(0, .ref a0), (3, .ref a3), (4, .long a4), (6, .int a6)] [] mem (dEq R) := by
  intro n
  induction n with
  | zero => intro a0 a3 a4 a6 mem R h; cases h
  | succ n ih =>
    intro a0 a3 a4 a6 mem R h
    rw [m_K_mixedLoops_6] at h
    refine wp_run 2 (pc' := 9) (lv' := [(0, .ref a0), (3, .ref a3), (4, .long a4), (6, .int a6)]) (st' := [.ref a3, .int a6]) (mem' := mem) rfl ?_
    refine wq_gI rfl h (fun v9 h => ?_)
    refine wq_ge2 rfl h (fun h => ?_) (fun h => ?_)
    · refine wp_run 2 (pc' := 18) (lv' := [(0, .ref a0), (3, .ref a3), (4, .long a4), (6, .int a6)]) (st' := [.int a6, .ref a3]) (mem' := mem) rfl ?_
      obtain ⟨fk18, hk18, h⟩ := dRc_some h
      refine wq_cI rfl (kCall_v hk18 (as := [.int a6]) (rest := []) ⟨by decide, rfl, (show 1 < 90 by decide), by decide⟩ (show 0 ≤ 8 by decide)) h (fun r hr => ca_up (by decide) (m_Needle_at_ok hz xm N hr)) (fun v18 m18 h => ?_)
      refine wp_run 4 (pc' := 28) (lv' := [(7, .int v18), (0, .ref a0), (3, .ref a3), (4, .long a4), (6, .int a6)]) (st' := [.long (Int32.toInt64 v18), .long a4]) (mem' := m18) rfl ?_
      refine wq_cJ rfl (kCall_s (as := [.long a4, .long (Int32.toInt64 v18)]) (rest := []) ⟨by decide, rfl⟩ (show 0 ≤ 8 by decide) (by decide)) h (fun r hr => ca_up (by decide) (m_K_mixed_ok hz xm N hr)) (fun v28 m28 h => ?_)
      refine wp_run 3 (pc' := 36) (lv' := [(8, .int 0), (4, .long v28), (7, .int v18), (0, .ref a0), (3, .ref a3), (6, .int a6)]) (st' := []) (mem' := m28) rfl ?_
      refine kGo_sub (lvS_of [3, 4, 1, 5, 2, 0] rfl [8, 4, 7, 0, 3, 6] rfl (by decide)) ?_
      exact m_K_mixedLoops_36_ok hz xm N _ ih N _ _ _ _ _ _ m28 R h
    · refine wp_run 1 (pc' := 73) (lv' := [(0, .ref a0), (3, .ref a3), (4, .long a4), (6, .int a6)]) (st' := [.long a4]) (mem' := mem) rfl ?_
      exact wq_end rfl rfl h
def m_K_mixedLoops (xm : Nat → Option kE) (N : Nat) (a0 : Nat) (a1 : Int64) (a3 : Nat) (mem : kM) : dRes :=
  m_K_mixedLoops_6 xm N N a0 a3 a1 0 mem
theorem m_K_mixedLoops_ok (hz : z.category = 1) (xm : Nat → Option kE) (N : Nat) {a0 : Nat} {a1 : Int64} {a3 : Nat} {mem : kM} {R : kO × kM} (h : m_K_mixedLoops xm N a0 a1 a3 mem = some R) : kCa xm (kSm z) kDfl kFty kG 7 98 [.ref a0, .long a1, .ref a3] mem (dEq R) := by
  refine wq_ca (show 4 ≤ 9 by decide) ?_
  change kGo xm (kSm z) kDfl kFty kG 6 98 0 [(0, .ref a0), (1, .long a1), (3, .ref a3)] [] mem (dEq R)
  unfold m_K_mixedLoops at h
  refine wp_run 4 (pc' := 6) (lv' := [(6, .int 0), (4, .long a1), (0, .ref a0), (1, .long a1), (3, .ref a3)]) (st' := []) (mem' := mem) rfl ?_
  refine kGo_sub (lvS_of [2, 4, 1, 0] rfl [6, 4, 0, 1, 3] rfl (by decide)) ?_
  exact m_K_mixedLoops_6_ok hz xm N N _ _ _ _ mem R h
/-- Knitstead.mixedPatterns(J)J -/
def m_K_mixedPatterns_5 (xm : Nat → Option kE) (N : Nat) : Nat → Nat → Int64 → Int32 → kM → dRes
  | 0, _, _, _, _ => none
  | n + 1, a0, a3, a5, mem =>
    dGI xm mem a0 11 7 fun v8 =>
    if a5 < v8 then (
      dGR xm mem a0 11 3 fun v16 =>
      dCJ (m_K_mixedRow xm N a3 v16 a5 5 mem) fun v22 m22 =>
      dRc xm m22 a0 11 <|
      dCV (m_K_tryOut xm N a0 a5 m22) fun m29 =>
      dGR xm m29 a0 11 6 fun v34 =>
      dGI xm m29 v34 9 1 fun v37 =>
      dCJ (m_K_mixed xm N v22 (Int32.toInt64 v37) m29) fun v41 m41 =>
      dGR xm m41 a0 11 6 fun v47 =>
      dGI xm m41 v47 9 3 fun v50 =>
      dCJ (m_K_mixed xm N v41 (Int32.toInt64 v50) m41) fun v54 m54 =>
      m_K_mixedPatterns_5 xm N n a0 v54 (a5 + 1) m54
    ) else (
      some (.inl (some (.long a3)), mem)
    )
theorem m_K_mixedPatterns_5_ok (hz : z.category = 1) (xm : Nat → Option kE) (N : Nat) : ∀ (n : Nat) (a0 : Nat) (a3 : Int64) (a5 : Int32) (mem : kM) (R : kO × kM), m_K_mixedPatterns_5 xm N n a0 a3 a5 mem = some R → kGo xm (kSm z) kDfl kFty kG 4 99 5 [(0, .ref a0), (3, .long a3), (5, .int a5)] [] mem (dEq R) := by
  intro n
  induction n with
  | zero => intro a0 a3 a5 mem R h; cases h
  | succ n ih =>
    intro a0 a3 a5 mem R h
    rw [m_K_mixedPatterns_5] at h
    refine wp_run 2 (pc' := 8) (lv' := [(0, .ref a0), (3, .long a3), (5, .int a5)]) (st' := [.ref a0, .int a5]) (mem' := mem) rfl ?_
    refine wq_gI rfl h (fun v8 h => ?_)
    refine wq_ge2 rfl h (fun h => ?_) (fun h => ?_)
    · refine wp_run 2 (pc' := 16) (lv' := [(0, .ref a0), (3, .long a3), (5, .int a5)]) (st' := [.ref a0, .long a3]) (mem' := mem) rfl ?_
      refine wq_gR rfl h (fun v16 h => ?_)
      refine wp_run 2 (pc' := 22) (lv' := [(0, .ref a0), (3, .long a3), (5, .int a5)]) (st' := [.int 5, .int a5, .ref v16, .long a3]) (mem' := mem) rfl ?_
      refine wq_cJ rfl (kCall_s (as := [.long a3, .ref v16, .int a5, .int 5]) (rest := []) ⟨by decide, rfl⟩ (show 0 ≤ 8 by decide) (by decide)) h (fun r hr => ca_up (by decide) (m_K_mixedRow_ok hz xm N hr)) (fun v22 m22 h => ?_)
      refine wp_run 3 (pc' := 29) (lv' := [(3, .long v22), (0, .ref a0), (5, .int a5)]) (st' := [.int a5, .ref a0]) (mem' := m22) rfl ?_
      obtain ⟨fk29, hk29, h⟩ := dRc_some h
      refine wq_cV rfl (kCall_v hk29 (as := [.int a5]) (rest := []) ⟨by decide, rfl, (show 1 < 90 by decide), by decide⟩ (show 0 ≤ 8 by decide)) h (fun r hr => ca_up (by decide) (m_K_tryOut_ok hz xm N hr)) (fun m29 h => ?_)
      refine wp_run 2 (pc' := 34) (lv' := [(3, .long v22), (0, .ref a0), (5, .int a5)]) (st' := [.ref a0, .long v22]) (mem' := m29) rfl ?_
      refine wq_gR rfl h (fun v34 h => ?_)
      refine wq_gI rfl h (fun v37 h => ?_)
      refine wp_run 1 (pc' := 41) (lv' := [(3, .long v22), (0, .ref a0), (5, .int a5)]) (st' := [.long (Int32.toInt64 v37), .long v22]) (mem' := m29) rfl ?_
      refine wq_cJ rfl (kCall_s (as := [.long v22, .long (Int32.toInt64 v37)]) (rest := []) ⟨by decide, rfl⟩ (show 0 ≤ 8 by decide) (by decide)) h (fun r hr => ca_up (by decide) (m_K_mixed_ok hz xm N hr)) (fun v41 m41 h => ?_)
      refine wp_run 3 (pc' := 47) (lv' := [(3, .long v41), (0, .ref a0), (5, .int a5)]) (st' := [.ref a0, .long v41]) (mem' := m41) rfl ?_
      refine wq_gR rfl h (fun v47 h => ?_)
      refine wq_gI rfl h (fun v50 h => ?_)
      refine wp_run 1 (pc' := 54) (lv' := [(3, .long v41), (0, .ref a0), (5, .int a5)]) (st' := [.long (Int32.toInt64 v50), .long v41]) (mem' := m41) rfl ?_
      refine wq_cJ rfl (kCall_s (as := [.long v41, .long (Int32.toInt64 v50)]) (rest := []) ⟨by decide, rfl⟩ (show 0 ≤ 8 by decide) (by decide)) h (fun r hr => ca_up (by decide) (m_K_mixed_ok hz xm N hr)) (fun v54 m54 h => ?_)
      refine wp_run 3 (pc' := 5) (lv' := [(5, .int (a5 + 1)), (3, .long v54), (0, .ref a0)]) (st' := []) (mem' := m54) rfl ?_
      refine kGo_sub (lvS_of [2, 1, 0] rfl [5, 3, 0] rfl (by decide)) ?_
      exact ih _ _ _ m54 R h
    · refine wp_run 1 (pc' := 65) (lv' := [(0, .ref a0), (3, .long a3), (5, .int a5)]) (st' := [.long a3]) (mem' := mem) rfl ?_
      exact wq_end rfl rfl h
def m_K_mixedPatterns (xm : Nat → Option kE) (N : Nat) (a0 : Nat) (a1 : Int64) (mem : kM) : dRes :=
  m_K_mixedPatterns_5 xm N N a0 a1 0 mem
theorem m_K_mixedPatterns_ok (hz : z.category = 1) (xm : Nat → Option kE) (N : Nat) {a0 : Nat} {a1 : Int64} {mem : kM} {R : kO × kM} (h : m_K_mixedPatterns xm N a0 a1 mem = some R) : kCa xm (kSm z) kDfl kFty kG 5 99 [.ref a0, .long a1] mem (dEq R) := by
  refine wq_ca (show 3 ≤ 6 by decide) ?_
  change kGo xm (kSm z) kDfl kFty kG 4 99 0 [(0, .ref a0), (1, .long a1)] [] mem (dEq R)
  unfold m_K_mixedPatterns at h
  refine wp_run 4 (pc' := 5) (lv' := [(5, .int 0), (3, .long a1), (0, .ref a0), (1, .long a1)]) (st' := []) (mem' := mem) rfl ?_
  refine kGo_sub (lvS_of [2, 1, 0] rfl [5, 3, 0, 1] rfl (by decide)) ?_
  exact m_K_mixedPatterns_5_ok hz xm N N _ _ _ mem R h
/-- Knitstead.digest()J -/
def m_K_digest_132 (xm : Nat → Option kE) (N : Nat) : Nat → Nat → Int64 → Int32 → kM → dRes
  | 0, _, _, _, _ => none
  | n + 1, a0, a1, a3, mem =>
    dGR xm mem a0 11 1 fun v134 =>
    dGI xm mem v134 10 3 fun v137 =>
    if a3 < v137 then (
      dGR xm mem a0 11 1 fun v145 =>
      dGR xm mem v145 10 2 fun v148 =>
      dCJ (m_K_mixedRow xm N a1 v148 a3 4 mem) fun v153 m153 =>
      m_K_digest_132 xm N n a0 v153 (a3 + 1) m153
    ) else (
      dRc xm mem a0 11 <|
      dCJ (m_K_mixedPatterns xm N a0 a1 mem) fun v165 m165 =>
      dRc xm m165 a0 11 <|
      dCI (m_K_bestPattern xm N a0 m165) fun v171 m171 =>
      dCJ (m_K_mixed xm N v165 (Int32.toInt64 v171) m171) fun v175 m175 =>
      some (.inl (some (.long v175)), m175)
    )
theorem m_K_digest_132_ok (hz : z.category = 1) (xm : Nat → Option kE) (N : Nat) : ∀ (n : Nat) (a0 : Nat) (a1 : Int64) (a3 : Int32) (mem : kM) (R : kO × kM), m_K_digest_132 xm N n a0 a1 a3 mem = some R → kGo xm (kSm z) kDfl kFty kG 7 65 132 [(0, .ref a0), (1, .long a1), (3, .int a3)] [] mem (dEq R) := by
  intro n
  induction n with
  | zero => intro a0 a1 a3 mem R h; cases h
  | succ n ih =>
    intro a0 a1 a3 mem R h
    rw [m_K_digest_132] at h
    refine wp_run 2 (pc' := 134) (lv' := [(0, .ref a0), (1, .long a1), (3, .int a3)]) (st' := [.ref a0, .int a3]) (mem' := mem) rfl ?_
    refine wq_gR rfl h (fun v134 h => ?_)
    refine wq_gI rfl h (fun v137 h => ?_)
    refine wq_ge2 rfl h (fun h => ?_) (fun h => ?_)
    · refine wp_run 2 (pc' := 145) (lv' := [(0, .ref a0), (1, .long a1), (3, .int a3)]) (st' := [.ref a0, .long a1]) (mem' := mem) rfl ?_
      refine wq_gR rfl h (fun v145 h => ?_)
      refine wq_gR rfl h (fun v148 h => ?_)
      refine wp_run 2 (pc' := 153) (lv' := [(0, .ref a0), (1, .long a1), (3, .int a3)]) (st' := [.int 4, .int a3, .ref v148, .long a1]) (mem' := mem) rfl ?_
      refine wq_cJ rfl (kCall_s (as := [.long a1, .ref v148, .int a3, .int 4]) (rest := []) ⟨by decide, rfl⟩ (show 0 ≤ 8 by decide) (by decide)) h (fun r hr => ca_up (by decide) (m_K_mixedRow_ok hz xm N hr)) (fun v153 m153 h => ?_)
      refine wp_run 3 (pc' := 132) (lv' := [(3, .int (a3 + 1)), (1, .long v153), (0, .ref a0)]) (st' := []) (mem' := m153) rfl ?_
      refine kGo_sub (lvS_of [2, 1, 0] rfl [3, 1, 0] rfl (by decide)) ?_
      exact ih _ _ _ m153 R h
    · refine wp_run 2 (pc' := 165) (lv' := [(0, .ref a0), (1, .long a1), (3, .int a3)]) (st' := [.long a1, .ref a0]) (mem' := mem) rfl ?_
      obtain ⟨fk165, hk165, h⟩ := dRc_some h
      refine wq_cJ rfl (kCall_v hk165 (as := [.long a1]) (rest := []) ⟨by decide, rfl, (show 1 < 90 by decide), by decide⟩ (show 0 ≤ 8 by decide)) h (fun r hr => ca_up (by decide) (m_K_mixedPatterns_ok hz xm N hr)) (fun v165 m165 h => ?_)
      refine wp_run 3 (pc' := 171) (lv' := [(1, .long v165), (0, .ref a0), (3, .int a3)]) (st' := [.ref a0, .long v165]) (mem' := m165) rfl ?_
      obtain ⟨fk171, hk171, h⟩ := dRc_some h
      refine wq_cI rfl (kCall_v hk171 (as := []) (rest := [.long v165]) ⟨by decide, rfl, (show 0 < 90 by decide), by decide⟩ (show 2 ≤ 8 by decide)) h (fun r hr => ca_up (by decide) (m_K_bestPattern_ok hz xm N hr)) (fun v171 m171 h => ?_)
      refine wp_run 1 (pc' := 175) (lv' := [(1, .long v165), (0, .ref a0), (3, .int a3)]) (st' := [.long (Int32.toInt64 v171), .long v165]) (mem' := m171) rfl ?_
      refine wq_cJ rfl (kCall_s (as := [.long v165, .long (Int32.toInt64 v171)]) (rest := []) ⟨by decide, rfl⟩ (show 0 ≤ 8 by decide) (by decide)) h (fun r hr => ca_up (by decide) (m_K_mixed_ok hz xm N hr)) (fun v175 m175 h => ?_)
      exact wq_end rfl rfl h
def m_K_digest_31 (xm : Nat → Option kE) (N : Nat) : Nat → Nat → Int64 → Int32 → kM → dRes
  | 0, _, _, _, _ => none
  | n + 1, a0, a1, a3, mem =>
    dGR xm mem a0 11 0 fun v33 =>
    dGI xm mem v33 5 1 fun v36 =>
    if a3 < v36 then (
      dGR xm mem a0 11 0 fun v44 =>
      dRc xm mem v44 5 <|
      dCI (m_Balls_of xm N v44 a3 mem) fun v48 m48 =>
      dCJ (m_K_mixed xm N a1 (Int32.toInt64 v48) m48) fun v52 m52 =>
      m_K_digest_31 xm N n a0 v52 (a3 + 1) m52
    ) else (
      dGR xm mem a0 11 1 fun v65 =>
      dGR xm mem v65 10 0 fun v68 =>
      dRc xm mem a0 11 <|
      dCJ (m_K_mixedLoops xm N a0 a1 v68 mem) fun v71 m71 =>
      dGR xm m71 a0 11 1 fun v78 =>
      dGR xm m71 v78 10 1 fun v81 =>
      dRc xm m71 a0 11 <|
      dCJ (m_K_mixedLoops xm N a0 v71 v81 m71) fun v84 m84 =>
      dGR xm m84 a0 11 1 fun v94 =>
      dGR xm m84 v94 10 0 fun v97 =>
      dRc xm m84 a0 11 <|
      dCF (m_K_widthOf xm N a0 v97 m84) fun v100 m100 =>
      dF32 (FP.fmul 1090519040 v100) fun v103 =>
      dCJ (m_K_mixed xm N v84 (FP.f2l v103) m100) fun v105 m105 =>
      dGR xm m105 a0 11 1 fun v115 =>
      dGR xm m105 v115 10 1 fun v118 =>
      dRc xm m105 a0 11 <|
      dCF (m_K_widthOf xm N a0 v118 m105) fun v121 m121 =>
      dF32 (FP.fmul 1090519040 v121) fun v124 =>
      dCJ (m_K_mixed xm N v105 (FP.f2l v124) m121) fun v126 m126 =>
      m_K_digest_132 xm N N a0 v126 0 m126
    )
theorem m_K_digest_31_ok (hz : z.category = 1) (xm : Nat → Option kE) (N : Nat) : ∀ (n : Nat) (a0 : Nat) (a1 : Int64) (a3 : Int32) (mem : kM) (R : kO × kM), m_K_digest_31 xm N n a0 a1 a3 mem = some R → kGo xm (kSm z) kDfl kFty kG 7 65 31 [(0, .ref a0), (1, .long a1), (3, .int a3)] [] mem (dEq R) := by
  intro n
  induction n with
  | zero => intro a0 a1 a3 mem R h; cases h
  | succ n ih =>
    intro a0 a1 a3 mem R h
    rw [m_K_digest_31] at h
    refine wp_run 2 (pc' := 33) (lv' := [(0, .ref a0), (1, .long a1), (3, .int a3)]) (st' := [.ref a0, .int a3]) (mem' := mem) rfl ?_
    refine wq_gR rfl h (fun v33 h => ?_)
    refine wq_gI rfl h (fun v36 h => ?_)
    refine wq_ge2 rfl h (fun h => ?_) (fun h => ?_)
    · refine wp_run 2 (pc' := 44) (lv' := [(0, .ref a0), (1, .long a1), (3, .int a3)]) (st' := [.ref a0, .long a1]) (mem' := mem) rfl ?_
      refine wq_gR rfl h (fun v44 h => ?_)
      refine wp_run 1 (pc' := 48) (lv' := [(0, .ref a0), (1, .long a1), (3, .int a3)]) (st' := [.int a3, .ref v44, .long a1]) (mem' := mem) rfl ?_
      obtain ⟨fk48, hk48, h⟩ := dRc_some h
      refine wq_cI rfl (kCall_v hk48 (as := [.int a3]) (rest := [.long a1]) ⟨by decide, rfl, (show 1 < 90 by decide), by decide⟩ (show 2 ≤ 8 by decide)) h (fun r hr => ca_up (by decide) (m_Balls_of_ok hz xm N hr)) (fun v48 m48 h => ?_)
      refine wp_run 1 (pc' := 52) (lv' := [(0, .ref a0), (1, .long a1), (3, .int a3)]) (st' := [.long (Int32.toInt64 v48), .long a1]) (mem' := m48) rfl ?_
      refine wq_cJ rfl (kCall_s (as := [.long a1, .long (Int32.toInt64 v48)]) (rest := []) ⟨by decide, rfl⟩ (show 0 ≤ 8 by decide) (by decide)) h (fun r hr => ca_up (by decide) (m_K_mixed_ok hz xm N hr)) (fun v52 m52 h => ?_)
      refine wp_run 3 (pc' := 31) (lv' := [(3, .int (a3 + 1)), (1, .long v52), (0, .ref a0)]) (st' := []) (mem' := m52) rfl ?_
      refine kGo_sub (lvS_of [2, 1, 0] rfl [3, 1, 0] rfl (by decide)) ?_
      exact ih _ _ _ m52 R h
    · refine wp_run 3 (pc' := 65) (lv' := [(0, .ref a0), (1, .long a1), (3, .int a3)]) (st' := [.ref a0, .long a1, .ref a0]) (mem' := mem) rfl ?_
      refine wq_gR rfl h (fun v65 h => ?_)
      refine wq_gR rfl h (fun v68 h => ?_)
      obtain ⟨fk71, hk71, h⟩ := dRc_some h
      refine wq_cJ rfl (kCall_v hk71 (as := [.long a1, .ref v68]) (rest := []) ⟨by decide, rfl, (show 2 < 90 by decide), by decide⟩ (show 0 ≤ 8 by decide)) h (fun r hr => ca_up (by decide) (m_K_mixedLoops_ok hz xm N hr)) (fun v71 m71 h => ?_)
      refine wp_run 4 (pc' := 78) (lv' := [(1, .long v71), (0, .ref a0), (3, .int a3)]) (st' := [.ref a0, .long v71, .ref a0]) (mem' := m71) rfl ?_
      refine wq_gR rfl h (fun v78 h => ?_)
      refine wq_gR rfl h (fun v81 h => ?_)
      obtain ⟨fk84, hk84, h⟩ := dRc_some h
      refine wq_cJ rfl (kCall_v hk84 (as := [.long v71, .ref v81]) (rest := []) ⟨by decide, rfl, (show 2 < 90 by decide), by decide⟩ (show 0 ≤ 8 by decide)) h (fun r hr => ca_up (by decide) (m_K_mixedLoops_ok hz xm N hr)) (fun v84 m84 h => ?_)
      refine wp_run 5 (pc' := 94) (lv' := [(1, .long v84), (0, .ref a0), (3, .int a3)]) (st' := [.ref a0, .ref a0, .float 1090519040, .long v84]) (mem' := m84) rfl ?_
      refine wq_gR rfl h (fun v94 h => ?_)
      refine wq_gR rfl h (fun v97 h => ?_)
      obtain ⟨fk100, hk100, h⟩ := dRc_some h
      refine wq_cF rfl (kCall_v hk100 (as := [.ref v97]) (rest := [.float 1090519040, .long v84]) ⟨by decide, rfl, (show 1 < 90 by decide), by decide⟩ (show 3 ≤ 8 by decide)) h (fun r hr => ca_up (by decide) (m_K_widthOf_ok hz xm N hr)) (fun v100 m100 h => ?_)
      refine wq_fmul rfl h (fun v103 h => ?_)
      refine wp_run 1 (pc' := 105) (lv' := [(1, .long v84), (0, .ref a0), (3, .int a3)]) (st' := [.long (FP.f2l v103), .long v84]) (mem' := m100) rfl ?_
      refine wq_cJ rfl (kCall_s (as := [.long v84, .long (FP.f2l v103)]) (rest := []) ⟨by decide, rfl⟩ (show 0 ≤ 8 by decide) (by decide)) h (fun r hr => ca_up (by decide) (m_K_mixed_ok hz xm N hr)) (fun v105 m105 h => ?_)
      refine wp_run 5 (pc' := 115) (lv' := [(1, .long v105), (0, .ref a0), (3, .int a3)]) (st' := [.ref a0, .ref a0, .float 1090519040, .long v105]) (mem' := m105) rfl ?_
      refine wq_gR rfl h (fun v115 h => ?_)
      refine wq_gR rfl h (fun v118 h => ?_)
      obtain ⟨fk121, hk121, h⟩ := dRc_some h
      refine wq_cF rfl (kCall_v hk121 (as := [.ref v118]) (rest := [.float 1090519040, .long v105]) ⟨by decide, rfl, (show 1 < 90 by decide), by decide⟩ (show 3 ≤ 8 by decide)) h (fun r hr => ca_up (by decide) (m_K_widthOf_ok hz xm N hr)) (fun v121 m121 h => ?_)
      refine wq_fmul rfl h (fun v124 h => ?_)
      refine wp_run 1 (pc' := 126) (lv' := [(1, .long v105), (0, .ref a0), (3, .int a3)]) (st' := [.long (FP.f2l v124), .long v105]) (mem' := m121) rfl ?_
      refine wq_cJ rfl (kCall_s (as := [.long v105, .long (FP.f2l v124)]) (rest := []) ⟨by decide, rfl⟩ (show 0 ≤ 8 by decide) (by decide)) h (fun r hr => ca_up (by decide) (m_K_mixed_ok hz xm N hr)) (fun v126 m126 h => ?_)
      refine wp_run 3 (pc' := 132) (lv' := [(3, .int 0), (1, .long v126), (0, .ref a0)]) (st' := []) (mem' := m126) rfl ?_
      refine kGo_sub (lvS_of [2, 1, 0] rfl [3, 1, 0] rfl (by decide)) ?_
      exact m_K_digest_132_ok hz xm N N _ _ _ m126 R h
def m_K_digest_6 (xm : Nat → Option kE) (N : Nat) : Nat → Nat → Int64 → Int32 → kM → dRes
  | 0, _, _, _, _ => none
  | n + 1, a0, a1, a3, mem =>
    if a3 < 16 then (
      dRc xm mem a0 11 <|
      dCI (m_K_number xm N a0 a3 mem) fun v15 m15 =>
      dCJ (m_K_mixed xm N a1 (Int32.toInt64 v15) m15) fun v19 m19 =>
      m_K_digest_6 xm N n a0 v19 (a3 + 1) m19
    ) else (
      m_K_digest_31 xm N N a0 a1 0 mem
    )
theorem m_K_digest_6_ok (hz : z.category = 1) (xm : Nat → Option kE) (N : Nat) : ∀ (n : Nat) (a0 : Nat) (a1 : Int64) (a3 : Int32) (mem : kM) (R : kO × kM), m_K_digest_6 xm N n a0 a1 a3 mem = some R → kGo xm (kSm z) kDfl kFty kG 7 65 6 [(0, .ref a0), (1, .long a1), (3, .int a3)] [] mem (dEq R) := by
  intro n
  induction n with
  | zero => intro a0 a1 a3 mem R h; cases h
  | succ n ih =>
    intro a0 a1 a3 mem R h
    rw [m_K_digest_6] at h
    refine wp_run 2 (pc' := 9) (lv' := [(0, .ref a0), (1, .long a1), (3, .int a3)]) (st' := [.int 16, .int a3]) (mem' := mem) rfl ?_
    refine wq_ge2 rfl h (fun h => ?_) (fun h => ?_)
    · refine wp_run 3 (pc' := 15) (lv' := [(0, .ref a0), (1, .long a1), (3, .int a3)]) (st' := [.int a3, .ref a0, .long a1]) (mem' := mem) rfl ?_
      obtain ⟨fk15, hk15, h⟩ := dRc_some h
      refine wq_cI rfl (kCall_v hk15 (as := [.int a3]) (rest := [.long a1]) ⟨by decide, rfl, (show 1 < 90 by decide), by decide⟩ (show 2 ≤ 8 by decide)) h (fun r hr => ca_up (by decide) (m_K_number_ok hz xm N hr)) (fun v15 m15 h => ?_)
      refine wp_run 1 (pc' := 19) (lv' := [(0, .ref a0), (1, .long a1), (3, .int a3)]) (st' := [.long (Int32.toInt64 v15), .long a1]) (mem' := m15) rfl ?_
      refine wq_cJ rfl (kCall_s (as := [.long a1, .long (Int32.toInt64 v15)]) (rest := []) ⟨by decide, rfl⟩ (show 0 ≤ 8 by decide) (by decide)) h (fun r hr => ca_up (by decide) (m_K_mixed_ok hz xm N hr)) (fun v19 m19 h => ?_)
      refine wp_run 3 (pc' := 6) (lv' := [(3, .int (a3 + 1)), (1, .long v19), (0, .ref a0)]) (st' := []) (mem' := m19) rfl ?_
      refine kGo_sub (lvS_of [2, 1, 0] rfl [3, 1, 0] rfl (by decide)) ?_
      exact ih _ _ _ m19 R h
    · refine wp_run 2 (pc' := 31) (lv' := [(3, .int 0), (0, .ref a0), (1, .long a1)]) (st' := []) (mem' := mem) rfl ?_
      refine kGo_sub (lvS_of [1, 2, 0] rfl [3, 0, 1] rfl (by decide)) ?_
      exact m_K_digest_31_ok hz xm N N _ _ _ mem R h
def m_K_digest (xm : Nat → Option kE) (N : Nat) (a0 : Nat) (mem : kM) : dRes :=
  m_K_digest_6 xm N N a0 58309 0 mem
theorem m_K_digest_ok (hz : z.category = 1) (xm : Nat → Option kE) (N : Nat) {a0 : Nat} {mem : kM} {R : kO × kM} (h : m_K_digest xm N a0 mem = some R) : kCa xm (kSm z) kDfl kFty kG 8 65 [.ref a0] mem (dEq R) := by
  refine wq_ca (show 1 ≤ 4 by decide) ?_
  change kGo xm (kSm z) kDfl kFty kG 7 65 0 [(0, .ref a0)] [] mem (dEq R)
  unfold m_K_digest at h
  refine wp_run 4 (pc' := 6) (lv' := [(3, .int 0), (1, .long 58309), (0, .ref a0)]) (st' := []) (mem' := mem) rfl ?_
  refine kGo_sub (lvS_of [2, 1, 0] rfl [3, 1, 0] rfl (by decide)) ?_
  exact m_K_digest_6_ok hz xm N N _ _ _ mem R h
/-- KnitsteadLaw.below(II)I -/
def m_law_below (xm : Nat → Option kE) (N : Nat) (a0 : Int32) (a1 : Int32) (mem : kM) : dRes :=
  dNz a1 <|
  some (.inl (some (.int ((a0 &&& 2147483647) - (a0 &&& 2147483647) / a1 * a1))), mem)
theorem m_law_below_ok (hz : z.category = 1) (xm : Nat → Option kE) (N : Nat) {a0 : Int32} {a1 : Int32} {mem : kM} {R : kO × kM} (h : m_law_below xm N a0 a1 mem = some R) : kCa xm (kSm z) kDfl kFty kG 1 134 [.int a0, .int a1] mem (dEq R) := by
  refine wq_ca (show 2 ≤ 2 by decide) ?_
  change kGo xm (kSm z) kDfl kFty kG 0 134 0 [(0, .int a0), (1, .int a1)] [] mem (dEq R)
  unfold m_law_below at h
  refine wp_run 4 (pc' := 5) (lv' := [(0, .int a0), (1, .int a1)]) (st' := [.int a1, .int (a0 &&& 2147483647)]) (mem' := mem) rfl ?_
  refine wq_irem rfl h (fun h => ?_)
  exact wq_ret rfl rfl h
/-- KnitsteadLaw.cell([II)I -/
def m_law_cell (xm : Nat → Option kE) (N : Nat) (a0 : Nat) (a1 : Int32) (mem : kM) : dRes :=
  dLen xm mem a0 fun v2 =>
  if a1 < v2 then (
    dIL xm 0 mem a0 a1 fun v8 =>
    some (.inl (some (.int v8)), mem)
  ) else (
    some (.inl (some (.int (790386105 * (a1 + 3)))), mem)
  )
theorem m_law_cell_ok (hz : z.category = 1) (xm : Nat → Option kE) (N : Nat) {a0 : Nat} {a1 : Int32} {mem : kM} {R : kO × kM} (h : m_law_cell xm N a0 a1 mem = some R) : kCa xm (kSm z) kDfl kFty kG 1 135 [.ref a0, .int a1] mem (dEq R) := by
  refine wq_ca (show 2 ≤ 2 by decide) ?_
  change kGo xm (kSm z) kDfl kFty kG 0 135 0 [(0, .ref a0), (1, .int a1)] [] mem (dEq R)
  unfold m_law_cell at h
  refine wp_run 2 (pc' := 2) (lv' := [(0, .ref a0), (1, .int a1)]) (st' := [.ref a0, .int a1]) (mem' := mem) rfl ?_
  refine wq_len rfl h (fun v2 h => ?_)
  refine wq_ge2 rfl h (fun h => ?_) (fun h => ?_)
  · refine wp_run 2 (pc' := 8) (lv' := [(0, .ref a0), (1, .int a1)]) (st' := [.int a1, .ref a0]) (mem' := mem) rfl ?_
    refine wq_iL rfl h (fun v8 h => ?_)
    refine wp_run 1 (pc' := 18) (lv' := [(0, .ref a0), (1, .int a1)]) (st' := [.int v8]) (mem' := mem) rfl ?_
    exact wq_ret rfl rfl h
  · refine wp_run 5 (pc' := 18) (lv' := [(0, .ref a0), (1, .int a1)]) (st' := [.int (790386105 * (a1 + 3))]) (mem' := mem) rfl ?_
    exact wq_ret rfl rfl h
/-- Knitstead$Balls.init()V -/
def m_Balls_new (xm : Nat → Option kE) (N : Nat) (a0 : Nat) (mem : kM) : dRes :=
  dNI 0 mem 4 fun m6 p6 =>
  dP xm m6 a0 5 0 (.ref p6) fun m8 =>
  dP xm m8 a0 5 2 (.int (-1)) fun m13 =>
  some (.inl none, m13)
theorem m_Balls_new_ok (hz : z.category = 1) (xm : Nat → Option kE) (N : Nat) {a0 : Nat} {mem : kM} {R : kO × kM} (h : m_Balls_new xm N a0 mem = some R) : kCa xm (kSm z) kDfl kFty kG 1 1 [.ref a0] mem (dEq R) := by
  refine wq_ca (show 1 ≤ 1 by decide) ?_
  change kGo xm (kSm z) kDfl kFty kG 0 1 0 [(0, .ref a0)] [] mem (dEq R)
  unfold m_Balls_new at h
  refine wp_run 4 (pc' := 6) (lv' := [(0, .ref a0)]) (st' := [.int 4, .ref a0]) (mem' := mem) rfl ?_
  refine wq_nI rfl rfl h (fun m6 p6 h => ?_)
  refine wq_p rfl rfl h (fun m8 h => ?_)
  refine wp_run 2 (pc' := 13) (lv' := [(0, .ref a0)]) (st' := [.int (-1), .ref a0]) (mem' := m8) rfl ?_
  refine wq_p rfl rfl h (fun m13 h => ?_)
  exact wq_end rfl rfl h
/-- Knitstead$Needle.init()V -/
def m_Needle_new (xm : Nat → Option kE) (N : Nat) (a0 : Nat) (mem : kM) : dRes :=
  dNI 0 mem 24 fun m7 p7 =>
  dP xm m7 a0 7 0 (.ref p7) fun m9 =>
  some (.inl none, m9)
theorem m_Needle_new_ok (hz : z.category = 1) (xm : Nat → Option kE) (N : Nat) {a0 : Nat} {mem : kM} {R : kO × kM} (h : m_Needle_new xm N a0 mem = some R) : kCa xm (kSm z) kDfl kFty kG 1 13 [.ref a0] mem (dEq R) := by
  refine wq_ca (show 1 ≤ 1 by decide) ?_
  change kGo xm (kSm z) kDfl kFty kG 0 13 0 [(0, .ref a0)] [] mem (dEq R)
  unfold m_Needle_new at h
  refine wp_run 4 (pc' := 7) (lv' := [(0, .ref a0)]) (st' := [.int 24, .ref a0]) (mem' := mem) rfl ?_
  refine wq_nI rfl rfl h (fun m7 p7 h => ?_)
  refine wq_p rfl rfl h (fun m9 h => ?_)
  exact wq_end rfl rfl h
/-- Knitstead$Table.init(III)V -/
def m_Table_new (xm : Nat → Option kE) (N : Nat) (a0 : Nat) (a1 : Int32) (a2 : Int32) (a3 : Int32) (mem : kM) : dRes :=
  dCI (m_Math_max xm N 1 a1 mem) fun v7 m7 =>
  dP xm m7 a0 8 0 (.int v7) fun m10 =>
  dCI (m_Math_max xm N 0 a3 m10) fun v16 m16 =>
  dP xm m16 a0 8 1 (.int v16) fun m19 =>
  dGI xm m19 a0 8 0 fun v25 =>
  dCI (m_Math_max xm N 0 (v25 * a2) m19) fun v30 m30 =>
  dNI 0 m30 v30 fun m33 p33 =>
  dP xm m33 a0 8 2 (.ref p33) fun m35 =>
  some (.inl none, m35)
theorem m_Table_new_ok (hz : z.category = 1) (xm : Nat → Option kE) (N : Nat) {a0 : Nat} {a1 : Int32} {a2 : Int32} {a3 : Int32} {mem : kM} {R : kO × kM} (h : m_Table_new xm N a0 a1 a2 a3 mem = some R) : kCa xm (kSm z) kDfl kFty kG 2 22 [.ref a0, .int a1, .int a2, .int a3] mem (dEq R) := by
  refine wq_ca (show 4 ≤ 4 by decide) ?_
  change kGo xm (kSm z) kDfl kFty kG 1 22 0 [(0, .ref a0), (1, .int a1), (2, .int a2), (3, .int a3)] [] mem (dEq R)
  unfold m_Table_new at h
  refine wp_run 5 (pc' := 7) (lv' := [(0, .ref a0), (1, .int a1), (2, .int a2), (3, .int a3)]) (st' := [.int a1, .int 1, .ref a0]) (mem' := mem) rfl ?_
  refine wq_cI rfl (kCall_s (as := [.int 1, .int a1]) (rest := [.ref a0]) ⟨by decide, rfl⟩ (show 1 ≤ 8 by decide) (by decide)) h (fun r hr => ca_up (by decide) (m_Math_max_ok hz xm N hr)) (fun v7 m7 h => ?_)
  refine wq_p rfl rfl h (fun m10 h => ?_)
  refine wp_run 3 (pc' := 16) (lv' := [(0, .ref a0), (1, .int a1), (2, .int a2), (3, .int a3)]) (st' := [.int a3, .int 0, .ref a0]) (mem' := m10) rfl ?_
  refine wq_cI rfl (kCall_s (as := [.int 0, .int a3]) (rest := [.ref a0]) ⟨by decide, rfl⟩ (show 1 ≤ 8 by decide) (by decide)) h (fun r hr => ca_up (by decide) (m_Math_max_ok hz xm N hr)) (fun v16 m16 h => ?_)
  refine wq_p rfl rfl h (fun m19 h => ?_)
  refine wp_run 3 (pc' := 25) (lv' := [(0, .ref a0), (1, .int a1), (2, .int a2), (3, .int a3)]) (st' := [.ref a0, .int 0, .ref a0]) (mem' := m19) rfl ?_
  refine wq_gI rfl h (fun v25 h => ?_)
  refine wp_run 2 (pc' := 30) (lv' := [(0, .ref a0), (1, .int a1), (2, .int a2), (3, .int a3)]) (st' := [.int (v25 * a2), .int 0, .ref a0]) (mem' := m19) rfl ?_
  refine wq_cI rfl (kCall_s (as := [.int 0, .int (v25 * a2)]) (rest := [.ref a0]) ⟨by decide, rfl⟩ (show 1 ≤ 8 by decide) (by decide)) h (fun r hr => ca_up (by decide) (m_Math_max_ok hz xm N hr)) (fun v30 m30 h => ?_)
  refine wq_nI rfl rfl h (fun m33 p33 h => ?_)
  refine wq_p rfl rfl h (fun m35 h => ?_)
  exact wq_end rfl rfl h
/-- Knitstead$Work.init()V -/
def m_Work_new (xm : Nat → Option kE) (N : Nat) (a0 : Nat) (mem : kM) : dRes :=
  dN mem (.inl (7, [.null, .int 0])) fun m5 p5 =>
  dCV (m_Needle_new xm N p5 m5) fun m9 =>
  dP xm m9 a0 10 0 (.ref p5) fun m12 =>
  dN m12 (.inl (7, [.null, .int 0])) fun m16 p16 =>
  dCV (m_Needle_new xm N p16 m16) fun m20 =>
  dP xm m20 a0 10 1 (.ref p16) fun m23 =>
  dN m23 (.inl (8, [.int 0, .int 0, .null])) fun m27 p27 =>
  dCV (m_Table_new xm N p27 4 9 9 m27) fun m36 =>
  dP xm m36 a0 10 2 (.ref p27) fun m39 =>
  some (.inl none, m39)
theorem m_Work_new_ok (hz : z.category = 1) (xm : Nat → Option kE) (N : Nat) {a0 : Nat} {mem : kM} {R : kO × kM} (h : m_Work_new xm N a0 mem = some R) : kCa xm (kSm z) kDfl kFty kG 3 31 [.ref a0] mem (dEq R) := by
  refine wq_ca (show 1 ≤ 1 by decide) ?_
  change kGo xm (kSm z) kDfl kFty kG 2 31 0 [(0, .ref a0)] [] mem (dEq R)
  unfold m_Work_new at h
  refine wp_run 3 (pc' := 5) (lv' := [(0, .ref a0)]) (st' := [.ref a0]) (mem' := mem) rfl ?_
  refine wq_n rfl (by decide) rfl h (fun m5 p5 h => ?_)
  refine wp_run 1 (pc' := 9) (lv' := [(0, .ref a0)]) (st' := [.ref p5, .ref p5, .ref a0]) (mem' := m5) rfl ?_
  refine wq_cV rfl (kCall_i (as := []) (rest := [.ref p5, .ref a0]) ⟨by decide, rfl, (show 0 < 90 by decide)⟩ (show 2 ≤ 8 by decide)) h (fun r hr => ca_up (by decide) (m_Needle_new_ok hz xm N hr)) (fun m9 h => ?_)
  refine wq_p rfl rfl h (fun m12 h => ?_)
  refine wp_run 1 (pc' := 16) (lv' := [(0, .ref a0)]) (st' := [.ref a0]) (mem' := m12) rfl ?_
  refine wq_n rfl (by decide) rfl h (fun m16 p16 h => ?_)
  refine wp_run 1 (pc' := 20) (lv' := [(0, .ref a0)]) (st' := [.ref p16, .ref p16, .ref a0]) (mem' := m16) rfl ?_
  refine wq_cV rfl (kCall_i (as := []) (rest := [.ref p16, .ref a0]) ⟨by decide, rfl, (show 0 < 90 by decide)⟩ (show 2 ≤ 8 by decide)) h (fun r hr => ca_up (by decide) (m_Needle_new_ok hz xm N hr)) (fun m20 h => ?_)
  refine wq_p rfl rfl h (fun m23 h => ?_)
  refine wp_run 1 (pc' := 27) (lv' := [(0, .ref a0)]) (st' := [.ref a0]) (mem' := m23) rfl ?_
  refine wq_n rfl (by decide) rfl h (fun m27 p27 h => ?_)
  refine wp_run 4 (pc' := 36) (lv' := [(0, .ref a0)]) (st' := [.int 9, .int 9, .int 4, .ref p27, .ref p27, .ref a0]) (mem' := m27) rfl ?_
  refine wq_cV rfl (kCall_i (as := [.int 4, .int 9, .int 9]) (rest := [.ref p27, .ref a0]) ⟨by decide, rfl, (show 3 < 90 by decide)⟩ (show 2 ≤ 8 by decide)) h (fun r hr => ca_up (by decide) (m_Table_new_ok hz xm N hr)) (fun m36 h => ?_)
  refine wq_p rfl rfl h (fun m39 h => ?_)
  exact wq_end rfl rfl h
/-- Knitstead$History.init()V -/
def m_History_new_31 (xm : Nat → Option kE) (N : Nat) : Nat → Nat → Int32 → kM → dRes
  | 0, _, _, _ => none
  | n + 1, a0, a1, mem =>
    dGR xm mem a0 6 0 fun v33 =>
    dLen xm mem v33 fun v36 =>
    if a1 < v36 then (
      dGR xm mem a0 6 0 fun v41 =>
      dN mem (.inl (10, [.null, .null, .null, .int 0, .int 0, .int 0, .int 0, .int 0, .int 0, .int 0])) fun m45 p45 =>
      dCV (m_Work_new xm N p45 m45) fun m49 =>
      dAS xm m49 v41 a1 (some p45) fun m52 =>
      m_History_new_31 xm N n a0 (a1 + 1) m52
    ) else (
      some (.inl none, mem)
    )
theorem m_History_new_31_ok (hz : z.category = 1) (xm : Nat → Option kE) (N : Nat) : ∀ (n : Nat) (a0 : Nat) (a1 : Int32) (mem : kM) (R : kO × kM), m_History_new_31 xm N n a0 a1 mem = some R → kGo xm (kSm z) kDfl kFty kG 3 9 31 [(0, .ref a0), (1, .int a1)] [] mem (dEq R) := by
  intro n
  induction n with
  | zero => intro a0 a1 mem R h; cases h
  | succ n ih =>
    intro a0 a1 mem R h
    rw [m_History_new_31] at h
    refine wp_run 2 (pc' := 33) (lv' := [(0, .ref a0), (1, .int a1)]) (st' := [.ref a0, .int a1]) (mem' := mem) rfl ?_
    refine wq_gR rfl h (fun v33 h => ?_)
    refine wq_len rfl h (fun v36 h => ?_)
    refine wq_ge2 rfl h (fun h => ?_) (fun h => ?_)
    · refine wp_run 1 (pc' := 41) (lv' := [(0, .ref a0), (1, .int a1)]) (st' := [.ref a0]) (mem' := mem) rfl ?_
      refine wq_gR rfl h (fun v41 h => ?_)
      refine wp_run 1 (pc' := 45) (lv' := [(0, .ref a0), (1, .int a1)]) (st' := [.int a1, .ref v41]) (mem' := mem) rfl ?_
      refine wq_n rfl (by decide) rfl h (fun m45 p45 h => ?_)
      refine wp_run 1 (pc' := 49) (lv' := [(0, .ref a0), (1, .int a1)]) (st' := [.ref p45, .ref p45, .int a1, .ref v41]) (mem' := m45) rfl ?_
      refine wq_cV rfl (kCall_i (as := []) (rest := [.ref p45, .int a1, .ref v41]) ⟨by decide, rfl, (show 0 < 90 by decide)⟩ (show 3 ≤ 8 by decide)) h (fun r hr => ca_up (by decide) (m_Work_new_ok hz xm N hr)) (fun m49 h => ?_)
      refine wq_aS rfl h (fun m52 h => ?_)
      refine wp_run 2 (pc' := 31) (lv' := [(1, .int (a1 + 1)), (0, .ref a0)]) (st' := []) (mem' := m52) rfl ?_
      refine kGo_sub (lvS_of [1, 0] rfl [1, 0] rfl (by decide)) ?_
      exact ih _ _ m52 R h
    · exact wq_end rfl rfl h
def m_History_new (xm : Nat → Option kE) (N : Nat) (a0 : Nat) (mem : kM) : dRes :=
  dNA 3 mem 12 fun m7 p7 =>
  dP xm m7 a0 6 0 (.ref p7) fun m10 =>
  dNI 0 m10 12 fun m16 p16 =>
  dP xm m16 a0 6 1 (.ref p16) fun m18 =>
  dNI 0 m18 12 fun m24 p24 =>
  dP xm m24 a0 6 2 (.ref p24) fun m26 =>
  m_History_new_31 xm N N a0 0 m26
theorem m_History_new_ok (hz : z.category = 1) (xm : Nat → Option kE) (N : Nat) {a0 : Nat} {mem : kM} {R : kO × kM} (h : m_History_new xm N a0 mem = some R) : kCa xm (kSm z) kDfl kFty kG 4 9 [.ref a0] mem (dEq R) := by
  refine wq_ca (show 1 ≤ 2 by decide) ?_
  change kGo xm (kSm z) kDfl kFty kG 3 9 0 [(0, .ref a0)] [] mem (dEq R)
  unfold m_History_new at h
  refine wp_run 4 (pc' := 7) (lv' := [(0, .ref a0)]) (st' := [.int 12, .ref a0]) (mem' := mem) rfl ?_
  refine wq_nA rfl h (fun m7 p7 h => ?_)
  refine wq_p rfl rfl h (fun m10 h => ?_)
  refine wp_run 2 (pc' := 16) (lv' := [(0, .ref a0)]) (st' := [.int 12, .ref a0]) (mem' := m10) rfl ?_
  refine wq_nI rfl rfl h (fun m16 p16 h => ?_)
  refine wq_p rfl rfl h (fun m18 h => ?_)
  refine wp_run 2 (pc' := 24) (lv' := [(0, .ref a0)]) (st' := [.int 12, .ref a0]) (mem' := m18) rfl ?_
  refine wq_nI rfl rfl h (fun m24 p24 h => ?_)
  refine wq_p rfl rfl h (fun m26 h => ?_)
  refine wp_run 2 (pc' := 31) (lv' := [(1, .int 0), (0, .ref a0)]) (st' := []) (mem' := m26) rfl ?_
  refine kGo_sub (lvS_of [1, 0] rfl [1, 0] rfl (by decide)) ?_
  exact m_History_new_31_ok hz xm N N _ _ m26 R h
/-- Knitstead$Trial.init()V -/
def m_Trial_new (xm : Nat → Option kE) (N : Nat) (a0 : Nat) (mem : kM) : dRes :=
  some (.inl none, mem)
theorem m_Trial_new_ok (hz : z.category = 1) (xm : Nat → Option kE) (N : Nat) {a0 : Nat} {mem : kM} {R : kO × kM} (h : m_Trial_new xm N a0 mem = some R) : kCa xm (kSm z) kDfl kFty kG 1 28 [.ref a0] mem (dEq R) := by
  refine wq_ca (show 1 ≤ 1 by decide) ?_
  change kGo xm (kSm z) kDfl kFty kG 0 28 0 [(0, .ref a0)] [] mem (dEq R)
  unfold m_Trial_new at h
  refine wp_run 2 (pc' := 4) (lv' := [(0, .ref a0)]) (st' := []) (mem' := mem) rfl ?_
  exact wq_end rfl rfl h
/-- Knitstead.init()V -/
def m_K_new (xm : Nat → Option kE) (N : Nat) (a0 : Nat) (mem : kM) : dRes :=
  dN mem (.inl (5, [.null, .int 0, .int 0])) fun m5 p5 =>
  dCV (m_Balls_new xm N p5 m5) fun m9 =>
  dP xm m9 a0 11 0 (.ref p5) fun m12 =>
  dN m12 (.inl (10, [.null, .null, .null, .int 0, .int 0, .int 0, .int 0, .int 0, .int 0, .int 0])) fun m16 p16 =>
  dCV (m_Work_new xm N p16 m16) fun m20 =>
  dP xm m20 a0 11 1 (.ref p16) fun m23 =>
  dN m23 (.inl (8, [.int 0, .int 0, .null])) fun m27 p27 =>
  dCV (m_Table_new xm N p27 6 64 19998 m27) fun m38 =>
  dP xm m38 a0 11 2 (.ref p27) fun m41 =>
  dN m41 (.inl (8, [.int 0, .int 0, .null])) fun m45 p45 =>
  dCV (m_Table_new xm N p45 5 6 6 m45) fun m54 =>
  dP xm m54 a0 11 3 (.ref p45) fun m57 =>
  dN m57 (.inl (8, [.int 0, .int 0, .null])) fun m61 p61 =>
  dCV (m_Table_new xm N p61 9 6 6 m61) fun m71 =>
  dP xm m71 a0 11 4 (.ref p61) fun m74 =>
  dN m74 (.inl (6, [.null, .null, .null, .int 0, .int 0])) fun m78 p78 =>
  dCV (m_History_new xm N p78 m78) fun m82 =>
  dP xm m82 a0 11 5 (.ref p78) fun m85 =>
  dN m85 (.inl (9, [.int 0, .int 0, .int 0, .int 0, .int 0])) fun m89 p89 =>
  dCV (m_Trial_new xm N p89 m89) fun m93 =>
  dP xm m93 a0 11 6 (.ref p89) fun m96 =>
  some (.inl none, m96)
theorem m_K_new_ok (hz : z.category = 1) (xm : Nat → Option kE) (N : Nat) {a0 : Nat} {mem : kM} {R : kO × kM} (h : m_K_new xm N a0 mem = some R) : kCa xm (kSm z) kDfl kFty kG 5 39 [.ref a0] mem (dEq R) := by
  refine wq_ca (show 1 ≤ 1 by decide) ?_
  change kGo xm (kSm z) kDfl kFty kG 4 39 0 [(0, .ref a0)] [] mem (dEq R)
  unfold m_K_new at h
  refine wp_run 3 (pc' := 5) (lv' := [(0, .ref a0)]) (st' := [.ref a0]) (mem' := mem) rfl ?_
  refine wq_n rfl (by decide) rfl h (fun m5 p5 h => ?_)
  refine wp_run 1 (pc' := 9) (lv' := [(0, .ref a0)]) (st' := [.ref p5, .ref p5, .ref a0]) (mem' := m5) rfl ?_
  refine wq_cV rfl (kCall_i (as := []) (rest := [.ref p5, .ref a0]) ⟨by decide, rfl, (show 0 < 90 by decide)⟩ (show 2 ≤ 8 by decide)) h (fun r hr => ca_up (by decide) (m_Balls_new_ok hz xm N hr)) (fun m9 h => ?_)
  refine wq_p rfl rfl h (fun m12 h => ?_)
  refine wp_run 1 (pc' := 16) (lv' := [(0, .ref a0)]) (st' := [.ref a0]) (mem' := m12) rfl ?_
  refine wq_n rfl (by decide) rfl h (fun m16 p16 h => ?_)
  refine wp_run 1 (pc' := 20) (lv' := [(0, .ref a0)]) (st' := [.ref p16, .ref p16, .ref a0]) (mem' := m16) rfl ?_
  refine wq_cV rfl (kCall_i (as := []) (rest := [.ref p16, .ref a0]) ⟨by decide, rfl, (show 0 < 90 by decide)⟩ (show 2 ≤ 8 by decide)) h (fun r hr => ca_up (by decide) (m_Work_new_ok hz xm N hr)) (fun m20 h => ?_)
  refine wq_p rfl rfl h (fun m23 h => ?_)
  refine wp_run 1 (pc' := 27) (lv' := [(0, .ref a0)]) (st' := [.ref a0]) (mem' := m23) rfl ?_
  refine wq_n rfl (by decide) rfl h (fun m27 p27 h => ?_)
  refine wp_run 4 (pc' := 38) (lv' := [(0, .ref a0)]) (st' := [.int 19998, .int 64, .int 6, .ref p27, .ref p27, .ref a0]) (mem' := m27) rfl ?_
  refine wq_cV rfl (kCall_i (as := [.int 6, .int 64, .int 19998]) (rest := [.ref p27, .ref a0]) ⟨by decide, rfl, (show 3 < 90 by decide)⟩ (show 2 ≤ 8 by decide)) h (fun r hr => ca_up (by decide) (m_Table_new_ok hz xm N hr)) (fun m38 h => ?_)
  refine wq_p rfl rfl h (fun m41 h => ?_)
  refine wp_run 1 (pc' := 45) (lv' := [(0, .ref a0)]) (st' := [.ref a0]) (mem' := m41) rfl ?_
  refine wq_n rfl (by decide) rfl h (fun m45 p45 h => ?_)
  refine wp_run 4 (pc' := 54) (lv' := [(0, .ref a0)]) (st' := [.int 6, .int 6, .int 5, .ref p45, .ref p45, .ref a0]) (mem' := m45) rfl ?_
  refine wq_cV rfl (kCall_i (as := [.int 5, .int 6, .int 6]) (rest := [.ref p45, .ref a0]) ⟨by decide, rfl, (show 3 < 90 by decide)⟩ (show 2 ≤ 8 by decide)) h (fun r hr => ca_up (by decide) (m_Table_new_ok hz xm N hr)) (fun m54 h => ?_)
  refine wq_p rfl rfl h (fun m57 h => ?_)
  refine wp_run 1 (pc' := 61) (lv' := [(0, .ref a0)]) (st' := [.ref a0]) (mem' := m57) rfl ?_
  refine wq_n rfl (by decide) rfl h (fun m61 p61 h => ?_)
  refine wp_run 4 (pc' := 71) (lv' := [(0, .ref a0)]) (st' := [.int 6, .int 6, .int 9, .ref p61, .ref p61, .ref a0]) (mem' := m61) rfl ?_
  refine wq_cV rfl (kCall_i (as := [.int 9, .int 6, .int 6]) (rest := [.ref p61, .ref a0]) ⟨by decide, rfl, (show 3 < 90 by decide)⟩ (show 2 ≤ 8 by decide)) h (fun r hr => ca_up (by decide) (m_Table_new_ok hz xm N hr)) (fun m71 h => ?_)
  refine wq_p rfl rfl h (fun m74 h => ?_)
  refine wp_run 1 (pc' := 78) (lv' := [(0, .ref a0)]) (st' := [.ref a0]) (mem' := m74) rfl ?_
  refine wq_n rfl (by decide) rfl h (fun m78 p78 h => ?_)
  refine wp_run 1 (pc' := 82) (lv' := [(0, .ref a0)]) (st' := [.ref p78, .ref p78, .ref a0]) (mem' := m78) rfl ?_
  refine wq_cV rfl (kCall_i (as := []) (rest := [.ref p78, .ref a0]) ⟨by decide, rfl, (show 0 < 90 by decide)⟩ (show 2 ≤ 8 by decide)) h (fun r hr => ca_up (by decide) (m_History_new_ok hz xm N hr)) (fun m82 h => ?_)
  refine wq_p rfl rfl h (fun m85 h => ?_)
  refine wp_run 1 (pc' := 89) (lv' := [(0, .ref a0)]) (st' := [.ref a0]) (mem' := m85) rfl ?_
  refine wq_n rfl (by decide) rfl h (fun m89 p89 h => ?_)
  refine wp_run 1 (pc' := 93) (lv' := [(0, .ref a0)]) (st' := [.ref p89, .ref p89, .ref a0]) (mem' := m89) rfl ?_
  refine wq_cV rfl (kCall_i (as := []) (rest := [.ref p89, .ref a0]) ⟨by decide, rfl, (show 0 < 90 by decide)⟩ (show 2 ≤ 8 by decide)) h (fun r hr => ca_up (by decide) (m_Trial_new_ok hz xm N hr)) (fun m93 h => ?_)
  refine wq_p rfl rfl h (fun m96 h => ?_)
  exact wq_end rfl rfl h
/-- Knitstead$Balls.add(I)I -/
def m_Balls_add (xm : Nat → Option kE) (N : Nat) (a0 : Nat) (a1 : Int32) (mem : kM) : dRes :=
  dGI xm mem a0 5 1 fun v1 =>
  if v1 < 0 then (
    some (.inl (some (.int (-1))), mem)
  ) else (
    dGR xm mem a0 5 0 fun v11 =>
    dLen xm mem v11 fun v14 =>
    if v1 < v14 then (
      dGR xm mem a0 5 0 fun v21 =>
      dIS xm mem v21 v1 a1 fun m26 =>
      dGI xm m26 a0 5 1 fun v29 =>
      dP xm m26 a0 5 1 (.int (v29 + 1)) fun m34 =>
      some (.inl (some (.int v1)), m34)
    ) else (
      some (.inl (some (.int (-1))), mem)
    )
  )
theorem m_Balls_add_ok (hz : z.category = 1) (xm : Nat → Option kE) (N : Nat) {a0 : Nat} {a1 : Int32} {mem : kM} {R : kO × kM} (h : m_Balls_add xm N a0 a1 mem = some R) : kCa xm (kSm z) kDfl kFty kG 1 3 [.ref a0, .int a1] mem (dEq R) := by
  refine wq_ca (show 2 ≤ 3 by decide) ?_
  change kGo xm (kSm z) kDfl kFty kG 0 3 0 [(0, .ref a0), (1, .int a1)] [] mem (dEq R)
  unfold m_Balls_add at h
  refine wp_run 1 (pc' := 1) (lv' := [(0, .ref a0), (1, .int a1)]) (st' := [.ref a0]) (mem' := mem) rfl ?_
  refine wq_gI rfl h (fun v1 h => ?_)
  refine wp_run 2 (pc' := 6) (lv' := [(2, .int v1), (0, .ref a0), (1, .int a1)]) (st' := [.int v1]) (mem' := mem) rfl ?_
  refine wq_lt rfl h (fun h => ?_) (fun h => ?_)
  · refine wp_run 1 (pc' := 19) (lv' := [(2, .int v1), (0, .ref a0), (1, .int a1)]) (st' := [.int (-1)]) (mem' := mem) rfl ?_
    exact wq_ret rfl rfl h
  · refine wp_run 2 (pc' := 11) (lv' := [(2, .int v1), (0, .ref a0), (1, .int a1)]) (st' := [.ref a0, .int v1]) (mem' := mem) rfl ?_
    refine wq_gR rfl h (fun v11 h => ?_)
    refine wq_len rfl h (fun v14 h => ?_)
    refine wq_lt2 rfl h (fun h => ?_) (fun h => ?_)
    · refine wp_run 1 (pc' := 21) (lv' := [(2, .int v1), (0, .ref a0), (1, .int a1)]) (st' := [.ref a0]) (mem' := mem) rfl ?_
      refine wq_gR rfl h (fun v21 h => ?_)
      refine wp_run 2 (pc' := 26) (lv' := [(2, .int v1), (0, .ref a0), (1, .int a1)]) (st' := [.int a1, .int v1, .ref v21]) (mem' := mem) rfl ?_
      refine wq_iS rfl h (fun m26 h => ?_)
      refine wp_run 2 (pc' := 29) (lv' := [(2, .int v1), (0, .ref a0), (1, .int a1)]) (st' := [.ref a0, .ref a0]) (mem' := m26) rfl ?_
      refine wq_gI rfl h (fun v29 h => ?_)
      refine wp_run 2 (pc' := 34) (lv' := [(2, .int v1), (0, .ref a0), (1, .int a1)]) (st' := [.int (v29 + 1), .ref a0]) (mem' := m26) rfl ?_
      refine wq_p rfl rfl h (fun m34 h => ?_)
      refine wp_run 1 (pc' := 38) (lv' := [(2, .int v1), (0, .ref a0), (1, .int a1)]) (st' := [.int v1]) (mem' := m34) rfl ?_
      exact wq_ret rfl rfl h
    · refine wp_run 1 (pc' := 19) (lv' := [(2, .int v1), (0, .ref a0), (1, .int a1)]) (st' := [.int (-1)]) (mem' := mem) rfl ?_
      exact wq_ret rfl rfl h
/-- Knitstead.buy(I)I -/
def m_K_buy (xm : Nat → Option kE) (N : Nat) (a0 : Nat) (a1 : Int32) (mem : kM) : dRes :=
  if a1 < 1 then (
    some (.inr 0, mem ++ [.inl (1000, [.null, .null, .null, .null, .null, .null])])
  ) else (
    if 9999 < a1 then (
      some (.inr 0, mem ++ [.inl (1000, [.null, .null, .null, .null, .null, .null])])
    ) else (
      dGR xm mem a0 11 0 fun v23 =>
      dGI xm mem v23 5 1 fun v26 =>
      if v26 < 4 then (
        dGR xm mem a0 11 0 fun v44 =>
        dRc xm mem v44 5 <|
        dCI (m_Balls_add xm N v44 a1 mem) fun v48 m48 =>
        some (.inl (some (.int v48)), m48)
      ) else (
        some (.inr 1, mem ++ [.inl (1000, [.null, .null, .null, .null, .null, .null])])
      )
    )
  )
theorem m_K_buy_ok (hz : z.category = 1) (xm : Nat → Option kE) (N : Nat) {a0 : Nat} {a1 : Int32} {mem : kM} {R : kO × kM} (h : m_K_buy xm N a0 a1 mem = some R) : kCa xm (kSm z) kDfl kFty kG 2 40 [.ref a0, .int a1] mem (dEq R) := by
  refine wq_ca (show 2 ≤ 2 by decide) ?_
  change kGo xm (kSm z) kDfl kFty kG 1 40 0 [(0, .ref a0), (1, .int a1)] [] mem (dEq R)
  unfold m_K_buy at h
  refine wp_run 2 (pc' := 2) (lv' := [(0, .ref a0), (1, .int a1)]) (st' := [.int 1, .int a1]) (mem' := mem) rfl ?_
  refine wq_lt2 rfl h (fun h => ?_) (fun h => ?_)
  · exact wq_end rfl rfl h
  · refine wp_run 2 (pc' := 9) (lv' := [(0, .ref a0), (1, .int a1)]) (st' := [.int 9999, .int a1]) (mem' := mem) rfl ?_
    refine wq_le2 rfl h (fun h => ?_) (fun h => ?_)
    · exact wq_end rfl rfl h
    · refine wp_run 1 (pc' := 23) (lv' := [(0, .ref a0), (1, .int a1)]) (st' := [.ref a0]) (mem' := mem) rfl ?_
      refine wq_gR rfl h (fun v23 h => ?_)
      refine wq_gI rfl h (fun v26 h => ?_)
      refine wp_run 1 (pc' := 30) (lv' := [(0, .ref a0), (1, .int a1)]) (st' := [.int 4, .int v26]) (mem' := mem) rfl ?_
      refine wq_lt2 rfl h (fun h => ?_) (fun h => ?_)
      · refine wp_run 1 (pc' := 44) (lv' := [(0, .ref a0), (1, .int a1)]) (st' := [.ref a0]) (mem' := mem) rfl ?_
        refine wq_gR rfl h (fun v44 h => ?_)
        refine wp_run 1 (pc' := 48) (lv' := [(0, .ref a0), (1, .int a1)]) (st' := [.int a1, .ref v44]) (mem' := mem) rfl ?_
        obtain ⟨fk48, hk48, h⟩ := dRc_some h
        refine wq_cI rfl (kCall_v hk48 (as := [.int a1]) (rest := []) ⟨by decide, rfl, (show 1 < 90 by decide), by decide⟩ (show 0 ≤ 8 by decide)) h (fun r hr => ca_up (by decide) (m_Balls_add_ok hz xm N hr)) (fun v48 m48 h => ?_)
        exact wq_ret rfl rfl h
      · exact wq_end rfl rfl h
/-- Knitstead.join(I)I -/
def m_K_join (xm : Nat → Option kE) (N : Nat) (a0 : Nat) (a1 : Int32) (mem : kM) : dRes :=
  dGR xm mem a0 11 0 fun v1 =>
  dRc xm mem v1 5 <|
  dCI (m_Balls_has xm N v1 a1 mem) fun v5 m5 =>
  if v5 = 0 then (
    some (.inr 2, m5 ++ [.inl (1000, [.null, .null, .null, .null, .null, .null])])
  ) else (
    dGR xm m5 a0 11 0 fun v22 =>
    dGI xm m5 v22 5 2 fun v25 =>
    dGR xm m5 a0 11 0 fun v30 =>
    dP xm m5 v30 5 2 (.int a1) fun m34 =>
    some (.inl (some (.int v25)), m34)
  )
theorem m_K_join_ok (hz : z.category = 1) (xm : Nat → Option kE) (N : Nat) {a0 : Nat} {a1 : Int32} {mem : kM} {R : kO × kM} (h : m_K_join xm N a0 a1 mem = some R) : kCa xm (kSm z) kDfl kFty kG 2 41 [.ref a0, .int a1] mem (dEq R) := by
  refine wq_ca (show 2 ≤ 3 by decide) ?_
  change kGo xm (kSm z) kDfl kFty kG 1 41 0 [(0, .ref a0), (1, .int a1)] [] mem (dEq R)
  unfold m_K_join at h
  refine wp_run 1 (pc' := 1) (lv' := [(0, .ref a0), (1, .int a1)]) (st' := [.ref a0]) (mem' := mem) rfl ?_
  refine wq_gR rfl h (fun v1 h => ?_)
  refine wp_run 1 (pc' := 5) (lv' := [(0, .ref a0), (1, .int a1)]) (st' := [.int a1, .ref v1]) (mem' := mem) rfl ?_
  obtain ⟨fk5, hk5, h⟩ := dRc_some h
  refine wq_cI rfl (kCall_v hk5 (as := [.int a1]) (rest := []) ⟨by decide, rfl, (show 1 < 90 by decide), by decide⟩ (show 0 ≤ 8 by decide)) h (fun r hr => ca_up (by decide) (m_Balls_has_ok hz xm N hr)) (fun v5 m5 h => ?_)
  refine wq_ne rfl h (fun h => ?_) (fun h => ?_)
  · exact wq_end rfl rfl h
  · refine wp_run 1 (pc' := 22) (lv' := [(0, .ref a0), (1, .int a1)]) (st' := [.ref a0]) (mem' := m5) rfl ?_
    refine wq_gR rfl h (fun v22 h => ?_)
    refine wq_gI rfl h (fun v25 h => ?_)
    refine wp_run 2 (pc' := 30) (lv' := [(2, .int v25), (0, .ref a0), (1, .int a1)]) (st' := [.ref a0]) (mem' := m5) rfl ?_
    refine wq_gR rfl h (fun v30 h => ?_)
    refine wp_run 1 (pc' := 34) (lv' := [(2, .int v25), (0, .ref a0), (1, .int a1)]) (st' := [.int a1, .ref v30]) (mem' := m5) rfl ?_
    refine wq_p rfl rfl h (fun m34 h => ?_)
    refine wp_run 1 (pc' := 38) (lv' := [(2, .int v25), (0, .ref a0), (1, .int a1)]) (st' := [.int v25]) (mem' := m34) rfl ?_
    exact wq_ret rfl rfl h
/-- Knitstead.hasZero(I)Z -/
def m_K_hasZero_4 (xm : Nat → Option kE) (N : Nat) : Nat → Int32 → Int32 → kM → dRes
  | 0, _, _, _ => none
  | n + 1, a1, a2, mem =>
    if a2 < 9 then (
      if 0 < a1 then (
        dNz 10 <|
        if (a1 - a1 / 10 * 10) = 0 then (
          some (.inl (some (.int 1)), mem)
        ) else (
          dNz 10 <|
          m_K_hasZero_4 xm N n (a1 / 10) (a2 + 1) mem
        )
      ) else (
        some (.inl (some (.int 0)), mem)
      )
    ) else (
      some (.inl (some (.int 0)), mem)
    )
theorem m_K_hasZero_4_ok (hz : z.category = 1) (xm : Nat → Option kE) (N : Nat) : ∀ (n : Nat) (a1 : Int32) (a2 : Int32) (mem : kM) (R : kO × kM), m_K_hasZero_4 xm N n a1 a2 mem = some R → kGo xm (kSm z) kDfl kFty kG 0 81 4 [(1, .int a1), (2, .int a2)] [] mem (dEq R) := by
  intro n
  induction n with
  | zero => intro a1 a2 mem R h; cases h
  | succ n ih =>
    intro a1 a2 mem R h
    rw [m_K_hasZero_4] at h
    refine wp_run 2 (pc' := 7) (lv' := [(1, .int a1), (2, .int a2)]) (st' := [.int 9, .int a2]) (mem' := mem) rfl ?_
    refine wq_ge2 rfl h (fun h => ?_) (fun h => ?_)
    · refine wp_run 1 (pc' := 11) (lv' := [(1, .int a1), (2, .int a2)]) (st' := [.int a1]) (mem' := mem) rfl ?_
      refine wq_le rfl h (fun h => ?_) (fun h => ?_)
      · refine wp_run 2 (pc' := 17) (lv' := [(1, .int a1), (2, .int a2)]) (st' := [.int 10, .int a1]) (mem' := mem) rfl ?_
        refine wq_irem rfl h (fun h => ?_)
        refine wq_ne rfl h (fun h => ?_) (fun h => ?_)
        · refine wp_run 1 (pc' := 22) (lv' := [(1, .int a1), (2, .int a2)]) (st' := [.int 1]) (mem' := mem) rfl ?_
          exact wq_ret rfl rfl h
        · refine wp_run 2 (pc' := 26) (lv' := [(1, .int a1), (2, .int a2)]) (st' := [.int 10, .int a1]) (mem' := mem) rfl ?_
          refine wq_idiv rfl h (fun h => ?_)
          refine wp_run 3 (pc' := 4) (lv' := [(2, .int (a2 + 1)), (1, .int (a1 / 10))]) (st' := []) (mem' := mem) rfl ?_
          refine kGo_sub (lvS_of [1, 0] rfl [2, 1] rfl (by decide)) ?_
          exact ih _ _ mem R h
      · refine wp_run 1 (pc' := 35) (lv' := [(1, .int a1), (2, .int a2)]) (st' := [.int 0]) (mem' := mem) rfl ?_
        exact wq_ret rfl rfl h
    · refine wp_run 1 (pc' := 35) (lv' := [(1, .int a1), (2, .int a2)]) (st' := [.int 0]) (mem' := mem) rfl ?_
      exact wq_ret rfl rfl h
def m_K_hasZero (xm : Nat → Option kE) (N : Nat) (a0 : Int32) (mem : kM) : dRes :=
  m_K_hasZero_4 xm N N a0 0 mem
theorem m_K_hasZero_ok (hz : z.category = 1) (xm : Nat → Option kE) (N : Nat) {a0 : Int32} {mem : kM} {R : kO × kM} (h : m_K_hasZero xm N a0 mem = some R) : kCa xm (kSm z) kDfl kFty kG 1 81 [.int a0] mem (dEq R) := by
  refine wq_ca (show 1 ≤ 3 by decide) ?_
  change kGo xm (kSm z) kDfl kFty kG 0 81 0 [(0, .int a0)] [] mem (dEq R)
  unfold m_K_hasZero at h
  refine wp_run 4 (pc' := 4) (lv' := [(2, .int 0), (1, .int a0), (0, .int a0)]) (st' := []) (mem' := mem) rfl ?_
  refine kGo_sub (lvS_of [1, 0] rfl [2, 1, 0] rfl (by decide)) ?_
  exact m_K_hasZero_4_ok hz xm N N _ _ mem R h
/-- Knitstead.digitsIn(I)I -/
def m_K_digitsIn_6 (xm : Nat → Option kE) (N : Nat) : Nat → Int32 → Int32 → Int32 → kM → dRes
  | 0, _, _, _, _ => none
  | n + 1, a1, a2, a3, mem =>
    if a3 < 9 then (
      if 0 < a2 then (
        dNz 10 <|
        m_K_digitsIn_6 xm N n (a1 + 1) (a2 / 10) (a3 + 1) mem
      ) else (
        some (.inl (some (.int a1)), mem)
      )
    ) else (
      some (.inl (some (.int a1)), mem)
    )
theorem m_K_digitsIn_6_ok (hz : z.category = 1) (xm : Nat → Option kE) (N : Nat) : ∀ (n : Nat) (a1 : Int32) (a2 : Int32) (a3 : Int32) (mem : kM) (R : kO × kM), m_K_digitsIn_6 xm N n a1 a2 a3 mem = some R → kGo xm (kSm z) kDfl kFty kG 0 82 6 [(1, .int a1), (2, .int a2), (3, .int a3)] [] mem (dEq R) := by
  intro n
  induction n with
  | zero => intro a1 a2 a3 mem R h; cases h
  | succ n ih =>
    intro a1 a2 a3 mem R h
    rw [m_K_digitsIn_6] at h
    refine wp_run 2 (pc' := 9) (lv' := [(1, .int a1), (2, .int a2), (3, .int a3)]) (st' := [.int 9, .int a3]) (mem' := mem) rfl ?_
    refine wq_ge2 rfl h (fun h => ?_) (fun h => ?_)
    · refine wp_run 1 (pc' := 13) (lv' := [(1, .int a1), (2, .int a2), (3, .int a3)]) (st' := [.int a2]) (mem' := mem) rfl ?_
      refine wq_le rfl h (fun h => ?_) (fun h => ?_)
      · refine wp_run 3 (pc' := 22) (lv' := [(1, .int (a1 + 1)), (2, .int a2), (3, .int a3)]) (st' := [.int 10, .int a2]) (mem' := mem) rfl ?_
        refine wq_idiv rfl h (fun h => ?_)
        refine wp_run 3 (pc' := 6) (lv' := [(3, .int (a3 + 1)), (2, .int (a2 / 10)), (1, .int (a1 + 1))]) (st' := []) (mem' := mem) rfl ?_
        refine kGo_sub (lvS_of [2, 1, 0] rfl [3, 2, 1] rfl (by decide)) ?_
        exact ih _ _ _ mem R h
      · refine wp_run 1 (pc' := 31) (lv' := [(1, .int a1), (2, .int a2), (3, .int a3)]) (st' := [.int a1]) (mem' := mem) rfl ?_
        exact wq_ret rfl rfl h
    · refine wp_run 1 (pc' := 31) (lv' := [(1, .int a1), (2, .int a2), (3, .int a3)]) (st' := [.int a1]) (mem' := mem) rfl ?_
      exact wq_ret rfl rfl h
def m_K_digitsIn (xm : Nat → Option kE) (N : Nat) (a0 : Int32) (mem : kM) : dRes :=
  m_K_digitsIn_6 xm N N 0 a0 0 mem
theorem m_K_digitsIn_ok (hz : z.category = 1) (xm : Nat → Option kE) (N : Nat) {a0 : Int32} {mem : kM} {R : kO × kM} (h : m_K_digitsIn xm N a0 mem = some R) : kCa xm (kSm z) kDfl kFty kG 1 82 [.int a0] mem (dEq R) := by
  refine wq_ca (show 1 ≤ 4 by decide) ?_
  change kGo xm (kSm z) kDfl kFty kG 0 82 0 [(0, .int a0)] [] mem (dEq R)
  unfold m_K_digitsIn at h
  refine wp_run 6 (pc' := 6) (lv' := [(3, .int 0), (2, .int a0), (1, .int 0), (0, .int a0)]) (st' := []) (mem' := mem) rfl ?_
  refine kGo_sub (lvS_of [2, 1, 0] rfl [3, 2, 1, 0] rfl (by decide)) ?_
  exact m_K_digitsIn_6_ok hz xm N N _ _ _ mem R h
end
