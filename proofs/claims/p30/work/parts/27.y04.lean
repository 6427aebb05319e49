set_option maxRecDepth 20000
section
variable {z : Value}
/-- Knitstead.seen(Z)Ljava/lang/String; -/
def m_K_seen_17 (xm : Nat → Option kE) (N : Nat) : Nat → Nat → Nat → Nat → Int32 → kM → dRes
  | 0, _, _, _, _, _ => none
  | n + 1, a0, a2, a3, a4, mem =>
    dGI xm mem a2 7 1 fun v20 =>
    if a4 < v20 then (
      dRc xm mem a2 7 <|
      dCI (m_Needle_at xm N a2 a4 mem) fun v31 m31 =>
      dRc xm m31 a0 11 <|
      dCI (m_K_signOf xm N a0 v31 m31) fun v34 m34 =>
      dRc xm m34 a3 1 <|
      dCR (m_SB_append xm N a3 v34 m34) fun v37 m37 =>
      m_K_seen_17 xm N n a0 a2 a3 (a4 + 1) m37
    ) else (
      dRc xm mem a3 1 <|
      dCR (m_SB_toString xm N a3 mem) fun v48 m48 =>
      some (.inl (some (.ref v48)), m48)
    )
theorem m_K_seen_17_ok (hz : z.category = 1) (xm : Nat → Option kE) (N : Nat) : ∀ (n : Nat) (a0 : Nat) (a2 : Nat) (a3 : Nat) (a4 : Int32) (mem : kM) (R : kO × kM), m_K_seen_17 xm N n a0 a2 a3 a4 mem = some R → kGo xm (kSm z) kDfl kFty kG 6 58 17 [(0, .ref a0), (2, .ref a2), (3, .ref a3), (4, .int a4)] [] mem (dEq R) := by
  intro n
  induction n with
  | zero => intro a0 a2 a3 a4 mem R h; cases h
  | succ n ih =>
    intro a0 a2 a3 a4 mem R h
    rw [m_K_seen_17] at h
    refine wp_run 2 (pc' := 20) (lv' := [(0, .ref a0), (2, .ref a2), (3, .ref a3), (4, .int a4)]) (st' := [.ref a2, .int a4]) (mem' := mem) rfl ?_
    refine wq_gI rfl h (fun v20 h => ?_)
    refine wq_ge2 rfl h (fun h => ?_) (fun h => ?_)
    · refine wp_run 4 (pc' := 31) (lv' := [(0, .ref a0), (2, .ref a2), (3, .ref a3), (4, .int a4)]) (st' := [.int a4, .ref a2, .ref a0, .ref a3]) (mem' := mem) rfl ?_
      obtain ⟨fk31, hk31, h⟩ := dRc_some h
      refine wq_cI rfl (kCall_v hk31 (as := [.int a4]) (rest := [.ref a0, .ref a3]) ⟨by decide, rfl, (show 1 < 90 by decide), by decide⟩ (show 2 ≤ 8 by decide)) h (fun r hr => ca_up (by decide) (m_Needle_at_ok hz xm N hr)) (fun v31 m31 h => ?_)
      obtain ⟨fk34, hk34, h⟩ := dRc_some h
      refine wq_cI rfl (kCall_v hk34 (as := [.int v31]) (rest := [.ref a3]) ⟨by decide, rfl, (show 1 < 90 by decide), by decide⟩ (show 1 ≤ 8 by decide)) h (fun r hr => ca_up (by decide) (m_K_signOf_ok hz xm N hr)) (fun v34 m34 h => ?_)
      obtain ⟨fk37, hk37, h⟩ := dRc_some h
      refine wq_cR rfl (kCall_v hk37 (as := [.int v34]) (rest := []) ⟨by decide, rfl, (show 1 < 90 by decide), by decide⟩ (show 0 ≤ 8 by decide)) h (fun r hr => ca_up (by decide) (m_SB_append_ok hz xm N hr)) (fun v37 m37 h => ?_)
      refine wp_run 3 (pc' := 17) (lv' := [(4, .int (a4 + 1)), (0, .ref a0), (2, .ref a2), (3, .ref a3)]) (st' := []) (mem' := m37) rfl ?_
      refine kGo_sub (lvS_of [1, 2, 3, 0] rfl [4, 0, 2, 3] rfl (by decide)) ?_
      exact ih _ _ _ _ m37 R h
    · refine wp_run 1 (pc' := 48) (lv' := [(0, .ref a0), (2, .ref a2), (3, .ref a3), (4, .int a4)]) (st' := [.ref a3]) (mem' := mem) rfl ?_
      obtain ⟨fk48, hk48, h⟩ := dRc_some h
      refine wq_cR rfl (kCall_v hk48 (as := []) (rest := []) ⟨by decide, rfl, (show 0 < 90 by decide), by decide⟩ (show 0 ≤ 8 by decide)) h (fun r hr => ca_up (by decide) (m_SB_toString_ok hz xm N hr)) (fun v48 m48 h => ?_)
      exact wq_end rfl rfl h
def m_K_seen (xm : Nat → Option kE) (N : Nat) (a0 : Nat) (a1 : Int32) (mem : kM) : dRes :=
  dRc xm mem a0 11 <|
  dCR (m_K_needle xm N a0 a1 mem) fun v2 m2 =>
  dN m2 (.inl (1, [.null, .int 0, .int 0, .int 0])) fun m6 p6 =>
  dCV (m_SB_new xm N p6 m6) fun m10 =>
  m_K_seen_17 xm N N a0 v2 p6 0 m10
theorem m_K_seen_ok (hz : z.category = 1) (xm : Nat → Option kE) (N : Nat) {a0 : Nat} {a1 : Int32} {mem : kM} {R : kO × kM} (h : m_K_seen xm N a0 a1 mem = some R) : kCa xm (kSm z) kDfl kFty kG 7 58 [.ref a0, .int a1] mem (dEq R) := by
  refine wq_ca (show 2 ≤ 5 by decide) ?_
  change kGo xm (kSm z) kDfl kFty kG 6 58 0 [(0, .ref a0), (1, .int a1)] [] mem (dEq R)
  unfold m_K_seen at h
  refine wp_run 2 (pc' := 2) (lv' := [(0, .ref a0), (1, .int a1)]) (st' := [.int a1, .ref a0]) (mem' := mem) rfl ?_
  obtain ⟨fk2, hk2, h⟩ := dRc_some h
  refine wq_cR rfl (kCall_v hk2 (as := [.int a1]) (rest := []) ⟨by decide, rfl, (show 1 < 90 by decide), by decide⟩ (show 0 ≤ 8 by decide)) h (fun r hr => ca_up (by decide) (m_K_needle_ok hz xm N hr)) (fun v2 m2 h => ?_)
  refine wp_run 1 (pc' := 6) (lv' := [(2, .ref v2), (0, .ref a0), (1, .int a1)]) (st' := []) (mem' := m2) rfl ?_
  refine wq_n rfl (by decide) rfl h (fun m6 p6 h => ?_)
  refine wp_run 1 (pc' := 10) (lv' := [(2, .ref v2), (0, .ref a0), (1, .int a1)]) (st' := [.ref p6, .ref p6]) (mem' := m6) rfl ?_
  refine wq_cV rfl (kCall_i (as := []) (rest := [.ref p6]) ⟨by decide, rfl, (show 0 < 90 by decide)⟩ (show 1 ≤ 8 by decide)) h (fun r hr => ca_up (by decide) (m_SB_new_ok hz xm N hr)) (fun m10 h => ?_)
  refine wp_run 3 (pc' := 17) (lv' := [(4, .int 0), (3, .ref p6), (2, .ref v2), (0, .ref a0), (1, .int a1)]) (st' := []) (mem' := m10) rfl ?_
  refine kGo_sub (lvS_of [3, 2, 1, 0] rfl [4, 3, 2, 0, 1] rfl (by decide)) ?_
  exact m_K_seen_17_ok hz xm N N _ _ _ _ m10 R h
/-- Knitstead.best()I -/
def m_K_best (xm : Nat → Option kE) (N : Nat) (a0 : Nat) (mem : kM) : dRes :=
  dRc xm mem a0 11 <|
  dCI (m_K_bestPattern xm N a0 mem) fun v1 m1 =>
  some (.inl (some (.int v1)), m1)
theorem m_K_best_ok (hz : z.category = 1) (xm : Nat → Option kE) (N : Nat) {a0 : Nat} {mem : kM} {R : kO × kM} (h : m_K_best xm N a0 mem = some R) : kCa xm (kSm z) kDfl kFty kG 6 64 [.ref a0] mem (dEq R) := by
  refine wq_ca (show 1 ≤ 1 by decide) ?_
  change kGo xm (kSm z) kDfl kFty kG 5 64 0 [(0, .ref a0)] [] mem (dEq R)
  unfold m_K_best at h
  refine wp_run 1 (pc' := 1) (lv' := [(0, .ref a0)]) (st' := [.ref a0]) (mem' := mem) rfl ?_
  obtain ⟨fk1, hk1, h⟩ := dRc_some h
  refine wq_cI rfl (kCall_v hk1 (as := []) (rest := []) ⟨by decide, rfl, (show 0 < 90 by decide), by decide⟩ (show 0 ≤ 8 by decide)) h (fun r hr => ca_up (by decide) (m_K_bestPattern_ok hz xm N hr)) (fun v1 m1 h => ?_)
  exact wq_ret rfl rfl h
/-- java/lang/String.coder()B -/
def m_Str_coder (xm : Nat → Option kE) (N : Nat) (a0 : Nat) (mem : kM) : dRes :=
  if (1 : Int32) = 0 then (
    some (.inl (some (.int 1)), mem)
  ) else (
    dGI xm mem a0 0 1 fun v7 =>
    dRt (some .byte) v7 mem
  )
theorem m_Str_coder_ok (hz : z.category = 1) (xm : Nat → Option kE) (N : Nat) {a0 : Nat} {mem : kM} {R : kO × kM} (h : m_Str_coder xm N a0 mem = some R) : kCa xm (kSm z) kDfl kFty kG 1 114 [.ref a0] mem (dEq R) := by
  refine wq_ca (show 1 ≤ 1 by decide) ?_
  change kGo xm (kSm z) kDfl kFty kG 0 114 0 [(0, .ref a0)] [] mem (dEq R)
  unfold m_Str_coder at h
  refine wp_run 1 (pc' := 3) (lv' := [(0, .ref a0)]) (st' := [.int 1]) (mem' := mem) rfl ?_
  refine wq_eq rfl h (fun h => ?_) (fun h => ?_)
  · refine wp_run 1 (pc' := 14) (lv' := [(0, .ref a0)]) (st' := [.int 1]) (mem' := mem) rfl ?_
    exact wq_ret rfl rfl h
  · refine wp_run 1 (pc' := 7) (lv' := [(0, .ref a0)]) (st' := [.ref a0]) (mem' := mem) rfl ?_
    refine wq_gI rfl h (fun v7 h => ?_)
    refine wp_run 1 (pc' := 14) (lv' := [(0, .ref a0)]) (st' := [.int v7]) (mem' := mem) rfl ?_
    exact wq_retB rfl rfl h
/-- java/lang/String.length()I -/
def m_Str_length (xm : Nat → Option kE) (N : Nat) (a0 : Nat) (mem : kM) : dRes :=
  dGR xm mem a0 0 0 fun v1 =>
  dLen xm mem v1 fun v4 =>
  dRc xm mem a0 0 <|
  dCI (m_Str_coder xm N a0 mem) fun v6 m6 =>
  some (.inl (some (.int (v4 >>> (v6 &&& 31)))), m6)
theorem m_Str_length_ok (hz : z.category = 1) (xm : Nat → Option kE) (N : Nat) {a0 : Nat} {mem : kM} {R : kO × kM} (h : m_Str_length xm N a0 mem = some R) : kCa xm (kSm z) kDfl kFty kG 2 111 [.ref a0] mem (dEq R) := by
  refine wq_ca (show 1 ≤ 1 by decide) ?_
  change kGo xm (kSm z) kDfl kFty kG 1 111 0 [(0, .ref a0)] [] mem (dEq R)
  unfold m_Str_length at h
  refine wp_run 1 (pc' := 1) (lv' := [(0, .ref a0)]) (st' := [.ref a0]) (mem' := mem) rfl ?_
  refine wq_gR rfl h (fun v1 h => ?_)
  refine wq_len rfl h (fun v4 h => ?_)
  refine wp_run 1 (pc' := 6) (lv' := [(0, .ref a0)]) (st' := [.ref a0, .int v4]) (mem' := mem) rfl ?_
  obtain ⟨fk6, hk6, h⟩ := dRc_some h
  refine wq_cI rfl (kCall_v hk6 (as := []) (rest := [.int v4]) ⟨by decide, rfl, (show 0 < 90 by decide), by decide⟩ (show 1 ≤ 8 by decide)) h (fun r hr => ca_up (by decide) (m_Str_coder_ok hz xm N hr)) (fun v6 m6 h => ?_)
  refine wp_run 1 (pc' := 10) (lv' := [(0, .ref a0)]) (st' := [.int (v4 >>> (v6 &&& 31))]) (mem' := m6) rfl ?_
  exact wq_ret rfl rfl h
/-- java/lang/String.isLatin1()Z -/
def m_Str_isLatin1 (xm : Nat → Option kE) (N : Nat) (a0 : Nat) (mem : kM) : dRes :=
  if (1 : Int32) = 0 then (
    some (.inl (some (.int 0)), mem)
  ) else (
    dGI xm mem a0 0 1 fun v7 =>
    if v7 = 0 then (
      some (.inl (some (.int 1)), mem)
    ) else (
      some (.inl (some (.int 0)), mem)
    )
  )
theorem m_Str_isLatin1_ok (hz : z.category = 1) (xm : Nat → Option kE) (N : Nat) {a0 : Nat} {mem : kM} {R : kO × kM} (h : m_Str_isLatin1 xm N a0 mem = some R) : kCa xm (kSm z) kDfl kFty kG 1 115 [.ref a0] mem (dEq R) := by
  refine wq_ca (show 1 ≤ 1 by decide) ?_
  change kGo xm (kSm z) kDfl kFty kG 0 115 0 [(0, .ref a0)] [] mem (dEq R)
  unfold m_Str_isLatin1 at h
  refine wp_run 1 (pc' := 3) (lv' := [(0, .ref a0)]) (st' := [.int 1]) (mem' := mem) rfl ?_
  refine wq_eq rfl h (fun h => ?_) (fun h => ?_)
  · refine wp_run 1 (pc' := 18) (lv' := [(0, .ref a0)]) (st' := [.int 0]) (mem' := mem) rfl ?_
    exact wq_ret rfl rfl h
  · refine wp_run 1 (pc' := 7) (lv' := [(0, .ref a0)]) (st' := [.ref a0]) (mem' := mem) rfl ?_
    refine wq_gI rfl h (fun v7 h => ?_)
    refine wq_ne rfl h (fun h => ?_) (fun h => ?_)
    · refine wp_run 2 (pc' := 18) (lv' := [(0, .ref a0)]) (st' := [.int 1]) (mem' := mem) rfl ?_
      exact wq_ret rfl rfl h
    · refine wp_run 1 (pc' := 18) (lv' := [(0, .ref a0)]) (st' := [.int 0]) (mem' := mem) rfl ?_
      exact wq_ret rfl rfl h
/-- jdk/internal/util/Preconditions.checkIndex(IILjava/util/function/BiFunction;)I -/
def m_Pre_checkIndex_9 (xm : Nat → Option kE) (N : Nat) (a0 : Int32) (a1 : Int32) (mem : kM) : dRes :=
  none
theorem m_Pre_checkIndex_9_ok (hz : z.category = 1) (xm : Nat → Option kE) (N : Nat) : ∀ (a0 : Int32) (a1 : Int32) (mem : kM) (R : kO × kM), m_Pre_checkIndex_9 xm N a0 a1 mem = some R → kGo xm (kSm z) kDfl kFty kG 0 132 9 [(0, .int a0), (1, .int a1), (2, z)] [] mem (dEq R) := by
  intro a0 a1 mem R h
  unfold m_Pre_checkIndex_9 at h
  cases h
def m_Pre_checkIndex (xm : Nat → Option kE) (N : Nat) (a0 : Int32) (a1 : Int32) (mem : kM) : dRes :=
  if a0 < 0 then (
    m_Pre_checkIndex_9 xm N a0 a1 mem
  ) else (
    if a0 < a1 then (
      some (.inl (some (.int a0)), mem)
    ) else (
      m_Pre_checkIndex_9 xm N a0 a1 mem
    )
  )
theorem m_Pre_checkIndex_ok (hz : z.category = 1) (xm : Nat → Option kE) (N : Nat) {a0 : Int32} {a1 : Int32} {mem : kM} {R : kO × kM} (h : m_Pre_checkIndex xm N a0 a1 mem = some R) : kCa xm (kSm z) kDfl kFty kG 1 132 [.int a0, .int a1, z] mem (dEq R) := by
  refine wq_ca (show 1 + (1 + (z.category + 0)) ≤ 3 by rw [hz]; decide) ?_
  change kGo xm (kSm z) kDfl kFty kG 0 132 0 [(0, .int a0), (1, .int a1), (2, z)] [] mem (dEq R)
  unfold m_Pre_checkIndex at h
  refine wp_run 1 (pc' := 1) (lv' := [(0, .int a0), (1, .int a1), (2, z)]) (st' := [.int a0]) (mem' := mem) rfl ?_
  refine wq_lt rfl h (fun h => ?_) (fun h => ?_)
  · exact m_Pre_checkIndex_9_ok hz xm N _ _ mem R h
  · refine wp_run 2 (pc' := 6) (lv' := [(0, .int a0), (1, .int a1), (2, z)]) (st' := [.int a1, .int a0]) (mem' := mem) rfl ?_
    refine wq_lt2 rfl h (fun h => ?_) (fun h => ?_)
    · refine wp_run 1 (pc' := 17) (lv' := [(0, .int a0), (1, .int a1), (2, z)]) (st' := [.int a0]) (mem' := mem) rfl ?_
      exact wq_ret rfl rfl h
    · exact m_Pre_checkIndex_9_ok hz xm N _ _ mem R h
/-- java/lang/String.checkIndex(II)V -/
def m_Str_checkIndex (xm : Nat → Option kE) (N : Nat) (a0 : Int32) (a1 : Int32) (mem : kM) : dRes :=
  dCI (m_Pre_checkIndex xm N a0 a1 mem) fun v5 m5 =>
  some (.inl none, m5)
theorem m_Str_checkIndex_ok (hz : z.category = 1) (xm : Nat → Option kE) (N : Nat) {a0 : Int32} {a1 : Int32} {mem : kM} {R : kO × kM} (h : m_Str_checkIndex xm N a0 a1 mem = some R) : kCa xm (kSm z) kDfl kFty kG 2 116 [.int a0, .int a1] mem (dEq R) := by
  refine wq_ca (show 2 ≤ 2 by decide) ?_
  change kGo xm (kSm z) kDfl kFty kG 1 116 0 [(0, .int a0), (1, .int a1)] [] mem (dEq R)
  unfold m_Str_checkIndex at h
  refine wp_run 3 (pc' := 5) (lv' := [(0, .int a0), (1, .int a1)]) (st' := [z, .int a1, .int a0]) (mem' := mem) rfl ?_
  refine wq_cI rfl (kCall_s (as := [.int a0, .int a1, z]) (rest := []) ⟨by decide, rfl⟩ (show 0 ≤ 8 by decide) (by decide)) h (fun r hr => ca_up (by decide) (m_Pre_checkIndex_ok hz xm N hr)) (fun v5 m5 h => ?_)
  refine wp_run 1 (pc' := 9) (lv' := [(0, .int a0), (1, .int a1)]) (st' := []) (mem' := m5) rfl ?_
  exact wq_end rfl rfl h
/-- java/lang/StringLatin1.charAt([BI)C -/
def m_Lat_charAt (xm : Nat → Option kE) (N : Nat) (a0 : Nat) (a1 : Int32) (mem : kM) : dRes :=
  dLen xm mem a0 fun v2 =>
  dCV (m_Str_checkIndex xm N a1 v2 mem) fun m3 =>
  dIL xm 1 m3 a0 a1 fun v8 =>
  dRt (some .char) (UInt32.toInt32 (Int32.toUInt32 (v8 &&& 255) % 65536)) m3
theorem m_Lat_charAt_ok (hz : z.category = 1) (xm : Nat → Option kE) (N : Nat) {a0 : Nat} {a1 : Int32} {mem : kM} {R : kO × kM} (h : m_Lat_charAt xm N a0 a1 mem = some R) : kCa xm (kSm z) kDfl kFty kG 3 122 [.ref a0, .int a1] mem (dEq R) := by
  refine wq_ca (show 2 ≤ 2 by decide) ?_
  change kGo xm (kSm z) kDfl kFty kG 2 122 0 [(0, .ref a0), (1, .int a1)] [] mem (dEq R)
  unfold m_Lat_charAt at h
  refine wp_run 2 (pc' := 2) (lv' := [(0, .ref a0), (1, .int a1)]) (st' := [.ref a0, .int a1]) (mem' := mem) rfl ?_
  refine wq_len rfl h (fun v2 h => ?_)
  refine wq_cV rfl (kCall_s (as := [.int a1, .int v2]) (rest := []) ⟨by decide, rfl⟩ (show 0 ≤ 8 by decide) (by decide)) h (fun r hr => ca_up (by decide) (m_Str_checkIndex_ok hz xm N hr)) (fun m3 h => ?_)
  refine wp_run 2 (pc' := 8) (lv' := [(0, .ref a0), (1, .int a1)]) (st' := [.int a1, .ref a0]) (mem' := m3) rfl ?_
  refine wq_bL rfl h (fun v8 h => ?_)
  refine wp_run 3 (pc' := 14) (lv' := [(0, .ref a0), (1, .int a1)]) (st' := [.int (UInt32.toInt32 (Int32.toUInt32 (v8 &&& 255) % 65536))]) (mem' := m3) rfl ?_
  exact wq_retB rfl rfl h
/-- java/lang/String.charAt(I)C -/
def m_Str_charAt (xm : Nat → Option kE) (N : Nat) (a0 : Nat) (a1 : Int32) (mem : kM) : dRes :=
  dRc xm mem a0 0 <|
  dCI (m_Str_isLatin1 xm N a0 mem) fun v1 m1 =>
  if v1 = 0 then (
    dGR xm m1 a0 0 0 fun v17 =>
    none
  ) else (
    dGR xm m1 a0 0 0 fun v8 =>
    dCI (m_Lat_charAt xm N v8 a1 m1) fun v12 m12 =>
    dRt (some .char) v12 m12
  )
theorem m_Str_charAt_ok (hz : z.category = 1) (xm : Nat → Option kE) (N : Nat) {a0 : Nat} {a1 : Int32} {mem : kM} {R : kO × kM} (h : m_Str_charAt xm N a0 a1 mem = some R) : kCa xm (kSm z) kDfl kFty kG 4 112 [.ref a0, .int a1] mem (dEq R) := by
  refine wq_ca (show 2 ≤ 2 by decide) ?_
  change kGo xm (kSm z) kDfl kFty kG 3 112 0 [(0, .ref a0), (1, .int a1)] [] mem (dEq R)
  unfold m_Str_charAt at h
  refine wp_run 1 (pc' := 1) (lv' := [(0, .ref a0), (1, .int a1)]) (st' := [.ref a0]) (mem' := mem) rfl ?_
  obtain ⟨fk1, hk1, h⟩ := dRc_some h
  refine wq_cI rfl (kCall_v hk1 (as := []) (rest := []) ⟨by decide, rfl, (show 0 < 90 by decide), by decide⟩ (show 0 ≤ 8 by decide)) h (fun r hr => ca_up (by decide) (m_Str_isLatin1_ok hz xm N hr)) (fun v1 m1 h => ?_)
  refine wq_eq rfl h (fun h => ?_) (fun h => ?_)
  · refine wp_run 1 (pc' := 17) (lv' := [(0, .ref a0), (1, .int a1)]) (st' := [.ref a0]) (mem' := m1) rfl ?_
    refine wq_gR rfl h (fun v17 h => ?_)
    cases h
  · refine wp_run 1 (pc' := 8) (lv' := [(0, .ref a0), (1, .int a1)]) (st' := [.ref a0]) (mem' := m1) rfl ?_
    refine wq_gR rfl h (fun v8 h => ?_)
    refine wp_run 1 (pc' := 12) (lv' := [(0, .ref a0), (1, .int a1)]) (st' := [.int a1, .ref v8]) (mem' := m1) rfl ?_
    refine wq_cI rfl (kCall_s (as := [.ref v8, .int a1]) (rest := []) ⟨by decide, rfl⟩ (show 0 ≤ 8 by decide) (by decide)) h (fun r hr => ca_up (by decide) (m_Lat_charAt_ok hz xm N hr)) (fun v12 m12 h => ?_)
    exact wq_retB rfl rfl h
/-- KnitsteadLaw.isSo(LKnitstead;)Z -/
def m_law_isSo_172 (xm : Nat → Option kE) (N : Nat) (K13 : Nat → Nat → Int32 → Int32 → kM → dRes) (a0 : Nat) (a1 : Nat) (a2 : Int32) (a3 : Int32) (mem : kM) : dRes :=
  K13 a0 a1 a2 (a3 + 1) mem
theorem m_law_isSo_172_ok (hz : z.category = 1) (xm : Nat → Option kE) (N : Nat) (K13 : Nat → Nat → Int32 → Int32 → kM → dRes) (hK13 : ∀ (a0 : Nat) (a1 : Nat) (a2 : Int32) (a3 : Int32) (mem : kM) (R : kO × kM), K13 a0 a1 a2 a3 mem = some R → kGo xm (kSm z) kDfl kFty kG 7 139 13 [(0, .ref a0), (1, .ref a1), (2, .int a2), (3, .int a3)] [] mem (dEq R)) : ∀ (a0 : Nat) (a1 : Nat) (a2 : Int32) (a3 : Int32) (mem : kM) (R : kO × kM), m_law_isSo_172 xm N K13 a0 a1 a2 a3 mem = some R → kGo xm (kSm z) kDfl kFty kG 7 139 172 [(0, .ref a0), (1, .ref a1), (2, .int a2), (3, .int a3)] [] mem (dEq R) := by
  intro a0 a1 a2 a3 mem R h
  unfold m_law_isSo_172 at h
  refine wp_run 2 (pc' := 13) (lv' := [(3, .int (a3 + 1)), (0, .ref a0), (1, .ref a1), (2, .int a2)]) (st' := []) (mem' := mem) rfl ?_
  refine kGo_sub (lvS_of [1, 2, 3, 0] rfl [3, 0, 1, 2] rfl (by decide)) ?_
  exact hK13 _ _ _ _ mem R h
def m_law_isSo_155 (xm : Nat → Option kE) (N : Nat) (K13 : Nat → Nat → Int32 → Int32 → kM → dRes) (a0 : Nat) (a1 : Nat) (a2 : Int32) (a3 : Int32) (a4 : Int32) (a5 : Int32) (s0 : Int32) (s1 : Int32) (mem : kM) : dRes :=
  if s0 = s1 then (
    if 3 < a4 then (
      if a5 < 2 then (
        some (.inl (some (.int 0)), mem)
      ) else (
        m_law_isSo_172 xm N K13 a0 a1 a2 a3 mem
      )
    ) else (
      m_law_isSo_172 xm N K13 a0 a1 a2 a3 mem
    )
  ) else (
    some (.inl (some (.int 0)), mem)
  )
theorem m_law_isSo_155_ok (hz : z.category = 1) (xm : Nat → Option kE) (N : Nat) (K13 : Nat → Nat → Int32 → Int32 → kM → dRes) (hK13 : ∀ (a0 : Nat) (a1 : Nat) (a2 : Int32) (a3 : Int32) (mem : kM) (R : kO × kM), K13 a0 a1 a2 a3 mem = some R → kGo xm (kSm z) kDfl kFty kG 7 139 13 [(0, .ref a0), (1, .ref a1), (2, .int a2), (3, .int a3)] [] mem (dEq R)) : ∀ (a0 : Nat) (a1 : Nat) (a2 : Int32) (a3 : Int32) (a4 : Int32) (a5 : Int32) (s0 : Int32) (s1 : Int32) (mem : kM) (R : kO × kM), m_law_isSo_155 xm N K13 a0 a1 a2 a3 a4 a5 s0 s1 mem = some R → kGo xm (kSm z) kDfl kFty kG 7 139 155 [(0, .ref a0), (1, .ref a1), (2, .int a2), (3, .int a3), (4, .int a4), (5, .int a5)] [.int s1, .int s0] mem (dEq R) := by
  intro a0 a1 a2 a3 a4 a5 s0 s1 mem R h
  unfold m_law_isSo_155 at h
  refine wq_ne2 rfl h (fun h => ?_) (fun h => ?_)
  · refine wp_run 2 (pc' := 161) (lv' := [(0, .ref a0), (1, .ref a1), (2, .int a2), (3, .int a3), (4, .int a4), (5, .int a5)]) (st' := [.int 3, .int a4]) (mem' := mem) rfl ?_
    refine wq_le2 rfl h (fun h => ?_) (fun h => ?_)
    · refine wp_run 2 (pc' := 167) (lv' := [(0, .ref a0), (1, .ref a1), (2, .int a2), (3, .int a3), (4, .int a4), (5, .int a5)]) (st' := [.int 2, .int a5]) (mem' := mem) rfl ?_
      refine wq_ge2 rfl h (fun h => ?_) (fun h => ?_)
      · refine wp_run 1 (pc' := 171) (lv' := [(0, .ref a0), (1, .ref a1), (2, .int a2), (3, .int a3), (4, .int a4), (5, .int a5)]) (st' := [.int 0]) (mem' := mem) rfl ?_
        exact wq_ret rfl rfl h
      · refine kGo_sub (lvS_of [0, 1, 2, 3] rfl [0, 1, 2, 3, 4, 5] rfl (by decide)) ?_
        exact m_law_isSo_172_ok hz xm N _ hK13 _ _ _ _ mem R h
    · refine kGo_sub (lvS_of [0, 1, 2, 3] rfl [0, 1, 2, 3, 4, 5] rfl (by decide)) ?_
      exact m_law_isSo_172_ok hz xm N _ hK13 _ _ _ _ mem R h
  · refine wp_run 1 (pc' := 171) (lv' := [(0, .ref a0), (1, .ref a1), (2, .int a2), (3, .int a3), (4, .int a4), (5, .int a5)]) (st' := [.int 0]) (mem' := mem) rfl ?_
    exact wq_ret rfl rfl h
def m_law_isSo_144 (xm : Nat → Option kE) (N : Nat) (K13 : Nat → Nat → Int32 → Int32 → kM → dRes) (a0 : Nat) (a1 : Nat) (a2 : Int32) (a3 : Int32) (a4 : Int32) (a5 : Int32) (s0 : Int32) (mem : kM) : dRes :=
  if a5 = 1 then (
    m_law_isSo_155 xm N K13 a0 a1 a2 a3 a4 a5 s0 1 mem
  ) else (
    m_law_isSo_155 xm N K13 a0 a1 a2 a3 a4 a5 s0 0 mem
  )
theorem m_law_isSo_144_ok (hz : z.category = 1) (xm : Nat → Option kE) (N : Nat) (K13 : Nat → Nat → Int32 → Int32 → kM → dRes) (hK13 : ∀ (a0 : Nat) (a1 : Nat) (a2 : Int32) (a3 : Int32) (mem : kM) (R : kO × kM), K13 a0 a1 a2 a3 mem = some R → kGo xm (kSm z) kDfl kFty kG 7 139 13 [(0, .ref a0), (1, .ref a1), (2, .int a2), (3, .int a3)] [] mem (dEq R)) : ∀ (a0 : Nat) (a1 : Nat) (a2 : Int32) (a3 : Int32) (a4 : Int32) (a5 : Int32) (s0 : Int32) (mem : kM) (R : kO × kM), m_law_isSo_144 xm N K13 a0 a1 a2 a3 a4 a5 s0 mem = some R → kGo xm (kSm z) kDfl kFty kG 7 139 144 [(0, .ref a0), (1, .ref a1), (2, .int a2), (3, .int a3), (4, .int a4), (5, .int a5)] [.int s0] mem (dEq R) := by
  intro a0 a1 a2 a3 a4 a5 s0 mem R h
  unfold m_law_isSo_144 at h
  refine wp_run 2 (pc' := 147) (lv' := [(0, .ref a0), (1, .ref a1), (2, .int a2), (3, .int a3), (4, .int a4), (5, .int a5)]) (st' := [.int 1, .int a5, .int s0]) (mem' := mem) rfl ?_
  refine wq_ne2 rfl h (fun h => ?_) (fun h => ?_)
  · refine wp_run 2 (pc' := 155) (lv' := [(0, .ref a0), (1, .ref a1), (2, .int a2), (3, .int a3), (4, .int a4), (5, .int a5)]) (st' := [.int 1, .int s0]) (mem' := mem) rfl ?_
    exact m_law_isSo_155_ok hz xm N _ hK13 _ _ _ _ _ _ _ _ mem R h
  · refine wp_run 1 (pc' := 155) (lv' := [(0, .ref a0), (1, .ref a1), (2, .int a2), (3, .int a3), (4, .int a4), (5, .int a5)]) (st' := [.int 0, .int s0]) (mem' := mem) rfl ?_
    exact m_law_isSo_155_ok hz xm N _ hK13 _ _ _ _ _ _ _ _ mem R h
def m_law_isSo_139 (xm : Nat → Option kE) (N : Nat) (K13 : Nat → Nat → Int32 → Int32 → kM → dRes) (a0 : Nat) (a1 : Nat) (a2 : Int32) (a3 : Int32) (a4 : Int32) (a5 : Int32) (mem : kM) : dRes :=
  m_law_isSo_144 xm N K13 a0 a1 a2 a3 a4 a5 1 mem
theorem m_law_isSo_139_ok (hz : z.category = 1) (xm : Nat → Option kE) (N : Nat) (K13 : Nat → Nat → Int32 → Int32 → kM → dRes) (hK13 : ∀ (a0 : Nat) (a1 : Nat) (a2 : Int32) (a3 : Int32) (mem : kM) (R : kO × kM), K13 a0 a1 a2 a3 mem = some R → kGo xm (kSm z) kDfl kFty kG 7 139 13 [(0, .ref a0), (1, .ref a1), (2, .int a2), (3, .int a3)] [] mem (dEq R)) : ∀ (a0 : Nat) (a1 : Nat) (a2 : Int32) (a3 : Int32) (a4 : Int32) (a5 : Int32) (mem : kM) (R : kO × kM), m_law_isSo_139 xm N K13 a0 a1 a2 a3 a4 a5 mem = some R → kGo xm (kSm z) kDfl kFty kG 7 139 139 [(0, .ref a0), (1, .ref a1), (2, .int a2), (3, .int a3), (4, .int a4), (5, .int a5)] [] mem (dEq R) := by
  intro a0 a1 a2 a3 a4 a5 mem R h
  unfold m_law_isSo_139 at h
  refine wp_run 2 (pc' := 144) (lv' := [(0, .ref a0), (1, .ref a1), (2, .int a2), (3, .int a3), (4, .int a4), (5, .int a5)]) (st' := [.int 1]) (mem' := mem) rfl ?_
  exact m_law_isSo_144_ok hz xm N _ hK13 _ _ _ _ _ _ _ mem R h
def m_law_isSo_124 (xm : Nat → Option kE) (N : Nat) (K13 : Nat → Nat → Int32 → Int32 → kM → dRes) (a0 : Nat) (a1 : Nat) (a2 : Int32) (a3 : Int32) (a4 : Int32) (a5 : Int32) (s0 : Int32) (s1 : Int32) (mem : kM) : dRes :=
  if s0 = s1 then (
    if a4 = 1 then (
      m_law_isSo_139 xm N K13 a0 a1 a2 a3 a4 a5 mem
    ) else (
      if a4 = 2 then (
        m_law_isSo_139 xm N K13 a0 a1 a2 a3 a4 a5 mem
      ) else (
        m_law_isSo_144 xm N K13 a0 a1 a2 a3 a4 a5 0 mem
      )
    )
  ) else (
    some (.inl (some (.int 0)), mem)
  )
theorem m_law_isSo_124_ok (hz : z.category = 1) (xm : Nat → Option kE) (N : Nat) (K13 : Nat → Nat → Int32 → Int32 → kM → dRes) (hK13 : ∀ (a0 : Nat) (a1 : Nat) (a2 : Int32) (a3 : Int32) (mem : kM) (R : kO × kM), K13 a0 a1 a2 a3 mem = some R → kGo xm (kSm z) kDfl kFty kG 7 139 13 [(0, .ref a0), (1, .ref a1), (2, .int a2), (3, .int a3)] [] mem (dEq R)) : ∀ (a0 : Nat) (a1 : Nat) (a2 : Int32) (a3 : Int32) (a4 : Int32) (a5 : Int32) (s0 : Int32) (s1 : Int32) (mem : kM) (R : kO × kM), m_law_isSo_124 xm N K13 a0 a1 a2 a3 a4 a5 s0 s1 mem = some R → kGo xm (kSm z) kDfl kFty kG 7 139 124 [(0, .ref a0), (1, .ref a1), (2, .int a2), (3, .int a3), (4, .int a4), (5, .int a5)] [.int s1, .int s0] mem (dEq R) := by
  intro a0 a1 a2 a3 a4 a5 s0 s1 mem R h
  unfold m_law_isSo_124 at h
  refine wq_ne2 rfl h (fun h => ?_) (fun h => ?_)
  · refine wp_run 2 (pc' := 130) (lv' := [(0, .ref a0), (1, .ref a1), (2, .int a2), (3, .int a3), (4, .int a4), (5, .int a5)]) (st' := [.int 1, .int a4]) (mem' := mem) rfl ?_
    refine wq_eq2 rfl h (fun h => ?_) (fun h => ?_)
    · exact m_law_isSo_139_ok hz xm N _ hK13 _ _ _ _ _ _ mem R h
    · refine wp_run 2 (pc' := 136) (lv' := [(0, .ref a0), (1, .ref a1), (2, .int a2), (3, .int a3), (4, .int a4), (5, .int a5)]) (st' := [.int 2, .int a4]) (mem' := mem) rfl ?_
      refine wq_ne2 rfl h (fun h => ?_) (fun h => ?_)
      · exact m_law_isSo_139_ok hz xm N _ hK13 _ _ _ _ _ _ mem R h
      · refine wp_run 1 (pc' := 144) (lv' := [(0, .ref a0), (1, .ref a1), (2, .int a2), (3, .int a3), (4, .int a4), (5, .int a5)]) (st' := [.int 0]) (mem' := mem) rfl ?_
        exact m_law_isSo_144_ok hz xm N _ hK13 _ _ _ _ _ _ _ mem R h
  · refine wp_run 1 (pc' := 171) (lv' := [(0, .ref a0), (1, .ref a1), (2, .int a2), (3, .int a3), (4, .int a4), (5, .int a5)]) (st' := [.int 0]) (mem' := mem) rfl ?_
    exact wq_ret rfl rfl h
def m_law_isSo_113 (xm : Nat → Option kE) (N : Nat) (K13 : Nat → Nat → Int32 → Int32 → kM → dRes) (a0 : Nat) (a1 : Nat) (a2 : Int32) (a3 : Int32) (a4 : Int32) (a5 : Int32) (a6 : Int32) (s0 : Int32) (mem : kM) : dRes :=
  if 1 < a6 then (
    m_law_isSo_124 xm N K13 a0 a1 a2 a3 a4 a5 s0 1 mem
  ) else (
    m_law_isSo_124 xm N K13 a0 a1 a2 a3 a4 a5 s0 0 mem
  )
theorem m_law_isSo_113_ok (hz : z.category = 1) (xm : Nat → Option kE) (N : Nat) (K13 : Nat → Nat → Int32 → Int32 → kM → dRes) (hK13 : ∀ (a0 : Nat) (a1 : Nat) (a2 : Int32) (a3 : Int32) (mem : kM) (R : kO × kM), K13 a0 a1 a2 a3 mem = some R → kGo xm (kSm z) kDfl kFty kG 7 139 13 [(0, .ref a0), (1, .ref a1), (2, .int a2), (3, .int a3)] [] mem (dEq R)) : ∀ (a0 : Nat) (a1 : Nat) (a2 : Int32) (a3 : Int32) (a4 : Int32) (a5 : Int32) (a6 : Int32) (s0 : Int32) (mem : kM) (R : kO × kM), m_law_isSo_113 xm N K13 a0 a1 a2 a3 a4 a5 a6 s0 mem = some R → kGo xm (kSm z) kDfl kFty kG 7 139 113 [(0, .ref a0), (1, .ref a1), (2, .int a2), (3, .int a3), (4, .int a4), (5, .int a5), (6, .int a6)] [.int s0] mem (dEq R) := by
  intro a0 a1 a2 a3 a4 a5 a6 s0 mem R h
  unfold m_law_isSo_113 at h
  refine wp_run 2 (pc' := 116) (lv' := [(0, .ref a0), (1, .ref a1), (2, .int a2), (3, .int a3), (4, .int a4), (5, .int a5), (6, .int a6)]) (st' := [.int 1, .int a6, .int s0]) (mem' := mem) rfl ?_
  refine wq_le2 rfl h (fun h => ?_) (fun h => ?_)
  · refine wp_run 2 (pc' := 124) (lv' := [(0, .ref a0), (1, .ref a1), (2, .int a2), (3, .int a3), (4, .int a4), (5, .int a5), (6, .int a6)]) (st' := [.int 1, .int s0]) (mem' := mem) rfl ?_
    refine kGo_sub (lvS_of [0, 1, 2, 3, 4, 5] rfl [0, 1, 2, 3, 4, 5, 6] rfl (by decide)) ?_
    exact m_law_isSo_124_ok hz xm N _ hK13 _ _ _ _ _ _ _ _ mem R h
  · refine wp_run 1 (pc' := 124) (lv' := [(0, .ref a0), (1, .ref a1), (2, .int a2), (3, .int a3), (4, .int a4), (5, .int a5), (6, .int a6)]) (st' := [.int 0, .int s0]) (mem' := mem) rfl ?_
    refine kGo_sub (lvS_of [0, 1, 2, 3, 4, 5] rfl [0, 1, 2, 3, 4, 5, 6] rfl (by decide)) ?_
    exact m_law_isSo_124_ok hz xm N _ hK13 _ _ _ _ _ _ _ _ mem R h
def m_law_isSo_108 (xm : Nat → Option kE) (N : Nat) (K13 : Nat → Nat → Int32 → Int32 → kM → dRes) (a0 : Nat) (a1 : Nat) (a2 : Int32) (a3 : Int32) (a4 : Int32) (a5 : Int32) (a6 : Int32) (mem : kM) : dRes :=
  m_law_isSo_113 xm N K13 a0 a1 a2 a3 a4 a5 a6 1 mem
theorem m_law_isSo_108_ok (hz : z.category = 1) (xm : Nat → Option kE) (N : Nat) (K13 : Nat → Nat → Int32 → Int32 → kM → dRes) (hK13 : ∀ (a0 : Nat) (a1 : Nat) (a2 : Int32) (a3 : Int32) (mem : kM) (R : kO × kM), K13 a0 a1 a2 a3 mem = some R → kGo xm (kSm z) kDfl kFty kG 7 139 13 [(0, .ref a0), (1, .ref a1), (2, .int a2), (3, .int a3)] [] mem (dEq R)) : ∀ (a0 : Nat) (a1 : Nat) (a2 : Int32) (a3 : Int32) (a4 : Int32) (a5 : Int32) (a6 : Int32) (mem : kM) (R : kO × kM), m_law_isSo_108 xm N K13 a0 a1 a2 a3 a4 a5 a6 mem = some R → kGo xm (kSm z) kDfl kFty kG 7 139 108 [(0, .ref a0), (1, .ref a1), (2, .int a2), (3, .int a3), (4, .int a4), (5, .int a5), (6, .int a6)] [] mem (dEq R) := by
  intro a0 a1 a2 a3 a4 a5 a6 mem R h
  unfold m_law_isSo_108 at h
  refine wp_run 2 (pc' := 113) (lv' := [(0, .ref a0), (1, .ref a1), (2, .int a2), (3, .int a3), (4, .int a4), (5, .int a5), (6, .int a6)]) (st' := [.int 1]) (mem' := mem) rfl ?_
  exact m_law_isSo_113_ok hz xm N _ hK13 _ _ _ _ _ _ _ _ mem R h
def m_law_isSo_96 (xm : Nat → Option kE) (N : Nat) (K13 : Nat → Nat → Int32 → Int32 → kM → dRes) (a0 : Nat) (a1 : Nat) (a2 : Int32) (a3 : Int32) (a4 : Int32) (a5 : Int32) (a6 : Int32) (mem : kM) : dRes :=
  if a4 = 1 then (
    m_law_isSo_108 xm N K13 a0 a1 a2 a3 a4 a5 a6 mem
  ) else (
    if a4 = 2 then (
      m_law_isSo_108 xm N K13 a0 a1 a2 a3 a4 a5 a6 mem
    ) else (
      m_law_isSo_113 xm N K13 a0 a1 a2 a3 a4 a5 a6 0 mem
    )
  )
theorem m_law_isSo_96_ok (hz : z.category = 1) (xm : Nat → Option kE) (N : Nat) (K13 : Nat → Nat → Int32 → Int32 → kM → dRes) (hK13 : ∀ (a0 : Nat) (a1 : Nat) (a2 : Int32) (a3 : Int32) (mem : kM) (R : kO × kM), K13 a0 a1 a2 a3 mem = some R → kGo xm (kSm z) kDfl kFty kG 7 139 13 [(0, .ref a0), (1, .ref a1), (2, .int a2), (3, .int a3)] [] mem (dEq R)) : ∀ (a0 : Nat) (a1 : Nat) (a2 : Int32) (a3 : Int32) (a4 : Int32) (a5 : Int32) (a6 : Int32) (mem : kM) (R : kO × kM), m_law_isSo_96 xm N K13 a0 a1 a2 a3 a4 a5 a6 mem = some R → kGo xm (kSm z) kDfl kFty kG 7 139 96 [(0, .ref a0), (1, .ref a1), (2, .int a2), (3, .int a3), (4, .int a4), (5, .int a5), (6, .int a6)] [] mem (dEq R) := by
  intro a0 a1 a2 a3 a4 a5 a6 mem R h
  unfold m_law_isSo_96 at h
  refine wp_run 2 (pc' := 99) (lv' := [(0, .ref a0), (1, .ref a1), (2, .int a2), (3, .int a3), (4, .int a4), (5, .int a5), (6, .int a6)]) (st' := [.int 1, .int a4]) (mem' := mem) rfl ?_
  refine wq_eq2 rfl h (fun h => ?_) (fun h => ?_)
  · exact m_law_isSo_108_ok hz xm N _ hK13 _ _ _ _ _ _ _ mem R h
  · refine wp_run 2 (pc' := 105) (lv' := [(0, .ref a0), (1, .ref a1), (2, .int a2), (3, .int a3), (4, .int a4), (5, .int a5), (6, .int a6)]) (st' := [.int 2, .int a4]) (mem' := mem) rfl ?_
    refine wq_ne2 rfl h (fun h => ?_) (fun h => ?_)
    · exact m_law_isSo_108_ok hz xm N _ hK13 _ _ _ _ _ _ _ mem R h
    · refine wp_run 1 (pc' := 113) (lv' := [(0, .ref a0), (1, .ref a1), (2, .int a2), (3, .int a3), (4, .int a4), (5, .int a5), (6, .int a6)]) (st' := [.int 0]) (mem' := mem) rfl ?_
      exact m_law_isSo_113_ok hz xm N _ hK13 _ _ _ _ _ _ _ _ mem R h
def m_law_isSo_260 (xm : Nat → Option kE) (N : Nat) (K183 : Nat → Nat → Int32 → Int32 → kM → dRes) (a0 : Nat) (a1 : Nat) (a3 : Int32) (a4 : Int32) (mem : kM) : dRes :=
  K183 a0 a1 a3 (a4 + 1) mem
theorem m_law_isSo_260_ok (hz : z.category = 1) (xm : Nat → Option kE) (N : Nat) (K183 : Nat → Nat → Int32 → Int32 → kM → dRes) (hK183 : ∀ (a0 : Nat) (a1 : Nat) (a3 : Int32) (a4 : Int32) (mem : kM) (R : kO × kM), K183 a0 a1 a3 a4 mem = some R → kGo xm (kSm z) kDfl kFty kG 7 139 183 [(0, .ref a0), (1, .ref a1), (3, .int a3), (4, .int a4)] [] mem (dEq R)) : ∀ (a0 : Nat) (a1 : Nat) (a3 : Int32) (a4 : Int32) (mem : kM) (R : kO × kM), m_law_isSo_260 xm N K183 a0 a1 a3 a4 mem = some R → kGo xm (kSm z) kDfl kFty kG 7 139 260 [(0, .ref a0), (1, .ref a1), (3, .int a3), (4, .int a4)] [] mem (dEq R) := by
  intro a0 a1 a3 a4 mem R h
  unfold m_law_isSo_260 at h
  refine wp_run 2 (pc' := 183) (lv' := [(4, .int (a4 + 1)), (0, .ref a0), (1, .ref a1), (3, .int a3)]) (st' := []) (mem' := mem) rfl ?_
  refine kGo_sub (lvS_of [1, 2, 3, 0] rfl [4, 0, 1, 3] rfl (by decide)) ?_
  exact hK183 _ _ _ _ mem R h
def m_law_isSo_486 (xm : Nat → Option kE) (N : Nat) (K374 : Nat → Nat → Int32 → Int32 → Int32 → Nat → Int32 → kM → dRes) (a0 : Nat) (a1 : Nat) (a3 : Int32) (a4 : Int32) (a5 : Int32) (a8 : Nat) (a9 : Int32) (s0 : Int32) (s1 : Int32) (mem : kM) : dRes :=
  if s0 = s1 then (
    K374 a0 a1 a3 a4 a5 a8 (a9 + 1) mem
  ) else (
    some (.inl (some (.int 0)), mem)
  )
theorem m_law_isSo_486_ok (hz : z.category = 1) (xm : Nat → Option kE) (N : Nat) (K374 : Nat → Nat → Int32 → Int32 → Int32 → Nat → Int32 → kM → dRes) (hK374 : ∀ (a0 : Nat) (a1 : Nat) (a3 : Int32) (a4 : Int32) (a5 : Int32) (a8 : Nat) (a9 : Int32) (mem : kM) (R : kO × kM), K374 a0 a1 a3 a4 a5 a8 a9 mem = some R → kGo xm (kSm z) kDfl kFty kG 7 139 374 [(0, .ref a0), (1, .ref a1), (3, .int a3), (4, .int a4), (5, .int a5), (8, .ref a8), (9, .int a9)] [] mem (dEq R)) : ∀ (a0 : Nat) (a1 : Nat) (a3 : Int32) (a4 : Int32) (a5 : Int32) (a8 : Nat) (a9 : Int32) (s0 : Int32) (s1 : Int32) (mem : kM) (R : kO × kM), m_law_isSo_486 xm N K374 a0 a1 a3 a4 a5 a8 a9 s0 s1 mem = some R → kGo xm (kSm z) kDfl kFty kG 7 139 486 [(0, .ref a0), (1, .ref a1), (3, .int a3), (4, .int a4), (5, .int a5), (8, .ref a8), (9, .int a9)] [.int s1, .int s0] mem (dEq R) := by
  intro a0 a1 a3 a4 a5 a8 a9 s0 s1 mem R h
  unfold m_law_isSo_486 at h
  refine wq_eq2 rfl h (fun h => ?_) (fun h => ?_)
  · refine wp_run 2 (pc' := 374) (lv' := [(9, .int (a9 + 1)), (0, .ref a0), (1, .ref a1), (3, .int a3), (4, .int a4), (5, .int a5), (8, .ref a8)]) (st' := []) (mem' := mem) rfl ?_
    refine kGo_sub (lvS_of [1, 2, 3, 4, 5, 6, 0] rfl [9, 0, 1, 3, 4, 5, 8] rfl (by decide)) ?_
    exact hK374 _ _ _ _ _ _ _ mem R h
  · refine wp_run 1 (pc' := 490) (lv' := [(0, .ref a0), (1, .ref a1), (3, .int a3), (4, .int a4), (5, .int a5), (8, .ref a8), (9, .int a9)]) (st' := [.int 0]) (mem' := mem) rfl ?_
    exact wq_ret rfl rfl h
def m_law_isSo_481 (xm : Nat → Option kE) (N : Nat) (K374 : Nat → Nat → Int32 → Int32 → Int32 → Nat → Int32 → kM → dRes) (a0 : Nat) (a1 : Nat) (a3 : Int32) (a4 : Int32) (a5 : Int32) (a8 : Nat) (a9 : Int32) (s0 : Int32) (mem : kM) : dRes :=
  m_law_isSo_486 xm N K374 a0 a1 a3 a4 a5 a8 a9 s0 1 mem
theorem m_law_isSo_481_ok (hz : z.category = 1) (xm : Nat → Option kE) (N : Nat) (K374 : Nat → Nat → Int32 → Int32 → Int32 → Nat → Int32 → kM → dRes) (hK374 : ∀ (a0 : Nat) (a1 : Nat) (a3 : Int32) (a4 : Int32) (a5 : Int32) (a8 : Nat) (a9 : Int32) (mem : kM) (R : kO × kM), K374 a0 a1 a3 a4 a5 a8 a9 mem = some R → kGo xm (kSm z) kDfl kFty kG 7 139 374 [(0, .ref a0), (1, .ref a1), (3, .int a3), (4, .int a4), (5, .int a5), (8, .ref a8), (9, .int a9)] [] mem (dEq R)) : ∀ (a0 : Nat) (a1 : Nat) (a3 : Int32) (a4 : Int32) (a5 : Int32) (a8 : Nat) (a9 : Int32) (s0 : Int32) (mem : kM) (R : kO × kM), m_law_isSo_481 xm N K374 a0 a1 a3 a4 a5 a8 a9 s0 mem = some R → kGo xm (kSm z) kDfl kFty kG 7 139 481 [(0, .ref a0), (1, .ref a1), (3, .int a3), (4, .int a4), (5, .int a5), (8, .ref a8), (9, .int a9)] [.int s0] mem (dEq R) := by
  intro a0 a1 a3 a4 a5 a8 a9 s0 mem R h
  unfold m_law_isSo_481 at h
  refine wp_run 2 (pc' := 486) (lv' := [(0, .ref a0), (1, .ref a1), (3, .int a3), (4, .int a4), (5, .int a5), (8, .ref a8), (9, .int a9)]) (st' := [.int 1, .int s0]) (mem' := mem) rfl ?_
  exact m_law_isSo_486_ok hz xm N _ hK374 _ _ _ _ _ _ _ _ _ mem R h
def m_law_isSo_467 (xm : Nat → Option kE) (N : Nat) (K374 : Nat → Nat → Int32 → Int32 → Int32 → Nat → Int32 → kM → dRes) (a0 : Nat) (a1 : Nat) (a3 : Int32) (a4 : Int32) (a5 : Int32) (a8 : Nat) (a9 : Int32) (a11 : Int32) (s0 : Int32) (mem : kM) : dRes :=
  if a11 = 60 then (
    m_law_isSo_481 xm N K374 a0 a1 a3 a4 a5 a8 a9 s0 mem
  ) else (
    if a11 = 62 then (
      m_law_isSo_481 xm N K374 a0 a1 a3 a4 a5 a8 a9 s0 mem
    ) else (
      m_law_isSo_486 xm N K374 a0 a1 a3 a4 a5 a8 a9 s0 0 mem
    )
  )
theorem m_law_isSo_467_ok (hz : z.category = 1) (xm : Nat → Option kE) (N : Nat) (K374 : Nat → Nat → Int32 → Int32 → Int32 → Nat → Int32 → kM → dRes) (hK374 : ∀ (a0 : Nat) (a1 : Nat) (a3 : Int32) (a4 : Int32) (a5 : Int32) (a8 : Nat) (a9 : Int32) (mem : kM) (R : kO × kM), K374 a0 a1 a3 a4 a5 a8 a9 mem = some R → kGo xm (kSm z) kDfl kFty kG 7 139 374 [(0, .ref a0), (1, .ref a1), (3, .int a3), (4, .int a4), (5, .int a5), (8, .ref a8), (9, .int a9)] [] mem (dEq R)) : ∀ (a0 : Nat) (a1 : Nat) (a3 : Int32) (a4 : Int32) (a5 : Int32) (a8 : Nat) (a9 : Int32) (a11 : Int32) (s0 : Int32) (mem : kM) (R : kO × kM), m_law_isSo_467 xm N K374 a0 a1 a3 a4 a5 a8 a9 a11 s0 mem = some R → kGo xm (kSm z) kDfl kFty kG 7 139 467 [(0, .ref a0), (1, .ref a1), (3, .int a3), (4, .int a4), (5, .int a5), (8, .ref a8), (9, .int a9), (11, .int a11)] [.int s0] mem (dEq R) := by
  intro a0 a1 a3 a4 a5 a8 a9 a11 s0 mem R h
  unfold m_law_isSo_467 at h
  refine wp_run 2 (pc' := 471) (lv' := [(0, .ref a0), (1, .ref a1), (3, .int a3), (4, .int a4), (5, .int a5), (8, .ref a8), (9, .int a9), (11, .int a11)]) (st' := [.int 60, .int a11, .int s0]) (mem' := mem) rfl ?_
  refine wq_eq2 rfl h (fun h => ?_) (fun h => ?_)
  · refine kGo_sub (lvS_of [0, 1, 2, 3, 4, 5, 6] rfl [0, 1, 3, 4, 5, 8, 9, 11] rfl (by decide)) ?_
    exact m_law_isSo_481_ok hz xm N _ hK374 _ _ _ _ _ _ _ _ mem R h
  · refine wp_run 2 (pc' := 478) (lv' := [(0, .ref a0), (1, .ref a1), (3, .int a3), (4, .int a4), (5, .int a5), (8, .ref a8), (9, .int a9), (11, .int a11)]) (st' := [.int 62, .int a11, .int s0]) (mem' := mem) rfl ?_
    refine wq_ne2 rfl h (fun h => ?_) (fun h => ?_)
    · refine kGo_sub (lvS_of [0, 1, 2, 3, 4, 5, 6] rfl [0, 1, 3, 4, 5, 8, 9, 11] rfl (by decide)) ?_
      exact m_law_isSo_481_ok hz xm N _ hK374 _ _ _ _ _ _ _ _ mem R h
    · refine wp_run 1 (pc' := 486) (lv' := [(0, .ref a0), (1, .ref a1), (3, .int a3), (4, .int a4), (5, .int a5), (8, .ref a8), (9, .int a9), (11, .int a11)]) (st' := [.int 0, .int s0]) (mem' := mem) rfl ?_
      refine kGo_sub (lvS_of [0, 1, 2, 3, 4, 5, 6] rfl [0, 1, 3, 4, 5, 8, 9, 11] rfl (by decide)) ?_
      exact m_law_isSo_486_ok hz xm N _ hK374 _ _ _ _ _ _ _ _ _ mem R h
def m_law_isSo_453 (xm : Nat → Option kE) (N : Nat) (K374 : Nat → Nat → Int32 → Int32 → Int32 → Nat → Int32 → kM → dRes) (a0 : Nat) (a1 : Nat) (a3 : Int32) (a4 : Int32) (a5 : Int32) (a8 : Nat) (a9 : Int32) (a11 : Int32) (a12 : Int32) (s0 : Int32) (s1 : Int32) (mem : kM) : dRes :=
  if s0 = s1 then (
    if 3 < a12 then (
      m_law_isSo_467 xm N K374 a0 a1 a3 a4 a5 a8 a9 a11 1 mem
    ) else (
      m_law_isSo_467 xm N K374 a0 a1 a3 a4 a5 a8 a9 a11 0 mem
    )
  ) else (
    some (.inl (some (.int 0)), mem)
  )
theorem m_law_isSo_453_ok (hz : z.category = 1) (xm : Nat → Option kE) (N : Nat) (K374 : Nat → Nat → Int32 → Int32 → Int32 → Nat → Int32 → kM → dRes) (hK374 : ∀ (a0 : Nat) (a1 : Nat) (a3 : Int32) (a4 : Int32) (a5 : Int32) (a8 : Nat) (a9 : Int32) (mem : kM) (R : kO × kM), K374 a0 a1 a3 a4 a5 a8 a9 mem = some R → kGo xm (kSm z) kDfl kFty kG 7 139 374 [(0, .ref a0), (1, .ref a1), (3, .int a3), (4, .int a4), (5, .int a5), (8, .ref a8), (9, .int a9)] [] mem (dEq R)) : ∀ (a0 : Nat) (a1 : Nat) (a3 : Int32) (a4 : Int32) (a5 : Int32) (a8 : Nat) (a9 : Int32) (a11 : Int32) (a12 : Int32) (s0 : Int32) (s1 : Int32) (mem : kM) (R : kO × kM), m_law_isSo_453 xm N K374 a0 a1 a3 a4 a5 a8 a9 a11 a12 s0 s1 mem = some R → kGo xm (kSm z) kDfl kFty kG 7 139 453 [(0, .ref a0), (1, .ref a1), (3, .int a3), (4, .int a4), (5, .int a5), (8, .ref a8), (9, .int a9), (11, .int a11), (12, .int a12)] [.int s1, .int s0] mem (dEq R) := by
  intro a0 a1 a3 a4 a5 a8 a9 a11 a12 s0 s1 mem R h
  unfold m_law_isSo_453 at h
  refine wq_ne2 rfl h (fun h => ?_) (fun h => ?_)
  · refine wp_run 2 (pc' := 459) (lv' := [(0, .ref a0), (1, .ref a1), (3, .int a3), (4, .int a4), (5, .int a5), (8, .ref a8), (9, .int a9), (11, .int a11), (12, .int a12)]) (st' := [.int 3, .int a12]) (mem' := mem) rfl ?_
    refine wq_le2 rfl h (fun h => ?_) (fun h => ?_)
    · refine wp_run 2 (pc' := 467) (lv' := [(0, .ref a0), (1, .ref a1), (3, .int a3), (4, .int a4), (5, .int a5), (8, .ref a8), (9, .int a9), (11, .int a11), (12, .int a12)]) (st' := [.int 1]) (mem' := mem) rfl ?_
      refine kGo_sub (lvS_of [0, 1, 2, 3, 4, 5, 6, 7] rfl [0, 1, 3, 4, 5, 8, 9, 11, 12] rfl (by decide)) ?_
      exact m_law_isSo_467_ok hz xm N _ hK374 _ _ _ _ _ _ _ _ _ mem R h
    · refine wp_run 1 (pc' := 467) (lv' := [(0, .ref a0), (1, .ref a1), (3, .int a3), (4, .int a4), (5, .int a5), (8, .ref a8), (9, .int a9), (11, .int a11), (12, .int a12)]) (st' := [.int 0]) (mem' := mem) rfl ?_
      refine kGo_sub (lvS_of [0, 1, 2, 3, 4, 5, 6, 7] rfl [0, 1, 3, 4, 5, 8, 9, 11, 12] rfl (by decide)) ?_
      exact m_law_isSo_467_ok hz xm N _ hK374 _ _ _ _ _ _ _ _ _ mem R h
  · refine wp_run 1 (pc' := 490) (lv' := [(0, .ref a0), (1, .ref a1), (3, .int a3), (4, .int a4), (5, .int a5), (8, .ref a8), (9, .int a9), (11, .int a11), (12, .int a12)]) (st' := [.int 0]) (mem' := mem) rfl ?_
    exact wq_ret rfl rfl h
def m_law_isSo_441 (xm : Nat → Option kE) (N : Nat) (K374 : Nat → Nat → Int32 → Int32 → Int32 → Nat → Int32 → kM → dRes) (a0 : Nat) (a1 : Nat) (a3 : Int32) (a4 : Int32) (a5 : Int32) (a8 : Nat) (a9 : Int32) (a11 : Int32) (a12 : Int32) (s0 : Int32) (mem : kM) : dRes :=
  if a11 = 111 then (
    m_law_isSo_453 xm N K374 a0 a1 a3 a4 a5 a8 a9 a11 a12 s0 1 mem
  ) else (
    m_law_isSo_453 xm N K374 a0 a1 a3 a4 a5 a8 a9 a11 a12 s0 0 mem
  )
theorem m_law_isSo_441_ok (hz : z.category = 1) (xm : Nat → Option kE) (N : Nat) (K374 : Nat → Nat → Int32 → Int32 → Int32 → Nat → Int32 → kM → dRes) (hK374 : ∀ (a0 : Nat) (a1 : Nat) (a3 : Int32) (a4 : Int32) (a5 : Int32) (a8 : Nat) (a9 : Int32) (mem : kM) (R : kO × kM), K374 a0 a1 a3 a4 a5 a8 a9 mem = some R → kGo xm (kSm z) kDfl kFty kG 7 139 374 [(0, .ref a0), (1, .ref a1), (3, .int a3), (4, .int a4), (5, .int a5), (8, .ref a8), (9, .int a9)] [] mem (dEq R)) : ∀ (a0 : Nat) (a1 : Nat) (a3 : Int32) (a4 : Int32) (a5 : Int32) (a8 : Nat) (a9 : Int32) (a11 : Int32) (a12 : Int32) (s0 : Int32) (mem : kM) (R : kO × kM), m_law_isSo_441 xm N K374 a0 a1 a3 a4 a5 a8 a9 a11 a12 s0 mem = some R → kGo xm (kSm z) kDfl kFty kG 7 139 441 [(0, .ref a0), (1, .ref a1), (3, .int a3), (4, .int a4), (5, .int a5), (8, .ref a8), (9, .int a9), (11, .int a11), (12, .int a12)] [.int s0] mem (dEq R) := by
  intro a0 a1 a3 a4 a5 a8 a9 a11 a12 s0 mem R h
  unfold m_law_isSo_441 at h
  refine wp_run 2 (pc' := 445) (lv' := [(0, .ref a0), (1, .ref a1), (3, .int a3), (4, .int a4), (5, .int a5), (8, .ref a8), (9, .int a9), (11, .int a11), (12, .int a12)]) (st' := [.int 111, .int a11, .int s0]) (mem' := mem) rfl ?_
  refine wq_ne2 rfl h (fun h => ?_) (fun h => ?_)
  · refine wp_run 2 (pc' := 453) (lv' := [(0, .ref a0), (1, .ref a1), (3, .int a3), (4, .int a4), (5, .int a5), (8, .ref a8), (9, .int a9), (11, .int a11), (12, .int a12)]) (st' := [.int 1, .int s0]) (mem' := mem) rfl ?_
    exact m_law_isSo_453_ok hz xm N _ hK374 _ _ _ _ _ _ _ _ _ _ _ mem R h
  · refine wp_run 1 (pc' := 453) (lv' := [(0, .ref a0), (1, .ref a1), (3, .int a3), (4, .int a4), (5, .int a5), (8, .ref a8), (9, .int a9), (11, .int a11), (12, .int a12)]) (st' := [.int 0, .int s0]) (mem' := mem) rfl ?_
    exact m_law_isSo_453_ok hz xm N _ hK374 _ _ _ _ _ _ _ _ _ _ _ mem R h
def m_law_isSo_393 (xm : Nat → Option kE) (N : Nat) (K374 : Nat → Nat → Int32 → Int32 → Int32 → Nat → Int32 → kM → dRes) (a0 : Nat) (a1 : Nat) (a3 : Int32) (a4 : Int32) (a5 : Int32) (a8 : Nat) (a9 : Int32) (s0 : Nat) (s1 : Int32) (mem : kM) : dRes :=
  dRc xm mem s0 11 <|
  dCI (m_K_on xm N s0 s1 a9 mem) fun v395 m395 =>
  dRc xm m395 a8 0 <|
  dCI (m_Str_charAt xm N a8 a9 m395) fun v404 m404 =>
  dRc xm m404 a0 11 <|
  dCI (m_K_ofLoop xm N a0 v395 0 m404) fun v413 m413 =>
  dRc xm m413 a0 11 <|
  dCI (m_K_ofLoop xm N a0 v395 5 m413) fun v422 m422 =>
  if v422 = a4 then (
    if v413 = 3 then (
      m_law_isSo_441 xm N K374 a0 a1 a3 a4 a5 a8 a9 v404 v413 1 m422
    ) else (
      m_law_isSo_441 xm N K374 a0 a1 a3 a4 a5 a8 a9 v404 v413 0 m422
    )
  ) else (
    some (.inl (some (.int 0)), m422)
  )
theorem m_law_isSo_393_ok (hz : z.category = 1) (xm : Nat → Option kE) (N : Nat) (K374 : Nat → Nat → Int32 → Int32 → Int32 → Nat → Int32 → kM → dRes) (hK374 : ∀ (a0 : Nat) (a1 : Nat) (a3 : Int32) (a4 : Int32) (a5 : Int32) (a8 : Nat) (a9 : Int32) (mem : kM) (R : kO × kM), K374 a0 a1 a3 a4 a5 a8 a9 mem = some R → kGo xm (kSm z) kDfl kFty kG 7 139 374 [(0, .ref a0), (1, .ref a1), (3, .int a3), (4, .int a4), (5, .int a5), (8, .ref a8), (9, .int a9)] [] mem (dEq R)) : ∀ (a0 : Nat) (a1 : Nat) (a3 : Int32) (a4 : Int32) (a5 : Int32) (a8 : Nat) (a9 : Int32) (s0 : Nat) (s1 : Int32) (mem : kM) (R : kO × kM), m_law_isSo_393 xm N K374 a0 a1 a3 a4 a5 a8 a9 s0 s1 mem = some R → kGo xm (kSm z) kDfl kFty kG 7 139 393 [(0, .ref a0), (1, .ref a1), (3, .int a3), (4, .int a4), (5, .int a5), (8, .ref a8), (9, .int a9)] [.int s1, .ref s0] mem (dEq R) := by
  intro a0 a1 a3 a4 a5 a8 a9 s0 s1 mem R h
  unfold m_law_isSo_393 at h
  refine wp_run 1 (pc' := 395) (lv' := [(0, .ref a0), (1, .ref a1), (3, .int a3), (4, .int a4), (5, .int a5), (8, .ref a8), (9, .int a9)]) (st' := [.int a9, .int s1, .ref s0]) (mem' := mem) rfl ?_
  obtain ⟨fk395, hk395, h⟩ := dRc_some h
  refine wq_cI rfl (kCall_v hk395 (as := [.int s1, .int a9]) (rest := []) ⟨by decide, rfl, (show 2 < 90 by decide), by decide⟩ (show 0 ≤ 8 by decide)) h (fun r hr => ca_up (by decide) (m_K_on_ok hz xm N hr)) (fun v395 m395 h => ?_)
  refine wp_run 3 (pc' := 404) (lv' := [(10, .int v395), (0, .ref a0), (1, .ref a1), (3, .int a3), (4, .int a4), (5, .int a5), (8, .ref a8), (9, .int a9)]) (st' := [.int a9, .ref a8]) (mem' := m395) rfl ?_
  obtain ⟨fk404, hk404, h⟩ := dRc_some h
  refine wq_cI rfl (kCall_v hk404 (as := [.int a9]) (rest := []) ⟨by decide, rfl, (show 1 < 90 by decide), by decide⟩ (show 0 ≤ 8 by decide)) h (fun r hr => ca_up (by decide) (m_Str_charAt_ok hz xm N hr)) (fun v404 m404 h => ?_)
  refine wp_run 4 (pc' := 413) (lv' := [(11, .int v404), (10, .int v395), (0, .ref a0), (1, .ref a1), (3, .int a3), (4, .int a4), (5, .int a5), (8, .ref a8), (9, .int a9)]) (st' := [.int 0, .int v395, .ref a0]) (mem' := m404) rfl ?_
  obtain ⟨fk413, hk413, h⟩ := dRc_some h
  refine wq_cI rfl (kCall_v hk413 (as := [.int v395, .int 0]) (rest := []) ⟨by decide, rfl, (show 2 < 90 by decide), by decide⟩ (show 0 ≤ 8 by decide)) h (fun r hr => ca_up (by decide) (m_K_ofLoop_ok hz xm N hr)) (fun v413 m413 h => ?_)
  refine wp_run 4 (pc' := 422) (lv' := [(12, .int v413), (11, .int v404), (10, .int v395), (0, .ref a0), (1, .ref a1), (3, .int a3), (4, .int a4), (5, .int a5), (8, .ref a8), (9, .int a9)]) (st' := [.int 5, .int v395, .ref a0]) (mem' := m413) rfl ?_
  obtain ⟨fk422, hk422, h⟩ := dRc_some h
  refine wq_cI rfl (kCall_v hk422 (as := [.int v395, .int 5]) (rest := []) ⟨by decide, rfl, (show 2 < 90 by decide), by decide⟩ (show 0 ≤ 8 by decide)) h (fun r hr => ca_up (by decide) (m_K_ofLoop_ok hz xm N hr)) (fun v422 m422 h => ?_)
  refine wp_run 1 (pc' := 427) (lv' := [(12, .int v413), (11, .int v404), (10, .int v395), (0, .ref a0), (1, .ref a1), (3, .int a3), (4, .int a4), (5, .int a5), (8, .ref a8), (9, .int a9)]) (st' := [.int a4, .int v422]) (mem' := m422) rfl ?_
  refine wq_ne2 rfl h (fun h => ?_) (fun h => ?_)
  · refine wp_run 2 (pc' := 433) (lv' := [(12, .int v413), (11, .int v404), (10, .int v395), (0, .ref a0), (1, .ref a1), (3, .int a3), (4, .int a4), (5, .int a5), (8, .ref a8), (9, .int a9)]) (st' := [.int 3, .int v413]) (mem' := m422) rfl ?_
    refine wq_ne2 rfl h (fun h => ?_) (fun h => ?_)
    · refine wp_run 2 (pc' := 441) (lv' := [(12, .int v413), (11, .int v404), (10, .int v395), (0, .ref a0), (1, .ref a1), (3, .int a3), (4, .int a4), (5, .int a5), (8, .ref a8), (9, .int a9)]) (st' := [.int 1]) (mem' := m422) rfl ?_
      refine kGo_sub (lvS_of [3, 4, 5, 6, 7, 8, 9, 1, 0] rfl [12, 11, 10, 0, 1, 3, 4, 5, 8, 9] rfl (by decide)) ?_
      exact m_law_isSo_441_ok hz xm N _ hK374 _ _ _ _ _ _ _ _ _ _ m422 R h
    · refine wp_run 1 (pc' := 441) (lv' := [(12, .int v413), (11, .int v404), (10, .int v395), (0, .ref a0), (1, .ref a1), (3, .int a3), (4, .int a4), (5, .int a5), (8, .ref a8), (9, .int a9)]) (st' := [.int 0]) (mem' := m422) rfl ?_
      refine kGo_sub (lvS_of [3, 4, 5, 6, 7, 8, 9, 1, 0] rfl [12, 11, 10, 0, 1, 3, 4, 5, 8, 9] rfl (by decide)) ?_
      exact m_law_isSo_441_ok hz xm N _ hK374 _ _ _ _ _ _ _ _ _ _ m422 R h
  · refine wp_run 1 (pc' := 490) (lv' := [(12, .int v413), (11, .int v404), (10, .int v395), (0, .ref a0), (1, .ref a1), (3, .int a3), (4, .int a4), (5, .int a5), (8, .ref a8), (9, .int a9)]) (st' := [.int 0]) (mem' := m422) rfl ?_
    exact wq_ret rfl rfl h
def m_law_isSo_527 (xm : Nat → Option kE) (N : Nat) (K269 : Nat → Nat → Int32 → Int32 → kM → dRes) (a0 : Nat) (a1 : Nat) (a3 : Int32) (a4 : Int32) (mem : kM) : dRes :=
  K269 a0 a1 a3 (a4 + 1) mem
theorem m_law_isSo_527_ok (hz : z.category = 1) (xm : Nat → Option kE) (N : Nat) (K269 : Nat → Nat → Int32 → Int32 → kM → dRes) (hK269 : ∀ (a0 : Nat) (a1 : Nat) (a3 : Int32) (a4 : Int32) (mem : kM) (R : kO × kM), K269 a0 a1 a3 a4 mem = some R → kGo xm (kSm z) kDfl kFty kG 7 139 269 [(0, .ref a0), (1, .ref a1), (3, .int a3), (4, .int a4)] [] mem (dEq R)) : ∀ (a0 : Nat) (a1 : Nat) (a3 : Int32) (a4 : Int32) (mem : kM) (R : kO × kM), m_law_isSo_527 xm N K269 a0 a1 a3 a4 mem = some R → kGo xm (kSm z) kDfl kFty kG 7 139 527 [(0, .ref a0), (1, .ref a1), (3, .int a3), (4, .int a4)] [] mem (dEq R) := by
  intro a0 a1 a3 a4 mem R h
  unfold m_law_isSo_527 at h
  refine wp_run 2 (pc' := 269) (lv' := [(4, .int (a4 + 1)), (0, .ref a0), (1, .ref a1), (3, .int a3)]) (st' := []) (mem' := mem) rfl ?_
  refine kGo_sub (lvS_of [1, 2, 3, 0] rfl [4, 0, 1, 3] rfl (by decide)) ?_
  exact hK269 _ _ _ _ mem R h
def m_law_isSo_516 (xm : Nat → Option kE) (N : Nat) (K269 : Nat → Nat → Int32 → Int32 → kM → dRes) (a0 : Nat) (a1 : Nat) (a3 : Int32) (a4 : Int32) (a5 : Int32) (s0 : Nat) (s1 : Int32) (mem : kM) : dRes :=
  dRc xm mem s0 11 <|
  dCI (m_K_on xm N s0 s1 a5 mem) fun v518 m518 =>
  if v518 = (-1) then (
    m_law_isSo_527 xm N K269 a0 a1 a3 a4 m518
  ) else (
    some (.inl (some (.int 0)), m518)
  )
theorem m_law_isSo_516_ok (hz : z.category = 1) (xm : Nat → Option kE) (N : Nat) (K269 : Nat → Nat → Int32 → Int32 → kM → dRes) (hK269 : ∀ (a0 : Nat) (a1 : Nat) (a3 : Int32) (a4 : Int32) (mem : kM) (R : kO × kM), K269 a0 a1 a3 a4 mem = some R → kGo xm (kSm z) kDfl kFty kG 7 139 269 [(0, .ref a0), (1, .ref a1), (3, .int a3), (4, .int a4)] [] mem (dEq R)) : ∀ (a0 : Nat) (a1 : Nat) (a3 : Int32) (a4 : Int32) (a5 : Int32) (s0 : Nat) (s1 : Int32) (mem : kM) (R : kO × kM), m_law_isSo_516 xm N K269 a0 a1 a3 a4 a5 s0 s1 mem = some R → kGo xm (kSm z) kDfl kFty kG 7 139 516 [(0, .ref a0), (1, .ref a1), (3, .int a3), (4, .int a4), (5, .int a5)] [.int s1, .ref s0] mem (dEq R) := by
  intro a0 a1 a3 a4 a5 s0 s1 mem R h
  unfold m_law_isSo_516 at h
  refine wp_run 1 (pc' := 518) (lv' := [(0, .ref a0), (1, .ref a1), (3, .int a3), (4, .int a4), (5, .int a5)]) (st' := [.int a5, .int s1, .ref s0]) (mem' := mem) rfl ?_
  obtain ⟨fk518, hk518, h⟩ := dRc_some h
  refine wq_cI rfl (kCall_v hk518 (as := [.int s1, .int a5]) (rest := []) ⟨by decide, rfl, (show 2 < 90 by decide), by decide⟩ (show 0 ≤ 8 by decide)) h (fun r hr => ca_up (by decide) (m_K_on_ok hz xm N hr)) (fun v518 m518 h => ?_)
  refine wp_run 1 (pc' := 522) (lv' := [(0, .ref a0), (1, .ref a1), (3, .int a3), (4, .int a4), (5, .int a5)]) (st' := [.int (-1), .int v518]) (mem' := m518) rfl ?_
  refine wq_eq2 rfl h (fun h => ?_) (fun h => ?_)
  · refine kGo_sub (lvS_of [0, 1, 2, 3] rfl [0, 1, 3, 4, 5] rfl (by decide)) ?_
    exact m_law_isSo_527_ok hz xm N _ hK269 _ _ _ _ m518 R h
  · refine wp_run 1 (pc' := 526) (lv' := [(0, .ref a0), (1, .ref a1), (3, .int a3), (4, .int a4), (5, .int a5)]) (st' := [.int 0]) (mem' := m518) rfl ?_
    exact wq_ret rfl rfl h
def m_law_isSo_374 (xm : Nat → Option kE) (N : Nat) (K269 : Nat → Nat → Int32 → Int32 → kM → dRes) : Nat → Nat → Nat → Int32 → Int32 → Int32 → Nat → Int32 → kM → dRes
  | 0, _, _, _, _, _, _, _, _ => none
  | n + 1, a0, a1, a3, a4, a5, a8, a9, mem =>
    if a9 < a5 then (
      if a4 = 1 then (
        m_law_isSo_393 xm N (fun a0 a1 a3 a4 a5 a8 a9 mem => m_law_isSo_374 xm N K269 n a0 a1 a3 a4 a5 a8 a9 mem) a0 a1 a3 a4 a5 a8 a9 a0 1 mem
      ) else (
        m_law_isSo_393 xm N (fun a0 a1 a3 a4 a5 a8 a9 mem => m_law_isSo_374 xm N K269 n a0 a1 a3 a4 a5 a8 a9 mem) a0 a1 a3 a4 a5 a8 a9 a0 0 mem
      )
    ) else (
      if a5 < 24 then (
        if a4 = 1 then (
          m_law_isSo_516 xm N K269 a0 a1 a3 a4 a5 a0 1 mem
        ) else (
          m_law_isSo_516 xm N K269 a0 a1 a3 a4 a5 a0 0 mem
        )
      ) else (
        m_law_isSo_527 xm N K269 a0 a1 a3 a4 mem
      )
    )
theorem m_law_isSo_374_ok (hz : z.category = 1) (xm : Nat → Option kE) (N : Nat) (K269 : Nat → Nat → Int32 → Int32 → kM → dRes) (hK269 : ∀ (a0 : Nat) (a1 : Nat) (a3 : Int32) (a4 : Int32) (mem : kM) (R : kO × kM), K269 a0 a1 a3 a4 mem = some R → kGo xm (kSm z) kDfl kFty kG 7 139 269 [(0, .ref a0), (1, .ref a1), (3, .int a3), (4, .int a4)] [] mem (dEq R)) : ∀ (n : Nat) (a0 : Nat) (a1 : Nat) (a3 : Int32) (a4 : Int32) (a5 : Int32) (a8 : Nat) (a9 : Int32) (mem : kM) (R : kO × kM), m_law_isSo_374 xm N K269 n a0 a1 a3 a4 a5 a8 a9 mem = some R → kGo xm (kSm z) kDfl kFty kG 7 139 374 [(0, .ref a0), (1, .ref a1), (3, .int a3), (4, .int a4), (5, .int a5), (8, .ref a8), (9, .int a9)] [] mem (dEq R) := by
  intro n
  induction n with
  | zero => intro a0 a1 a3 a4 a5 a8 a9 mem R h; cases h
  | succ n ih =>
    intro a0 a1 a3 a4 a5 a8 a9 mem R h
    rw [m_law_isSo_374] at h
    refine wp_run 2 (pc' := 378) (lv' := [(0, .ref a0), (1, .ref a1), (3, .int a3), (4, .int a4), (5, .int a5), (8, .ref a8), (9, .int a9)]) (st' := [.int a5, .int a9]) (mem' := mem) rfl ?_
    refine wq_ge2 rfl h (fun h => ?_) (fun h => ?_)
    · refine wp_run 3 (pc' := 385) (lv' := [(0, .ref a0), (1, .ref a1), (3, .int a3), (4, .int a4), (5, .int a5), (8, .ref a8), (9, .int a9)]) (st' := [.int 1, .int a4, .ref a0]) (mem' := mem) rfl ?_
      refine wq_ne2 rfl h (fun h => ?_) (fun h => ?_)
      · refine wp_run 2 (pc' := 393) (lv' := [(0, .ref a0), (1, .ref a1), (3, .int a3), (4, .int a4), (5, .int a5), (8, .ref a8), (9, .int a9)]) (st' := [.int 1, .ref a0]) (mem' := mem) rfl ?_
        exact m_law_isSo_393_ok hz xm N _ ih _ _ _ _ _ _ _ _ _ mem R h
      · refine wp_run 1 (pc' := 393) (lv' := [(0, .ref a0), (1, .ref a1), (3, .int a3), (4, .int a4), (5, .int a5), (8, .ref a8), (9, .int a9)]) (st' := [.int 0, .ref a0]) (mem' := mem) rfl ?_
        exact m_law_isSo_393_ok hz xm N _ ih _ _ _ _ _ _ _ _ _ mem R h
    · refine wp_run 2 (pc' := 501) (lv' := [(0, .ref a0), (1, .ref a1), (3, .int a3), (4, .int a4), (5, .int a5), (8, .ref a8), (9, .int a9)]) (st' := [.int 24, .int a5]) (mem' := mem) rfl ?_
      refine wq_ge2 rfl h (fun h => ?_) (fun h => ?_)
      · refine wp_run 3 (pc' := 508) (lv' := [(0, .ref a0), (1, .ref a1), (3, .int a3), (4, .int a4), (5, .int a5), (8, .ref a8), (9, .int a9)]) (st' := [.int 1, .int a4, .ref a0]) (mem' := mem) rfl ?_
        refine wq_ne2 rfl h (fun h => ?_) (fun h => ?_)
        · refine wp_run 2 (pc' := 516) (lv' := [(0, .ref a0), (1, .ref a1), (3, .int a3), (4, .int a4), (5, .int a5), (8, .ref a8), (9, .int a9)]) (st' := [.int 1, .ref a0]) (mem' := mem) rfl ?_
          refine kGo_sub (lvS_of [0, 1, 2, 3, 4] rfl [0, 1, 3, 4, 5, 8, 9] rfl (by decide)) ?_
          exact m_law_isSo_516_ok hz xm N _ hK269 _ _ _ _ _ _ _ mem R h
        · refine wp_run 1 (pc' := 516) (lv' := [(0, .ref a0), (1, .ref a1), (3, .int a3), (4, .int a4), (5, .int a5), (8, .ref a8), (9, .int a9)]) (st' := [.int 0, .ref a0]) (mem' := mem) rfl ?_
          refine kGo_sub (lvS_of [0, 1, 2, 3, 4] rfl [0, 1, 3, 4, 5, 8, 9] rfl (by decide)) ?_
          exact m_law_isSo_516_ok hz xm N _ hK269 _ _ _ _ _ _ _ mem R h
      · refine kGo_sub (lvS_of [0, 1, 2, 3] rfl [0, 1, 3, 4, 5, 8, 9] rfl (by decide)) ?_
        exact m_law_isSo_527_ok hz xm N _ hK269 _ _ _ _ mem R h
def m_law_isSo_314 (xm : Nat → Option kE) (N : Nat) (K269 : Nat → Nat → Int32 → Int32 → kM → dRes) (a0 : Nat) (a1 : Nat) (a3 : Int32) (a4 : Int32) (a5 : Int32) (a6 : UInt64) (s0 : Nat) (s1 : Int32) (mem : kM) : dRes :=
  dRc xm mem s0 11 <|
  dCR (m_K_seen xm N s0 s1 mem) fun v314 m314 =>
  dRc xm m314 v314 0 <|
  dCI (m_Str_length xm N v314 m314) fun v321 m321 =>
  if v321 = a5 then (
    dF64 (FP.dmul 4602678819172646912 (FP.i2d a5)) fun v337 =>
    if 0 < (Op.cmpValue (FP.dcmp a6 v337) .l) then (
      some (.inl (some (.int 0)), m321)
    ) else (
      dF64 (FP.dmul 4602678819172646912 (FP.i2d a5)) fun v350 =>
      dCI (m_Math_max xm N 0 (a5 - 1) m321) fun v359 m359 =>
      dF64 (FP.dmul 4593671619917905920 (FP.i2d v359)) fun v363 =>
      dF64 (FP.dsub v350 v363) fun v364 =>
      if (Op.cmpValue (FP.dcmp a6 v364) .g) < 0 then (
        some (.inl (some (.int 0)), m359)
      ) else (
        m_law_isSo_374 xm N K269 N a0 a1 a3 a4 a5 v314 0 m359
      )
    )
  ) else (
    some (.inl (some (.int 0)), m321)
  )
theorem m_law_isSo_314_ok (hz : z.category = 1) (xm : Nat → Option kE) (N : Nat) (K269 : Nat → Nat → Int32 → Int32 → kM → dRes) (hK269 : ∀ (a0 : Nat) (a1 : Nat) (a3 : Int32) (a4 : Int32) (mem : kM) (R : kO × kM), K269 a0 a1 a3 a4 mem = some R → kGo xm (kSm z) kDfl kFty kG 7 139 269 [(0, .ref a0), (1, .ref a1), (3, .int a3), (4, .int a4)] [] mem (dEq R)) : ∀ (a0 : Nat) (a1 : Nat) (a3 : Int32) (a4 : Int32) (a5 : Int32) (a6 : UInt64) (s0 : Nat) (s1 : Int32) (mem : kM) (R : kO × kM), m_law_isSo_314 xm N K269 a0 a1 a3 a4 a5 a6 s0 s1 mem = some R → kGo xm (kSm z) kDfl kFty kG 7 139 314 [(0, .ref a0), (1, .ref a1), (3, .int a3), (4, .int a4), (5, .int a5), (6, .double a6)] [.int s1, .ref s0] mem (dEq R) := by
  intro a0 a1 a3 a4 a5 a6 s0 s1 mem R h
  unfold m_law_isSo_314 at h
  obtain ⟨fk314, hk314, h⟩ := dRc_some h
  refine wq_cR rfl (kCall_v hk314 (as := [.int s1]) (rest := []) ⟨by decide, rfl, (show 1 < 90 by decide), by decide⟩ (show 0 ≤ 8 by decide)) h (fun r hr => ca_up (by decide) (m_K_seen_ok hz xm N hr)) (fun v314 m314 h => ?_)
  refine wp_run 2 (pc' := 321) (lv' := [(8, .ref v314), (0, .ref a0), (1, .ref a1), (3, .int a3), (4, .int a4), (5, .int a5), (6, .double a6)]) (st' := [.ref v314]) (mem' := m314) rfl ?_
  obtain ⟨fk321, hk321, h⟩ := dRc_some h
  refine wq_cI rfl (kCall_v hk321 (as := []) (rest := []) ⟨by decide, rfl, (show 0 < 90 by decide), by decide⟩ (show 0 ≤ 8 by decide)) h (fun r hr => ca_up (by decide) (m_Str_length_ok hz xm N hr)) (fun v321 m321 h => ?_)
  refine wp_run 1 (pc' := 326) (lv' := [(8, .ref v314), (0, .ref a0), (1, .ref a1), (3, .int a3), (4, .int a4), (5, .int a5), (6, .double a6)]) (st' := [.int a5, .int v321]) (mem' := m321) rfl ?_
  refine wq_ne2 rfl h (fun h => ?_) (fun h => ?_)
  · refine wp_run 4 (pc' := 337) (lv' := [(8, .ref v314), (0, .ref a0), (1, .ref a1), (3, .int a3), (4, .int a4), (5, .int a5), (6, .double a6)]) (st' := [.double (FP.i2d a5), .double 4602678819172646912, .double a6]) (mem' := m321) rfl ?_
    refine wq_dmul rfl h (fun v337 h => ?_)
    refine wp_run 1 (pc' := 339) (lv' := [(8, .ref v314), (0, .ref a0), (1, .ref a1), (3, .int a3), (4, .int a4), (5, .int a5), (6, .double a6)]) (st' := [.int (Op.cmpValue (FP.dcmp a6 v337) .l)]) (mem' := m321) rfl ?_
    refine wq_gt rfl h (fun h => ?_) (fun h => ?_)
    · refine wp_run 1 (pc' := 370) (lv' := [(8, .ref v314), (0, .ref a0), (1, .ref a1), (3, .int a3), (4, .int a4), (5, .int a5), (6, .double a6)]) (st' := [.int 0]) (mem' := m321) rfl ?_
      exact wq_ret rfl rfl h
    · refine wp_run 4 (pc' := 350) (lv' := [(8, .ref v314), (0, .ref a0), (1, .ref a1), (3, .int a3), (4, .int a4), (5, .int a5), (6, .double a6)]) (st' := [.double (FP.i2d a5), .double 4602678819172646912, .double a6]) (mem' := m321) rfl ?_
      refine wq_dmul rfl h (fun v350 h => ?_)
      refine wp_run 5 (pc' := 359) (lv' := [(8, .ref v314), (0, .ref a0), (1, .ref a1), (3, .int a3), (4, .int a4), (5, .int a5), (6, .double a6)]) (st' := [.int (a5 - 1), .int 0, .double 4593671619917905920, .double v350, .double a6]) (mem' := m321) rfl ?_
      refine wq_cI rfl (kCall_s (as := [.int 0, .int (a5 - 1)]) (rest := [.double 4593671619917905920, .double v350, .double a6]) ⟨by decide, rfl⟩ (show 6 ≤ 8 by decide) (by decide)) h (fun r hr => ca_up (by decide) (m_Math_max_ok hz xm N hr)) (fun v359 m359 h => ?_)
      refine wp_run 1 (pc' := 363) (lv' := [(8, .ref v314), (0, .ref a0), (1, .ref a1), (3, .int a3), (4, .int a4), (5, .int a5), (6, .double a6)]) (st' := [.double (FP.i2d v359), .double 4593671619917905920, .double v350, .double a6]) (mem' := m359) rfl ?_
      refine wq_dmul rfl h (fun v363 h => ?_)
      refine wq_dsub rfl h (fun v364 h => ?_)
      refine wp_run 1 (pc' := 366) (lv' := [(8, .ref v314), (0, .ref a0), (1, .ref a1), (3, .int a3), (4, .int a4), (5, .int a5), (6, .double a6)]) (st' := [.int (Op.cmpValue (FP.dcmp a6 v364) .g)]) (mem' := m359) rfl ?_
      refine wq_ge rfl h (fun h => ?_) (fun h => ?_)
      · refine wp_run 1 (pc' := 370) (lv' := [(8, .ref v314), (0, .ref a0), (1, .ref a1), (3, .int a3), (4, .int a4), (5, .int a5), (6, .double a6)]) (st' := [.int 0]) (mem' := m359) rfl ?_
        exact wq_ret rfl rfl h
      · refine wp_run 2 (pc' := 374) (lv' := [(9, .int 0), (8, .ref v314), (0, .ref a0), (1, .ref a1), (3, .int a3), (4, .int a4), (5, .int a5), (6, .double a6)]) (st' := []) (mem' := m359) rfl ?_
        refine kGo_sub (lvS_of [2, 3, 4, 5, 6, 1, 0] rfl [9, 8, 0, 1, 3, 4, 5, 6] rfl (by decide)) ?_
        exact m_law_isSo_374_ok hz xm N _ hK269 N _ _ _ _ _ _ _ m359 R h
  · refine wp_run 1 (pc' := 370) (lv' := [(8, .ref v314), (0, .ref a0), (1, .ref a1), (3, .int a3), (4, .int a4), (5, .int a5), (6, .double a6)]) (st' := [.int 0]) (mem' := m321) rfl ?_
    exact wq_ret rfl rfl h
def m_law_isSo_297 (xm : Nat → Option kE) (N : Nat) (K269 : Nat → Nat → Int32 → Int32 → kM → dRes) (a0 : Nat) (a1 : Nat) (a3 : Int32) (a4 : Int32) (a5 : Int32) (s0 : Nat) (s1 : Int32) (mem : kM) : dRes :=
  dRc xm mem s0 11 <|
  dCD (m_K_width xm N s0 s1 mem) fun v297 m297 =>
  if a4 = 1 then (
    m_law_isSo_314 xm N K269 a0 a1 a3 a4 a5 v297 a0 1 m297
  ) else (
    m_law_isSo_314 xm N K269 a0 a1 a3 a4 a5 v297 a0 0 m297
  )
theorem m_law_isSo_297_ok (hz : z.category = 1) (xm : Nat → Option kE) (N : Nat) (K269 : Nat → Nat → Int32 → Int32 → kM → dRes) (hK269 : ∀ (a0 : Nat) (a1 : Nat) (a3 : Int32) (a4 : Int32) (mem : kM) (R : kO × kM), K269 a0 a1 a3 a4 mem = some R → kGo xm (kSm z) kDfl kFty kG 7 139 269 [(0, .ref a0), (1, .ref a1), (3, .int a3), (4, .int a4)] [] mem (dEq R)) : ∀ (a0 : Nat) (a1 : Nat) (a3 : Int32) (a4 : Int32) (a5 : Int32) (s0 : Nat) (s1 : Int32) (mem : kM) (R : kO × kM), m_law_isSo_297 xm N K269 a0 a1 a3 a4 a5 s0 s1 mem = some R → kGo xm (kSm z) kDfl kFty kG 7 139 297 [(0, .ref a0), (1, .ref a1), (3, .int a3), (4, .int a4), (5, .int a5)] [.int s1, .ref s0] mem (dEq R) := by
  intro a0 a1 a3 a4 a5 s0 s1 mem R h
  unfold m_law_isSo_297 at h
  obtain ⟨fk297, hk297, h⟩ := dRc_some h
  refine wq_cD rfl (kCall_v hk297 (as := [.int s1]) (rest := []) ⟨by decide, rfl, (show 1 < 90 by decide), by decide⟩ (show 0 ≤ 8 by decide)) h (fun r hr => ca_up (by decide) (m_K_width_ok hz xm N hr)) (fun v297 m297 h => ?_)
  refine wp_run 4 (pc' := 306) (lv' := [(6, .double v297), (0, .ref a0), (1, .ref a1), (3, .int a3), (4, .int a4), (5, .int a5)]) (st' := [.int 1, .int a4, .ref a0]) (mem' := m297) rfl ?_
  refine wq_ne2 rfl h (fun h => ?_) (fun h => ?_)
  · refine wp_run 2 (pc' := 314) (lv' := [(6, .double v297), (0, .ref a0), (1, .ref a1), (3, .int a3), (4, .int a4), (5, .int a5)]) (st' := [.int 1, .ref a0]) (mem' := m297) rfl ?_
    refine kGo_sub (lvS_of [1, 2, 3, 4, 5, 0] rfl [6, 0, 1, 3, 4, 5] rfl (by decide)) ?_
    exact m_law_isSo_314_ok hz xm N _ hK269 _ _ _ _ _ _ _ _ m297 R h
  · refine wp_run 1 (pc' := 314) (lv' := [(6, .double v297), (0, .ref a0), (1, .ref a1), (3, .int a3), (4, .int a4), (5, .int a5)]) (st' := [.int 0, .ref a0]) (mem' := m297) rfl ?_
    refine kGo_sub (lvS_of [1, 2, 3, 4, 5, 0] rfl [6, 0, 1, 3, 4, 5] rfl (by decide)) ?_
    exact m_law_isSo_314_ok hz xm N _ hK269 _ _ _ _ _ _ _ _ m297 R h
def m_law_isSo_698 (xm : Nat → Option kE) (N : Nat)  (mem : kM) : dRes :=
  some (.inl (some (.int 1)), mem)
theorem m_law_isSo_698_ok (hz : z.category = 1) (xm : Nat → Option kE) (N : Nat) : ∀ (mem : kM) (R : kO × kM), m_law_isSo_698 xm N  mem = some R → kGo xm (kSm z) kDfl kFty kG 7 139 698 [] [] mem (dEq R) := by
  intro  mem R h
  unfold m_law_isSo_698 at h
  refine wp_run 2 (pc' := 703) (lv' := []) (st' := [.int 1]) (mem' := mem) rfl ?_
  exact wq_ret rfl rfl h
def m_law_isSo_685 (xm : Nat → Option kE) (N : Nat) (a0 : Nat) (a5 : Int32) (mem : kM) : dRes :=
  dRc xm mem a0 11 <|
  dCI (m_K_many xm N a0 3 mem) fun v687 m687 =>
  if 0 < v687 then (
    m_law_isSo_698 xm N  m687
  ) else (
    if a5 < 0 then (
      m_law_isSo_698 xm N  m687
    ) else (
      some (.inl (some (.int 0)), m687)
    )
  )
theorem m_law_isSo_685_ok (hz : z.category = 1) (xm : Nat → Option kE) (N : Nat) : ∀ (a0 : Nat) (a5 : Int32) (mem : kM) (R : kO × kM), m_law_isSo_685 xm N a0 a5 mem = some R → kGo xm (kSm z) kDfl kFty kG 7 139 685 [(0, .ref a0), (5, .int a5)] [] mem (dEq R) := by
  intro a0 a5 mem R h
  unfold m_law_isSo_685 at h
  refine wp_run 2 (pc' := 687) (lv' := [(0, .ref a0), (5, .int a5)]) (st' := [.int 3, .ref a0]) (mem' := mem) rfl ?_
  obtain ⟨fk687, hk687, h⟩ := dRc_some h
  refine wq_cI rfl (kCall_v hk687 (as := [.int 3]) (rest := []) ⟨by decide, rfl, (show 1 < 90 by decide), by decide⟩ (show 0 ≤ 8 by decide)) h (fun r hr => ca_up (by decide) (m_K_many_ok hz xm N hr)) (fun v687 m687 h => ?_)
  refine wq_gt rfl h (fun h => ?_) (fun h => ?_)
  · refine kGo_sub (lvS_of [] rfl [0, 5] rfl (by decide)) ?_
    exact m_law_isSo_698_ok hz xm N  m687 R h
  · refine wp_run 1 (pc' := 695) (lv' := [(0, .ref a0), (5, .int a5)]) (st' := [.int a5]) (mem' := m687) rfl ?_
    refine wq_ge rfl h (fun h => ?_) (fun h => ?_)
    · refine kGo_sub (lvS_of [] rfl [0, 5] rfl (by decide)) ?_
      exact m_law_isSo_698_ok hz xm N  m687 R h
    · refine wp_run 1 (pc' := 703) (lv' := [(0, .ref a0), (5, .int a5)]) (st' := [.int 0]) (mem' := m687) rfl ?_
      exact wq_ret rfl rfl h
def m_law_isSo_539 (xm : Nat → Option kE) (N : Nat) : Nat → Nat → Nat → Int32 → Int32 → Int32 → kM → dRes
  | 0, _, _, _, _, _, _ => none
  | n + 1, a0, a1, a3, a4, a5, mem =>
    dRc xm mem a0 11 <|
    dCI (m_K_many xm N a0 0 mem) fun v543 m543 =>
    if a5 < v543 then (
      dRc xm m543 a0 11 <|
      dCI (m_K_left xm N a0 a5 m543) fun v554 m554 =>
      m_law_isSo_539 xm N n a0 a1 a3 (a4 + v554) (a5 + 1) m554
    ) else (
      dRc xm m543 a0 11 <|
      dCI (m_K_best xm N a0 m543) fun v567 m567 =>
      dRc xm m567 a0 11 <|
      dCI (m_K_many xm N a0 3 m567) fun v574 m574 =>
      dIL xm 0 m574 a1 0 fun v579 =>
      if v574 = v579 then (
        dRc xm m574 a0 11 <|
        dCI (m_K_many xm N a0 4 m574) fun v585 m585 =>
        dIL xm 0 m585 a1 1 fun v590 =>
        if v585 = v590 then (
          dRc xm m585 a0 11 <|
          dCI (m_K_many xm N a0 11 m585) fun v597 m597 =>
          dIL xm 0 m597 a1 3 fun v602 =>
          if v597 = v602 then (
            dRc xm m597 a0 11 <|
            dCI (m_K_many xm N a0 13 m597) fun v609 m609 =>
            dIL xm 0 m609 a1 4 fun v614 =>
            if v609 = v614 then (
              dIL xm 0 m609 a1 4 fun v621 =>
              if a3 = v621 then (
                dRc xm m609 a0 11 <|
                dCI (m_K_many xm N a0 1 m609) fun v627 m627 =>
                if v627 = a4 then (
                  dRc xm m627 a0 11 <|
                  dCI (m_K_many xm N a0 3 m627) fun v637 m637 =>
                  dRc xm m637 a0 11 <|
                  dCI (m_K_many xm N a0 4 m637) fun v642 m642 =>
                  if 24 < (v637 + v642) then (
                    some (.inl (some (.int 0)), m642)
                  ) else (
                    dRc xm m642 a0 11 <|
                    dCI (m_K_many xm N a0 15 m642) fun v654 m654 =>
                    if 12 < v654 then (
                      some (.inl (some (.int 0)), m654)
                    ) else (
                      if v567 < 0 then (
                        m_law_isSo_685 xm N a0 v567 m654
                      ) else (
                        dRc xm m654 a0 11 <|
                        dCI (m_K_needs xm N a0 v567 m654) fun v670 m670 =>
                        dRc xm m670 a0 11 <|
                        dCI (m_K_many xm N a0 2 m670) fun v676 m676 =>
                        dRc xm m676 a0 11 <|
                        dCI (m_K_left xm N a0 v676 m676) fun v679 m679 =>
                        if v679 < v670 then (
                          some (.inl (some (.int 0)), m679)
                        ) else (
                          m_law_isSo_685 xm N a0 v567 m679
                        )
                      )
                    )
                  )
                ) else (
                  some (.inl (some (.int 0)), m627)
                )
              ) else (
                some (.inl (some (.int 0)), m609)
              )
            ) else (
              some (.inl (some (.int 0)), m609)
            )
          ) else (
            some (.inl (some (.int 0)), m597)
          )
        ) else (
          some (.inl (some (.int 0)), m585)
        )
      ) else (
        some (.inl (some (.int 0)), m574)
      )
    )
theorem m_law_isSo_539_ok (hz : z.category = 1) (xm : Nat → Option kE) (N : Nat) : ∀ (n : Nat) (a0 : Nat) (a1 : Nat) (a3 : Int32) (a4 : Int32) (a5 : Int32) (mem : kM) (R : kO × kM), m_law_isSo_539 xm N n a0 a1 a3 a4 a5 mem = some R → kGo xm (kSm z) kDfl kFty kG 7 139 539 [(0, .ref a0), (1, .ref a1), (3, .int a3), (4, .int a4), (5, .int a5)] [] mem (dEq R) := by
  intro n
  induction n with
  | zero => intro a0 a1 a3 a4 a5 mem R h; cases h
  | succ n ih =>
    intro a0 a1 a3 a4 a5 mem R h
    rw [m_law_isSo_539] at h
    refine wp_run 3 (pc' := 543) (lv' := [(0, .ref a0), (1, .ref a1), (3, .int a3), (4, .int a4), (5, .int a5)]) (st' := [.int 0, .ref a0, .int a5]) (mem' := mem) rfl ?_
    obtain ⟨fk543, hk543, h⟩ := dRc_some h
    refine wq_cI rfl (kCall_v hk543 (as := [.int 0]) (rest := [.int a5]) ⟨by decide, rfl, (show 1 < 90 by decide), by decide⟩ (show 1 ≤ 8 by decide)) h (fun r hr => ca_up (by decide) (m_K_many_ok hz xm N hr)) (fun v543 m543 h => ?_)
    refine wq_ge2 rfl h (fun h => ?_) (fun h => ?_)
    · refine wp_run 3 (pc' := 554) (lv' := [(0, .ref a0), (1, .ref a1), (3, .int a3), (4, .int a4), (5, .int a5)]) (st' := [.int a5, .ref a0, .int a4]) (mem' := m543) rfl ?_
      obtain ⟨fk554, hk554, h⟩ := dRc_some h
      refine wq_cI rfl (kCall_v hk554 (as := [.int a5]) (rest := [.int a4]) ⟨by decide, rfl, (show 1 < 90 by decide), by decide⟩ (show 1 ≤ 8 by decide)) h (fun r hr => ca_up (by decide) (m_K_left_ok hz xm N hr)) (fun v554 m554 h => ?_)
      refine wp_run 4 (pc' := 539) (lv' := [(5, .int (a5 + 1)), (4, .int (a4 + v554)), (0, .ref a0), (1, .ref a1), (3, .int a3)]) (st' := []) (mem' := m554) rfl ?_
      refine kGo_sub (lvS_of [2, 3, 4, 1, 0] rfl [5, 4, 0, 1, 3] rfl (by decide)) ?_
      exact ih _ _ _ _ _ m554 R h
    · refine wp_run 1 (pc' := 567) (lv' := [(0, .ref a0), (1, .ref a1), (3, .int a3), (4, .int a4), (5, .int a5)]) (st' := [.ref a0]) (mem' := m543) rfl ?_
      obtain ⟨fk567, hk567, h⟩ := dRc_some h
      refine wq_cI rfl (kCall_v hk567 (as := []) (rest := []) ⟨by decide, rfl, (show 0 < 90 by decide), by decide⟩ (show 0 ≤ 8 by decide)) h (fun r hr => ca_up (by decide) (m_K_best_ok hz xm N hr)) (fun v567 m567 h => ?_)
      refine wp_run 3 (pc' := 574) (lv' := [(5, .int v567), (0, .ref a0), (1, .ref a1), (3, .int a3), (4, .int a4)]) (st' := [.int 3, .ref a0]) (mem' := m567) rfl ?_
      obtain ⟨fk574, hk574, h⟩ := dRc_some h
      refine wq_cI rfl (kCall_v hk574 (as := [.int 3]) (rest := []) ⟨by decide, rfl, (show 1 < 90 by decide), by decide⟩ (show 0 ≤ 8 by decide)) h (fun r hr => ca_up (by decide) (m_K_many_ok hz xm N hr)) (fun v574 m574 h => ?_)
      refine wp_run 2 (pc' := 579) (lv' := [(5, .int v567), (0, .ref a0), (1, .ref a1), (3, .int a3), (4, .int a4)]) (st' := [.int 0, .ref a1, .int v574]) (mem' := m574) rfl ?_
      refine wq_iL rfl h (fun v579 h => ?_)
      refine wq_ne2 rfl h (fun h => ?_) (fun h => ?_)
      · refine wp_run 2 (pc' := 585) (lv' := [(5, .int v567), (0, .ref a0), (1, .ref a1), (3, .int a3), (4, .int a4)]) (st' := [.int 4, .ref a0]) (mem' := m574) rfl ?_
        obtain ⟨fk585, hk585, h⟩ := dRc_some h
        refine wq_cI rfl (kCall_v hk585 (as := [.int 4]) (rest := []) ⟨by decide, rfl, (show 1 < 90 by decide), by decide⟩ (show 0 ≤ 8 by decide)) h (fun r hr => ca_up (by decide) (m_K_many_ok hz xm N hr)) (fun v585 m585 h => ?_)
        refine wp_run 2 (pc' := 590) (lv' := [(5, .int v567), (0, .ref a0), (1, .ref a1), (3, .int a3), (4, .int a4)]) (st' := [.int 1, .ref a1, .int v585]) (mem' := m585) rfl ?_
        refine wq_iL rfl h (fun v590 h => ?_)
        refine wq_ne2 rfl h (fun h => ?_) (fun h => ?_)
        · refine wp_run 2 (pc' := 597) (lv' := [(5, .int v567), (0, .ref a0), (1, .ref a1), (3, .int a3), (4, .int a4)]) (st' := [.int 11, .ref a0]) (mem' := m585) rfl ?_
          obtain ⟨fk597, hk597, h⟩ := dRc_some h
          refine wq_cI rfl (kCall_v hk597 (as := [.int 11]) (rest := []) ⟨by decide, rfl, (show 1 < 90 by decide), by decide⟩ (show 0 ≤ 8 by decide)) h (fun r hr => ca_up (by decide) (m_K_many_ok hz xm N hr)) (fun v597 m597 h => ?_)
          refine wp_run 2 (pc' := 602) (lv' := [(5, .int v567), (0, .ref a0), (1, .ref a1), (3, .int a3), (4, .int a4)]) (st' := [.int 3, .ref a1, .int v597]) (mem' := m597) rfl ?_
          refine wq_iL rfl h (fun v602 h => ?_)
          refine wq_ne2 rfl h (fun h => ?_) (fun h => ?_)
          · refine wp_run 2 (pc' := 609) (lv' := [(5, .int v567), (0, .ref a0), (1, .ref a1), (3, .int a3), (4, .int a4)]) (st' := [.int 13, .ref a0]) (mem' := m597) rfl ?_
            obtain ⟨fk609, hk609, h⟩ := dRc_some h
            refine wq_cI rfl (kCall_v hk609 (as := [.int 13]) (rest := []) ⟨by decide, rfl, (show 1 < 90 by decide), by decide⟩ (show 0 ≤ 8 by decide)) h (fun r hr => ca_up (by decide) (m_K_many_ok hz xm N hr)) (fun v609 m609 h => ?_)
            refine wp_run 2 (pc' := 614) (lv' := [(5, .int v567), (0, .ref a0), (1, .ref a1), (3, .int a3), (4, .int a4)]) (st' := [.int 4, .ref a1, .int v609]) (mem' := m609) rfl ?_
            refine wq_iL rfl h (fun v614 h => ?_)
            refine wq_ne2 rfl h (fun h => ?_) (fun h => ?_)
            · refine wp_run 3 (pc' := 621) (lv' := [(5, .int v567), (0, .ref a0), (1, .ref a1), (3, .int a3), (4, .int a4)]) (st' := [.int 4, .ref a1, .int a3]) (mem' := m609) rfl ?_
              refine wq_iL rfl h (fun v621 h => ?_)
              refine wq_ne2 rfl h (fun h => ?_) (fun h => ?_)
              · refine wp_run 2 (pc' := 627) (lv' := [(5, .int v567), (0, .ref a0), (1, .ref a1), (3, .int a3), (4, .int a4)]) (st' := [.int 1, .ref a0]) (mem' := m609) rfl ?_
                obtain ⟨fk627, hk627, h⟩ := dRc_some h
                refine wq_cI rfl (kCall_v hk627 (as := [.int 1]) (rest := []) ⟨by decide, rfl, (show 1 < 90 by decide), by decide⟩ (show 0 ≤ 8 by decide)) h (fun r hr => ca_up (by decide) (m_K_many_ok hz xm N hr)) (fun v627 m627 h => ?_)
                refine wp_run 1 (pc' := 632) (lv' := [(5, .int v567), (0, .ref a0), (1, .ref a1), (3, .int a3), (4, .int a4)]) (st' := [.int a4, .int v627]) (mem' := m627) rfl ?_
                refine wq_ne2 rfl h (fun h => ?_) (fun h => ?_)
                · refine wp_run 2 (pc' := 637) (lv' := [(5, .int v567), (0, .ref a0), (1, .ref a1), (3, .int a3), (4, .int a4)]) (st' := [.int 3, .ref a0]) (mem' := m627) rfl ?_
                  obtain ⟨fk637, hk637, h⟩ := dRc_some h
                  refine wq_cI rfl (kCall_v hk637 (as := [.int 3]) (rest := []) ⟨by decide, rfl, (show 1 < 90 by decide), by decide⟩ (show 0 ≤ 8 by decide)) h (fun r hr => ca_up (by decide) (m_K_many_ok hz xm N hr)) (fun v637 m637 h => ?_)
                  refine wp_run 2 (pc' := 642) (lv' := [(5, .int v567), (0, .ref a0), (1, .ref a1), (3, .int a3), (4, .int a4)]) (st' := [.int 4, .ref a0, .int v637]) (mem' := m637) rfl ?_
                  obtain ⟨fk642, hk642, h⟩ := dRc_some h
                  refine wq_cI rfl (kCall_v hk642 (as := [.int 4]) (rest := [.int v637]) ⟨by decide, rfl, (show 1 < 90 by decide), by decide⟩ (show 1 ≤ 8 by decide)) h (fun r hr => ca_up (by decide) (m_K_many_ok hz xm N hr)) (fun v642 m642 h => ?_)
                  refine wp_run 2 (pc' := 648) (lv' := [(5, .int v567), (0, .ref a0), (1, .ref a1), (3, .int a3), (4, .int a4)]) (st' := [.int 24, .int (v637 + v642)]) (mem' := m642) rfl ?_
                  refine wq_gt2 rfl h (fun h => ?_) (fun h => ?_)
                  · refine wp_run 1 (pc' := 703) (lv' := [(5, .int v567), (0, .ref a0), (1, .ref a1), (3, .int a3), (4, .int a4)]) (st' := [.int 0]) (mem' := m642) rfl ?_
                    exact wq_ret rfl rfl h
                  · refine wp_run 2 (pc' := 654) (lv' := [(5, .int v567), (0, .ref a0), (1, .ref a1), (3, .int a3), (4, .int a4)]) (st' := [.int 15, .ref a0]) (mem' := m642) rfl ?_
                    obtain ⟨fk654, hk654, h⟩ := dRc_some h
                    refine wq_cI rfl (kCall_v hk654 (as := [.int 15]) (rest := []) ⟨by decide, rfl, (show 1 < 90 by decide), by decide⟩ (show 0 ≤ 8 by decide)) h (fun r hr => ca_up (by decide) (m_K_many_ok hz xm N hr)) (fun v654 m654 h => ?_)
                    refine wp_run 1 (pc' := 659) (lv' := [(5, .int v567), (0, .ref a0), (1, .ref a1), (3, .int a3), (4, .int a4)]) (st' := [.int 12, .int v654]) (mem' := m654) rfl ?_
                    refine wq_gt2 rfl h (fun h => ?_) (fun h => ?_)
                    · refine wp_run 1 (pc' := 703) (lv' := [(5, .int v567), (0, .ref a0), (1, .ref a1), (3, .int a3), (4, .int a4)]) (st' := [.int 0]) (mem' := m654) rfl ?_
                      exact wq_ret rfl rfl h
                    · refine wp_run 1 (pc' := 664) (lv' := [(5, .int v567), (0, .ref a0), (1, .ref a1), (3, .int a3), (4, .int a4)]) (st' := [.int v567]) (mem' := m654) rfl ?_
                      refine wq_lt rfl h (fun h => ?_) (fun h => ?_)
                      · refine kGo_sub (lvS_of [1, 0] rfl [5, 0, 1, 3, 4] rfl (by decide)) ?_
                        exact m_law_isSo_685_ok hz xm N _ _ m654 R h
                      · refine wp_run 2 (pc' := 670) (lv' := [(5, .int v567), (0, .ref a0), (1, .ref a1), (3, .int a3), (4, .int a4)]) (st' := [.int v567, .ref a0]) (mem' := m654) rfl ?_
                        obtain ⟨fk670, hk670, h⟩ := dRc_some h
                        refine wq_cI rfl (kCall_v hk670 (as := [.int v567]) (rest := []) ⟨by decide, rfl, (show 1 < 90 by decide), by decide⟩ (show 0 ≤ 8 by decide)) h (fun r hr => ca_up (by decide) (m_K_needs_ok hz xm N hr)) (fun v670 m670 h => ?_)
                        refine wp_run 3 (pc' := 676) (lv' := [(5, .int v567), (0, .ref a0), (1, .ref a1), (3, .int a3), (4, .int a4)]) (st' := [.int 2, .ref a0, .ref a0, .int v670]) (mem' := m670) rfl ?_
                        obtain ⟨fk676, hk676, h⟩ := dRc_some h
                        refine wq_cI rfl (kCall_v hk676 (as := [.int 2]) (rest := [.ref a0, .int v670]) ⟨by decide, rfl, (show 1 < 90 by decide), by decide⟩ (show 2 ≤ 8 by decide)) h (fun r hr => ca_up (by decide) (m_K_many_ok hz xm N hr)) (fun v676 m676 h => ?_)
                        obtain ⟨fk679, hk679, h⟩ := dRc_some h
                        refine wq_cI rfl (kCall_v hk679 (as := [.int v676]) (rest := [.int v670]) ⟨by decide, rfl, (show 1 < 90 by decide), by decide⟩ (show 1 ≤ 8 by decide)) h (fun r hr => ca_up (by decide) (m_K_left_ok hz xm N hr)) (fun v679 m679 h => ?_)
                        refine wq_gt2 rfl h (fun h => ?_) (fun h => ?_)
                        · refine wp_run 1 (pc' := 703) (lv' := [(5, .int v567), (0, .ref a0), (1, .ref a1), (3, .int a3), (4, .int a4)]) (st' := [.int 0]) (mem' := m679) rfl ?_
                          exact wq_ret rfl rfl h
                        · refine kGo_sub (lvS_of [1, 0] rfl [5, 0, 1, 3, 4] rfl (by decide)) ?_
                          exact m_law_isSo_685_ok hz xm N _ _ m679 R h
                · refine wp_run 1 (pc' := 703) (lv' := [(5, .int v567), (0, .ref a0), (1, .ref a1), (3, .int a3), (4, .int a4)]) (st' := [.int 0]) (mem' := m627) rfl ?_
                  exact wq_ret rfl rfl h
              · refine wp_run 1 (pc' := 703) (lv' := [(5, .int v567), (0, .ref a0), (1, .ref a1), (3, .int a3), (4, .int a4)]) (st' := [.int 0]) (mem' := m609) rfl ?_
                exact wq_ret rfl rfl h
            · refine wp_run 1 (pc' := 703) (lv' := [(5, .int v567), (0, .ref a0), (1, .ref a1), (3, .int a3), (4, .int a4)]) (st' := [.int 0]) (mem' := m609) rfl ?_
              exact wq_ret rfl rfl h
          · refine wp_run 1 (pc' := 703) (lv' := [(5, .int v567), (0, .ref a0), (1, .ref a1), (3, .int a3), (4, .int a4)]) (st' := [.int 0]) (mem' := m597) rfl ?_
            exact wq_ret rfl rfl h
        · refine wp_run 1 (pc' := 703) (lv' := [(5, .int v567), (0, .ref a0), (1, .ref a1), (3, .int a3), (4, .int a4)]) (st' := [.int 0]) (mem' := m585) rfl ?_
          exact wq_ret rfl rfl h
      · refine wp_run 1 (pc' := 703) (lv' := [(5, .int v567), (0, .ref a0), (1, .ref a1), (3, .int a3), (4, .int a4)]) (st' := [.int 0]) (mem' := m574) rfl ?_
        exact wq_ret rfl rfl h
def m_law_isSo_269 (xm : Nat → Option kE) (N : Nat) : Nat → Nat → Nat → Int32 → Int32 → kM → dRes
  | 0, _, _, _, _, _ => none
  | n + 1, a0, a1, a3, a4, mem =>
    if a4 < 2 then (
      dRc xm mem a0 11 <|
      dCI (m_K_many xm N a0 (3 + a4) mem) fun v280 m280 =>
      if a4 = 1 then (
        m_law_isSo_297 xm N (fun a0 a1 a3 a4 mem => m_law_isSo_269 xm N n a0 a1 a3 a4 mem) a0 a1 a3 a4 v280 a0 1 m280
      ) else (
        m_law_isSo_297 xm N (fun a0 a1 a3 a4 mem => m_law_isSo_269 xm N n a0 a1 a3 a4 mem) a0 a1 a3 a4 v280 a0 0 m280
      )
    ) else (
      m_law_isSo_539 xm N N a0 a1 a3 0 0 mem
    )
theorem m_law_isSo_269_ok (hz : z.category = 1) (xm : Nat → Option kE) (N : Nat) : ∀ (n : Nat) (a0 : Nat) (a1 : Nat) (a3 : Int32) (a4 : Int32) (mem : kM) (R : kO × kM), m_law_isSo_269 xm N n a0 a1 a3 a4 mem = some R → kGo xm (kSm z) kDfl kFty kG 7 139 269 [(0, .ref a0), (1, .ref a1), (3, .int a3), (4, .int a4)] [] mem (dEq R) := by
  intro n
  induction n with
  | zero => intro a0 a1 a3 a4 mem R h; cases h
  | succ n ih =>
    intro a0 a1 a3 a4 mem R h
    rw [m_law_isSo_269] at h
    refine wp_run 2 (pc' := 272) (lv' := [(0, .ref a0), (1, .ref a1), (3, .int a3), (4, .int a4)]) (st' := [.int 2, .int a4]) (mem' := mem) rfl ?_
    refine wq_ge2 rfl h (fun h => ?_) (fun h => ?_)
    · refine wp_run 4 (pc' := 280) (lv' := [(0, .ref a0), (1, .ref a1), (3, .int a3), (4, .int a4)]) (st' := [.int (3 + a4), .ref a0]) (mem' := mem) rfl ?_
      obtain ⟨fk280, hk280, h⟩ := dRc_some h
      refine wq_cI rfl (kCall_v hk280 (as := [.int (3 + a4)]) (rest := []) ⟨by decide, rfl, (show 1 < 90 by decide), by decide⟩ (show 0 ≤ 8 by decide)) h (fun r hr => ca_up (by decide) (m_K_many_ok hz xm N hr)) (fun v280 m280 h => ?_)
      refine wp_run 4 (pc' := 289) (lv' := [(5, .int v280), (0, .ref a0), (1, .ref a1), (3, .int a3), (4, .int a4)]) (st' := [.int 1, .int a4, .ref a0]) (mem' := m280) rfl ?_
      refine wq_ne2 rfl h (fun h => ?_) (fun h => ?_)
      · refine wp_run 2 (pc' := 297) (lv' := [(5, .int v280), (0, .ref a0), (1, .ref a1), (3, .int a3), (4, .int a4)]) (st' := [.int 1, .ref a0]) (mem' := m280) rfl ?_
        refine kGo_sub (lvS_of [1, 2, 3, 4, 0] rfl [5, 0, 1, 3, 4] rfl (by decide)) ?_
        exact m_law_isSo_297_ok hz xm N _ ih _ _ _ _ _ _ _ m280 R h
      · refine wp_run 1 (pc' := 297) (lv' := [(5, .int v280), (0, .ref a0), (1, .ref a1), (3, .int a3), (4, .int a4)]) (st' := [.int 0, .ref a0]) (mem' := m280) rfl ?_
        refine kGo_sub (lvS_of [1, 2, 3, 4, 0] rfl [5, 0, 1, 3, 4] rfl (by decide)) ?_
        exact m_law_isSo_297_ok hz xm N _ ih _ _ _ _ _ _ _ m280 R h
    · refine wp_run 4 (pc' := 539) (lv' := [(5, .int 0), (4, .int 0), (0, .ref a0), (1, .ref a1), (3, .int a3)]) (st' := []) (mem' := mem) rfl ?_
      refine kGo_sub (lvS_of [2, 3, 4, 1, 0] rfl [5, 4, 0, 1, 3] rfl (by decide)) ?_
      exact m_law_isSo_539_ok hz xm N N _ _ _ _ _ mem R h
def m_law_isSo_183 (xm : Nat → Option kE) (N : Nat) : Nat → Nat → Nat → Int32 → Int32 → kM → dRes
  | 0, _, _, _, _, _ => none
  | n + 1, a0, a1, a3, a4, mem =>
    dRc xm mem a0 11 <|
    dCI (m_K_many xm N a0 12 mem) fun v188 m188 =>
    if a4 < v188 then (
      dRc xm m188 a0 11 <|
      dCI (m_K_ofRun xm N a0 a4 3 m188) fun v199 m199 =>
      dRc xm m199 a0 11 <|
      dCI (m_K_ofRun xm N a0 a4 2 m199) fun v208 m208 =>
      if v208 < 0 then (
        some (.inl (some (.int 0)), m208)
      ) else (
        dRc xm m208 a0 11 <|
        dCI (m_K_ofRun xm N a0 a4 2 m208) fun v218 m218 =>
        dRc xm m218 a0 11 <|
        dCI (m_K_ofRun xm N a0 a4 1 m218) fun v225 m225 =>
        if v225 < v218 then (
          some (.inl (some (.int 0)), m225)
        ) else (
          dRc xm m225 a0 11 <|
          dCI (m_K_ofRun xm N a0 a4 3 m225) fun v235 m235 =>
          if v235 = 1 then (
            dRc xm m235 a0 11 <|
            dCI (m_K_ofRun xm N a0 a4 0 m235) fun v247 m247 =>
            dRc xm m247 a0 11 <|
            dCI (m_K_ofLoop xm N a0 v247 5 m247) fun v251 m251 =>
            if v251 = 4 then (
              m_law_isSo_260 xm N (fun a0 a1 a3 a4 mem => m_law_isSo_183 xm N n a0 a1 a3 a4 mem) a0 a1 (a3 + v199) a4 m251
            ) else (
              some (.inl (some (.int 0)), m251)
            )
          ) else (
            m_law_isSo_260 xm N (fun a0 a1 a3 a4 mem => m_law_isSo_183 xm N n a0 a1 a3 a4 mem) a0 a1 (a3 + v199) a4 m235
          )
        )
      )
    ) else (
      m_law_isSo_269 xm N N a0 a1 a3 0 m188
    )
theorem m_law_isSo_183_ok (hz : z.category = 1) (xm : Nat → Option kE) (N : Nat) : ∀ (n : Nat) (a0 : Nat) (a1 : Nat) (a3 : Int32) (a4 : Int32) (mem : kM) (R : kO × kM), m_law_isSo_183 xm N n a0 a1 a3 a4 mem = some R → kGo xm (kSm z) kDfl kFty kG 7 139 183 [(0, .ref a0), (1, .ref a1), (3, .int a3), (4, .int a4)] [] mem (dEq R) := by
  intro n
  induction n with
  | zero => intro a0 a1 a3 a4 mem R h; cases h
  | succ n ih =>
    intro a0 a1 a3 a4 mem R h
    rw [m_law_isSo_183] at h
    refine wp_run 3 (pc' := 188) (lv' := [(0, .ref a0), (1, .ref a1), (3, .int a3), (4, .int a4)]) (st' := [.int 12, .ref a0, .int a4]) (mem' := mem) rfl ?_
    obtain ⟨fk188, hk188, h⟩ := dRc_some h
    refine wq_cI rfl (kCall_v hk188 (as := [.int 12]) (rest := [.int a4]) ⟨by decide, rfl, (show 1 < 90 by decide), by decide⟩ (show 1 ≤ 8 by decide)) h (fun r hr => ca_up (by decide) (m_K_many_ok hz xm N hr)) (fun v188 m188 h => ?_)
    refine wq_ge2 rfl h (fun h => ?_) (fun h => ?_)
    · refine wp_run 4 (pc' := 199) (lv' := [(0, .ref a0), (1, .ref a1), (3, .int a3), (4, .int a4)]) (st' := [.int 3, .int a4, .ref a0, .int a3]) (mem' := m188) rfl ?_
      obtain ⟨fk199, hk199, h⟩ := dRc_some h
      refine wq_cI rfl (kCall_v hk199 (as := [.int a4, .int 3]) (rest := [.int a3]) ⟨by decide, rfl, (show 2 < 90 by decide), by decide⟩ (show 1 ≤ 8 by decide)) h (fun r hr => ca_up (by decide) (m_K_ofRun_ok hz xm N hr)) (fun v199 m199 h => ?_)
      refine wp_run 5 (pc' := 208) (lv' := [(3, .int (a3 + v199)), (0, .ref a0), (1, .ref a1), (4, .int a4)]) (st' := [.int 2, .int a4, .ref a0]) (mem' := m199) rfl ?_
      obtain ⟨fk208, hk208, h⟩ := dRc_some h
      refine wq_cI rfl (kCall_v hk208 (as := [.int a4, .int 2]) (rest := []) ⟨by decide, rfl, (show 2 < 90 by decide), by decide⟩ (show 0 ≤ 8 by decide)) h (fun r hr => ca_up (by decide) (m_K_ofRun_ok hz xm N hr)) (fun v208 m208 h => ?_)
      refine wq_lt rfl h (fun h => ?_) (fun h => ?_)
      · refine wp_run 1 (pc' := 259) (lv' := [(3, .int (a3 + v199)), (0, .ref a0), (1, .ref a1), (4, .int a4)]) (st' := [.int 0]) (mem' := m208) rfl ?_
        exact wq_ret rfl rfl h
      · refine wp_run 3 (pc' := 218) (lv' := [(3, .int (a3 + v199)), (0, .ref a0), (1, .ref a1), (4, .int a4)]) (st' := [.int 2, .int a4, .ref a0]) (mem' := m208) rfl ?_
        obtain ⟨fk218, hk218, h⟩ := dRc_some h
        refine wq_cI rfl (kCall_v hk218 (as := [.int a4, .int 2]) (rest := []) ⟨by decide, rfl, (show 2 < 90 by decide), by decide⟩ (show 0 ≤ 8 by decide)) h (fun r hr => ca_up (by decide) (m_K_ofRun_ok hz xm N hr)) (fun v218 m218 h => ?_)
        refine wp_run 3 (pc' := 225) (lv' := [(3, .int (a3 + v199)), (0, .ref a0), (1, .ref a1), (4, .int a4)]) (st' := [.int 1, .int a4, .ref a0, .int v218]) (mem' := m218) rfl ?_
        obtain ⟨fk225, hk225, h⟩ := dRc_some h
        refine wq_cI rfl (kCall_v hk225 (as := [.int a4, .int 1]) (rest := [.int v218]) ⟨by decide, rfl, (show 2 < 90 by decide), by decide⟩ (show 1 ≤ 8 by decide)) h (fun r hr => ca_up (by decide) (m_K_ofRun_ok hz xm N hr)) (fun v225 m225 h => ?_)
        refine wq_gt2 rfl h (fun h => ?_) (fun h => ?_)
        · refine wp_run 1 (pc' := 259) (lv' := [(3, .int (a3 + v199)), (0, .ref a0), (1, .ref a1), (4, .int a4)]) (st' := [.int 0]) (mem' := m225) rfl ?_
          exact wq_ret rfl rfl h
        · refine wp_run 3 (pc' := 235) (lv' := [(3, .int (a3 + v199)), (0, .ref a0), (1, .ref a1), (4, .int a4)]) (st' := [.int 3, .int a4, .ref a0]) (mem' := m225) rfl ?_
          obtain ⟨fk235, hk235, h⟩ := dRc_some h
          refine wq_cI rfl (kCall_v hk235 (as := [.int a4, .int 3]) (rest := []) ⟨by decide, rfl, (show 2 < 90 by decide), by decide⟩ (show 0 ≤ 8 by decide)) h (fun r hr => ca_up (by decide) (m_K_ofRun_ok hz xm N hr)) (fun v235 m235 h => ?_)
          refine wp_run 1 (pc' := 239) (lv' := [(3, .int (a3 + v199)), (0, .ref a0), (1, .ref a1), (4, .int a4)]) (st' := [.int 1, .int v235]) (mem' := m235) rfl ?_
          refine wq_ne2 rfl h (fun h => ?_) (fun h => ?_)
          · refine wp_run 4 (pc' := 247) (lv' := [(3, .int (a3 + v199)), (0, .ref a0), (1, .ref a1), (4, .int a4)]) (st' := [.int 0, .int a4, .ref a0, .ref a0]) (mem' := m235) rfl ?_
            obtain ⟨fk247, hk247, h⟩ := dRc_some h
            refine wq_cI rfl (kCall_v hk247 (as := [.int a4, .int 0]) (rest := [.ref a0]) ⟨by decide, rfl, (show 2 < 90 by decide), by decide⟩ (show 1 ≤ 8 by decide)) h (fun r hr => ca_up (by decide) (m_K_ofRun_ok hz xm N hr)) (fun v247 m247 h => ?_)
            refine wp_run 1 (pc' := 251) (lv' := [(3, .int (a3 + v199)), (0, .ref a0), (1, .ref a1), (4, .int a4)]) (st' := [.int 5, .int v247, .ref a0]) (mem' := m247) rfl ?_
            obtain ⟨fk251, hk251, h⟩ := dRc_some h
            refine wq_cI rfl (kCall_v hk251 (as := [.int v247, .int 5]) (rest := []) ⟨by decide, rfl, (show 2 < 90 by decide), by decide⟩ (show 0 ≤ 8 by decide)) h (fun r hr => ca_up (by decide) (m_K_ofLoop_ok hz xm N hr)) (fun v251 m251 h => ?_)
            refine wp_run 1 (pc' := 255) (lv' := [(3, .int (a3 + v199)), (0, .ref a0), (1, .ref a1), (4, .int a4)]) (st' := [.int 4, .int v251]) (mem' := m251) rfl ?_
            refine wq_eq2 rfl h (fun h => ?_) (fun h => ?_)
            · refine kGo_sub (lvS_of [1, 2, 0, 3] rfl [3, 0, 1, 4] rfl (by decide)) ?_
              exact m_law_isSo_260_ok hz xm N _ ih _ _ _ _ m251 R h
            · refine wp_run 1 (pc' := 259) (lv' := [(3, .int (a3 + v199)), (0, .ref a0), (1, .ref a1), (4, .int a4)]) (st' := [.int 0]) (mem' := m251) rfl ?_
              exact wq_ret rfl rfl h
          · refine kGo_sub (lvS_of [1, 2, 0, 3] rfl [3, 0, 1, 4] rfl (by decide)) ?_
            exact m_law_isSo_260_ok hz xm N _ ih _ _ _ _ m235 R h
    · refine wp_run 2 (pc' := 269) (lv' := [(4, .int 0), (0, .ref a0), (1, .ref a1), (3, .int a3)]) (st' := []) (mem' := m188) rfl ?_
      refine kGo_sub (lvS_of [1, 2, 3, 0] rfl [4, 0, 1, 3] rfl (by decide)) ?_
      exact m_law_isSo_269_ok hz xm N N _ _ _ _ m188 R h
def m_law_isSo_13 (xm : Nat → Option kE) (N : Nat) : Nat → Nat → Nat → Int32 → Int32 → kM → dRes
  | 0, _, _, _, _, _ => none
  | n + 1, a0, a1, a2, a3, mem =>
    if a3 < a2 then (
      dRc xm mem a0 11 <|
      dCI (m_K_ofLoop xm N a0 a3 5 mem) fun v22 m22 =>
      dIL xm 0 m22 a1 v22 fun v26 =>
      dIS xm m22 a1 v22 (v26 + 1) fun m29 =>
      dRc xm m29 a0 11 <|
      dCI (m_K_ofLoop xm N a0 a3 0 m29) fun v33 m33 =>
      dRc xm m33 a0 11 <|
      dCI (m_K_ofLoop xm N a0 a3 4 m33) fun v41 m41 =>
      dRc xm m41 a0 11 <|
      dCI (m_K_ofLoop xm N a0 a3 3 m41) fun v49 m49 =>
      if v33 < 0 then (
        some (.inl (some (.int 0)), m49)
      ) else (
        if 5 < v33 then (
          some (.inl (some (.int 0)), m49)
        ) else (
          dRc xm m49 a0 11 <|
          dCI (m_K_ofLoop xm N a0 a3 2 m49) fun v68 m68 =>
          dRc xm m68 a0 11 <|
          dCI (m_K_many xm N a0 6 m68) fun v74 m74 =>
          if v74 < v68 then (
            some (.inl (some (.int 0)), m74)
          ) else (
            if v41 = 0 then (
              m_law_isSo_96 xm N (fun a0 a1 a2 a3 mem => m_law_isSo_13 xm N n a0 a1 a2 a3 mem) a0 a1 a2 a3 v33 v41 v49 m74
            ) else (
              if v33 = 0 then (
                some (.inl (some (.int 0)), m74)
              ) else (
                if v33 = 3 then (
                  some (.inl (some (.int 0)), m74)
                ) else (
                  m_law_isSo_96 xm N (fun a0 a1 a2 a3 mem => m_law_isSo_13 xm N n a0 a1 a2 a3 mem) a0 a1 a2 a3 v33 v41 v49 m74
                )
              )
            )
          )
        )
      )
    ) else (
      m_law_isSo_183 xm N N a0 a1 0 0 mem
    )
theorem m_law_isSo_13_ok (hz : z.category = 1) (xm : Nat → Option kE) (N : Nat) : ∀ (n : Nat) (a0 : Nat) (a1 : Nat) (a2 : Int32) (a3 : Int32) (mem : kM) (R : kO × kM), m_law_isSo_13 xm N n a0 a1 a2 a3 mem = some R → kGo xm (kSm z) kDfl kFty kG 7 139 13 [(0, .ref a0), (1, .ref a1), (2, .int a2), (3, .int a3)] [] mem (dEq R) := by
  intro n
  induction n with
  | zero => intro a0 a1 a2 a3 mem R h; cases h
  | succ n ih =>
    intro a0 a1 a2 a3 mem R h
    rw [m_law_isSo_13] at h
    refine wp_run 2 (pc' := 15) (lv' := [(0, .ref a0), (1, .ref a1), (2, .int a2), (3, .int a3)]) (st' := [.int a2, .int a3]) (mem' := mem) rfl ?_
    refine wq_ge2 rfl h (fun h => ?_) (fun h => ?_)
    · refine wp_run 4 (pc' := 22) (lv' := [(0, .ref a0), (1, .ref a1), (2, .int a2), (3, .int a3)]) (st' := [.int 5, .int a3, .ref a0, .ref a1]) (mem' := mem) rfl ?_
      obtain ⟨fk22, hk22, h⟩ := dRc_some h
      refine wq_cI rfl (kCall_v hk22 (as := [.int a3, .int 5]) (rest := [.ref a1]) ⟨by decide, rfl, (show 2 < 90 by decide), by decide⟩ (show 1 ≤ 8 by decide)) h (fun r hr => ca_up (by decide) (m_K_ofLoop_ok hz xm N hr)) (fun v22 m22 h => ?_)
      refine wp_run 1 (pc' := 26) (lv' := [(0, .ref a0), (1, .ref a1), (2, .int a2), (3, .int a3)]) (st' := [.int v22, .ref a1, .int v22, .ref a1]) (mem' := m22) rfl ?_
      refine wq_iL rfl h (fun v26 h => ?_)
      refine wp_run 2 (pc' := 29) (lv' := [(0, .ref a0), (1, .ref a1), (2, .int a2), (3, .int a3)]) (st' := [.int (v26 + 1), .int v22, .ref a1]) (mem' := m22) rfl ?_
      refine wq_iS rfl h (fun m29 h => ?_)
      refine wp_run 3 (pc' := 33) (lv' := [(0, .ref a0), (1, .ref a1), (2, .int a2), (3, .int a3)]) (st' := [.int 0, .int a3, .ref a0]) (mem' := m29) rfl ?_
      obtain ⟨fk33, hk33, h⟩ := dRc_some h
      refine wq_cI rfl (kCall_v hk33 (as := [.int a3, .int 0]) (rest := []) ⟨by decide, rfl, (show 2 < 90 by decide), by decide⟩ (show 0 ≤ 8 by decide)) h (fun r hr => ca_up (by decide) (m_K_ofLoop_ok hz xm N hr)) (fun v33 m33 h => ?_)
      refine wp_run 4 (pc' := 41) (lv' := [(4, .int v33), (0, .ref a0), (1, .ref a1), (2, .int a2), (3, .int a3)]) (st' := [.int 4, .int a3, .ref a0]) (mem' := m33) rfl ?_
      obtain ⟨fk41, hk41, h⟩ := dRc_some h
      refine wq_cI rfl (kCall_v hk41 (as := [.int a3, .int 4]) (rest := []) ⟨by decide, rfl, (show 2 < 90 by decide), by decide⟩ (show 0 ≤ 8 by decide)) h (fun r hr => ca_up (by decide) (m_K_ofLoop_ok hz xm N hr)) (fun v41 m41 h => ?_)
      refine wp_run 4 (pc' := 49) (lv' := [(5, .int v41), (4, .int v33), (0, .ref a0), (1, .ref a1), (2, .int a2), (3, .int a3)]) (st' := [.int 3, .int a3, .ref a0]) (mem' := m41) rfl ?_
      obtain ⟨fk49, hk49, h⟩ := dRc_some h
      refine wq_cI rfl (kCall_v hk49 (as := [.int a3, .int 3]) (rest := []) ⟨by decide, rfl, (show 2 < 90 by decide), by decide⟩ (show 0 ≤ 8 by decide)) h (fun r hr => ca_up (by decide) (m_K_ofLoop_ok hz xm N hr)) (fun v49 m49 h => ?_)
      refine wp_run 2 (pc' := 56) (lv' := [(6, .int v49), (5, .int v41), (4, .int v33), (0, .ref a0), (1, .ref a1), (2, .int a2), (3, .int a3)]) (st' := [.int v33]) (mem' := m49) rfl ?_
      refine wq_lt rfl h (fun h => ?_) (fun h => ?_)
      · refine wp_run 1 (pc' := 171) (lv' := [(6, .int v49), (5, .int v41), (4, .int v33), (0, .ref a0), (1, .ref a1), (2, .int a2), (3, .int a3)]) (st' := [.int 0]) (mem' := m49) rfl ?_
        exact wq_ret rfl rfl h
      · refine wp_run 2 (pc' := 62) (lv' := [(6, .int v49), (5, .int v41), (4, .int v33), (0, .ref a0), (1, .ref a1), (2, .int a2), (3, .int a3)]) (st' := [.int 5, .int v33]) (mem' := m49) rfl ?_
        refine wq_gt2 rfl h (fun h => ?_) (fun h => ?_)
        · refine wp_run 1 (pc' := 171) (lv' := [(6, .int v49), (5, .int v41), (4, .int v33), (0, .ref a0), (1, .ref a1), (2, .int a2), (3, .int a3)]) (st' := [.int 0]) (mem' := m49) rfl ?_
          exact wq_ret rfl rfl h
        · refine wp_run 3 (pc' := 68) (lv' := [(6, .int v49), (5, .int v41), (4, .int v33), (0, .ref a0), (1, .ref a1), (2, .int a2), (3, .int a3)]) (st' := [.int 2, .int a3, .ref a0]) (mem' := m49) rfl ?_
          obtain ⟨fk68, hk68, h⟩ := dRc_some h
          refine wq_cI rfl (kCall_v hk68 (as := [.int a3, .int 2]) (rest := []) ⟨by decide, rfl, (show 2 < 90 by decide), by decide⟩ (show 0 ≤ 8 by decide)) h (fun r hr => ca_up (by decide) (m_K_ofLoop_ok hz xm N hr)) (fun v68 m68 h => ?_)
          refine wp_run 2 (pc' := 74) (lv' := [(6, .int v49), (5, .int v41), (4, .int v33), (0, .ref a0), (1, .ref a1), (2, .int a2), (3, .int a3)]) (st' := [.int 6, .ref a0, .int v68]) (mem' := m68) rfl ?_
          obtain ⟨fk74, hk74, h⟩ := dRc_some h
          refine wq_cI rfl (kCall_v hk74 (as := [.int 6]) (rest := [.int v68]) ⟨by decide, rfl, (show 1 < 90 by decide), by decide⟩ (show 1 ≤ 8 by decide)) h (fun r hr => ca_up (by decide) (m_K_many_ok hz xm N hr)) (fun v74 m74 h => ?_)
          refine wq_gt2 rfl h (fun h => ?_) (fun h => ?_)
          · refine wp_run 1 (pc' := 171) (lv' := [(6, .int v49), (5, .int v41), (4, .int v33), (0, .ref a0), (1, .ref a1), (2, .int a2), (3, .int a3)]) (st' := [.int 0]) (mem' := m74) rfl ?_
            exact wq_ret rfl rfl h
          · refine wp_run 1 (pc' := 82) (lv' := [(6, .int v49), (5, .int v41), (4, .int v33), (0, .ref a0), (1, .ref a1), (2, .int a2), (3, .int a3)]) (st' := [.int v41]) (mem' := m74) rfl ?_
            refine wq_eq rfl h (fun h => ?_) (fun h => ?_)
            · refine kGo_sub (lvS_of [3, 4, 5, 6, 2, 1, 0] rfl [6, 5, 4, 0, 1, 2, 3] rfl (by decide)) ?_
              exact m_law_isSo_96_ok hz xm N _ ih _ _ _ _ _ _ _ m74 R h
            · refine wp_run 1 (pc' := 87) (lv' := [(6, .int v49), (5, .int v41), (4, .int v33), (0, .ref a0), (1, .ref a1), (2, .int a2), (3, .int a3)]) (st' := [.int v33]) (mem' := m74) rfl ?_
              refine wq_eq rfl h (fun h => ?_) (fun h => ?_)
              · refine wp_run 1 (pc' := 171) (lv' := [(6, .int v49), (5, .int v41), (4, .int v33), (0, .ref a0), (1, .ref a1), (2, .int a2), (3, .int a3)]) (st' := [.int 0]) (mem' := m74) rfl ?_
                exact wq_ret rfl rfl h
              · refine wp_run 2 (pc' := 93) (lv' := [(6, .int v49), (5, .int v41), (4, .int v33), (0, .ref a0), (1, .ref a1), (2, .int a2), (3, .int a3)]) (st' := [.int 3, .int v33]) (mem' := m74) rfl ?_
                refine wq_eq2 rfl h (fun h => ?_) (fun h => ?_)
                · refine wp_run 1 (pc' := 171) (lv' := [(6, .int v49), (5, .int v41), (4, .int v33), (0, .ref a0), (1, .ref a1), (2, .int a2), (3, .int a3)]) (st' := [.int 0]) (mem' := m74) rfl ?_
                  exact wq_ret rfl rfl h
                · refine kGo_sub (lvS_of [3, 4, 5, 6, 2, 1, 0] rfl [6, 5, 4, 0, 1, 2, 3] rfl (by decide)) ?_
                  exact m_law_isSo_96_ok hz xm N _ ih _ _ _ _ _ _ _ m74 R h
    · refine wp_run 4 (pc' := 183) (lv' := [(4, .int 0), (3, .int 0), (0, .ref a0), (1, .ref a1), (2, .int a2)]) (st' := []) (mem' := mem) rfl ?_
      refine kGo_sub (lvS_of [2, 3, 1, 0] rfl [4, 3, 0, 1, 2] rfl (by decide)) ?_
      exact m_law_isSo_183_ok hz xm N N _ _ _ _ mem R h
def m_law_isSo (xm : Nat → Option kE) (N : Nat) (a0 : Nat) (mem : kM) : dRes :=
  dNI 0 mem 5 fun m1 p1 =>
  dRc xm m1 a0 11 <|
  dCI (m_K_many xm N a0 7 m1) fun v7 m7 =>
  m_law_isSo_13 xm N N a0 p1 v7 0 m7
theorem m_law_isSo_ok (hz : z.category = 1) (xm : Nat → Option kE) (N : Nat) {a0 : Nat} {mem : kM} {R : kO × kM} (h : m_law_isSo xm N a0 mem = some R) : kCa xm (kSm z) kDfl kFty kG 8 139 [.ref a0] mem (dEq R) := by
  refine wq_ca (show 1 ≤ 13 by decide) ?_
  change kGo xm (kSm z) kDfl kFty kG 7 139 0 [(0, .ref a0)] [] mem (dEq R)
  unfold m_law_isSo at h
  refine wp_run 1 (pc' := 1) (lv' := [(0, .ref a0)]) (st' := [.int 5]) (mem' := mem) rfl ?_
  refine wq_nI rfl rfl h (fun m1 p1 h => ?_)
  refine wp_run 3 (pc' := 7) (lv' := [(1, .ref p1), (0, .ref a0)]) (st' := [.int 7, .ref a0]) (mem' := m1) rfl ?_
  obtain ⟨fk7, hk7, h⟩ := dRc_some h
  refine wq_cI rfl (kCall_v hk7 (as := [.int 7]) (rest := []) ⟨by decide, rfl, (show 1 < 90 by decide), by decide⟩ (show 0 ≤ 8 by decide)) h (fun r hr => ca_up (by decide) (m_K_many_ok hz xm N hr)) (fun v7 m7 h => ?_)
  refine wp_run 3 (pc' := 13) (lv' := [(3, .int 0), (2, .int v7), (1, .ref p1), (0, .ref a0)]) (st' := []) (mem' := m7) rfl ?_
  refine kGo_sub (lvS_of [3, 2, 1, 0] rfl [3, 2, 1, 0] rfl (by decide)) ?_
  exact m_law_isSo_13_ok hz xm N N _ _ _ _ m7 R h
end
