/-! ===== the law: class and reference side by side, their contents told ===== -/
/-- what a law's method answers around a call of the class -/
def lR (xm : Nat → Option kE) (r : aR) (O : Nat) (G : kSg) (mem : kM) (cap : Nat) : kO × kM → Prop := rI fun v m => v = r.1 ∧ ∃ w, (r.1 = 0 → w = Int32.toInt64 r.2.1) ∧ KC xm r.2.2 (oU O w :: G) 1 6 mem cap m
def lA (xm : Nat → Option kE) (c : aC) (O : Nat) (G : kSg) (mem : kM) (cap : Nat) : kO × kM → Prop := rI fun _ m => ∃ w, KC xm c (oU O w :: G) 1 6 mem cap m
section EY
variable {xm : Nat → Option kE} {mem m0 : kM} {F G A : kSg} {S : kO × kM → Prop} {N k nb q cap c0 s0 cap0 n t1 t2 M0 O C0 S0 : Nat} {jo x y t : Int32} {lo : List kLf} {bo pa vl vr ya : List Int32} {ps : List aS} {rs : List (List Int32)} {sc : Nat → Int32} {st : aS} {c c' : aC} {cc : Int32 × List kLf × List Int32 × List Int32 × List aS × aS} {sp : aR} {w : Int64} {X : dRes}
theorem e_out {K : kM → dRes} {y : Int64} (D : KC xm c (oU O w :: G) c0 s0 m0 cap0 mem) (h : ∀ m, KC xm c (oU O y :: G) c0 s0 m0 cap0 m → dOk (K m) S) : dOk (dP xm mem O 12 0 (.long y) K) S := by
  obtain ⟨T, h', I, q, cap, c, s, k1, k2, ⟨hz, A, tA, H⟩, S1, k3, k4⟩ := D
  have hi : (A ++ oU O w :: G)[A.length]? = some (O, .inl (12, [.long w])) := by
    rw [List.getElem?_append_right (Nat.le_refl _), Nat.sub_self]
    rfl
  refine ok_p H A.length hi rfl rfl fun m H1 S2 => h m ⟨T, h', I, q, cap, c, s, k1, k2, ⟨hz, A, tA, ?_⟩, S1.trans S2, k3, k4⟩
  rw [List.set_append_right _ _ (Nat.le_refl _), Nat.sub_self] at H1
  exact H1
theorem l_X {H : Nat → kM → dRes} (hX : dOk X (eX xm t1 t2 sp (oU O w :: G) m0 cap0)) (e1 : sp.1 = 1 → ∀ m, H t1 m = some (.inl (some (.int 1)), m)) (e2 : sp.1 = 2 → ∀ m, H t2 m = some (.inl (some (.int 2)), m)) : dOk (dCX X (fun v3 m3 => dP xm m3 O 12 0 (.long (Int32.toInt64 v3)) fun m7 => some (.inl (some (.int 0)), m7)) H) (lR xm sp O G m0 cap0) := by
  refine ok_cX hX (fun v m hh => ?_) (fun e m hh => ?_)
  · obtain ⟨h0, rfl, D⟩ := hh
    exact e_out D fun m7 D7 => ok_I ⟨h0.symm, _, fun _ => rfl, D7⟩
  · obtain ⟨h, D⟩ := hh
    rcases h with ⟨h1, rfl⟩ | ⟨h1, rfl⟩
    · rw [e1 h1]
      exact ok_I ⟨h1.symm, w, fun z => absurd (h1.symm.trans z) (by decide), D⟩
    · rw [e2 h1]
      exact ok_I ⟨h1.symm, w, fun z => absurd (h1.symm.trans z) (by decide), D⟩
theorem l_A {es : List Nat} {H : Nat → kM → dRes} (hX : dOk X (aX xm c (oU O w :: G) es m0 cap0)) (e : ∀ e ∈ es, ∀ m, ∃ v, H e m = some (.inl (some (.int v)), m)) : dOk (dCX X (fun v3 m3 => dP xm m3 O 12 0 (.long (Int32.toInt64 v3)) fun m7 => some (.inl (some (.int 0)), m7)) H) (lA xm c O G m0 cap0) := by
  refine ok_cX hX (fun v m D => ?_) (fun e' m hh => ?_)
  · exact e_out D fun m7 D7 => ok_I ⟨_, D7⟩
  · obtain ⟨he, D⟩ := hh
    obtain ⟨v, ev⟩ := e e' he m
    rw [ev]
    exact ok_I ⟨w, D⟩
theorem s_rc {K : dRes} (D : KC xm c F 0 0 m0 cap0 mem) (g : dOk K S) : dOk (dRc xm mem 1000 11 K) S := by
  obtain ⟨T, h, I, D⟩ := D
  exact x_rc D 0 (fun _ _ => ⟨_, rfl⟩) g
theorem y_buy (hX : kXok xm) (hN : 120 ≤ N) (hc : cOk (nb, jo, lo, bo, pa, ps, (vl, vr, rs, ya, sc))) (hlo : lo.length ≤ 12300) (hbo : bo.length ≤ 12300) (D : KS xm nb jo lo bo pa ps (vl, vr, rs, ya, sc) (oU O w :: G) 0 0 m0 cap0 mem) : dOk (m_law_buy xm N 1000 x O mem) (lR xm (spBuy x (nb, jo, lo, bo, pa, ps, (vl, vr, rs, ya, sc))) O G m0 cap0) := by
  unfold m_law_buy
  refine s_rc (c := (nb, jo, lo, bo, pa, ps, (vl, vr, rs, ya, sc))) D ?_
  exact l_X (q_buy D) (fun _ _ => rfl) (fun _ _ => rfl)
theorem n2_join : (spJoin x (nb, jo, lo, bo, pa, ps, (vl, vr, rs, ya, sc))).1 ≠ 2 := by
  unfold spJoin
  dsimp only
  split
  · show (1 : Int32) ≠ 2
    decide
  · show (0 : Int32) ≠ 2
    decide
theorem y_join (hX : kXok xm) (hN : 120 ≤ N) (hc : cOk (nb, jo, lo, bo, pa, ps, (vl, vr, rs, ya, sc))) (hlo : lo.length ≤ 12300) (hbo : bo.length ≤ 12300) (D : KS xm nb jo lo bo pa ps (vl, vr, rs, ya, sc) (oU O w :: G) 0 0 m0 cap0 mem) : dOk (m_law_join xm N 1000 x O mem) (lR xm (spJoin x (nb, jo, lo, bo, pa, ps, (vl, vr, rs, ya, sc))) O G m0 cap0) := by
  unfold m_law_join
  refine s_rc (c := (nb, jo, lo, bo, pa, ps, (vl, vr, rs, ya, sc))) D ?_
  exact l_X (q_join D) (fun _ _ => rfl) (fun z => absurd z n2_join)
theorem y_cast (hX : kXok xm) (hN : 120 ≤ N) (hc : cOk (nb, jo, lo, bo, pa, ps, (vl, vr, rs, ya, sc))) (hlo : lo.length ≤ 12300) (hbo : bo.length ≤ 12300) (D : KS xm nb jo lo bo pa ps (vl, vr, rs, ya, sc) (oU O w :: G) 0 0 m0 cap0 mem) : dOk (m_law_cast xm N 1000 x O mem) (lR xm (spCast x (nb, jo, lo, bo, pa, ps, (vl, vr, rs, ya, sc))) O G m0 cap0) := by
  unfold m_law_cast
  refine s_rc (c := (nb, jo, lo, bo, pa, ps, (vl, vr, rs, ya, sc))) D ?_
  exact l_X (q_cast hX hN hlo hbo D) (fun _ _ => rfl) (fun _ _ => rfl)
theorem n2_work : (spWork x (nb, jo, lo, bo, pa, ps, (vl, vr, rs, ya, sc))).1 ≠ 2 := by
  unfold spWork
  dsimp only
  split
  · show (1 : Int32) ≠ 2
    decide
  · show (0 : Int32) ≠ 2
    decide
theorem y_work (hX : kXok xm) (hN : 120 ≤ N) (hc : cOk (nb, jo, lo, bo, pa, ps, (vl, vr, rs, ya, sc))) (hlo : lo.length ≤ 12300) (hbo : bo.length ≤ 12300) (D : KS xm nb jo lo bo pa ps (vl, vr, rs, ya, sc) (oU O w :: G) 0 0 m0 cap0 mem) : dOk (m_law_work xm N 1000 x O mem) (lR xm (spWork x (nb, jo, lo, bo, pa, ps, (vl, vr, rs, ya, sc))) O G m0 cap0) := by
  unfold m_law_work
  refine s_rc (c := (nb, jo, lo, bo, pa, ps, (vl, vr, rs, ya, sc))) D ?_
  exact l_X (q_work hX hN hc.1.1 hlo hbo D) (fun _ _ => rfl) (fun z => absurd z n2_work)
theorem n2_over : (spOver (nb, jo, lo, bo, pa, ps, (vl, vr, rs, ya, sc))).1 ≠ 2 := by
  unfold spOver
  dsimp only
  split
  · show (1 : Int32) ≠ 2
    decide
  · show (0 : Int32) ≠ 2
    decide
theorem y_over (hX : kXok xm) (hN : 120 ≤ N) (hc : cOk (nb, jo, lo, bo, pa, ps, (vl, vr, rs, ya, sc))) (hlo : lo.length ≤ 12300) (hbo : bo.length ≤ 12300) (D : KS xm nb jo lo bo pa ps (vl, vr, rs, ya, sc) (oU O w :: G) 0 0 m0 cap0 mem) : dOk (m_law_over xm N 1000 O mem) (lR xm (spOver (nb, jo, lo, bo, pa, ps, (vl, vr, rs, ya, sc))) O G m0 cap0) := by
  unfold m_law_over
  refine s_rc (c := (nb, jo, lo, bo, pa, ps, (vl, vr, rs, ya, sc))) D ?_
  exact l_X (q_over hX hN hc.1.1 hlo hbo D) (fun _ _ => rfl) (fun z => absurd z n2_over)
theorem y_together (hX : kXok xm) (hN : 120 ≤ N) (hc : cOk (nb, jo, lo, bo, pa, ps, (vl, vr, rs, ya, sc))) (hlo : lo.length ≤ 12300) (hbo : bo.length ≤ 12300) (D : KS xm nb jo lo bo pa ps (vl, vr, rs, ya, sc) (oU O w :: G) 0 0 m0 cap0 mem) : dOk (m_law_together xm N 1000 x y O mem) (lR xm (spTog x y (nb, jo, lo, bo, pa, ps, (vl, vr, rs, ya, sc))) O G m0 cap0) := by
  unfold m_law_together
  refine s_rc (c := (nb, jo, lo, bo, pa, ps, (vl, vr, rs, ya, sc))) D ?_
  exact l_X (q_together hX hN hc.1.1 hlo hbo D) (fun _ _ => rfl) (fun _ _ => rfl)
theorem n2_slip : (spSlip (nb, jo, lo, bo, pa, ps, (vl, vr, rs, ya, sc))).1 ≠ 2 := by
  unfold spSlip
  dsimp only
  split
  · show (1 : Int32) ≠ 2
    decide
  · show (0 : Int32) ≠ 2
    decide
theorem y_slip (hX : kXok xm) (hN : 120 ≤ N) (hc : cOk (nb, jo, lo, bo, pa, ps, (vl, vr, rs, ya, sc))) (hlo : lo.length ≤ 12300) (hbo : bo.length ≤ 12300) (D : KS xm nb jo lo bo pa ps (vl, vr, rs, ya, sc) (oU O w :: G) 0 0 m0 cap0 mem) : dOk (m_law_slip xm N 1000 O mem) (lR xm (spSlip (nb, jo, lo, bo, pa, ps, (vl, vr, rs, ya, sc))) O G m0 cap0) := by
  unfold m_law_slip
  refine s_rc (c := (nb, jo, lo, bo, pa, ps, (vl, vr, rs, ya, sc))) D ?_
  exact l_X (q_slip hX hN hc.1.1 hlo hbo D) (fun _ _ => rfl) (fun z => absurd z n2_slip)
theorem y_cross (hX : kXok xm) (hN : 120 ≤ N) (hc : cOk (nb, jo, lo, bo, pa, ps, (vl, vr, rs, ya, sc))) (hlo : lo.length ≤ 12300) (hbo : bo.length ≤ 12300) (D : KS xm nb jo lo bo pa ps (vl, vr, rs, ya, sc) (oU O w :: G) 0 0 m0 cap0 mem) : dOk (m_law_cross xm N 1000 x y O mem) (lR xm (spCross x y (nb, jo, lo, bo, pa, ps, (vl, vr, rs, ya, sc))) O G m0 cap0) := by
  unfold m_law_cross
  refine s_rc (c := (nb, jo, lo, bo, pa, ps, (vl, vr, rs, ya, sc))) D ?_
  exact l_X (q_cross hX hN hlo hbo D) (fun _ _ => rfl) (fun _ _ => rfl)
theorem n2_turn : (spTurn (nb, jo, lo, bo, pa, ps, (vl, vr, rs, ya, sc))).1 ≠ 2 := by
  unfold spTurn
  dsimp only
  split
  · show (1 : Int32) ≠ 2
    decide
  · show (0 : Int32) ≠ 2
    decide
theorem y_turn (hX : kXok xm) (hN : 120 ≤ N) (hc : cOk (nb, jo, lo, bo, pa, ps, (vl, vr, rs, ya, sc))) (hlo : lo.length ≤ 12300) (hbo : bo.length ≤ 12300) (D : KS xm nb jo lo bo pa ps (vl, vr, rs, ya, sc) (oU O w :: G) 0 0 m0 cap0 mem) : dOk (m_law_turn xm N 1000 O mem) (lR xm (spTurn (nb, jo, lo, bo, pa, ps, (vl, vr, rs, ya, sc))) O G m0 cap0) := by
  unfold m_law_turn
  refine s_rc (c := (nb, jo, lo, bo, pa, ps, (vl, vr, rs, ya, sc))) D ?_
  exact l_X (q_turn hX hN hlo hbo D) (fun _ _ => rfl) (fun z => absurd z n2_turn)
theorem y_bind (hX : kXok xm) (hN : 120 ≤ N) (hc : cOk (nb, jo, lo, bo, pa, ps, (vl, vr, rs, ya, sc))) (hlo : lo.length ≤ 12300) (hbo : bo.length ≤ 12300) (D : KS xm nb jo lo bo pa ps (vl, vr, rs, ya, sc) (oU O w :: G) 0 0 m0 cap0 mem) : dOk (m_law_bind xm N 1000 x O mem) (lR xm (spBind x (nb, jo, lo, bo, pa, ps, (vl, vr, rs, ya, sc))) O G m0 cap0) := by
  unfold m_law_bind
  refine s_rc (c := (nb, jo, lo, bo, pa, ps, (vl, vr, rs, ya, sc))) D ?_
  exact l_X (q_bind hX hN hlo hbo D) (fun _ _ => rfl) (fun _ _ => rfl)
theorem n2_drop : (spDrop (nb, jo, lo, bo, pa, ps, (vl, vr, rs, ya, sc))).1 ≠ 2 := by
  unfold spDrop
  dsimp only
  split
  · show (1 : Int32) ≠ 2
    decide
  · show (0 : Int32) ≠ 2
    decide
theorem y_drop (hX : kXok xm) (hN : 120 ≤ N) (hc : cOk (nb, jo, lo, bo, pa, ps, (vl, vr, rs, ya, sc))) (hlo : lo.length ≤ 12300) (hbo : bo.length ≤ 12300) (D : KS xm nb jo lo bo pa ps (vl, vr, rs, ya, sc) (oU O w :: G) 0 0 m0 cap0 mem) : dOk (m_law_drop xm N 1000 O mem) (lR xm (spDrop (nb, jo, lo, bo, pa, ps, (vl, vr, rs, ya, sc))) O G m0 cap0) := by
  unfold m_law_drop
  refine s_rc (c := (nb, jo, lo, bo, pa, ps, (vl, vr, rs, ya, sc))) D ?_
  exact l_X (q_drop hX hN hlo hbo D) (fun _ _ => rfl) (fun z => absurd z n2_drop)
theorem y_latch (hX : kXok xm) (hN : 120 ≤ N) (hc : cOk (nb, jo, lo, bo, pa, ps, (vl, vr, rs, ya, sc))) (hlo : lo.length ≤ 12300) (hbo : bo.length ≤ 12300) (D : KS xm nb jo lo bo pa ps (vl, vr, rs, ya, sc) (oU O w :: G) 0 0 m0 cap0 mem) : dOk (m_law_latch xm N 1000 x O mem) (lR xm (spLatch x (nb, jo, lo, bo, pa, ps, (vl, vr, rs, ya, sc))) O G m0 cap0) := by
  unfold m_law_latch
  refine s_rc (c := (nb, jo, lo, bo, pa, ps, (vl, vr, rs, ya, sc))) D ?_
  exact l_X (q_latch hX hN hlo hbo hc.1.2 D) (fun _ _ => rfl) (fun _ _ => rfl)
theorem y_pattern (hX : kXok xm) (hN : 120 ≤ N) (hc : cOk (nb, jo, lo, bo, pa, ps, (vl, vr, rs, ya, sc))) (hlo : lo.length ≤ 12300) (hbo : bo.length ≤ 12300) (D : KS xm nb jo lo bo pa ps (vl, vr, rs, ya, sc) (oU O w :: G) 0 0 m0 cap0 mem) : dOk (m_law_pattern xm N 1000 x O mem) (lR xm (spPattern x (nb, jo, lo, bo, pa, ps, (vl, vr, rs, ya, sc))) O G m0 cap0) := by
  unfold m_law_pattern
  refine s_rc (c := (nb, jo, lo, bo, pa, ps, (vl, vr, rs, ya, sc))) D ?_
  exact l_X (q_pattern hX hN D) (fun _ _ => rfl) (fun _ _ => rfl)
theorem y_follow (hX : kXok xm) (hN : 120 ≤ N) (hc : cOk (nb, jo, lo, bo, pa, ps, (vl, vr, rs, ya, sc))) (hlo : lo.length ≤ 12300) (hbo : bo.length ≤ 12300) (D : KS xm nb jo lo bo pa ps (vl, vr, rs, ya, sc) (oU O w :: G) 0 0 m0 cap0 mem) : dOk (m_law_follow xm N 1000 x O mem) (lR xm (spFollow x (nb, jo, lo, bo, pa, ps, (vl, vr, rs, ya, sc))) O G m0 cap0) := by
  unfold m_law_follow
  refine s_rc (c := (nb, jo, lo, bo, pa, ps, (vl, vr, rs, ya, sc))) D ?_
  exact l_X (q_follow hX hN hc.1.1 hlo hbo D) (fun _ _ => rfl) (fun _ _ => rfl)
theorem n2_undo : (spUndo (nb, jo, lo, bo, pa, ps, (vl, vr, rs, ya, sc))).1 ≠ 2 := by
  unfold spUndo
  dsimp only
  split
  · show (1 : Int32) ≠ 2
    decide
  · show (0 : Int32) ≠ 2
    decide
theorem y_undo (hX : kXok xm) (hN : 120 ≤ N) (hc : cOk (nb, jo, lo, bo, pa, ps, (vl, vr, rs, ya, sc))) (hlo : lo.length ≤ 12300) (hbo : bo.length ≤ 12300) (D : KS xm nb jo lo bo pa ps (vl, vr, rs, ya, sc) (oU O w :: G) 0 0 m0 cap0 mem) : dOk (m_law_undo xm N 1000 O mem) (lR xm (spUndo (nb, jo, lo, bo, pa, ps, (vl, vr, rs, ya, sc))) O G m0 cap0) := by
  unfold m_law_undo
  refine s_rc (c := (nb, jo, lo, bo, pa, ps, (vl, vr, rs, ya, sc))) D ?_
  exact l_X (q_undo hN hlo hbo D) (fun _ _ => rfl) (fun z => absurd z n2_undo)
theorem y_on (hX : kXok xm) (hN : 120 ≤ N) (hc : cOk (nb, jo, lo, bo, pa, ps, (vl, vr, rs, ya, sc))) (hlo : lo.length ≤ 12300) (hbo : bo.length ≤ 12300) (D : KS xm nb jo lo bo pa ps (vl, vr, rs, ya, sc) (oU O w :: G) 0 0 m0 cap0 mem) : dOk (m_law_on xm N 1000 x y O mem) (lA xm (nb, jo, lo, bo, pa, ps, (vl, vr, rs, ya, sc)) O G m0 cap0) := by
  unfold m_law_on
  refine s_rc (c := (nb, jo, lo, bo, pa, ps, (vl, vr, rs, ya, sc))) D ?_
  exact l_A (a_on hX hN hc.1.1 D) (fun e he m => by
    simp only [List.mem_cons, List.not_mem_nil, or_false] at he
    subst he
    exact ⟨_, rfl⟩)
theorem y_ofLoop (hX : kXok xm) (hN : 120 ≤ N) (hc : cOk (nb, jo, lo, bo, pa, ps, (vl, vr, rs, ya, sc))) (hlo : lo.length ≤ 12300) (hbo : bo.length ≤ 12300) (D : KS xm nb jo lo bo pa ps (vl, vr, rs, ya, sc) (oU O w :: G) 0 0 m0 cap0 mem) : dOk (m_law_ofLoop xm N 1000 x y O mem) (lA xm (nb, jo, lo, bo, pa, ps, (vl, vr, rs, ya, sc)) O G m0 cap0) := by
  unfold m_law_ofLoop
  refine s_rc (c := (nb, jo, lo, bo, pa, ps, (vl, vr, rs, ya, sc))) D ?_
  exact l_A (a_ofLoop hX hN hc.1.1 D) (fun e he m => by
    simp only [List.mem_cons, List.not_mem_nil, or_false] at he
    rcases he with rfl | rfl
    · exact ⟨_, rfl⟩
    · exact ⟨_, rfl⟩)
theorem y_ofRun (hX : kXok xm) (hN : 120 ≤ N) (hc : cOk (nb, jo, lo, bo, pa, ps, (vl, vr, rs, ya, sc))) (hlo : lo.length ≤ 12300) (hbo : bo.length ≤ 12300) (D : KS xm nb jo lo bo pa ps (vl, vr, rs, ya, sc) (oU O w :: G) 0 0 m0 cap0 mem) : dOk (m_law_ofRun xm N 1000 x y O mem) (lA xm (nb, jo, lo, bo, pa, ps, (vl, vr, rs, ya, sc)) O G m0 cap0) := by
  unfold m_law_ofRun
  refine s_rc (c := (nb, jo, lo, bo, pa, ps, (vl, vr, rs, ya, sc))) D ?_
  exact l_A (a_ofRun hX hN hc.1.1 D) (fun e he m => by
    simp only [List.mem_cons, List.not_mem_nil, or_false] at he
    rcases he with rfl | rfl
    · exact ⟨_, rfl⟩
    · exact ⟨_, rfl⟩)
theorem y_many (hX : kXok xm) (hN : 120 ≤ N) (hc : cOk (nb, jo, lo, bo, pa, ps, (vl, vr, rs, ya, sc))) (hlo : lo.length ≤ 12300) (hbo : bo.length ≤ 12300) (D : KS xm nb jo lo bo pa ps (vl, vr, rs, ya, sc) (oU O w :: G) 0 0 m0 cap0 mem) : dOk (m_law_many xm N 1000 x O mem) (lA xm (nb, jo, lo, bo, pa, ps, (vl, vr, rs, ya, sc)) O G m0 cap0) := by
  unfold m_law_many
  refine s_rc (c := (nb, jo, lo, bo, pa, ps, (vl, vr, rs, ya, sc))) D ?_
  exact l_A (a_many hX hN hc.1.1 D) (fun e he m => by
    simp only [List.mem_cons, List.not_mem_nil, or_false] at he
    subst he
    exact ⟨_, rfl⟩)
theorem y_left (hX : kXok xm) (hN : 120 ≤ N) (hc : cOk (nb, jo, lo, bo, pa, ps, (vl, vr, rs, ya, sc))) (hlo : lo.length ≤ 12300) (hbo : bo.length ≤ 12300) (D : KS xm nb jo lo bo pa ps (vl, vr, rs, ya, sc) (oU O w :: G) 0 0 m0 cap0 mem) : dOk (m_law_left xm N 1000 x O mem) (lA xm (nb, jo, lo, bo, pa, ps, (vl, vr, rs, ya, sc)) O G m0 cap0) := by
  unfold m_law_left
  refine s_rc (c := (nb, jo, lo, bo, pa, ps, (vl, vr, rs, ya, sc))) D ?_
  exact l_A (a_left hX hN hc.1.1 D) (fun e he m => by
    simp only [List.mem_cons, List.not_mem_nil, or_false] at he
    subst he
    exact ⟨_, rfl⟩)
theorem y_ofPattern (hX : kXok xm) (hN : 120 ≤ N) (hc : cOk (nb, jo, lo, bo, pa, ps, (vl, vr, rs, ya, sc))) (hlo : lo.length ≤ 12300) (hbo : bo.length ≤ 12300) (D : KS xm nb jo lo bo pa ps (vl, vr, rs, ya, sc) (oU O w :: G) 0 0 m0 cap0 mem) : dOk (m_law_ofPattern xm N 1000 x y O mem) (lA xm (nb, jo, lo, bo, pa, ps, (vl, vr, rs, ya, sc)) O G m0 cap0) := by
  unfold m_law_ofPattern
  refine s_rc (c := (nb, jo, lo, bo, pa, ps, (vl, vr, rs, ya, sc))) D ?_
  exact l_A (a_ofPattern hX hN hc.1.1 D) (fun e he m => by
    simp only [List.mem_cons, List.not_mem_nil, or_false] at he
    rcases he with rfl | rfl
    · exact ⟨_, rfl⟩
    · exact ⟨_, rfl⟩)
theorem y_would (hX : kXok xm) (hN : 120 ≤ N) (hc : cOk (nb, jo, lo, bo, pa, ps, (vl, vr, rs, ya, sc))) (hlo : lo.length ≤ 12300) (hbo : bo.length ≤ 12300) (D : KS xm nb jo lo bo pa ps (vl, vr, rs, ya, sc) (oU O w :: G) 0 0 m0 cap0 mem) : dOk (m_law_would xm N 1000 x O mem) (lA xm (nb, jo, lo, bo, pa, ps, (vl, vr, rs, ya, sc)) O G m0 cap0) := by
  unfold m_law_would
  refine s_rc (c := (nb, jo, lo, bo, pa, ps, (vl, vr, rs, ya, sc))) D ?_
  exact l_A (a_would hX hN hc.1.1 D) (fun e he m => by
    simp only [List.mem_cons, List.not_mem_nil, or_false] at he
    subst he
    exact ⟨_, rfl⟩)
theorem y_needs (hX : kXok xm) (hN : 120 ≤ N) (hc : cOk (nb, jo, lo, bo, pa, ps, (vl, vr, rs, ya, sc))) (hlo : lo.length ≤ 12300) (hbo : bo.length ≤ 12300) (D : KS xm nb jo lo bo pa ps (vl, vr, rs, ya, sc) (oU O w :: G) 0 0 m0 cap0 mem) : dOk (m_law_needs xm N 1000 x O mem) (lA xm (nb, jo, lo, bo, pa, ps, (vl, vr, rs, ya, sc)) O G m0 cap0) := by
  unfold m_law_needs
  refine s_rc (c := (nb, jo, lo, bo, pa, ps, (vl, vr, rs, ya, sc))) D ?_
  exact l_A (a_needs hX hN hc.1.1 D) (fun e he m => by
    simp only [List.mem_cons, List.not_mem_nil, or_false] at he
    subst he
    exact ⟨_, rfl⟩)
/-! both side by side -/
theorem RJ.up {k' C' S' : Nat} (I : RJ xm M0 t c k C0 S0 F mem) (hk : k ≤ k') (hC : C0 ≤ C') (hS : S0 ≤ S') : RJ xm M0 t c k' C' S' F mem := by
  obtain ⟨g, sum, ck, W, hi, hg, hl, hb, h1, h2⟩ := I
  exact ⟨g, sum, ck, W, hi, hg, by omega, by omega, by omega, by omega⟩
theorem RJ.swap (I : RJ xm M0 t c k C0 S0 F mem) : ∃ G : kSg, Hp (F ++ G) mem ∧ ∀ (m : kM) (F' : kSg) (c1 s1 : Nat), Hp (F' ++ G) m → St xm mem m c1 s1 → RJ xm M0 t c k (C0 + c1) (S0 + s1) F' m := by
  obtain ⟨nb, jo, lo, bo, pa, ps, st⟩ := c
  obtain ⟨g, sum, ck, ⟨L, B, P, Q, c, cs, H, R, hck, hL, hB, hP, hQ⟩, h, hg, hl, hb, h1, h2⟩ := I
  refine ⟨((wSg M0 L B P Q c cs g sum ps st F).eraseIdx 12).flatten, H.foc 12 rfl, fun m F' c0 s0 H' S1 => ?_⟩
  have H2 := HpS.un (Ls := wSg M0 L B P Q c cs g sum ps st F) 12 rfl H'
  have H2 : HpS (wSg M0 L B P Q c cs g sum ps st F') m := H2
  exact ⟨g, sum, ck, ⟨L, B, P, Q, c, cs, H2, R.st S1, hck, hL, hB, hP, hQ⟩, h, hg, hl, hb, by have := S1.2.1; omega, by have := S1.2.2.1; omega⟩
/-- the class's contents, the reference's -/
def LJ (xm : Nat → Option kE) (M0 O : Nat) (t : Int32) (c c' : aC) (k C S : Nat) (w : Int64) (mem : kM) : Prop := ∃ q cap T h A, 384 ≤ cap ∧ cap ≤ 119988 ∧ INV c.1 c.2.1 c.2.2.1 c.2.2.2.1 c.2.2.2.2.1 c.2.2.2.2.2.1 c.2.2.2.2.2.2 T h ∧ (∀ i, cap ≤ i → i < 119988 → T i = 0) ∧ tOk (cE c.1 c.2.1 c.2.2.2.2.1 c.2.2.2.2.2.2 q cap T h) A ∧ RJ xm M0 t c' k (C + kPsi cap) (S + kPhi cap) (A ++ [oU O w]) mem
theorem LJ.cls (I : LJ xm M0 O t c c' k C0 S0 w mem) : ∃ (cap : Nat) (G : kSg), KC xm c (oU O w :: G) 0 0 mem cap mem ∧ ∀ (m : kM) (c2 : aC) (c1 s1 : Nat) (w' : Int64), c1 ≤ 30 → s1 ≤ 900 → KC xm c2 (oU O w' :: G) c1 s1 mem cap m → LJ xm M0 O t c2 c' k (C0 + 30) (S0 + 900) w' m := by
  obtain ⟨q, cap, T, h, A, h1, h2, I1, hz, tA, I⟩ := I
  obtain ⟨G, H, back⟩ := I.swap
  refine ⟨cap, G, ⟨T, h, I1, eQ.refl h1 h2 ⟨hz, A, tA, by rw [app_one]; exact H⟩⟩, fun m c2 c1 s1 w' hc hs D => ?_⟩
  obtain ⟨T', h', I', q', cap', c, s, k1, k2, ⟨hz', A', tA', H'⟩, S1, k3, k4⟩ := D
  rw [app_one] at H'
  exact ⟨q', cap', T', h', A', k1, k2, I', hz', tA', (back m (A' ++ [oU O w']) c s H' S1).up (Nat.le_refl _) (by omega) (by omega)⟩
theorem lj_rcR {K : dRes} (I : LJ xm M0 O t c c' k C0 S0 w mem) (h : dOk K S) : dOk (dRc xm mem M0 15 K) S := by
  obtain ⟨q, cap, T, h', A, h1, h2, I1, hz, tA, g, sum, ck, W, -⟩ := I
  exact w_rc W h
theorem lj_rcK {K : dRes} (I : LJ xm M0 O t c c' k C0 S0 w mem) (h : dOk K S) : dOk (dRc xm mem 1000 11 K) S := by
  obtain ⟨cap, G, D, -⟩ := I.cls
  exact s_rc D h
theorem lj_cI {K : Int32 → kM → dRes} (I : LJ xm M0 O t c c' k C0 S0 w mem) (h : ∀ cap G, KC xm c (oU O w :: G) 0 0 mem cap mem → dOk X (lR xm sp O G mem cap)) (K' : ∀ m w, (sp.1 = 0 → w = Int32.toInt64 sp.2.1) → LJ xm M0 O t sp.2.2 c' k (C0 + 30) (S0 + 900) w m → dOk (K sp.1 m) S) : dOk (dCI X K) S := by
  obtain ⟨cap, G, D, back⟩ := I.cls
  refine ok_cI (h cap G D) fun v m hh => ?_
  obtain ⟨rfl, w', hw, D2⟩ := hh
  exact K' m w' hw (back m _ 1 6 w' (by decide) (by decide) D2)
theorem lj_cA {K : Int32 → kM → dRes} (I : LJ xm M0 O t c c' k C0 S0 w mem) (h : ∀ cap G, KC xm c (oU O w :: G) 0 0 mem cap mem → dOk X (lA xm c O G mem cap)) (K' : ∀ v m w, LJ xm M0 O t c c' k (C0 + 30) (S0 + 900) w m → dOk (K v m) S) : dOk (dCI X K) S := by
  obtain ⟨cap, G, D, back⟩ := I.cls
  refine ok_cI (h cap G D) fun v m hh => ?_
  obtain ⟨w', D2⟩ := hh
  exact K' v m w' (back m _ 1 6 w' (by decide) (by decide) D2)
theorem lj_c1 {K : Int32 → kM → dRes} (I : LJ xm M0 O t c c' k C0 S0 w mem) (h : ∀ cap F, KC xm c F 0 0 mem cap mem → dOk X (rI fun _ m => KC xm c F 0 0 mem cap m)) (K' : ∀ v m w, LJ xm M0 O t c c' k (C0 + 30) (S0 + 900) w m → dOk (K v m) S) : dOk (dCI X K) S := by
  obtain ⟨cap, G, D, back⟩ := I.cls
  exact ok_cI (h cap _ D) fun v m D2 => K' v m w (back m _ 0 0 w (by decide) (by decide) D2)
theorem lj_cJ {K : Int64 → kM → dRes} (I : LJ xm M0 O t c c' k C0 S0 w mem) (h : ∀ cap F, KC xm c F 0 0 mem cap mem → dOk X (rJ fun _ m => KC xm c F 0 0 mem cap m)) (K' : ∀ v m w, LJ xm M0 O t c c' k (C0 + 30) (S0 + 900) w m → dOk (K v m) S) : dOk (dCJ X K) S := by
  obtain ⟨cap, G, D, back⟩ := I.cls
  exact ok_cJ (h cap _ D) fun v m D2 => K' v m w (back m _ 0 0 w (by decide) (by decide) D2)
theorem lj_cD {K : UInt64 → kM → dRes} (I : LJ xm M0 O t c c' k C0 S0 w mem) (h : ∀ cap F, KC xm c F 0 0 mem cap mem → dOk X (rD fun _ m => KC xm c F 0 0 mem cap m)) (K' : ∀ v m w, LJ xm M0 O t c c' k (C0 + 30) (S0 + 900) w m → dOk (K v m) S) : dOk (dCD X K) S := by
  obtain ⟨cap, G, D, back⟩ := I.cls
  exact ok_cD (h cap _ D) fun v m D2 => K' v m w (back m _ 0 0 w (by decide) (by decide) D2)
theorem lj_cR {K : Nat → kM → dRes} (I : LJ xm M0 O t c c' k C0 S0 w mem) (h : ∀ cap F, KC xm c F 0 0 mem cap mem → dOk X (rR fun _ m => KC xm c F 30 900 mem cap m)) (K' : ∀ v m w, LJ xm M0 O t c c' k (C0 + 30) (S0 + 900) w m → dOk (K v m) S) : dOk (dCR X K) S := by
  obtain ⟨cap, G, D, back⟩ := I.cls
  exact ok_cR (h cap _ D) fun v m D2 => K' v m w (back m _ 30 900 w (by decide) (by decide) D2)
/-- a call of the reference -/
theorem lj_r {K : Int32 → kM → dRes} {c1 s1 : Nat} (I : LJ xm M0 O t c c' k C0 S0 w mem) (h : ∀ C S F, RJ xm M0 t c' k C S F mem → dOk X (eR xm M0 sp k C S c1 s1 F)) (hc : c1 ≤ 1141) (hs : s1 ≤ 6690) (K' : ∀ v m, (sp.1 = 0 → v = sp.2.1) → LJ xm M0 O sp.1 c sp.2.2 (k + 1) (C0 + 1141) (S0 + 6690) w m → dOk (K v m) S) : dOk (dCI X K) S := by
  obtain ⟨q, cap, T, h', A, h1, h2, I1, hz, tA, I⟩ := I
  refine ok_cI (h _ _ _ I) fun v m hh => ?_
  obtain ⟨hv, J⟩ := hh
  exact K' v m hv ⟨q, cap, T, h', A, h1, h2, I1, hz, tA, J.up (Nat.le_refl _) (by omega) (by omega)⟩
theorem lj_rI {K : Int32 → kM → dRes} {c1 s1 : Nat} (I : LJ xm M0 O t c c' k C0 S0 w mem) (h : ∀ C S F, RJ xm M0 t c' k C S F mem → dOk X (rI fun _ m => ∃ t', RJ xm M0 t' c' (k + 1) (C + c1) (S + s1) F m)) (hc : c1 ≤ 1141) (hs : s1 ≤ 6690) (K' : ∀ v m t', LJ xm M0 O t' c c' (k + 1) (C0 + 1141) (S0 + 6690) w m → dOk (K v m) S) : dOk (dCI X K) S := by
  obtain ⟨q, cap, T, h', A, h1, h2, I1, hz, tA, I⟩ := I
  refine ok_cI (h _ _ _ I) fun v m hh => ?_
  obtain ⟨t', J⟩ := hh
  exact K' v m t' ⟨q, cap, T, h', A, h1, h2, I1, hz, tA, J.up (Nat.le_refl _) (by omega) (by omega)⟩
theorem lj_rJ {K : Int64 → kM → dRes} {c1 s1 : Nat} (I : LJ xm M0 O t c c' k C0 S0 w mem) (h : ∀ C S F, RJ xm M0 t c' k C S F mem → dOk X (rJ fun _ m => ∃ t', RJ xm M0 t' c' (k + 1) (C + c1) (S + s1) F m)) (hc : c1 ≤ 1141) (hs : s1 ≤ 6690) (K' : ∀ v m t', LJ xm M0 O t' c c' (k + 1) (C0 + 1141) (S0 + 6690) w m → dOk (K v m) S) : dOk (dCJ X K) S := by
  obtain ⟨q, cap, T, h', A, h1, h2, I1, hz, tA, I⟩ := I
  refine ok_cJ (h _ _ _ I) fun v m hh => ?_
  obtain ⟨t', J⟩ := hh
  exact K' v m t' ⟨q, cap, T, h', A, h1, h2, I1, hz, tA, J.up (Nat.le_refl _) (by omega) (by omega)⟩
theorem lj_rD {K : UInt64 → kM → dRes} {c1 s1 : Nat} (I : LJ xm M0 O t c c' k C0 S0 w mem) (h : ∀ C S F, RJ xm M0 t c' k C S F mem → dOk X (rD fun _ m => ∃ t', RJ xm M0 t' c' (k + 1) (C + c1) (S + s1) F m)) (hc : c1 ≤ 1141) (hs : s1 ≤ 6690) (K' : ∀ v m t', LJ xm M0 O t' c c' (k + 1) (C0 + 1141) (S0 + 6690) w m → dOk (K v m) S) : dOk (dCD X K) S := by
  obtain ⟨q, cap, T, h', A, h1, h2, I1, hz, tA, I⟩ := I
  refine ok_cD (h _ _ _ I) fun v m hh => ?_
  obtain ⟨t', J⟩ := hh
  exact K' v m t' ⟨q, cap, T, h', A, h1, h2, I1, hz, tA, J.up (Nat.le_refl _) (by omega) (by omega)⟩
theorem lj_rR {K : Nat → kM → dRes} {c1 s1 : Nat} (I : LJ xm M0 O t c c' k C0 S0 w mem) (h : ∀ C S F, RJ xm M0 t c' k C S F mem → dOk X (rR fun _ m => ∃ t', RJ xm M0 t' c' (k + 1) (C + c1) (S + s1) F m)) (hc : c1 ≤ 1141) (hs : s1 ≤ 6690) (K' : ∀ v m t', LJ xm M0 O t' c c' (k + 1) (C0 + 1141) (S0 + 6690) w m → dOk (K v m) S) : dOk (dCR X K) S := by
  obtain ⟨q, cap, T, h', A, h1, h2, I1, hz, tA, I⟩ := I
  refine ok_cR (h _ _ _ I) fun v m hh => ?_
  obtain ⟨t', J⟩ := hh
  exact K' v m t' ⟨q, cap, T, h', A, h1, h2, I1, hz, tA, J.up (Nat.le_refl _) (by omega) (by omega)⟩
theorem lj_thr (I : LJ xm M0 O t c c' k C0 S0 w mem) : m_M_thrown xm N M0 mem = some (.inl (some (.int t)), mem) := by
  obtain ⟨q, cap, T, h', A, h1, h2, I1, hz, tA, g, sum, ck, W, hi, ⟨rfl, -⟩, -⟩ := I
  refine ok_eq ?_
  unfold m_M_thrown
  exact w_g W (by decide) ok_me
theorem lj_out (I : LJ xm M0 O t c c' k C0 S0 w mem) : kLook xm mem O = some (.inl (12, [.long w])) := by
  obtain ⟨q, cap, T, h', A, h1, h2, I1, hz, tA, I⟩ := I
  obtain ⟨G, H, -⟩ := I.swap
  refine H.look A.length ?_
  rw [List.append_assoc, List.getElem?_append_right (Nat.le_refl _), Nat.sub_self]
  rfl
theorem lg_self (x : Int64) : lg_cmp x x = 0 := by
  unfold lg_cmp
  simp
/-- what the law compares -/
theorem lj_cmp {v : Int32} {K K2 bad : kM → dRes} (I : LJ xm M0 O sp.1 c c' k C0 S0 w mem) (hw : sp.1 = 0 → w = Int32.toInt64 sp.2.1) (hv : sp.1 = 0 → v = sp.2.1) (h : dOk (K mem) S) (h2 : dOk (K2 mem) S) : dOk (dRc xm mem M0 15 <| dCI (m_M_thrown xm N M0 mem) fun v218 m218 => if v218 = sp.1 then (if sp.1 = 0 then dGJ xm m218 O 12 0 fun v234 => if lg_cmp v234 (Int32.toInt64 v) = 0 then K m218 else bad m218 else K2 m218) else bad m218) S := by
  refine lj_rcR I ?_
  refine ok_eI (lj_thr I) ?_
  rw [if_pos rfl]
  by_cases g : sp.1 = 0
  · rw [if_pos g]
    refine ok_gJ (lj_out I) rfl ?_
    rw [hw g, hv g, if_pos (lg_self _)]
    exact h
  · rw [if_neg g]
    exact h2
theorem kPsi_le (h : cap ≤ 119988) : kPsi cap ≤ 17 := by
  unfold kPsi
  have h1 : cap.log2 ≤ 16 := by
    apply Classical.byContradiction
    intro g
    by_cases h0 : cap = 0
    · rw [h0] at g
      exact g (by decide)
    · have := (Nat.le_log2 h0).mp (show 17 ≤ cap.log2 by omega)
      omega
  split <;> omega
/-- the facts of the contents that calls need -/
theorem LJ.facts (I : LJ xm M0 O t (nb, jo, lo, bo, pa, ps, (vl, vr, rs, ya, sc)) c' k C0 S0 w mem) : jOk nb jo ∧ nb ≤ 4 ∧ ya.length = 4 ∧ (∀ v ∈ pa, aPat v) ∧ pa.length ≤ 6 := by
  obtain ⟨q, cap, T, h', A, h1, h2, I1, -⟩ := I
  exact ⟨I1.jj, I1.nb4, I1.sw.2.2.2.2, I1.1.2.2.2.2.2, I1.1.2.2.2.2.1⟩
theorem LJ.len (I : LJ xm M0 O t c (nb, jo, lo, bo, pa, ps, st) k C0 S0 w mem) (hk : k < 512) : lo.length ≤ 12300 ∧ bo.length ≤ 12300 := by
  obtain ⟨q, cap, T, h', A, h1, h2, I1, hz, tA, g, sum, ck, W, hi, hg, hl, hb, -⟩ := I
  dsimp only at hl hb
  exact ⟨by omega, by omega⟩
end EY
