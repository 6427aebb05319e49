/-! ===== the class's texts; what the law's methods make of the class's calls ===== -/
/-- the law's box for an answer -/
def oU (O : Nat) (w : Int64) : Nat × kE := (O, .inl (12, [.long w]))
section KZR
variable {xm : Nat → Option kE} {mem m0 : kM} {F G : kSg} {S T : kO × kM → Prop} {N r ci k n nb cap0 c0 s0 q cap a j O c : Nat} {x y z : Int32} {w : Int64} {X : dRes} {ts : List fTy}
theorem k_seen17 (hN : 120 ≤ N) (h2 : cap ≤ 119988) {A : kSg} {p : Nat} (hA : isNd a j) (hc : c ≤ 24) (tA : tOk ((cT nb q cap).set j (a, nE (a + 1) c)) A) : ∀ (k d f b : Nat) (xs : List Int32) (mem : kM), d + k = c → k < f → sBy xs d → HpS (sSB p b xs d :: [A ++ F]) mem → dOk (m_K_seen_17 xm N f 1000 a p (Int32.ofNat d) mem) (rR fun _ m => HpS [A ++ F] m ∧ St xm mem m (k + 2) (34 * k + 38)) := by
  have un : ∀ {b : Nat} {xs : List Int32} {n : Nat} {mem : kM}, HpS (sSB p b xs n :: [A ++ F]) mem → HpT ((cT nb q cap).set j (a, nE (a + 1) c)) F mem := by
    intro b xs n mem H
    refine ⟨A, tA, Hp.sub H ?_⟩
    simp only [List.flatten_cons, List.flatten_nil, List.append_nil]
    exact List.sublist_append_right _ _
  intro k
  induction k with
  | zero =>
    intro d f b xs mem hd hf hB H
    obtain ⟨f, rfl⟩ : ∃ f', f = f' + 1 := ⟨f - 1, by omega⟩
    rw [m_K_seen_17]
    refine t_gE (un H) j (set_at hA.nT) rfl ?_
    rw [if_neg (fun z => by have := (i_lt (by omega) (by omega)).mp z; omega)]
    refine ok_rc (H.look 0 0 rfl rfl) ?_
    refine ok_cR (sb_toString (by omega) hB H) fun v m hh => ?_
    exact ok_R ⟨hh.1, hh.2.mono (by omega) (by omega)⟩
  | succ k ih =>
    intro d f b xs mem hd hf hB H
    obtain ⟨f, rfl⟩ : ∃ f', f = f' + 1 := ⟨f - 1, by omega⟩
    rw [m_K_seen_17]
    have H1 := un H
    have H0 := n_un hA.nT hc H1
    refine t_gE H1 j (set_at hA.nT) rfl ?_
    rw [if_pos ((i_lt (by omega) (by omega)).mpr (by omega))]
    refine t_rc H0 j hA.nT ?_
    obtain ⟨v, hv⟩ := n_at (xm := xm) (N := N) (x := Int32.ofNat d) H0 hA.nT hA.cA
    refine ok_eI hv ?_
    refine t_rc H0 0 rfl ?_
    obtain ⟨s, hs, hs'⟩ := k_sign (xm := xm) (N := N) (x := v) h2 H0
    refine ok_eI hs' ?_
    refine ok_rc (H.look 0 0 rfl rfl) ?_
    refine ok_cR (sb_append (by omega) hs hB H) fun u m hh => ?_
    obtain ⟨-, b', xs', H2, hB', S2⟩ := hh
    rw [i_add1]
    refine ok_mono (ih (d + 1) f b' xs' m (by omega) (by omega) hB' H2) ?_
    rintro w ⟨v, q1, q2, q3⟩
    exact ⟨v, q1, q2, (S2.trans q3).mono (by omega) (by omega)⟩
theorem c_seen (hN : 120 ≤ N) (h1 : 384 ≤ cap) (h2 : cap ≤ 119988) (H : HpT (cT nb q cap) F mem) : dOk (m_K_seen xm N 1000 x mem) (rR fun _ m => cP xm nb F 30 900 mem cap m) := by
  unfold m_K_seen
  refine t_rc H 0 rfl ?_
  obtain ⟨a, j, hA, e⟩ := k_needle (xm := xm) (N := N) (x := x) H
  refine ok_eR e ?_
  obtain ⟨c, hc, A, tA, HA⟩ := n_pin H hA.nT
  have HS : HpS [A ++ F] mem := by
    unfold HpS
    simpa using HA
  refine os_n xm HS fun m1 p H1 S1 => ?_
  refine ok_cV (sb_new H1) fun m2 hh => ?_
  obtain ⟨b, H2, S2⟩ := hh
  refine ok_mono (k_seen17 (xm := xm) hN h2 hA hc tA c 0 N b _ m2 (by omega) (by omega) sBy0 H2) ?_
  rintro w ⟨v, g1, g2, g3⟩
  refine ⟨v, g1, q, cap, 1 + (1 + (c + 2)), 4 + (16 + (34 * c + 38)), h1, h2, n_un hA.nT hc ⟨A, tA, ?_⟩, S1.trans (S2.trans g3), by omega, by omega⟩
  have g2 : Hp [A ++ F].flatten w.2 := g2
  simpa using g2
theorem d_out {K : kM → dRes} {O : Nat} {w y : Int64} (D : cP xm nb (oU O w :: G) c0 s0 m0 cap0 mem) (h : ∀ m, cP xm nb (oU O y :: G) c0 s0 m0 cap0 m → dOk (K m) S) : dOk (dP xm mem O 12 0 (.long y) K) S := by
  obtain ⟨q, cap, c, s, k1, k2, ⟨A, tA, H⟩, S1, k3, k4⟩ := D
  have hi : (A ++ oU O w :: G)[A.length]? = some (O, .inl (12, [.long w])) := by
    rw [List.getElem?_append_right (Nat.le_refl _), Nat.sub_self]
    rfl
  refine ok_p H A.length hi rfl rfl fun m H1 S2 => h m ⟨q, cap, c, s, k1, k2, ⟨A, tA, ?_⟩, S1.trans S2, k3, k4⟩
  rw [List.set_append_right _ _ (Nat.le_refl _), Nat.sub_self] at H1
  exact H1
/-- buy: what is thrown and answered depends on the length and on how many balls there are -/
theorem c_buy (hnb : nb ≤ 4) (h1 : 384 ≤ cap) (h2 : cap ≤ 119988) (H : HpT (cT nb q cap) F mem) : dOk (m_K_buy xm N 1000 x mem) (rX (fun v m => (if x < 1 then (0 : Int32) else if 9999 < x then 0 else 1) ≠ 0 ∧ nb ≠ 4 ∧ v = Int32.ofNat nb ∧ cP xm (nb + 1) F 1 6 mem cap m) (fun e m => cP xm nb F 1 6 mem cap m ∧ ((if x < 1 then (0 : Int32) else if 9999 < x then 0 else 1) = 0 ∧ e = 0 ∨ (if x < 1 then (0 : Int32) else if 9999 < x then 0 else 1) ≠ 0 ∧ nb = 4 ∧ e = 1))) := by
  have ex : cP xm nb F 1 6 mem cap (mem ++ [exn]) := ⟨q, cap, 1, 6, h1, h2, H.app _, St.new _, by omega, by omega⟩
  unfold m_K_buy
  refine ok_if (fun g => ok_XE ⟨ex, Or.inl ⟨if_pos g, rfl⟩⟩) (fun g1 => ?_)
  refine ok_if (fun g => ok_XE ⟨ex, Or.inl ⟨by rw [if_neg g1, if_pos g], rfl⟩⟩) (fun g2 => ?_)
  have g3 : (if x < 1 then (0 : Int32) else if 9999 < x then 0 else 1) ≠ 0 := by
    rw [if_neg g1, if_neg g2]
    decide
  refine t_gR H 0 rfl rfl ?_
  refine t_gE H 1 rfl rfl ?_
  refine ok_if (fun g => ?_) (fun g => ?_)
  · have g : nb < 4 := (i_lt (b := 4) (by omega) (by decide)).mp g
    refine t_gR H 0 rfl rfl ?_
    refine t_rc H 1 rfl ?_
    refine ok_cI (b_add (j := 1) (a := 1001) (b := 1002) g H rfl rfl) fun v m hh => ?_
    obtain ⟨hv, H1, S1⟩ := hh
    have H1 : HpT (cT (nb + 1) q cap) F m := H1
    exact ok_XI ⟨g3, by omega, hv, q, cap, 0, 0, h1, h2, H1, S1, by omega, by omega⟩
  · have g : ¬ nb < 4 := fun z => g ((i_lt (b := 4) (by omega) (by decide)).mpr z)
    exact ok_XE ⟨ex, Or.inr ⟨g3, by omega, rfl⟩⟩
theorem l_buy (hnb : nb ≤ 4) (h1 : 384 ≤ cap) (h2 : cap ≤ 119988) (H : HpT (cT nb q cap) (oU O w :: G) mem) : dOk (m_law_buy xm N 1000 x O mem) (rI fun v m =>
    if (if x < 1 then (0 : Int32) else if 9999 < x then 0 else 1) = 0 then v = 1 ∧ cP xm nb (oU O w :: G) 1 6 mem cap m else if nb = 4 then v = 2 ∧ cP xm nb (oU O w :: G) 1 6 mem cap m else v = 0 ∧ cP xm (nb + 1) (oU O (Int32.toInt64 (Int32.ofNat nb)) :: G) 1 6 mem cap m) := by
  unfold m_law_buy
  refine t_rc H 0 rfl ?_
  refine ok_cX (c_buy hnb h1 h2 H) (fun v m hh => ?_) (fun e m hh => ?_)
  · obtain ⟨g1, g2, rfl, D⟩ := hh
    refine d_out D fun m2 D2 => ok_I ?_
    rw [if_neg g1, if_neg g2]
    exact ⟨rfl, D2⟩
  · obtain ⟨D, ⟨g1, rfl⟩ | ⟨g1, g2, rfl⟩⟩ := hh
    · refine ok_I ?_
      rw [if_pos g1]
      exact ⟨rfl, D⟩
    · refine ok_I ?_
      rw [if_neg g1, if_pos g2]
      exact ⟨rfl, D⟩
theorem l_join (hX : kXok xm) (hN : 120 ≤ N) (hnb : nb ≤ 4) (h1 : 384 ≤ cap) (h2 : cap ≤ 119988) (H : HpT (cT nb q cap) (oU O w :: G) mem) : dOk (m_law_join xm N 1000 x O mem) (rI fun _ m => ∃ w, cP xm nb (oU O w :: G) 1 6 mem cap m) := by
  have D := cP.refl (xm := xm) h1 h2 H
  unfold m_law_join
  refine d_rc D 0 (fun _ _ => ⟨_, rfl⟩) ?_
  refine d_cX D (fun q cap k1 k2 H => c_join hX hN hnb k1 k2 H) (fun v3 m3 D1 => ?_) (fun E m3 hE D1 => ?_)
  · refine d_out D1 fun m7 D2 => ?_
    exact ok_I ⟨_, D2⟩
  · simp only [List.mem_cons, List.not_mem_nil, or_false] at hE
    subst hE
    exact ok_I ⟨_, D1⟩
theorem l_cast (hX : kXok xm) (hN : 120 ≤ N) (hnb : nb ≤ 4) (h1 : 384 ≤ cap) (h2 : cap ≤ 119988) (H : HpT (cT nb q cap) (oU O w :: G) mem) : dOk (m_law_cast xm N 1000 x O mem) (rI fun _ m => ∃ w, cP xm nb (oU O w :: G) 1 6 mem cap m) := by
  have D := cP.refl (xm := xm) h1 h2 H
  unfold m_law_cast
  refine d_rc D 0 (fun _ _ => ⟨_, rfl⟩) ?_
  refine d_cX D (fun q cap k1 k2 H => c_cast hX hN hnb k1 k2 H) (fun v3 m3 D1 => ?_) (fun E m3 hE D1 => ?_)
  · refine d_out D1 fun m7 D2 => ?_
    exact ok_I ⟨_, D2⟩
  · simp only [List.mem_cons, List.not_mem_nil, or_false] at hE
    rcases hE with rfl | rfl
    · exact ok_I ⟨_, D1⟩
    · exact ok_I ⟨_, D1⟩
theorem l_work (hX : kXok xm) (hN : 120 ≤ N) (hnb : nb ≤ 4) (h1 : 384 ≤ cap) (h2 : cap ≤ 119988) (H : HpT (cT nb q cap) (oU O w :: G) mem) : dOk (m_law_work xm N 1000 x O mem) (rI fun _ m => ∃ w, cP xm nb (oU O w :: G) 1 6 mem cap m) := by
  have D := cP.refl (xm := xm) h1 h2 H
  unfold m_law_work
  refine d_rc D 0 (fun _ _ => ⟨_, rfl⟩) ?_
  refine d_cX D (fun q cap k1 k2 H => c_work hX hN hnb k1 k2 H) (fun v3 m3 D1 => ?_) (fun E m3 hE D1 => ?_)
  · refine d_out D1 fun m7 D2 => ?_
    exact ok_I ⟨_, D2⟩
  · simp only [List.mem_cons, List.not_mem_nil, or_false] at hE
    subst hE
    exact ok_I ⟨_, D1⟩
theorem l_over (hX : kXok xm) (hN : 120 ≤ N) (hnb : nb ≤ 4) (h1 : 384 ≤ cap) (h2 : cap ≤ 119988) (H : HpT (cT nb q cap) (oU O w :: G) mem) : dOk (m_law_over xm N 1000 O mem) (rI fun _ m => ∃ w, cP xm nb (oU O w :: G) 1 6 mem cap m) := by
  have D := cP.refl (xm := xm) h1 h2 H
  unfold m_law_over
  refine d_rc D 0 (fun _ _ => ⟨_, rfl⟩) ?_
  refine d_cX D (fun q cap k1 k2 H => c_over hX hN hnb k1 k2 H) (fun v2 m2 D1 => ?_) (fun E m2 hE D1 => ?_)
  · refine d_out D1 fun m6 D2 => ?_
    exact ok_I ⟨_, D2⟩
  · simp only [List.mem_cons, List.not_mem_nil, or_false] at hE
    subst hE
    exact ok_I ⟨_, D1⟩
theorem l_together (hX : kXok xm) (hN : 120 ≤ N) (hnb : nb ≤ 4) (h1 : 384 ≤ cap) (h2 : cap ≤ 119988) (H : HpT (cT nb q cap) (oU O w :: G) mem) : dOk (m_law_together xm N 1000 x y O mem) (rI fun _ m => ∃ w, cP xm nb (oU O w :: G) 1 6 mem cap m) := by
  have D := cP.refl (xm := xm) h1 h2 H
  unfold m_law_together
  refine d_rc D 0 (fun _ _ => ⟨_, rfl⟩) ?_
  refine d_cX D (fun q cap k1 k2 H => c_together hX hN hnb k1 k2 H) (fun v4 m4 D1 => ?_) (fun E m4 hE D1 => ?_)
  · refine d_out D1 fun m8 D2 => ?_
    exact ok_I ⟨_, D2⟩
  · simp only [List.mem_cons, List.not_mem_nil, or_false] at hE
    rcases hE with rfl | rfl
    · exact ok_I ⟨_, D1⟩
    · exact ok_I ⟨_, D1⟩
theorem l_slip (hX : kXok xm) (hN : 120 ≤ N) (hnb : nb ≤ 4) (h1 : 384 ≤ cap) (h2 : cap ≤ 119988) (H : HpT (cT nb q cap) (oU O w :: G) mem) : dOk (m_law_slip xm N 1000 O mem) (rI fun _ m => ∃ w, cP xm nb (oU O w :: G) 1 6 mem cap m) := by
  have D := cP.refl (xm := xm) h1 h2 H
  unfold m_law_slip
  refine d_rc D 0 (fun _ _ => ⟨_, rfl⟩) ?_
  refine d_cX D (fun q cap k1 k2 H => c_slip hX hN hnb k1 k2 H) (fun v2 m2 D1 => ?_) (fun E m2 hE D1 => ?_)
  · refine d_out D1 fun m6 D2 => ?_
    exact ok_I ⟨_, D2⟩
  · simp only [List.mem_cons, List.not_mem_nil, or_false] at hE
    subst hE
    exact ok_I ⟨_, D1⟩
theorem l_cross (hX : kXok xm) (hN : 120 ≤ N) (hnb : nb ≤ 4) (h1 : 384 ≤ cap) (h2 : cap ≤ 119988) (H : HpT (cT nb q cap) (oU O w :: G) mem) : dOk (m_law_cross xm N 1000 x y O mem) (rI fun _ m => ∃ w, cP xm nb (oU O w :: G) 1 6 mem cap m) := by
  have D := cP.refl (xm := xm) h1 h2 H
  unfold m_law_cross
  refine d_rc D 0 (fun _ _ => ⟨_, rfl⟩) ?_
  refine d_cX D (fun q cap k1 k2 H => c_cross hX hN hnb k1 k2 H) (fun v4 m4 D1 => ?_) (fun E m4 hE D1 => ?_)
  · refine d_out D1 fun m8 D2 => ?_
    exact ok_I ⟨_, D2⟩
  · simp only [List.mem_cons, List.not_mem_nil, or_false] at hE
    rcases hE with rfl | rfl
    · exact ok_I ⟨_, D1⟩
    · exact ok_I ⟨_, D1⟩
theorem l_turn (hX : kXok xm) (hN : 120 ≤ N) (hnb : nb ≤ 4) (h1 : 384 ≤ cap) (h2 : cap ≤ 119988) (H : HpT (cT nb q cap) (oU O w :: G) mem) : dOk (m_law_turn xm N 1000 O mem) (rI fun _ m => ∃ w, cP xm nb (oU O w :: G) 1 6 mem cap m) := by
  have D := cP.refl (xm := xm) h1 h2 H
  unfold m_law_turn
  refine d_rc D 0 (fun _ _ => ⟨_, rfl⟩) ?_
  refine d_cX D (fun q cap k1 k2 H => c_turn hX hN hnb k1 k2 H) (fun v2 m2 D1 => ?_) (fun E m2 hE D1 => ?_)
  · refine d_out D1 fun m6 D2 => ?_
    exact ok_I ⟨_, D2⟩
  · simp only [List.mem_cons, List.not_mem_nil, or_false] at hE
    subst hE
    exact ok_I ⟨_, D1⟩
theorem l_bind (hX : kXok xm) (hN : 120 ≤ N) (hnb : nb ≤ 4) (h1 : 384 ≤ cap) (h2 : cap ≤ 119988) (H : HpT (cT nb q cap) (oU O w :: G) mem) : dOk (m_law_bind xm N 1000 x O mem) (rI fun _ m => ∃ w, cP xm nb (oU O w :: G) 1 6 mem cap m) := by
  have D := cP.refl (xm := xm) h1 h2 H
  unfold m_law_bind
  refine d_rc D 0 (fun _ _ => ⟨_, rfl⟩) ?_
  refine d_cX D (fun q cap k1 k2 H => c_bind hX hN hnb k1 k2 H) (fun v3 m3 D1 => ?_) (fun E m3 hE D1 => ?_)
  · refine d_out D1 fun m7 D2 => ?_
    exact ok_I ⟨_, D2⟩
  · simp only [List.mem_cons, List.not_mem_nil, or_false] at hE
    rcases hE with rfl | rfl
    · exact ok_I ⟨_, D1⟩
    · exact ok_I ⟨_, D1⟩
theorem l_drop (hX : kXok xm) (hN : 120 ≤ N) (hnb : nb ≤ 4) (h1 : 384 ≤ cap) (h2 : cap ≤ 119988) (H : HpT (cT nb q cap) (oU O w :: G) mem) : dOk (m_law_drop xm N 1000 O mem) (rI fun _ m => ∃ w, cP xm nb (oU O w :: G) 1 6 mem cap m) := by
  have D := cP.refl (xm := xm) h1 h2 H
  unfold m_law_drop
  refine d_rc D 0 (fun _ _ => ⟨_, rfl⟩) ?_
  refine d_cX D (fun q cap k1 k2 H => c_drop hX hN hnb k1 k2 H) (fun v2 m2 D1 => ?_) (fun E m2 hE D1 => ?_)
  · refine d_out D1 fun m6 D2 => ?_
    exact ok_I ⟨_, D2⟩
  · simp only [List.mem_cons, List.not_mem_nil, or_false] at hE
    subst hE
    exact ok_I ⟨_, D1⟩
theorem l_latch (hX : kXok xm) (hN : 120 ≤ N) (hnb : nb ≤ 4) (h1 : 384 ≤ cap) (h2 : cap ≤ 119988) (H : HpT (cT nb q cap) (oU O w :: G) mem) : dOk (m_law_latch xm N 1000 x O mem) (rI fun _ m => ∃ w, cP xm nb (oU O w :: G) 1 6 mem cap m) := by
  have D := cP.refl (xm := xm) h1 h2 H
  unfold m_law_latch
  refine d_rc D 0 (fun _ _ => ⟨_, rfl⟩) ?_
  refine d_cX D (fun q cap k1 k2 H => c_latch hX hN hnb k1 k2 H) (fun v3 m3 D1 => ?_) (fun E m3 hE D1 => ?_)
  · refine d_out D1 fun m7 D2 => ?_
    exact ok_I ⟨_, D2⟩
  · simp only [List.mem_cons, List.not_mem_nil, or_false] at hE
    rcases hE with rfl | rfl
    · exact ok_I ⟨_, D1⟩
    · exact ok_I ⟨_, D1⟩
theorem l_pattern (hX : kXok xm) (hN : 120 ≤ N) (hnb : nb ≤ 4) (h1 : 384 ≤ cap) (h2 : cap ≤ 119988) (H : HpT (cT nb q cap) (oU O w :: G) mem) : dOk (m_law_pattern xm N 1000 x O mem) (rI fun _ m => ∃ w, cP xm nb (oU O w :: G) 1 6 mem cap m) := by
  have D := cP.refl (xm := xm) h1 h2 H
  unfold m_law_pattern
  refine d_rc D 0 (fun _ _ => ⟨_, rfl⟩) ?_
  refine d_cX D (fun q cap k1 k2 H => c_pattern hX hN hnb k1 k2 H) (fun v3 m3 D1 => ?_) (fun E m3 hE D1 => ?_)
  · refine d_out D1 fun m7 D2 => ?_
    exact ok_I ⟨_, D2⟩
  · simp only [List.mem_cons, List.not_mem_nil, or_false] at hE
    rcases hE with rfl | rfl
    · exact ok_I ⟨_, D1⟩
    · exact ok_I ⟨_, D1⟩
theorem l_follow (hX : kXok xm) (hN : 120 ≤ N) (hnb : nb ≤ 4) (h1 : 384 ≤ cap) (h2 : cap ≤ 119988) (H : HpT (cT nb q cap) (oU O w :: G) mem) : dOk (m_law_follow xm N 1000 x O mem) (rI fun _ m => ∃ w, cP xm nb (oU O w :: G) 1 6 mem cap m) := by
  have D := cP.refl (xm := xm) h1 h2 H
  unfold m_law_follow
  refine d_rc D 0 (fun _ _ => ⟨_, rfl⟩) ?_
  refine d_cX D (fun q cap k1 k2 H => c_follow hX hN hnb k1 k2 H) (fun v3 m3 D1 => ?_) (fun E m3 hE D1 => ?_)
  · refine d_out D1 fun m7 D2 => ?_
    exact ok_I ⟨_, D2⟩
  · simp only [List.mem_cons, List.not_mem_nil, or_false] at hE
    rcases hE with rfl | rfl
    · exact ok_I ⟨_, D1⟩
    · exact ok_I ⟨_, D1⟩
theorem l_undo (hX : kXok xm) (hN : 120 ≤ N) (hnb : nb ≤ 4) (h1 : 384 ≤ cap) (h2 : cap ≤ 119988) (H : HpT (cT nb q cap) (oU O w :: G) mem) : dOk (m_law_undo xm N 1000 O mem) (rI fun _ m => ∃ w, cP xm nb (oU O w :: G) 1 6 mem cap m) := by
  have D := cP.refl (xm := xm) h1 h2 H
  unfold m_law_undo
  refine d_rc D 0 (fun _ _ => ⟨_, rfl⟩) ?_
  refine d_cX D (fun q cap k1 k2 H => c_undo hX hN hnb k1 k2 H) (fun v2 m2 D1 => ?_) (fun E m2 hE D1 => ?_)
  · refine d_out D1 fun m6 D2 => ?_
    exact ok_I ⟨_, D2⟩
  · simp only [List.mem_cons, List.not_mem_nil, or_false] at hE
    subst hE
    exact ok_I ⟨_, D1⟩
theorem l_on (hX : kXok xm) (hN : 120 ≤ N) (hnb : nb ≤ 4) (h1 : 384 ≤ cap) (h2 : cap ≤ 119988) (H : HpT (cT nb q cap) (oU O w :: G) mem) : dOk (m_law_on xm N 1000 x y O mem) (rI fun _ m => ∃ w, cP xm nb (oU O w :: G) 1 6 mem cap m) := by
  have D := cP.refl (xm := xm) h1 h2 H
  unfold m_law_on
  refine d_rc D 0 (fun _ _ => ⟨_, rfl⟩) ?_
  refine d_cX D (fun q cap k1 k2 H => c_on hX hN hnb k1 k2 H) (fun v4 m4 D1 => ?_) (fun E m4 hE D1 => ?_)
  · refine d_out D1 fun m8 D2 => ?_
    exact ok_I ⟨_, D2⟩
  · simp only [List.mem_cons, List.not_mem_nil, or_false] at hE
    subst hE
    exact ok_I ⟨_, D1⟩
theorem l_ofLoop (hX : kXok xm) (hN : 120 ≤ N) (hnb : nb ≤ 4) (h1 : 384 ≤ cap) (h2 : cap ≤ 119988) (H : HpT (cT nb q cap) (oU O w :: G) mem) : dOk (m_law_ofLoop xm N 1000 x y O mem) (rI fun _ m => ∃ w, cP xm nb (oU O w :: G) 1 6 mem cap m) := by
  have D := cP.refl (xm := xm) h1 h2 H
  unfold m_law_ofLoop
  refine d_rc D 0 (fun _ _ => ⟨_, rfl⟩) ?_
  refine d_cX D (fun q cap k1 k2 H => c_ofLoop hX hN hnb k1 k2 H) (fun v4 m4 D1 => ?_) (fun E m4 hE D1 => ?_)
  · refine d_out D1 fun m8 D2 => ?_
    exact ok_I ⟨_, D2⟩
  · simp only [List.mem_cons, List.not_mem_nil, or_false] at hE
    rcases hE with rfl | rfl
    · exact ok_I ⟨_, D1⟩
    · exact ok_I ⟨_, D1⟩
theorem l_ofRun (hX : kXok xm) (hN : 120 ≤ N) (hnb : nb ≤ 4) (h1 : 384 ≤ cap) (h2 : cap ≤ 119988) (H : HpT (cT nb q cap) (oU O w :: G) mem) : dOk (m_law_ofRun xm N 1000 x y O mem) (rI fun _ m => ∃ w, cP xm nb (oU O w :: G) 1 6 mem cap m) := by
  have D := cP.refl (xm := xm) h1 h2 H
  unfold m_law_ofRun
  refine d_rc D 0 (fun _ _ => ⟨_, rfl⟩) ?_
  refine d_cX D (fun q cap k1 k2 H => c_ofRun hX hN hnb k1 k2 H) (fun v4 m4 D1 => ?_) (fun E m4 hE D1 => ?_)
  · refine d_out D1 fun m8 D2 => ?_
    exact ok_I ⟨_, D2⟩
  · simp only [List.mem_cons, List.not_mem_nil, or_false] at hE
    rcases hE with rfl | rfl
    · exact ok_I ⟨_, D1⟩
    · exact ok_I ⟨_, D1⟩
theorem l_many (hX : kXok xm) (hN : 120 ≤ N) (hnb : nb ≤ 4) (h1 : 384 ≤ cap) (h2 : cap ≤ 119988) (H : HpT (cT nb q cap) (oU O w :: G) mem) : dOk (m_law_many xm N 1000 x O mem) (rI fun _ m => ∃ w, cP xm nb (oU O w :: G) 1 6 mem cap m) := by
  have D := cP.refl (xm := xm) h1 h2 H
  unfold m_law_many
  refine d_rc D 0 (fun _ _ => ⟨_, rfl⟩) ?_
  refine d_cX D (fun q cap k1 k2 H => c_many hX hN hnb k1 k2 H) (fun v3 m3 D1 => ?_) (fun E m3 hE D1 => ?_)
  · refine d_out D1 fun m7 D2 => ?_
    exact ok_I ⟨_, D2⟩
  · simp only [List.mem_cons, List.not_mem_nil, or_false] at hE
    subst hE
    exact ok_I ⟨_, D1⟩
theorem l_left (hX : kXok xm) (hN : 120 ≤ N) (hnb : nb ≤ 4) (h1 : 384 ≤ cap) (h2 : cap ≤ 119988) (H : HpT (cT nb q cap) (oU O w :: G) mem) : dOk (m_law_left xm N 1000 x O mem) (rI fun _ m => ∃ w, cP xm nb (oU O w :: G) 1 6 mem cap m) := by
  have D := cP.refl (xm := xm) h1 h2 H
  unfold m_law_left
  refine d_rc D 0 (fun _ _ => ⟨_, rfl⟩) ?_
  refine d_cX D (fun q cap k1 k2 H => c_left hX hN hnb k1 k2 H) (fun v3 m3 D1 => ?_) (fun E m3 hE D1 => ?_)
  · refine d_out D1 fun m7 D2 => ?_
    exact ok_I ⟨_, D2⟩
  · simp only [List.mem_cons, List.not_mem_nil, or_false] at hE
    subst hE
    exact ok_I ⟨_, D1⟩
theorem l_ofPattern (hX : kXok xm) (hN : 120 ≤ N) (hnb : nb ≤ 4) (h1 : 384 ≤ cap) (h2 : cap ≤ 119988) (H : HpT (cT nb q cap) (oU O w :: G) mem) : dOk (m_law_ofPattern xm N 1000 x y O mem) (rI fun _ m => ∃ w, cP xm nb (oU O w :: G) 1 6 mem cap m) := by
  have D := cP.refl (xm := xm) h1 h2 H
  unfold m_law_ofPattern
  refine d_rc D 0 (fun _ _ => ⟨_, rfl⟩) ?_
  refine d_cX D (fun q cap k1 k2 H => c_ofPattern hX hN hnb k1 k2 H) (fun v4 m4 D1 => ?_) (fun E m4 hE D1 => ?_)
  · refine d_out D1 fun m8 D2 => ?_
    exact ok_I ⟨_, D2⟩
  · simp only [List.mem_cons, List.not_mem_nil, or_false] at hE
    rcases hE with rfl | rfl
    · exact ok_I ⟨_, D1⟩
    · exact ok_I ⟨_, D1⟩
theorem l_would (hX : kXok xm) (hN : 120 ≤ N) (hnb : nb ≤ 4) (h1 : 384 ≤ cap) (h2 : cap ≤ 119988) (H : HpT (cT nb q cap) (oU O w :: G) mem) : dOk (m_law_would xm N 1000 x O mem) (rI fun _ m => ∃ w, cP xm nb (oU O w :: G) 1 6 mem cap m) := by
  have D := cP.refl (xm := xm) h1 h2 H
  unfold m_law_would
  refine d_rc D 0 (fun _ _ => ⟨_, rfl⟩) ?_
  refine d_cX D (fun q cap k1 k2 H => c_would hX hN hnb k1 k2 H) (fun v3 m3 D1 => ?_) (fun E m3 hE D1 => ?_)
  · refine d_out D1 fun m7 D2 => ?_
    exact ok_I ⟨_, D2⟩
  · simp only [List.mem_cons, List.not_mem_nil, or_false] at hE
    subst hE
    exact ok_I ⟨_, D1⟩
theorem l_needs (hX : kXok xm) (hN : 120 ≤ N) (hnb : nb ≤ 4) (h1 : 384 ≤ cap) (h2 : cap ≤ 119988) (H : HpT (cT nb q cap) (oU O w :: G) mem) : dOk (m_law_needs xm N 1000 x O mem) (rI fun _ m => ∃ w, cP xm nb (oU O w :: G) 1 6 mem cap m) := by
  have D := cP.refl (xm := xm) h1 h2 H
  unfold m_law_needs
  refine d_rc D 0 (fun _ _ => ⟨_, rfl⟩) ?_
  refine d_cX D (fun q cap k1 k2 H => c_needs hX hN hnb k1 k2 H) (fun v3 m3 D1 => ?_) (fun E m3 hE D1 => ?_)
  · refine d_out D1 fun m7 D2 => ?_
    exact ok_I ⟨_, D2⟩
  · simp only [List.mem_cons, List.not_mem_nil, or_false] at hE
    subst hE
    exact ok_I ⟨_, D1⟩
end KZR
