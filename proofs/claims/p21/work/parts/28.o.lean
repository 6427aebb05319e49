/-! ===== the reference's calls: together, cast, turn, bind ===== -/
section KO
variable {xm : Nat → Option kE} {mem : kM} {N M0 nb k C S ck : Nat} {F : kSg} {g : Nat → Int32} {sum : Int64} {lo : List kLf} {bo pa : List Int32} {ps : List aS} {vl vr ya : List Int32} {rs : List (List Int32)} {sc : Nat → Int32}
theorem i_mul {a b : Nat} : Int32.ofNat a * Int32.ofNat b = Int32.ofNat (a * b) := (Int32.ofNat_mul a b).symm
theorem i_ge0 {a : Nat} (h : a < 2 ^ 31) : 0 ≤ Int32.ofNat a := Int32.not_lt.mp (i_nn h)
theorem r_together (hX : kXok xm) (hN : 20 ≤ N) (hk : k < 512) (I : RI xm M0 nb k C S F mem) (x y : Int32) : dOk (m_M_together xm N M0 x y mem) (rI fun v m => RI xm M0 nb (k + 1) (C + 36) (S + 360) F m) := by
  obtain ⟨g, sum, lo, bo, pa, ps, ⟨vl, vr, rs, ya, sc⟩, ck, W, hi, hl, hb, h1, h2⟩ := I
  have up : ∀ r, (rI fun v m => RI xm M0 nb (k + 1) (C + 0) (S + 0) F m) r → (rI fun v m => RI xm M0 nb (k + 1) (C + 36) (S + 360) F m) r := by
    rintro r ⟨v, a, b⟩
    exact ⟨v, a, b.up (Nat.le_refl _) (by omega) (by omega)⟩
  have h24 := hi.2.1.2.1
  dsimp only at h24
  unfold m_M_together
  refine m_start W fun m1 W1 S1 => ?_
  have hi1 : aInv nb (kUp g 0 0) lo bo pa ps (vl, vr, rs, ya, sc) := hi
  refine ok_eI m_is ?_
  refine ok_if (fun e => ?_) (fun e => ?_)
  · exact ok_mono (r_ref h1 h2 W1 hi1 hl hb S1) up
  · obtain ⟨n, rfl, p1, p2⟩ := is_nat (a := 2) (b := 3) (by decide) (by decide) e
    refine w_leftSize W1 ?_
    refine ok_if (fun e => ?_) (fun e => ?_)
    · unfold m_M_together_42
      exact ok_mono (r_ref h1 h2 W1 hi1 hl hb S1) up
    · have e := (not_congr (i_lt (by omega) (by omega))).mp e
      refine w_rc W1 ?_
      refine ok_eI (m_yarn W1 hi.sw.2.2.2.2 hi1.jn) ?_
      refine ok_if (fun e => ?_) (fun e2 => ?_)
      · unfold m_M_together_42
        exact ok_mono (r_ref h1 h2 W1 hi1 hl hb S1) up
      · refine w_rc W1 ?_
        refine ok_cV (m_keep hX (by omega) W1 hi.sw hi.2.2.2.1) fun m2 h => ?_
        obtain ⟨W2, S2⟩ := h
        have hi2 := hi1.keep
        obtain ⟨b, hb7, hb4⟩ := hi2.some (k := 5) (by decide) e2
        obtain ⟨A, ws, ys, rfl, hw, hy⟩ := split3 (l := vl) (n1 := 0) (n2 := n) (by omega)
        have hy : ys = [] := List.length_eq_zero_iff.mp hy
        subst hy
        rw [List.append_nil] at W2 hi2 h24 hi
        rw [List.length_append] at h24
        refine w_rc W2 ?_
        refine ok_cI (m_togNow hX hN W2 hw p2 hi.sw (by omega) (by omega) hb7 hb4) fun x' m3 h => ?_
        obtain ⟨-, ck', hck, W3, S3⟩ := h
        refine ok_I (RI.mk' (c := 36) (s := 360) h1 h2 W3 (hi2.make (fun v hv => List.mem_append_left _ hv) (by omega) rfl rfl) (by simp; omega) (by omega) hck ((S1.trans (S2.trans S3)).mono (by omega) (by omega)))
theorem cast_loop {n b : Nat} (hX : kXok xm) (hN : 20 ≤ N) (hn : n ≤ 24) (hj : g 7 = Int32.ofNat b) (hb : b < 4) : ∀ (j i f : Nat) (mem : kM) (lo : List kLf) (vr ya : List Int32) (rs : List (List Int32)) (sc : Nat → Int32) (ck : Nat), i + j = n → j < f → WR xm M0 g sum lo bo pa ps (vl, vr, rs, ya, sc) ck F mem → aInv nb g lo bo pa ps (vl, vr, rs, ya, sc) → vl.length + vr.length + j ≤ 24 → lo.length + j ≤ 12400 →
    dOk (m_M_cast_57 xm N f M0 (Int32.ofNat n) (Int32.ofNat i) mem) (rI fun v m => ∃ lo' st' ck', WR xm M0 g sum lo' bo pa ps st' ck' F m ∧ aInv nb g lo' bo pa ps st' ∧ lo'.length = lo.length + j ∧ ck ≤ ck' ∧ St xm mem m (5 * j) (60 * j + 4 * (ck' - ck))) := by
  intro j
  induction j with
  | zero =>
    intro i f mem lo vr ya rs sc ck hi hf W h h24 hlo
    obtain ⟨f, rfl⟩ : ∃ f', f = f' + 1 := ⟨f - 1, by omega⟩
    rw [m_M_cast_57, if_neg (fun z => by have := (i_lt (by omega) (by omega)).mp z; omega)]
    refine w_all W ?_
    exact ok_I ⟨lo, _, ck, W, h, by omega, Nat.le_refl _, St.refl.mono (by omega) (by omega)⟩
  | succ j ih =>
    intro i f mem lo vr ya rs sc ck hi hf W h h24 hlo
    obtain ⟨f, rfl⟩ : ∃ f', f = f' + 1 := ⟨f - 1, by omega⟩
    rw [m_M_cast_57, if_pos ((i_lt (by omega) (by omega)).mpr (by omega))]
    refine w_rc W ?_
    refine ok_cI (m_make hX hN W h.sw (by omega) (by omega) hj hb) fun x m1 hh => ?_
    obtain ⟨-, ck1, hck, W1, S1⟩ := hh
    rw [i_add1]
    refine ok_mono (ih (i + 1) f m1 _ _ _ _ _ ck1 (by omega) (by omega) W1 (h.make (fun v hv => hv) (by omega) rfl rfl) (by simp; omega) (by simp; omega)) ?_
    rintro r ⟨v, a1, lo', st', ck', a2, a3, a4, a5, S2⟩
    refine ⟨v, a1, lo', st', ck', a2, a3, ?_, by omega, (S1.trans S2).mono (by omega) (by omega)⟩
    simp at a4
    omega
theorem r_cast (hX : kXok xm) (hN : 60 ≤ N) (hk : k < 512) (I : RI xm M0 nb k C S F mem) (x : Int32) : dOk (m_M_cast xm N M0 x mem) (rI fun v m => RI xm M0 nb (k + 1) (C + 151) (S + 1740) F m) := by
  obtain ⟨g, sum, lo, bo, pa, ps, ⟨vl, vr, rs, ya, sc⟩, ck, W, hi, hl, hb, h1, h2⟩ := I
  have up : ∀ r, (rI fun v m => RI xm M0 nb (k + 1) (C + 0) (S + 0) F m) r → (rI fun v m => RI xm M0 nb (k + 1) (C + 151) (S + 1740) F m) r := by
    rintro r ⟨v, a, b⟩
    exact ⟨v, a, b.up (Nat.le_refl _) (by omega) (by omega)⟩
  have h24 := hi.2.1.2.1
  dsimp only at h24
  unfold m_M_cast
  refine m_start W fun m1 W1 S1 => ?_
  have hi1 : aInv nb (kUp g 0 0) lo bo pa ps (vl, vr, rs, ya, sc) := hi
  refine ok_eI m_is ?_
  refine ok_if (fun e => ?_) (fun e => ?_)
  · exact ok_mono (r_ref h1 h2 W1 hi1 hl hb S1) up
  · obtain ⟨n, rfl, p1, p2⟩ := is_nat (a := 1) (b := 24) (by decide) (by decide) e
    refine w_rc W1 ?_
    refine ok_eI (m_yarn W1 hi.sw.2.2.2.2 hi1.jn) ?_
    refine ok_if (fun e => ?_) (fun e2 => ?_)
    · unfold m_M_cast_45
      exact ok_mono (r_ref h1 h2 W1 hi1 hl hb S1) up
    · refine w_all W1 ?_
      rw [i_add]
      refine ok_if (fun e => ?_) (fun e => ?_)
      · unfold m_M_cast_45
        exact ok_mono (r_ref h1 h2 W1 hi1 hl hb S1) up
      · have e := (not_congr (i_lt (a := 24) (by decide) (by omega))).mp e
        refine w_rc W1 ?_
        refine ok_cV (m_keep hX (by omega) W1 hi.sw hi.2.2.2.1) fun m2 h => ?_
        obtain ⟨W2, S2⟩ := h
        have hi2 := hi1.keep
        have e3 : (2 : Int32) * Int32.ofNat n = Int32.ofNat (2 * n) := i_mul (a := 2)
        rw [e3] at e2
        obtain ⟨b, hb7, hb4⟩ := hi2.some (k := Int32.ofNat (2 * n)) (i_ge0 (by omega)) e2
        refine ok_mono (cast_loop (bo := bo) (pa := pa) (vl := vl) (F := F) (nb := nb) hX (by omega) p2 hb7 hb4 n 0 N m2 lo vr ya rs sc ck (by omega) (by omega) W2 hi2 (by omega) (by omega)) ?_
        rintro r ⟨v, a1, lo', st', ck', a2, a3, a4, a5, S3⟩
        exact ⟨v, a1, RI.mk' (c := 151) (s := 1740) h1 h2 a2 a3 (by omega) (by omega) a5 ((S1.trans (S2.trans S3)).mono (by omega) (by omega))⟩
theorem HpS.swap67 {a0 a1 a2 a3 a4 a5 X Y : kSg} {R : List kSg} (H : HpS (a0 :: a1 :: a2 :: a3 :: a4 :: a5 :: X :: Y :: R) mem) : HpS (a0 :: a1 :: a2 :: a3 :: a4 :: a5 :: Y :: X :: R) mem :=
  Hp.perm H (List.Perm.flatten (((((((List.Perm.swap Y X R).cons a5).cons a4).cons a3).cons a2).cons a1).cons a0))
theorem r_turn (hX : kXok xm) (hN : 20 ≤ N) (I : RI xm M0 nb k C S F mem) : dOk (m_M_turn xm N M0 mem) (rI fun v m => RI xm M0 nb (k + 1) (C + 31) (S + 300) F m) := by
  obtain ⟨g, sum, lo, bo, pa, ps, ⟨vl, vr, rs, ya, sc⟩, ck, W, hi, hl, hb, h1, h2⟩ := I
  have up : ∀ r, (rI fun v m => RI xm M0 nb (k + 1) (C + 0) (S + 0) F m) r → (rI fun v m => RI xm M0 nb (k + 1) (C + 31) (S + 300) F m) r := by
    rintro r ⟨v, a, b⟩
    exact ⟨v, a, b.up (Nat.le_refl _) (by omega) (by omega)⟩
  have h24 := hi.2.1.2.1
  dsimp only at h24
  unfold m_M_turn
  refine m_start W fun m1 W1 S1 => ?_
  have hi1 : aInv nb (kUp g 0 0) lo bo pa ps (vl, vr, rs, ya, sc) := hi
  refine w_all W1 ?_
  refine ok_if (fun e => ?_) (fun e => ?_)
  · exact ok_mono (r_ref h1 h2 W1 hi1 hl hb S1) up
  · refine w_rc W1 ?_
    refine ok_cV (m_keep hX (by omega) W1 hi.sw hi.2.2.2.1) fun m2 h => ?_
    obtain ⟨W2, S2⟩ := h
    have hi2 := hi1.keep
    have fin : ∀ (m : kM) (s : Nat) (fs : List Value) (z : Int32), m = m2 → kLook xm m2 M0 = some (.inl (15, fs)) → fs[5]? = some (.ref s) → dOk (m_M_turn_51 xm N M0 s (sc 10) z m) (rI fun v m => RI xm M0 nb (k + 1) (C + 31) (S + 300) F m) := by
      intro m s fs z hm h0 hs
      subst hm
      obtain ⟨L, B, P, Q, ⟨s', ⟨la, lq, lm, lc, le⟩, ⟨ra, rq, rm, rc, re⟩, ⟨ua, uq, um, uc, ue⟩, y⟩, cs, H, R, hck⟩ := W2
      have h3 := H.look (xm := xm) 0 0 rfl rfl
      rw [h3] at h0
      cases h0
      cases hs
      unfold m_M_turn_51
      refine os_p H 5 0 rfl rfl rfl rfl fun m3 H3 S3 => ?_
      refine ok_gR (H3.look 0 0 rfl rfl) rfl ?_
      refine ok_gR (H3.look 5 0 rfl rfl) rfl ?_
      refine ok_gR (H3.look 0 0 rfl rfl) rfl ?_
      refine ok_gR (H3.look 0 0 rfl rfl) rfl ?_
      refine ok_gR (H3.look 5 0 rfl rfl) rfl ?_
      refine os_p H3 5 0 rfl rfl rfl rfl fun m4 H4 S4 => ?_
      refine ok_gR (H4.look 0 0 rfl rfl) rfl ?_
      refine os_p H4 5 0 rfl rfl rfl rfl fun m5 H5 S5 => ?_
      refine ok_gR (H5.look 0 0 rfl rfl) rfl ?_
      refine ok_gR (H5.look 0 0 rfl rfl) rfl ?_
      refine ok_gI (H5.look 5 0 rfl rfl) rfl ?_
      refine os_p H5 5 0 rfl rfl rfl rfl fun m6 H6 S6 => ?_
      refine ok_gR (H6.look 0 0 rfl rfl) rfl ?_
      refine ok_gI (H6.look 5 0 rfl rfl) rfl ?_
      refine os_p H6 5 0 rfl rfl rfl rfl fun m7 H7 S7 => ?_
      refine ok_gR (H7.look 0 0 rfl rfl) rfl ?_
      refine ok_gR (H7.look 5 0 rfl rfl) rfl ?_
      refine ok_rc (ls_hd H7 7 rfl) ?_
      refine ok_eI (ls_size (a := ra) (q := rq) (mc := rm) (cap := rc) (es := re) H7 7 rfl) ?_
      have ST := S3.trans (S4.trans (S5.trans (S6.trans S7)))
      obtain ⟨w, cc, r3, r4, r5, r6, ⟨t1, t2, t3, ⟨t4, t5, t6⟩, t7, t8, t9⟩, r8⟩ := R.st ST
      have H8 := H7.swap67
      have W8 : WR xm M0 (kUp g 0 0) sum lo bo pa _ (vr, vl, rs, ya, kUp (kUp (kUp sc 10 (sc 10 + z)) 4 (1 - sc 4)) 5 (sc 5 + 1)) ck F m7 := ⟨L, B, P, Q, (s', (ra, rq, rm, rc, re), (la, lq, lm, lc, le), (ua, uq, um, uc, ue), y), cs, H8, ⟨w, cc, r3, r4, r5, r6, ⟨t2, t1, t3, ⟨t5, t4, t6⟩, t8, t7, t9⟩, r8⟩, hck⟩
      exact ok_I (RI.mk' (c := 31) (s := 300) h1 h2 W8 (hi2.move (fun v hv => Or.inr hv) (fun v hv => Or.inl hv) (by omega) rfl rfl) (by omega) (by omega) (Nat.le_refl _) ((S1.trans (S2.trans ST)).mono (by omega) (by omega)))
    refine w_s W2 fun s fs la ra ua y h0 hs hst => ?_
    refine ok_gI hst rfl ?_
    refine w_leftEmpty W2 ?_
    exact ok_if (fun _ => fin _ s fs 1 rfl h0 hs) (fun _ => fin _ s fs 0 rfl h0 hs)
end KO
