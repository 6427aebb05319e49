/-! ===== the reference's calls: latch, pattern, undo, buy ===== -/
section KQ
variable {xm : Nat → Option kE} {mem : kM} {N M0 nb k C S ck : Nat} {F : kSg} {g : Nat → Int32} {sum : Int64} {lo : List kLf} {bo pa : List Int32} {ps : List aS} {vl vr ya : List Int32} {rs : List (List Int32)} {sc : Nat → Int32} {T : kO × kM → Prop}
theorem m_isRun (W : WR xm M0 g sum lo bo pa ps (vl, vr, rs, ya, sc) ck F mem) (x : Int32) : m_M_isRun xm N M0 x mem = some (.inl (some (.int (if x < 0 then 0 else if Int32.ofNat rs.length - 1 < x then 0 else 1))), mem) := by
  refine ok_eq ?_
  unfold m_M_isRun
  refine w_runsSize W ?_
  refine ok_eI m_is ?_
  have e : ∀ v : Int32, (v = 0 ∨ v = 1) → dOk (dRt (some .boolean) v mem) (fun r => r = (.inl (some (.int v)), mem)) := by
    intro v hv
    unfold dRt
    have : kRetI (some .boolean) v = true := by
      rcases hv with rfl | rfl
      · decide
      · decide
    rw [if_pos this]
    exact ok_me
  by_cases h1 : x < 0
  · rw [if_pos h1]; exact e 0 (Or.inl rfl)
  · rw [if_neg h1]
    by_cases h2 : Int32.ofNat rs.length - 1 < x
    · rw [if_pos h2]; exact e 0 (Or.inl rfl)
    · rw [if_neg h2]; exact e 1 (Or.inr rfl)
theorem in_nat {x : Int32} {n : Nat} (hn : n < 2 ^ 31) (h : ¬ (if x < 0 then (0 : Int32) else if Int32.ofNat n - 1 < x then 0 else 1) = 0) : ∃ i : Nat, x = Int32.ofNat i ∧ i < n := by
  by_cases g1 : x < 0
  · rw [if_pos g1] at h; exact absurd rfl h
  · rw [if_neg g1] at h
    by_cases g2 : Int32.ofNat n - 1 < x
    · rw [if_pos g2] at h; exact absurd rfl h
    · have x0 : 0 ≤ x := Int32.not_lt.mp g1
      obtain ⟨ex, hxl⟩ := i_of x0
      refine ⟨x.toNatClampNeg, ex, ?_⟩
      by_cases hn0 : n = 0
      · exfalso
        subst hn0
        apply g2
        rw [Int32.lt_iff_toInt_lt]
        rw [Int32.le_iff_toInt_le] at x0
        have e1 : (Int32.ofNat 0 - 1).toInt = -1 := by decide
        have e0 : (0 : Int32).toInt = 0 := by decide
        omega
      · rw [i_sub1 (by omega), ex] at g2
        have := (not_congr (i_lt (by omega) hxl)).mp g2
        omega
/-- a run, as it is read -/
theorem w_run {i : Nat} {K : Nat → kM → dRes} (hX : kXok xm) (W : WR xm M0 g sum lo bo pa ps (vl, vr, rs, ya, sc) ck F mem) (hi : i < rs.length) (h : ∀ e, kLook xm mem e = some (kAr rs[i]) → dOk (K e mem) T) : dOk (dGR xm mem M0 15 5 fun v20 => dGR xm mem v20 14 2 fun v23 => dRc xm mem v23 4 <| dCR (m_AL_get xm N v23 (Int32.ofNat i) mem) fun e m => dCC xm m e 1 0 (K e m)) T := by
  obtain ⟨L, B, P, Q, ⟨s, l, r, ⟨ua, uq, um, uc, ue⟩, y⟩, cs, H, R, hck⟩ := W
  obtain ⟨-, -, -, -, -, -, ⟨t1, t2, t3, t4, t7, t8, t9⟩, -⟩ := R
  dsimp only at t9 t3
  refine ok_gR (H.look 0 0 rfl rfl) rfl ?_
  refine ok_gR (H.look 5 0 rfl rfl) rfl ?_
  refine ok_rc (ls_hd H 8 rfl) ?_
  have hu : i < ue.length := by omega
  refine ok_eR (ls_get (a := ua) (q := uq) (mc := um) (cap := uc) (es := ue) (j := i) hX t3 H 8 rfl hu) ?_
  have hat : (sRu ue rs)[i]? = some (ue[i], kAr rs[i]) := sRu_at (List.getElem?_eq_getElem hu) (List.getElem?_eq_getElem hi)
  have h3 := H.look (xm := xm) 9 i rfl hat
  exact ok_ccA h3 (H.ge 9 i rfl hat) (h _ h3)
theorem r_latch (hX : kXok xm) (hN : 20 ≤ N) (I : RI xm M0 nb k C S F mem) (x : Int32) : dOk (m_M_latch xm N M0 x mem) (rI fun v m => RI xm M0 nb (k + 1) (C + 33) (S + 350) F m) := by
  obtain ⟨g, sum, lo, bo, pa, ps, ⟨vl, vr, rs, ya, sc⟩, ck, W, hi, hl, hb, h1, h2⟩ := I
  have up : ∀ r, (rI fun v m => RI xm M0 nb (k + 1) (C + 0) (S + 0) F m) r → (rI fun v m => RI xm M0 nb (k + 1) (C + 33) (S + 350) F m) r := by
    rintro r ⟨v, a, b⟩
    exact ⟨v, a, b.up (Nat.le_refl _) (by omega) (by omega)⟩
  have h24 := hi.2.1.2.1
  dsimp only at h24
  have hr9 := hi.sw.2.2.1
  dsimp only at hr9
  have hr4 := hi.sw.2.2.2.1
  dsimp only at hr4
  unfold m_M_latch
  refine m_start W fun m1 W1 S1 => ?_
  have hi1 : aInv nb (kUp g 0 0) lo bo pa ps (vl, vr, rs, ya, sc) := hi
  refine w_rc W1 ?_
  refine ok_eI (m_isRun W1 x) ?_
  refine ok_if (fun e => ?_) (fun e => ?_)
  · exact ok_mono (r_ref h1 h2 W1 hi1 hl hb S1) up
  · obtain ⟨i, rfl, hil⟩ := in_nat (by omega) e
    have hz : rs[i].length = 4 := hr4 _ (List.getElem_mem hil)
    refine w_run hX W1 hil fun e he => ?_
    refine ok_iL he (by rw [hz]; decide) ?_
    have f50 : dOk (m_M_latch_50 xm N M0 m1) (rI fun v m => RI xm M0 nb (k + 1) (C + 33) (S + 350) F m) := by
      unfold m_M_latch_50
      exact ok_mono (r_ref h1 h2 W1 hi1 hl hb S1) up
    refine ok_if (fun _ => f50) (fun _ => ?_)
    refine w_all W1 ?_
    refine ok_if (fun _ => f50) (fun e2 => ?_)
    have e2 : vl.length + vr.length ≠ 24 := fun z => e2 ((i_eq (b := 24) (by omega) (by decide)).mpr z)
    refine w_rc W1 ?_
    refine ok_cV (m_keep hX (by omega) W1 hi.sw hi.2.2.2.1) fun m2 h => ?_
    obtain ⟨W2, S2⟩ := h
    have hi2 := hi1.keep
    obtain ⟨L, B, P, Q, ⟨s, ⟨la, lq, lm, lc, le⟩, r, ⟨ua, uq, um, uc, ue⟩, y⟩, cs, H, R, hck⟩ := W2
    obtain ⟨w, cc, r3, r4, r5, r6, ⟨t1, t2, t3, ⟨t4, t5, t6⟩, t7, t8, t9⟩, r8⟩ := R
    dsimp only at t9 t3 t1 t4 t7
    have n7 := t7.1
    refine ok_gR (H.look 0 0 rfl rfl) rfl ?_
    refine ok_gR (H.look 5 0 rfl rfl) rfl ?_
    refine ok_rc (ls_hd H 8 rfl) ?_
    have hu : i < ue.length := by omega
    refine ok_eR (ls_get (a := ua) (q := uq) (mc := um) (cap := uc) (es := ue) (j := i) hX t3 H 8 rfl hu) ?_
    have hat : (sRu ue rs)[i]? = some (ue[i], kAr rs[i]) := sRu_at (List.getElem?_eq_getElem hu) (List.getElem?_eq_getElem hil)
    refine ok_ccA (H.look 9 i rfl hat) (H.ge 9 i rfl hat) ?_
    refine os_iS H 9 i rfl hat (by rw [hz]; decide) fun m3 H3 S3 => ?_
    have e5 := sRu_set (z := rs[i].set (3 : Int32).toNatClampNeg 0) (List.getElem?_eq_getElem hu) t9
    have d3 : ((3 : Int32).toNatClampNeg) = 3 := by decide
    rw [d3] at e5
    have H3 : HpS (wSg M0 L B P Q (s, (la, lq, lm, lc, le), r, (ua, uq, um, uc, ue), y) cs (kUp g 0 0) sum ((if ps.length = 12 then ps.drop 1 else ps) ++ [(vl, vr, rs, ya, sc)]) (vl, vr, rs.set i (rs[i].set 3 0), ya, sc) F) m3 := by
      unfold wSg
      dsimp only
      rw [← e5]
      exact H3
    have hat3 : (sRu ue (rs.set i (rs[i].set 3 0)))[i]? = some (ue[i], kAr (rs[i].set 3 0)) := sRu_at (List.getElem?_eq_getElem hu) (List.getElem?_set_self hil)
    refine ok_gR (H3.look 0 0 rfl rfl) rfl ?_
    refine ok_gR (H3.look 5 0 rfl rfl) rfl ?_
    refine ok_iL (H3.look 9 i rfl hat3) (by rw [List.length_set, hz]; decide) ?_
    refine ok_cR (int_valueOf hX H3 _) fun e m4 h => ?_
    obtain ⟨hiv, H4, S4⟩ := h
    have H4 : HpS _ m4 := H4
    have S34 := S3.trans S4
    refine ok_rc (ls_hd H4 6 rfl) ?_
    refine ok_cI (ls_add (a := la) (q := lq) (mc := lm) (cap := lc) (es := le) hX t1 (by omega) H4 6 rfl (t7.st S34).ok hiv.ok) fun v m5 h => ?_
    obtain ⟨-, q', H5, t1', S5⟩ := h
    have ks := kAc_small (n := le.length) (cap := lc) (by omega) t4
    have ST := S34.trans S5
    refine ok_iL (H5.look 9 i rfl hat3) (by rw [List.length_set, hz]; decide) ?_
    have d0 : ((0 : Int32).toNatClampNeg) = 0 := by decide
    have ev : (rs[i].set 3 0).getD (0 : Int32).toNatClampNeg 0 = rs[i].getD 0 0 := by
      rw [d0]
      match rs[i], hz with
      | [a, b, c, d], _ => rfl
    rw [ev] at hiv
    have W5 : WR xm M0 (kUp g 0 0) sum lo bo pa ((if ps.length = 12 then ps.drop 1 else ps) ++ [(vl, vr, rs, ya, sc)]) (vl ++ [rs[i].getD 0 0], vr, rs.set i (rs[i].set 3 0), ya, sc) ck F m5 := ⟨L, B, P, Q, (s, (la, q', lm + 1, kAc lc le.length, le ++ [e]), r, (ua, uq, um, uc, ue), y), cs, H5, ⟨w, cc, r3.st ST, r4.st ST, r5.st ST, r6, ⟨t1', t2, t3, ⟨ks.1, t5, t6⟩, (t7.st ST).app (IVs.one (hiv.st S5)), t8.st ST, by simp [t9]⟩, fun i c z q1 q2 => (r8 i c z q1 q2).st ST⟩, hck⟩
    refine ok_I (RI.mk' (c := 33) (s := 350) h1 h2 W5 ?_ (by omega) (by omega) (Nat.le_refl _) ((S1.trans (S2.trans ST)).mono (by omega) (by have := ks.2; omega)))
    obtain ⟨a1, ⟨⟨b1, b2, b3, b4, b5⟩, b6, b7, b8, b9, b10, b11⟩, a3⟩ := hi2
    dsimp only at b1 b2 b3 b6
    refine ⟨a1, ⟨⟨by simp; omega, b2, by simp; omega, ?_, b5⟩, by simp; omega, ?_, b8, ?_, b10, b11⟩, a3⟩
    · intro z hz'
      obtain ⟨t, ht⟩ := List.mem_iff_getElem?.mp hz'
      rw [List.getElem?_set] at ht
      split at ht
      · cases ht; rw [List.length_set]; exact hz
      · exact b4 z (List.mem_of_getElem? ht)
    · intro z hz'
      rcases List.mem_append.mp hz' with h | h
      · exact b7 z h
      · rw [List.mem_singleton.mp h]
        exact b9 _ (List.getElem_mem hil)
    · intro z hz'
      obtain ⟨t, ht⟩ := List.mem_iff_getElem?.mp hz'
      rw [List.getElem?_set] at ht
      split at ht
      · cases ht
        have e6 : (rs[i].set 3 0).getD 0 0 = rs[i].getD 0 0 := by
          match rs[i], hz with
          | [a, b, c, d], _ => rfl
        rw [e6]
        exact b9 _ (List.getElem_mem hil)
      · exact b9 z (List.mem_of_getElem? ht)
theorem i_div10 {n : Nat} (h : n < 2 ^ 31) : Int32.ofNat n / 10 = Int32.ofNat (n / 10) := by
  rw [← Int32.toInt_inj, Int32.toInt_div_of_ne_right _ _ (by decide), i_toI h, i_toI (show n / 10 < 2 ^ 31 by omega)]
  rfl
theorem i_pos {n : Nat} (h : n < 2 ^ 31) : (0 < Int32.ofNat n) ↔ 0 < n := i_lt (a := 0) (by decide) h
theorem w_patSize {st : aS} {K : Int32 → kM → dRes} (W : WR xm M0 g sum lo bo pa ps st ck F mem) (h : dOk (K (Int32.ofNat pa.length) mem) T) : dOk (dRc xm mem (M0 + 3) 4 <| dCI (m_AL_size xm N (M0 + 3) mem) K) T := by
  obtain ⟨L, B, ⟨Pa, Pq, Pm, Pc, Pe⟩, Q, c, cs, H, R, hck, hL, hB, hP, hQ⟩ := W
  obtain ⟨-, -, r3, r4, r5, -⟩ := R
  dsimp only at hP r5
  subst hP
  have n5 := r5.1
  refine ok_rc (ls_hd H 3 rfl) ?_
  refine ok_eI (ls_size (a := M0 + 3) (q := Pq) (mc := Pm) (cap := Pc) (es := Pe) H 3 rfl) ?_
  rw [n5]
  exact h
theorem i_mod10 {n : Nat} (h : n < 2 ^ 31) : Int32.ofNat n - Int32.ofNat n / 10 * 10 = Int32.ofNat (n % 10) := by
  have e : (10 : Int32) = Int32.ofNat 10 := rfl
  rw [i_div10 h, e, ← Int32.ofNat_mul, i_sub (by omega)]
  congr 1
  omega
theorem pat_loop {n0 : Nat} (hX : kXok xm) (hx : 1 ≤ n0 ∧ n0 ≤ 999999999) (h1 : mem.length ≤ C) (h2 : kSl mem ≤ S + 4 * ck) {st : aS} (W : WR xm M0 g sum lo bo pa ps st ck F mem) (hi : aInv nb g lo bo pa ps st) (hl : lo.length ≤ 24 * k) (hb : bo.length ≤ 24 * k) :
    ∀ (f i n : Nat), n = n0 / 10 ^ i → (∀ i', i' < i → n0 / 10 ^ i' % 10 ≠ 0) → n < 2 ^ 31 → n < 10 ^ f → dOk (m_M_pattern_23 xm N (f + 1) M0 (Int32.ofNat n0) (Int32.ofNat n) mem) (rI fun v m => RI xm M0 nb (k + 1) (C + 2) (S + 30) F m) := by
  have fin : ∀ (f i : Nat), 0 = n0 / 10 ^ i → (∀ i', i' < i → n0 / 10 ^ i' % 10 ≠ 0) → dOk (m_M_pattern_23 xm N (f + 1) M0 (Int32.ofNat n0) (Int32.ofNat 0) mem) (rI fun v m => RI xm M0 nb (k + 1) (C + 2) (S + 30) F m) := by
    intro f i hn' hd
    have hx2 : aPat (Int32.ofNat n0) := by
      refine ⟨n0, rfl, hx.1, hx.2, fun j hj => hd j ?_⟩
      apply Classical.byContradiction
      intro hc
      have : n0 / 10 ^ j ≤ n0 / 10 ^ i := Nat.div_le_div_left (Nat.pow_le_pow_right (by decide) (by omega)) (Nat.pow_pos (by decide))
      omega
    generalize Int32.ofNat n0 = x at hx2 ⊢
    rw [m_M_pattern_23, if_neg (by decide)]
    refine w_gP W ?_
    refine w_patSize W ?_
    have h6 := hi.2.2.2.2.1
    refine ok_if (fun e => ?_) (fun e => ?_)
    · refine ok_mono (r_ref h1 h2 W hi hl hb St.refl) ?_
      rintro r ⟨v, a, b⟩
      exact ⟨v, a, b.up (Nat.le_refl _) (by omega) (by omega)⟩
    · have e : pa.length ≠ 6 := fun z => e ((i_eq (b := 6) (by omega) (by decide)).mpr z)
      refine w_gP W ?_
      obtain ⟨L, B, ⟨Pa, Pq, Pm, Pc, Pe⟩, Q, c, cs, H, R, hck, hL, hB, hP, hQ⟩ := W
      obtain ⟨⟨w1, w2, w3, w4⟩, ⟨c1, c2, c3, c4⟩, r3, r4, r5, r6⟩ := R
      dsimp only at hP r5
      dsimp only [kCapL] at c3
      subst hP
      have n5 := r5.1
      refine ok_cR (int_valueOf hX H x) fun e m2 h => ?_
      obtain ⟨hiv, H2, S2⟩ := h
      have H2 : HpS _ m2 := H2
      refine ok_rc (ls_hd H2 3 rfl) ?_
      refine ok_cI (ls_add (a := M0 + 3) (q := Pq) (mc := Pm) (cap := Pc) (es := Pe) hX w3 (by omega) H2 3 rfl (r5.st S2).ok hiv.ok) fun v m3 h => ?_
      obtain ⟨-, q', H3, w3', S3⟩ := h
      have kr := kAc_runs (cap := Pc) (n := Pe.length) (by omega) c3
      have ST := S2.trans S3
      obtain ⟨r6, r7, r8⟩ := r6
      have W3 : WR xm M0 g sum lo bo (pa ++ [x]) ps st ck F m3 := ⟨L, B, (M0 + 3, q', Pm + 1, kAc Pc Pe.length, Pe ++ [e]), Q, c, cs, H3, ⟨⟨w1, w2, w3', w4⟩, ⟨c1, c2, kr.1, c4⟩, r3.st ST, r4.st ST, (r5.st ST).app (IVs.one (hiv.st S3)), r6, r7.st ST, fun i c z q1 q2 => (r8 i c z q1 q2).st ST⟩, hck, hL, hB, rfl, hQ⟩
      refine w_gP W3 ?_
      refine w_patSize W3 ?_
      refine ok_I (RI.mk' (c := 2) (s := 30) h1 h2 W3 ?_ (by omega) (by omega) (Nat.le_refl _) (ST.mono (by omega) (by have := kr.2; omega)))
      obtain ⟨a1, a2, a3, a4, a5, a6⟩ := hi
      refine ⟨a1, a2, a3, a4, by simp; omega, ?_⟩
      intro v hv
      rcases List.mem_append.mp hv with h | h
      · exact a6 v h
      · rw [List.mem_singleton.mp h]; exact hx2
  intro f
  induction f with
  | zero =>
    intro i n hn' hd hn hf
    have hn0 : n = 0 := by simpa using hf
    subst hn0
    exact fin 0 i hn' hd
  | succ f ih =>
    intro i n hn' hd hn hf
    by_cases hn0 : n = 0
    · subst hn0
      exact fin _ i hn' hd
    · rw [m_M_pattern_23, if_pos ((i_pos hn).mpr (by omega))]
      refine ok_nz (by decide) ?_
      refine ok_if (fun e => ?_) (fun e => ?_)
      · refine ok_mono (r_ref h1 h2 W hi hl hb St.refl) ?_
        rintro r ⟨v, a, b⟩
        exact ⟨v, a, b.up (Nat.le_refl _) (by omega) (by omega)⟩
      · refine ok_nz (by decide) ?_
        rw [i_mod10 hn] at e
        rw [i_div10 hn]
        refine ih (i + 1) (n / 10) (by rw [hn', Nat.pow_succ, Nat.div_div_eq_div_mul]) ?_ (by omega) (by rw [Nat.pow_succ] at hf; omega)
        intro i' hi'
        by_cases h : i' = i
        · rw [h, ← hn']
          exact fun z => e ((i_eq (b := 0) (by omega) (by decide)).mpr z)
        · exact hd i' (by omega)
theorem r_pattern (hX : kXok xm) (hN : 20 ≤ N) (I : RI xm M0 nb k C S F mem) (x : Int32) : dOk (m_M_pattern xm N M0 x mem) (rI fun v m => RI xm M0 nb (k + 1) (C + 2) (S + 30) F m) := by
  obtain ⟨g, sum, lo, bo, pa, ps, st, ck, W, hi, hl, hb, h1, h2⟩ := I
  unfold m_M_pattern
  refine m_start W fun m1 W1 S1 => ?_
  have hi1 : aInv nb (kUp g 0 0) lo bo pa ps st := hi
  have g1 : m1.length ≤ C := by have := S1.2.1; omega
  have g2 : kSl m1 ≤ S + 4 * ck := by have := S1.2.2.1; omega
  refine ok_eI m_is ?_
  refine ok_if (fun e => ?_) (fun e => ?_)
  · refine ok_mono (r_ref h1 h2 W1 hi1 hl hb S1) ?_
    rintro r ⟨v, a, b⟩
    exact ⟨v, a, b.up (Nat.le_refl _) (by omega) (by omega)⟩
  · obtain ⟨n, rfl, p1, p2⟩ := is_nat (a := 1) (b := 999999999) (by decide) (by decide) e
    obtain ⟨N', rfl⟩ : ∃ N', N = N' + 1 := ⟨N - 1, by omega⟩
    refine pat_loop hX ⟨p1, p2⟩ g1 g2 W1 hi1 hl hb N' 0 n (by simp) (fun i' h => absurd h (Nat.not_lt_zero _)) (by omega) ?_
    calc n < 10 ^ 9 := by omega
      _ ≤ 10 ^ N' := Nat.pow_le_pow_right (by decide) (by omega)
end KQ
