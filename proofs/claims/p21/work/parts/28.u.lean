/-! ===== the reference's calls: follow as a whole ===== -/
section KU
variable {xm : Nat → Option kE} {mem : kM} {N M0 nb k C S ck : Nat} {F : kSg} {g : Nat → Int32} {sum : Int64} {lo : List kLf} {bo pa : List Int32} {ps : List aS} {T : kO × kM → Prop}
theorem follow_loop {n0 : Nat} (hX : kXok xm) (hN : 20 ≤ N) (p1 : 1 ≤ n0) (p2 : n0 ≤ 999999999) (pz : aNz n0) : ∀ (j d f : Nat) (mem : kM) (lo : List kLf) (vl vr ya : List Int32) (rs : List (List Int32)) (sc : Nat → Int32) (ck : Nat), d + j = 99 → j < f → WR xm M0 g sum lo bo pa ps (vl, vr, rs, ya, sc) ck F mem → aInv nb g lo bo pa ps (vl, vr, rs, ya, sc) → lo.length + 24 ≤ 12400 + vr.length →
    dOk (m_M_follow_59 xm N f M0 (Int32.ofNat n0) (Int32.ofNat d) mem) (rI fun v m => ∃ lo' vl' vr' rs' ya' sc' ck', WR xm M0 g sum lo' bo pa ps (vl', vr', rs', ya', sc') ck' F m ∧ aInv nb g lo' bo pa ps (vl', vr', rs', ya', sc') ∧ lo.length ≤ lo'.length ∧ lo'.length + vr.length ≤ lo.length + vr'.length ∧ ck ≤ ck' ∧ St xm mem m (10 * j + 5 * (lo'.length - lo.length)) (50 * j + 60 * (lo'.length - lo.length) + 4 * (ck' - ck))) := by
  intro j
  induction j with
  | zero =>
    intro d f mem lo vl vr ya rs sc ck hd hf W hi hlo
    obtain ⟨f, rfl⟩ : ∃ f', f = f' + 1 := ⟨f - 1, by omega⟩
    rw [m_M_follow_59, if_neg (fun z => by have := (i_lt (b := 99) (by omega) (by decide)).mp z; omega)]
    exact ok_I ⟨_, _, _, _, _, _, ck, W, hi, Nat.le_refl _, Nat.le_refl _, Nat.le_refl _, St.refl.mono (by omega) (by omega)⟩
  | succ j ih =>
    intro d f mem lo vl vr ya rs sc ck hd hf W hi hlo
    obtain ⟨f, rfl⟩ : ∃ f', f = f' + 1 := ⟨f - 1, by omega⟩
    have h24 := hi.2.1.2.1
    dsimp only at h24
    have stop : ∀ v : Int32, dOk (some (.inl (some (.int v)), mem)) (rI fun v m => ∃ lo' vl' vr' rs' ya' sc' ck', WR xm M0 g sum lo' bo pa ps (vl', vr', rs', ya', sc') ck' F m ∧ aInv nb g lo' bo pa ps (vl', vr', rs', ya', sc') ∧ lo.length ≤ lo'.length ∧ lo'.length + vr.length ≤ lo.length + vr'.length ∧ ck ≤ ck' ∧ St xm mem m (10 * (j + 1) + 5 * (lo'.length - lo.length)) (50 * (j + 1) + 60 * (lo'.length - lo.length) + 4 * (ck' - ck))) := fun v => ok_I ⟨_, _, _, _, _, _, ck, W, hi, Nat.le_refl _, Nat.le_refl _, Nat.le_refl _, St.refl.mono (by omega) (by omega)⟩
    rw [m_M_follow_59, if_pos (show Int32.ofNat d < 99 from (i_lt (b := 99) (by omega) (by decide)).mpr (by omega))]
    refine w_leftEmpty W ?_
    by_cases he : vl = []
    · rw [if_pos he, if_neg (show ¬ ((1 : Int32) = 0) by decide)]
      exact stop _
    · rw [if_neg he, if_pos rfl]
      obtain ⟨L, hL, hL1, hL9, hLp⟩ := m_length (xm := xm) (N := N) (mem := mem) (by omega) p1 p2
      refine ok_eI hL ?_
      refine ok_nz (fun z => by have := (i_eq (b := 0) (by omega) (by decide)).mp z; omega) ?_
      rw [i_modL (by omega) hL1 hL9]
      have hdl : d % L < L := Nat.mod_lt _ (by omega)
      refine ok_eI (m_step (by omega) p2 hL hL9 hdl) ?_
      have hs1 : n0 / 10 ^ (L - 1 - d % L) % 10 ≠ 0 := pz _ (hLp _ (by omega))
      have hs9 : n0 / 10 ^ (L - 1 - d % L) % 10 ≤ 9 := by omega
      generalize n0 / 10 ^ (L - 1 - d % L) % 10 = s at hs1 hs9
      refine w_leftSize W ?_
      refine w_all W ?_
      refine w_rc W ?_
      refine ok_eI (m_yarn W hi.sw.2.2.2.2 hi.jn) ?_
      obtain ⟨v, hv, hv2⟩ := m_can (xm := xm) (N := N) (mem := mem) (s := s) (l := Int32.ofNat vl.length) (a := Int32.ofNat (vl.length + vr.length)) (y := aYarn g ya) (by omega) hs9
      refine ok_eI hv ?_
      refine ok_if (fun _ => stop _) (fun e => ?_)
      obtain ⟨q1, q2, q3⟩ := hv2 e
      have hw3 : aWant s ≤ 3 := by
        rcases (show s = 1 ∨ s = 2 ∨ s = 3 ∨ s = 4 ∨ s = 5 ∨ s = 6 ∨ s = 7 ∨ s = 8 ∨ s = 9 by omega) with rfl | rfl | rfl | rfl | rfl | rfl | rfl | rfl | rfl <;> decide
      have ht11 : aTake s ≤ 11 := by
        rcases (show s = 1 ∨ s = 2 ∨ s = 3 ∨ s = 4 ∨ s = 5 ∨ s = 6 ∨ s = 7 ∨ s = 8 ∨ s = 9 by omega) with rfl | rfl | rfl | rfl | rfl | rfl | rfl | rfl | rfl <;> decide
      have q1 := (not_congr (i_lt (by omega) (by omega))).mp q1
      refine w_rc W ?_
      refine ok_cV (m_doStep (s := s) hX hN W hi (by omega) (by omega) hs9 (by omega) ?_ ?_) fun m1 hh => ?_
      · rcases q2 with h | h
        · exact Or.inl h
        · exact Or.inr (hi.some (i_ge0 (by omega)) h)
      · intro h
        exact (i_lt (b := 24) (by omega) (by decide)).mp (q3 h)
      · obtain ⟨lo1, vl1, vr1, rs1, ya1, sc1, ck1, W1, hi1, a1, a2, a3, S1⟩ := hh
        rw [i_add1]
        have h24' := hi1.2.1.2.1
        dsimp only at h24'
        refine ok_mono (ih (d + 1) f m1 lo1 vl1 vr1 ya1 rs1 sc1 ck1 (by omega) (by omega) W1 hi1 (by omega)) ?_
        rintro r ⟨v, b1, lo2, vl2, vr2, rs2, ya2, sc2, ck2, W2, hi2, b2, b3, b4, S2⟩
        exact ⟨v, b1, lo2, vl2, vr2, rs2, ya2, sc2, ck2, W2, hi2, by omega, by omega, by omega, (S1.trans S2).mono (by omega) (by omega)⟩
theorem m_isPattern {st : aS} (W : WR xm M0 g sum lo bo pa ps st ck F mem) (x : Int32) : m_M_isPattern xm N M0 x mem = some (.inl (some (.int (if x < 0 then 0 else if Int32.ofNat pa.length - 1 < x then 0 else 1))), mem) := by
  refine ok_eq ?_
  unfold m_M_isPattern
  refine w_gP W ?_
  refine w_patSize W ?_
  refine ok_eI m_is ?_
  have e : ∀ v : Int32, (v = 0 ∨ v = 1) → dOk (dRt (some .boolean) v mem) (fun r => r = (.inl (some (.int v)), mem)) := by
    intro v hv
    unfold dRt
    have : kRetI (some .boolean) v = true := by
      rcases hv with rfl | rfl
      · decide
      · decide
    rw [if_pos this]
    exact ok_me
  by_cases h1 : x < 0
  · rw [if_pos h1]; exact e 0 (Or.inl rfl)
  · rw [if_neg h1]
    by_cases h2 : Int32.ofNat pa.length - 1 < x
    · rw [if_pos h2]; exact e 0 (Or.inl rfl)
    · rw [if_neg h2]; exact e 1 (Or.inr rfl)
/-- a pattern's number, as it is read -/
theorem w_pat {i : Nat} {K : Int32 → kM → dRes} {st : aS} (hX : kXok xm) (W : WR xm M0 g sum lo bo pa ps st ck F mem) (hi : i < pa.length) (h : dOk (K pa[i] mem) T) : dOk (dRc xm mem (M0 + 3) 4 <| dCR (m_AL_get xm N (M0 + 3) (Int32.ofNat i) mem) fun e m => dCC xm m e 0 2 <| dRc xm m e 2 <| dCI (m_Int_intValue xm N e m) K) T := by
  obtain ⟨L, B, ⟨Pa, Pq, Pm, Pc, Pe⟩, Q, c, cs, H, R, hck, hL, hB, hP, hQ⟩ := W
  obtain ⟨⟨-, -, w3, -⟩, -, r3, r4, r5, -⟩ := R
  dsimp only at hP r5
  subst hP
  have n5 := r5.1
  refine ok_rc (ls_hd H 3 rfl) ?_
  refine ok_eR (ls_get (a := M0 + 3) (q := Pq) (mc := Pm) (cap := Pc) (es := Pe) (j := i) hX w3 H 3 rfl (by omega)) ?_
  have hk := r5.at (i := i) (by omega) hi
  refine ok_ccO hk ?_
  refine ok_rc hk ?_
  exact ok_eI (int_val hk) h
theorem r_follow (hX : kXok xm) (hN : 120 ≤ N) (hk : k < 512) (I : RI xm M0 nb k C S F mem) (x : Int32) : dOk (m_M_follow xm N M0 x mem) (rI fun v m => RI xm M0 nb (k + 1) (C + 1141) (S + 6690) F m) := by
  obtain ⟨g, sum, lo, bo, pa, ps, ⟨vl, vr, rs, ya, sc⟩, ck, W, hi, hl, hb, h1, h2⟩ := I
  have up : ∀ r, (rI fun v m => RI xm M0 nb (k + 1) (C + 0) (S + 0) F m) r → (rI fun v m => RI xm M0 nb (k + 1) (C + 1141) (S + 6690) F m) r := by
    rintro r ⟨v, a, b⟩
    exact ⟨v, a, b.up (Nat.le_refl _) (by omega) (by omega)⟩
  have hp6 := hi.2.2.2.2.1
  unfold m_M_follow
  refine m_start W fun m1 W1 S1 => ?_
  have hi1 : aInv nb (kUp g 0 0) lo bo pa ps (vl, vr, rs, ya, sc) := hi
  refine w_rc W1 ?_
  refine ok_eI (m_isPattern W1 x) ?_
  refine ok_if (fun e => ?_) (fun e => ?_)
  · exact ok_mono (r_ref h1 h2 W1 hi1 hl hb S1) up
  · obtain ⟨i, rfl, hil⟩ := in_nat (by omega) e
    refine w_leftEmpty W1 ?_
    by_cases he : vl = []
    · rw [if_pos he, if_neg (show ¬ ((1 : Int32) = 0) by decide)]
      exact ok_mono (r_ref h1 h2 W1 hi1 hl hb S1) up
    · rw [if_neg he, if_pos rfl]
      refine w_rc W1 ?_
      refine ok_cV (m_keep hX (by omega) W1 hi.sw hi.2.2.2.1) fun m2 h => ?_
      obtain ⟨W2, S2⟩ := h
      have hi2 := hi1.keep
      refine w_gP W2 ?_
      refine w_pat hX W2 hil ?_
      obtain ⟨n0, hn0, p1, p2, pz⟩ := hi.2.2.2.2.2 _ (List.getElem_mem hil)
      rw [hn0]
      refine ok_mono (follow_loop (n0 := n0) hX (by omega) p1 p2 pz 99 0 N m2 lo vl vr ya rs sc ck (by omega) (by omega) W2 hi2 (by omega)) ?_
      rintro r ⟨v, b1, lo', vl', vr', rs', ya', sc', ck', W3, hi3, b2, b3, b4, S3⟩
      have h24 := hi3.2.1.2.1
      dsimp only at h24
      exact ⟨v, b1, RI.mk' (c := 1141) (s := 6690) h1 h2 W3 hi3 (by omega) (by omega) b4 ((S1.trans (S2.trans S3)).mono (by omega) (by omega))⟩
end KU
