/-! ===== the reference: many, ofPattern, would, needs, best ===== -/
section KW2
variable {xm : Nat → Option kE} {mem : kM} {N M0 nb k C S ck : Nat} {F X : kSg} {g : Nat → Int32} {sum : Int64} {lo : List kLf} {bo pa : List Int32} {ps : List aS} {T : kO × kM → Prop} {L B P Q : kLi} {s y : Nat} {l r u : kLi} {cs : List kCs} {vl vr ya : List Int32} {rs : List (List Int32)} {sc : Nat → Int32} {st : aS} {c : kCs}
theorem many_65 {n : Nat} {a2 : Int32} (hn : n < 16) (V : WC xm M0 L B P Q (s, l, r, u, y) cs g sum lo bo pa ps (vl, vr, rs, ya, sc) F mem) (h4 : ya.length = 4) : ∀ (j d f : Nat) (a3 : Int32), d + j = 4 → j < f → dOk (m_M_manyNow_65 xm N f M0 (Int32.ofNat n) a2 a3 y (Int32.ofNat 4) (Int32.ofNat d) mem) (rI fun v m => WC xm M0 L B P Q (s, l, r, u, y) cs g sum lo bo pa ps (vl, vr, rs, ya, sc) F m ∧ St xm mem m 1 16) := by
  intro j
  induction j with
  | zero =>
    intro d f a3 hd hf
    obtain ⟨f, rfl⟩ : ∃ f', f = f' + 1 := ⟨f - 1, by omega⟩
    rw [m_M_manyNow_65, if_neg (fun z => by have := (i_lt (by omega) (by omega)).mp z; omega)]
    have hB := V.2.2.2.1
    have hP := V.2.2.2.2.1
    have hQ := V.2.2.2.2.2
    refine os_nI (n := 16) xm V.1 (by decide) fun m1 p1 H1 S1 => ?_
    refine ok_gI (H1.look 1 0 rfl rfl) rfl ?_
    refine os_iS H1 0 0 rfl rfl (by decide) fun m2 H2 S2 => ?_
    refine os_iS H2 0 0 rfl rfl (by simp; decide) fun m3 H3 S3 => ?_
    refine ok_gI (H3.look 1 0 rfl rfl) rfl ?_
    refine os_iS H3 0 0 rfl rfl (by simp; decide) fun m4 H4 S4 => ?_
    refine ok_gR (H4.look 1 0 rfl rfl) rfl ?_
    refine ok_gR (H4.look 6 0 rfl rfl) rfl ?_
    refine ok_rc (ls_hd H4 7 rfl) ?_
    refine ok_eI (ls_size (a := l.1) (q := l.2.1) (mc := l.2.2.1) (cap := l.2.2.2.1) (es := l.2.2.2.2) H4 7 rfl) ?_
    refine os_iS H4 0 0 rfl rfl (by simp; decide) fun m5 H5 S5 => ?_
    refine ok_gR (H5.look 1 0 rfl rfl) rfl ?_
    refine ok_gR (H5.look 6 0 rfl rfl) rfl ?_
    refine ok_rc (ls_hd H5 8 rfl) ?_
    refine ok_eI (ls_size (a := r.1) (q := r.2.1) (mc := r.2.2.1) (cap := r.2.2.2.1) (es := r.2.2.2.2) H5 8 rfl) ?_
    refine os_iS H5 0 0 rfl rfl (by simp; decide) fun m6 H6 S6 => ?_
    refine ok_gR (H6.look 1 0 rfl rfl) rfl ?_
    refine ok_gI (H6.look 6 0 rfl rfl) rfl ?_
    refine os_iS H6 0 0 rfl rfl (by simp; decide) fun m7 H7 S7 => ?_
    refine ok_gR (H7.look 1 0 rfl rfl) rfl ?_
    refine ok_gI (H7.look 6 0 rfl rfl) rfl ?_
    refine os_iS H7 0 0 rfl rfl (by simp; decide) fun m8 H8 S8 => ?_
    refine ok_gR (H8.look 1 0 rfl rfl) rfl ?_
    refine ok_gI (H8.look 6 0 rfl rfl) rfl ?_
    refine os_iS H8 0 0 rfl rfl (by simp; decide) fun m9 H9 S9 => ?_
    refine ok_gR (H9.look 1 0 rfl rfl) rfl ?_
    refine ok_gI (H9.look 6 0 rfl rfl) rfl ?_
    refine os_iS H9 0 0 rfl rfl (by simp; decide) fun m10 H10 S10 => ?_
    refine ok_gR (H10.look 1 0 rfl rfl) rfl ?_
    refine ok_gI (H10.look 6 0 rfl rfl) rfl ?_
    refine os_iS H10 0 0 rfl rfl (by simp; decide) fun m11 H11 S11 => ?_
    refine ok_gR (H11.look 1 0 rfl rfl) rfl ?_
    refine ok_gI (H11.look 6 0 rfl rfl) rfl ?_
    refine os_iS H11 0 0 rfl rfl (by simp; decide) fun m12 H12 S12 => ?_
    refine ok_gR (H12.look 1 0 rfl rfl) rfl ?_
    refine ok_gI (H12.look 6 0 rfl rfl) rfl ?_
    refine os_iS H12 0 0 rfl rfl (by simp; decide) fun m13 H13 S13 => ?_
    refine ok_gR (H13.look 1 0 rfl rfl) rfl ?_
    refine ok_gR (H13.look 6 0 rfl rfl) rfl ?_
    refine ok_rc (ls_hd H13 9 rfl) ?_
    refine ok_eI (ls_size (a := u.1) (q := u.2.1) (mc := u.2.2.1) (cap := u.2.2.2.1) (es := u.2.2.2.2) H13 9 rfl) ?_
    refine os_iS H13 0 0 rfl rfl (by simp; decide) fun m14 H14 S14 => ?_
    refine os_iS H14 0 0 rfl rfl (by simp; decide) fun m15 H15 S15 => ?_
    refine ok_gR (H15.look 1 0 rfl rfl) rfl ?_
    refine ok_rc (ls_hd H15 4 rfl) ?_
    refine ok_eI (ls_size (a := P.1) (q := P.2.1) (mc := P.2.2.1) (cap := P.2.2.2.1) (es := P.2.2.2.2) H15 4 rfl) ?_
    refine os_iS H15 0 0 rfl rfl (by simp; decide) fun m16 H16 S16 => ?_
    refine ok_gR (H16.look 1 0 rfl rfl) rfl ?_
    refine ok_rc (ls_hd H16 5 rfl) ?_
    refine ok_eI (ls_size (a := Q.1) (q := Q.2.1) (mc := Q.2.2.1) (cap := Q.2.2.2.1) (es := Q.2.2.2.2) H16 5 rfl) ?_
    refine os_iS H16 0 0 rfl rfl (by simp; decide) fun m17 H17 S17 => ?_
    refine ok_iL (H17.look 0 0 rfl rfl) (by simp only [List.length_set, List.length_replicate]; exact i_inB hn (by decide)) ?_
    have ST := S1.trans (S2.trans (S3.trans (S4.trans (S5.trans (S6.trans (S7.trans (S8.trans (S9.trans (S10.trans (S11.trans (S12.trans (S13.trans (S14.trans (S15.trans (S16.trans S17)))))))))))))))
    exact ok_I ⟨V.mk' H17.drop ST, ST.mono (by omega) (by omega)⟩
  | succ j ih =>
    intro d f a3 hd hf
    obtain ⟨f, rfl⟩ : ∃ f', f = f' + 1 := ⟨f - 1, by omega⟩
    rw [m_M_manyNow_65, if_pos ((i_lt (by omega) (by omega)).mpr (by omega))]
    refine ok_iL (V.1.look 10 0 rfl rfl) (by dsimp only; rw [h4]; exact i_inB (by omega) (by decide)) ?_
    rw [i_add1]
    exact ih (d + 1) f _ (by omega) (by omega)
theorem many_16 {n it : Nat} (hN : 20 ≤ N) (hn : n < 16) (h4 : ya.length = 4) (h9 : rs.length ≤ 9) (hr4 : ∀ z ∈ rs, z.length = 4) : ∀ (j d f : Nat) (z a2 : Int32) (mem m0 : kM), rs.length = d + j → j < f → WC xm M0 L B P Q (s, l, r, u, y) cs g sum lo bo pa ps (vl, vr, rs, ya, sc) F m0 → St xm m0 mem 1 4 → HpS ([sIt it d z u.2.2.1 u.1] :: wSg M0 L B P Q (s, l, r, u, y) cs g sum ps (vl, vr, rs, ya, sc) F) mem → dOk (m_M_manyNow_16 xm N f M0 (Int32.ofNat n) a2 0 it mem) (rI fun v m => WC xm M0 L B P Q (s, l, r, u, y) cs g sum lo bo pa ps (vl, vr, rs, ya, sc) F m ∧ St xm m0 m 2 20) := by
  intro j
  induction j with
  | zero =>
    intro d f z a2 mem m0 hd hf V S0 H
    obtain ⟨f, rfl⟩ : ∃ f', f = f' + 1 := ⟨f - 1, by omega⟩
    have t9 := V.2.1.2.2.2.2.2.2.1.2.2.2.2.2.2
    dsimp only at t9
    rw [m_M_manyNow_16]
    refine ok_rc (H.look 0 0 rfl rfl) ?_
    refine ok_eI (itr_has (l := 0) (n := u.2.2.2.2.length) (H.look 0 0 rfl rfl) (H.look 9 0 rfl rfl) (by omega) (by omega)) ?_
    have e1 : (if d = u.2.2.2.2.length then (0 : Int32) else 1) = 0 := if_pos (by omega)
    rw [e1, if_pos rfl]
    have V1 := V.mk' H.drop S0
    refine ok_gR (V1.1.look 0 0 rfl rfl) rfl ?_
    refine ok_gR (V1.1.look 5 0 rfl rfl) rfl ?_
    refine ok_lenI (V1.1.look 10 0 rfl rfl) (by decide) ?_
    dsimp only
    rw [h4]
    refine ok_mono (many_65 (a2 := a2) hn V1 h4 4 0 N 0 (by omega) (by omega)) ?_
    rintro w ⟨v, q1, q2, q3⟩
    exact ⟨v, q1, q2, (S0.trans q3).mono (by omega) (by omega)⟩
  | succ j ih =>
    intro d f z a2 mem m0 hd hf V S0 H
    obtain ⟨f, rfl⟩ : ∃ f', f = f' + 1 := ⟨f - 1, by omega⟩
    have t9 := V.2.1.2.2.2.2.2.2.1.2.2.2.2.2.2
    have t3 := V.2.1.2.2.2.2.2.2.1.2.2.1
    dsimp only at t9 t3
    have hu : d < u.2.2.2.2.length := by omega
    have hdr : d < rs.length := by omega
    rw [m_M_manyNow_16]
    refine ok_rc (H.look 0 0 rfl rfl) ?_
    refine ok_eI (itr_has (l := 0) (n := u.2.2.2.2.length) (H.look 0 0 rfl rfl) (H.look 9 0 rfl rfl) (by omega) (by omega)) ?_
    have e1 : (if d = u.2.2.2.2.length then (0 : Int32) else 1) = 1 := if_neg (by omega)
    rw [e1, if_neg (show ¬ ((1 : Int32) = 0) by decide)]
    refine ok_rc (H.look 0 0 rfl rfl) ?_
    refine ok_cR (ls_next (a := u.1) (q := u.2.1) (mc := u.2.2.1) (cap := u.2.2.2.1) (es := u.2.2.2.2) t3 H 8 rfl hu) fun e m1 hh => ?_
    obtain ⟨rfl, H1, S1⟩ := hh
    have hat : (sRu u.2.2.2.2 rs)[d]? = some (u.2.2.2.2[d], kAr rs[d]) := sRu_at (List.getElem?_eq_getElem hu) (List.getElem?_eq_getElem hdr)
    have hz : rs[d].length = 4 := hr4 _ (List.getElem_mem hdr)
    have hl := H1.look (xm := xm) 10 d rfl hat
    refine ok_ccA hl (H1.ge 10 d rfl hat) ?_
    refine ok_iL hl (by rw [hz]; decide) ?_
    exact ih (d + 1) f _ _ m1 m0 (by omega) (by omega) V ((S0.trans S1).mono (by omega) (by omega)) H1
theorem m_manyNow {n : Nat} (hN : 20 ≤ N) (hn : n < 16) (V : WC xm M0 L B P Q (s, l, r, u, y) cs g sum lo bo pa ps (vl, vr, rs, ya, sc) F mem) (ha : aSw (vl, vr, rs, ya, sc)) : dOk (m_M_manyNow xm N M0 (Int32.ofNat n) mem) (rI fun v m => WC xm M0 L B P Q (s, l, r, u, y) cs g sum lo bo pa ps (vl, vr, rs, ya, sc) F m ∧ St xm mem m 2 20) := by
  obtain ⟨a1, a2, a3, a4, a5⟩ := ha
  dsimp only at a3
  unfold m_M_manyNow
  refine ok_gR (V.1.look 0 0 rfl rfl) rfl ?_
  refine ok_gR (V.1.look 5 0 rfl rfl) rfl ?_
  refine ok_rc (ls_hd V.1 8 rfl) ?_
  refine ok_cR (ls_iterator (a := u.1) (q := u.2.1) (mc := u.2.2.1) (cap := u.2.2.2.1) (es := u.2.2.2.2) V.1 8 rfl) fun it m1 hh => ?_
  obtain ⟨H1, S1⟩ := hh
  exact many_16 hN hn a5 a3 a4 rs.length 0 N (-1) 0 m1 mem (by omega) (by omega) V S1 H1
theorem r_many (hN : 20 ≤ N) (I : RI xm M0 nb k C S F mem) (x : Int32) : dOk (m_M_many xm N M0 x mem) (rI fun v m => RI xm M0 nb (k + 1) (C + 2) (S + 20) F m) := by
  unfold m_M_many
  refine RI.ask (R := fun _ _ => True) I fun L B P Q s y l r u cs g sum lo bo pa ps vl vr rs ya sc m V hi hl hb => ?_
  refine ok_eI m_is ?_
  refine ok_if (fun e => c_up (by omega) (by omega) (c_ref V)) (fun e => ?_)
  obtain ⟨n, rfl, p1, p2⟩ := is_nat (a := 0) (b := 15) (by decide) (by decide) e
  refine w_rc V.wr ?_
  refine ok_cI (m_manyNow hN (by omega) V hi.sw) fun v m2 hh => ?_
  exact ok_I ⟨g, sum, hh.1, rfl, rfl, hh.2⟩
theorem m_eats {x : Int32} : ∃ v, m_M_eats xm N x mem = some (.inl (some (.int v)), mem) := by
  unfold m_M_eats m_M_eats_11 m_M_eats_31
  by_cases h1 : x = 3
  · rw [if_pos h1]; exact ⟨_, rfl⟩
  · rw [if_neg h1]
    by_cases h2 : x = 7
    · rw [if_pos h2]; exact ⟨_, rfl⟩
    · rw [if_neg h2]
      by_cases h3 : x = 4
      · rw [if_pos h3]; exact ⟨_, rfl⟩
      · rw [if_neg h3]
        by_cases h4 : x = 5
        · rw [if_pos h4]; exact ⟨_, rfl⟩
        · rw [if_neg h4]
          by_cases h5 : x = 9
          · rw [if_pos h5]; exact ⟨_, rfl⟩
          · rw [if_neg h5]
            by_cases h6 : x = 8
            · rw [if_pos h6]; exact ⟨_, rfl⟩
            · rw [if_neg h6]; exact ⟨_, rfl⟩
theorem m_makes {x : Int32} : ∃ v, m_M_makes xm N x mem = some (.inl (some (.int v)), mem) := by
  unfold m_M_makes
  by_cases h1 : x = 7
  · rw [if_pos h1]; exact ⟨_, rfl⟩
  · rw [if_neg h1]
    by_cases h2 : x = 9
    · rw [if_pos h2]; exact ⟨_, rfl⟩
    · rw [if_neg h2]; exact ⟨_, rfl⟩
theorem m_takes {x : Int32} : ∃ v, m_M_takes xm N x mem = some (.inl (some (.int v)), mem) := by
  unfold m_M_takes m_M_takes_30
  by_cases h1 : x < 3
  · rw [if_pos h1]; exact ⟨_, rfl⟩
  · rw [if_neg h1]
    by_cases h2 : x = 3
    · rw [if_pos h2]; exact ⟨_, rfl⟩
    · rw [if_neg h2]
      by_cases h3 : x = 6
      · rw [if_pos h3]; exact ⟨_, rfl⟩
      · rw [if_neg h3]
        by_cases h4 : x = 7
        · rw [if_pos h4]; exact ⟨_, rfl⟩
        · rw [if_neg h4]
          by_cases h5 : x = 9
          · rw [if_pos h5]; exact ⟨_, rfl⟩
          · rw [if_neg h5]; exact ⟨_, rfl⟩
theorem pat_46 {a2 p : Nat} (ha2 : a2 < 5) {Ls : List kSg} : ∀ (f n : Nat) (xs : List Int32) (mem : kM), n < 10 ^ f → n < 2 ^ 31 → xs.length = 5 → HpS ([(p, kAr xs)] :: Ls) mem → dOk (m_M_ofPatternNow_46 xm N (f + 1) (Int32.ofNat a2) p (Int32.ofNat n) mem) (rI fun v m => HpS Ls m ∧ St xm mem m 0 0) := by
  intro f
  induction f with
  | zero =>
    intro n xs mem hf hn hx H
    have hn0 : n = 0 := by simpa using hf
    subst hn0
    rw [m_M_ofPatternNow_46, if_neg (by decide)]
    exact ok_iL (H.look 0 0 rfl rfl) (by rw [hx]; exact i_inB ha2 (by decide)) (ok_I ⟨H.drop, St.refl⟩)
  | succ f ih =>
    intro n xs mem hf hn hx H
    by_cases hn0 : n = 0
    · subst hn0
      rw [m_M_ofPatternNow_46, if_neg (by decide)]
      exact ok_iL (H.look 0 0 rfl rfl) (by rw [hx]; exact i_inB ha2 (by decide)) (ok_I ⟨H.drop, St.refl⟩)
    · rw [m_M_ofPatternNow_46, if_pos ((i_pos hn).mpr (by omega))]
      refine ok_iL (H.look 0 0 rfl rfl) (by rw [hx]; decide) ?_
      refine ok_nz (by decide) ?_
      obtain ⟨v1, h1⟩ := m_eats (xm := xm) (N := N) (mem := mem) (x := Int32.ofNat n - Int32.ofNat n / 10 * 10)
      refine ok_eI h1 ?_
      refine os_iS H 0 0 rfl rfl (by rw [hx]; decide) fun m1 H1 S1 => ?_
      refine ok_iL (H1.look 0 0 rfl rfl) (by rw [List.length_set, hx]; decide) ?_
      refine ok_nz (by decide) ?_
      obtain ⟨v2, h2⟩ := m_makes (xm := xm) (N := N) (mem := m1) (x := Int32.ofNat n - Int32.ofNat n / 10 * 10)
      refine ok_eI h2 ?_
      refine os_iS H1 0 0 rfl rfl (by rw [List.length_set, hx]; decide) fun m2 H2 S2 => ?_
      refine ok_iL (H2.look 0 0 rfl rfl) (by rw [List.length_set, List.length_set, hx]; decide) ?_
      refine ok_nz (by decide) ?_
      obtain ⟨v3, h3⟩ := m_takes (xm := xm) (N := N) (mem := m2) (x := Int32.ofNat n - Int32.ofNat n / 10 * 10)
      refine ok_eI h3 ?_
      refine os_iS H2 0 0 rfl rfl (by rw [List.length_set, List.length_set, hx]; decide) fun m3 H3 S3 => ?_
      refine ok_nz (by decide) ?_
      rw [i_div10 hn]
      refine ok_mono (ih (n / 10) _ m3 (by rw [Nat.pow_succ] at hf; omega) (by omega) (by rw [List.length_set, List.length_set, List.length_set, hx]) H3) ?_
      rintro w ⟨v, q1, q2, q3⟩
      exact ⟨v, q1, q2, (S1.trans (S2.trans (S3.trans q3))).mono (by omega) (by omega)⟩
theorem m_ofPatternNow {i n : Nat} (hX : kXok xm) (hN : 20 ≤ N) (hn : n < 5) (hil : i < pa.length) (hp : ∀ v ∈ pa, aPat v) (V : WC xm M0 L B P Q (s, l, r, u, y) cs g sum lo bo pa ps (vl, vr, rs, ya, sc) F mem) : dOk (m_M_ofPatternNow xm N M0 (Int32.ofNat i) (Int32.ofNat n) mem) (rI fun v m => WC xm M0 L B P Q (s, l, r, u, y) cs g sum lo bo pa ps (vl, vr, rs, ya, sc) F m ∧ St xm mem m 1 5) := by
  unfold m_M_ofPatternNow
  refine w_gP V.wr ?_
  refine w_pat hX V.wr hil ?_
  obtain ⟨n0, hn0, p1, p2, pz⟩ := hp _ (List.getElem_mem hil)
  rw [hn0]
  refine os_nI (n := 5) xm V.1 (by decide) fun m1 q1 H1 S1 => ?_
  refine os_iS H1 0 0 rfl rfl (by decide) fun m2 H2 S2 => ?_
  obtain ⟨L0, hL, hL1, hL9, hLp⟩ := m_length (xm := xm) (N := N) (mem := m2) (by omega) p1 p2
  refine ok_eI hL ?_
  refine os_iS H2 0 0 rfl rfl (by simp; decide) fun m3 H3 S3 => ?_
  refine os_iS H3 0 0 rfl rfl (by simp; decide) fun m4 H4 S4 => ?_
  refine os_iS H4 0 0 rfl rfl (by simp; decide) fun m5 H5 S5 => ?_
  refine os_iS H5 0 0 rfl rfl (by simp; decide) fun m6 H6 S6 => ?_
  have S16 := S1.trans (S2.trans (S3.trans (S4.trans (S5.trans S6))))
  obtain ⟨N', rfl⟩ : ∃ N', N = N' + 1 := ⟨N - 1, by omega⟩
  refine ok_mono (pat_46 hn N' n0 _ m6 ?_ (by omega) (by simp) H6) ?_
  · calc n0 < 10 ^ 9 := by omega
      _ ≤ 10 ^ N' := Nat.pow_le_pow_right (by decide) (by omega)
  · rintro w ⟨v, q1, q2, q3⟩
    have ST := S16.trans q3
    exact ⟨v, q1, V.mk' q2 ST, ST.mono (by omega) (by omega)⟩
theorem r_ofPattern (hX : kXok xm) (hN : 20 ≤ N) (I : RI xm M0 nb k C S F mem) (x z : Int32) : dOk (m_M_ofPattern xm N M0 x z mem) (rI fun v m => RI xm M0 nb (k + 1) (C + 1) (S + 5) F m) := by
  unfold m_M_ofPattern
  refine RI.ask (R := fun _ _ => True) I fun L B P Q s y l r u cs g sum lo bo pa ps vl vr rs ya sc m V hi hl hb => ?_
  have h6 := hi.2.2.2.2.1
  refine w_rc V.wr ?_
  refine ok_eI (m_isPattern V.wr x) ?_
  refine ok_if (fun e => c_up (by omega) (by omega) (c_ref V)) (fun e => ?_)
  obtain ⟨i, rfl, hil⟩ := in_nat (by omega) e
  refine ok_eI m_is ?_
  refine ok_if (fun e => c_up (by omega) (by omega) (c_ref V)) (fun e2 => ?_)
  obtain ⟨n, rfl, p1, p2⟩ := is_nat (a := 0) (b := 4) (by decide) (by decide) e2
  refine w_rc V.wr ?_
  refine ok_cI (m_ofPatternNow hX hN (by omega) hil hi.2.2.2.2.2 V) fun v m2 hh => ?_
  exact ok_I ⟨g, sum, hh.1, rfl, rfl, hh.2⟩
/-! what would be: the memory stays as it is -/
theorem would_129 {n0 : Nat} {a2 a4 a5 a6 a7 : Int32} (hN : 20 ≤ N) (p1 : 1 ≤ n0) (p2 : n0 ≤ 999999999) (V : WR xm M0 g sum lo bo pa ps (vl, vr, rs, ya, sc) ck F mem) (hi : aInv nb g lo bo pa ps (vl, vr, rs, ya, sc)) : ∃ v, m_M_wouldNow_129 xm N M0 a2 (Int32.ofNat n0) a4 a5 a6 a7 mem = some (.inl (some (.int v)), mem) := by
  have go : dOk (m_M_wouldNow_129 xm N M0 a2 (Int32.ofNat n0) a4 a5 a6 a7 mem) (fun w => ∃ v, w = (.inl (some (.int v)), mem)) := by
    have me : ∀ v : Int32, dOk (some (.inl (some (.int v)), mem)) (fun w => ∃ v, w = (.inl (some (.int v)), mem)) := fun v => ⟨_, rfl, v, rfl⟩
    unfold m_M_wouldNow_129
    refine ok_if (fun _ => me _) (fun _ => ok_if (fun _ => ?_) (fun _ => ok_if (fun _ => ok_if (fun _ => ?_) (fun _ => me _)) (fun _ => me _)))
    · refine w_rc V ?_
      exact ok_eI (m_yarn V hi.sw.2.2.2.2 hi.jn) (me _)
    · obtain ⟨L0, hL, hL1, hL9, hLp⟩ := m_length (xm := xm) (N := N) (mem := mem) (by omega) p1 p2
      refine ok_eI hL ?_
      refine ok_nz (fun z => by have := (i_eq (b := 0) (by omega) (by decide)).mp z; omega) ?_
      exact ok_if (fun _ => me _) (fun _ => me _)
  obtain ⟨w, h1, v, rfl⟩ := go
  exact ⟨v, h1⟩
theorem would_45 {n0 : Nat} {a2 : Int32} (hN : 20 ≤ N) (p1 : 1 ≤ n0) (p2 : n0 ≤ 999999999) (pz : aNz n0) (V : WR xm M0 g sum lo bo pa ps (vl, vr, rs, ya, sc) ck F mem) (hi : aInv nb g lo bo pa ps (vl, vr, rs, ya, sc)) : ∀ (j d f : Nat) (a4 a5 a6 : Int32), d + j = 99 → j < f → ∃ v, m_M_wouldNow_45 xm N f M0 a2 (Int32.ofNat n0) a4 a5 a6 (Int32.ofNat d) mem = some (.inl (some (.int v)), mem) := by
  intro j
  induction j with
  | zero =>
    intro d f a4 a5 a6 hd hf
    obtain ⟨f, rfl⟩ : ∃ f', f = f' + 1 := ⟨f - 1, by omega⟩
    rw [m_M_wouldNow_45, if_neg (fun z => by have := (i_lt (b := 99) (by omega) (by decide)).mp z; omega)]
    exact would_129 hN p1 p2 V hi
  | succ j ih =>
    intro d f a4 a5 a6 hd hf
    obtain ⟨f, rfl⟩ : ∃ f', f = f' + 1 := ⟨f - 1, by omega⟩
    rw [m_M_wouldNow_45, if_pos (show Int32.ofNat d < 99 from (i_lt (b := 99) (by omega) (by decide)).mpr (by omega))]
    by_cases h0 : 0 < a4
    · rw [if_pos h0]
      obtain ⟨L0, hL, hL1, hL9, hLp⟩ := m_length (xm := xm) (N := N) (mem := mem) (by omega) p1 p2
      have go : dOk (dCI (m_M_length xm N (Int32.ofNat n0) mem) fun v61 m61 => dNz v61 <| dCI (m_M_step xm N (Int32.ofNat n0) (Int32.ofNat d - Int32.ofNat d / v61 * v61) m61) fun v65 m65 => dCI (m_M_can xm N v65 a4 a5 a6 m65) fun v78 m78 => if v78 = 0 then m_M_wouldNow_129 xm N M0 a2 (Int32.ofNat n0) a4 a5 a6 (Int32.ofNat d) m78 else dCI (m_M_eats xm N v65 m78) fun v91 m91 => dCI (m_M_makes xm N v65 m91) fun v101 m101 => dCI (m_M_eats xm N v65 m101) fun v106 m106 => dCI (m_M_takes xm N v65 m106) fun v117 m117 => m_M_wouldNow_45 xm N f M0 a2 (Int32.ofNat n0) (a4 - v91) (a5 + (v101 - v106)) (a6 - v117) (Int32.ofNat d + 1) m117) (fun w => ∃ v, w = (.inl (some (.int v)), mem)) := by
        refine ok_eI hL ?_
        refine ok_nz (fun z => by have := (i_eq (b := 0) (by omega) (by decide)).mp z; omega) ?_
        rw [i_modL (by omega) hL1 hL9]
        have hdl : d % L0 < L0 := Nat.mod_lt _ (by omega)
        refine ok_eI (m_step (by omega) p2 hL hL9 hdl) ?_
        have hs1 : n0 / 10 ^ (L0 - 1 - d % L0) % 10 ≠ 0 := pz _ (hLp _ (by omega))
        have hs9 : n0 / 10 ^ (L0 - 1 - d % L0) % 10 ≤ 9 := by omega
        generalize n0 / 10 ^ (L0 - 1 - d % L0) % 10 = s at hs1 hs9
        obtain ⟨v, hv, -⟩ := m_can (xm := xm) (N := N) (mem := mem) (s := s) (l := a4) (a := a5) (y := a6) (by omega) hs9
        refine ok_eI hv ?_
        refine ok_if (fun _ => ?_) (fun _ => ?_)
        · obtain ⟨v, h⟩ := would_129 (a2 := a2) (a4 := a4) (a5 := a5) (a6 := a6) (a7 := Int32.ofNat d) hN p1 p2 V hi
          exact ⟨_, h, v, rfl⟩
        · obtain ⟨v1, h1⟩ := m_eats (xm := xm) (N := N) (mem := mem) (x := Int32.ofNat s)
          obtain ⟨v2, h2⟩ := m_makes (xm := xm) (N := N) (mem := mem) (x := Int32.ofNat s)
          obtain ⟨v3, h3⟩ := m_takes (xm := xm) (N := N) (mem := mem) (x := Int32.ofNat s)
          refine ok_eI h1 ?_
          refine ok_eI h2 ?_
          refine ok_eI h1 ?_
          refine ok_eI h3 ?_
          rw [i_add1]
          obtain ⟨v, h⟩ := ih (d + 1) f (a4 - v1) (a5 + (v2 - v1)) (a6 - v3) (by omega) (by omega)
          exact ⟨_, h, v, rfl⟩
      obtain ⟨w, h1, v, rfl⟩ := go
      exact ⟨v, h1⟩
    · rw [if_neg h0]
      exact would_129 hN p1 p2 V hi
theorem m_wouldNow {i : Nat} {a2 : Int32} (hX : kXok xm) (hN : 120 ≤ N) (hil : i < pa.length) (V : WR xm M0 g sum lo bo pa ps (vl, vr, rs, ya, sc) ck F mem) (hi : aInv nb g lo bo pa ps (vl, vr, rs, ya, sc)) : ∃ v, m_M_wouldNow xm N M0 (Int32.ofNat i) a2 mem = some (.inl (some (.int v)), mem) := by
  have go : dOk (m_M_wouldNow xm N M0 (Int32.ofNat i) a2 mem) (fun w => ∃ v, w = (.inl (some (.int v)), mem)) := by
    unfold m_M_wouldNow
    refine w_gP V ?_
    refine w_pat hX V hil ?_
    obtain ⟨n0, hn0, p1, p2, pz⟩ := hi.2.2.2.2.2 _ (List.getElem_mem hil)
    rw [hn0]
    refine w_leftSize V ?_
    refine w_all V ?_
    refine w_rc V ?_
    refine ok_eI (m_yarn V hi.sw.2.2.2.2 hi.jn) ?_
    obtain ⟨v, h⟩ := would_45 (N := N) (a2 := a2) (by omega) p1 p2 pz V hi 99 0 N (Int32.ofNat vl.length) (Int32.ofNat (vl.length + vr.length)) (aYarn g ya) (by omega) (by omega)
    exact ⟨_, h, v, rfl⟩
  obtain ⟨w, h1, v, rfl⟩ := go
  exact ⟨v, h1⟩
theorem r_would (hX : kXok xm) (hN : 120 ≤ N) (I : RI xm M0 nb k C S F mem) (x : Int32) : dOk (m_M_would xm N M0 x mem) (rI fun v m => RI xm M0 nb (k + 1) (C + 0) (S + 0) F m) := by
  unfold m_M_would
  refine RI.ask (R := fun _ _ => True) I fun L B P Q s y l r u cs g sum lo bo pa ps vl vr rs ya sc m V hi hl hb => ?_
  have h6 := hi.2.2.2.2.1
  refine w_rc V.wr ?_
  refine ok_eI (m_isPattern V.wr x) ?_
  refine ok_if (fun e => c_ref V) (fun e => ?_)
  obtain ⟨i, rfl, hil⟩ := in_nat (by omega) e
  refine w_rc V.wr ?_
  obtain ⟨v, h⟩ := m_wouldNow (a2 := 0) hX hN hil V.wr hi
  exact ok_eI h (c_same V)
theorem r_needs (hX : kXok xm) (hN : 120 ≤ N) (I : RI xm M0 nb k C S F mem) (x : Int32) : dOk (m_M_needs xm N M0 x mem) (rI fun v m => RI xm M0 nb (k + 1) (C + 0) (S + 0) F m) := by
  unfold m_M_needs
  refine RI.ask (R := fun _ _ => True) I fun L B P Q s y l r u cs g sum lo bo pa ps vl vr rs ya sc m V hi hl hb => ?_
  have h6 := hi.2.2.2.2.1
  refine w_rc V.wr ?_
  refine ok_eI (m_isPattern V.wr x) ?_
  refine ok_if (fun e => c_ref V) (fun e => ?_)
  obtain ⟨i, rfl, hil⟩ := in_nat (by omega) e
  refine w_rc V.wr ?_
  obtain ⟨v, h⟩ := m_wouldNow (a2 := 1) hX hN hil V.wr hi
  exact ok_eI h (c_same V)
theorem best_loop (hX : kXok xm) (hN : 120 ≤ N) (V : WR xm M0 g sum lo bo pa ps (vl, vr, rs, ya, sc) ck F mem) (hi : aInv nb g lo bo pa ps (vl, vr, rs, ya, sc)) : ∀ (j d f : Nat) (b : Int32), pa.length = d + j → j < f → (b = -1 ∨ ∃ i : Nat, b = Int32.ofNat i ∧ i < pa.length) → dOk (m_M_bestNow_4 xm N f M0 b (Int32.ofNat d) mem) (fun w => ∃ v, w = (.inl (some (.int v)), mem)) := by
  intro j
  have h6 := hi.2.2.2.2.1
  induction j with
  | zero =>
    intro d f b hd hf hb
    obtain ⟨f, rfl⟩ : ∃ f', f = f' + 1 := ⟨f - 1, by omega⟩
    rw [m_M_bestNow_4]
    refine w_gP V ?_
    refine w_patSize V ?_
    rw [if_neg (fun z => by have := (i_lt (by omega) (by omega)).mp z; omega)]
    exact ⟨_, rfl, b, rfl⟩
  | succ j ih =>
    intro d f b hd hf hb
    obtain ⟨f, rfl⟩ : ∃ f', f = f' + 1 := ⟨f - 1, by omega⟩
    rw [m_M_bestNow_4]
    refine w_gP V ?_
    refine w_patSize V ?_
    rw [if_pos ((i_lt (by omega) (by omega)).mpr (by omega))]
    refine w_rc V ?_
    obtain ⟨v1, h1⟩ := m_wouldNow (i := d) (a2 := 2) hX hN (by omega) V hi
    refine ok_eI h1 ?_
    have next : ∀ b' : Int32, (b' = -1 ∨ ∃ i : Nat, b' = Int32.ofNat i ∧ i < pa.length) → dOk (m_M_bestNow_47 xm N (fun a0 a1 a2 mem => m_M_bestNow_4 xm N f a0 a1 a2 mem) M0 b' (Int32.ofNat d) mem) (fun w => ∃ v, w = (.inl (some (.int v)), mem)) := by
      intro b' hb'
      unfold m_M_bestNow_47
      rw [i_add1]
      exact ih (d + 1) f b' (by omega) (by omega) hb'
    have take : dOk (m_M_bestNow_45 xm N (fun a0 a1 a2 mem => m_M_bestNow_4 xm N f a0 a1 a2 mem) M0 (Int32.ofNat d) mem) (fun w => ∃ v, w = (.inl (some (.int v)), mem)) := by
      unfold m_M_bestNow_45
      exact next _ (Or.inr ⟨d, rfl, by omega⟩)
    refine ok_if (fun _ => ok_if (fun _ => take) (fun e => ?_)) (fun _ => next b hb)
    obtain ⟨i, rfl, hil⟩ := hb.resolve_left e
    refine w_rc V ?_
    obtain ⟨v2, h2⟩ := m_wouldNow (i := d) (a2 := 1) hX hN (by omega) V hi
    refine ok_eI h2 ?_
    refine w_rc V ?_
    obtain ⟨v3, h3⟩ := m_wouldNow (i := i) (a2 := 1) hX hN hil V hi
    refine ok_eI h3 ?_
    exact ok_if (fun _ => take) (fun _ => next _ (Or.inr ⟨i, rfl, hil⟩))
theorem m_bestNow (hX : kXok xm) (hN : 120 ≤ N) (V : WR xm M0 g sum lo bo pa ps (vl, vr, rs, ya, sc) ck F mem) (hi : aInv nb g lo bo pa ps (vl, vr, rs, ya, sc)) : ∃ v, m_M_bestNow xm N M0 mem = some (.inl (some (.int v)), mem) := by
  have h6 := hi.2.2.2.2.1
  obtain ⟨w, h1, v, rfl⟩ := best_loop hX hN V hi pa.length 0 N (-1) (by omega) (by omega) (Or.inl rfl)
  exact ⟨v, h1⟩
theorem r_best (hX : kXok xm) (hN : 120 ≤ N) (I : RI xm M0 nb k C S F mem) : dOk (m_M_best xm N M0 mem) (rI fun v m => RI xm M0 nb (k + 1) (C + 0) (S + 0) F m) := by
  unfold m_M_best
  refine RI.ask (R := fun _ _ => True) I fun L B P Q s y l r u cs g sum lo bo pa ps vl vr rs ya sc m V hi hl hb => ?_
  refine w_rc V.wr ?_
  obtain ⟨v, h⟩ := m_bestNow hX hN V.wr hi
  exact ok_eI h (c_same V)
end KW2
