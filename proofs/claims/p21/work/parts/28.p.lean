/-! ===== the reference's calls: bind, drop, latch ===== -/
section KP
variable {xm : Nat → Option kE} {mem : kM} {N M0 nb k C S ck : Nat} {F : kSg} {g : Nat → Int32} {sum : Int64} {lo : List kLf} {bo pa : List Int32} {ps : List aS} {vl vr ya : List Int32} {rs : List (List Int32)} {sc : Nat → Int32} {T : kO × kM → Prop}
theorem w_bindOne {p : Nat} {a1 a4 : Int32} {K : Nat → Int32 → Int32 → kM → dRes} {s0 s1 : Int32} (hX : kXok xm) (W : WR xm M0 g sum lo bo pa ps (vl, vr, rs, ya, sc) ck F mem) (h24 : vr.length ≤ 24) (hb : bo.length ≤ 12400) (hs : s0 - s1 = Int32.ofNat p) (hp : p < vr.length) (h : ∀ m ck', WR xm M0 g sum lo (bo ++ [vr[p]]) pa ps (vl, vr.eraseIdx p, rs, ya, kUp sc 7 (sc 7 + 1)) ck' F m → ck ≤ ck' → St xm mem m 1 (4 * (ck' - ck)) → dOk (K M0 a1 (a4 + 1) m) T) : dOk (m_M_bind_147 xm N K M0 a1 a4 s0 s1 mem) T := by
  unfold m_M_bind_147
  refine w_gB W ?_
  obtain ⟨L, ⟨Ba, Bq, Bm, Bc, Be⟩, P, Q, ⟨s, l, ⟨ra, rq, rm, rc, re⟩, u, y⟩, cs, H, R, hck, hL, hB, hP, hQ⟩ := W
  obtain ⟨⟨w1, w2, w3, w4⟩, ⟨c1, c2, c3, c4⟩, r3, r4, r5, r6, ⟨t1, t2, t3, ⟨t4, t5, t6⟩, t7, t8, t9⟩, r8⟩ := R
  dsimp only at hB t2 t5 t8 r4
  have hck0 : kCapL L + Bc = ck := hck
  dsimp only [kCapL] at c2
  subst hB
  have n8 := t8.1
  have n4 := r4.1
  refine ok_gR (H.look 0 0 rfl rfl) rfl ?_
  refine ok_gR (H.look 5 0 rfl rfl) rfl ?_
  refine ok_rc (ls_hd H 7 rfl) ?_
  rw [hs]
  refine ok_cR (ls_remove (a := ra) (q := rq) (mc := rm) (cap := rc) (es := re) (j := p) t2 H 7 rfl t8.ok (by omega)) fun e m1 hh => ?_
  obtain ⟨rfl, H1, t2', S1⟩ := hh
  have hiv : kIv xm m1 re[p] vr[p] := (t8.at (by omega) hp).st S1
  refine ok_ccO hiv ?_
  refine ok_rc (ls_hd H1 2 rfl) ?_
  refine ok_cI (ls_add (a := M0 + 2) (q := Bq) (mc := Bm) (cap := Bc) (es := Be) hX w2 (by omega) H1 2 rfl (r4.st S1).ok hiv.ok) fun v m2 hh => ?_
  obtain ⟨-, q', H2, w2', S2⟩ := hh
  refine ok_gR (H2.look 0 0 rfl rfl) rfl ?_
  refine ok_gI (H2.look 5 0 rfl rfl) rfl ?_
  refine os_p H2 5 0 rfl rfl rfl rfl fun m3 H3 S3 => ?_
  have ST := S1.trans (S2.trans S3)
  have kp := kAs_pot (n := Be.length) (cap := Bc) w2.1
  have kb := kAc_big (n := Be.length) (cap := Bc) (by omega) c2
  refine h m3 (kCapL L + kAc Bc Be.length) ⟨L, (M0 + 2, q', Bm + 1, kAc Bc Be.length, Be ++ [re[p]]), P, Q, (s, l, (ra, rq, rm + 1, rc, re.eraseIdx p), u, y), cs, H3, ⟨⟨w1, w2', w3, w4⟩, ⟨c1, kb, c3, c4⟩, r3.st ST, (r4.st ST).app (IVs.one (hiv.st (S2.trans S3))), r5.st ST, r6, ⟨t1, t2', t3, ⟨t4, t5, t6⟩, t7.st ST, (t8.st ST).erase p, t9⟩, fun i c z q1 q2 => (r8 i c z q1 q2).st ST⟩, rfl, hL, rfl, hP, hQ⟩ (by omega) (ST.mono (by omega) ?_)
  omega
theorem aInv.bind {p : Nat} {v : Int32} (h : aInv nb g lo bo pa ps (vl, vr, rs, ya, sc)) : aInv nb g lo (bo ++ [v]) pa ps (vl, vr.eraseIdx p, rs, ya, kUp sc 7 (sc 7 + 1)) := by
  obtain ⟨a1, ⟨⟨b1, b2, b3, b4, b5⟩, b6, b7, b8, b9, b10, b11⟩, a3, a4, a5, a6⟩ := h
  dsimp only at b2 b6
  have el : (bo ++ [v]).length = bo.length + 1 := by simp
  have e2 : (vr.eraseIdx p).length ≤ vr.length := List.length_eraseIdx_le ..
  refine ⟨a1, ⟨⟨b1, by dsimp only; omega, b3, b4, b5⟩, by dsimp only; omega, b7, fun w hw => b8 w (List.mem_of_mem_eraseIdx hw), b9, b10, ?_⟩, by rw [el]; exact aCh_mono a3 (Nat.le_refl _) (by omega), a4, a5, a6⟩
  show sc 7 + 1 = _
  rw [show sc 7 = Int32.ofNat bo.length from b11, el, i_add1]
theorem bind_loop {n : Nat} (hX : kXok xm) (hn : n ≤ 24) : ∀ (j i f : Nat) (mem : kM) (bo vr : List Int32) (sc : Nat → Int32) (ck : Nat), i + j = n → j < f → WR xm M0 g sum lo bo pa ps (vl, vr, rs, ya, sc) ck F mem → aInv nb g lo bo pa ps (vl, vr, rs, ya, sc) → j ≤ vr.length → bo.length + j ≤ 12400 →
    dOk (m_M_bind_112 xm N f M0 (Int32.ofNat n) (Int32.ofNat i) mem) (rI fun v m => ∃ bo' st' ck', WR xm M0 g sum lo bo' pa ps st' ck' F m ∧ aInv nb g lo bo' pa ps st' ∧ bo'.length = bo.length + j ∧ ck ≤ ck' ∧ St xm mem m j (4 * (ck' - ck))) := by
  intro j
  induction j with
  | zero =>
    intro i f mem bo vr sc ck hi hf W h h24 hlo
    obtain ⟨f, rfl⟩ : ∃ f', f = f' + 1 := ⟨f - 1, by omega⟩
    rw [m_M_bind_112, if_neg (fun z => by have := (i_lt (by omega) (by omega)).mp z; omega)]
    refine w_all W ?_
    exact ok_I ⟨bo, _, ck, W, h, by omega, Nat.le_refl _, St.refl.mono (by omega) (by omega)⟩
  | succ j ih =>
    intro i f mem bo vr sc ck hi hf W h hj hlo
    obtain ⟨f, rfl⟩ : ∃ f', f = f' + 1 := ⟨f - 1, by omega⟩
    have h24 := h.2.1.2.1
    dsimp only at h24
    rw [m_M_bind_112, if_pos ((i_lt (by omega) (by omega)).mpr (by omega))]
    refine w_rightSize W ?_
    refine w_rightSize W ?_
    have go : ∀ p, p < vr.length → ∀ s1 : Int32, Int32.ofNat vr.length - s1 = Int32.ofNat p → dOk (m_M_bind_147 xm N (fun a0 a1 a4 mem => m_M_bind_112 xm N f a0 a1 a4 mem) M0 (Int32.ofNat n) (Int32.ofNat i) (Int32.ofNat vr.length) s1 mem) (rI fun v m => ∃ bo' st' ck', WR xm M0 g sum lo bo' pa ps st' ck' F m ∧ aInv nb g lo bo' pa ps st' ∧ bo'.length = bo.length + (j + 1) ∧ ck ≤ ck' ∧ St xm mem m (j + 1) (4 * (ck' - ck))) := by
      intro p hp s1 hs
      refine w_bindOne hX W (by omega) (by omega) hs hp fun m ck1 W1 hck S1 => ?_
      rw [i_add1]
      have el : (vr.eraseIdx p).length = vr.length - 1 := by rw [List.length_eraseIdx, if_pos hp]
      refine ok_mono (ih (i + 1) f m _ _ _ ck1 (by omega) (by omega) W1 h.bind (by omega) (by simp; omega)) ?_
      rintro r ⟨v, a1, bo', st', ck', a2, a3, a4, a5, S2⟩
      refine ⟨v, a1, bo', st', ck', a2, a3, ?_, by omega, (S1.trans S2).mono (by omega) (by omega)⟩
      simp at a4
      omega
    refine ok_if (fun e => ?_) (fun e => ?_)
    · have e := (i_eq (b := 1) (by omega) (by decide)).mp e
      exact go (vr.length - 1) (by omega) 1 (i_sub1 (by omega))
    · have e : vr.length ≠ 1 := fun z => e ((i_eq (b := 1) (by omega) (by decide)).mpr z)
      exact go (vr.length - 2) (by omega) 2 (i_sub (b := 2) (by omega))
/-- the joined ball's yarn is put -/
theorem w_yarnPut {b : Nat} {x : Int32 → Int32} {K : kM → dRes} (W : WR xm M0 g sum lo bo pa ps (vl, vr, rs, ya, sc) ck F mem) (hy : ya.length = 4) (hj : g 7 = Int32.ofNat b) (hb : b < 4) (h : ∀ m, WR xm M0 g sum lo bo pa ps (vl, vr, rs, ya.set b (x (ya.getD b 0)), sc) ck F m → St xm mem m 0 0 → dOk (K m) T) :
    dOk (dGR xm mem M0 15 5 fun v93 => dGR xm mem v93 14 3 fun v96 => dGI xm mem M0 15 7 fun v100 => dIL xm 0 mem v96 v100 fun v104 => dIS xm mem v96 v100 (x v104) K) T := by
  obtain ⟨L, B, P, Q, ⟨s, l, r, u, y⟩, cs, H, R, hck⟩ := W
  have hin : kInB (g 7) ya.length = true := by rw [hj, hy]; exact i_inB hb (by decide)
  have hnt : (g 7).toNatClampNeg = b := by rw [hj]; exact i_nat (by omega)
  refine ok_gR (H.look 0 0 rfl rfl) rfl ?_
  refine ok_gR (H.look 5 0 rfl rfl) rfl ?_
  refine ok_gI (H.look 0 0 rfl rfl) rfl ?_
  refine ok_iL (H.look 10 0 rfl rfl) hin ?_
  refine os_iS H 10 0 rfl rfl hin fun m1 H1 S1 => ?_
  rw [hnt] at H1
  exact h m1 ⟨L, B, P, Q, (s, l, r, u, y), cs, H1, R.st S1, hck⟩ S1
theorem aInv.yarn {b : Nat} {x : Int32} (h : aInv nb g lo bo pa ps (vl, vr, rs, ya, sc)) : aInv nb g lo bo pa ps (vl, vr, rs, ya.set b x, sc) := by
  obtain ⟨a1, ⟨⟨b1, b2, b3, b4, b5⟩, b6, b7, b8, b9, b10, b11⟩, a3⟩ := h
  exact ⟨a1, ⟨⟨b1, b2, b3, b4, by simpa using b5⟩, b6, b7, b8, b9, b10, b11⟩, a3⟩
theorem r_bind (hX : kXok xm) (hN : 60 ≤ N) (hk : k < 512) (I : RI xm M0 nb k C S F mem) (x : Int32) : dOk (m_M_bind xm N M0 x mem) (rI fun v m => RI xm M0 nb (k + 1) (C + 55) (S + 300) F m) := by
  obtain ⟨g, sum, lo, bo, pa, ps, ⟨vl, vr, rs, ya, sc⟩, ck, W, hi, hl, hb, h1, h2⟩ := I
  have up : ∀ r, (rI fun v m => RI xm M0 nb (k + 1) (C + 0) (S + 0) F m) r → (rI fun v m => RI xm M0 nb (k + 1) (C + 55) (S + 300) F m) r := by
    rintro r ⟨v, a, b⟩
    exact ⟨v, a, b.up (Nat.le_refl _) (by omega) (by omega)⟩
  have h24 := hi.2.1.2.1
  dsimp only at h24
  unfold m_M_bind
  refine m_start W fun m1 W1 S1 => ?_
  have hi1 : aInv nb (kUp g 0 0) lo bo pa ps (vl, vr, rs, ya, sc) := hi
  refine ok_eI m_is ?_
  refine ok_if (fun e => ?_) (fun e => ?_)
  · exact ok_mono (r_ref h1 h2 W1 hi1 hl hb S1) up
  · obtain ⟨n, rfl, p1, p2⟩ := is_nat (a := 1) (b := 24) (by decide) (by decide) e
    have f78 : dOk (m_M_bind_78 xm N M0 m1) (rI fun v m => RI xm M0 nb (k + 1) (C + 55) (S + 300) F m) := by
      unfold m_M_bind_78
      exact ok_mono (r_ref h1 h2 W1 hi1 hl hb S1) up
    have f84 : ∀ a3 : Int32, n ≤ vr.length → (a3 ≠ 0 → ∃ b : Nat, (kUp g 0 0) 7 = Int32.ofNat b ∧ b < 4) → dOk (m_M_bind_84 xm N M0 (Int32.ofNat n) a3 m1) (rI fun v m => RI xm M0 nb (k + 1) (C + 55) (S + 300) F m) := by
      intro a3 hn hj
      unfold m_M_bind_84
      refine w_rc W1 ?_
      refine ok_cV (m_keep hX (by omega) W1 hi.sw hi.2.2.2.1) fun m2 h => ?_
      obtain ⟨W2, S2⟩ := h
      have hi2 := hi1.keep
      have lp : ∀ ps' m3 ya', WR xm M0 (kUp g 0 0) sum lo bo pa ps' (vl, vr, rs, ya', sc) ck F m3 → aInv nb (kUp g 0 0) lo bo pa ps' (vl, vr, rs, ya', sc) → St xm m2 m3 0 0 → dOk (m_M_bind_109 xm N M0 (Int32.ofNat n) m3) (rI fun v m => RI xm M0 nb (k + 1) (C + 55) (S + 300) F m) := by
        intro ps' m3 ya' W3 hi3 S3
        unfold m_M_bind_109
        refine ok_mono (bind_loop (N := N) hX p2 n 0 N m3 bo vr sc ck (by omega) (by omega) W3 hi3 hn (by omega)) ?_
        rintro r ⟨v, a1, bo', st', ck', a2, a3, a4, a5, S4⟩
        exact ⟨v, a1, RI.mk' (c := 55) (s := 300) h1 h2 a2 a3 (by omega) (by omega) a5 ((S1.trans (S2.trans (S3.trans S4))).mono (by omega) (by omega))⟩
      refine ok_if (fun e => ?_) (fun e => ?_)
      · exact lp _ m2 ya W2 hi2 St.refl
      · obtain ⟨b, hb7, hb4⟩ := hj e
        exact w_yarnPut (x := fun z => z - 6) W2 hi.sw.2.2.2.2 hb7 hb4 fun m3 W3 S3 => lp _ m3 _ W3 hi2.yarn S3
    have f65 : ∀ a3 : Int32, n ≤ vr.length → dOk (m_M_bind_65 xm N M0 (Int32.ofNat n) a3 m1) (rI fun v m => RI xm M0 nb (k + 1) (C + 55) (S + 300) F m) := by
      intro a3 hn
      unfold m_M_bind_65
      refine ok_if (fun e => ?_) (fun e => ?_)
      · exact f84 a3 hn (fun z => absurd e z)
      · refine w_rc W1 ?_
        refine ok_eI (m_yarn W1 hi.sw.2.2.2.2 hi1.jn) ?_
        refine ok_if (fun _ => f78) (fun e2 => ?_)
        exact f84 a3 hn (fun _ => hi1.some (k := 6) (by decide) e2)
    have f55 : ∀ s0 : Int32, (s0 ≠ 0 → n ≤ vr.length) → dOk (m_M_bind_55 xm N M0 (Int32.ofNat n) (Int32.ofNat vr.length) s0 m1) (rI fun v m => RI xm M0 nb (k + 1) (C + 55) (S + 300) F m) := by
      intro s0 hs
      unfold m_M_bind_55
      refine ok_if (fun e => ?_) (fun e => ?_)
      · have e := (i_lt (by omega) (by omega)).mp e
        exact f65 s0 (by omega)
      · exact ok_if (fun _ => f78) (fun e2 => f65 s0 (hs e2))
    have f54 : dOk (m_M_bind_54 xm N M0 (Int32.ofNat n) (Int32.ofNat vr.length) m1) (rI fun v m => RI xm M0 nb (k + 1) (C + 55) (S + 300) F m) := by
      unfold m_M_bind_54
      exact f55 0 (fun z => absurd rfl z)
    refine w_rightSize W1 ?_
    refine ok_if (fun e => ?_) (fun _ => f54)
    have e := (i_eq (by omega) (by omega)).mp e
    refine w_leftEmpty W1 ?_
    exact ok_if (fun _ => f54) (fun _ => f55 1 (fun _ => by omega))
theorem kAc_runs {cap n : Nat} (h : n ≤ 9) (hc : cap ≤ 20) : kAc cap n ≤ 20 ∧ kAs cap n ≤ 20 := by
  unfold kAc kAs kGr
  split
  · split <;> omega
  · omega
theorem i_ld {xs : List Int32} {n : Nat} (h : n < xs.length) (hl : xs.length = 4) : kInB (Int32.ofNat n) xs.length = true := i_inB h (by omega)
theorem r_drop (hX : kXok xm) (hN : 20 ≤ N) (I : RI xm M0 nb k C S F mem) : dOk (m_M_drop xm N M0 mem) (rI fun v m => RI xm M0 nb (k + 1) (C + 33) (S + 330) F m) := by
  obtain ⟨g, sum, lo, bo, pa, ps, ⟨vl, vr, rs, ya, sc⟩, ck, W, hi, hl, hb, h1, h2⟩ := I
  have up : ∀ r, (rI fun v m => RI xm M0 nb (k + 1) (C + 0) (S + 0) F m) r → (rI fun v m => RI xm M0 nb (k + 1) (C + 33) (S + 330) F m) r := by
    rintro r ⟨v, a, b⟩
    exact ⟨v, a, b.up (Nat.le_refl _) (by omega) (by omega)⟩
  have h24 := hi.2.1.2.1
  dsimp only at h24
  have hr9 := hi.sw.2.2.1
  dsimp only at hr9
  unfold m_M_drop
  refine m_start W fun m1 W1 S1 => ?_
  have hi1 : aInv nb (kUp g 0 0) lo bo pa ps (vl, vr, rs, ya, sc) := hi
  refine w_leftEmpty W1 ?_
  by_cases he : vl = []
  · rw [if_pos he, if_neg (show ¬ ((1 : Int32) = 0) by decide)]
    unfold m_M_drop_33
    exact ok_mono (r_ref h1 h2 W1 hi1 hl hb S1) up
  · rw [if_neg he, if_pos rfl]
    refine w_runsSize W1 ?_
    refine ok_if (fun e => ?_) (fun e => ?_)
    · unfold m_M_drop_33
      exact ok_mono (r_ref h1 h2 W1 hi1 hl hb S1) up
    · have e : rs.length ≠ 9 := fun z => e ((i_eq (b := 9) (by omega) (by decide)).mpr z)
      refine w_rc W1 ?_
      refine ok_cV (m_keep hX (by omega) W1 hi.sw hi.2.2.2.1) fun m2 h => ?_
      obtain ⟨W2, S2⟩ := h
      have hi2 := hi1.keep
      obtain ⟨t, v, rfl⟩ := snoc_of he
      obtain ⟨i, rfl, hil⟩ := hi.2.1.2.2.1 v (List.mem_append_right _ (List.mem_singleton.mpr rfl))
      refine w_pullL W2 fun m3 W3 S3 => ?_
      obtain ⟨⟨La, Lq, Lm, Lc, Le⟩, B, P, Q, ⟨s, l, r, ⟨ua, uq, um, uc, ue⟩, y⟩, cs, H, R, hck, hL, hB, hP, hQ⟩ := W3
      obtain ⟨⟨w1, w2, w3, w4⟩, cc, r3, r4, r5, r6, ⟨t1, t2, t3, ⟨t4, t5, t6⟩, t7, t8, t9⟩, r8⟩ := R
      dsimp only at hL t3 t6 t9 r3
      subst hL
      have n3 := r3.1
      refine os_nI (n := 4) xm H (by decide) fun m4 p4 H4 S4 => ?_
      refine os_iS H4 0 0 rfl rfl (by decide) fun m5 H5 S5 => ?_
      refine ok_gR (H5.look 1 0 rfl rfl) rfl ?_
      refine ok_rc (ls_hd H5 2 rfl) ?_
      refine ok_eR (ls_get (a := M0 + 1) (q := Lq) (mc := Lm) (cap := Lc) (es := Le) (j := i) hX w1 H5 2 rfl (by omega)) ?_
      have hlo := ((r3.at (i := i) (by omega) hil).st S4).st S5
      refine ok_ccO hlo ?_
      refine ok_gI hlo rfl ?_
      refine os_iS H5 0 0 rfl rfl (by simp; decide) fun m6 H6 S6 => ?_
      refine os_iS H6 0 0 rfl rfl (by simp; decide) fun m7 H7 S7 => ?_
      refine os_iS H7 0 0 rfl rfl (by simp; decide) fun m8 H8 S8 => ?_
      refine ok_gR (H8.look 1 0 rfl rfl) rfl ?_
      refine ok_gR (H8.look 6 0 rfl rfl) rfl ?_
      refine ok_rc (ls_hd H8 9 rfl) ?_
      have hp1 : kLook xm m8 p4 = some (kAr [Int32.ofNat i, lo[i].2.2.2.1, 0, 1]) := H8.look 0 0 rfl rfl
      have hp2 : 1000 ≤ p4 := H8.ge (e := kAr [Int32.ofNat i, lo[i].2.2.2.1, 0, 1]) 0 0 rfl rfl
      have hokp : kStOk xm m8 2 (some p4) = true := by
        unfold kStOk
        simp only [hp1]
        simp [kAr, hp2]
      refine ok_cI (ls_add (a := ua) (q := uq) (mc := um) (cap := uc) (es := ue) hX t3 (by omega) H8 9 rfl (sRu_ok H8 (i := 10) rfl t9) hokp) fun v m9 h => ?_
      obtain ⟨-, q', H9, t3', S9⟩ := h
      have H10 := H9.into 9 rfl
      have ST := S4.trans (S5.trans (S6.trans (S7.trans (S8.trans S9))))
      have kr := kAc_runs (cap := uc) (n := ue.length) (by omega) t6
      have H11 : HpS (wSg M0 (M0 + 1, Lq, Lm, Lc, Le) B P Q (s, l, r, (ua, q', um + 1, kAc uc ue.length, ue ++ [p4]), y) cs (kUp g 0 0) sum ((if ps.length = 12 then ps.drop 1 else ps) ++ [(t ++ [Int32.ofNat i], vr, rs, ya, sc)]) (t, vr, rs ++ [[Int32.ofNat i, lo[i].2.2.2.1, 0, 1]], ya, sc) F) m9 := by
        have e5 := sRu_snoc (e := p4) (r := [Int32.ofNat i, lo[i].2.2.2.1, 0, 1]) t9
        unfold wSg
        dsimp only
        rw [e5]
        exact H10
      have W4 : WR xm M0 (kUp g 0 0) sum lo bo pa ((if ps.length = 12 then ps.drop 1 else ps) ++ [(t ++ [Int32.ofNat i], vr, rs, ya, sc)]) (t, vr, rs ++ [[Int32.ofNat i, lo[i].2.2.2.1, 0, 1]], ya, sc) ck F m9 := ⟨(M0 + 1, Lq, Lm, Lc, Le), B, P, Q, (s, l, r, (ua, q', um + 1, kAc uc ue.length, ue ++ [p4]), y), cs, H11, ⟨⟨w1, w2, w3, w4⟩, cc, r3.st ST, r4.st ST, r5.st ST, r6, ⟨t1, t2, t3', ⟨t4, t5, kr.1⟩, t7.st ST, t8.st ST, by simp [t9]⟩, fun i c z q1 q2 => (r8 i c z q1 q2).st ST⟩, hck, rfl, hB, hP, hQ⟩
      refine w_runsSize W4 ?_
      refine ok_I (RI.mk' (c := 33) (s := 330) h1 h2 W4 ?_ (by omega) (by omega) (Nat.le_refl _) ((S1.trans (S2.trans (S3.trans ST))).mono (by omega) (by have := kr.2; omega)))
      obtain ⟨a1, ⟨⟨b1, b2, b3, b4, b5⟩, b6, b7, b8, b9, b10, b11⟩, a3⟩ := hi2
      dsimp only at b1 b2 b3 b6
      rw [List.length_append, List.length_singleton] at b1 b6
      refine ⟨a1, ⟨⟨by dsimp only; omega, b2, by simp; omega, ?_, b5⟩, by dsimp only; omega, fun w hw => b7 w (List.mem_append_left _ hw), b8, ?_, b10, b11⟩, a3⟩
      · intro z hz
        rcases List.mem_append.mp hz with h | h
        · exact b4 z h
        · rw [List.mem_singleton.mp h]; rfl
      · intro z hz
        rcases List.mem_append.mp hz with h | h
        · exact b9 z h
        · rw [List.mem_singleton.mp h]
          exact ⟨i, rfl, hil⟩
end KP
