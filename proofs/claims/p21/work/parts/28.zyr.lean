/-! ===== the reference exactly: turn, bind, drop, latch, pattern, undo, buy ===== -/
section ES
variable {xm : Nat → Option kE} {mem : kM} {N M0 nb k C S ck b n : Nat} {F : kSg} {g : Nat → Int32} {sum : Int64} {t jo x y : Int32} {lo : List kLf} {bo pa vl vr ya : List Int32} {ps : List aS} {rs : List (List Int32)} {sc : Nat → Int32} {st : aS} {T : kO × kM → Prop} {sp : aR}
theorem x_turn (hX : kXok xm) (hN : 20 ≤ N) (I : RJ xm M0 t (nb, jo, lo, bo, pa, ps, (vl, vr, rs, ya, sc)) k C S F mem) : dOk (m_M_turn xm N M0 mem) (eR xm M0 (spTurn (nb, jo, lo, bo, pa, ps, (vl, vr, rs, ya, sc))) k C S 31 300 F) := by
  obtain ⟨g, sum, ck, W, hi, ⟨-, h7⟩, hl, hb, h1, h2⟩ := I
  dsimp only at W hi h7 hl hb
  have h24 := hi.2.1.2.1
  dsimp only at h24
  unfold m_M_turn
  refine m_start W fun m1 W1 S1 => ?_
  have hi1 : aInv nb (kUp g 0 0) lo bo pa ps (vl, vr, rs, ya, sc) := hi
  refine w_all W1 ?_
  refine ok_if (fun e => ?_) (fun e => ?_)
  · exact x_ref (if_pos ((i_eq (b := 0) (by omega) (by decide)).mp e)) (by decide) h1 h2 W1 hi1 h7 hl hb S1
  · refine w_rc W1 ?_
    refine ok_cV (m_keep hX (by omega) W1 hi.sw hi.2.2.2.1) fun m2 h => ?_
    obtain ⟨W2, S2⟩ := h
    have hi2 := hi1.keep
    have e0 : ¬ vl.length + vr.length = 0 := fun z => e ((i_eq (b := 0) (by omega) (by decide)).mpr z)
    have fin : ∀ (m : kM) (s : Nat) (fs : List Value) (z : Int32), z = (if vl = [] then 0 else 1) → m = m2 → kLook xm m2 M0 = some (.inl (15, fs)) → fs[5]? = some (.ref s) → dOk (m_M_turn_51 xm N M0 s (sc 10) z m) (eR xm M0 (spTurn (nb, jo, lo, bo, pa, ps, (vl, vr, rs, ya, sc))) k C S 31 300 F) := by
      intro m s fs z hz hm h0 hs
      subst hm
      obtain ⟨L, B, P, Q, ⟨s', ⟨la, lq, lm, lc, le⟩, ⟨ra, rq, rm, rc, re⟩, ⟨ua, uq, um, uc, ue⟩, y⟩, cs, H, R, hck⟩ := W2
      have h3 := H.look (xm := xm) 0 0 rfl rfl
      rw [h3] at h0
      cases h0
      cases hs
      unfold m_M_turn_51
      refine os_p H 5 0 rfl rfl rfl rfl fun m3 H3 S3 => ?_
      refine ok_gR (H3.look 0 0 rfl rfl) rfl ?_
      refine ok_gR (H3.look 5 0 rfl rfl) rfl ?_
      refine ok_gR (H3.look 0 0 rfl rfl) rfl ?_
      refine ok_gR (H3.look 0 0 rfl rfl) rfl ?_
      refine ok_gR (H3.look 5 0 rfl rfl) rfl ?_
      refine os_p H3 5 0 rfl rfl rfl rfl fun m4 H4 S4 => ?_
      refine ok_gR (H4.look 0 0 rfl rfl) rfl ?_
      refine os_p H4 5 0 rfl rfl rfl rfl fun m5 H5 S5 => ?_
      refine ok_gR (H5.look 0 0 rfl rfl) rfl ?_
      refine ok_gR (H5.look 0 0 rfl rfl) rfl ?_
      refine ok_gI (H5.look 5 0 rfl rfl) rfl ?_
      refine os_p H5 5 0 rfl rfl rfl rfl fun m6 H6 S6 => ?_
      refine ok_gR (H6.look 0 0 rfl rfl) rfl ?_
      refine ok_gI (H6.look 5 0 rfl rfl) rfl ?_
      refine os_p H6 5 0 rfl rfl rfl rfl fun m7 H7 S7 => ?_
      refine ok_gR (H7.look 0 0 rfl rfl) rfl ?_
      refine ok_gR (H7.look 5 0 rfl rfl) rfl ?_
      refine ok_rc (ls_hd H7 7 rfl) ?_
      refine ok_eI (ls_size (a := ra) (q := rq) (mc := rm) (cap := rc) (es := re) H7 7 rfl) ?_
      have ST := S3.trans (S4.trans (S5.trans (S6.trans S7)))
      obtain ⟨w, cc, r3, r4, r5, r6, ⟨t1, t2, t3, ⟨t4, t5, t6⟩, t7, t8, t9⟩, r8⟩ := R.st ST
      have H8 := H7.swap67
      have W8 : WR xm M0 (kUp g 0 0) sum lo bo pa _ (vr, vl, rs, ya, kUp (kUp (kUp sc 10 (sc 10 + z)) 4 (1 - sc 4)) 5 (sc 5 + 1)) ck F m7 := ⟨L, B, P, Q, (s', (ra, rq, rm, rc, re), (la, lq, lm, lc, le), (ua, uq, um, uc, ue), y), cs, H8, ⟨w, cc, r3, r4, r5, r6, ⟨t2, t1, t3, ⟨t5, t4, t6⟩, t8, t7, t9⟩, r8⟩, hck⟩
      have n8 := t8.1
      dsimp only at n8
      exact x_ok h1 h2 W8 (by rw [hz, n8]; exact if_neg e0) (hi2.move (fun v hv => Or.inr hv) (fun v hv => Or.inl hv) (by omega) rfl rfl) rfl h7 (by omega) (by omega) (Nat.le_refl _) ((S1.trans (S2.trans ST)).mono (by omega) (by omega))
    refine w_s W2 fun s fs la ra ua y h0 hs hst => ?_
    refine ok_gI hst rfl ?_
    refine w_leftEmpty W2 ?_
    by_cases he : vl = []
    · rw [if_pos he, if_neg (by decide)]
      exact fin _ s fs 0 (by rw [if_pos he]) rfl h0 hs
    · rw [if_neg he, if_pos rfl]
      exact fin _ s fs 1 (by rw [if_neg he]) rfl h0 hs
theorem zBind1_at {p : Nat} (hp : p < vr.length) (h : p = vr.length - (if vr.length = 1 then 1 else 2)) : zBind1 (lo, bo, (vl, vr, rs, ya, sc)) = (lo, bo ++ [vr[p]], (vl, vr.eraseIdx p, rs, ya, kUp sc 7 (sc 7 + 1))) := by
  show (lo, bo ++ [vr.getD (vr.length - (if vr.length = 1 then 1 else 2)) 0], (vl, vr.eraseIdx (vr.length - (if vr.length = 1 then 1 else 2)), rs, ya, kUp sc 7 (sc 7 + 1))) = _
  rw [← h, List.getD_eq_getElem?_getD, List.getElem?_eq_getElem hp]
  rfl
theorem bind_loopE {n : Nat} (hX : kXok xm) (hn : n ≤ 24) : ∀ (j i f : Nat) (mem : kM) (bo vr : List Int32) (sc : Nat → Int32) (ck : Nat), i + j = n → j < f → WR xm M0 g sum lo bo pa ps (vl, vr, rs, ya, sc) ck F mem → aInv nb g lo bo pa ps (vl, vr, rs, ya, sc) → j ≤ vr.length → bo.length + j ≤ 12400 →
    dOk (m_M_bind_112 xm N f M0 (Int32.ofNat n) (Int32.ofNat i) mem) (rI fun v m => v = Int32.ofNat (vl.length + vr.length - (j)) ∧ ∃ ck', WR xm M0 g sum (zIter zBind1 j (lo, bo, (vl, vr, rs, ya, sc))).1 (zIter zBind1 j (lo, bo, (vl, vr, rs, ya, sc))).2.1 pa ps (zIter zBind1 j (lo, bo, (vl, vr, rs, ya, sc))).2.2 ck' F m ∧ aInv nb g (zIter zBind1 j (lo, bo, (vl, vr, rs, ya, sc))).1 (zIter zBind1 j (lo, bo, (vl, vr, rs, ya, sc))).2.1 pa ps (zIter zBind1 j (lo, bo, (vl, vr, rs, ya, sc))).2.2 ∧ (zIter zBind1 j (lo, bo, (vl, vr, rs, ya, sc))).1 = lo ∧ (zIter zBind1 j (lo, bo, (vl, vr, rs, ya, sc))).2.1.length = bo.length + (j) ∧ ck ≤ ck' ∧ St xm mem m (j) (4 * (ck' - ck))) := by
  intro j
  induction j with
  | zero =>
    intro i f mem bo vr sc ck hi hf W h h24 hlo
    obtain ⟨f, rfl⟩ : ∃ f', f = f' + 1 := ⟨f - 1, by omega⟩
    rw [m_M_bind_112, if_neg (fun z => by have := (i_lt (by omega) (by omega)).mp z; omega)]
    refine w_all W ?_
    exact ok_I ⟨rfl, ck, W, h, rfl, rfl, Nat.le_refl _, St.refl.mono (by omega) (by omega)⟩
  | succ j ih =>
    intro i f mem bo vr sc ck hi hf W h hj hlo
    obtain ⟨f, rfl⟩ : ∃ f', f = f' + 1 := ⟨f - 1, by omega⟩
    have h24 := h.2.1.2.1
    dsimp only at h24
    rw [m_M_bind_112, if_pos ((i_lt (by omega) (by omega)).mpr (by omega))]
    refine w_rightSize W ?_
    refine w_rightSize W ?_
    have go : ∀ p, p < vr.length → p = vr.length - (if vr.length = 1 then 1 else 2) → ∀ s1 : Int32, Int32.ofNat vr.length - s1 = Int32.ofNat p → dOk (m_M_bind_147 xm N (fun a0 a1 a4 mem => m_M_bind_112 xm N f a0 a1 a4 mem) M0 (Int32.ofNat n) (Int32.ofNat i) (Int32.ofNat vr.length) s1 mem) (rI fun v m => v = Int32.ofNat (vl.length + vr.length - (j + 1)) ∧ ∃ ck', WR xm M0 g sum (zIter zBind1 (j + 1) (lo, bo, (vl, vr, rs, ya, sc))).1 (zIter zBind1 (j + 1) (lo, bo, (vl, vr, rs, ya, sc))).2.1 pa ps (zIter zBind1 (j + 1) (lo, bo, (vl, vr, rs, ya, sc))).2.2 ck' F m ∧ aInv nb g (zIter zBind1 (j + 1) (lo, bo, (vl, vr, rs, ya, sc))).1 (zIter zBind1 (j + 1) (lo, bo, (vl, vr, rs, ya, sc))).2.1 pa ps (zIter zBind1 (j + 1) (lo, bo, (vl, vr, rs, ya, sc))).2.2 ∧ (zIter zBind1 (j + 1) (lo, bo, (vl, vr, rs, ya, sc))).1 = lo ∧ (zIter zBind1 (j + 1) (lo, bo, (vl, vr, rs, ya, sc))).2.1.length = bo.length + (j + 1) ∧ ck ≤ ck' ∧ St xm mem m (j + 1) (4 * (ck' - ck))) := by
      intro p hp hpe s1 hs
      refine w_bindOne hX W (by omega) (by omega) hs hp fun m ck1 W1 hck S1 => ?_
      rw [i_add1]
      have el : (vr.eraseIdx p).length = vr.length - 1 := by rw [List.length_eraseIdx, if_pos hp]
      have ez := zBind1_at (lo := lo) (bo := bo) (vl := vl) (rs := rs) (ya := ya) (sc := sc) hp hpe
      show dOk _ (rI fun v m => v = Int32.ofNat (vl.length + vr.length - (j + 1)) ∧ ∃ ck', WR xm M0 g sum (zIter zBind1 j (zBind1 (lo, bo, (vl, vr, rs, ya, sc)))).1 (zIter zBind1 j (zBind1 (lo, bo, (vl, vr, rs, ya, sc)))).2.1 pa ps (zIter zBind1 j (zBind1 (lo, bo, (vl, vr, rs, ya, sc)))).2.2 ck' F m ∧ aInv nb g (zIter zBind1 j (zBind1 (lo, bo, (vl, vr, rs, ya, sc)))).1 (zIter zBind1 j (zBind1 (lo, bo, (vl, vr, rs, ya, sc)))).2.1 pa ps (zIter zBind1 j (zBind1 (lo, bo, (vl, vr, rs, ya, sc)))).2.2 ∧ (zIter zBind1 j (zBind1 (lo, bo, (vl, vr, rs, ya, sc)))).1 = lo ∧ (zIter zBind1 j (zBind1 (lo, bo, (vl, vr, rs, ya, sc)))).2.1.length = bo.length + (j + 1) ∧ ck ≤ ck' ∧ St xm mem m (j + 1) (4 * (ck' - ck)))
      rw [ez]
      refine ok_mono (ih (i + 1) f m _ _ _ ck1 (by omega) (by omega) W1 h.bind (by omega) (by simp; omega)) ?_
      rintro r ⟨v, a1, a0, ck', a2, a3, a4, a5, a6, S2⟩
      refine ⟨v, a1, ?_, ck', a2, a3, a4, ?_, by omega, (S1.trans S2).mono (by omega) (by omega)⟩
      · rw [a0, el]
        congr 1
        omega
      · rw [a5]
        simp
        omega
    refine ok_if (fun e => ?_) (fun e => ?_)
    · have e := (i_eq (b := 1) (by omega) (by decide)).mp e
      exact go (vr.length - 1) (by omega) (by rw [if_pos e]) 1 (i_sub1 (by omega))
    · have e : vr.length ≠ 1 := fun z => e ((i_eq (b := 1) (by omega) (by decide)).mpr z)
      exact go (vr.length - 2) (by omega) (by rw [if_neg e]) 2 (i_sub (b := 2) (by omega))
theorem x_bind (hX : kXok xm) (hN : 60 ≤ N) (hk : k < 512) (I : RJ xm M0 t (nb, jo, lo, bo, pa, ps, (vl, vr, rs, ya, sc)) k C S F mem) (x : Int32) : dOk (m_M_bind xm N M0 x mem) (eR xm M0 (spBind x (nb, jo, lo, bo, pa, ps, (vl, vr, rs, ya, sc))) k C S 55 300 F) := by
  obtain ⟨g, sum, ck, W, hi, ⟨-, h7⟩, hl, hb, h1, h2⟩ := I
  dsimp only at W hi h7 hl hb
  have h24 := hi.2.1.2.1
  dsimp only at h24
  unfold m_M_bind
  refine m_start W fun m1 W1 S1 => ?_
  have hi1 : aInv nb (kUp g 0 0) lo bo pa ps (vl, vr, rs, ya, sc) := hi
  refine ok_eI m_is ?_
  have ey : aYarn (kUp g 0 0) ya = aYn jo ya := by rw [← h7]; rfl
  refine ok_if (fun e => ?_) (fun e => ?_)
  · exact x_ref (if_pos (is_z.mp e)) (by decide) h1 h2 W1 hi1 h7 hl hb S1
  · have g1 : ¬ (x < 1 ∨ 24 < x) := fun z => e (is_z.mpr z)
    obtain ⟨n, rfl, p1, p2⟩ := is_nat (a := 1) (b := 24) (by decide) (by decide) e
    have en : (Int32.ofNat n).toNatClampNeg = n := i_nat (by omega)
    have f78 : spBind (Int32.ofNat n) (nb, jo, lo, bo, pa, ps, (vl, vr, rs, ya, sc)) = (2, 0, (nb, jo, lo, bo, pa, ps, (vl, vr, rs, ya, sc))) → dOk (m_M_bind_78 xm N M0 m1) (eR xm M0 (spBind (Int32.ofNat n) (nb, jo, lo, bo, pa, ps, (vl, vr, rs, ya, sc))) k C S 55 300 F) := by
      intro hsp
      unfold m_M_bind_78
      exact x_ref hsp (by decide) h1 h2 W1 hi1 h7 hl hb S1
    have f84 : ∀ a3 : Int32, n ≤ vr.length → (a3 = 0 ∧ spBind (Int32.ofNat n) (nb, jo, lo, bo, pa, ps, (vl, vr, rs, ya, sc)) = (0, Int32.ofNat (vl.length + vr.length - n), wC nb jo pa (pKeep ps (vl, vr, rs, ya, sc)) (zIter zBind1 n (lo, bo, (vl, vr, rs, ya, sc)))) ∨ a3 ≠ 0 ∧ (∃ b : Nat, jo = Int32.ofNat b ∧ b < 4) ∧ spBind (Int32.ofNat n) (nb, jo, lo, bo, pa, ps, (vl, vr, rs, ya, sc)) = (0, Int32.ofNat (vl.length + vr.length - n), wC nb jo pa (pKeep ps (vl, vr, rs, ya, sc)) (zIter zBind1 n (lo, bo, (vl, vr, rs, ya.set jo.toNatClampNeg (ya.getD jo.toNatClampNeg 0 - 6), sc))))) → dOk (m_M_bind_84 xm N M0 (Int32.ofNat n) a3 m1) (eR xm M0 (spBind (Int32.ofNat n) (nb, jo, lo, bo, pa, ps, (vl, vr, rs, ya, sc))) k C S 55 300 F) := by
      intro a3 hn hj
      unfold m_M_bind_84
      refine w_rc W1 ?_
      refine ok_cV (m_keep hX (by omega) W1 hi.sw hi.2.2.2.1) fun m2 h => ?_
      obtain ⟨W2, S2⟩ := h
      have hi2 := hi1.keep
      have lp : ∀ m3 ya', WR xm M0 (kUp g 0 0) sum lo bo pa (pKeep ps (vl, vr, rs, ya, sc)) (vl, vr, rs, ya', sc) ck F m3 → aInv nb (kUp g 0 0) lo bo pa (pKeep ps (vl, vr, rs, ya, sc)) (vl, vr, rs, ya', sc) → St xm m2 m3 0 0 → spBind (Int32.ofNat n) (nb, jo, lo, bo, pa, ps, (vl, vr, rs, ya, sc)) = (0, Int32.ofNat (vl.length + vr.length - n), wC nb jo pa (pKeep ps (vl, vr, rs, ya, sc)) (zIter zBind1 n (lo, bo, (vl, vr, rs, ya', sc)))) → dOk (m_M_bind_109 xm N M0 (Int32.ofNat n) m3) (eR xm M0 (spBind (Int32.ofNat n) (nb, jo, lo, bo, pa, ps, (vl, vr, rs, ya, sc))) k C S 55 300 F) := by
        intro m3 ya' W3 hi3 S3 hsp
        unfold m_M_bind_109
        refine ok_mono (bind_loopE (N := N) hX p2 n 0 N m3 bo vr sc ck (by omega) (by omega) W3 hi3 hn (by omega)) ?_
        rintro r ⟨v, a1, a0, ck', a2, a3, a4, a5, a6, S4⟩
        rw [hsp]
        exact ⟨v, a1, fun _ => a0, RJ.mk' h1 h2 a2 a3 ⟨rfl, h7⟩ (by rw [a4]; omega) (by rw [a5]; omega) a6 ((S1.trans (S2.trans (S3.trans S4))).mono (by omega) (by omega))⟩
      refine ok_if (fun e => ?_) (fun e => ?_)
      · rcases hj with ⟨-, hsp⟩ | ⟨z, -⟩
        · exact lp m2 ya W2 hi2 St.refl hsp
        · exact absurd e z
      · rcases hj with ⟨z, -⟩ | ⟨-, ⟨b, hb7, hb4⟩, hsp⟩
        · exact absurd z e
        · have e7 : kUp g 0 0 7 = jo := h7
          rw [zMake_b hb7 (by omega)] at hsp
          exact w_yarnPut (x := fun z => z - 6) W2 hi.sw.2.2.2.2 (e7.trans hb7) hb4 fun m3 W3 S3 => lp m3 _ W3 hi2.yarn S3 hsp
    have f65 : ∀ a3 : Int32, n ≤ vr.length → (a3 = 0 ∧ ¬ (n = vr.length ∧ vl = []) ∧ n < vr.length ∨ a3 ≠ 0 ∧ n = vr.length ∧ vl = []) → dOk (m_M_bind_65 xm N M0 (Int32.ofNat n) a3 m1) (eR xm M0 (spBind (Int32.ofNat n) (nb, jo, lo, bo, pa, ps, (vl, vr, rs, ya, sc))) k C S 55 300 F) := by
      intro a3 hn hj
      unfold m_M_bind_65
      refine ok_if (fun e => ?_) (fun e => ?_)
      · rcases hj with ⟨-, q1, q2⟩ | ⟨z, -⟩
        · refine f84 a3 hn (Or.inl ⟨e, ?_⟩)
          refine (if_neg g1).trans ((if_neg (by rw [en]; exact q1)).trans ((if_neg (by rw [en]; omega)).trans ?_))
          rw [en]
        · exact absurd e z
      · rcases hj with ⟨z, -⟩ | ⟨-, q⟩
        · exact absurd z e
        · refine w_rc W1 ?_
          refine ok_eI (m_yarn W1 hi.sw.2.2.2.2 hi1.jn) ?_
          refine ok_if (fun e2 => ?_) (fun e2 => ?_)
          · exact f78 ((if_neg g1).trans ((if_pos (by rw [en]; exact q)).trans (if_pos (by rw [← ey]; exact e2))))
          · refine f84 a3 hn (Or.inr ⟨e, ?_, ?_⟩)
            · obtain ⟨b, hb7, hb4⟩ := hi1.some (k := 6) (by decide) e2
              have e7 : kUp g 0 0 7 = jo := h7
              exact ⟨b, e7.symm.trans hb7, hb4⟩
            · refine (if_neg g1).trans ((if_pos (by rw [en]; exact q)).trans ((if_neg (by rw [← ey]; exact e2)).trans ?_))
              rw [en]
    have f54 : ¬ (n = vr.length ∧ vl = []) → dOk (m_M_bind_54 xm N M0 (Int32.ofNat n) (Int32.ofNat vr.length) m1) (eR xm M0 (spBind (Int32.ofNat n) (nb, jo, lo, bo, pa, ps, (vl, vr, rs, ya, sc))) k C S 55 300 F) := by
      intro q
      unfold m_M_bind_54 m_M_bind_55
      refine ok_if (fun e => ?_) (fun e => ?_)
      · have e := (i_lt (by omega) (by omega)).mp e
        exact f65 0 (by omega) (Or.inl ⟨rfl, q, e⟩)
      · have e : ¬ n < vr.length := fun z => e ((i_lt (by omega) (by omega)).mpr z)
        rw [if_pos rfl]
        exact f78 ((if_neg g1).trans ((if_neg (by rw [en]; exact q)).trans (if_pos (by rw [en]; omega))))
    refine w_rightSize W1 ?_
    refine ok_if (fun e => ?_) (fun e => f54 (fun z => e (by rw [z.1])))
    have e := (i_eq (by omega) (by omega)).mp e
    refine w_leftEmpty W1 ?_
    by_cases he : vl = []
    · rw [if_pos he, if_neg (by decide)]
      unfold m_M_bind_55
      refine ok_if (fun z => ?_) (fun _ => ?_)
      · have := (i_lt (by omega) (by omega)).mp z
        omega
      · rw [if_neg (by decide)]
        exact f65 1 (by omega) (Or.inr ⟨by decide, e, he⟩)
    · rw [if_neg he, if_pos rfl]
      exact f54 (fun z => he z.2)
theorem x_drop (hX : kXok xm) (hN : 20 ≤ N) (hk : k < 512) (I : RJ xm M0 t (nb, jo, lo, bo, pa, ps, (vl, vr, rs, ya, sc)) k C S F mem) : dOk (m_M_drop xm N M0 mem) (eR xm M0 (spDrop (nb, jo, lo, bo, pa, ps, (vl, vr, rs, ya, sc))) k C S 33 330 F) := by
  obtain ⟨g, sum, ck, W, hi, ⟨-, h7⟩, hl, hb, h1, h2⟩ := I
  dsimp only at W hi h7 hl hb
  have h24 := hi.2.1.2.1
  dsimp only at h24
  have hr9 := hi.sw.2.2.1
  dsimp only at hr9
  unfold m_M_drop
  refine m_start W fun m1 W1 S1 => ?_
  have hi1 : aInv nb (kUp g 0 0) lo bo pa ps (vl, vr, rs, ya, sc) := hi
  refine w_leftEmpty W1 ?_
  by_cases he : vl = []
  · rw [if_pos he, if_neg (show ¬ ((1 : Int32) = 0) by decide)]
    unfold m_M_drop_33
    exact x_ref (if_pos (Or.inl he)) (by decide) h1 h2 W1 hi1 h7 hl hb S1
  · rw [if_neg he, if_pos rfl]
    refine w_runsSize W1 ?_
    refine ok_if (fun e => ?_) (fun e => ?_)
    · unfold m_M_drop_33
      exact x_ref (if_pos (Or.inr ((i_eq (b := 9) (by omega) (by decide)).mp e))) (by decide) h1 h2 W1 hi1 h7 hl hb S1
    · have e : rs.length ≠ 9 := fun z => e ((i_eq (b := 9) (by omega) (by decide)).mpr z)
      refine w_rc W1 ?_
      refine ok_cV (m_keep hX (by omega) W1 hi.sw hi.2.2.2.1) fun m2 h => ?_
      obtain ⟨W2, S2⟩ := h
      have hi2 := hi1.keep
      have hsp : spDrop (nb, jo, lo, bo, pa, ps, (vl, vr, rs, ya, sc)) = (0, Int32.ofNat rs.length, (nb, jo, lo, bo, pa, pKeep ps (vl, vr, rs, ya, sc), (vl.dropLast, vr, rs ++ [[vl.getLastD 0, zHeight lo (vl.getLastD 0), 0, 1]], ya, sc))) := if_neg (fun z => z.elim he e)
      obtain ⟨t, v, rfl⟩ := snoc_of he
      obtain ⟨i, rfl, hil⟩ := hi.2.1.2.2.1 v (List.mem_append_right _ (List.mem_singleton.mpr rfl))
      refine w_pullL W2 fun m3 W3 S3 => ?_
      obtain ⟨⟨La, Lq, Lm, Lc, Le⟩, B, P, Q, ⟨s, l, r, ⟨ua, uq, um, uc, ue⟩, y⟩, cs, H, R, hck, hL, hB, hP, hQ⟩ := W3
      obtain ⟨⟨w1, w2, w3, w4⟩, cc, r3, r4, r5, r6, ⟨t1, t2, t3, ⟨t4, t5, t6⟩, t7, t8, t9⟩, r8⟩ := R
      dsimp only at hL t3 t6 t9 r3
      subst hL
      have n3 := r3.1
      refine os_nI (n := 4) xm H (by decide) fun m4 p4 H4 S4 => ?_
      refine os_iS H4 0 0 rfl rfl (by decide) fun m5 H5 S5 => ?_
      refine ok_gR (H5.look 1 0 rfl rfl) rfl ?_
      refine ok_rc (ls_hd H5 2 rfl) ?_
      refine ok_eR (ls_get (a := M0 + 1) (q := Lq) (mc := Lm) (cap := Lc) (es := Le) (j := i) hX w1 H5 2 rfl (by omega)) ?_
      have hlo := ((r3.at (i := i) (by omega) hil).st S4).st S5
      refine ok_ccO hlo ?_
      refine ok_gI hlo rfl ?_
      refine os_iS H5 0 0 rfl rfl (by simp; decide) fun m6 H6 S6 => ?_
      refine os_iS H6 0 0 rfl rfl (by simp; decide) fun m7 H7 S7 => ?_
      refine os_iS H7 0 0 rfl rfl (by simp; decide) fun m8 H8 S8 => ?_
      refine ok_gR (H8.look 1 0 rfl rfl) rfl ?_
      refine ok_gR (H8.look 6 0 rfl rfl) rfl ?_
      refine ok_rc (ls_hd H8 9 rfl) ?_
      have hp1 : kLook xm m8 p4 = some (kAr [Int32.ofNat i, lo[i].2.2.2.1, 0, 1]) := H8.look 0 0 rfl rfl
      have hp2 : 1000 ≤ p4 := H8.ge (e := kAr [Int32.ofNat i, lo[i].2.2.2.1, 0, 1]) 0 0 rfl rfl
      have hokp : kStOk xm m8 2 (some p4) = true := by
        unfold kStOk
        simp only [hp1]
        simp [kAr, hp2]
      refine ok_cI (ls_add (a := ua) (q := uq) (mc := um) (cap := uc) (es := ue) hX t3 (by omega) H8 9 rfl (sRu_ok H8 (i := 10) rfl t9) hokp) fun v m9 h => ?_
      obtain ⟨-, q', H9, t3', S9⟩ := h
      have H10 := H9.into 9 rfl
      have ST := S4.trans (S5.trans (S6.trans (S7.trans (S8.trans S9))))
      have kr := kAc_runs (cap := uc) (n := ue.length) (by omega) t6
      have H11 : HpS (wSg M0 (M0 + 1, Lq, Lm, Lc, Le) B P Q (s, l, r, (ua, q', um + 1, kAc uc ue.length, ue ++ [p4]), y) cs (kUp g 0 0) sum ((if ps.length = 12 then ps.drop 1 else ps) ++ [(t ++ [Int32.ofNat i], vr, rs, ya, sc)]) (t, vr, rs ++ [[Int32.ofNat i, lo[i].2.2.2.1, 0, 1]], ya, sc) F) m9 := by
        have e5 := sRu_snoc (e := p4) (r := [Int32.ofNat i, lo[i].2.2.2.1, 0, 1]) t9
        unfold wSg
        dsimp only
        rw [e5]
        exact H10
      have W4 : WR xm M0 (kUp g 0 0) sum lo bo pa ((if ps.length = 12 then ps.drop 1 else ps) ++ [(t ++ [Int32.ofNat i], vr, rs, ya, sc)]) (t, vr, rs ++ [[Int32.ofNat i, lo[i].2.2.2.1, 0, 1]], ya, sc) ck F m9 := ⟨(M0 + 1, Lq, Lm, Lc, Le), B, P, Q, (s, l, r, (ua, q', um + 1, kAc uc ue.length, ue ++ [p4]), y), cs, H11, ⟨⟨w1, w2, w3, w4⟩, cc, r3.st ST, r4.st ST, r5.st ST, r6, ⟨t1, t2, t3', ⟨t4, t5, kr.1⟩, t7.st ST, t8.st ST, by simp [t9]⟩, fun i c z q1 q2 => (r8 i c z q1 q2).st ST⟩, hck, rfl, hB, hP, hQ⟩
      refine w_runsSize W4 ?_
      have ez : zHeight lo (Int32.ofNat i) = lo[i].2.2.2.1 := by
        unfold zHeight
        rw [i_nat (by omega), List.getD_eq_getElem?_getD, List.getElem?_eq_getElem hil]
        rfl
      rw [List.getLastD_concat, List.dropLast_concat, ez] at hsp
      have ev : Int32.ofNat (rs ++ [[Int32.ofNat i, lo[i].2.2.2.1, 0, 1]]).length - 1 = Int32.ofNat rs.length := by
        rw [List.length_append, List.length_singleton, i_sub1 (by omega), Nat.add_sub_cancel]
      rw [ev]
      refine x_ok h1 h2 W4 hsp ?_ rfl h7 (by omega) (by omega) (Nat.le_refl _) ((S1.trans (S2.trans (S3.trans ST))).mono (by omega) (by have := kr.2; omega))
      obtain ⟨a1, ⟨⟨b1, b2, b3, b4, b5⟩, b6, b7, b8, b9, b10, b11⟩, a3⟩ := hi2
      dsimp only at b1 b2 b3 b6
      rw [List.length_append, List.length_singleton] at b1 b6
      refine ⟨a1, ⟨⟨by dsimp only; omega, b2, by simp; omega, ?_, b5⟩, by dsimp only; omega, fun w hw => b7 w (List.mem_append_left _ hw), b8, ?_, b10, b11⟩, a3⟩
      · intro z hz
        rcases List.mem_append.mp hz with h | h
        · exact b4 z h
        · rw [List.mem_singleton.mp h]; rfl
      · intro z hz
        rcases List.mem_append.mp hz with h | h
        · exact b9 z h
        · rw [List.mem_singleton.mp h]
          exact ⟨i, rfl, hil⟩
theorem x_latch (hX : kXok xm) (hN : 20 ≤ N) (I : RJ xm M0 t (nb, jo, lo, bo, pa, ps, (vl, vr, rs, ya, sc)) k C S F mem) (x : Int32) : dOk (m_M_latch xm N M0 x mem) (eR xm M0 (spLatch x (nb, jo, lo, bo, pa, ps, (vl, vr, rs, ya, sc))) k C S 33 350 F) := by
  obtain ⟨g, sum, ck, W, hi, ⟨-, h7⟩, hl, hb, h1, h2⟩ := I
  dsimp only at W hi h7 hl hb
  have h24 := hi.2.1.2.1
  dsimp only at h24
  have hr9 := hi.sw.2.2.1
  dsimp only at hr9
  have hr4 := hi.sw.2.2.2.1
  dsimp only at hr4
  unfold m_M_latch
  refine m_start W fun m1 W1 S1 => ?_
  have hi1 : aInv nb (kUp g 0 0) lo bo pa ps (vl, vr, rs, ya, sc) := hi
  refine w_rc W1 ?_
  refine ok_eI (m_isRun W1 x) ?_
  refine ok_if (fun e => ?_) (fun e => ?_)
  · exact x_ref (if_pos ((is_n (by omega)).mp (is_z.mp e))) (by decide) h1 h2 W1 hi1 h7 hl hb S1
  · have g1 : ¬ (x < 0 ∨ ¬ x < Int32.ofNat rs.length) := fun z => e (is_z.mpr ((is_n (by omega)).mpr z))
    obtain ⟨i, rfl, hil⟩ := in_nat (by omega) e
    have en : (Int32.ofNat i).toNatClampNeg = i := i_nat (by omega)
    have eg : rs.getD (Int32.ofNat i).toNatClampNeg [] = rs[i] := by
      rw [en, List.getD_eq_getElem?_getD, List.getElem?_eq_getElem hil]
      rfl
    have hz : rs[i].length = 4 := hr4 _ (List.getElem_mem hil)
    refine w_run hX W1 hil fun e he => ?_
    refine ok_iL he (by rw [hz]; decide) ?_
    have f50 : (rs[i].getD 3 0 = 0 ∨ vl.length + vr.length = 24) → dOk (m_M_latch_50 xm N M0 m1) (eR xm M0 (spLatch (Int32.ofNat i) (nb, jo, lo, bo, pa, ps, (vl, vr, rs, ya, sc))) k C S 33 350 F) := by
      intro q
      unfold m_M_latch_50
      exact x_ref ((if_neg g1).trans (if_pos (by rw [eg]; exact q))) (by decide) h1 h2 W1 hi1 h7 hl hb S1
    refine ok_if (fun e3 => f50 (Or.inl e3)) (fun e3 => ?_)
    refine w_all W1 ?_
    refine ok_if (fun e2 => f50 (Or.inr ((i_eq (b := 24) (by omega) (by decide)).mp e2))) (fun e2 => ?_)
    have e2 : vl.length + vr.length ≠ 24 := fun z => e2 ((i_eq (b := 24) (by omega) (by decide)).mpr z)
    have hsp : spLatch (Int32.ofNat i) (nb, jo, lo, bo, pa, ps, (vl, vr, rs, ya, sc)) = (0, rs[i].getD 2 0, (nb, jo, lo, bo, pa, pKeep ps (vl, vr, rs, ya, sc), (vl ++ [rs[i].getD 0 0], vr, rs.set i (rs[i].set 3 0), ya, sc))) := by
      refine (if_neg g1).trans ((if_neg (fun z => z.elim (fun z => e3 (by rw [eg] at z; exact z)) e2)).trans ?_)
      rw [eg, en]
    refine w_rc W1 ?_
    refine ok_cV (m_keep hX (by omega) W1 hi.sw hi.2.2.2.1) fun m2 h => ?_
    obtain ⟨W2, S2⟩ := h
    have hi2 := hi1.keep
    obtain ⟨L, B, P, Q, ⟨s, ⟨la, lq, lm, lc, le⟩, r, ⟨ua, uq, um, uc, ue⟩, y⟩, cs, H, R, hck⟩ := W2
    obtain ⟨w, cc, r3, r4, r5, r6, ⟨t1, t2, t3, ⟨t4, t5, t6⟩, t7, t8, t9⟩, r8⟩ := R
    dsimp only at t9 t3 t1 t4 t7
    have n7 := t7.1
    refine ok_gR (H.look 0 0 rfl rfl) rfl ?_
    refine ok_gR (H.look 5 0 rfl rfl) rfl ?_
    refine ok_rc (ls_hd H 8 rfl) ?_
    have hu : i < ue.length := by omega
    refine ok_eR (ls_get (a := ua) (q := uq) (mc := um) (cap := uc) (es := ue) (j := i) hX t3 H 8 rfl hu) ?_
    have hat : (sRu ue rs)[i]? = some (ue[i], kAr rs[i]) := sRu_at (List.getElem?_eq_getElem hu) (List.getElem?_eq_getElem hil)
    refine ok_ccA (H.look 9 i rfl hat) (H.ge 9 i rfl hat) ?_
    refine os_iS H 9 i rfl hat (by rw [hz]; decide) fun m3 H3 S3 => ?_
    have e5 := sRu_set (z := rs[i].set (3 : Int32).toNatClampNeg 0) (List.getElem?_eq_getElem hu) t9
    have d3 : ((3 : Int32).toNatClampNeg) = 3 := by decide
    rw [d3] at e5
    have H3 : HpS (wSg M0 L B P Q (s, (la, lq, lm, lc, le), r, (ua, uq, um, uc, ue), y) cs (kUp g 0 0) sum ((if ps.length = 12 then ps.drop 1 else ps) ++ [(vl, vr, rs, ya, sc)]) (vl, vr, rs.set i (rs[i].set 3 0), ya, sc) F) m3 := by
      unfold wSg
      dsimp only
      rw [← e5]
      exact H3
    have hat3 : (sRu ue (rs.set i (rs[i].set 3 0)))[i]? = some (ue[i], kAr (rs[i].set 3 0)) := sRu_at (List.getElem?_eq_getElem hu) (List.getElem?_set_self hil)
    refine ok_gR (H3.look 0 0 rfl rfl) rfl ?_
    refine ok_gR (H3.look 5 0 rfl rfl) rfl ?_
    refine ok_iL (H3.look 9 i rfl hat3) (by rw [List.length_set, hz]; decide) ?_
    refine ok_cR (int_valueOf hX H3 _) fun e m4 h => ?_
    obtain ⟨hiv, H4, S4⟩ := h
    have H4 : HpS _ m4 := H4
    have S34 := S3.trans S4
    refine ok_rc (ls_hd H4 6 rfl) ?_
    refine ok_cI (ls_add (a := la) (q := lq) (mc := lm) (cap := lc) (es := le) hX t1 (by omega) H4 6 rfl (t7.st S34).ok hiv.ok) fun v m5 h => ?_
    obtain ⟨-, q', H5, t1', S5⟩ := h
    have ks := kAc_small (n := le.length) (cap := lc) (by omega) t4
    have ST := S34.trans S5
    refine ok_iL (H5.look 9 i rfl hat3) (by rw [List.length_set, hz]; decide) ?_
    have d0 : ((0 : Int32).toNatClampNeg) = 0 := by decide
    have ev : (rs[i].set 3 0).getD (0 : Int32).toNatClampNeg 0 = rs[i].getD 0 0 := by
      rw [d0]
      match rs[i], hz with
      | [a, b, c, d], _ => rfl
    rw [ev] at hiv
    have W5 : WR xm M0 (kUp g 0 0) sum lo bo pa ((if ps.length = 12 then ps.drop 1 else ps) ++ [(vl, vr, rs, ya, sc)]) (vl ++ [rs[i].getD 0 0], vr, rs.set i (rs[i].set 3 0), ya, sc) ck F m5 := ⟨L, B, P, Q, (s, (la, q', lm + 1, kAc lc le.length, le ++ [e]), r, (ua, uq, um, uc, ue), y), cs, H5, ⟨w, cc, r3.st ST, r4.st ST, r5.st ST, r6, ⟨t1', t2, t3, ⟨ks.1, t5, t6⟩, (t7.st ST).app (IVs.one (hiv.st S5)), t8.st ST, by simp [t9]⟩, fun i c z q1 q2 => (r8 i c z q1 q2).st ST⟩, hck⟩
    have ev2 : (rs[i].set 3 0).getD (2 : Int32).toNatClampNeg 0 = rs[i].getD 2 0 := by
      have d2 : ((2 : Int32).toNatClampNeg) = 2 := by decide
      rw [d2]
      match rs[i], hz with
      | [a, b, c, d], _ => rfl
    rw [ev2]
    refine x_ok h1 h2 W5 hsp ?_ rfl h7 (by omega) (by omega) (Nat.le_refl _) ((S1.trans (S2.trans ST)).mono (by omega) (by have := ks.2; omega))
    obtain ⟨a1, ⟨⟨b1, b2, b3, b4, b5⟩, b6, b7, b8, b9, b10, b11⟩, a3⟩ := hi2
    dsimp only at b1 b2 b3 b6
    refine ⟨a1, ⟨⟨by simp; omega, b2, by simp; omega, ?_, b5⟩, by simp; omega, ?_, b8, ?_, b10, b11⟩, a3⟩
    · intro z hz'
      obtain ⟨t, ht⟩ := List.mem_iff_getElem?.mp hz'
      rw [List.getElem?_set] at ht
      split at ht
      · cases ht; rw [List.length_set]; exact hz
      · exact b4 z (List.mem_of_getElem? ht)
    · intro z hz'
      rcases List.mem_append.mp hz' with h | h
      · exact b7 z h
      · rw [List.mem_singleton.mp h]
        exact b9 _ (List.getElem_mem hil)
    · intro z hz'
      obtain ⟨t, ht⟩ := List.mem_iff_getElem?.mp hz'
      rw [List.getElem?_set] at ht
      split at ht
      · cases ht
        have e6 : (rs[i].set 3 0).getD 0 0 = rs[i].getD 0 0 := by
          match rs[i], hz with
          | [a, b, c, d], _ => rfl
        rw [e6]
        exact b9 _ (List.getElem_mem hil)
      · exact b9 z (List.mem_of_getElem? ht)
theorem pZ_more : ∀ (f n : Nat), n < 10 ^ f → pZ (f + 1) n = pZ f n := by
  intro f
  induction f with
  | zero =>
    intro n hn
    have e : n = 0 := by simpa using hn
    subst e
    rfl
  | succ f ih =>
    intro n hn
    have h := ih (n / 10) (by rw [Nat.pow_succ] at hn; omega)
    show (if 0 < n then (if n % 10 = 0 then true else pZ (f + 1) (n / 10)) else false) = (if 0 < n then (if n % 10 = 0 then true else pZ f (n / 10)) else false)
    rw [h]
theorem pZ_add (j : Nat) : ∀ (f n : Nat), n < 10 ^ f → pZ (f + j) n = pZ f n := by
  induction j with
  | zero => intro f n _; rfl
  | succ j ih =>
    intro f n hn
    have h1 : n < 10 ^ (f + j) := Nat.lt_of_lt_of_le hn (Nat.pow_le_pow_right (by decide) (by omega))
    rw [← Nat.add_assoc, pZ_more _ _ h1, ih f n hn]
theorem pat_loopE {n0 : Nat} (hX : kXok xm) (hx : 1 ≤ n0 ∧ n0 ≤ 999999999) (h1 : mem.length ≤ C) (h2 : kSl mem ≤ S + 4 * ck) {st : aS} (W : WR xm M0 g sum lo bo pa ps st ck F mem) (hi : aInv nb g lo bo pa ps st) (h0 : g 0 = 0) (h7 : g 7 = jo) (g1 : ¬ (Int32.ofNat n0 < 1 ∨ 999999999 < Int32.ofNat n0)) (hl : lo.length ≤ 24 * k) (hb : bo.length ≤ 24 * k) :
    ∀ (f i n : Nat), n = n0 / 10 ^ i → (∀ i', i' < i → n0 / 10 ^ i' % 10 ≠ 0) → n < 2 ^ 31 → n < 10 ^ f → pZ f n = pZ 9 n0 → dOk (m_M_pattern_23 xm N (f + 1) M0 (Int32.ofNat n0) (Int32.ofNat n) mem) (eR xm M0 (spPattern (Int32.ofNat n0) (nb, jo, lo, bo, pa, ps, st)) k C S 2 30 F) := by
  have fin : ∀ (f i : Nat), 0 = n0 / 10 ^ i → (∀ i', i' < i → n0 / 10 ^ i' % 10 ≠ 0) → pZ 9 n0 = false → dOk (m_M_pattern_23 xm N (f + 1) M0 (Int32.ofNat n0) (Int32.ofNat 0) mem) (eR xm M0 (spPattern (Int32.ofNat n0) (nb, jo, lo, bo, pa, ps, st)) k C S 2 30 F) := by
    intro f i hn' hd hz
    have en : (Int32.ofNat n0).toNatClampNeg = n0 := i_nat (by omega)
    have g2 : ¬ ((Int32.ofNat n0 < 1 ∨ 999999999 < Int32.ofNat n0) ∨ pZ 9 (Int32.ofNat n0).toNatClampNeg = true) := by
      rw [en, hz]
      exact fun z => z.elim g1 (fun z => nomatch z)
    have hx2 : aPat (Int32.ofNat n0) := by
      refine ⟨n0, rfl, hx.1, hx.2, fun j hj => hd j ?_⟩
      apply Classical.byContradiction
      intro hc
      have : n0 / 10 ^ j ≤ n0 / 10 ^ i := Nat.div_le_div_left (Nat.pow_le_pow_right (by decide) (by omega)) (Nat.pow_pos (by decide))
      omega
    clear en
    generalize Int32.ofNat n0 = x at hx2 g2 g1 ⊢
    rw [m_M_pattern_23, if_neg (by decide)]
    refine w_gP W ?_
    refine w_patSize W ?_
    have h6 := hi.2.2.2.2.1
    refine ok_if (fun e => ?_) (fun e => ?_)
    · exact x_ref ((if_neg g2).trans (if_pos ((i_eq (b := 6) (by omega) (by decide)).mp e))) (by decide) h1 h2 W hi h7 hl hb St.refl
    · have e : pa.length ≠ 6 := fun z => e ((i_eq (b := 6) (by omega) (by decide)).mpr z)
      have e6 := e
      refine w_gP W ?_
      obtain ⟨L, B, ⟨Pa, Pq, Pm, Pc, Pe⟩, Q, c, cs, H, R, hck, hL, hB, hP, hQ⟩ := W
      obtain ⟨⟨w1, w2, w3, w4⟩, ⟨c1, c2, c3, c4⟩, r3, r4, r5, r6⟩ := R
      dsimp only at hP r5
      dsimp only [kCapL] at c3
      subst hP
      have n5 := r5.1
      refine ok_cR (int_valueOf hX H x) fun e m2 h => ?_
      obtain ⟨hiv, H2, S2⟩ := h
      have H2 : HpS _ m2 := H2
      refine ok_rc (ls_hd H2 3 rfl) ?_
      refine ok_cI (ls_add (a := M0 + 3) (q := Pq) (mc := Pm) (cap := Pc) (es := Pe) hX w3 (by omega) H2 3 rfl (r5.st S2).ok hiv.ok) fun v m3 h => ?_
      obtain ⟨-, q', H3, w3', S3⟩ := h
      have kr := kAc_runs (cap := Pc) (n := Pe.length) (by omega) c3
      have ST := S2.trans S3
      obtain ⟨r6, r7, r8⟩ := r6
      have W3 : WR xm M0 g sum lo bo (pa ++ [x]) ps st ck F m3 := ⟨L, B, (M0 + 3, q', Pm + 1, kAc Pc Pe.length, Pe ++ [e]), Q, c, cs, H3, ⟨⟨w1, w2, w3', w4⟩, ⟨c1, c2, kr.1, c4⟩, r3.st ST, r4.st ST, (r5.st ST).app (IVs.one (hiv.st S3)), r6, r7.st ST, fun i c z q1 q2 => (r8 i c z q1 q2).st ST⟩, hck, hL, hB, rfl, hQ⟩
      refine w_gP W3 ?_
      refine w_patSize W3 ?_
      have ev : Int32.ofNat (pa ++ [x]).length - 1 = Int32.ofNat pa.length := by
        rw [List.length_append, List.length_singleton, i_sub1 (by omega), Nat.add_sub_cancel]
      rw [ev]
      refine x_ok h1 h2 W3 ((if_neg g2).trans (if_neg e6)) ?_ h0 h7 (by omega) (by omega) (Nat.le_refl _) (ST.mono (by omega) (by have := kr.2; omega))
      obtain ⟨a1, a2, a3, a4, a5, a6⟩ := hi
      refine ⟨a1, a2, a3, a4, by simp; omega, ?_⟩
      intro v hv
      rcases List.mem_append.mp hv with h | h
      · exact a6 v h
      · rw [List.mem_singleton.mp h]; exact hx2
  intro f
  induction f with
  | zero =>
    intro i n hn' hd hn hf hz
    have hn0 : n = 0 := by simpa using hf
    subst hn0
    exact fin 0 i hn' hd (by rw [← hz]; rfl)
  | succ f ih =>
    intro i n hn' hd hn hf hz
    by_cases hn0 : n = 0
    · subst hn0
      exact fin _ i hn' hd (by rw [← hz]; rfl)
    · rw [m_M_pattern_23, if_pos ((i_pos hn).mpr (by omega))]
      refine ok_nz (by decide) ?_
      refine ok_if (fun e => ?_) (fun e => ?_)
      · rw [i_mod10 hn] at e
        have e : n % 10 = 0 := (i_eq (b := 0) (by omega) (by decide)).mp e
        have hz1 : pZ 9 n0 = true := by
          rw [← hz]
          unfold pZ
          rw [if_pos (by omega), if_pos e]
        have en : (Int32.ofNat n0).toNatClampNeg = n0 := i_nat (by omega)
        exact x_ref (if_pos (Or.inr (by rw [en]; exact hz1))) (by decide) h1 h2 W hi h7 hl hb St.refl
      · refine ok_nz (by decide) ?_
        rw [i_mod10 hn] at e
        rw [i_div10 hn]
        refine ih (i + 1) (n / 10) (by rw [hn', Nat.pow_succ, Nat.div_div_eq_div_mul]) ?_ (by omega) (by rw [Nat.pow_succ] at hf; omega) (by
          rw [← hz]
          unfold pZ
          rw [if_pos (show 0 < n by omega), if_neg (fun z => e ((i_eq (b := 0) (by omega) (by decide)).mpr z))]
          cases f <;> rfl)
        intro i' hi'
        by_cases h : i' = i
        · rw [h, ← hn']
          exact fun z => e ((i_eq (b := 0) (by omega) (by decide)).mpr z)
        · exact hd i' (by omega)
theorem x_pattern (hX : kXok xm) (hN : 20 ≤ N) (I : RJ xm M0 t (nb, jo, lo, bo, pa, ps, st) k C S F mem) (x : Int32) : dOk (m_M_pattern xm N M0 x mem) (eR xm M0 (spPattern x (nb, jo, lo, bo, pa, ps, st)) k C S 2 30 F) := by
  obtain ⟨g, sum, ck, W, hi, ⟨-, h7⟩, hl, hb, h1, h2⟩ := I
  dsimp only at W hi h7 hl hb
  unfold m_M_pattern
  refine m_start W fun m1 W1 S1 => ?_
  have hi1 : aInv nb (kUp g 0 0) lo bo pa ps st := hi
  have q1 : m1.length ≤ C := by have := S1.2.1; omega
  have q2 : kSl m1 ≤ S + 4 * ck := by have := S1.2.2.1; omega
  refine ok_eI m_is ?_
  refine ok_if (fun e => ?_) (fun e => ?_)
  · exact x_ref (if_pos (Or.inl (is_z.mp e))) (by decide) h1 h2 W1 hi1 h7 hl hb S1
  · have g1 : ¬ (x < 1 ∨ 999999999 < x) := fun z => e (is_z.mpr z)
    obtain ⟨n, rfl, p1, p2⟩ := is_nat (a := 1) (b := 999999999) (by decide) (by decide) e
    obtain ⟨N', rfl⟩ : ∃ N', N = N' + 1 := ⟨N - 1, by omega⟩
    have hlt : n < 10 ^ N' := by
      calc n < 10 ^ 9 := by omega
        _ ≤ 10 ^ N' := Nat.pow_le_pow_right (by decide) (by omega)
    have hz : pZ N' n = pZ 9 n := by
      obtain ⟨j, rfl⟩ : ∃ j, N' = 9 + j := ⟨N' - 9, by omega⟩
      exact pZ_add j 9 n (by omega)
    exact pat_loopE hX ⟨p1, p2⟩ q1 q2 W1 hi1 rfl h7 g1 hl hb N' 0 n (by simp) (fun i' h => absurd h (Nat.not_lt_zero _)) (by omega) hlt hz
theorem undo_81E {b' : Nat} (hb7 : st.2.2.2.2 7 = Int32.ofNat b') (hb : b' ≤ 20000) : ∀ (j f : Nat) (mem : kM) (t : List Int32), t.length = j → j < f → j ≤ 20000 → bo.length = b' → WR xm M0 g sum lo (bo ++ t) pa ps st ck F mem → dOk (m_M_undo_81 xm N f M0 mem) (rI fun v m => v = Int32.ofNat ps.length ∧ WR xm M0 g sum lo bo pa ps st ck F m ∧ St xm mem m 0 0) := by
  intro j
  induction j with
  | zero =>
    intro f mem t ht hf hj hbl W
    obtain ⟨f, rfl⟩ : ∃ f', f = f' + 1 := ⟨f - 1, by omega⟩
    have ht : t = [] := List.length_eq_zero_iff.mp ht
    subst ht
    rw [List.append_nil] at W
    rw [m_M_undo_81]
    refine w_gB W ?_
    have W0 := W
    obtain ⟨L, ⟨Ba, Bq, Bm, Bc, Be⟩, P, Q, c, cs, H, R, hck, hL, hB, hP, hQ⟩ := W
    have r4 := R.2.2.2.1
    dsimp only at hB r4
    subst hB
    have n4 := r4.1
    refine ok_rc (ls_hd H 2 rfl) ?_
    refine ok_eI (ls_size (a := M0 + 2) (q := Bq) (mc := Bm) (cap := Bc) (es := Be) H 2 rfl) ?_
    refine w_s7 W0 fun s la ra ua y h0 => ?_
    refine ok_gI h0 rfl ?_
    rw [hb7, if_neg (fun z => by have := (i_lt (by omega) (by omega)).mp z; omega)]
    refine w_gQ W0 ?_
    refine w_pastSize W0 ?_
    exact ok_I ⟨rfl, W0, St.refl⟩
  | succ j ih =>
    intro f mem t ht hf hj hbl W
    obtain ⟨f, rfl⟩ : ∃ f', f = f' + 1 := ⟨f - 1, by omega⟩
    obtain ⟨t, v, rfl⟩ := snoc_of (l := t) (fun e => by rw [e] at ht; cases ht)
    rw [List.length_append, List.length_singleton] at ht
    rw [m_M_undo_81]
    refine w_gB W ?_
    have W0 := W
    obtain ⟨L, ⟨Ba, Bq, Bm, Bc, Be⟩, P, Q, c, cs, H, R, hck, hL, hB, hP, hQ⟩ := W
    obtain ⟨⟨w1, w2, w3, w4⟩, cc, r3, r4, r5, r6⟩ := R
    dsimp only at hB r4
    subst hB
    rw [← List.append_assoc] at r4
    have n4 := r4.1
    rw [List.length_append, List.length_append, List.length_singleton] at n4
    have hsz := ls_size (xm := xm) (N := N) (a := M0 + 2) (q := Bq) (mc := Bm) (cap := Bc) (es := Be) H 2 rfl
    refine ok_rc (ls_hd H 2 rfl) ?_
    refine ok_eI hsz ?_
    refine w_s7 W0 fun s la ra ua y h0 => ?_
    refine ok_gI h0 rfl ?_
    rw [hb7, if_pos ((i_lt (by omega) (by omega)).mpr (by omega))]
    refine w_gB W0 ?_
    refine w_gB W0 ?_
    refine ok_rc (ls_hd H 2 rfl) ?_
    refine ok_eI hsz ?_
    refine ok_rc (ls_hd H 2 rfl) ?_
    rw [i_sub1 (by omega)]
    refine ok_cR (ls_remove (a := M0 + 2) (q := Bq) (mc := Bm) (cap := Bc) (es := Be) w2 H 2 rfl r4.ok (by omega)) fun e m1 hh => ?_
    obtain ⟨-, H1, w2', S1⟩ := hh
    rw [dropLast_idx] at H1 w2'
    have W1 : WR xm M0 g sum lo (bo ++ t) pa ps st ck F m1 := ⟨L, (M0 + 2, Bq, Bm + 1, Bc, Be.dropLast), P, Q, c, cs, H1, ⟨⟨w1, w2', w3, w4⟩, cc, r3.st S1, (r4.st S1).init, r5.st S1, r6.1, r6.2.1.st S1, fun i c z q1 q2 => (r6.2.2 i c z q1 q2).st S1⟩, hck, hL, rfl, hP, hQ⟩
    refine ok_mono (ih f m1 t (by omega) (by omega) (by omega) hbl W1) ?_
    rintro r ⟨v, h1, h0, h2, h3⟩
    exact ⟨v, h1, h0, h2, (S1.trans h3).mono (by omega) (by omega)⟩
theorem undo_44E {n' b' : Nat} {tb : List Int32} (hn6 : st.2.2.2.2 6 = Int32.ofNat n') (hb7 : st.2.2.2.2 7 = Int32.ofNat b') (hn : n' ≤ 20000) (hbl : bo.length = b') (hb : b' ≤ 20000) (htb : tb.length < N ∧ tb.length ≤ 20000) : ∀ (j f : Nat) (mem : kM) (lo t : List kLf), t.length = j → j < f → j ≤ 20000 → lo.length = n' → WR xm M0 g sum (lo ++ t) (bo ++ tb) pa ps st ck F mem → dOk (m_M_undo_44 xm N f M0 mem) (rI fun v m => v = Int32.ofNat ps.length ∧ WR xm M0 g sum lo bo pa ps st ck F m ∧ St xm mem m 0 0) := by
  intro j
  induction j with
  | zero =>
    intro f mem lo t ht hf hj hlo W
    obtain ⟨f, rfl⟩ : ∃ f', f = f' + 1 := ⟨f - 1, by omega⟩
    have ht : t = [] := List.length_eq_zero_iff.mp ht
    subst ht
    rw [List.append_nil] at W
    rw [m_M_undo_44]
    refine w_gL W ?_
    have W0 := W
    obtain ⟨⟨La, Lq, Lm, Lc, Le⟩, B, P, Q, c, cs, H, R, hck, hL, hB, hP, hQ⟩ := W
    have r3 := R.2.2.1
    dsimp only at hL r3
    subst hL
    have n3 := r3.1
    refine ok_rc (ls_hd H 1 rfl) ?_
    refine ok_eI (ls_size (a := M0 + 1) (q := Lq) (mc := Lm) (cap := Lc) (es := Le) H 1 rfl) ?_
    refine w_s7 W0 fun s la ra ua y h0 => ?_
    refine ok_gI h0 rfl ?_
    rw [hn6, if_neg (fun z => by have := (i_lt (by omega) (by omega)).mp z; omega)]
    exact undo_81E hb7 hb tb.length N mem tb rfl htb.1 htb.2 hbl W0
  | succ j ih =>
    intro f mem lo t ht hf hj hlo W
    obtain ⟨f, rfl⟩ : ∃ f', f = f' + 1 := ⟨f - 1, by omega⟩
    obtain ⟨t, v, rfl⟩ := snoc_of (l := t) (fun e => by rw [e] at ht; cases ht)
    rw [List.length_append, List.length_singleton] at ht
    rw [m_M_undo_44]
    refine w_gL W ?_
    have W0 := W
    obtain ⟨⟨La, Lq, Lm, Lc, Le⟩, B, P, Q, c, cs, H, R, hck, hL, hB, hP, hQ⟩ := W
    obtain ⟨⟨w1, w2⟩, cc, r3, r4, r5, r6⟩ := R
    dsimp only at hL r3
    subst hL
    rw [← List.append_assoc] at r3
    have n3 := r3.1
    rw [List.length_append, List.length_append, List.length_singleton] at n3
    have hsz := ls_size (xm := xm) (N := N) (a := M0 + 1) (q := Lq) (mc := Lm) (cap := Lc) (es := Le) H 1 rfl
    refine ok_rc (ls_hd H 1 rfl) ?_
    refine ok_eI hsz ?_
    refine w_s7 W0 fun s la ra ua y h0 => ?_
    refine ok_gI h0 rfl ?_
    rw [hn6, if_pos ((i_lt (by omega) (by omega)).mpr (by omega))]
    refine w_gL W0 ?_
    refine w_gL W0 ?_
    refine ok_rc (ls_hd H 1 rfl) ?_
    refine ok_eI hsz ?_
    refine ok_rc (ls_hd H 1 rfl) ?_
    rw [i_sub1 (by omega)]
    refine ok_cR (ls_remove (a := M0 + 1) (q := Lq) (mc := Lm) (cap := Lc) (es := Le) w1 H 1 rfl r3.ok (by omega)) fun e m1 hh => ?_
    obtain ⟨-, H1, w1', S1⟩ := hh
    rw [dropLast_idx] at H1 w1'
    have W1 : WR xm M0 g sum (lo ++ t) (bo ++ tb) pa ps st ck F m1 := ⟨(M0 + 1, Lq, Lm + 1, Lc, Le.dropLast), B, P, Q, c, cs, H1, ⟨⟨w1', w2⟩, cc, (r3.st S1).init, r4.st S1, r5.st S1, r6.1, r6.2.1.st S1, fun i c z q1 q2 => (r6.2.2 i c z q1 q2).st S1⟩, hck, rfl, hB, hP, hQ⟩
    refine ok_mono (ih f m1 lo t (by omega) (by omega) (by omega) hlo W1) ?_
    rintro r ⟨v, h1, h0, h2, h3⟩
    exact ⟨v, h1, h0, h2, (S1.trans h3).mono (by omega) (by omega)⟩
theorem x_undo (hX : kXok xm) (hN : 20001 ≤ N) (hk : k < 512) (I : RJ xm M0 t (nb, jo, lo, bo, pa, ps, st) k C S F mem) : dOk (m_M_undo xm N M0 mem) (eR xm M0 (spUndo (nb, jo, lo, bo, pa, ps, st)) k C S 0 0 F) := by
  obtain ⟨g, sum, ck, W, hi, ⟨-, h7⟩, hl, hb, h1, h2⟩ := I
  dsimp only at W hi h7 hl hb
  unfold m_M_undo
  refine m_start W fun m1 W1 S1 => ?_
  have hi1 : aInv nb (kUp g 0 0) lo bo pa ps st := hi
  refine w_gQ W1 ?_
  have W0 := W1
  obtain ⟨L, B, P, ⟨Qa, Qq, Qm, Qc, Qe⟩, c, cs, H, R, hck, hL, hB, hP, hQ⟩ := W1
  obtain ⟨⟨w1, w2, w3, w4⟩, cc, r3, r4, r5, ⟨r6, r6'⟩, r7, r8⟩ := R
  dsimp only at hQ r6
  subst hQ
  subst r6
  refine ok_rc (ls_hd H 4 rfl) ?_
  refine ok_eI (ls_isEmpty (a := M0 + 4) (q := Qq) (mc := Qm) (cap := Qc) (es := cs.map (fun c : kCs => c.1)) H 4 rfl w4.lt) ?_
  by_cases he : cs = []
  · have e1 : (if cs.map (fun c : kCs => c.1) = [] then (1 : Int32) else 0) = 1 := if_pos (by rw [he]; rfl)
    rw [e1, if_neg (show ¬ ((1 : Int32) = 0) by decide)]
    have hp0 : ps = [] := List.length_eq_zero_iff.mp (by rw [he] at r6'; exact r6'.symm)
    exact x_ref (if_pos hp0) (by decide) h1 h2 W0 hi1 h7 hl hb S1
  · rw [if_neg (fun z => he (List.map_eq_nil_iff.mp z)), if_pos rfl]
    obtain ⟨cs, c', rfl⟩ := snoc_of he
    have hp0 : ps ≠ [] := by
      intro z
      rw [z] at r6'
      simp at r6'
    have hsp : spUndo (nb, jo, lo, bo, pa, ps, st) = (0, Int32.ofNat (ps.length - 1), (nb, jo, lo.take ((ps.getLastD st).2.2.2.2 6).toNatClampNeg, bo.take ((ps.getLastD st).2.2.2.2 7).toNatClampNeg, pa, ps.dropLast, ps.getLastD st)) := if_neg hp0
    obtain ⟨ps, s', rfl⟩ := snoc_of hp0
    rw [List.getLastD_concat, List.dropLast_concat, List.length_append, List.length_singleton, Nat.add_sub_cancel] at hsp
    have hl' : cs.length = ps.length := by simpa using r6'
    have hok := pOwn_ok (xm := xm) H (i := 11) rfl r6'
    refine w_gQ W0 ?_
    refine w_gQ W0 ?_
    refine w_pastSize W0 ?_
    refine ok_rc (ls_hd H 4 rfl) ?_
    rw [i_sub1 (by simp)]
    have hjl : (ps ++ [s']).length - 1 < ((cs ++ [c']).map (fun c : kCs => c.1)).length := by simp [hl']
    refine ok_cR (ls_remove (a := M0 + 4) (q := Qq) (mc := Qm) (cap := Qc) (es := (cs ++ [c']).map (fun c : kCs => c.1)) w4 H 4 rfl hok hjl) fun e m2 hh => ?_
    obtain ⟨he', H2, w4', S2⟩ := hh
    have ee : e = c'.1 := by
      rw [he']
      simp [← hl']
    subst ee
    have e4 : ((cs ++ [c']).map (fun c : kCs => c.1)).eraseIdx ((ps ++ [s']).length - 1) = cs.map (fun c : kCs => c.1) := by
      rw [show (ps ++ [s']).length - 1 = ((cs ++ [c']).map (fun c : kCs => c.1)).length - 1 by simp [hl'], dropLast_idx]
      simp
    rw [e4] at H2 w4'
    have hseg : pOwn (cs ++ [c']) (ps ++ [s']) = pOwn cs ps ++ sOwn c' s' := pOwn_snoc hl'
    have hcell : kLook xm m2 c'.1 = some (stE c'.2.1.1 c'.2.2.1.1 c'.2.2.2.1.1 c'.2.2.2.2 s'.2.2.2.2) := by
      refine H2.look 11 (pOwn cs ps).length rfl ?_
      rw [hseg, List.getElem?_append_right (Nat.le_refl _), Nat.sub_self]
      rfl
    refine ok_ccO hcell ?_
    refine os_p H2 0 0 rfl rfl rfl rfl fun m3 H3 S3 => ?_
    have H4 : HpS [[(M0, mE (kUp g 0 0) sum L.1 B.1 P.1 (M0 + 4) c'.1)], sL L, sL B, sL P, sL (M0 + 4, Qq, Qm + 1, Qc, cs.map (fun c : kCs => c.1)), [(c.1, stE c.2.1.1 c.2.2.1.1 c.2.2.2.1.1 c.2.2.2.2 st.2.2.2.2)], sL c.2.1, sL c.2.2.1, sL c.2.2.2.1, sRu c.2.2.2.1.2.2.2.2 st.2.2.1, [(c.2.2.2.2, kAr st.2.2.2.1)], pOwn cs ps ++ sOwn c' s', F] m3 := by
      rw [← hseg]
      exact H3
    have H5 := HpS.back H4
    have ST := S2.trans S3
    have r8' : sRl xm m1 c' s' := r8 cs.length c' s' (by simp) (by rw [hl']; simp)
    have W5 : WR xm M0 (kUp g 0 0) sum lo bo pa ps s' ck F m3 := ⟨L, B, P, (M0 + 4, Qq, Qm + 1, Qc, cs.map (fun c : kCs => c.1)), c', cs, H5, ⟨⟨w1, w2, w3, w4'⟩, cc, r3.st ST, r4.st ST, r5.st ST, ⟨rfl, hl'⟩, r8'.st ST, fun i c z q1 q2 => (r8 i c z (by rw [List.getElem?_append_left (List.getElem?_eq_some_iff.mp q1).1]; exact q1) (by rw [List.getElem?_append_left (List.getElem?_eq_some_iff.mp q2).1]; exact q2)).st ST⟩, hck, hL, hB, hP, rfl⟩
    obtain ⟨a1, a2, a3, a4, a5, a6⟩ := hi1
    rw [List.reverse_append] at a3
    obtain ⟨n', b', g1, g2, g3, g4⟩ := a3
    have e5 : lo = lo.take n' ++ lo.drop n' := (List.take_append_drop _ _).symm
    have e6 : bo = bo.take b' ++ bo.drop b' := (List.take_append_drop _ _).symm
    have l5 : (lo.take n').length = n' := by rw [List.length_take]; omega
    have l6 : (bo.take b').length = b' := by rw [List.length_take]; omega
    have l7 : (lo.drop n').length = lo.length - n' := List.length_drop
    have l8 : (bo.drop b').length = bo.length - b' := List.length_drop
    have W6 : WR xm M0 (kUp g 0 0) sum (lo.take n' ++ lo.drop n') (bo.take b' ++ bo.drop b') pa ps s' ck F m3 := by
      rw [← e5, ← e6]
      exact W5
    refine ok_mono (undo_44E (n' := n') (b' := b') (bo := bo.take b') (tb := bo.drop b') g3.2.2.2.2.2.1 g3.2.2.2.2.2.2 (by omega) l6 (by omega) (by omega) (lo.length - n') N m3 (lo.take n') (lo.drop n') l7 (by omega) (by omega) l5 W6) ?_
    rintro r ⟨v, q1, q0, q2, q3⟩
    have hn' : (s'.2.2.2.2 6).toNatClampNeg = n' := by rw [g3.2.2.2.2.2.1]; exact i_nat (by omega)
    have hb' : (s'.2.2.2.2 7).toNatClampNeg = b' := by rw [g3.2.2.2.2.2.2]; exact i_nat (by omega)
    rw [hsp, hn', hb']
    refine ⟨v, q1, fun _ => q0, RJ.mk' (c := 0) (s := 0) h1 h2 q2 ⟨a1, ?_, ?_, by simp at a4; omega, a5, a6⟩ ⟨rfl, h7⟩ (by omega) (by omega) (Nat.le_refl _) ((S1.trans (ST.trans q3)).mono (by omega) (by omega))⟩
    · rw [l5, l6]; exact g3
    · rw [l5, l6]; exact g4
theorem x_buy (hX : kXok xm) (hN : 20 ≤ N) (I : RJ xm M0 t (nb, jo, lo, bo, pa, ps, st) k C S F mem) (x : Int32) : dOk (m_M_buy xm N M0 x mem) (eR xm M0 (spBuy x (nb, jo, lo, bo, pa, ps, st)) k C S 1 4 F) := by
  obtain ⟨g, sum, ck, W, hi, ⟨-, h7⟩, hl, hb, h1, h2⟩ := I
  dsimp only at W hi h7 hl hb
  have hnb := hi.1.2.1
  unfold m_M_buy
  refine m_start W fun m1 W1 S1 => ?_
  have hi1 : aInv nb (kUp g 0 0) lo bo pa ps st := hi
  refine ok_eI m_is ?_
  refine ok_if (fun e => ?_) (fun e => ?_)
  · exact x_ref (if_pos (is_z.mp e)) (by decide) h1 h2 W1 hi1 h7 hl hb S1
  · refine w_g W1 (by decide) ?_
    have hg6 : kUp g 0 0 6 = Int32.ofNat nb := hi.1.1
    rw [hg6]
    refine ok_if (fun e2 => ?_) (fun e2 => ?_)
    · have e2 := (i_eq (b := 4) (by omega) (by decide)).mp e2
      exact x_ref ((if_neg (fun z => e (is_z.mpr z))).trans (if_pos e2)) (by decide) h1 h2 W1 hi1 h7 hl hb S1
    · have e2 : nb ≠ 4 := fun z => e2 ((i_eq (b := 4) (by omega) (by decide)).mpr z)
      refine w_gQ W1 ?_
      obtain ⟨L, B, P, ⟨Qa, Qq, Qm, Qc, Qe⟩, c, cs, H, R, hck, hL, hB, hP, hQ⟩ := W1
      obtain ⟨⟨w1, w2, w3, w4⟩, cc, r3, r4, r5, ⟨r6, r6'⟩, r7, r8⟩ := R
      dsimp only at hQ r6
      subst hQ
      subst r6
      refine ok_rc (ls_hd H 4 rfl) ?_
      refine ok_cR (ls_iterator (a := M0 + 4) (q := Qq) (mc := Qm) (cap := Qc) (es := cs.map (fun c : kCs => c.1)) H 4 rfl) fun it m2 h => ?_
      obtain ⟨H2, S2⟩ := h
      have hps : ∀ s ∈ ps, s.2.2.2.1.length = 4 := by
        intro s hs
        obtain ⟨n', b', h⟩ := aCh_mem hi.2.2.1 s (List.mem_reverse.mpr hs)
        exact h.1.2.2.2.2
      refine ok_mono (buy_loop (st := st) (x := x) (by omega) hg6 w4 (by have := hi.2.2.2.1; omega) hi.2.1.1.2.2.2.2 ps.length 0 N (-1) m2 ps r6' (by omega) (by have := hi.2.2.2.1; omega) hps H2) ?_
      rintro r ⟨v, q1, q2, q3, q4⟩
      rw [List.take_zero, List.nil_append, List.drop_zero] at q3
      have ST := S2.trans q4
      have W3 : WR xm M0 (kUp (kUp g 0 0) 6 (Int32.ofNat (nb + 1))) sum lo bo pa (ps.map (aSetY nb x)) (aSetY nb x st) ck F r.2 := ⟨L, B, P, (M0 + 4, Qq, Qm, Qc, cs.map (fun c : kCs => c.1)), c, cs, q3, ⟨⟨w1, w2, w3, w4⟩, cc, r3.st ST, r4.st ST, r5.st ST, ⟨rfl, by simpa using r6'⟩, r7.st ST, ?_⟩, hck, hL, hB, hP, rfl⟩
      · have hsp : spBuy x (nb, jo, lo, bo, pa, ps, st) = (0, Int32.ofNat nb, (nb + 1, jo, lo, bo, pa, ps.map (aSetY nb x), aSetY nb x st)) := (if_neg (fun z => e (is_z.mpr z))).trans (if_neg e2)
        rw [hsp]
        refine ⟨v, q1, fun _ => q2, RJ.mk' h1 h2 W3 ?_ ⟨rfl, h7⟩ (by omega) (by omega) (Nat.le_refl _) ((S1.trans ST).mono (by omega) (by omega))⟩
        obtain ⟨⟨a1, a2, a3⟩, a4, a5, a6, a7⟩ := hi
        refine ⟨⟨rfl, by omega, ?_⟩, a4.setY, ?_, by simpa using a6, a7⟩
        · rcases a3 with h | ⟨b, q, q'⟩
          · exact Or.inl h
          · exact Or.inr ⟨b, q, by omega⟩
        · rw [← List.map_reverse]
          exact aCh_setY a5
      · intro i c z p1 p2
        rw [List.getElem?_map] at p2
        cases hz : ps[i]? with
        | none => rw [hz] at p2; cases p2
        | some z' =>
          rw [hz] at p2
          cases p2
          exact (r8 i c z' p1 hz).st ST
end ES
