/-! ===== the reference exactly: join, work, over, slip, cross, together, cast, turn, bind ===== -/
/-- the reference, what was thrown, its contents -/
def RJ (xm : Nat → Option kE) (M0 : Nat) (t : Int32) (c : aC) (k C S : Nat) (F : kSg) (mem : kM) : Prop :=
  ∃ g sum ck, WR xm M0 g sum c.2.2.1 c.2.2.2.1 c.2.2.2.2.1 c.2.2.2.2.2.1 c.2.2.2.2.2.2 ck F mem ∧ aInv c.1 g c.2.2.1 c.2.2.2.1 c.2.2.2.2.1 c.2.2.2.2.2.1 c.2.2.2.2.2.2 ∧ (g 0 = t ∧ g 7 = c.2.1) ∧ c.2.2.1.length ≤ 24 * k ∧ c.2.2.2.1.length ≤ 24 * k ∧ mem.length ≤ C ∧ kSl mem ≤ S + 4 * ck
def eR (xm : Nat → Option kE) (M0 : Nat) (r : aR) (k C S c s : Nat) (F : kSg) : kO × kM → Prop := rI fun v m => (r.1 = 0 → v = r.2.1) ∧ RJ xm M0 r.1 r.2.2 (k + 1) (C + c) (S + s) F m
theorem is_z {x lo hi : Int32} : ((if x < lo then (0 : Int32) else if hi < x then 0 else 1) = 0) ↔ (x < lo ∨ hi < x) := by
  by_cases h1 : x < lo
  · rw [if_pos h1]
    exact ⟨fun _ => Or.inl h1, fun _ => rfl⟩
  · rw [if_neg h1]
    by_cases h2 : hi < x
    · rw [if_pos h2]
      exact ⟨fun _ => Or.inr h2, fun _ => rfl⟩
    · rw [if_neg h2]
      exact ⟨fun z => absurd z (by decide), fun z => z.elim (fun z => absurd z h1) (fun z => absurd z h2)⟩
theorem is_n {x : Int32} {n : Nat} (hn : n < 2 ^ 31) : (x < 0 ∨ Int32.ofNat n - 1 < x) ↔ (x < 0 ∨ ¬ x < Int32.ofNat n) := by
  by_cases h1 : x < 0
  · exact ⟨fun _ => Or.inl h1, fun _ => Or.inl h1⟩
  · have h2 : (Int32.ofNat n - 1 < x) ↔ ¬ x < Int32.ofNat n := by
      obtain ⟨e, l⟩ := i_of (Int32.not_lt.mp h1)
      generalize x.toNatClampNeg = i at e l
      subst e
      have e1 : (1 : Int32).toInt = 1 := by decide
      rw [i_lt l hn, Int32.lt_iff_toInt_lt, Int32.toInt_sub, i_toI hn, i_toI l, e1, Int.bmod_eq_of_le (by omega) (by omega)]
      omega
    rw [h2]
theorem zMake_eq {jo k1 k2 k3 k4 : Int32} {lo : List kLf} {bo vl vr ya : List Int32} {rs : List (List Int32)} {sc : Nat → Int32} {b : Nat} (hj : jo = Int32.ofNat b) (hb : b < 2 ^ 31) : zMake jo k1 k2 k3 k4 (lo, bo, (vl, vr, rs, ya, sc)) = (lo ++ [(k1, jo, sc 5, k2, sc 4, k3)], bo, (vl, vr ++ [sc 6], rs.map kFall, ya.set b (ya.getD b 0 - k4), kUp sc 6 (sc 6 + 1))) := by
  unfold zMake
  rw [zMake_b hj hb]
section ER
variable {xm : Nat → Option kE} {mem : kM} {N M0 nb k C S ck b n : Nat} {F : kSg} {g : Nat → Int32} {sum : Int64} {t jo x y : Int32} {lo : List kLf} {bo pa vl vr ya : List Int32} {ps : List aS} {rs : List (List Int32)} {sc : Nat → Int32} {st : aS} {T : kO × kM → Prop} {sp : aR}
theorem RJ.mk' {m : kM} {k' ck' c s : Nat} {st : aS} (h1 : mem.length ≤ C) (h2 : kSl mem ≤ S + 4 * ck) (W : WR xm M0 g sum lo bo pa ps st ck' F m) (h : aInv nb g lo bo pa ps st) (hg : g 0 = t ∧ g 7 = jo) (hl : lo.length ≤ 24 * k') (hb : bo.length ≤ 24 * k') (hc : ck ≤ ck') (S1 : St xm mem m c (s + 4 * (ck' - ck))) : RJ xm M0 t (nb, jo, lo, bo, pa, ps, st) k' (C + c) (S + s) F m := by
  refine ⟨g, sum, ck', W, h, hg, hl, hb, ?_, ?_⟩
  · have := S1.2.1; omega
  · have := S1.2.2.1; omega
theorem x_ref {m0 : kM} {c s : Nat} (hsp : sp = (x, 0, (nb, jo, lo, bo, pa, ps, st))) (hx : x ≠ 0) (h1 : m0.length ≤ C) (h2 : kSl m0 ≤ S + 4 * ck) (W : WR xm M0 g sum lo bo pa ps st ck F mem) (h : aInv nb g lo bo pa ps st) (h7 : g 7 = jo) (hl : lo.length ≤ 24 * k) (hb : bo.length ≤ 24 * k) (S1 : St xm m0 mem 0 0) :
    dOk (dRc xm mem M0 15 <| dCI (m_M_refuse xm N M0 x mem) fun v m => some (.inl (some (.int v)), m)) (eR xm M0 sp k C S c s F) := by
  subst hsp
  refine w_rc W ?_
  refine ok_cI (m_refuse W) fun v m hh => ?_
  obtain ⟨-, W2, S2⟩ := hh
  exact ok_I ⟨fun z => absurd z hx, RJ.mk' h1 h2 W2 h ⟨rfl, h7⟩ (by omega) (by omega) (Nat.le_refl _) ((S1.trans S2).mono (by omega) (by omega))⟩
theorem x_ok {m0 m : kM} {c s ck' : Nat} {v : Int32} {st' : aS} {lo' : List kLf} {bo' pa' : List Int32} {ps' : List aS} (h1 : m0.length ≤ C) (h2 : kSl m0 ≤ S + 4 * ck) (W : WR xm M0 g sum lo' bo' pa' ps' st' ck' F m) (hsp : sp = (0, v, (nb, jo, lo', bo', pa', ps', st'))) (h : aInv nb g lo' bo' pa' ps' st') (h0 : g 0 = 0) (h7 : g 7 = jo) (hl : lo'.length ≤ 24 * (k + 1)) (hb : bo'.length ≤ 24 * (k + 1)) (hc : ck ≤ ck') (S1 : St xm m0 m c (s + 4 * (ck' - ck))) : dOk (some (.inl (some (.int v)), m)) (eR xm M0 sp k C S c s F) := by
  subst hsp
  exact ok_I ⟨fun _ => rfl, RJ.mk' h1 h2 W h ⟨h0, h7⟩ hl hb hc S1⟩
theorem x_join (I : RJ xm M0 t (nb, jo, lo, bo, pa, ps, st) k C S F mem) (x : Int32) : dOk (m_M_join xm N M0 x mem) (eR xm M0 (spJoin x (nb, jo, lo, bo, pa, ps, st)) k C S 0 0 F) := by
  obtain ⟨g, sum, ck, W, hi, ⟨-, h7⟩, hl, hb, h1, h2⟩ := I
  dsimp only at W hi h7 hl hb
  have hn4 := hi.1.2.1
  unfold m_M_join
  refine m_start W fun m1 W1 S1 => ?_
  have hi1 : aInv nb (kUp g 0 0) lo bo pa ps st := hi
  refine w_g W1 (by decide) ?_
  refine ok_eI m_is ?_
  rw [show kUp g 0 0 6 = Int32.ofNat nb from hi.1.1]
  refine ok_if (fun e => ?_) (fun e => ?_)
  · exact x_ref (if_pos ((is_n (by omega)).mp (is_z.mp e))) (by decide) h1 h2 W1 hi1 h7 hl hb S1
  · have e' : ¬ (x < 0 ∨ ¬ x < Int32.ofNat nb) := fun z => e (is_z.mpr ((is_n (by omega)).mpr z))
    refine w_g W1 (by decide) ?_
    obtain ⟨L, B, P, Q, c, cs, H, R, hck⟩ := W1
    refine os_p H 0 0 rfl rfl rfl rfl fun m2 H2 S2 => ?_
    have W2 : WR xm M0 (kUp (kUp g 0 0) 7 x) sum lo bo pa ps st ck F m2 := ⟨L, B, P, Q, c, cs, H2, R.st S2, hck⟩
    refine x_ok (v := kUp g 0 0 7) (jo := x) (nb := nb) h1 h2 W2 ((if_neg e').trans (congrArg (fun v => ((0 : Int32), v, (nb, x, lo, bo, pa, ps, st))) h7.symm)) ?_ rfl rfl (by omega) (by omega) (Nat.le_refl _) ((S1.trans S2).mono (by omega) (by omega))
    obtain ⟨⟨a1, a2, a3⟩, a4⟩ := hi1
    have hx0 : ¬ x < 0 := fun z => e' (Or.inl z)
    have hx1 : x < Int32.ofNat nb := Classical.byContradiction fun z => e' (Or.inr z)
    obtain ⟨ex, hxl⟩ := i_of (Int32.not_lt.mp hx0)
    refine ⟨⟨a1, a2, Or.inr ⟨x.toNatClampNeg, ex, ?_⟩⟩, a4⟩
    rw [ex] at hx1
    exact (i_lt hxl (by omega)).mp hx1
theorem x_work (hX : kXok xm) (hN : 20 ≤ N) (hk : k < 512) (I : RJ xm M0 t (nb, jo, lo, bo, pa, ps, (vl, vr, rs, ya, sc)) k C S F mem) (x : Int32) : dOk (m_M_work xm N M0 x mem) (eR xm M0 (spWork x (nb, jo, lo, bo, pa, ps, (vl, vr, rs, ya, sc))) k C S 36 360 F) := by
  obtain ⟨g, sum, ck, W, hi, ⟨-, h7⟩, hl, hb, h1, h2⟩ := I
  dsimp only at W hi h7 hl hb
  unfold m_M_work
  refine m_start W fun m1 W1 S1 => ?_
  have hi1 : aInv nb (kUp g 0 0) lo bo pa ps (vl, vr, rs, ya, sc) := hi
  have ey : aYarn (kUp g 0 0) ya = aYn jo ya := by rw [← h7]; rfl
  refine w_leftEmpty W1 ?_
  by_cases he : vl = []
  · rw [if_pos he, if_neg (show ¬ ((1 : Int32) = 0) by decide)]
    unfold m_M_work_26
    exact x_ref (if_pos (Or.inl he)) (by decide) h1 h2 W1 hi1 h7 hl hb S1
  · rw [if_neg he, if_pos rfl]
    refine w_rc W1 ?_
    refine ok_eI (m_yarn W1 hi.sw.2.2.2.2 hi1.jn) ?_
    refine ok_if (fun e => ?_) (fun e => ?_)
    · unfold m_M_work_26
      exact x_ref (if_pos (Or.inr (by rw [← ey]; exact e))) (by decide) h1 h2 W1 hi1 h7 hl hb S1
    · refine w_rc W1 ?_
      refine ok_cV (m_keep hX (by omega) W1 hi.sw hi.2.2.2.1) fun m2 h => ?_
      obtain ⟨W2, S2⟩ := h
      have hi2 := hi1.keep
      obtain ⟨b, hb7, hb4⟩ := hi2.some (k := 4) (by decide) e
      have hsp : spWork x (nb, jo, lo, bo, pa, ps, (vl, vr, rs, ya, sc)) = (0, sc 6, wC nb jo pa (pKeep ps (vl, vr, rs, ya, sc)) (zWork jo (if x = 0 then 1 else 2) (lo, bo, (vl, vr, rs, ya, sc)))) := if_neg (fun z => z.elim he (fun z => e (by rw [ey]; exact z)))
      obtain ⟨t, v, rfl⟩ := snoc_of he
      obtain ⟨i, rfl, hil⟩ := hi.2.1.2.2.1 v (List.mem_append_right _ (List.mem_singleton.mpr rfl))
      have h24 := hi.2.1.2.1
      dsimp only at h24
      rw [List.length_append, List.length_singleton] at h24
      refine w_rc W2 ?_
      refine ok_cI (m_workNow hX hN W2 hi.sw (by omega) (by omega) hb7 hb4 rfl hil) fun x' m3 h => ?_
      obtain ⟨rfl, ck', hck, W3, S3⟩ := h
      have e7 : kUp g 0 0 7 = jo := h7
      rw [zWork_eq hil (by omega) (e7.symm.trans hb7) (by omega)] at hsp
      rw [e7] at W3
      exact x_ok h1 h2 W3 hsp (hi2.make (fun v hv => List.mem_append_left _ hv) (by omega) rfl rfl) rfl h7 (by simp; omega) (by omega) hck ((S1.trans (S2.trans S3)).mono (by omega) (by omega))
theorem zOver_eq {b : Nat} (hj : jo = Int32.ofNat b) (hb : b < 2 ^ 31) : zOver jo (lo, bo, (vl, vr, rs, ya, sc)) = (lo ++ [(3, jo, sc 5, 1, sc 4, 0)], bo, (vl, vr ++ [sc 6], rs.map kFall, ya.set b (ya.getD b 0 - 3), kUp (kUp sc 8 (sc 8 + 1)) 6 (sc 6 + 1))) := by
  show zMake jo 3 1 0 3 (lo, bo, (vl, vr, rs, ya, kUp sc 8 (sc 8 + 1))) = _
  rw [zMake_eq hj hb]
  rfl
theorem x_over (hX : kXok xm) (hN : 20 ≤ N) (hk : k < 512) (I : RJ xm M0 t (nb, jo, lo, bo, pa, ps, (vl, vr, rs, ya, sc)) k C S F mem) : dOk (m_M_over xm N M0 mem) (eR xm M0 (spOver (nb, jo, lo, bo, pa, ps, (vl, vr, rs, ya, sc))) k C S 36 360 F) := by
  obtain ⟨g, sum, ck, W, hi, ⟨-, h7⟩, hl, hb, h1, h2⟩ := I
  dsimp only at W hi h7 hl hb
  have h24 := hi.2.1.2.1
  dsimp only at h24
  unfold m_M_over
  refine m_start W fun m1 W1 S1 => ?_
  have hi1 : aInv nb (kUp g 0 0) lo bo pa ps (vl, vr, rs, ya, sc) := hi
  have ey : aYarn (kUp g 0 0) ya = aYn jo ya := by rw [← h7]; rfl
  refine w_all W1 ?_
  refine ok_if (fun e => ?_) (fun e => ?_)
  · unfold m_M_over_25
    exact x_ref (if_pos (Or.inl ((i_eq (b := 24) (by omega) (by decide)).mp e))) (by decide) h1 h2 W1 hi1 h7 hl hb S1
  · have e : vl.length + vr.length ≠ 24 := fun z => e ((i_eq (b := 24) (by omega) (by decide)).mpr z)
    refine w_rc W1 ?_
    refine ok_eI (m_yarn W1 hi.sw.2.2.2.2 hi1.jn) ?_
    refine ok_if (fun e2 => ?_) (fun e2 => ?_)
    · unfold m_M_over_25
      exact x_ref (if_pos (Or.inr (by rw [← ey]; exact e2))) (by decide) h1 h2 W1 hi1 h7 hl hb S1
    · refine w_rc W1 ?_
      refine ok_cV (m_keep hX (by omega) W1 hi.sw hi.2.2.2.1) fun m2 h => ?_
      obtain ⟨W2, S2⟩ := h
      have hi2 := hi1.keep
      obtain ⟨b, hb7, hb4⟩ := hi2.some (k := 3) (by decide) e2
      have hsp : spOver (nb, jo, lo, bo, pa, ps, (vl, vr, rs, ya, sc)) = (0, sc 6, wC nb jo pa (pKeep ps (vl, vr, rs, ya, sc)) (zOver jo (lo, bo, (vl, vr, rs, ya, sc)))) := if_neg (fun z => z.elim e (fun z => e2 (by rw [ey]; exact z)))
      refine w_rc W2 ?_
      refine ok_cI (m_overNow hX hN W2 hi.sw (by omega) (by omega) hb7 hb4) fun x' m3 h => ?_
      obtain ⟨rfl, ck', hck, W3, S3⟩ := h
      have e7 : kUp g 0 0 7 = jo := h7
      rw [zOver_eq (e7.symm.trans hb7) (by omega)] at hsp
      rw [e7] at W3
      exact x_ok h1 h2 W3 hsp (hi2.make (fun v hv => hv) (by omega) rfl rfl) rfl h7 (by simp; omega) (by omega) hck ((S1.trans (S2.trans S3)).mono (by omega) (by omega))
theorem zSlip_eq {v : Int32} : zSlip (lo, bo, (vl ++ [v], vr, rs, ya, sc)) = (lo, bo, (vl, vr ++ [v], rs, ya, sc)) := by
  show (lo, bo, ((vl ++ [v]).dropLast, vr ++ [(vl ++ [v]).getLastD 0], rs, ya, sc)) = _
  rw [List.getLastD_concat, List.dropLast_concat]
theorem x_slip (hX : kXok xm) (hN : 20 ≤ N) (I : RJ xm M0 t (nb, jo, lo, bo, pa, ps, (vl, vr, rs, ya, sc)) k C S F mem) : dOk (m_M_slip xm N M0 mem) (eR xm M0 (spSlip (nb, jo, lo, bo, pa, ps, (vl, vr, rs, ya, sc))) k C S 33 350 F) := by
  obtain ⟨g, sum, ck, W, hi, ⟨-, h7⟩, hl, hb, h1, h2⟩ := I
  dsimp only at W hi h7 hl hb
  unfold m_M_slip
  refine m_start W fun m1 W1 S1 => ?_
  have hi1 : aInv nb (kUp g 0 0) lo bo pa ps (vl, vr, rs, ya, sc) := hi
  refine w_leftEmpty W1 ?_
  by_cases he : vl = []
  · rw [if_pos he, if_neg (show ¬ ((1 : Int32) = 0) by decide)]
    exact x_ref (if_pos he) (by decide) h1 h2 W1 hi1 h7 hl hb S1
  · rw [if_neg he, if_pos rfl]
    refine w_rc W1 ?_
    refine ok_cV (m_keep hX (by omega) W1 hi.sw hi.2.2.2.1) fun m2 h => ?_
    obtain ⟨W2, S2⟩ := h
    have hi2 := hi1.keep
    have hsp : spSlip (nb, jo, lo, bo, pa, ps, (vl, vr, rs, ya, sc)) = (0, vl.getLastD 0, wC nb jo pa (pKeep ps (vl, vr, rs, ya, sc)) (zSlip (lo, bo, (vl, vr, rs, ya, sc)))) := if_neg he
    obtain ⟨t, v, rfl⟩ := snoc_of he
    have h24 := hi.2.1.2.1
    dsimp only at h24
    rw [List.length_append, List.length_singleton] at h24
    refine w_rc W2 ?_
    refine ok_cI (m_slipNow hX W2 hi.sw (by omega)) fun x' m3 h => ?_
    obtain ⟨rfl, W3, S3⟩ := h
    rw [zSlip_eq, List.getLastD_concat] at hsp
    refine x_ok h1 h2 W3 hsp (hi2.move ?_ ?_ (by simp; omega) rfl rfl) rfl h7 (by omega) (by omega) (Nat.le_refl _) ((S1.trans (S2.trans S3)).mono (by omega) (by omega))
    · exact fun v hv => Or.inl (List.mem_append_left _ hv)
    · intro w hw
      rcases List.mem_append.mp hw with h | h
      · exact Or.inr h
      · exact Or.inl (List.mem_append_right _ h)
theorem x_cross (hX : kXok xm) (hN : 20 ≤ N) (I : RJ xm M0 t (nb, jo, lo, bo, pa, ps, (vl, vr, rs, ya, sc)) k C S F mem) (x y : Int32) : dOk (m_M_cross xm N M0 x y mem) (eR xm M0 (spCross x y (nb, jo, lo, bo, pa, ps, (vl, vr, rs, ya, sc))) k C S 49 378 F) := by
  obtain ⟨g, sum, ck, W, hi, ⟨-, h7⟩, hl, hb, h1, h2⟩ := I
  dsimp only at W hi h7 hl hb
  have h24 := hi.2.1.2.1
  dsimp only at h24
  unfold m_M_cross
  refine m_start W fun m1 W1 S1 => ?_
  have hi1 : aInv nb (kUp g 0 0) lo bo pa ps (vl, vr, rs, ya, sc) := hi
  refine ok_eI m_is ?_
  refine ok_if (fun e => ?_) (fun e => ?_)
  · unfold m_M_cross_23
    exact x_ref (if_pos (Or.inl (is_z.mp e))) (by decide) h1 h2 W1 hi1 h7 hl hb S1
  · have g1 := fun z => e (is_z.mpr z)
    obtain ⟨n1, rfl, p1, p2⟩ := is_nat (a := 1) (b := 3) (by decide) (by decide) e
    refine ok_eI m_is ?_
    refine ok_if (fun e => ?_) (fun e => ?_)
    · unfold m_M_cross_23
      exact x_ref (if_pos (Or.inr (is_z.mp e))) (by decide) h1 h2 W1 hi1 h7 hl hb S1
    · have g2 := fun z => e (is_z.mpr z)
      obtain ⟨n2, rfl, p3, p4⟩ := is_nat (a := 1) (b := 3) (by decide) (by decide) e
      have g5 : ¬ ((Int32.ofNat n1 < 1 ∨ 3 < Int32.ofNat n1) ∨ Int32.ofNat n2 < 1 ∨ 3 < Int32.ofNat n2) := fun z => z.elim g1 g2
      have e1 : (Int32.ofNat n1).toNatClampNeg = n1 := i_nat (by omega)
      have e2 : (Int32.ofNat n2).toNatClampNeg = n2 := i_nat (by omega)
      refine w_leftSize W1 ?_
      rw [i_add]
      refine ok_if (fun e => ?_) (fun e => ?_)
      · have e := (i_lt (by omega) (by omega)).mp e
        exact x_ref ((if_neg g5).trans (if_pos (by rw [e1, e2]; exact e))) (by decide) h1 h2 W1 hi1 h7 hl hb S1
      · have e := (not_congr (i_lt (by omega) (by omega))).mp e
        refine w_rc W1 ?_
        refine ok_cV (m_keep hX (by omega) W1 hi.sw hi.2.2.2.1) fun m2 h => ?_
        obtain ⟨W2, S2⟩ := h
        have hi2 := hi1.keep
        have hsp : spCross (Int32.ofNat n1) (Int32.ofNat n2) (nb, jo, lo, bo, pa, ps, (vl, vr, rs, ya, sc)) = (0, nAt (zCrossL n1 n2 vl) 0, (nb, jo, lo, bo, pa, pKeep ps (vl, vr, rs, ya, sc), (zCrossL n1 n2 vl, vr, rs, ya, kUp sc 9 (sc 9 + 1)))) := by
          refine (if_neg g5).trans ((if_neg (by rw [e1, e2]; exact e)).trans ?_)
          rw [e1, e2]
          rfl
        obtain ⟨A, xs, ys, rfl, hx, hy⟩ := split3 (l := vl) (n1 := n1) (n2 := n2) (by omega)
        rw [zCrossL_eq hy hx] at hsp
        refine w_rc W2 ?_
        refine ok_cI (m_crossNow hX hN W2 hi.sw hx hy p2 p4 p3) fun x' m3 h => ?_
        obtain ⟨hv, W3, S3⟩ := h
        have ev : nAt (A ++ ys ++ xs) 0 = x' := by
          obtain ⟨u, z, rfl⟩ := snoc_of (l := xs) (fun z => by rw [z] at hx; simp at hx; omega)
          rw [List.getLast?_concat] at hv
          rw [← List.append_assoc, nAt_last]
          exact (Option.some.inj hv).symm
        rw [ev] at hsp
        refine x_ok h1 h2 W3 hsp (hi2.move ?_ ?_ (by simp only [List.length_append] at h24 ⊢; omega) rfl rfl) rfl h7 (by omega) (by omega) (Nat.le_refl _) ((S1.trans (S2.trans S3)).mono (by omega) (by omega))
        · intro w hw
          refine Or.inl ?_
          simp only [List.mem_append] at hw ⊢
          rcases hw with (h | h) | h
          · exact Or.inl (Or.inl h)
          · exact Or.inr h
          · exact Or.inl (Or.inr h)
        · exact fun v hv => Or.inr hv
theorem zTog_eq {kk : Int32} {ws : List Int32} (hw : ws.length = n) (hj : jo = Int32.ofNat b) (hb : b < 2 ^ 31) : zTog jo n kk (lo, bo, (vl ++ ws, vr, rs, ya, sc)) = (lo ++ [(kk, jo, sc 5, 1, sc 4, Int32.ofNat n)], bo, (vl, vr ++ [sc 6], rs.map kFall, ya.set b (ya.getD b 0 - 5), kUp sc 6 (sc 6 + 1))) := by
  show zMake jo kk 1 (Int32.ofNat n) 5 (lo, bo, ((vl ++ ws).take ((vl ++ ws).length - n), vr, rs, ya, sc)) = _
  have e : (vl ++ ws).take ((vl ++ ws).length - n) = vl := by
    rw [List.length_append, hw, Nat.add_sub_cancel]
    exact List.take_left
  rw [e]
  exact zMake_eq hj hb
theorem x_together (hX : kXok xm) (hN : 20 ≤ N) (hk : k < 512) (I : RJ xm M0 t (nb, jo, lo, bo, pa, ps, (vl, vr, rs, ya, sc)) k C S F mem) (x y : Int32) : dOk (m_M_together xm N M0 x y mem) (eR xm M0 (spTog x y (nb, jo, lo, bo, pa, ps, (vl, vr, rs, ya, sc))) k C S 36 360 F) := by
  obtain ⟨g, sum, ck, W, hi, ⟨-, h7⟩, hl, hb, h1, h2⟩ := I
  dsimp only at W hi h7 hl hb
  have h24 := hi.2.1.2.1
  dsimp only at h24
  unfold m_M_together
  refine m_start W fun m1 W1 S1 => ?_
  have hi1 : aInv nb (kUp g 0 0) lo bo pa ps (vl, vr, rs, ya, sc) := hi
  have ey : aYarn (kUp g 0 0) ya = aYn jo ya := by rw [← h7]; rfl
  refine ok_eI m_is ?_
  refine ok_if (fun e => ?_) (fun e => ?_)
  · refine x_ref (if_pos ?_) (by decide) h1 h2 W1 hi1 h7 hl hb S1
    rintro (rfl | rfl)
    · exact absurd (is_z.mp e) (by decide)
    · exact absurd (is_z.mp e) (by decide)
  · obtain ⟨n, rfl, p1, p2⟩ := is_nat (a := 2) (b := 3) (by decide) (by decide) e
    have gx : ¬ ¬ (Int32.ofNat n = 2 ∨ Int32.ofNat n = 3) := fun z => z (by
      rcases (show n = 2 ∨ n = 3 by omega) with rfl | rfl
      · exact Or.inl rfl
      · exact Or.inr rfl)
    have en : (Int32.ofNat n).toNatClampNeg = n := i_nat (by omega)
    refine w_leftSize W1 ?_
    refine ok_if (fun e => ?_) (fun e => ?_)
    · unfold m_M_together_42
      exact x_ref ((if_neg gx).trans (if_pos (Or.inl (by rw [en]; exact (i_lt (by omega) (by omega)).mp e)))) (by decide) h1 h2 W1 hi1 h7 hl hb S1
    · have e := (not_congr (i_lt (by omega) (by omega))).mp e
      refine w_rc W1 ?_
      refine ok_eI (m_yarn W1 hi.sw.2.2.2.2 hi1.jn) ?_
      refine ok_if (fun e2 => ?_) (fun e2 => ?_)
      · unfold m_M_together_42
        exact x_ref ((if_neg gx).trans (if_pos (Or.inr (by rw [← ey]; exact e2)))) (by decide) h1 h2 W1 hi1 h7 hl hb S1
      · refine w_rc W1 ?_
        refine ok_cV (m_keep hX (by omega) W1 hi.sw hi.2.2.2.1) fun m2 h => ?_
        obtain ⟨W2, S2⟩ := h
        have hi2 := hi1.keep
        obtain ⟨b, hb7, hb4⟩ := hi2.some (k := 5) (by decide) e2
        have hsp : spTog (Int32.ofNat n) y (nb, jo, lo, bo, pa, ps, (vl, vr, rs, ya, sc)) = (0, sc 6, wC nb jo pa (pKeep ps (vl, vr, rs, ya, sc)) (zTog jo n (if y = 0 then 4 else 5) (lo, bo, (vl, vr, rs, ya, sc)))) := by
          refine (if_neg gx).trans ((if_neg (fun z => z.elim (fun z => e (by rw [en] at z; exact z)) (fun z => e2 (by rw [ey]; exact z)))).trans ?_)
          rw [en]
        obtain ⟨A, ws, ys, rfl, hw, hy⟩ := split3 (l := vl) (n1 := 0) (n2 := n) (by omega)
        have hy : ys = [] := List.length_eq_zero_iff.mp hy
        subst hy
        rw [List.append_nil] at W2 hi2 h24 hi hsp
        rw [List.length_append] at h24
        have e7 : kUp g 0 0 7 = jo := h7
        rw [zTog_eq hw (e7.symm.trans hb7) (by omega)] at hsp
        refine w_rc W2 ?_
        refine ok_cI (m_togNow hX hN W2 hw p2 hi.sw (by omega) (by omega) hb7 hb4) fun x' m3 h => ?_
        obtain ⟨rfl, ck', hck, W3, S3⟩ := h
        rw [e7] at W3
        rw [List.append_nil]
        exact x_ok h1 h2 W3 hsp (hi2.make (fun v hv => List.mem_append_left _ hv) (by omega) rfl rfl) rfl h7 (by simp; omega) (by omega) hck ((S1.trans (S2.trans S3)).mono (by omega) (by omega))
theorem cast_loopE (hX : kXok xm) (hN : 20 ≤ N) (hn : n ≤ 24) (hjo : g 7 = jo) (hj : g 7 = Int32.ofNat b) (hb : b < 4) : ∀ (j i f : Nat) (mem : kM) (w : aW) (ck : Nat), i + j = n → j < f → WR xm M0 g sum w.1 w.2.1 pa ps w.2.2 ck F mem → aInv nb g w.1 w.2.1 pa ps w.2.2 → w.2.2.1.length + w.2.2.2.1.length + j ≤ 24 → w.1.length + j ≤ 12400 →
    dOk (m_M_cast_57 xm N f M0 (Int32.ofNat n) (Int32.ofNat i) mem) (rI fun v m => v = Int32.ofNat (w.2.2.1.length + w.2.2.2.1.length + j) ∧ ∃ ck', WR xm M0 g sum (zIter (zMake jo 0 1 0 2) j w).1 (zIter (zMake jo 0 1 0 2) j w).2.1 pa ps (zIter (zMake jo 0 1 0 2) j w).2.2 ck' F m ∧ aInv nb g (zIter (zMake jo 0 1 0 2) j w).1 (zIter (zMake jo 0 1 0 2) j w).2.1 pa ps (zIter (zMake jo 0 1 0 2) j w).2.2 ∧ (zIter (zMake jo 0 1 0 2) j w).1.length = w.1.length + j ∧ (zIter (zMake jo 0 1 0 2) j w).2.1 = w.2.1 ∧ ck ≤ ck' ∧ St xm mem m (5 * j) (60 * j + 4 * (ck' - ck))) := by
  intro j
  induction j with
  | zero =>
    intro i f mem w ck hi hf W h h24 hlo
    obtain ⟨lo, bo, vl, vr, rs, ya, sc⟩ := w
    obtain ⟨f, rfl⟩ : ∃ f', f = f' + 1 := ⟨f - 1, by omega⟩
    rw [m_M_cast_57, if_neg (fun z => by have := (i_lt (by omega) (by omega)).mp z; omega)]
    refine w_all W ?_
    exact ok_I ⟨rfl, ck, W, h, rfl, rfl, Nat.le_refl _, St.refl.mono (by omega) (by omega)⟩
  | succ j ih =>
    intro i f mem w ck hi hf W h h24 hlo
    obtain ⟨lo, bo, vl, vr, rs, ya, sc⟩ := w
    dsimp only at W h h24 hlo
    obtain ⟨f, rfl⟩ : ∃ f', f = f' + 1 := ⟨f - 1, by omega⟩
    rw [m_M_cast_57, if_pos ((i_lt (by omega) (by omega)).mpr (by omega))]
    refine w_rc W ?_
    refine ok_cI (m_make hX hN W h.sw (by omega) (by omega) hj hb) fun x m1 hh => ?_
    obtain ⟨-, ck1, hck, W1, S1⟩ := hh
    rw [i_add1]
    have h1 := h.make (f := (0, g 7, sc 5, 1, sc 4, 0)) (vl' := vl) (b := b) (y := ya.getD b 0 - 2) (sc' := kUp sc 6 (sc 6 + 1)) (fun v hv => hv) (by omega) rfl rfl
    have e := zMake_eq (jo := jo) (k1 := 0) (k2 := 1) (k3 := 0) (k4 := 2) (lo := lo) (bo := bo) (vl := vl) (vr := vr) (rs := rs) (ya := ya) (sc := sc) (hjo.symm.trans hj) (show b < 2 ^ 31 by omega)
    rw [hjo] at W1 h1
    show dOk _ (rI fun v m => v = Int32.ofNat (vl.length + vr.length + (j + 1)) ∧ ∃ ck', WR xm M0 g sum (zIter (zMake jo 0 1 0 2) j (zMake jo 0 1 0 2 (lo, bo, (vl, vr, rs, ya, sc)))).1 (zIter (zMake jo 0 1 0 2) j (zMake jo 0 1 0 2 (lo, bo, (vl, vr, rs, ya, sc)))).2.1 pa ps (zIter (zMake jo 0 1 0 2) j (zMake jo 0 1 0 2 (lo, bo, (vl, vr, rs, ya, sc)))).2.2 ck' F m ∧ aInv nb g (zIter (zMake jo 0 1 0 2) j (zMake jo 0 1 0 2 (lo, bo, (vl, vr, rs, ya, sc)))).1 (zIter (zMake jo 0 1 0 2) j (zMake jo 0 1 0 2 (lo, bo, (vl, vr, rs, ya, sc)))).2.1 pa ps (zIter (zMake jo 0 1 0 2) j (zMake jo 0 1 0 2 (lo, bo, (vl, vr, rs, ya, sc)))).2.2 ∧ (zIter (zMake jo 0 1 0 2) j (zMake jo 0 1 0 2 (lo, bo, (vl, vr, rs, ya, sc)))).1.length = lo.length + (j + 1) ∧ (zIter (zMake jo 0 1 0 2) j (zMake jo 0 1 0 2 (lo, bo, (vl, vr, rs, ya, sc)))).2.1 = bo ∧ ck ≤ ck' ∧ St xm mem m (5 * (j + 1)) (60 * (j + 1) + 4 * (ck' - ck)))
    rw [e]
    refine ok_mono (ih (i + 1) f m1 (lo ++ [(0, jo, sc 5, 1, sc 4, 0)], bo, (vl, vr ++ [sc 6], rs.map kFall, ya.set b (ya.getD b 0 - 2), kUp sc 6 (sc 6 + 1))) ck1 (by omega) (by omega) W1 h1 (by simp; omega) (by simp; omega)) ?_
    rintro r ⟨v, a1, a2, ck', a3, a4, a5, a6, a7, S2⟩
    refine ⟨v, a1, ?_, ck', a3, a4, ?_, a6, by omega, (S1.trans S2).mono (by omega) (by omega)⟩
    · rw [a2]
      congr 1
      simp
      omega
    · rw [a5]
      simp
      omega
theorem x_cast (hX : kXok xm) (hN : 60 ≤ N) (hk : k < 512) (I : RJ xm M0 t (nb, jo, lo, bo, pa, ps, (vl, vr, rs, ya, sc)) k C S F mem) (x : Int32) : dOk (m_M_cast xm N M0 x mem) (eR xm M0 (spCast x (nb, jo, lo, bo, pa, ps, (vl, vr, rs, ya, sc))) k C S 151 1740 F) := by
  obtain ⟨g, sum, ck, W, hi, ⟨-, h7⟩, hl, hb, h1, h2⟩ := I
  dsimp only at W hi h7 hl hb
  have h24 := hi.2.1.2.1
  dsimp only at h24
  unfold m_M_cast
  refine m_start W fun m1 W1 S1 => ?_
  have hi1 : aInv nb (kUp g 0 0) lo bo pa ps (vl, vr, rs, ya, sc) := hi
  have ey : aYarn (kUp g 0 0) ya = aYn jo ya := by rw [← h7]; rfl
  refine ok_eI m_is ?_
  refine ok_if (fun e => ?_) (fun e => ?_)
  · exact x_ref (if_pos (is_z.mp e)) (by decide) h1 h2 W1 hi1 h7 hl hb S1
  · have g1 : ¬ (x < 1 ∨ 24 < x) := fun z => e (is_z.mpr z)
    obtain ⟨n, rfl, p1, p2⟩ := is_nat (a := 1) (b := 24) (by decide) (by decide) e
    have en : (Int32.ofNat n).toNatClampNeg = n := i_nat (by omega)
    refine w_rc W1 ?_
    refine ok_eI (m_yarn W1 hi.sw.2.2.2.2 hi1.jn) ?_
    refine ok_if (fun e2 => ?_) (fun e2 => ?_)
    · unfold m_M_cast_45
      exact x_ref ((if_neg g1).trans (if_pos (Or.inl (by rw [← ey]; exact e2)))) (by decide) h1 h2 W1 hi1 h7 hl hb S1
    · refine w_all W1 ?_
      rw [i_add]
      refine ok_if (fun e => ?_) (fun e => ?_)
      · unfold m_M_cast_45
        exact x_ref ((if_neg g1).trans (if_pos (Or.inr (by rw [en]; exact (i_lt (a := 24) (by decide) (by omega)).mp e)))) (by decide) h1 h2 W1 hi1 h7 hl hb S1
      · have e := (not_congr (i_lt (a := 24) (by decide) (by omega))).mp e
        refine w_rc W1 ?_
        refine ok_cV (m_keep hX (by omega) W1 hi.sw hi.2.2.2.1) fun m2 h => ?_
        obtain ⟨W2, S2⟩ := h
        have hi2 := hi1.keep
        have hsp : spCast (Int32.ofNat n) (nb, jo, lo, bo, pa, ps, (vl, vr, rs, ya, sc)) = (0, Int32.ofNat (vl.length + vr.length + n), wC nb jo pa (pKeep ps (vl, vr, rs, ya, sc)) (zIter (zMake jo 0 1 0 2) n (lo, bo, (vl, vr, rs, ya, sc)))) := by
          refine (if_neg g1).trans ((if_neg (fun z => z.elim (fun z => e2 (by rw [ey]; exact z)) (fun z => e (by rw [en] at z; exact z)))).trans ?_)
          rw [en]
        have e3 : (2 : Int32) * Int32.ofNat n = Int32.ofNat (2 * n) := i_mul (a := 2)
        rw [e3] at e2
        obtain ⟨b, hb7, hb4⟩ := hi2.some (k := Int32.ofNat (2 * n)) (i_ge0 (by omega)) e2
        refine ok_mono (cast_loopE (g := kUp g 0 0) (pa := pa) (F := F) (nb := nb) (jo := jo) hX (by omega) p2 h7 hb7 hb4 n 0 N m2 (lo, bo, (vl, vr, rs, ya, sc)) ck (by omega) (by omega) W2 hi2 (by dsimp only; omega) (by dsimp only; omega)) ?_
        rintro r ⟨v, a1, a2, ck', a3, a4, a5, a6, a7, S3⟩
        rw [hsp]
        refine ⟨v, a1, fun _ => a2, ?_⟩
        exact RJ.mk' h1 h2 a3 a4 ⟨rfl, h7⟩ (by rw [a5]; dsimp only; omega) (by rw [a6]; dsimp only; omega) a7 ((S1.trans (S2.trans S3)).mono (by omega) (by omega))
end ER
