/-! ===== what is asked, exactly: on, left, ofRun ===== -/
def spOn (x y : Int32) : aC → aR
  | (nb, jo, lo, bo, pa, ps, (vl, vr, rs, ya, sc)) => if y < 0 ∨ ¬ y < 24 then (1, 0, (nb, jo, lo, bo, pa, ps, (vl, vr, rs, ya, sc))) else (0, nAt (if x = 0 then vl else vr) y.toNatClampNeg, (nb, jo, lo, bo, pa, ps, (vl, vr, rs, ya, sc)))
def spLeft (x : Int32) : aC → aR
  | (nb, jo, lo, bo, pa, ps, (vl, vr, rs, ya, sc)) => if x < 0 ∨ ¬ x < Int32.ofNat nb then (1, 0, (nb, jo, lo, bo, pa, ps, (vl, vr, rs, ya, sc))) else (0, ya.getD x.toNatClampNeg 0, (nb, jo, lo, bo, pa, ps, (vl, vr, rs, ya, sc)))
def spOfRun (x y : Int32) : aC → aR
  | (nb, jo, lo, bo, pa, ps, (vl, vr, rs, ya, sc)) => if x < 0 ∨ ¬ x < Int32.ofNat rs.length then (1, 0, (nb, jo, lo, bo, pa, ps, (vl, vr, rs, ya, sc))) else if y < 0 ∨ ¬ y < 4 then (2, 0, (nb, jo, lo, bo, pa, ps, (vl, vr, rs, ya, sc))) else (0, (rs.getD x.toNatClampNeg []).getD y.toNatClampNeg 0, (nb, jo, lo, bo, pa, ps, (vl, vr, rs, ya, sc)))
/-- a call that asks, within the reference -/
def aE (xm : Nat → Option kE) (M0 : Nat) (L B P Q : kLi) (c : kCs) (cs : List kCs) (g : Nat → Int32) (lo : List kLf) (bo pa : List Int32) (ps : List aS) (st : aS) (F : kSg) (mem : kM) (c0 s0 : Nat) (sp : aR) : kO × kM → Prop := rI fun v m2 => ∃ g' sum', WC xm M0 L B P Q c cs g' sum' lo bo pa ps st F m2 ∧ g' 6 = g 6 ∧ g' 7 = g 7 ∧ St xm mem m2 c0 s0 ∧ g' 0 = sp.1 ∧ (sp.1 = 0 → v = sp.2.1)
section FA
variable {xm : Nat → Option kE} {mem m0 : kM} {F : kSg} {X : dRes} {N k nb c0 s0 c1 s1 cap0 n M0 C S : Nat} {jo x y z t v : Int32} {lo : List kLf} {bo pa vl vr ya : List Int32} {ps : List aS} {rs : List (List Int32)} {sc : Nat → Int32} {st : aS} {T : Nat → Int32} {h : kHs} {sp : aR} {L B P Q : kLi} {s y0 : Nat} {l r u : kLi} {cs : List kCs} {c : kCs} {g : Nat → Int32} {sum : Int64}
theorem q_needle (D : eQ xm (eS nb jo pa st T h F) c1 s1 m0 cap0 mem) : m_K_needle xm N 1000 x mem = some (.inl (some (.ref (if x = 0 then 1004 else 1006))), mem) := by
  refine ok_eq ?_
  unfold m_K_needle
  refine ok_if (fun g => ?_) (fun g => ?_)
  · rw [if_pos g]
    refine x_gR D 0 (fun _ _ => rfl) rfl ?_
    refine x_gR D 3 (fun _ _ => rfl) rfl ?_
    exact ok_me
  · rw [if_neg g]
    refine x_gR D 0 (fun _ _ => rfl) rfl ?_
    refine x_gR D 3 (fun _ _ => rfl) rfl ?_
    exact ok_me
theorem q_on (D : KS xm nb jo lo bo pa ps (vl, vr, rs, ya, sc) F 0 0 m0 cap0 mem) : dOk (m_K_on xm N 1000 x y mem) (eX xm 2 0 (spOn x y (nb, jo, lo, bo, pa, ps, (vl, vr, rs, ya, sc))) F m0 cap0) := by
  have D0 := D
  obtain ⟨T, h, I, D⟩ := D
  have h1 : vl.length ≤ 24 := I.sw.1
  have h2 : vr.length ≤ 24 := I.sw.2.1
  unfold m_K_on
  refine ok_if (fun g => q_ex1 (if_pos (Or.inl g)) D0) (fun g1 => ?_)
  refine ok_if (fun g2 => ?_) (fun g => q_ex1 (if_pos (Or.inr g)) D0)
  have g12 : ¬ (y < 0 ∨ ¬ y < 24) := fun z => z.elim g1 (fun z => z g2)
  obtain ⟨ey, ly⟩ := i_of (Int32.not_lt.mp g1)
  generalize hn : y.toNatClampNeg = n at ey ly
  subst ey
  refine x_rc D 0 (fun _ _ => ⟨_, rfl⟩) ?_
  refine ok_eR (q_needle D) ?_
  by_cases g : x = 0
  · rw [if_pos g]
    refine x_rc D 4 (fun _ _ => ⟨_, rfl⟩) ?_
    refine x_ro D (fun q cap k2 hz H => nE_at (p := n) (a := 1004) (b := 1005) (j := 4) (vl := vl) ly h1 H rfl rfl) ?_
    exact q_end (c := (nb, jo, lo, bo, pa, ps, (vl, vr, rs, ya, sc))) ((if_neg g12).trans (by rw [hn, if_pos g])) D0
  · rw [if_neg g]
    refine x_rc D 6 (fun _ _ => ⟨_, rfl⟩) ?_
    refine x_ro D (fun q cap k2 hz H => nE_at (p := n) (a := 1006) (b := 1007) (j := 6) (vl := vr) ly h2 H rfl rfl) ?_
    exact q_end (c := (nb, jo, lo, bo, pa, ps, (vl, vr, rs, ya, sc))) ((if_neg g12).trans (by rw [hn, if_neg g])) D0
theorem q_left (D : KS xm nb jo lo bo pa ps (vl, vr, rs, ya, sc) F 0 0 m0 cap0 mem) : dOk (m_K_left xm N 1000 x mem) (eX xm 2 0 (spLeft x (nb, jo, lo, bo, pa, ps, (vl, vr, rs, ya, sc))) F m0 cap0) := by
  have D0 := D
  obtain ⟨T, h, I, D⟩ := D
  have hy4 : ya.length = 4 := I.sw.2.2.2.2
  have hn4 := I.nb4
  unfold m_K_left
  refine x_gR D 0 (fun _ _ => rfl) rfl ?_
  refine x_rc D 1 (fun _ _ => ⟨_, rfl⟩) ?_
  refine x_ro D (fun q cap k2 hz H => bE_has (a := 1001) (b := 1002) (nb := nb) (j := 1) (ya := ya) hn4 hy4 H rfl rfl) ?_
  by_cases g1 : x < 0
  · rw [if_pos g1, if_pos rfl]
    exact q_ex1 (if_pos (Or.inl g1)) D0
  · rw [if_neg g1]
    by_cases g2 : x < Int32.ofNat nb
    · rw [if_pos g2, if_neg (by decide)]
      have g12 : ¬ (x < 0 ∨ ¬ x < Int32.ofNat nb) := fun z => z.elim g1 (fun z => z g2)
      obtain ⟨ex, lx⟩ := i_of (Int32.not_lt.mp g1)
      generalize hn : x.toNatClampNeg = n at ex lx
      subst ex
      refine x_gR D 0 (fun _ _ => rfl) rfl ?_
      refine x_rc D 1 (fun _ _ => ⟨_, rfl⟩) ?_
      refine x_ro D (fun q cap k2 hz H => bE_of (c := n) (a := 1001) (b := 1002) (nb := nb) (j := 1) (ya := ya) ((i_lt lx (by omega)).mp g2) hn4 hy4 H rfl rfl) ?_
      exact q_end (c := (nb, jo, lo, bo, pa, ps, (vl, vr, rs, ya, sc))) ((if_neg g12).trans (by rw [hn])) D0
    · rw [if_neg g2, if_pos rfl]
      exact q_ex1 (if_pos (Or.inr g2)) D0
theorem q_ofRun (D : KS xm nb jo lo bo pa ps (vl, vr, rs, ya, sc) F 0 0 m0 cap0 mem) : dOk (m_K_ofRun xm N 1000 x y mem) (eX xm 2 0 (spOfRun x y (nb, jo, lo, bo, pa, ps, (vl, vr, rs, ya, sc))) F m0 cap0) := by
  have D0 := D
  obtain ⟨T, h, I, D⟩ := D
  have h9 : rs.length ≤ 9 := I.sw.2.2.1
  unfold m_K_ofRun
  refine ok_if (fun g => q_ex1 (if_pos (Or.inl g)) D0) (fun g1 => ?_)
  refine x_gR D 0 (fun _ _ => rfl) rfl ?_
  refine x_gE (x := Int32.ofNat rs.length) D 3 (fun _ _ => rfl) rfl ?_
  refine ok_if (fun g2 => ?_) (fun g => q_ex1 (if_pos (Or.inr g)) D0)
  have g12 : ¬ (x < 0 ∨ ¬ x < Int32.ofNat rs.length) := fun z => z.elim g1 (fun z => z g2)
  refine ok_if (fun g => q_ex2 ((if_neg g12).trans (if_pos (Or.inl g))) D0) (fun g3 => ?_)
  refine ok_if (fun g4 => ?_) (fun g => q_ex2 ((if_neg g12).trans (if_pos (Or.inr g))) D0)
  have g34 : ¬ (y < 0 ∨ ¬ y < 4) := fun z => z.elim g3 (fun z => z g4)
  obtain ⟨ex, lx⟩ := i_of (Int32.not_lt.mp g1)
  obtain ⟨ey, ly⟩ := i_of (Int32.not_lt.mp g3)
  generalize hn : x.toNatClampNeg = n at ex lx
  generalize hk : y.toNatClampNeg = k at ey ly
  subst ex
  subst ey
  refine x_gR D 0 (fun _ _ => rfl) rfl ?_
  refine x_gR D 3 (fun _ _ => rfl) rfl ?_
  refine x_rc D 8 (fun _ _ => ⟨_, rfl⟩) ?_
  have hnr : n < rs.length := (i_lt lx (by omega)).mp g2
  refine x_ro D (fun q cap k2 hz H => wE_runGet (i := 3) (a := 1003) (r := n) (w := k) (st := (vl, vr, rs, ya, sc)) hnr h9 ((i_lt (b := 4) ly (by decide)).mp g4) H isWE_now) ?_
  exact q_end (c := (nb, jo, lo, bo, pa, ps, (vl, vr, rs, ya, sc))) ((if_neg g12).trans ((if_neg g34).trans (by rw [hn, hk]))) D0
/-! the reference -/
theorem RJ.askE {K : kM → dRes} (hsp : sp.2.2 = (nb, jo, lo, bo, pa, ps, (vl, vr, rs, ya, sc))) (I : RJ xm M0 t (nb, jo, lo, bo, pa, ps, (vl, vr, rs, ya, sc)) k C S F mem) (h : ∀ (L B P Q : kLi) (s y : Nat) (l r u : kLi) (cs : List kCs) g sum m, WC xm M0 L B P Q (s, l, r, u, y) cs g sum lo bo pa ps (vl, vr, rs, ya, sc) F m → aInv nb g lo bo pa ps (vl, vr, rs, ya, sc) → g 0 = 0 → g 7 = jo → lo.length ≤ 24 * k → bo.length ≤ 24 * k → dOk (K m) (aE xm M0 L B P Q (s, l, r, u, y) cs g lo bo pa ps (vl, vr, rs, ya, sc) F m c0 s0 sp)) : dOk (dP xm mem M0 15 0 (.int 0) K) (eR xm M0 sp k C S c0 s0 F) := by
  obtain ⟨g, sum, ck, W, hi, ⟨-, h7⟩, hl, hb, h1, h2⟩ := I
  dsimp only at W hi h7 hl hb
  obtain ⟨L, B, P, Q, ⟨s, l, r, u, y⟩, cs, H, R, hck, hx⟩ := W
  subst hck
  refine os_p H 0 0 rfl rfl rfl rfl fun m H1 S1 => ?_
  refine ok_mono (h L B P Q s y l r u cs (kUp g 0 0) sum m ⟨H1, R.st S1, hx⟩ hi rfl h7 hl hb) ?_
  rintro w ⟨v, q1, g', sum', V, q6, q7, S2, q0, qv⟩
  refine ⟨v, q1, qv, ?_⟩
  rw [hsp]
  refine RJ.mk' h1 h2 V.wr ?_ ⟨q0, q7.trans h7⟩ (by omega) (by omega) (Nat.le_refl _) ((S1.trans S2).mono (by omega) (by omega))
  obtain ⟨⟨a1, a2, a3⟩, a4⟩ := hi
  have q6' : g' 6 = g 6 := q6
  have q7' : g' 7 = g 7 := q7
  exact ⟨⟨by rw [q6']; exact a1, a2, by rw [q7']; exact a3⟩, a4⟩
theorem e_ref (V : WC xm M0 L B P Q c cs g sum lo bo pa ps st F mem) (h1 : sp.1 = x) (hx : x ≠ 0) : dOk (dRc xm mem M0 15 <| dCI (m_M_refuse xm N M0 x mem) fun v m => some (.inl (some (.int v)), m)) (aE xm M0 L B P Q c cs g lo bo pa ps st F mem c0 s0 sp) := by
  refine ok_rc (V.1.look 0 0 rfl rfl) ?_
  have key : dOk (m_M_refuse xm N M0 x mem) (rI fun v m => WC xm M0 L B P Q c cs (kUp g 0 x) sum lo bo pa ps st F m ∧ St xm mem m 0 0) := by
    unfold m_M_refuse
    refine os_p V.1 0 0 rfl rfl rfl rfl fun m H1 S1 => ?_
    exact ok_I ⟨⟨H1, V.2.1.st S1, V.2.2⟩, S1⟩
  refine ok_cI key fun v m hh => ?_
  exact ok_I ⟨kUp g 0 x, sum, hh.1, rfl, rfl, hh.2.mono (by omega) (by omega), h1.symm, fun z => absurd (h1.symm.trans z) hx⟩
theorem e_same (V : WC xm M0 L B P Q c cs g sum lo bo pa ps st F mem) (h0 : g 0 = 0) (hsp : sp.1 = 0 ∧ sp.2.1 = v) : dOk (some (.inl (some (.int v)), mem)) (aE xm M0 L B P Q c cs g lo bo pa ps st F mem c0 s0 sp) := ok_I ⟨g, sum, V, rfl, rfl, St.refl.mono (by omega) (by omega), h0.trans hsp.1.symm, fun _ => hsp.2.symm⟩
theorem is_nn {x : Int32} {n : Nat} (hn : n < 2 ^ 31) {m : Int32} (hm : Int32.ofNat n - 1 = m) : (x < 0 ∨ m < x) ↔ (x < 0 ∨ ¬ x < Int32.ofNat n) := by
  rw [← hm]
  exact is_n hn
theorem v_on (hX : kXok xm) (I : RJ xm M0 t (nb, jo, lo, bo, pa, ps, (vl, vr, rs, ya, sc)) k C S F mem) (x z : Int32) : dOk (m_M_on xm N M0 x z mem) (eR xm M0 (spOn x z (nb, jo, lo, bo, pa, ps, (vl, vr, rs, ya, sc))) k C S 0 0 F) := by
  have hsp : (spOn x z (nb, jo, lo, bo, pa, ps, (vl, vr, rs, ya, sc))).2.2 = (nb, jo, lo, bo, pa, ps, (vl, vr, rs, ya, sc)) := by
    unfold spOn
    dsimp only
    split <;> rfl
  unfold m_M_on
  refine RJ.askE hsp I fun L B P Q s y l r u cs g sum m V hi h0 h7 hl hb => ?_
  refine ok_eI m_is ?_
  refine ok_if (fun e => ?_) (fun e => ?_)
  · have e' : z < 0 ∨ ¬ z < 24 := (is_nn (n := 24) (by decide) (by decide)).mp (is_z.mp e)
    exact e_ref V (congrArg (fun r : aR => r.1) (if_pos e')) (by decide)
  · have e' : ¬ (z < 0 ∨ ¬ z < 24) := fun w => e (is_z.mpr ((is_nn (n := 24) (by decide) (by decide)).mpr w))
    obtain ⟨n, rfl, p1, p2⟩ := is_nat (a := 0) (b := 23) (by decide) (by decide) e
    have en : (Int32.ofNat n).toNatClampNeg = n := i_nat (by omega)
    have es : spOn x (Int32.ofNat n) (nb, jo, lo, bo, pa, ps, (vl, vr, rs, ya, sc)) = (0, nAt (if x = 0 then vl else vr) n, (nb, jo, lo, bo, pa, ps, (vl, vr, rs, ya, sc))) := (if_neg e').trans (by rw [en])
    refine ok_rc (V.1.look 0 0 rfl rfl) ?_
    refine ok_eR (m_needle V) ?_
    obtain ⟨i, a, q, cap, mc, es', vs, ha, hs, hw, hv, hvs⟩ := c_nd V x
    rw [ha]
    have hlt := hw.lt
    have hvl := hv.1
    refine ok_rc (ls_hd V.1 i hs) ?_
    refine ok_eI (ls_size V.1 i hs) ?_
    refine ok_if (fun e2 => ?_) (fun e2 => ?_)
    · have e2 := (i_lt (by omega) hlt).mp e2
      refine ok_rc (ls_hd V.1 i hs) ?_
      refine ok_eI (ls_size V.1 i hs) ?_
      refine ok_rc (ls_hd V.1 i hs) ?_
      rw [i_sub1 (by omega), i_sub (by omega)]
      refine ok_eR (ls_get (j := es'.length - 1 - n) hX hw V.1 i hs (by omega)) ?_
      have hk : kIv xm m es'[es'.length - 1 - n] (vs[es'.length - 1 - n]'(by omega)) := hv.at (by omega) (by omega)
      refine ok_ccO hk ?_
      refine ok_rc hk ?_
      refine ok_eI (int_val hk) (e_same V h0 ?_)
      rw [es]
      refine ⟨rfl, ?_⟩
      show nAt (if x = 0 then vl else vr) n = _
      rw [← hvs]
      unfold nAt
      rw [if_pos (by omega), List.getD_eq_getElem?_getD, List.getElem?_eq_getElem (by omega)]
      simp only [hvl]
      rfl
    · have e2 := (not_congr (i_lt (by omega) hlt)).mp e2
      refine e_same V h0 ?_
      rw [es]
      refine ⟨rfl, ?_⟩
      show nAt (if x = 0 then vl else vr) n = _
      rw [← hvs]
      unfold nAt
      rw [if_neg (by omega)]
theorem v_left (I : RJ xm M0 t (nb, jo, lo, bo, pa, ps, (vl, vr, rs, ya, sc)) k C S F mem) (x : Int32) : dOk (m_M_left xm N M0 x mem) (eR xm M0 (spLeft x (nb, jo, lo, bo, pa, ps, (vl, vr, rs, ya, sc))) k C S 0 0 F) := by
  have hsp : (spLeft x (nb, jo, lo, bo, pa, ps, (vl, vr, rs, ya, sc))).2.2 = (nb, jo, lo, bo, pa, ps, (vl, vr, rs, ya, sc)) := by
    unfold spLeft
    dsimp only
    split <;> rfl
  unfold m_M_left
  refine RJ.askE hsp I fun L B P Q s y l r u cs g sum m V hi h0 h7 hl hb => ?_
  refine ok_gI (V.1.look 0 0 rfl rfl) rfl ?_
  have hnb := hi.1.2.1
  have h6 : g 6 = Int32.ofNat nb := hi.1.1
  refine ok_eI m_is ?_
  rw [h6]
  refine ok_if (fun e => ?_) (fun e => ?_)
  · exact e_ref V (congrArg (fun r : aR => r.1) (if_pos ((is_n (by omega)).mp (is_z.mp e)))) (by decide)
  · have e' : ¬ (x < 0 ∨ ¬ x < Int32.ofNat nb) := fun w => e (is_z.mpr ((is_n (by omega)).mpr w))
    obtain ⟨i, rfl, hil⟩ := in_nat (by omega) e
    have h4 := hi.sw.2.2.2.2
    dsimp only at h4
    refine ok_gR (V.1.look 0 0 rfl rfl) rfl ?_
    refine ok_gR (V.1.look 5 0 rfl rfl) rfl ?_
    refine ok_iL (V.1.look 10 0 rfl rfl) ?_ (e_same V h0 ?_)
    · dsimp only
      rw [h4]
      exact i_inB (by omega) (by decide)
    · have es : spLeft (Int32.ofNat i) (nb, jo, lo, bo, pa, ps, (vl, vr, rs, ya, sc)) = (0, ya.getD (Int32.ofNat i).toNatClampNeg 0, (nb, jo, lo, bo, pa, ps, (vl, vr, rs, ya, sc))) := if_neg e'
      rw [es]
      exact ⟨rfl, rfl⟩
theorem v_ofRun (hX : kXok xm) (I : RJ xm M0 t (nb, jo, lo, bo, pa, ps, (vl, vr, rs, ya, sc)) k C S F mem) (x z : Int32) : dOk (m_M_ofRun xm N M0 x z mem) (eR xm M0 (spOfRun x z (nb, jo, lo, bo, pa, ps, (vl, vr, rs, ya, sc))) k C S 0 0 F) := by
  have hsp : (spOfRun x z (nb, jo, lo, bo, pa, ps, (vl, vr, rs, ya, sc))).2.2 = (nb, jo, lo, bo, pa, ps, (vl, vr, rs, ya, sc)) := by
    unfold spOfRun
    dsimp only
    split
    · rfl
    · split <;> rfl
  unfold m_M_ofRun
  refine RJ.askE hsp I fun L B P Q s y l r u cs g sum m V hi h0 h7 hl hb => ?_
  have hr9 := hi.sw.2.2.1
  dsimp only at hr9
  refine w_rc V.wr ?_
  refine ok_eI (m_isRun V.wr x) ?_
  refine ok_if (fun e => ?_) (fun e => ?_)
  · exact e_ref V (congrArg (fun r : aR => r.1) (if_pos ((is_n (by omega)).mp (is_z.mp e)))) (by decide)
  · have e' : ¬ (x < 0 ∨ ¬ x < Int32.ofNat rs.length) := fun w => e (is_z.mpr ((is_n (by omega)).mpr w))
    obtain ⟨i, rfl, hil⟩ := in_nat (by omega) e
    refine ok_eI m_is ?_
    refine ok_if (fun e2 => ?_) (fun e2 => ?_)
    · have e2' : z < 0 ∨ ¬ z < 4 := (is_nn (n := 4) (by decide) (by decide)).mp (is_z.mp e2)
      exact e_ref V (congrArg (fun r : aR => r.1) ((if_neg e').trans (if_pos e2'))) (by decide)
    · have e2' : ¬ (z < 0 ∨ ¬ z < 4) := fun w => e2 (is_z.mpr ((is_nn (n := 4) (by decide) (by decide)).mpr w))
      obtain ⟨n, rfl, p1, p2⟩ := is_nat (a := 0) (b := 3) (by decide) (by decide) e2
      refine w_run hX V.wr hil fun e he => ?_
      have hz : rs[i].length = 4 := hi.sw.2.2.2.1 _ (List.getElem_mem hil)
      refine ok_iL he (by rw [hz]; exact i_inB (by omega) (by decide)) (e_same V h0 ?_)
      have es : spOfRun (Int32.ofNat i) (Int32.ofNat n) (nb, jo, lo, bo, pa, ps, (vl, vr, rs, ya, sc)) = (0, (rs.getD (Int32.ofNat i).toNatClampNeg []).getD (Int32.ofNat n).toNatClampNeg 0, (nb, jo, lo, bo, pa, ps, (vl, vr, rs, ya, sc))) := (if_neg e').trans (if_neg e2')
      rw [es, i_nat (show i < 2 ^ 31 by omega), show rs.getD i [] = rs[i] by rw [List.getD_eq_getElem?_getD, List.getElem?_eq_getElem hil]; rfl]
      exact ⟨rfl, rfl⟩
end FA
