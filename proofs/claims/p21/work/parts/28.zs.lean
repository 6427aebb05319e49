/-! ===== the class's calls: the others ===== -/
section KZQ
variable {xm : Nat → Option kE} {mem m0 : kM} {F G : kSg} {S T : kO × kM → Prop} {N r ci k n nb cap0 c0 s0 q cap a j O c : Nat} {x y z : Int32} {w : Int64} {X : dRes} {ts : List fTy}
theorem i_rng {x : Int32} {n : Nat} (hn : n < 2 ^ 31) (h1 : ¬ x < 1) (h2 : ¬ Int32.ofNat n < x) : ∃ i : Nat, 1 ≤ i ∧ i ≤ n ∧ x = Int32.ofNat i := by
  have h0 : ¬ x < 0 := fun h => h1 (Int32.lt_trans h (by decide))
  obtain ⟨e, l⟩ := i_of (Int32.not_lt.mp h0)
  generalize x.toNatClampNeg = i at e l
  subst e
  refine ⟨i, ?_, ?_, rfl⟩
  · rcases Nat.eq_zero_or_pos i with rfl | h
    · exact absurd (show Int32.ofNat 0 < 1 by decide) h1
    · exact h
  · exact Nat.not_lt.mp fun h => h2 ((i_lt hn l).mpr h)
/-! a work whose count of runs is known -/
def isWkR (Ts : kTyL) (i a c : Nat) : Prop := ∀ d < 7, Ts[i + d]? = ((wT a).set 0 (a, cO 10 [fR (a + 1), fR (a + 3), fR (a + 5), fE (Int32.ofNat c), fI, fI, fI, fI, fI, fI]))[d]?
def cTr (nb q cap c : Nat) : kTyL := (cT nb q cap).set 3 (1003, cO 10 [fR 1004, fR 1006, fR 1008, fE (Int32.ofNat c), fI, fI, fI, fI, fI, fI])
theorem cTr_un (hc : c ≤ 9) (H : HpT (cTr nb q cap c) F mem) : HpT (cT nb q cap) F mem := by
  have h := H.loose (k := 3) (t' := fB 9) 3 rfl rfl ⟨c, hc, rfl⟩
  have e : (cTr nb q cap c).set 3 (1003, cO 10 ([fR 1004, fR 1006, fR 1008, fE (Int32.ofNat c), fI, fI, fI, fI, fI, fI].set 3 (fB 9))) = cT nb q cap := by
    unfold cTr
    rw [List.set_set]
    exact set_self rfl
  rw [e] at h
  exact h
theorem isWkR_now {x : Int32} : isWkR ((cTr nb q cap c).set 16 (1016, cO 6 [fR 1017, fR 1018, fR 1019, fE x, fI])) 3 1003 c := by
  intro d hd
  match d, hd with
  | 0, _ | 1, _ | 2, _ | 3, _ | 4, _ | 5, _ | 6, _ => rfl
theorem set_id16R {x : Int32} : ((cTr nb q cap c).set 16 (1016, cO 6 [fR 1017, fR 1018, fR 1019, fE x, fI])).set 16 (1016, cO 6 [fR 1017, fR 1018, fR 1019, fI, fI]) = cTr nb q cap c := by
  rw [List.set_set]
  exact set_self rfl
theorem w_copyFromR {Ts : kTyL} {i a1 : Nat} (hij : i + 7 ≤ j ∨ j + 7 ≤ i) (H : HpT Ts F mem) (W : isWk Ts j a) (V : isWkR Ts i a1 c) (hc : c ≤ 9) : dOk (m_Work_copyFrom xm N a a1 mem) (rV fun m => HpT Ts F m ∧ St xm mem m 0 0) := by
  unfold m_Work_copyFrom
  refine t_gR H j (W 0 (by decide)) rfl ?_
  refine t_gR H i (V 0 (by decide)) rfl ?_
  refine t_rc H (j + 1) (W 1 (by decide)) ?_
  refine ok_cV (n_copyFrom (i := i + 1) (j := j + 1) (by omega) H (W 1 (by decide)) (W 2 (by decide)) (V 1 (by decide)) (V 2 (by decide))) fun m1 h1 => ?_
  obtain ⟨H1, S1⟩ := h1
  refine t_gR H1 j (W 0 (by decide)) rfl ?_
  refine t_gR H1 i (V 0 (by decide)) rfl ?_
  refine t_rc H1 (j + 3) (W 3 (by decide)) ?_
  refine ok_cV (n_copyFrom (i := i + 3) (j := j + 3) (by omega) H1 (W 3 (by decide)) (W 4 (by decide)) (V 3 (by decide)) (V 4 (by decide))) fun m2 h2 => ?_
  obtain ⟨H2, S2⟩ := h2
  refine t_gR H2 j (W 0 (by decide)) rfl ?_
  refine t_gR H2 i (V 0 (by decide)) rfl ?_
  refine t_rc H2 (j + 5) (W 5 (by decide)) ?_
  refine ok_cV (tb_copyFrom (i := i + 5) (j := j + 5) (n := 36) (f := 4) (mr := 9) (f1 := 4) (mr1 := 9) (by decide) H2 (W 5 (by decide)) (W 6 (by decide)) (V 5 (by decide)) (V 6 (by decide))) fun m3 h3 => ?_
  obtain ⟨H3, S3⟩ := h3
  refine t_gE H3 i (V 0 (by decide)) rfl ?_
  refine t_p H3 j (W 0 (by decide)) rfl rfl ⟨c, hc, rfl⟩ fun m4 H4 S4 => ?_
  refine t_gI H4 i (V 0 (by decide)) rfl fun x1 => ?_
  refine t_p H4 j (W 0 (by decide)) rfl rfl ⟨_, rfl⟩ fun m5 H5 S5 => ?_
  refine t_gI H5 i (V 0 (by decide)) rfl fun x1 => ?_
  refine t_p H5 j (W 0 (by decide)) rfl rfl ⟨_, rfl⟩ fun m6 H6 S6 => ?_
  refine t_gI H6 i (V 0 (by decide)) rfl fun x1 => ?_
  refine t_p H6 j (W 0 (by decide)) rfl rfl ⟨_, rfl⟩ fun m7 H7 S7 => ?_
  refine t_gI H7 i (V 0 (by decide)) rfl fun x1 => ?_
  refine t_p H7 j (W 0 (by decide)) rfl rfl ⟨_, rfl⟩ fun m8 H8 S8 => ?_
  refine t_gI H8 i (V 0 (by decide)) rfl fun x1 => ?_
  refine t_p H8 j (W 0 (by decide)) rfl rfl ⟨_, rfl⟩ fun m9 H9 S9 => ?_
  refine t_gI H9 i (V 0 (by decide)) rfl fun x1 => ?_
  refine t_p H9 j (W 0 (by decide)) rfl rfl ⟨_, rfl⟩ fun m10 H10 S10 => ?_
  exact ok_V ⟨H10, S1.trans (S2.trans (S3.trans (S4.trans (S5.trans (S6.trans (S7.trans (S8.trans (S9.trans S10))))))))⟩
theorem h_keepR (hX : kXok xm) (hc : c ≤ 9) (HR : HpT (cTr nb q cap c) F mem) : dOk (m_History_keep xm N 1016 1003 1001 mem) (rV fun m => HpT (cTr nb q cap c) F m ∧ St xm mem m 0 0) := by
  have H := cTr_un hc HR
  obtain ⟨x, H0⟩ := HR.pinI (k := 3) 16 rfl rfl
  have H0 : HpT ((cTr nb q cap c).set 16 (1016, cO 6 [fR 1017, fR 1018, fR 1019, fE x, fI])) F mem := H0
  unfold m_History_keep
  refine t_gE H0 16 rfl rfl ?_
  refine t_rc H 16 rfl ?_
  obtain ⟨v, hv0, hv⟩ := h_isSlot (xm := xm) (N := N) (x := x) H
  refine ok_eI hv ?_
  refine ok_if (fun _ => ok_V ⟨HR, St.refl⟩) (fun g => ?_)
  have gx := hv0 g
  have gk := inB_lt gx
  generalize hk : x.toNatClampNeg = k at gk
  have hq : kW12.getD x.toNatClampNeg none = some (1020 + 7 * k) := by rw [hk]; exact kW12_at gk
  have W : isWk ((cTr nb q cap c).set 16 (1016, cO 6 [fR 1017, fR 1018, fR 1019, fE x, fI])) (20 + 7 * k) (1020 + 7 * k) := ((isWk_12 gk).set (by omega)).set (by omega)
  have V : isWkR ((cTr nb q cap c).set 16 (1016, cO 6 [fR 1017, fR 1018, fR 1019, fE x, fI])) 3 1003 c := isWkR_now
  refine t_gR H0 16 rfl rfl ?_
  refine t_gE H0 16 rfl rfl ?_
  refine t_alN H0 17 rfl (by decide) gx hq ?_
  refine t_gR H0 16 rfl rfl ?_
  refine t_gE H0 16 rfl rfl ?_
  refine t_aL H0 17 rfl (by decide) gx hq ?_
  refine t_rc H0 (20 + 7 * k) (W 0 (by decide)) ?_
  refine ok_cV (w_copyFromR (i := 3) (j := 20 + 7 * k) (by omega) H0 W V hc) fun m1 h1 => ?_
  obtain ⟨H1, S1⟩ := h1
  refine t_gR H1 16 rfl rfl ?_
  refine t_gE H1 16 rfl rfl ?_
  refine t_gI H1 1 rfl rfl fun jo => ?_
  refine t_iS H1 18 rfl gx fun m2 H2 S2 => ?_
  refine t_gR H2 16 rfl rfl ?_
  refine t_gE H2 16 rfl rfl ?_
  refine t_rc H2 1 rfl ?_
  obtain ⟨w, hw⟩ := b_ofJoined (xm := xm) (N := N) (a := 1001) (b := 1002) (nb := nb) (j := 1) H2 rfl rfl
  refine ok_eI hw ?_
  refine t_iS H2 19 rfl gx fun m3 H3 S3 => ?_
  refine t_gE H3 16 rfl rfl ?_
  have last : ∀ s : Int32, dOk (m_History_keep_85 xm N 1016 1016 s m3) (rV fun m => HpT (cTr nb q cap c) F m ∧ St xm mem m 0 0) := by
    intro s
    unfold m_History_keep_85
    refine t_pT (t' := fI) H3 16 rfl rfl rfl ⟨s, rfl⟩ fun m4 H4 S4 => ?_
    have H4 : HpT (((cTr nb q cap c).set 16 (1016, cO 6 [fR 1017, fR 1018, fR 1019, fE x, fI])).set 16 (1016, cO 6 [fR 1017, fR 1018, fR 1019, fI, fI])) F m4 := H4
    rw [set_id16R] at H4
    refine t_gI H4 16 rfl rfl fun n => ?_
    refine ok_eI m_min ?_
    refine t_p H4 16 rfl rfl rfl ⟨_, rfl⟩ fun m5 H5 S5 => ?_
    exact ok_V ⟨H5, S1.trans (S2.trans (S3.trans (S4.trans S5)))⟩
  refine ok_if (fun _ => ?_) (fun _ => last 0)
  refine t_gE H3 16 rfl rfl ?_
  exact last _
theorem w_openRun (hc : c < 9) (H : HpT (cTr nb q cap c) F mem) : dOk (m_Work_openRun xm N 1003 x y mem) (rI fun _ m => HpT (cT nb q cap) F m ∧ St xm mem m 0 0) := by
  unfold m_Work_openRun
  refine t_gE H 3 rfl rfl ?_
  refine t_gE H 3 rfl rfl ?_
  refine t_pT (t' := fB 9) H 3 rfl rfl rfl ⟨c + 1, by omega, by rw [i_add1]⟩ fun m1 H1 S1 => ?_
  have e : (cTr nb q cap c).set 3 (1003, cO 10 ([fR 1004, fR 1006, fR 1008, fE (Int32.ofNat c), fI, fI, fI, fI, fI, fI].set 3 (fB 9))) = cT nb q cap := by
    unfold cTr
    rw [List.set_set]
    exact set_self rfl
  have H1 : HpT ((cTr nb q cap c).set 3 (1003, cO 10 ([fR 1004, fR 1006, fR 1008, fE (Int32.ofNat c), fI, fI, fI, fI, fI, fI].set 3 (fB 9)))) F m1 := H1
  rw [e] at H1
  refine t_gR H1 3 rfl rfl ?_
  refine t_rc H1 8 rfl ?_
  refine ok_cV (w_runSet (i := 3) (a := 1003) H1 isWk_now) fun m2 hh => ?_
  obtain ⟨H2, S2⟩ := hh
  refine t_gR H2 3 rfl rfl ?_
  refine t_rc H2 8 rfl ?_
  refine ok_cV (w_runSet (i := 3) (a := 1003) H2 isWk_now) fun m3 hh => ?_
  obtain ⟨H3, S3⟩ := hh
  refine t_gR H3 3 rfl rfl ?_
  refine t_rc H3 8 rfl ?_
  refine ok_cV (w_runSet (i := 3) (a := 1003) H3 isWk_now) fun m4 hh => ?_
  obtain ⟨H4, S4⟩ := hh
  refine t_gR H4 3 rfl rfl ?_
  refine t_rc H4 8 rfl ?_
  refine ok_cV (w_runSet (i := 3) (a := 1003) H4 isWk_now) fun m5 hh => ?_
  obtain ⟨H5, S5⟩ := hh
  exact ok_I ⟨H5, S1.trans (S2.trans (S3.trans (S4.trans S5)))⟩
theorem c_drop (hX : kXok xm) (hN : 120 ≤ N) (hnb : nb ≤ 4) (h1 : 384 ≤ cap) (h2 : cap ≤ 119988) (H : HpT (cT nb q cap) F mem) : dOk (m_K_drop xm N 1000 mem) (cX1 xm nb F [1] mem cap) := by
  have D := cP.refl (xm := xm) h1 h2 H
  obtain ⟨c, hc, HR⟩ := H.pin (k := 3) 3 rfl rfl
  have HR : HpT (cTr nb q cap c) F mem := HR
  unfold m_K_drop
  refine t_gR H 0 rfl rfl ?_
  refine t_gR H 3 rfl rfl ?_
  refine t_gB H 4 rfl rfl fun v7 hv7 => ?_
  refine ok_if (fun _ => d_exn D (by decide)) (fun _ => ?_)
  refine t_gR H 0 rfl rfl ?_
  refine t_gE HR 3 rfl rfl ?_
  refine ok_if (fun g => ?_) (fun _ => d_exn D (by decide))
  have g : c < 9 := (i_lt (b := 9) (by omega) (by decide)).mp g
  refine t_gR H 0 rfl rfl ?_
  refine t_gR H 0 rfl rfl ?_
  refine t_gR H 0 rfl rfl ?_
  refine t_rc H 16 rfl ?_
  refine ok_cV (h_keepR hX hc HR) fun m1 hh => ?_
  obtain ⟨HR1, S1⟩ := hh
  refine t_gR HR1 0 rfl rfl ?_
  refine t_gR HR1 3 rfl rfl ?_
  refine t_rc HR1 4 rfl ?_
  refine ok_cI (n_take (p := 0) (j := 4) (b := 1005) (by decide) (by omega) HR1 rfl rfl) fun v59 m2 hh => ?_
  obtain ⟨HR2, S2⟩ := hh
  refine t_gR HR2 0 rfl rfl ?_
  refine t_gR HR2 0 rfl rfl ?_
  refine t_rc HR2 10 rfl ?_
  obtain ⟨w, hw⟩ := lp_get (xm := xm) (N := N) (x := v59) (y := 3) h2 (cTr_un hc HR2)
  refine ok_eI hw ?_
  refine t_rc HR2 3 rfl ?_
  refine ok_cI (w_openRun g HR2) fun v77 m3 hh => ?_
  obtain ⟨H3, S3⟩ := hh
  exact ok_XI ⟨q, cap, 0, 0, h1, h2, H3, S1.trans (S2.trans S3), by omega, by omega⟩
theorem k_cast75 {es : List Nat} (hN : 120 ≤ N) (hn : n ≤ 24) : ∀ (k d f : Nat) (mem : kM), d + k = n → k < f → cP xm nb F 0 0 m0 cap0 mem → dOk (m_K_cast_75 xm N f 1000 (Int32.ofNat n) (Int32.ofNat d) mem) (cX1 xm nb F es m0 cap0) := by
  intro k
  induction k with
  | zero =>
    intro d f mem hd hf D
    obtain ⟨f, rfl⟩ : ∃ f', f = f' + 1 := ⟨f - 1, by omega⟩
    rw [m_K_cast_75, if_neg (fun z => by have := (i_lt (by omega) (by omega)).mp z; omega)]
    refine d_gR D 0 (fun _ _ => rfl) rfl ?_
    refine d_rc D 3 (fun _ _ => ⟨_, rfl⟩) ?_
    refine d_ro D (fun q cap k1 k2 H => ro_n (w_onBoth (i := 3) H isWk_now)) fun v hv => ?_
    exact d_end D
  | succ k ih =>
    intro d f mem hd hf D
    obtain ⟨f, rfl⟩ : ∃ f', f = f' + 1 := ⟨f - 1, by omega⟩
    rw [m_K_cast_75, if_pos ((i_lt (by omega) (by omega)).mpr (by omega))]
    refine d_rc D 0 (fun _ _ => ⟨_, rfl⟩) ?_
    refine d_I D (fun q cap k1 k2 H => k_make (by omega) k1 k2 H) fun v m2 D2 => ?_
    rw [i_add1]
    exact ih (d + 1) f m2 (by omega) (by omega) D2
theorem c_cast (hX : kXok xm) (hN : 120 ≤ N) (hnb : nb ≤ 4) (h1 : 384 ≤ cap) (h2 : cap ≤ 119988) (H : HpT (cT nb q cap) F mem) : dOk (m_K_cast xm N 1000 x mem) (cX1 xm nb F [0, 1] mem cap) := by
  have D := cP.refl (xm := xm) h1 h2 H
  unfold m_K_cast
  refine ok_if (fun _ => d_exn D (by decide)) (fun g1 => ?_)
  refine ok_if (fun _ => d_exn D (by decide)) (fun g2 => ?_)
  obtain ⟨i, hi, hi2, rfl⟩ := i_rng (n := 24) (by decide) g1 g2
  refine d_gR D 0 (fun _ _ => rfl) rfl ?_
  refine d_rc D 1 (fun _ _ => ⟨_, rfl⟩) ?_
  refine d_ro D (fun q cap k1 k2 H => ro_ (b_ofJoined (a := 1001) (b := 1002) (nb := nb) (j := 1) H rfl rfl)) fun v25 _ => ?_
  refine ok_if (fun _ => d_exn D (by decide)) (fun _ => ?_)
  refine d_gR D 0 (fun _ _ => rfl) rfl ?_
  refine d_rc D 3 (fun _ _ => ⟨_, rfl⟩) ?_
  refine d_ro D (fun q cap k1 k2 H => ro_n (w_onBoth (i := 3) H isWk_now)) fun v hv => ?_
  refine ok_if (fun _ => d_exn D (by decide)) (fun _ => ?_)
  refine d_gR D 0 (fun _ _ => rfl) rfl ?_
  refine d_gR D 0 (fun _ _ => rfl) rfl ?_
  refine d_gR D 0 (fun _ _ => rfl) rfl ?_
  refine d_rc D 16 (fun _ _ => ⟨_, rfl⟩) ?_
  refine d_VT D (fun q cap H => h_keep hX H) fun m2 D2 => ?_
  exact k_cast75 hN hi2 i 0 N m2 (by omega) (by omega) D2
theorem c_together (hX : kXok xm) (hN : 120 ≤ N) (hnb : nb ≤ 4) (h1 : 384 ≤ cap) (h2 : cap ≤ 119988) (H : HpT (cT nb q cap) F mem) : dOk (m_K_together xm N 1000 x y mem) (cX1 xm nb F [0, 1] mem cap) := by
  have D := cP.refl (xm := xm) h1 h2 H
  have go : ∀ (n : Nat) (s : Int32), n ≤ 3 → dOk (m_K_together_32 xm N 1000 (Int32.ofNat n) y 1000 s mem) (cX1 xm nb F [0, 1] mem cap) := by
    intro n s hn
    unfold m_K_together_32 m_K_together_74
    refine d_rc D 0 (fun _ _ => ⟨_, rfl⟩) ?_
    refine d_ro D (fun q cap k1 k2 H => ro_ (k_canDo hX H)) fun v32 _ => ?_
    refine ok_if (fun _ => d_exn D (by decide)) (fun _ => ?_)
    refine d_gR D 0 (fun _ _ => rfl) rfl ?_
    refine d_gR D 0 (fun _ _ => rfl) rfl ?_
    refine d_gR D 0 (fun _ _ => rfl) rfl ?_
    refine d_rc D 16 (fun _ _ => ⟨_, rfl⟩) ?_
    refine d_VT D (fun q cap H => h_keep hX H) fun m2 D2 => ?_
    refine ok_if (fun _ => ?_) (fun _ => ?_)
    · refine d_rc D2 0 (fun _ _ => ⟨_, rfl⟩) ?_
      exact d_I D2 (fun q cap k1 k2 H => k_together (by omega) hn k1 k2 H) fun v m3 D3 => d_end D3
    · refine d_rc D2 0 (fun _ _ => ⟨_, rfl⟩) ?_
      exact d_I D2 (fun q cap k1 k2 H => k_together (by omega) hn k1 k2 H) fun v m3 D3 => d_end D3
  unfold m_K_together m_K_together_20
  refine ok_if (fun e => ?_) (fun _ => ?_)
  · subst e
    exact ok_if (fun _ => go 2 _ (by decide)) (fun _ => go 2 _ (by decide))
  · refine ok_if (fun e => ?_) (fun _ => d_exn D (by decide))
    subst e
    exact ok_if (fun _ => go 3 _ (by decide)) (fun _ => go 3 _ (by decide))
theorem c_cross (hX : kXok xm) (hN : 120 ≤ N) (hnb : nb ≤ 4) (h1 : 384 ≤ cap) (h2 : cap ≤ 119988) (H : HpT (cT nb q cap) F mem) : dOk (m_K_cross xm N 1000 x y mem) (cX1 xm nb F [0, 1] mem cap) := by
  have D := cP.refl (xm := xm) h1 h2 H
  unfold m_K_cross
  refine ok_if (fun _ => d_exn D (by decide)) (fun g1 => ?_)
  refine ok_if (fun _ => d_exn D (by decide)) (fun g2 => ?_)
  refine ok_if (fun _ => d_exn D (by decide)) (fun g3 => ?_)
  refine ok_if (fun _ => d_exn D (by decide)) (fun g4 => ?_)
  obtain ⟨i, hi, hi2, rfl⟩ := i_rng (n := 3) (by decide) g1 g2
  obtain ⟨p, hp, hp2, rfl⟩ := i_rng (n := 3) (by decide) g3 g4
  refine d_gR D 0 (fun _ _ => rfl) rfl ?_
  refine d_gR D 3 (fun _ _ => rfl) rfl ?_
  refine d_gB D 4 (fun _ _ => rfl) rfl fun v hv => ?_
  refine ok_if (fun _ => d_exn D (by decide)) (fun _ => ?_)
  refine d_gR D 0 (fun _ _ => rfl) rfl ?_
  refine d_gR D 0 (fun _ _ => rfl) rfl ?_
  refine d_gR D 0 (fun _ _ => rfl) rfl ?_
  refine d_rc D 16 (fun _ _ => ⟨_, rfl⟩) ?_
  refine d_VT D (fun q cap H => h_keep hX H) fun m2 D2 => ?_
  refine d_rc D2 0 (fun _ _ => ⟨_, rfl⟩) ?_
  exact d_I D2 (fun q cap k1 k2 H => k_cross (by omega) hi2 hp hp2 k1 k2 H) fun v m3 D3 => d_end D3
theorem c_bind (hX : kXok xm) (hN : 120 ≤ N) (hnb : nb ≤ 4) (h1 : 384 ≤ cap) (h2 : cap ≤ 119988) (H : HpT (cT nb q cap) F mem) : dOk (m_K_bind xm N 1000 x mem) (cX1 xm nb F [0, 1] mem cap) := by
  have D := cP.refl (xm := xm) h1 h2 H
  have b148 : ∀ m, cP xm nb F 0 0 mem cap m → dOk (m_K_bind_148 xm N 1000 m) (cX1 xm nb F [0, 1] mem cap) := by
    intro m D
    unfold m_K_bind_148
    refine d_gR D 0 (fun _ _ => rfl) rfl ?_
    refine d_rc D 3 (fun _ _ => ⟨_, rfl⟩) ?_
    exact d_ro D (fun q cap k1 k2 H => ro_n (w_onBoth (i := 3) H isWk_now)) fun v hv => d_end D
  have b137 : ∀ (m : kM) (s : Int32) (n : Nat), n ≤ 24 → cP xm nb F 0 0 mem cap m → dOk (m_K_bind_137 xm N 1000 s 1000 (Int32.ofNat n) m) (cX1 xm nb F [0, 1] mem cap) := by
    intro m s n hn D
    unfold m_K_bind_137
    refine d_rc D 0 (fun _ _ => ⟨_, rfl⟩) ?_
    refine d_V D (fun q cap k1 k2 H => k_bindSec (by omega) (by omega) (by omega) k1 k2 H) fun m2 D2 => ?_
    refine ok_if (fun _ => b148 _ D2) (fun _ => ?_)
    refine d_rc D2 0 (fun _ _ => ⟨_, rfl⟩) ?_
    exact d_V D2 (fun q cap k1 k2 H => k_fasten (by omega) k1 k2 H) fun m3 D3 => b148 _ D3
  have b110 : ∀ (s : Int32) (n : Nat), 1 ≤ n → n ≤ 24 → dOk (m_K_bind_110 xm N 1000 (Int32.ofNat n) s mem) (cX1 xm nb F [0, 1] mem cap) := by
    intro s n hn1 hn
    unfold m_K_bind_110
    refine d_gR D 0 (fun _ _ => rfl) rfl ?_
    refine d_gR D 0 (fun _ _ => rfl) rfl ?_
    refine d_gR D 0 (fun _ _ => rfl) rfl ?_
    refine d_rc D 16 (fun _ _ => ⟨_, rfl⟩) ?_
    refine d_VT D (fun q cap H => h_keep hX H) fun m2 D2 => ?_
    refine ok_if (fun _ => b137 _ _ _ hn D2) (fun _ => ?_)
    rw [i_sub1 hn1]
    exact b137 _ _ _ (by omega) D2
  have b84 : ∀ (s : Int32) (n : Nat), 1 ≤ n → n ≤ 24 → dOk (m_K_bind_84 xm N 1000 (Int32.ofNat n) s mem) (cX1 xm nb F [0, 1] mem cap) := by
    intro s n hn1 hn
    unfold m_K_bind_84
    refine ok_if (fun _ => b110 _ _ hn1 hn) (fun _ => ?_)
    refine d_gR D 0 (fun _ _ => rfl) rfl ?_
    refine d_rc D 1 (fun _ _ => ⟨_, rfl⟩) ?_
    refine d_ro D (fun q cap k1 k2 H => ro_ (b_ofJoined (a := 1001) (b := 1002) (nb := nb) (j := 1) H rfl rfl)) fun v25 _ => ?_
    exact ok_if (fun _ => d_exn D (by decide)) (fun _ => b110 _ _ hn1 hn)
  have b53 : ∀ (s : Int32) (n : Nat), 1 ≤ n → n ≤ 24 → dOk (m_K_bind_53 xm N 1000 (Int32.ofNat n) s mem) (cX1 xm nb F [0, 1] mem cap) := by
    intro s n hn1 hn
    unfold m_K_bind_53
    refine ok_if (fun _ => ?_) (fun _ => b84 _ _ hn1 hn)
    refine d_gR D 0 (fun _ _ => rfl) rfl ?_
    refine d_gR D 3 (fun _ _ => rfl) rfl ?_
    refine d_gB D 6 (fun _ _ => rfl) rfl fun v hv => ?_
    exact ok_if (fun _ => d_exn D (by decide)) (fun _ => b84 _ _ hn1 hn)
  unfold m_K_bind m_K_bind_52
  refine ok_if (fun _ => d_exn D (by decide)) (fun g1 => ?_)
  refine ok_if (fun _ => d_exn D (by decide)) (fun g2 => ?_)
  obtain ⟨i, hi, hi2, rfl⟩ := i_rng (n := 24) (by decide) g1 g2
  refine d_gR D 0 (fun _ _ => rfl) rfl ?_
  refine d_gR D 3 (fun _ _ => rfl) rfl ?_
  refine d_gB D 6 (fun _ _ => rfl) rfl fun v hv => ?_
  refine ok_if (fun _ => ?_) (fun _ => b53 _ _ hi hi2)
  refine d_gR D 0 (fun _ _ => rfl) rfl ?_
  refine d_gR D 3 (fun _ _ => rfl) rfl ?_
  refine d_gB D 4 (fun _ _ => rfl) rfl fun v hv => ?_
  exact ok_if (fun _ => b53 _ _ hi hi2) (fun _ => b53 _ _ hi hi2)
theorem c_pattern (hX : kXok xm) (hN : 120 ≤ N) (hnb : nb ≤ 4) (h1 : 384 ≤ cap) (h2 : cap ≤ 119988) (H : HpT (cT nb q cap) F mem) : dOk (m_K_pattern xm N 1000 x mem) (cX1 xm nb F [0, 1] mem cap) := by
  have D := cP.refl (xm := xm) h1 h2 H
  obtain ⟨c, hc, HR⟩ := H.pin (k := 7) 0 rfl rfl
  unfold m_K_pattern
  refine ok_if (fun _ => d_exn D (by decide)) (fun _ => ?_)
  refine ok_if (fun _ => d_exn D (by decide)) (fun _ => ?_)
  refine d_ro D (fun q cap k1 k2 H => ro_ (k_hasZero (by omega))) fun v12 _ => ?_
  refine ok_if (fun _ => ?_) (fun _ => d_exn D (by decide))
  refine t_gE HR 0 rfl rfl ?_
  refine ok_if (fun g => ?_) (fun _ => d_exn D (by decide))
  have g : c < 6 := (i_lt (b := 6) (by omega) (by decide)).mp g
  refine t_gE HR 0 rfl rfl ?_
  refine t_gE HR 0 rfl rfl ?_
  refine t_pT (t' := fB 6) HR 0 rfl rfl rfl ⟨c + 1, by omega, by rw [i_add1]⟩ fun m1 H1 S1 => ?_
  rw [List.set_set] at H1
  have H1 : HpT (cT nb q cap) F m1 := H1
  refine t_rc H1 0 rfl ?_
  refine ok_cV (k_tell hX (by omega) H1) fun m2 hh => ?_
  exact ok_XI ⟨q, cap, 0, 0, h1, h2, hh.1, S1.trans hh.2, by omega, by omega⟩
theorem k_follow72 {es : List Nat} (hX : kXok xm) (hN : 120 ≤ N) (hn : n ≤ 99) : ∀ (k d f : Nat) (mem : kM), d + k = n → k < f → cP xm nb F 0 0 m0 cap0 mem → dOk (m_K_follow_72 xm N f 1000 x (Int32.ofNat n) (Int32.ofNat d) mem) (cX1 xm nb F es m0 cap0) := by
  intro k
  induction k with
  | zero =>
    intro d f mem hd hf D
    obtain ⟨f, rfl⟩ : ∃ f', f = f' + 1 := ⟨f - 1, by omega⟩
    rw [m_K_follow_72, if_neg (fun z => by have := (i_lt (by omega) (by omega)).mp z; omega)]
    exact d_end D
  | succ k ih =>
    intro d f mem hd hf D
    obtain ⟨f, rfl⟩ : ∃ f', f = f' + 1 := ⟨f - 1, by omega⟩
    rw [m_K_follow_72, if_pos ((i_lt (by omega) (by omega)).mpr (by omega))]
    refine d_rc D 0 (fun _ _ => ⟨_, rfl⟩) ?_
    refine d_ro D (fun q cap k1 k2 H => ro_ (k_stepAt (t := fB 99) (by rw [cTt_99]; exact H))) fun v hv => ?_
    refine d_rc D 0 (fun _ _ => ⟨_, rfl⟩) ?_
    refine d_V D (fun q cap k1 k2 H => k_doStep (by omega) k1 k2 H) fun m2 D2 => ?_
    rw [i_add1]
    exact ih (d + 1) f m2 (by omega) (by omega) D2
theorem c_follow (hX : kXok xm) (hN : 120 ≤ N) (hnb : nb ≤ 4) (h1 : 384 ≤ cap) (h2 : cap ≤ 119988) (H : HpT (cT nb q cap) F mem) : dOk (m_K_follow xm N 1000 x mem) (cX1 xm nb F [1, 2] mem cap) := by
  have D := cP.refl (xm := xm) h1 h2 H
  unfold m_K_follow
  refine d_rc D 0 (fun _ _ => ⟨_, rfl⟩) ?_
  refine d_ro D (fun q cap k1 k2 H => ro_ (k_hasPattern H)) fun v _ => ?_
  refine ok_if (fun _ => d_exn D (by decide)) (fun _ => ?_)
  refine d_gR D 0 (fun _ _ => rfl) rfl ?_
  refine d_gR D 3 (fun _ _ => rfl) rfl ?_
  refine d_gB D 4 (fun _ _ => rfl) rfl fun v hv => ?_
  refine ok_if (fun _ => d_exn D (by decide)) (fun _ => ?_)
  refine d_gR D 0 (fun _ _ => rfl) rfl ?_
  refine d_gR D 0 (fun _ _ => rfl) rfl ?_
  refine d_gR D 0 (fun _ _ => rfl) rfl ?_
  refine d_rc D 16 (fun _ _ => ⟨_, rfl⟩) ?_
  refine d_VT D (fun q cap H => h_keep hX H) fun m2 D2 => ?_
  refine d_rc D2 0 (fun _ _ => ⟨_, rfl⟩) ?_
  refine d_VT D2 (fun q cap H => k_tryOut hX (by omega) H) fun m3 D3 => ?_
  refine d_gR D3 0 (fun _ _ => rfl) rfl ?_
  refine d_gB D3 104 (fun _ _ => rfl) rfl fun v hv => ?_
  exact k_follow72 hX hN hv v 0 N m3 (by omega) (by omega) D3
theorem c_on (hX : kXok xm) (hN : 120 ≤ N) (hnb : nb ≤ 4) (h1 : 384 ≤ cap) (h2 : cap ≤ 119988) (H : HpT (cT nb q cap) F mem) : dOk (m_K_on xm N 1000 x y mem) (cX1 xm nb F [2] mem cap) := by
  have D := cP.refl (xm := xm) h1 h2 H
  unfold m_K_on
  refine ok_if (fun _ => d_exn D (by decide)) (fun _ => ?_)
  refine ok_if (fun _ => ?_) (fun _ => d_exn D (by decide))
  refine t_rc H 0 rfl ?_
  obtain ⟨a, j, hA, e⟩ := k_needle (xm := xm) (N := N) (x := x) H
  refine ok_eR e ?_
  refine t_rc H j hA.nT ?_
  obtain ⟨v, hv⟩ := n_at (xm := xm) (N := N) (x := y) H hA.nT hA.cA
  exact ok_eI hv (d_end D)
theorem c_best (hX : kXok xm) (hN : 120 ≤ N) (h1 : 384 ≤ cap) (h2 : cap ≤ 119988) (H : HpT (cT nb q cap) F mem) : dOk (m_K_best xm N 1000 mem) (rI fun _ m => cP xm nb F 0 0 mem cap m) := by
  have D := cP.refl (xm := xm) h1 h2 H
  unfold m_K_best
  refine d_rc D 0 (fun _ _ => ⟨_, rfl⟩) ?_
  exact d_IT D (fun q cap H => k_best hX (by omega) H) fun v m2 D2 => ok_I D2
theorem c_width (hX : kXok xm) (hN : 120 ≤ N) (h1 : 384 ≤ cap) (h2 : cap ≤ 119988) (H : HpT (cT nb q cap) F mem) : dOk (m_K_width xm N 1000 x mem) (rD fun _ m => cP xm nb F 0 0 mem cap m) := by
  have D := cP.refl (xm := xm) h1 h2 H
  unfold m_K_width
  refine t_rc H 0 rfl ?_
  obtain ⟨a, j, hA, e⟩ := k_needle (xm := xm) (N := N) (x := x) H
  refine ok_eR e ?_
  refine t_rc H 0 rfl ?_
  obtain ⟨v, hv, e⟩ := k_widthOf (xm := xm) (N := N) (by omega) h2 hA H
  refine ok_eF e ?_
  unfold dF64
  rw [if_pos (wf_ok hv).2.1]
  exact ok_D D
theorem c_digest (hX : kXok xm) (hN : 120 ≤ N) (hnb : nb ≤ 4) (h1 : 384 ≤ cap) (h2 : cap ≤ 119988) (H : HpT (cT nb q cap) F mem) : dOk (m_K_digest xm N 1000 mem) (rJ fun _ m => cP xm nb F 0 0 mem cap m) := by
  refine ok_mono (k_digest hX (by omega) h2 hnb H) ?_
  rintro w ⟨v, g1, g2, g3⟩
  exact ⟨v, g1, q, cap, 0, 0, h1, h2, g2, g3, by omega, by omega⟩
end KZQ
