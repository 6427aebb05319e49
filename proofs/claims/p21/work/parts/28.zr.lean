/-! ===== the class's calls: those that a program proves ===== -/
section KZP
variable {xm : Nat → Option kE} {mem m0 : kM} {F G : kSg} {S T : kO × kM → Prop} {N r ci k n nb cap0 c0 s0 q cap a j O c : Nat} {x y z : Int32} {w : Int64} {X : dRes} {ts : List fTy}
theorem c_join (hX : kXok xm) (hN : 120 ≤ N) (hnb : nb ≤ 4) (h1 : 384 ≤ cap) (h2 : cap ≤ 119988) (H : HpT (cT nb q cap) F mem) : dOk (m_K_join xm N 1000 x mem) (cX1 xm nb F [2] mem cap) := by
  have D := cP.refl (xm := xm) h1 h2 H
  unfold m_K_join
  refine d_gR D 0 (fun _ _ => rfl) rfl ?_
  refine d_rc D 1 (fun _ _ => ⟨_, rfl⟩) ?_
  refine d_ro D (fun q cap k1 k2 H => b_has (a := 1001) (b := 1002) (nb := nb) (j := 1) H rfl rfl) fun v5 hv5 => ?_
  refine ok_if (fun _ => ?_) (fun _ => ?_)
  · exact d_exn D (by decide)
  · refine d_gR D 0 (fun _ _ => rfl) rfl ?_
    refine d_gI D 1 (fun _ _ => rfl) rfl fun v25 => ?_
    refine d_gR D 0 (fun _ _ => rfl) rfl ?_
    refine d_p D 1 (fun _ _ => rfl) rfl rfl ⟨_, rfl⟩ fun m34 D2 => ?_
    exact d_end D2
theorem c_work (hX : kXok xm) (hN : 120 ≤ N) (hnb : nb ≤ 4) (h1 : 384 ≤ cap) (h2 : cap ≤ 119988) (H : HpT (cT nb q cap) F mem) : dOk (m_K_work xm N 1000 x mem) (cX1 xm nb F [1] mem cap) := by
  have D := cP.refl (xm := xm) h1 h2 H
  unfold m_K_work m_K_work_10 m_K_work_51
  refine ok_if (fun _ => ?_) (fun _ => ?_)
  · refine d_rc D 0 (fun _ _ => ⟨_, rfl⟩) ?_
    refine d_ro D (fun q cap k1 k2 H => ro_ (k_canDo hX H)) fun v10 hv10 => ?_
    refine ok_if (fun _ => ?_) (fun _ => ?_)
    · exact d_exn D (by decide)
    · refine d_gR D 0 (fun _ _ => rfl) rfl ?_
      refine d_gR D 0 (fun _ _ => rfl) rfl ?_
      refine d_gR D 0 (fun _ _ => rfl) rfl ?_
      refine d_rc D 16 (fun _ _ => ⟨_, rfl⟩) ?_
      refine d_VT D (fun q cap H => h_keep hX H) fun m38 D2 => ?_
      refine ok_if (fun _ => ?_) (fun _ => ?_)
      · refine d_rc D2 0 (fun _ _ => ⟨_, rfl⟩) ?_
        refine d_I D2 (fun q cap k1 k2 H => k_workNext (by omega) k1 k2 H) fun v51 m51 D3 => ?_
        exact d_end D3
      · refine d_rc D2 0 (fun _ _ => ⟨_, rfl⟩) ?_
        refine d_I D2 (fun q cap k1 k2 H => k_workNext (by omega) k1 k2 H) fun v51 m51 D4 => ?_
        exact d_end D4
  · refine d_rc D 0 (fun _ _ => ⟨_, rfl⟩) ?_
    refine d_ro D (fun q cap k1 k2 H => ro_ (k_canDo hX H)) fun v10 hv10 => ?_
    refine ok_if (fun _ => ?_) (fun _ => ?_)
    · exact d_exn D (by decide)
    · refine d_gR D 0 (fun _ _ => rfl) rfl ?_
      refine d_gR D 0 (fun _ _ => rfl) rfl ?_
      refine d_gR D 0 (fun _ _ => rfl) rfl ?_
      refine d_rc D 16 (fun _ _ => ⟨_, rfl⟩) ?_
      refine d_VT D (fun q cap H => h_keep hX H) fun m38 D6 => ?_
      refine ok_if (fun _ => ?_) (fun _ => ?_)
      · refine d_rc D6 0 (fun _ _ => ⟨_, rfl⟩) ?_
        refine d_I D6 (fun q cap k1 k2 H => k_workNext (by omega) k1 k2 H) fun v51 m51 D7 => ?_
        exact d_end D7
      · refine d_rc D6 0 (fun _ _ => ⟨_, rfl⟩) ?_
        refine d_I D6 (fun q cap k1 k2 H => k_workNext (by omega) k1 k2 H) fun v51 m51 D8 => ?_
        exact d_end D8
theorem c_over (hX : kXok xm) (hN : 120 ≤ N) (hnb : nb ≤ 4) (h1 : 384 ≤ cap) (h2 : cap ≤ 119988) (H : HpT (cT nb q cap) F mem) : dOk (m_K_over xm N 1000 mem) (cX1 xm nb F [1] mem cap) := by
  have D := cP.refl (xm := xm) h1 h2 H
  unfold m_K_over
  refine d_rc D 0 (fun _ _ => ⟨_, rfl⟩) ?_
  refine d_ro D (fun q cap k1 k2 H => ro_ (k_canDo hX H)) fun v2 hv2 => ?_
  refine ok_if (fun _ => ?_) (fun _ => ?_)
  · exact d_exn D (by decide)
  · refine d_gR D 0 (fun _ _ => rfl) rfl ?_
    refine d_gR D 0 (fun _ _ => rfl) rfl ?_
    refine d_gR D 0 (fun _ _ => rfl) rfl ?_
    refine d_rc D 16 (fun _ _ => ⟨_, rfl⟩) ?_
    refine d_VT D (fun q cap H => h_keep hX H) fun m30 D2 => ?_
    refine d_rc D2 0 (fun _ _ => ⟨_, rfl⟩) ?_
    refine d_I D2 (fun q cap k1 k2 H => k_makeOver (by omega) k1 k2 H) fun v34 m34 D3 => ?_
    exact d_end D3
theorem c_slip (hX : kXok xm) (hN : 120 ≤ N) (hnb : nb ≤ 4) (h1 : 384 ≤ cap) (h2 : cap ≤ 119988) (H : HpT (cT nb q cap) F mem) : dOk (m_K_slip xm N 1000 mem) (cX1 xm nb F [1] mem cap) := by
  have D := cP.refl (xm := xm) h1 h2 H
  unfold m_K_slip
  refine d_rc D 0 (fun _ _ => ⟨_, rfl⟩) ?_
  refine d_ro D (fun q cap k1 k2 H => ro_ (k_canDo hX H)) fun v3 hv3 => ?_
  refine ok_if (fun _ => ?_) (fun _ => ?_)
  · exact d_exn D (by decide)
  · refine d_gR D 0 (fun _ _ => rfl) rfl ?_
    refine d_gR D 0 (fun _ _ => rfl) rfl ?_
    refine d_gR D 0 (fun _ _ => rfl) rfl ?_
    refine d_rc D 16 (fun _ _ => ⟨_, rfl⟩) ?_
    refine d_VT D (fun q cap H => h_keep hX H) fun m31 D2 => ?_
    refine d_rc D2 0 (fun _ _ => ⟨_, rfl⟩) ?_
    refine d_I D2 (fun q cap k1 k2 H => k_slipNext (by omega) k1 k2 H) fun v35 m35 D3 => ?_
    exact d_end D3
theorem c_turn (hX : kXok xm) (hN : 120 ≤ N) (hnb : nb ≤ 4) (h1 : 384 ≤ cap) (h2 : cap ≤ 119988) (H : HpT (cT nb q cap) F mem) : dOk (m_K_turn xm N 1000 mem) (cX1 xm nb F [1] mem cap) := by
  have D := cP.refl (xm := xm) h1 h2 H
  unfold m_K_turn m_K_turn_61
  refine d_gR D 0 (fun _ _ => rfl) rfl ?_
  refine d_rc D 3 (fun _ _ => ⟨_, rfl⟩) ?_
  refine d_ro D (fun q cap k1 k2 H => ro_n (w_onBoth (i := 3) H isWk_now)) fun v4 hv4 => ?_
  refine ok_if (fun _ => ?_) (fun _ => ?_)
  · exact d_exn D (by decide)
  · refine d_gR D 0 (fun _ _ => rfl) rfl ?_
    refine d_gR D 0 (fun _ _ => rfl) rfl ?_
    refine d_gR D 0 (fun _ _ => rfl) rfl ?_
    refine d_rc D 16 (fun _ _ => ⟨_, rfl⟩) ?_
    refine d_VT D (fun q cap H => h_keep hX H) fun m32 D2 => ?_
    refine d_gR D2 0 (fun _ _ => rfl) rfl ?_
    refine d_gR D2 3 (fun _ _ => rfl) rfl ?_
    refine d_gB D2 4 (fun _ _ => rfl) rfl fun v42 hv42 => ?_
    refine ok_if (fun _ => ?_) (fun _ => ?_)
    · refine d_gR D2 0 (fun _ _ => rfl) rfl ?_
      refine d_gI D2 3 (fun _ _ => rfl) rfl fun v53 => ?_
      refine d_p D2 3 (fun _ _ => rfl) rfl rfl ⟨_, rfl⟩ fun m58 D3 => ?_
      refine d_gR D3 0 (fun _ _ => rfl) rfl ?_
      refine d_gR D3 3 (fun _ _ => rfl) rfl ?_
      refine d_gR D3 0 (fun _ _ => rfl) rfl ?_
      refine d_gR D3 3 (fun _ _ => rfl) rfl ?_
      refine d_rc D3 4 (fun _ _ => ⟨_, rfl⟩) ?_
      refine d_VT D3 (fun q cap H => n_swap (j := 4) (i := 6) (b := 1005) (b1 := 1007) (by omega) H rfl rfl rfl rfl) fun m75 D4 => ?_
      refine d_gR D4 0 (fun _ _ => rfl) rfl ?_
      refine d_gI D4 3 (fun _ _ => rfl) rfl fun v83 => ?_
      refine d_p D4 3 (fun _ _ => rfl) rfl rfl ⟨_, rfl⟩ fun m88 D5 => ?_
      refine d_gR D5 0 (fun _ _ => rfl) rfl ?_
      refine d_gR D5 3 (fun _ _ => rfl) rfl ?_
      refine d_gB D5 4 (fun _ _ => rfl) rfl fun v98 hv98 => ?_
      exact d_end D5
    · refine d_gR D2 0 (fun _ _ => rfl) rfl ?_
      refine d_gR D2 3 (fun _ _ => rfl) rfl ?_
      refine d_gR D2 0 (fun _ _ => rfl) rfl ?_
      refine d_gR D2 3 (fun _ _ => rfl) rfl ?_
      refine d_rc D2 4 (fun _ _ => ⟨_, rfl⟩) ?_
      refine d_VT D2 (fun q cap H => n_swap (j := 4) (i := 6) (b := 1005) (b1 := 1007) (by omega) H rfl rfl rfl rfl) fun m75 D6 => ?_
      refine d_gR D6 0 (fun _ _ => rfl) rfl ?_
      refine d_gI D6 3 (fun _ _ => rfl) rfl fun v83 => ?_
      refine d_p D6 3 (fun _ _ => rfl) rfl rfl ⟨_, rfl⟩ fun m88 D7 => ?_
      refine d_gR D7 0 (fun _ _ => rfl) rfl ?_
      refine d_gR D7 3 (fun _ _ => rfl) rfl ?_
      refine d_gB D7 4 (fun _ _ => rfl) rfl fun v98 hv98 => ?_
      exact d_end D7
theorem c_latch (hX : kXok xm) (hN : 120 ≤ N) (hnb : nb ≤ 4) (h1 : 384 ≤ cap) (h2 : cap ≤ 119988) (H : HpT (cT nb q cap) F mem) : dOk (m_K_latch xm N 1000 x mem) (cX1 xm nb F [1, 2] mem cap) := by
  have D := cP.refl (xm := xm) h1 h2 H
  unfold m_K_latch
  refine ok_if (fun _ => ?_) (fun _ => ?_)
  · exact d_exn D (by decide)
  · refine d_gR D 0 (fun _ _ => rfl) rfl ?_
    refine d_gB D 3 (fun _ _ => rfl) rfl fun v9 hv9 => ?_
    refine ok_if (fun _ => ?_) (fun _ => ?_)
    · refine d_gR D 0 (fun _ _ => rfl) rfl ?_
      refine d_gR D 3 (fun _ _ => rfl) rfl ?_
      refine d_rc D 8 (fun _ _ => ⟨_, rfl⟩) ?_
      refine d_ro D (fun q cap k1 k2 H => ro_ (w_runGet (i := 3) (a := 1003) H isWk_now)) fun v34 hv34 => ?_
      refine ok_if (fun _ => ?_) (fun _ => ?_)
      · exact d_exn D (by decide)
      · refine d_gR D 0 (fun _ _ => rfl) rfl ?_
        refine d_rc D 3 (fun _ _ => ⟨_, rfl⟩) ?_
        refine d_ro D (fun q cap k1 k2 H => ro_n (w_onBoth (i := 3) H isWk_now)) fun v44 hv44 => ?_
        refine ok_if (fun _ => ?_) (fun _ => ?_)
        · refine d_gR D 0 (fun _ _ => rfl) rfl ?_
          refine d_gR D 0 (fun _ _ => rfl) rfl ?_
          refine d_gR D 0 (fun _ _ => rfl) rfl ?_
          refine d_rc D 16 (fun _ _ => ⟨_, rfl⟩) ?_
          refine d_VT D (fun q cap H => h_keep hX H) fun m74 D3 => ?_
          refine d_gR D3 0 (fun _ _ => rfl) rfl ?_
          refine d_gR D3 3 (fun _ _ => rfl) rfl ?_
          refine d_rc D3 8 (fun _ _ => ⟨_, rfl⟩) ?_
          refine d_VT D3 (fun q cap H => w_runSet (i := 3) (a := 1003) H isWk_now) fun m87 D4 => ?_
          refine d_gR D4 0 (fun _ _ => rfl) rfl ?_
          refine d_gR D4 3 (fun _ _ => rfl) rfl ?_
          refine d_gR D4 0 (fun _ _ => rfl) rfl ?_
          refine d_gR D4 3 (fun _ _ => rfl) rfl ?_
          refine d_rc D4 8 (fun _ _ => ⟨_, rfl⟩) ?_
          refine d_ro D4 (fun q cap k1 k2 H => ro_ (w_runGet (i := 3) (a := 1003) H isWk_now)) fun v106 hv106 => ?_
          refine d_rc D4 4 (fun _ _ => ⟨_, rfl⟩) ?_
          refine d_VT D4 (fun q cap H => n_put (j := 4) (b := 1005) H rfl rfl) fun m109 D6 => ?_
          refine d_gR D6 0 (fun _ _ => rfl) rfl ?_
          refine d_gR D6 3 (fun _ _ => rfl) rfl ?_
          refine d_rc D6 8 (fun _ _ => ⟨_, rfl⟩) ?_
          refine d_ro D6 (fun q cap k1 k2 H => ro_ (w_runGet (i := 3) (a := 1003) H isWk_now)) fun v121 hv121 => ?_
          exact d_end D6
        · exact d_exn D (by decide)
    · exact d_exn D (by decide)
theorem c_undo (hX : kXok xm) (hN : 120 ≤ N) (hnb : nb ≤ 4) (h1 : 384 ≤ cap) (h2 : cap ≤ 119988) (H : HpT (cT nb q cap) F mem) : dOk (m_K_undo xm N 1000 mem) (cX1 xm nb F [1] mem cap) := by
  have D := cP.refl (xm := xm) h1 h2 H
  unfold m_K_undo
  refine d_gR D 0 (fun _ _ => rfl) rfl ?_
  refine d_gI D 16 (fun _ _ => rfl) rfl fun v4 => ?_
  refine ok_if (fun _ => ?_) (fun _ => ?_)
  · exact d_exn D (by decide)
  · refine d_gR D 0 (fun _ _ => rfl) rfl ?_
    refine d_gR D 0 (fun _ _ => rfl) rfl ?_
    refine d_gR D 0 (fun _ _ => rfl) rfl ?_
    refine d_rc D 16 (fun _ _ => ⟨_, rfl⟩) ?_
    refine d_VT D (fun q cap H => h_back H) fun m33 D1 => ?_
    refine d_gR D1 0 (fun _ _ => rfl) rfl ?_
    refine d_gI D1 16 (fun _ _ => rfl) rfl fun v40 => ?_
    exact d_end D1
theorem c_ofLoop (hX : kXok xm) (hN : 120 ≤ N) (hnb : nb ≤ 4) (h1 : 384 ≤ cap) (h2 : cap ≤ 119988) (H : HpT (cT nb q cap) F mem) : dOk (m_K_ofLoop xm N 1000 x y mem) (cX1 xm nb F [0, 2] mem cap) := by
  have D := cP.refl (xm := xm) h1 h2 H
  unfold m_K_ofLoop
  refine ok_if (fun _ => ?_) (fun _ => ?_)
  · exact d_exn D (by decide)
  · refine d_gR D 0 (fun _ _ => rfl) rfl ?_
    refine d_gI D 3 (fun _ _ => rfl) rfl fun v9 => ?_
    refine ok_if (fun _ => ?_) (fun _ => ?_)
    · refine ok_if (fun _ => ?_) (fun _ => ?_)
      · exact d_exn D (by decide)
      · refine ok_if (fun _ => ?_) (fun _ => ?_)
        · refine d_rc D 0 (fun _ _ => ⟨_, rfl⟩) ?_
          refine d_ro D (fun q cap k1 k2 H => ro_ (k_loopFact (by omega) k2 H)) fun v48 hv48 => ?_
          exact d_end D
        · exact d_exn D (by decide)
    · exact d_exn D (by decide)
theorem c_ofRun (hX : kXok xm) (hN : 120 ≤ N) (hnb : nb ≤ 4) (h1 : 384 ≤ cap) (h2 : cap ≤ 119988) (H : HpT (cT nb q cap) F mem) : dOk (m_K_ofRun xm N 1000 x y mem) (cX1 xm nb F [0, 2] mem cap) := by
  have D := cP.refl (xm := xm) h1 h2 H
  unfold m_K_ofRun
  refine ok_if (fun _ => ?_) (fun _ => ?_)
  · exact d_exn D (by decide)
  · refine d_gR D 0 (fun _ _ => rfl) rfl ?_
    refine d_gB D 3 (fun _ _ => rfl) rfl fun v9 hv9 => ?_
    refine ok_if (fun _ => ?_) (fun _ => ?_)
    · refine ok_if (fun _ => ?_) (fun _ => ?_)
      · exact d_exn D (by decide)
      · refine ok_if (fun _ => ?_) (fun _ => ?_)
        · refine d_gR D 0 (fun _ _ => rfl) rfl ?_
          refine d_gR D 3 (fun _ _ => rfl) rfl ?_
          refine d_rc D 8 (fun _ _ => ⟨_, rfl⟩) ?_
          refine d_ro D (fun q cap k1 k2 H => ro_ (w_runGet (i := 3) (a := 1003) H isWk_now)) fun v53 hv53 => ?_
          exact d_end D
        · exact d_exn D (by decide)
    · exact d_exn D (by decide)
theorem c_many (hX : kXok xm) (hN : 120 ≤ N) (hnb : nb ≤ 4) (h1 : 384 ≤ cap) (h2 : cap ≤ 119988) (H : HpT (cT nb q cap) F mem) : dOk (m_K_many xm N 1000 x mem) (cX1 xm nb F [0] mem cap) := by
  have D := cP.refl (xm := xm) h1 h2 H
  unfold m_K_many
  refine ok_if (fun _ => ?_) (fun _ => ?_)
  · exact d_exn D (by decide)
  · refine ok_if (fun _ => ?_) (fun _ => ?_)
    · refine d_rc D 0 (fun _ _ => ⟨_, rfl⟩) ?_
      refine d_ro D (fun q cap k1 k2 H => ro_ (k_number (by omega) hnb H)) fun v23 hv23 => ?_
      exact d_end D
    · exact d_exn D (by decide)
theorem c_left (hX : kXok xm) (hN : 120 ≤ N) (hnb : nb ≤ 4) (h1 : 384 ≤ cap) (h2 : cap ≤ 119988) (H : HpT (cT nb q cap) F mem) : dOk (m_K_left xm N 1000 x mem) (cX1 xm nb F [2] mem cap) := by
  have D := cP.refl (xm := xm) h1 h2 H
  unfold m_K_left
  refine d_gR D 0 (fun _ _ => rfl) rfl ?_
  refine d_rc D 1 (fun _ _ => ⟨_, rfl⟩) ?_
  refine d_ro D (fun q cap k1 k2 H => b_has (a := 1001) (b := 1002) (nb := nb) (j := 1) H rfl rfl) fun v5 hv5 => ?_
  refine ok_if (fun _ => ?_) (fun _ => ?_)
  · exact d_exn D (by decide)
  · refine d_gR D 0 (fun _ _ => rfl) rfl ?_
    refine d_rc D 1 (fun _ _ => ⟨_, rfl⟩) ?_
    refine d_ro D (fun q cap k1 k2 H => ro_ (b_of (a := 1001) (b := 1002) (nb := nb) (j := 1) H rfl rfl)) fun v26 hv26 => ?_
    exact d_end D
theorem c_ofPattern (hX : kXok xm) (hN : 120 ≤ N) (hnb : nb ≤ 4) (h1 : 384 ≤ cap) (h2 : cap ≤ 119988) (H : HpT (cT nb q cap) F mem) : dOk (m_K_ofPattern xm N 1000 x y mem) (cX1 xm nb F [0, 2] mem cap) := by
  have D := cP.refl (xm := xm) h1 h2 H
  unfold m_K_ofPattern
  refine d_rc D 0 (fun _ _ => ⟨_, rfl⟩) ?_
  refine d_ro D (fun q cap k1 k2 H => ro_ (k_hasPattern H)) fun v2 hv2 => ?_
  refine ok_if (fun _ => ?_) (fun _ => ?_)
  · exact d_exn D (by decide)
  · refine ok_if (fun _ => ?_) (fun _ => ?_)
    · exact d_exn D (by decide)
    · refine ok_if (fun _ => ?_) (fun _ => ?_)
      · refine d_gR D 0 (fun _ _ => rfl) rfl ?_
        refine d_rc D 12 (fun _ _ => ⟨_, rfl⟩) ?_
        refine d_ro D (fun q cap k1 k2 H => ro_ (tb_get (f := 5) (mr := 6) (n := 30) (j := 12) (b := 1013) (by decide) (by decide) (by decide) H rfl rfl)) fun v44 hv44 => ?_
        exact d_end D
      · exact d_exn D (by decide)
theorem c_would (hX : kXok xm) (hN : 120 ≤ N) (hnb : nb ≤ 4) (h1 : 384 ≤ cap) (h2 : cap ≤ 119988) (H : HpT (cT nb q cap) F mem) : dOk (m_K_would xm N 1000 x mem) (cX1 xm nb F [2] mem cap) := by
  have D := cP.refl (xm := xm) h1 h2 H
  unfold m_K_would
  refine d_rc D 0 (fun _ _ => ⟨_, rfl⟩) ?_
  refine d_ro D (fun q cap k1 k2 H => ro_ (k_hasPattern H)) fun v2 hv2 => ?_
  refine ok_if (fun _ => ?_) (fun _ => ?_)
  · exact d_exn D (by decide)
  · refine d_rc D 0 (fun _ _ => ⟨_, rfl⟩) ?_
    refine d_VT D (fun q cap H => k_tryOut hX (by omega) H) fun m20 D2 => ?_
    refine d_gR D2 0 (fun _ _ => rfl) rfl ?_
    refine d_gI D2 104 (fun _ _ => rfl) rfl fun v27 => ?_
    exact d_end D2
theorem c_needs (hX : kXok xm) (hN : 120 ≤ N) (hnb : nb ≤ 4) (h1 : 384 ≤ cap) (h2 : cap ≤ 119988) (H : HpT (cT nb q cap) F mem) : dOk (m_K_needs xm N 1000 x mem) (cX1 xm nb F [2] mem cap) := by
  have D := cP.refl (xm := xm) h1 h2 H
  unfold m_K_needs
  refine d_rc D 0 (fun _ _ => ⟨_, rfl⟩) ?_
  refine d_ro D (fun q cap k1 k2 H => ro_ (k_hasPattern H)) fun v2 hv2 => ?_
  refine ok_if (fun _ => ?_) (fun _ => ?_)
  · exact d_exn D (by decide)
  · refine d_rc D 0 (fun _ _ => ⟨_, rfl⟩) ?_
    refine d_VT D (fun q cap H => k_tryOut hX (by omega) H) fun m20 D2 => ?_
    refine d_gR D2 0 (fun _ _ => rfl) rfl ?_
    refine d_gI D2 104 (fun _ _ => rfl) rfl fun v27 => ?_
    exact d_end D2
end KZP
