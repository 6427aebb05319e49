/-! ===== the class: a loop is made, taken, slipped, crossed ===== -/
section KZH
variable {xm : Nat → Option kE} {mem m0 : kM} {Ts : kTyL} {F A : kSg} {S : kO × kM → Prop} {N i j a b a1 b1 c f mr n jo nb q cap cap0 c0 s0 c1 s1 : Nat} {x y z : Int32} {X : dRes}
theorem cP.refl (h1 : 384 ≤ cap) (h2 : cap ≤ 119988) (H : HpT (cT nb q cap) F mem) : cP xm nb F 0 0 mem cap mem := ⟨q, cap, 0, 0, h1, h2, H, St.refl, by omega, by omega⟩
theorem cP.trans {m : kM} (h : St xm m0 mem c0 s0) (h1 : c0 + cap0 ≤ c1 + cap) (h2 : s0 + kPhi cap0 ≤ s1 + kPhi cap) {c2 s2 : Nat} (D : cP xm nb F c2 s2 mem cap m) : cP xm nb F (c1 + c2) (s1 + s2) m0 cap0 m := by
  obtain ⟨q', cap', c, s, k1, k2, H, S1, k3, k4⟩ := D
  exact ⟨q', cap', c0 + c, s0 + s, k1, k2, H, h.trans S1, by omega, by omega⟩
theorem cP.mono {m : kM} {c2 s2 : Nat} (D : cP xm nb F c1 s1 mem cap m) (h1 : c1 ≤ c2) (h2 : s1 ≤ s2) : cP xm nb F c2 s2 mem cap m := by
  obtain ⟨q', cap', c, s, k1, k2, H, S1, k3, k4⟩ := D
  exact ⟨q', cap', c, s, k1, k2, H, S1, by omega, by omega⟩
theorem cq_V {K : kM → dRes} {c2 s2 : Nat} (D : cP xm nb F c1 s1 m0 cap0 mem) (h : ∀ q cap, 384 ≤ cap → cap ≤ 119988 → HpT (cT nb q cap) F mem → dOk X (rV fun m => cP xm nb F c2 s2 mem cap m)) (k : ∀ m, cP xm nb F (c1 + c2) (s1 + s2) m0 cap0 m → dOk (K m) S) : dOk (dCV X K) S := by
  obtain ⟨q, cap, c, s, k1, k2, H, S1, k3, k4⟩ := D
  exact ok_cV (h q cap k1 k2 H) fun m hh => k m (cP.trans S1 k3 k4 hh)
theorem cq_I {K : Int32 → kM → dRes} {c2 s2 : Nat} (D : cP xm nb F c1 s1 m0 cap0 mem) (h : ∀ q cap, 384 ≤ cap → cap ≤ 119988 → HpT (cT nb q cap) F mem → dOk X (rI fun _ m => cP xm nb F c2 s2 mem cap m)) (k : ∀ v m, cP xm nb F (c1 + c2) (s1 + s2) m0 cap0 m → dOk (K v m) S) : dOk (dCI X K) S := by
  obtain ⟨q, cap, c, s, k1, k2, H, S1, k3, k4⟩ := D
  exact ok_cI (h q cap k1 k2 H) fun v m hh => k v m (cP.trans S1 k3 k4 hh)
/-- a call that keeps the cells' types -/
theorem up_V {Y : dRes} (h1 : 384 ≤ cap) (h2 : cap ≤ 119988) (h : dOk Y (rV fun m => HpT (cT nb q cap) F m ∧ St xm mem m 0 0)) : dOk Y (rV fun m => cP xm nb F 0 0 mem cap m) := by
  refine ok_mono h ?_
  rintro w ⟨g1, g2, g3⟩
  exact ⟨g1, q, cap, 0, 0, h1, h2, g2, g3, by omega, by omega⟩
theorem up_I {Y : dRes} (h1 : 384 ≤ cap) (h2 : cap ≤ 119988) (h : dOk Y (rI fun _ m => HpT (cT nb q cap) F m ∧ St xm mem m 0 0)) : dOk Y (rI fun _ m => cP xm nb F 0 0 mem cap m) := by
  refine ok_mono h ?_
  rintro w ⟨v, g1, g2, g3⟩
  exact ⟨v, g1, q, cap, 0, 0, h1, h2, g2, g3, by omega, by omega⟩
theorem k_make (hN : 11 ≤ N) {x1 x2 x3 x4 : Int32} (h1 : 384 ≤ cap) (h2 : cap ≤ 119988) (H : HpT (cT nb q cap) F mem) : dOk (m_K_make xm N 1000 x1 x2 x3 x4 mem) (rI fun _ m => cP xm nb F 0 0 mem cap m) := by
  unfold m_K_make
  refine t_gR H 0 rfl rfl ?_
  refine t_gI H 3 rfl rfl fun v4 => ?_
  refine t_gR H 0 rfl rfl ?_
  refine t_gI H 3 rfl rfl fun v14 => ?_
  refine t_p H 3 rfl rfl rfl ⟨_, rfl⟩ fun m1 H1 S1 => ?_
  refine t_gR H1 0 rfl rfl ?_
  refine t_rc H1 10 rfl ?_
  have D1 : cP xm nb F 0 0 mem cap m1 := ⟨q, cap, 0, 0, h1, h2, H1, S1, by omega, by omega⟩
  refine cq_V D1 (fun q cap k1 k2 H => lp_set k1 k2 H) fun m2 D2 => ?_
  have D2' := D2
  obtain ⟨q2, cap2, c2, s2, -, -, H2, -⟩ := D2'
  refine t_gR H2 0 rfl rfl ?_
  refine t_gR H2 0 rfl rfl ?_
  refine t_gI H2 1 rfl rfl fun v44 => ?_
  refine t_rc H2 10 rfl ?_
  refine cq_V D2 (fun q cap k1 k2 H => lp_set k1 k2 H) fun m3 D3 => ?_
  have D3' := D3
  obtain ⟨q3, cap3, c3, s3, -, -, H3, -⟩ := D3'
  refine t_gR H3 0 rfl rfl ?_
  refine t_gR H3 0 rfl rfl ?_
  refine t_gI H3 3 rfl rfl fun v61 => ?_
  refine t_rc H3 10 rfl ?_
  refine cq_V D3 (fun q cap k1 k2 H => lp_set k1 k2 H) fun m4 D4 => ?_
  have D4' := D4
  obtain ⟨q4, cap4, c4, s4, -, -, H4, -⟩ := D4'
  refine t_gR H4 0 rfl rfl ?_
  refine t_rc H4 10 rfl ?_
  refine cq_V D4 (fun q cap k1 k2 H => lp_set k1 k2 H) fun m5 D5 => ?_
  have D5' := D5
  obtain ⟨q5, cap5, c5, s5, -, -, H5, -⟩ := D5'
  refine t_gR H5 0 rfl rfl ?_
  refine t_rc H5 10 rfl ?_
  refine cq_V D5 (fun q cap k1 k2 H => lp_set k1 k2 H) fun m6 D6 => ?_
  have D6' := D6
  obtain ⟨q6, cap6, c6, s6, -, -, H6, -⟩ := D6'
  refine t_gR H6 0 rfl rfl ?_
  refine t_rc H6 1 rfl ?_
  refine cq_V D6 (fun q cap k1 k2 H => up_V k1 k2 (b_spend (j := 1) (b := 1002) (nb := nb) H rfl rfl)) fun m7 D7 => ?_
  have D7' := D7
  obtain ⟨q7, cap7, c7, s7, -, -, H7, -⟩ := D7'
  refine t_gR H7 0 rfl rfl ?_
  refine t_gR H7 3 rfl rfl ?_
  refine t_rc H7 6 rfl ?_
  refine cq_V D7 (fun q cap k1 k2 H => up_V k1 k2 (n_put (j := 6) (b := 1007) H rfl rfl)) fun m8 D8 => ?_
  have D8' := D8
  obtain ⟨q8, cap8, c8, s8, -, -, H8, -⟩ := D8'
  refine t_gR H8 0 rfl rfl ?_
  refine t_rc H8 3 rfl ?_
  refine cq_V D8 (fun q cap k1 k2 H => up_V k1 k2 (w_fall (i := 3) hN H isWk_now)) fun m9 D9 => ?_
  exact ok_I D9
theorem k_takeWorked (hN : 2 ≤ N) (h1 : 384 ≤ cap) (h2 : cap ≤ 119988) (H : HpT (cT nb q cap) F mem) : dOk (m_K_takeWorked xm N 1000 mem) (rI fun _ m => cP xm nb F 0 0 mem cap m) := by
  unfold m_K_takeWorked
  refine t_gR H 0 rfl rfl ?_
  refine t_gR H 3 rfl rfl ?_
  refine t_rc H 4 rfl ?_
  refine cq_I (cP.refl h1 h2 H) (fun q cap k1 k2 H => up_I k1 k2 (n_take (p := 0) (j := 4) (b := 1005) (by decide) hN H rfl rfl)) fun v m2 D2 => ?_
  have D2' := D2
  obtain ⟨q2, cap2, c2, s2, -, -, H2, -⟩ := D2'
  refine t_gR H2 0 rfl rfl ?_
  refine t_rc H2 10 rfl ?_
  refine cq_V D2 (fun q cap k1 k2 H => lp_set k1 k2 H) fun m3 D3 => ?_
  exact ok_I D3
theorem k_workNext (hN : 11 ≤ N) (h1 : 384 ≤ cap) (h2 : cap ≤ 119988) (H : HpT (cT nb q cap) F mem) : dOk (m_K_workNext xm N 1000 x mem) (rI fun _ m => cP xm nb F 0 0 mem cap m) := by
  unfold m_K_workNext
  refine t_rc H 0 rfl ?_
  refine cq_I (cP.refl h1 h2 H) (fun q cap k1 k2 H => k_takeWorked (by omega) k1 k2 H) fun v m2 D2 => ?_
  have D2' := D2
  obtain ⟨q2, cap2, c2, s2, -, k2, H2, -⟩ := D2'
  refine t_gR H2 0 rfl rfl ?_
  refine t_rc H2 10 rfl ?_
  obtain ⟨w, hw⟩ := lp_get (xm := xm) (N := N) (x := v) (y := 3) k2 H2
  refine ok_eI hw ?_
  refine t_rc H2 0 rfl ?_
  refine cq_I D2 (fun q cap k1 k2 H => k_make hN k1 k2 H) fun v m3 D3 => ?_
  exact ok_I D3
theorem k_makeOver (hN : 11 ≤ N) (h1 : 384 ≤ cap) (h2 : cap ≤ 119988) (H : HpT (cT nb q cap) F mem) : dOk (m_K_makeOver xm N 1000 mem) (rI fun _ m => cP xm nb F 0 0 mem cap m) := by
  unfold m_K_makeOver
  refine t_gR H 0 rfl rfl ?_
  refine t_gI H 3 rfl rfl fun v5 => ?_
  refine t_p H 3 rfl rfl rfl ⟨_, rfl⟩ fun m1 H1 S1 => ?_
  refine t_rc H1 0 rfl ?_
  have D1 : cP xm nb F 0 0 mem cap m1 := ⟨q, cap, 0, 0, h1, h2, H1, S1, by omega, by omega⟩
  refine cq_I D1 (fun q cap k1 k2 H => k_make hN k1 k2 H) fun v m3 D3 => ?_
  exact ok_I D3
theorem k_slipNext (hN : 2 ≤ N) (h1 : 384 ≤ cap) (h2 : cap ≤ 119988) (H : HpT (cT nb q cap) F mem) : dOk (m_K_slipNext xm N 1000 mem) (rI fun _ m => cP xm nb F 0 0 mem cap m) := by
  unfold m_K_slipNext
  refine t_gR H 0 rfl rfl ?_
  refine t_gR H 3 rfl rfl ?_
  refine t_rc H 4 rfl ?_
  refine cq_I (cP.refl h1 h2 H) (fun q cap k1 k2 H => up_I k1 k2 (n_take (p := 0) (j := 4) (b := 1005) (by decide) hN H rfl rfl)) fun v m2 D2 => ?_
  have D2' := D2
  obtain ⟨q2, cap2, c2, s2, -, -, H2, -⟩ := D2'
  refine t_gR H2 0 rfl rfl ?_
  refine t_gR H2 3 rfl rfl ?_
  refine t_rc H2 6 rfl ?_
  refine cq_V D2 (fun q cap k1 k2 H => up_V k1 k2 (n_put (j := 6) (b := 1007) H rfl rfl)) fun m8 D8 => ?_
  exact ok_I D8
end KZH
