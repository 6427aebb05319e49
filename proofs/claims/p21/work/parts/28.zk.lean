/-! ===== the class: steps ===== -/
section KZI
variable {xm : Nat → Option kE} {mem m0 : kM} {Ts : kTyL} {F A : kSg} {S T : kO × kM → Prop} {N i j a b a1 b1 c f mr n jo nb q cap cap0 c0 s0 c1 s1 : Nat} {x y z : Int32} {X : dRes}
theorem sw_all {lo hi : Int} {D : dRes} {L : List dRes} (hl : hi - lo < L.length) (hD : dOk D T) (h : ∀ t ∈ L, dOk t T) : dOk (dSw x lo hi D L) T := by
  unfold dSw
  by_cases g : x.toInt < lo ∨ hi < x.toInt
  · rw [if_pos g]
    exact hD
  · rw [if_neg g]
    have hn : (x.toInt - lo).toNat < L.length := by omega
    rw [List.getElem?_eq_getElem hn]
    exact h _ (List.getElem_mem hn)
theorem k_together2 (hN : 11 ≤ N) (hn : n ≤ 3) : ∀ (k d f : Nat) (mem : kM), d + k = n → k < f → cP xm nb F 0 0 m0 cap0 mem → dOk (m_K_takeTogether_2 xm N f 1000 (Int32.ofNat n) x (Int32.ofNat d) mem) (rI fun _ m => cP xm nb F 0 0 m0 cap0 m) := by
  intro k
  induction k with
  | zero =>
    intro d f mem hd hf D
    obtain ⟨f, rfl⟩ : ∃ f', f = f' + 1 := ⟨f - 1, by omega⟩
    rw [m_K_takeTogether_2, if_neg (fun z => by have := (i_lt (by omega) (by omega)).mp z; omega)]
    have D' := D
    obtain ⟨q2, cap2, c2, s2, -, -, H2, -⟩ := D'
    refine t_rc H2 0 rfl ?_
    exact cq_I D (fun q cap k1 k2 H => k_make hN k1 k2 H) fun v m3 D3 => ok_I D3
  | succ k ih =>
    intro d f mem hd hf D
    obtain ⟨f, rfl⟩ : ∃ f', f = f' + 1 := ⟨f - 1, by omega⟩
    rw [m_K_takeTogether_2, if_pos ((i_lt (by omega) (by omega)).mpr (by omega))]
    have D' := D
    obtain ⟨q2, cap2, c2, s2, -, -, H2, -⟩ := D'
    refine t_rc H2 0 rfl ?_
    refine cq_I D (fun q cap k1 k2 H => k_takeWorked (by omega) k1 k2 H) fun v m3 D3 => ?_
    rw [i_add1]
    exact ih (d + 1) f m3 (by omega) (by omega) D3
theorem k_together (hN : 11 ≤ N) (hn : n ≤ 3) (h1 : 384 ≤ cap) (h2 : cap ≤ 119988) (H : HpT (cT nb q cap) F mem) : dOk (m_K_takeTogether xm N 1000 (Int32.ofNat n) x mem) (rI fun _ m => cP xm nb F 0 0 mem cap m) := k_together2 hN hn n 0 N mem (by omega) (by omega) (cP.refl h1 h2 H)
theorem k_cross2 {p : Nat} (hN : 11 ≤ N) (hn : n ≤ 3) (hp1 : 1 ≤ p) (hp : p ≤ 3) : ∀ (k d f : Nat) (mem : kM), d + k = n → k < f → cP xm nb F 0 0 m0 cap0 mem → dOk (m_K_crossNext_2 xm N f 1000 (Int32.ofNat n) (Int32.ofNat p) (Int32.ofNat d) mem) (rI fun _ m => cP xm nb F 0 0 m0 cap0 m) := by
  intro k
  induction k with
  | zero =>
    intro d f mem hd hf D
    obtain ⟨f, rfl⟩ : ∃ f', f = f' + 1 := ⟨f - 1, by omega⟩
    rw [m_K_crossNext_2, if_neg (fun z => by have := (i_lt (by omega) (by omega)).mp z; omega)]
    obtain ⟨q, cap, c, s, k1, k2, H, S1, k3, k4⟩ := D
    refine t_gR H 0 rfl rfl ?_
    refine t_gI H 3 rfl rfl fun v33 => ?_
    refine t_p H 3 rfl rfl rfl ⟨_, rfl⟩ fun m1 H1 S2 => ?_
    refine t_gR H1 0 rfl rfl ?_
    refine t_gR H1 3 rfl rfl ?_
    refine t_rc H1 4 rfl ?_
    obtain ⟨w, hw⟩ := n_at (xm := xm) (N := N) (x := 0) (j := 4) (b := 1005) H1 rfl rfl
    refine ok_eI hw ?_
    exact ok_I ⟨q, cap, c, s, k1, k2, H1, S1.trans S2, k3, k4⟩
  | succ k ih =>
    intro d f mem hd hf D
    obtain ⟨f, rfl⟩ : ∃ f', f = f' + 1 := ⟨f - 1, by omega⟩
    rw [m_K_crossNext_2, if_pos ((i_lt (by omega) (by omega)).mpr (by omega))]
    have D' := D
    obtain ⟨q2, cap2, c2, s2, -, -, H2, -⟩ := D'
    refine t_gR H2 0 rfl rfl ?_
    refine t_gR H2 3 rfl rfl ?_
    refine t_rc H2 4 rfl ?_
    rw [i_add, i_sub1 (by omega), i_add1]
    refine cq_V D (fun q cap k1 k2 H => up_V k1 k2 (n_move (j := 4) (b := 1005) (n := n + p - 1) (by omega) (by omega) H rfl rfl)) fun m3 D3 => ?_
    exact ih (d + 1) f m3 (by omega) (by omega) D3
theorem k_cross {p : Nat} (hN : 11 ≤ N) (hn : n ≤ 3) (hp1 : 1 ≤ p) (hp : p ≤ 3) (h1 : 384 ≤ cap) (h2 : cap ≤ 119988) (H : HpT (cT nb q cap) F mem) : dOk (m_K_crossNext xm N 1000 (Int32.ofNat n) (Int32.ofNat p) mem) (rI fun _ m => cP xm nb F 0 0 mem cap m) := k_cross2 hN hn hp1 hp n 0 N mem (by omega) (by omega) (cP.refl h1 h2 H)
theorem k_bindAt {p : Nat} (hN : 2 ≤ N) (hp : p ≤ 1) (h1 : 384 ≤ cap) (h2 : cap ≤ 119988) (H : HpT (cT nb q cap) F mem) : dOk (m_K_bindAt xm N 1000 (Int32.ofNat p) mem) (rV fun m => cP xm nb F 0 0 mem cap m) := by
  unfold m_K_bindAt
  refine t_gR H 0 rfl rfl ?_
  refine t_gR H 3 rfl rfl ?_
  refine t_rc H 6 rfl ?_
  refine cq_I (cP.refl h1 h2 H) (fun q cap k1 k2 H => up_I k1 k2 (n_take (p := p) (j := 6) (b := 1007) hp hN H rfl rfl)) fun v m2 D2 => ?_
  have D2' := D2
  obtain ⟨q2, cap2, c2, s2, -, -, H2, -⟩ := D2'
  refine t_gR H2 0 rfl rfl ?_
  refine t_rc H2 10 rfl ?_
  refine cq_V D2 (fun q cap k1 k2 H => lp_set k1 k2 H) fun m3 D3 => ?_
  obtain ⟨q, cap, c, s, k1, k2, H3, S1, k3, k4⟩ := D3
  refine t_gR H3 0 rfl rfl ?_
  refine t_gI H3 3 rfl rfl fun v27 => ?_
  refine t_p H3 3 rfl rfl rfl ⟨_, rfl⟩ fun m4 H4 S2 => ?_
  exact ok_V ⟨q, cap, c, s, k1, k2, H4, S1.trans S2, k3, k4⟩
theorem k_bindSec2 (hN : 2 ≤ N) (hn : n < 2 ^ 31) : ∀ (k d f : Nat) (mem : kM), d + k = n → k < f → cP xm nb F 0 0 m0 cap0 mem → dOk (m_K_bindSeconds_2 xm N f 1000 (Int32.ofNat n) (Int32.ofNat d) mem) (rV fun m => cP xm nb F 0 0 m0 cap0 m) := by
  intro k
  induction k with
  | zero =>
    intro d f mem hd hf D
    obtain ⟨f, rfl⟩ : ∃ f', f = f' + 1 := ⟨f - 1, by omega⟩
    rw [m_K_bindSeconds_2, if_neg (fun z => by have := (i_lt (by omega) (by omega)).mp z; omega)]
    exact ok_V D
  | succ k ih =>
    intro d f mem hd hf D
    obtain ⟨f, rfl⟩ : ∃ f', f = f' + 1 := ⟨f - 1, by omega⟩
    rw [m_K_bindSeconds_2, if_pos ((i_lt (by omega) (by omega)).mpr (by omega))]
    have D' := D
    obtain ⟨q2, cap2, c2, s2, -, -, H2, -⟩ := D'
    refine t_rc H2 0 rfl ?_
    rw [i_add1]
    refine cq_V D (fun q cap k1 k2 H => k_bindAt (p := 1) hN (by decide) k1 k2 H) fun m3 D3 => ?_
    exact ih (d + 1) f m3 (by omega) (by omega) D3
theorem k_bindSec (hN : 2 ≤ N) (hn : n < N) (hn2 : n < 2 ^ 31) (h1 : 384 ≤ cap) (h2 : cap ≤ 119988) (H : HpT (cT nb q cap) F mem) : dOk (m_K_bindSeconds xm N 1000 (Int32.ofNat n) mem) (rV fun m => cP xm nb F 0 0 mem cap m) := k_bindSec2 hN hn2 n 0 N mem (by omega) (by omega) (cP.refl h1 h2 H)
theorem k_fasten (hN : 2 ≤ N) (h1 : 384 ≤ cap) (h2 : cap ≤ 119988) (H : HpT (cT nb q cap) F mem) : dOk (m_K_fastenLast xm N 1000 mem) (rV fun m => cP xm nb F 0 0 mem cap m) := by
  unfold m_K_fastenLast
  refine t_gR H 0 rfl rfl ?_
  refine t_rc H 1 rfl ?_
  refine cq_V (cP.refl h1 h2 H) (fun q cap k1 k2 H => up_V k1 k2 (b_spend (j := 1) (b := 1002) (nb := nb) H rfl rfl)) fun m2 D2 => ?_
  have D2' := D2
  obtain ⟨q2, cap2, c2, s2, -, -, H2, -⟩ := D2'
  refine t_rc H2 0 rfl ?_
  exact cq_V D2 (fun q cap k1 k2 H => k_bindAt (p := 0) hN (by decide) k1 k2 H) fun m3 D3 => ok_V D3
theorem k_doStep (hN : 11 ≤ N) (h1 : 384 ≤ cap) (h2 : cap ≤ 119988) (H : HpT (cT nb q cap) F mem) : dOk (m_K_doStep xm N 1000 x mem) (rV fun m => cP xm nb F 0 0 mem cap m) := by
  have D := cP.refl (xm := xm) h1 h2 H
  have one : ∀ (Y : dRes), (∀ q cap, 384 ≤ cap → cap ≤ 119988 → HpT (cT nb q cap) F mem → dOk Y (rI fun _ m => cP xm nb F 0 0 mem cap m)) → dOk (dRc xm mem 1000 11 <| dCI Y fun _ m => some (.inl none, m)) (rV fun m => cP xm nb F 0 0 mem cap m) := by
    intro Y hY
    refine t_rc H 0 rfl ?_
    exact cq_I D hY fun v m D2 => ok_V D2
  unfold m_K_doStep
  refine sw_all (show (9 : Int) - 1 < ((9 : Nat) : Int) by decide) (ok_V D) fun t ht => ?_
  simp only [List.mem_cons, List.not_mem_nil, or_false] at ht
  rcases ht with rfl | rfl | rfl | rfl | rfl | rfl | rfl | rfl | rfl
  · exact one _ fun q cap k1 k2 H => k_workNext hN k1 k2 H
  · exact one _ fun q cap k1 k2 H => k_workNext hN k1 k2 H
  · exact one _ fun q cap k1 k2 H => k_makeOver hN k1 k2 H
  · exact one _ fun q cap k1 k2 H => k_together (n := 2) hN (by decide) k1 k2 H
  · exact one _ fun q cap k1 k2 H => k_together (n := 2) hN (by decide) k1 k2 H
  · exact one _ fun q cap k1 k2 H => k_slipNext (by omega) k1 k2 H
  · exact one _ fun q cap k1 k2 H => k_cross (n := 1) (p := 1) hN (by decide) (by decide) (by decide) k1 k2 H
  · exact one _ fun q cap k1 k2 H => k_together (n := 3) hN (by decide) k1 k2 H
  · refine t_rc H 0 rfl ?_
    refine cq_I D (fun q cap k1 k2 H => k_workNext hN k1 k2 H) fun v m2 D2 => ?_
    have D2' := D2
    obtain ⟨q2, cap2, c2, s2, -, -, H2, -⟩ := D2'
    refine t_rc H2 0 rfl ?_
    refine cq_I D2 (fun q cap k1 k2 H => k_makeOver hN k1 k2 H) fun v m3 D3 => ?_
    have D3' := D3
    obtain ⟨q3, cap3, c3, s3, -, -, H3, -⟩ := D3'
    refine t_rc H3 0 rfl ?_
    exact cq_I D3 (fun q cap k1 k2 H => k_workNext hN k1 k2 H) fun v m4 D4 => ok_V D4
end KZI
