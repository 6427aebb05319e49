/-! ===== the class's calls exactly: join, buy, work, over, together, slip, cross, turn, cast ===== -/
def yNN (ya : List Int32) : Prop := ∀ i, 0 ≤ ya.getD i 0
section EM
variable {xm : Nat → Option kE} {mem m0 : kM} {F G : kSg} {S : kO × kM → Prop} {N k nb q cap c0 s0 c1 s1 cap0 n r w b i t1 t2 : Nat} {jo x y z v t k1 k2 k3 k4 : Int32} {lo : List kLf} {bo pa vl vr ya wl ws xs A : List Int32} {ps : List aS} {rs rs' : List (List Int32)} {sc : Nat → Int32} {st : aS} {T : Nat → Int32} {h : kHs} {sp : aR} {c : aC} {hb hy : List Int32} {hs : Nat → aS} {nx ct : Nat}
theorem bY_nn (hY : yNN ya) : 0 ≤ bY jo ya := by
  unfold bY
  split
  · decide
  · exact hY _
theorem q_canDo {K : Int32 → kM → dRes} {s : Nat} (hX : kXok xm) (hY : yNN ya) (h1 : 1 ≤ s) (h9 : s ≤ 9) (D : KS xm nb jo lo bo pa ps (vl, vr, rs, ya, sc) F c0 s0 m0 cap0 mem) (g : dOk (K (if zCan s vl.length (vl.length + vr.length) (bY jo ya) = true then 1 else 0) mem) S) : dOk (dCI (m_K_canDo xm N 1000 (Int32.ofNat s) mem) K) S := by
  obtain ⟨T, h, I, D⟩ := D
  have h24 := I.1.2.1.2.1
  have hy4 : ya.length = 4 := I.sw.2.2.2.2
  dsimp only at h24
  have e : m_K_canDo xm N 1000 (Int32.ofNat s) mem = some (.inl (some (.int (if zCan s vl.length (vl.length + vr.length) (bY jo ya) = true then 1 else 0))), mem) := by
    refine ok_eq ?_
    unfold m_K_canDo
    refine x_gR D 0 (fun _ _ => rfl) rfl ?_
    refine x_gR D 3 (fun _ _ => rfl) rfl ?_
    refine x_gE (x := Int32.ofNat vl.length) D 4 (fun _ _ => rfl) rfl ?_
    refine x_gR D 0 (fun _ _ => rfl) rfl ?_
    refine x_rc D 3 (fun _ _ => ⟨_, rfl⟩) ?_
    refine x_ro D (fun q cap k2 hz H => wE_onBoth (i := 3) (a := 1003) (st := (vl, vr, rs, ya, sc)) (by dsimp only; omega) H isWE_now) ?_
    refine x_gR D 0 (fun _ _ => rfl) rfl ?_
    refine x_rc D 1 (fun _ _ => ⟨_, rfl⟩) ?_
    refine x_ro D (fun q cap k2 hz H => bE_ofJoined (a := 1001) (b := 1002) (nb := nb) (j := 1) (ya := ya) I.jj I.nb4 hy4 H rfl rfl) ?_
    refine ok_eI (k_fitsE (s := s) (l := vl.length) (a := vl.length + vr.length) (y := bY jo ya) hX h1 h9 (by omega) (by omega) h24 (bY_nn hY)) ?_
    unfold dRt
    rw [if_pos (by split <;> rfl)]
    exact ok_me
  exact ok_eI e g
theorem q_join (D : KS xm nb jo lo bo pa ps st F 0 0 m0 cap0 mem) : dOk (m_K_join xm N 1000 x mem) (eX xm 2 0 (spJoin x (nb, jo, lo, bo, pa, ps, st)) F m0 cap0) := by
  obtain ⟨vl, vr, rs, ya, sc⟩ := st
  have D0 := D
  obtain ⟨T, h, I, D⟩ := D
  have hy4 : ya.length = 4 := I.sw.2.2.2.2
  have hn4 := I.nb4
  unfold m_K_join
  refine x_gR D 0 (fun _ _ => rfl) rfl ?_
  refine x_rc D 1 (fun _ _ => ⟨_, rfl⟩) ?_
  refine x_ro D (fun q cap k2 hz H => bE_has (a := 1001) (b := 1002) (nb := nb) (j := 1) (ya := ya) hn4 hy4 H rfl rfl) ?_
  by_cases g1 : x < 0
  · rw [if_pos g1, if_pos rfl]
    exact q_ex1 (if_pos (Or.inl g1)) D0
  · rw [if_neg g1]
    by_cases g2 : x < Int32.ofNat nb
    · rw [if_pos g2, if_neg (by decide)]
      refine x_gR D 0 (fun _ _ => rfl) rfl ?_
      refine x_gE (x := jo) D 1 (fun _ _ => rfl) rfl ?_
      refine x_gR D 0 (fun _ _ => rfl) rfl ?_
      refine x_p D nb x pa (vl, vr, rs, ya, sc) h 1 (fun _ _ => rfl) rfl rfl (fun _ _ => rfl) fun m1 D1 => ?_
      refine q_end (if_neg (fun z => z.elim g1 (fun z => z g2))) ⟨T, h, I.join ?_, D1⟩
      obtain ⟨e1, l1⟩ := i_of (Int32.not_lt.mp g1)
      exact Or.inr ⟨_, e1, by rw [e1] at g2; exact (i_lt l1 (by omega)).mp g2⟩
    · rw [if_neg g2, if_pos rfl]
      exact q_ex1 (if_pos (Or.inr g2)) D0
theorem q_buy (D : KS xm nb jo lo bo pa ps st F 0 0 m0 cap0 mem) : dOk (m_K_buy xm N 1000 x mem) (eX xm 0 1 (spBuy x (nb, jo, lo, bo, pa, ps, st)) F m0 cap0) := by
  obtain ⟨vl, vr, rs, ya, sc⟩ := st
  have D0 := D
  obtain ⟨T, ⟨nx, ct, hb, hy, hs⟩, I, D⟩ := D
  have hy4 : ya.length = 4 := I.sw.2.2.2.2
  have hn4 := I.nb4
  unfold m_K_buy
  refine ok_if (fun g => q_ex1 (if_pos (Or.inl g)) D0) (fun g1 => ?_)
  refine ok_if (fun g => q_ex1 (if_pos (Or.inr g)) D0) (fun g2 => ?_)
  have g3 : ¬ (x < 1 ∨ 9999 < x) := fun z => z.elim g1 g2
  refine x_gR D 0 (fun _ _ => rfl) rfl ?_
  refine x_gE (x := Int32.ofNat nb) D 1 (fun _ _ => rfl) rfl ?_
  refine ok_if (fun g => ?_) (fun g => ?_)
  · have g : nb < 4 := (i_lt (b := 4) (by omega) (by decide)).mp g
    refine x_gR D 0 (fun _ _ => rfl) rfl ?_
    refine x_rc D 1 (fun _ _ => ⟨_, rfl⟩) ?_
    refine x_IT (P := fun v => v = Int32.ofNat nb) D (nb' := nb + 1) (jo' := jo) (pa' := pa) (st' := (vl, vr, rs, ya.set nb x, sc)) (h' := (nx, ct, hb, hy, fun k => aSetY nb x (hs k))) (fun q cap H => bE_add (a := 1001) (b := 1002) (j := 1) (ya := ya) g hy4 H rfl rfl) fun v m1 hv D1 => ?_
    subst hv
    refine q_end ((if_neg g3).trans (if_neg (by omega))) ⟨T, _, I.buy g, D1⟩
  · have g : nb = 4 := by
      have : ¬ nb < 4 := fun z => g ((i_lt (b := 4) (by omega) (by decide)).mpr z)
      omega
    exact q_ex2 ((if_neg g3).trans (if_pos g)) D0
theorem zCan_work {l a : Nat} {y : Int32} {s : Nat} (hs : s = 1 ∨ s = 2) : (zCan s l a y = true) ↔ (1 ≤ l ∧ ¬ y < 4) := by
  have e4 : Int32.ofNat 4 = 4 := rfl
  rcases hs with rfl | rfl <;> simp [zCan, aWant, aTake, e4]
theorem zWork_eq {kk : Int32} (hi : i < lo.length) (hlo : lo.length < 2 ^ 31) (hj : jo = Int32.ofNat b) (hb : b < 2 ^ 31) : zWork jo kk (lo, bo, (wl ++ [Int32.ofNat i], vr, rs, ya, sc)) = (lo ++ [(kk, jo, sc 5, lo[i].2.2.2.1 + 1, sc 4, 1)], bo, (wl, vr ++ [sc 6], rs.map kFall, ya.set b (ya.getD b 0 - 4), kUp sc 6 (sc 6 + 1))) := by
  have e1 : zHeight lo ((wl ++ [Int32.ofNat i]).getLastD 0) = lo[i].2.2.2.1 := by
    rw [List.getLastD_concat]
    unfold zHeight
    rw [i_nat (by omega), List.getD_eq_getElem?_getD, List.getElem?_eq_getElem hi]
    rfl
  have e2 : (wl ++ [Int32.ofNat i]).dropLast = wl := List.dropLast_concat
  show zMake jo kk (zHeight lo ((wl ++ [Int32.ofNat i]).getLastD 0) + 1) 1 4 (lo, bo, ((wl ++ [Int32.ofNat i]).dropLast, vr, rs, ya, sc)) = _
  rw [e1, e2]
  show (lo ++ [(kk, jo, sc 5, lo[i].2.2.2.1 + 1, sc 4, 1)], bo, (wl, vr ++ [sc 6], rs.map kFall, ya.set jo.toNatClampNeg (ya.getD jo.toNatClampNeg 0 - 4), kUp sc 6 (sc 6 + 1))) = _
  rw [zMake_b hj hb]
theorem q_work (hX : kXok xm) (hN : 120 ≤ N) (hY : yNN ya) (hlo : lo.length ≤ 12300) (hbo : bo.length ≤ 12300) (D : KS xm nb jo lo bo pa ps (vl, vr, rs, ya, sc) F 0 0 m0 cap0 mem) : dOk (m_K_work xm N 1000 x mem) (eX xm 1 0 (spWork x (nb, jo, lo, bo, pa, ps, (vl, vr, rs, ya, sc))) F m0 cap0) := by
  have D0 := D
  obtain ⟨T, h, I, D⟩ := D
  have h24 := I.1.2.1.2.1
  dsimp only at h24
  have go : ∀ (s : Nat), (s = 1 ∨ s = 2) → dOk (m_K_work_10 xm N 1000 x 1000 (Int32.ofNat s) mem) (eX xm 1 0 (spWork x (nb, jo, lo, bo, pa, ps, (vl, vr, rs, ya, sc))) F m0 cap0) := by
    intro s hs
    unfold m_K_work_10
    refine x_rc D 0 (fun _ _ => ⟨_, rfl⟩) ?_
    refine q_canDo hX hY (by omega) (by omega) D0 ?_
    by_cases g : zCan s vl.length (vl.length + vr.length) (bY jo ya) = true
    · rw [if_pos g, if_neg (by decide)]
      obtain ⟨g1, g2⟩ := (zCan_work hs).mp g
      have ne : ¬ vl = [] := fun z => by rw [z] at g1; simp at g1
      have g2 : ¬ aYn jo ya < 4 := fun z => g2 ((bY_lt I.jj (by decide)).mpr z)
      have hsp : spWork x (nb, jo, lo, bo, pa, ps, (vl, vr, rs, ya, sc)) = (0, sc 6, wC nb jo pa (pKeep ps (vl, vr, rs, ya, sc)) (zWork jo (if x = 0 then 1 else 2) (lo, bo, (vl, vr, rs, ya, sc)))) := if_neg (fun z => z.elim ne g2)
      obtain ⟨b, hj, hb⟩ := some_ball I.jj (by decide) g2
      have hn4 := I.nb4
      obtain ⟨wl, v, rfl⟩ := len_ne ne
      obtain ⟨i, rfl, hi⟩ := I.1.2.1.2.2.1 v (List.mem_append_right _ (List.mem_singleton.mpr rfl))
      rw [List.length_append, List.length_singleton] at h24
      rw [hsp]
      refine p_keep D0 fun m1 D1 => ?_
      have fin : ∀ kk : Int32, dOk (m_K_work_51 xm N 1000 kk m1) (eX xm 1 0 (0, sc 6, wC nb jo pa (pKeep ps (wl ++ [Int32.ofNat i], vr, rs, ya, sc)) (zWork jo kk (lo, bo, (wl ++ [Int32.ofNat i], vr, rs, ya, sc)))) F m0 cap0) := by
        intro kk
        unfold m_K_work_51
        have D1' := D1
        obtain ⟨T1, h1, I1, kp1, E1⟩ := D1'
        refine x_rc E1 0 (fun _ _ => ⟨_, rfl⟩) ?_
        refine ok_cI (p_work (by omega) D1 hi hj hb (by omega) (by omega) (by omega)) fun v m2 hh => ?_
        obtain ⟨rfl, D2⟩ := hh
        refine q_end rfl ?_
        rw [zWork_eq hi (by omega) hj (by omega)]
        exact D2.ks
      by_cases gx : x = 0
      · rw [if_pos gx, if_pos gx]
        exact fin 1
      · rw [if_neg gx, if_neg gx]
        exact fin 2
    · rw [if_neg g, if_pos rfl]
      refine q_ex1 (if_pos ?_) D0
      by_cases ne : vl = []
      · exact Or.inl ne
      · refine Or.inr ((bY_lt I.jj (by decide)).mp ?_)
        apply Classical.byContradiction
        intro g2
        exact g ((zCan_work hs).mpr ⟨List.length_pos_iff.mpr ne, g2⟩)
  unfold m_K_work
  exact ok_if (fun _ => go 1 (Or.inl rfl)) (fun _ => go 2 (Or.inr rfl))
theorem q_over (hX : kXok xm) (hN : 120 ≤ N) (hY : yNN ya) (hlo : lo.length ≤ 12300) (hbo : bo.length ≤ 12300) (D : KS xm nb jo lo bo pa ps (vl, vr, rs, ya, sc) F 0 0 m0 cap0 mem) : dOk (m_K_over xm N 1000 mem) (eX xm 1 0 (spOver (nb, jo, lo, bo, pa, ps, (vl, vr, rs, ya, sc))) F m0 cap0) := by
  have D0 := D
  obtain ⟨T, h, I, D⟩ := D
  have h24 := I.1.2.1.2.1
  dsimp only at h24
  have hc : (zCan 3 vl.length (vl.length + vr.length) (bY jo ya) = true) ↔ (¬ bY jo ya < 3 ∧ vl.length + vr.length < 24) := by
    have e3 : Int32.ofNat 3 = 3 := rfl
    simp [zCan, aWant, aTake, e3]
  unfold m_K_over
  refine x_rc D 0 (fun _ _ => ⟨_, rfl⟩) ?_
  refine q_canDo (s := 3) hX hY (by decide) (by decide) D0 ?_
  by_cases g : zCan 3 vl.length (vl.length + vr.length) (bY jo ya) = true
  · rw [if_pos g, if_neg (by decide)]
    obtain ⟨g2, g1⟩ := hc.mp g
    have g2 : ¬ aYn jo ya < 3 := fun z => g2 ((bY_lt I.jj (by decide)).mpr z)
    have hsp : spOver (nb, jo, lo, bo, pa, ps, (vl, vr, rs, ya, sc)) = (0, sc 6, wC nb jo pa (pKeep ps (vl, vr, rs, ya, sc)) (zOver jo (lo, bo, (vl, vr, rs, ya, sc)))) := if_neg (fun z => z.elim (fun z => by omega) g2)
    obtain ⟨b, hj, hb⟩ := some_ball I.jj (by decide) g2
    have hn4 := I.nb4
    rw [hsp]
    refine p_keep D0 fun m1 D1 => ?_
    have D1' := D1
    obtain ⟨T1, h1, I1, kp1, E1⟩ := D1'
    refine x_rc E1 0 (fun _ _ => ⟨_, rfl⟩) ?_
    refine ok_cI (p_over (by omega) D1 hj hb (by omega) (by omega) (by omega)) fun v m2 hh => ?_
    obtain ⟨rfl, D2⟩ := hh
    refine q_end rfl ?_
    have e : zOver jo (lo, bo, (vl, vr, rs, ya, sc)) = (lo ++ [(3, jo, sc 5, 1, sc 4, 0)], bo, (vl, vr ++ [sc 6], rs.map kFall, ya.set b (ya.getD b 0 - 3), kUp (kUp sc 8 (sc 8 + 1)) 6 (sc 6 + 1))) := by
      unfold zOver zMake
      rw [zMake_b hj (by omega)]
      rfl
    rw [e]
    exact D2.ks
  · rw [if_neg g, if_pos rfl]
    refine q_ex1 (if_pos ?_) D0
    by_cases ne : vl.length + vr.length = 24
    · exact Or.inl ne
    · refine Or.inr ((bY_lt I.jj (by decide)).mp ?_)
      apply Classical.byContradiction
      intro g2
      exact g (hc.mpr ⟨g2, by omega⟩)
theorem q_slip (hX : kXok xm) (hN : 120 ≤ N) (hY : yNN ya) (hlo : lo.length ≤ 12300) (hbo : bo.length ≤ 12300) (D : KS xm nb jo lo bo pa ps (vl, vr, rs, ya, sc) F 0 0 m0 cap0 mem) : dOk (m_K_slip xm N 1000 mem) (eX xm 1 0 (spSlip (nb, jo, lo, bo, pa, ps, (vl, vr, rs, ya, sc))) F m0 cap0) := by
  have D0 := D
  obtain ⟨T, h, I, D⟩ := D
  have hc : (zCan 6 vl.length (vl.length + vr.length) (bY jo ya) = true) ↔ 1 ≤ vl.length := by
    simp [zCan, aWant, aTake]
  unfold m_K_slip
  refine x_rc D 0 (fun _ _ => ⟨_, rfl⟩) ?_
  refine q_canDo (s := 6) hX hY (by decide) (by decide) D0 ?_
  by_cases g : zCan 6 vl.length (vl.length + vr.length) (bY jo ya) = true
  · rw [if_pos g, if_neg (by decide)]
    have g1 := hc.mp g
    have ne : ¬ vl = [] := fun z => by rw [z] at g1; simp at g1
    have hsp : spSlip (nb, jo, lo, bo, pa, ps, (vl, vr, rs, ya, sc)) = (0, vl.getLastD 0, wC nb jo pa (pKeep ps (vl, vr, rs, ya, sc)) (zSlip (lo, bo, (vl, vr, rs, ya, sc)))) := if_neg ne
    obtain ⟨wl, v, rfl⟩ := len_ne ne
    obtain ⟨i, rfl, hi⟩ := I.1.2.1.2.2.1 v (List.mem_append_right _ (List.mem_singleton.mpr rfl))
    rw [hsp]
    refine p_keep D0 fun m1 D1 => ?_
    have D1' := D1
    obtain ⟨T1, h1, I1, kp1, E1⟩ := D1'
    refine x_rc E1 0 (fun _ _ => ⟨_, rfl⟩) ?_
    refine ok_cI (p_slip (by omega) D1 hi (by omega) (by omega)) fun v m2 hh => ?_
    obtain ⟨rfl, D2⟩ := hh
    refine q_end (by rw [List.getLastD_concat]) ?_
    have e : zSlip (lo, bo, (wl ++ [Int32.ofNat i], vr, rs, ya, sc)) = (lo, bo, (wl, vr ++ [Int32.ofNat i], rs, ya, sc)) := by
      show (lo, bo, ((wl ++ [Int32.ofNat i]).dropLast, vr ++ [(wl ++ [Int32.ofNat i]).getLastD 0], rs, ya, sc)) = _
      rw [List.getLastD_concat, List.dropLast_concat]
    rw [e]
    exact D2.ks
  · rw [if_neg g, if_pos rfl]
    refine q_ex1 (if_pos ?_) D0
    apply Classical.byContradiction
    intro ne
    exact g (hc.mpr (List.length_pos_iff.mpr ne))
theorem q_together (hX : kXok xm) (hN : 120 ≤ N) (hY : yNN ya) (hlo : lo.length ≤ 12300) (hbo : bo.length ≤ 12300) (D : KS xm nb jo lo bo pa ps (vl, vr, rs, ya, sc) F 0 0 m0 cap0 mem) : dOk (m_K_together xm N 1000 x y mem) (eX xm 0 1 (spTog x y (nb, jo, lo, bo, pa, ps, (vl, vr, rs, ya, sc))) F m0 cap0) := by
  have D0 := D
  obtain ⟨T, h, I, D⟩ := D
  have h24 := I.1.2.1.2.1
  dsimp only at h24
  have go : ∀ (n s : Nat), x = Int32.ofNat n → (n = 2 ∧ s = 4 ∨ n = 3 ∧ s = 8) → dOk (m_K_together_32 xm N 1000 x y 1000 (Int32.ofNat s) mem) (eX xm 0 1 (spTog x y (nb, jo, lo, bo, pa, ps, (vl, vr, rs, ya, sc))) F m0 cap0) := by
    intro n s hx hns
    have hxx : x = 2 ∨ x = 3 := by
      rw [hx]
      rcases hns with ⟨rfl, -⟩ | ⟨rfl, -⟩
      · exact Or.inl rfl
      · exact Or.inr rfl
    have hxn : x.toNatClampNeg = n := by rw [hx]; exact i_nat (by omega)
    have hc : (zCan s vl.length (vl.length + vr.length) (bY jo ya) = true) ↔ (n ≤ vl.length ∧ ¬ bY jo ya < 5) := by
      have e5 : Int32.ofNat 5 = 5 := rfl
      rcases hns with ⟨rfl, rfl⟩ | ⟨rfl, rfl⟩ <;> simp [zCan, aWant, aTake, e5]
    unfold m_K_together_32
    refine x_rc D 0 (fun _ _ => ⟨_, rfl⟩) ?_
    refine q_canDo hX hY (by omega) (by omega) D0 ?_
    by_cases g : zCan s vl.length (vl.length + vr.length) (bY jo ya) = true
    · rw [if_pos g, if_neg (by decide)]
      obtain ⟨g1, g2⟩ := hc.mp g
      have g2 : ¬ aYn jo ya < 5 := fun z => g2 ((bY_lt I.jj (by decide)).mpr z)
      have hsp : spTog x y (nb, jo, lo, bo, pa, ps, (vl, vr, rs, ya, sc)) = (0, sc 6, wC nb jo pa (pKeep ps (vl, vr, rs, ya, sc)) (zTog jo x.toNatClampNeg (if y = 0 then 4 else 5) (lo, bo, (vl, vr, rs, ya, sc)))) := (if_neg (fun z => z hxx)).trans (if_neg (fun z => z.elim (fun z => by omega) g2))
      obtain ⟨b, hj, hb⟩ := some_ball I.jj (by decide) g2
      have hn4 := I.nb4
      rw [hsp, hxn]
      refine p_keep D0 fun m1 D1 => ?_
      have ew : vl = vl.take (vl.length - n) ++ vl.drop (vl.length - n) := (List.take_append_drop _ _).symm
      have lw : (vl.drop (vl.length - n)).length = n := by rw [List.length_drop]; omega
      have fin : ∀ kk : Int32, dOk (m_K_together_74 xm N 1000 x kk m1) (eX xm 0 1 (0, sc 6, wC nb jo pa (pKeep ps (vl, vr, rs, ya, sc)) (zTog jo n kk (lo, bo, (vl, vr, rs, ya, sc)))) F m0 cap0) := by
        intro kk
        unfold m_K_together_74
        have D1' := D1
        obtain ⟨T1, h1, I1, kp1, E1⟩ := D1'
        refine x_rc E1 0 (fun _ _ => ⟨_, rfl⟩) ?_
        have D1'' : KK xm nb jo lo bo pa (pKeep ps (vl, vr, rs, ya, sc)) (vl.take (vl.length - n) ++ vl.drop (vl.length - n), vr, rs, ya, sc) F 0 0 m0 cap0 m1 := by
          rw [← ew]
          exact D1
        rw [hx]
        refine ok_cI (p_tog (n := n) (by omega) (by omega) lw D1'' hj hb (by rw [List.length_take]; omega) (by omega) (by omega)) fun v m2 hh => ?_
        obtain ⟨rfl, D2⟩ := hh
        refine q_end rfl ?_
        have e : zTog jo n kk (lo, bo, (vl, vr, rs, ya, sc)) = (lo ++ [(kk, jo, sc 5, 1, sc 4, Int32.ofNat n)], bo, (vl.take (vl.length - n), vr ++ [sc 6], rs.map kFall, ya.set b (ya.getD b 0 - 5), kUp sc 6 (sc 6 + 1))) := by
          unfold zTog zMake
          rw [zMake_b hj (by omega)]
        rw [e]
        exact D2.ks
      by_cases gy : y = 0
      · rw [if_pos gy, if_pos gy]
        exact fin 4
      · rw [if_neg gy, if_neg gy]
        exact fin 5
    · rw [if_neg g, if_pos rfl]
      refine q_ex2 ((if_neg (fun z => z hxx)).trans (if_pos ?_)) D0
      by_cases ne : vl.length < x.toNatClampNeg
      · exact Or.inl ne
      · refine Or.inr ((bY_lt I.jj (by decide)).mp ?_)
        apply Classical.byContradiction
        intro g2
        exact g (hc.mpr ⟨by omega, g2⟩)
  unfold m_K_together m_K_together_20
  refine ok_if (fun e => ?_) (fun e1 => ?_)
  · rw [if_pos e]
    exact go 2 4 e (Or.inl ⟨rfl, rfl⟩)
  · refine ok_if (fun e => ?_) (fun e2 => ?_)
    · rw [if_neg e1]
      exact go 3 8 e (Or.inr ⟨rfl, rfl⟩)
    · exact q_ex1 (if_pos (fun z => z.elim e1 e2)) D0
theorem zCrossL_eq {n1 n2 : Nat} (hw : ws.length = n1) (hx : xs.length = n2) : zCrossL n1 n2 (A ++ xs ++ ws) = A ++ ws ++ xs := by
  unfold zCrossL
  have e : (A ++ xs ++ ws).length - (n1 + n2) = A.length := by simp; omega
  have t1 : (A ++ xs ++ ws).take A.length = A := by simp
  have d1 : (A ++ xs ++ ws).drop A.length = xs ++ ws := by simp
  have t2 : (xs ++ ws).take n2 = xs := by subst hx; simp
  have d2 : (xs ++ ws).drop n2 = ws := by subst hx; simp
  rw [e, t1, d1, t2, d2]
theorem q_cross (hX : kXok xm) (hN : 120 ≤ N) (hlo : lo.length ≤ 12300) (hbo : bo.length ≤ 12300) (D : KS xm nb jo lo bo pa ps (vl, vr, rs, ya, sc) F 0 0 m0 cap0 mem) : dOk (m_K_cross xm N 1000 x y mem) (eX xm 0 1 (spCross x y (nb, jo, lo, bo, pa, ps, (vl, vr, rs, ya, sc))) F m0 cap0) := by
  have D0 := D
  obtain ⟨T, h, I, D⟩ := D
  have h24 : vl.length ≤ 24 := I.sw.1
  unfold m_K_cross
  refine ok_if (fun g => q_ex1 (if_pos (Or.inl (Or.inl g))) D0) (fun g1 => ?_)
  refine ok_if (fun g => q_ex1 (if_pos (Or.inl (Or.inr g))) D0) (fun g2 => ?_)
  refine ok_if (fun g => q_ex1 (if_pos (Or.inr (Or.inl g))) D0) (fun g3 => ?_)
  refine ok_if (fun g => q_ex1 (if_pos (Or.inr (Or.inr g))) D0) (fun g4 => ?_)
  have g5 : ¬ ((x < 1 ∨ 3 < x) ∨ y < 1 ∨ 3 < y) := fun z => z.elim (fun z => z.elim g1 g2) (fun z => z.elim g3 g4)
  obtain ⟨n1, hi, hi2, rfl⟩ := i_rng (n := 3) (by decide) g1 g2
  obtain ⟨n2, hp, hp2, rfl⟩ := i_rng (n := 3) (by decide) g3 g4
  have e1 : (Int32.ofNat n1).toNatClampNeg = n1 := i_nat (by omega)
  have e2 : (Int32.ofNat n2).toNatClampNeg = n2 := i_nat (by omega)
  refine x_gR D 0 (fun _ _ => rfl) rfl ?_
  refine x_gR D 3 (fun _ _ => rfl) rfl ?_
  refine x_gE (x := Int32.ofNat vl.length) D 4 (fun _ _ => rfl) rfl ?_
  rw [i_add]
  refine ok_if (fun g => ?_) (fun g => ?_)
  · have g := (i_lt (by omega) (by omega)).mp g
    exact q_ex2 ((if_neg g5).trans (if_pos (by rw [e1, e2]; exact g))) D0
  · have g : ¬ vl.length < n1 + n2 := fun z => g ((i_lt (by omega) (by omega)).mpr z)
    have hsp : spCross (Int32.ofNat n1) (Int32.ofNat n2) (nb, jo, lo, bo, pa, ps, (vl, vr, rs, ya, sc)) = (0, nAt (zCrossL n1 n2 vl) 0, wC nb jo pa (pKeep ps (vl, vr, rs, ya, sc)) (zCross n1 n2 (lo, bo, (vl, vr, rs, ya, sc)))) := by
      refine (if_neg g5).trans ((if_neg (by rw [e1, e2]; exact g)).trans ?_)
      rw [e1, e2]
    rw [hsp]
    refine p_keep D0 fun m1 D1 => ?_
    obtain ⟨A, xs, ws, rfl, hx, hw⟩ := split3 (l := vl) (n1 := n1) (n2 := n2) (by omega)
    have D1' := D1
    obtain ⟨T1, h1, I1, kp1, E1⟩ := D1'
    refine x_rc E1 0 (fun _ _ => ⟨_, rfl⟩) ?_
    refine ok_cI (p_cross (n := n1) (n2 := n2) (by omega) hi2 hp hp2 hx hw (by omega) D1) fun v m2 hh => ?_
    obtain ⟨rfl, D2⟩ := hh
    refine q_end (by rw [zCrossL_eq hw hx]) ?_
    show KC xm (wC nb jo pa (pKeep ps (A ++ xs ++ ws, vr, rs, ya, sc)) (lo, bo, (zCrossL n1 n2 (A ++ xs ++ ws), vr, rs, ya, kUp sc 9 (sc 9 + 1)))) F 0 0 m0 cap0 m2
    rw [zCrossL_eq hw hx]
    exact D2.ks
theorem par (r : Int32) : 1 - (r &&& 1) = (r + 1) &&& 1 := by
  apply Int32.toBitVec_inj.mp
  rw [Int32.toBitVec_sub, Int32.toBitVec_and, Int32.toBitVec_and, Int32.toBitVec_add]
  apply BitVec.eq_of_toNat_eq
  have e1 : (1 : Int32).toBitVec.toNat = 1 := rfl
  rw [BitVec.toNat_sub, BitVec.toNat_and, BitVec.toNat_and, BitVec.toNat_add, e1, Nat.and_one_is_mod, Nat.and_one_is_mod]
  omega
theorem q_turn (hX : kXok xm) (hN : 120 ≤ N) (hlo : lo.length ≤ 12300) (hbo : bo.length ≤ 12300) (D : KS xm nb jo lo bo pa ps (vl, vr, rs, ya, sc) F 0 0 m0 cap0 mem) : dOk (m_K_turn xm N 1000 mem) (eX xm 1 0 (spTurn (nb, jo, lo, bo, pa, ps, (vl, vr, rs, ya, sc))) F m0 cap0) := by
  have D0 := D
  obtain ⟨T, h, I, D⟩ := D
  have h24 := I.1.2.1.2.1
  dsimp only at h24
  unfold m_K_turn
  refine x_gR D 0 (fun _ _ => rfl) rfl ?_
  refine x_rc D 3 (fun _ _ => ⟨_, rfl⟩) ?_
  refine x_ro D (fun q cap k2 hz H => wE_onBoth (i := 3) (a := 1003) (st := (vl, vr, rs, ya, sc)) (by dsimp only; omega) H isWE_now) ?_
  refine ok_if (fun g => ?_) (fun g => ?_)
  · have g : vl.length + vr.length = 0 := (i_eq (a := vl.length + vr.length) (b := 0) (by omega) (by decide)).mp g
    exact q_ex1 (if_pos g) D0
  · have g : ¬ vl.length + vr.length = 0 := fun z => g ((i_eq (a := vl.length + vr.length) (b := 0) (by omega) (by decide)).mpr z)
    have hsp : spTurn (nb, jo, lo, bo, pa, ps, (vl, vr, rs, ya, sc)) = (0, Int32.ofNat vr.length, (nb, jo, lo, bo, pa, pKeep ps (vl, vr, rs, ya, sc), (vr, vl, rs, ya, kUp (kUp (kUp sc 10 (sc 10 + if vl = [] then 0 else 1)) 4 (1 - sc 4)) 5 (sc 5 + 1)))) := if_neg g
    rw [hsp]
    refine p_keep D0 fun m1 D1 => ?_
    obtain ⟨T1, h1, I1, kp1, E1⟩ := D1
    have side := (I1.2.2.2.1 _ (List.mem_append_right _ (List.mem_singleton.mpr rfl))).1
    dsimp only at side
    refine x_gR E1 0 (fun _ _ => rfl) rfl ?_
    refine x_gR E1 3 (fun _ _ => rfl) rfl ?_
    refine x_gE (x := Int32.ofNat vl.length) E1 4 (fun _ _ => rfl) rfl ?_
    have fin : ∀ (m2 : kM) (z : Int32), (if vl = [] then (0 : Int32) else 1) = z → eQ xm (eS nb jo pa (vl, vr, rs, ya, kUp sc 10 (sc 10 + z)) T1 h1 F) 0 0 m0 cap0 m2 → dOk (m_K_turn_61 xm N 1000 m2) (eX xm 1 0 (0, Int32.ofNat vr.length, (nb, jo, lo, bo, pa, pKeep ps (vl, vr, rs, ya, sc), (vr, vl, rs, ya, kUp (kUp (kUp sc 10 (sc 10 + if vl = [] then 0 else 1)) 4 (1 - sc 4)) 5 (sc 5 + 1)))) F m0 cap0) := by
      intro m2 z hz E2
      rw [hz]
      unfold m_K_turn_61
      refine x_gR E2 0 (fun _ _ => rfl) rfl ?_
      refine x_gR E2 3 (fun _ _ => rfl) rfl ?_
      refine x_gR E2 0 (fun _ _ => rfl) rfl ?_
      refine x_gR E2 3 (fun _ _ => rfl) rfl ?_
      refine x_rc E2 4 (fun _ _ => ⟨_, rfl⟩) ?_
      refine x_VT E2 (nb' := nb) (jo' := jo) (pa' := pa) (st' := (vr, vl, rs, ya, kUp sc 10 (sc 10 + z))) (h' := h1) (fun q cap H => nE_swap (a := 1004) (b := 1005) (a1 := 1006) (b1 := 1007) (j := 4) (i := 6) (vl := vl) (vr := vr) (by omega) (by omega) H rfl rfl rfl rfl) fun m3 E3 => ?_
      refine x_gR E3 0 (fun _ _ => rfl) rfl ?_
      refine x_gE (x := sc 5) E3 3 (fun _ _ => rfl) rfl ?_
      refine x_p E3 nb jo pa (vr, vl, rs, ya, kUp (kUp (kUp sc 10 (sc 10 + z)) 4 (1 - sc 4)) 5 (sc 5 + 1)) h1 3 (fun _ _ => rfl) rfl rfl (fun _ _ => rfl) fun m4 E4 => ?_
      refine x_gR E4 0 (fun _ _ => rfl) rfl ?_
      refine x_gR E4 3 (fun _ _ => rfl) rfl ?_
      refine x_gE (x := Int32.ofNat vr.length) E4 4 (fun _ _ => rfl) rfl ?_
      refine q_end rfl ⟨T1, h1, I1.perm (by omega) List.perm_append_comm ?_ rfl rfl, E4⟩
      show 1 - sc 4 = (sc 5 + 1) &&& 1
      rw [side]
      exact par _
    refine ok_if (fun g1 => ?_) (fun g1 => ?_)
    · have g1 : 0 < vl.length := (i_lt (a := 0) (by decide) (by omega)).mp g1
      refine x_gR E1 0 (fun _ _ => rfl) rfl ?_
      refine x_gE (x := sc 10) E1 3 (fun _ _ => rfl) rfl ?_
      refine x_p E1 nb jo pa (vl, vr, rs, ya, kUp sc 10 (sc 10 + 1)) h1 3 (fun _ _ => rfl) rfl rfl (fun _ _ => rfl) fun m2 E2 => ?_
      exact fin m2 1 (if_neg (fun z => by rw [z] at g1; simp at g1)) E2
    · have g1 : ¬ 0 < vl.length := fun z => g1 ((i_lt (a := 0) (by decide) (by omega)).mpr z)
      refine fin m1 0 (if_pos (List.length_eq_zero_iff.mp (by omega))) ?_
      refine E1.map fun q cap H => ?_
      obtain ⟨hz, H⟩ := H
      refine ⟨hz, ?_⟩
      have e : wO 1003 (vl, vr, rs, ya, kUp sc 10 (sc 10 + 0)) = wO 1003 (vl, vr, rs, ya, sc) := by
        unfold wO
        dsimp only
        rw [kUp_eq, Int32.add_zero, kUp_ne (by decide), kUp_ne (by decide), kUp_ne (by decide), kUp_ne (by decide), kUp_ne (by decide)]
      have e2 : cE nb jo pa (vl, vr, rs, ya, kUp sc 10 (sc 10 + 0)) q cap T1 h1 = (cE nb jo pa (vl, vr, rs, ya, sc) q cap T1 h1).set 3 (1003, wO 1003 (vl, vr, rs, ya, kUp sc 10 (sc 10 + 0))) := rfl
      rw [e2, e, set_self rfl]
      exact H
end EM
