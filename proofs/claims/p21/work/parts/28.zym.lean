/-! ===== the class's calls exactly: cast, bind, drop, latch, undo ===== -/
section EN
variable {xm : Nat → Option kE} {mem m0 : kM} {F G : kSg} {S : kO × kM → Prop} {N k nb q cap c0 s0 c1 s1 cap0 n r w b i t1 t2 : Nat} {jo x y z v t k1 k2 k3 k4 : Int32} {lo : List kLf} {bo pa vl vr ya wl ws xs A : List Int32} {ps : List aS} {rs rs' : List (List Int32)} {sc : Nat → Int32} {st : aS} {T : Nat → Int32} {h : kHs} {sp : aR} {c : aC} {hb hy : List Int32} {hs : Nat → aS} {nx ct : Nat}
theorem cast75 {es : Nat} (hN : 120 ≤ N) (hn : n ≤ 24) (hj : jo = Int32.ofNat b) (hb : b < nb) (hbo : bo.length ≤ 12300) : ∀ (k d f : Nat) (lo : List kLf) (vr ya : List Int32) (rs : List (List Int32)) (sc : Nat → Int32) (mem : kM), d + k = n → k < f → vl.length + vr.length + k ≤ 24 → lo.length + k ≤ 12400 → KK xm nb jo lo bo pa ps (vl, vr, rs, ya, sc) F 0 0 m0 cap0 mem → dOk (m_K_cast_75 xm N f 1000 (Int32.ofNat n) (Int32.ofNat d) mem) (eX xm t1 t2 (0, Int32.ofNat (vl.length + vr.length + k), wC nb jo pa ps (zIter (zMake jo 0 1 0 2) k (lo, bo, (vl, vr, rs, ya, sc)))) F m0 cap0) := by
  intro k
  induction k with
  | zero =>
    intro d f lo vr ya rs sc mem hd hf h24 hlo D
    obtain ⟨f, rfl⟩ : ∃ f', f = f' + 1 := ⟨f - 1, by omega⟩
    rw [m_K_cast_75, if_neg (fun z => by have := (i_lt (by omega) (by omega)).mp z; omega)]
    have D0 := D
    obtain ⟨T, h, I, kp, D⟩ := D
    refine x_gR D 0 (fun _ _ => rfl) rfl ?_
    refine x_rc D 3 (fun _ _ => ⟨_, rfl⟩) ?_
    refine x_ro D (fun q cap k2 hz H => wE_onBoth (i := 3) (a := 1003) (st := (vl, vr, rs, ya, sc)) (by dsimp only; omega) H isWE_now) ?_
    exact q_end rfl D0.ks
  | succ k ih =>
    intro d f lo vr ya rs sc mem hd hf h24 hlo D
    obtain ⟨f, rfl⟩ : ∃ f', f = f' + 1 := ⟨f - 1, by omega⟩
    rw [m_K_cast_75, if_pos ((i_lt (by omega) (by omega)).mpr (by omega))]
    have D0 := D
    obtain ⟨T, h, I, kp, D⟩ := D
    have hn4 := I.nb4
    refine x_rc D 0 (fun _ _ => ⟨_, rfl⟩) ?_
    refine ok_cI (p_make (k1 := 0) (k2 := 1) (k3 := 0) (k4 := 2) (by omega) D0 hj hb (by omega) (by omega) (by omega)) fun v m2 hh => ?_
    rw [i_add1]
    have h1 := ih (d + 1) f _ _ _ _ _ m2 (by omega) (by omega) (by simp; omega) (by simp; omega) hh.2
    have e1 : vl.length + (vr ++ [sc 6]).length + k = vl.length + vr.length + (k + 1) := by simp; omega
    have e2 : zIter (zMake jo 0 1 0 2) (k + 1) (lo, bo, (vl, vr, rs, ya, sc)) = zIter (zMake jo 0 1 0 2) k (lo ++ [(0, jo, sc 5, 1, sc 4, 0)], bo, (vl, vr ++ [sc 6], rs.map kFall, ya.set b (ya.getD b 0 - 2), kUp sc 6 (sc 6 + 1))) := by
      show zIter (zMake jo 0 1 0 2) k (lo ++ [(0, jo, sc 5, 1, sc 4, 0)], bo, (vl, vr ++ [sc 6], rs.map kFall, ya.set jo.toNatClampNeg (ya.getD jo.toNatClampNeg 0 - 2), kUp sc 6 (sc 6 + 1))) = _
      rw [zMake_b hj (by omega)]
    rw [e1] at h1
    rw [e2]
    exact h1
theorem q_cast (hX : kXok xm) (hN : 120 ≤ N) (hlo : lo.length ≤ 12300) (hbo : bo.length ≤ 12300) (D : KS xm nb jo lo bo pa ps (vl, vr, rs, ya, sc) F 0 0 m0 cap0 mem) : dOk (m_K_cast xm N 1000 x mem) (eX xm 0 1 (spCast x (nb, jo, lo, bo, pa, ps, (vl, vr, rs, ya, sc))) F m0 cap0) := by
  have D0 := D
  obtain ⟨T, h, I, D⟩ := D
  have h24 := I.1.2.1.2.1
  have hy4 : ya.length = 4 := I.sw.2.2.2.2
  dsimp only at h24
  unfold m_K_cast
  refine ok_if (fun g => q_ex1 (if_pos (Or.inl g)) D0) (fun g1 => ?_)
  refine ok_if (fun g => q_ex1 (if_pos (Or.inr g)) D0) (fun g2 => ?_)
  have g3 : ¬ (x < 1 ∨ 24 < x) := fun z => z.elim g1 g2
  obtain ⟨n, hi, hi2, rfl⟩ := i_rng (n := 24) (by decide) g1 g2
  have e1 : (Int32.ofNat n).toNatClampNeg = n := i_nat (by omega)
  have e2 : Int32.ofNat n * 2 = Int32.ofNat (2 * n) := by
    rw [show (2 : Int32) = Int32.ofNat 2 from rfl, i_mul, Nat.mul_comm]
  have e3 : 2 * Int32.ofNat n = Int32.ofNat (2 * n) := by
    rw [show (2 : Int32) = Int32.ofNat 2 from rfl, i_mul]
  have hpos : 0 < Int32.ofNat (2 * n) := (i_lt (a := 0) (by decide) (by omega)).mpr (by omega)
  refine x_gR D 0 (fun _ _ => rfl) rfl ?_
  refine x_rc D 1 (fun _ _ => ⟨_, rfl⟩) ?_
  refine x_ro D (fun q cap k2 hz H => bE_ofJoined (a := 1001) (b := 1002) (nb := nb) (j := 1) (ya := ya) I.jj I.nb4 hy4 H rfl rfl) ?_
  rw [e2]
  refine ok_if (fun g => ?_) (fun g => ?_)
  · exact q_ex2 ((if_neg g3).trans (if_pos (Or.inl (by rw [e3]; exact (bY_lt I.jj hpos).mp g)))) D0
  · have g : ¬ aYn jo ya < Int32.ofNat (2 * n) := fun z => g ((bY_lt I.jj hpos).mpr z)
    refine x_gR D 0 (fun _ _ => rfl) rfl ?_
    refine x_rc D 3 (fun _ _ => ⟨_, rfl⟩) ?_
    refine x_ro D (fun q cap k2 hz H => wE_onBoth (i := 3) (a := 1003) (st := (vl, vr, rs, ya, sc)) (by dsimp only; omega) H isWE_now) ?_
    have e4 : Int32.ofNat ((vl, vr, rs, ya, sc).1.length + (vl, vr, rs, ya, sc).2.1.length) + Int32.ofNat n = Int32.ofNat (vl.length + vr.length + n) := i_add
    rw [e4]
    refine ok_if (fun g4 => ?_) (fun g4 => ?_)
    · have g4 : 24 < vl.length + vr.length + n := (i_lt (a := 24) (by decide) (by omega)).mp g4
      exact q_ex2 ((if_neg g3).trans (if_pos (Or.inr (by rw [e1]; exact g4)))) D0
    · have g4 : ¬ 24 < vl.length + vr.length + n := fun z => g4 ((i_lt (a := 24) (by decide) (by omega)).mpr z)
      have hsp : spCast (Int32.ofNat n) (nb, jo, lo, bo, pa, ps, (vl, vr, rs, ya, sc)) = (0, Int32.ofNat (vl.length + vr.length + n), wC nb jo pa (pKeep ps (vl, vr, rs, ya, sc)) (zIter (zMake jo 0 1 0 2) n (lo, bo, (vl, vr, rs, ya, sc)))) := by
        refine (if_neg g3).trans ((if_neg (by rw [e1, e3]; exact fun z => z.elim g g4)).trans ?_)
        rw [e1]
      obtain ⟨b, hj, hb⟩ := some_ball I.jj (i_ge0 (show 2 * n < 2 ^ 31 by omega)) g
      rw [hsp]
      refine p_keep D0 fun m1 D1 => ?_
      exact cast75 (es := 0) hN hi2 hj hb hbo n 0 N lo vr ya rs sc m1 (by omega) (by omega) (by omega) (by omega) D1
theorem q_drop (hX : kXok xm) (hN : 120 ≤ N) (hlo : lo.length ≤ 12300) (hbo : bo.length ≤ 12300) (D : KS xm nb jo lo bo pa ps (vl, vr, rs, ya, sc) F 0 0 m0 cap0 mem) : dOk (m_K_drop xm N 1000 mem) (eX xm 1 0 (spDrop (nb, jo, lo, bo, pa, ps, (vl, vr, rs, ya, sc))) F m0 cap0) := by
  have D0 := D
  obtain ⟨T, h, I, D⟩ := D
  have h24 : vl.length ≤ 24 := I.sw.1
  have hr9 : rs.length ≤ 9 := I.sw.2.2.1
  unfold m_K_drop
  refine x_gR D 0 (fun _ _ => rfl) rfl ?_
  refine x_gR D 3 (fun _ _ => rfl) rfl ?_
  refine x_gE (x := Int32.ofNat vl.length) D 4 (fun _ _ => rfl) rfl ?_
  refine ok_if (fun g => ?_) (fun g => ?_)
  · have g : vl.length = 0 := (i_lt1 (by omega)).mp g
    exact q_ex1 (if_pos (Or.inl (List.length_eq_zero_iff.mp g))) D0
  · have ne : ¬ vl = [] := fun z => g ((i_lt1 (by omega)).mpr (by rw [z]; rfl))
    refine x_gR D 0 (fun _ _ => rfl) rfl ?_
    refine x_gE (x := Int32.ofNat rs.length) D 3 (fun _ _ => rfl) rfl ?_
    refine ok_if (fun g9 => ?_) (fun g9 => ?_)
    · have g9 : rs.length < 9 := (i_lt (b := 9) (by omega) (by decide)).mp g9
      have hsp : spDrop (nb, jo, lo, bo, pa, ps, (vl, vr, rs, ya, sc)) = (0, Int32.ofNat rs.length, (nb, jo, lo, bo, pa, pKeep ps (vl, vr, rs, ya, sc), (vl.dropLast, vr, rs ++ [[vl.getLastD 0, zHeight lo (vl.getLastD 0), 0, 1]], ya, sc))) := if_neg (fun z => z.elim ne (fun z => by omega))
      obtain ⟨wl, v, rfl⟩ := len_ne ne
      obtain ⟨i, rfl, hi⟩ := I.1.2.1.2.2.1 v (List.mem_append_right _ (List.mem_singleton.mpr rfl))
      rw [hsp]
      refine p_keep D0 fun m1 D1 => ?_
      obtain ⟨T1, h1, I1, kp1, E1⟩ := D1
      refine x_gR E1 0 (fun _ _ => rfl) rfl ?_
      refine x_gR E1 3 (fun _ _ => rfl) rfl ?_
      refine x_rc E1 4 (fun _ _ => ⟨_, rfl⟩) ?_
      refine x_IT (P := fun y => y = Int32.ofNat i) E1 (nb' := nb) (jo' := jo) (pa' := pa) (st' := (wl, vr, rs, ya, sc)) (h' := h1) (fun q cap H => nE_take0 (a := 1004) (b := 1005) (j := 4) (wl := wl) (v := Int32.ofNat i) (id_ne hi (by omega)) (by omega) h24 H rfl rfl) fun v m2 hv E2 => ?_
      subst hv
      refine x_gR E2 0 (fun _ _ => rfl) rfl ?_
      refine x_gR E2 0 (fun _ _ => rfl) rfl ?_
      refine x_rc E2 10 (fun _ _ => ⟨_, rfl⟩) ?_
      refine x_ro E2 (fun q cap k2 hz H => lE_get (r := i) (w := 3) k2 (by omega) (by decide) hz H) ?_
      rw [show T1 (i * 6 + 3) = lo[i].2.2.2.1 from I1.2.1.at (List.getElem?_eq_getElem hi)]
      refine x_rc E2 3 (fun _ _ => ⟨_, rfl⟩) ?_
      refine x_IT (P := fun y => y = Int32.ofNat rs.length) E2 (nb' := nb) (jo' := jo) (pa' := pa) (st' := (wl, vr, rs ++ [[Int32.ofNat i, lo[i].2.2.2.1, 0, 1]], ya, sc)) (h' := h1) (fun q cap H => wE_openRun (i := 3) (a := 1003) (st := (wl, vr, rs, ya, sc)) g9 H isWE_now) fun v m3 hv E3 => ?_
      subst hv
      refine q_end rfl ?_
      have e1 : zHeight lo ((wl ++ [Int32.ofNat i]).getLastD 0) = lo[i].2.2.2.1 := by
        rw [List.getLastD_concat]
        unfold zHeight
        rw [i_nat (by omega), List.getD_eq_getElem?_getD, List.getElem?_eq_getElem hi]
        rfl
      rw [e1, List.getLastD_concat, List.dropLast_concat]
      exact ⟨T1, h1, I1.drop (by omega) g9, E3⟩
    · have g9 : rs.length = 9 := by
        have : ¬ rs.length < 9 := fun z => g9 ((i_lt (b := 9) (by omega) (by decide)).mpr z)
        omega
      exact q_ex1 (if_pos (Or.inr g9)) D0
theorem q_latch (hX : kXok xm) (hN : 120 ≤ N) (hlo : lo.length ≤ 12300) (hbo : bo.length ≤ 12300) (h01 : ∀ z ∈ rs, z.getD 3 0 = 0 ∨ z.getD 3 0 = 1) (D : KS xm nb jo lo bo pa ps (vl, vr, rs, ya, sc) F 0 0 m0 cap0 mem) : dOk (m_K_latch xm N 1000 x mem) (eX xm 2 1 (spLatch x (nb, jo, lo, bo, pa, ps, (vl, vr, rs, ya, sc))) F m0 cap0) := by
  have D0 := D
  obtain ⟨T, h, I, D⟩ := D
  have h24 := I.1.2.1.2.1
  have hr9 : rs.length ≤ 9 := I.sw.2.2.1
  have hr4 : ∀ z ∈ rs, z.length = 4 := I.sw.2.2.2.1
  dsimp only at h24
  unfold m_K_latch
  refine ok_if (fun g => q_ex1 (if_pos (Or.inl g)) D0) (fun g1 => ?_)
  refine x_gR D 0 (fun _ _ => rfl) rfl ?_
  refine x_gE (x := Int32.ofNat rs.length) D 3 (fun _ _ => rfl) rfl ?_
  refine ok_if (fun g2 => ?_) (fun g2 => q_ex1 (if_pos (Or.inr g2)) D0)
  have g3 : ¬ (x < 0 ∨ ¬ x < Int32.ofNat rs.length) := fun z => z.elim g1 (fun z => z g2)
  obtain ⟨e1, l1⟩ := i_of (Int32.not_lt.mp g1)
  generalize hxr : x.toNatClampNeg = r at e1 l1
  subst e1
  have hr := (i_lt l1 (by omega)).mp g2
  have er : rs[r]? = some (rs.getD r []) := by
    rw [List.getD_eq_getElem?_getD, List.getElem?_eq_getElem hr]
    rfl
  refine x_gR D 0 (fun _ _ => rfl) rfl ?_
  refine x_gR D 3 (fun _ _ => rfl) rfl ?_
  refine x_rc D 8 (fun _ _ => ⟨_, rfl⟩) ?_
  refine x_ro D (fun q cap k2 hz H => wE_runGet (i := 3) (a := 1003) (st := (vl, vr, rs, ya, sc)) (r := r) (w := 3) hr hr9 (by decide) H isWE_now) ?_
  refine ok_if (fun g4 => ?_) (fun g4 => ?_)
  · exact q_ex2 ((if_neg g3).trans (if_pos (Or.inl (by rw [hxr]; exact g4)))) D0
  · have ho : (rs.getD r []).getD 3 0 = 1 := (h01 _ (List.mem_of_getElem? er)).resolve_left g4
    refine x_gR D 0 (fun _ _ => rfl) rfl ?_
    refine x_rc D 3 (fun _ _ => ⟨_, rfl⟩) ?_
    refine x_ro D (fun q cap k2 hz H => wE_onBoth (i := 3) (a := 1003) (st := (vl, vr, rs, ya, sc)) (by dsimp only; omega) H isWE_now) ?_
    refine ok_if (fun g5 => ?_) (fun g5 => ?_)
    · have g5 : vl.length + vr.length < 24 := (i_lt (a := vl.length + vr.length) (b := 24) (by omega) (by decide)).mp g5
      have hsp : spLatch (Int32.ofNat r) (nb, jo, lo, bo, pa, ps, (vl, vr, rs, ya, sc)) = (0, (rs.getD r []).getD 2 0, (nb, jo, lo, bo, pa, pKeep ps (vl, vr, rs, ya, sc), (vl ++ [(rs.getD r []).getD 0 0], vr, rs.set r ((rs.getD r []).set 3 0), ya, sc))) := by
        refine (if_neg g3).trans ((if_neg (by rw [hxr]; exact fun z => z.elim g4 (fun z => by omega))).trans ?_)
        rw [hxr]
      rw [hsp]
      refine p_keep D0 fun m1 D1 => ?_
      obtain ⟨T1, h1, I1, kp1, E1⟩ := D1
      have er' : (rs.set r ((rs.getD r []).set 3 0)).getD r [] = (rs.getD r []).set 3 0 := by
        rw [List.getD_eq_getElem?_getD, List.getElem?_set_self hr]
        rfl
      refine x_gR E1 0 (fun _ _ => rfl) rfl ?_
      refine x_gR E1 3 (fun _ _ => rfl) rfl ?_
      refine x_rc E1 8 (fun _ _ => ⟨_, rfl⟩) ?_
      refine x_VT E1 (nb' := nb) (jo' := jo) (pa' := pa) (st' := (vl, vr, rs.set r ((rs.getD r []).set 3 0), ya, sc)) (h' := h1) (fun q cap H => by rw [← cE_runs (rs := rs) (by simp)]; exact wE_runSet (i := 3) (a := 1003) (st := (vl, vr, rs, ya, sc)) (r := r) (w := 3) hr hr9 (by decide) hr4 H isWE_now) fun m2 E2 => ?_
      refine x_gR E2 0 (fun _ _ => rfl) rfl ?_
      refine x_gR E2 3 (fun _ _ => rfl) rfl ?_
      refine x_gR E2 0 (fun _ _ => rfl) rfl ?_
      refine x_gR E2 3 (fun _ _ => rfl) rfl ?_
      refine x_rc E2 8 (fun _ _ => ⟨_, rfl⟩) ?_
      refine x_ro E2 (fun q cap k2 hz H => wE_runGet (i := 3) (a := 1003) (st := (vl, vr, rs.set r ((rs.getD r []).set 3 0), ya, sc)) (r := r) (w := 0) (by simpa using hr) (by simpa using hr9) (by decide) H isWE_now) ?_
      dsimp only
      rw [er', getD_set_ne (by decide)]
      refine x_rc E2 4 (fun _ _ => ⟨_, rfl⟩) ?_
      refine x_VT E2 (nb' := nb) (jo' := jo) (pa' := pa) (st' := (vl ++ [(rs.getD r []).getD 0 0], vr, rs.set r ((rs.getD r []).set 3 0), ya, sc)) (h' := h1) (fun q cap H => nE_put (a := 1004) (b := 1005) (j := 4) (vl := vl) (by omega) H rfl rfl) fun m3 E3 => ?_
      refine x_gR E3 0 (fun _ _ => rfl) rfl ?_
      refine x_gR E3 3 (fun _ _ => rfl) rfl ?_
      refine x_rc E3 8 (fun _ _ => ⟨_, rfl⟩) ?_
      refine x_ro E3 (fun q cap k2 hz H => wE_runGet (i := 3) (a := 1003) (st := (vl ++ [(rs.getD r []).getD 0 0], vr, rs.set r ((rs.getD r []).set 3 0), ya, sc)) (r := r) (w := 2) (by simpa using hr) (by simpa using hr9) (by decide) H isWE_now) ?_
      dsimp only
      rw [er', getD_set_ne (by decide)]
      exact q_end rfl ⟨T1, h1, I1.latch (by omega) hr ho g5, E3⟩
    · have g5 : vl.length + vr.length = 24 := by
        have : ¬ vl.length + vr.length < 24 := fun z => g5 ((i_lt (a := vl.length + vr.length) (b := 24) (by omega) (by decide)).mpr z)
        omega
      exact q_ex2 ((if_neg g3).trans (if_pos (Or.inr g5))) D0
theorem q_undo (hN : 120 ≤ N) (hlo : lo.length ≤ 12300) (hbo : bo.length ≤ 12300) (D : KS xm nb jo lo bo pa ps st F 0 0 m0 cap0 mem) : dOk (m_K_undo xm N 1000 mem) (eX xm 1 0 (spUndo (nb, jo, lo, bo, pa, ps, st)) F m0 cap0) := by
  obtain ⟨vl, vr, rs, ya, sc⟩ := st
  have D0 := D
  obtain ⟨T, ⟨nx, ct, hb, hy, hs⟩, I, D⟩ := D
  have hR := I.2.2.1
  obtain ⟨h1, h2, h3, h4, -⟩ := hR
  dsimp only at h1 h2 h3 h4
  have hp12 : ps.length ≤ 12 := I.1.2.2.2.1
  have hy4 : ya.length = 4 := I.sw.2.2.2.2
  unfold m_K_undo
  refine x_gR D 0 (fun _ _ => rfl) rfl ?_
  refine x_gE (x := Int32.ofNat ct) D 16 (fun _ _ => rfl) rfl ?_
  refine ok_if (fun g => ?_) (fun g => ?_)
  · have g : ct = 0 := (i_lt1 (by omega)).mp g
    exact q_ex1 (if_pos (List.length_eq_zero_iff.mp (by omega))) D0
  · have hct : ¬ ct = 0 := fun z => g ((i_lt1 (by omega)).mpr z)
    have ne : ¬ ps = [] := fun z => by rw [z] at h2; exact hct h2
    have hsp : spUndo (nb, jo, lo, bo, pa, ps, (vl, vr, rs, ya, sc)) = _ := if_neg ne
    rw [hsp]
    obtain ⟨ps0, s, rfl⟩ : ∃ t x, ps = t ++ [x] := ⟨ps.dropLast, ps.getLast ne, (List.dropLast_concat_getLast ne).symm⟩
    obtain ⟨b1, b2, b3, b4⟩ := I.back (by omega) (by omega)
    have el : (ps0 ++ [s]).length = ps0.length + 1 := by simp
    rw [List.getLastD_concat, List.dropLast_concat, el, Nat.add_sub_cancel]
    refine x_gR D 0 (fun _ _ => rfl) rfl ?_
    refine x_gR D 0 (fun _ _ => rfl) rfl ?_
    refine x_gR D 0 (fun _ _ => rfl) rfl ?_
    refine x_rc D 16 (fun _ _ => ⟨_, rfl⟩) ?_
    refine x_VT D (nb' := nb) (jo' := jo) (pa' := pa) (st' := s) (h' := (hLat nx, ct - 1, hb, hy, hs)) (fun q cap H => ?_) fun m1 D1 => ?_
    · have hh := hE_back (xm := xm) (N := N) h1 (by omega) (by omega) h3 h4 b2 I.nb4 hy4 H
      rw [b1] at hh
      dsimp only at b3
      rw [← b3] at hh
      exact hh
    · refine x_gR D1 0 (fun _ _ => rfl) rfl ?_
      refine x_gE (x := Int32.ofNat (ct - 1)) D1 16 (fun _ _ => rfl) rfl ?_
      have hD : KC xm (nb, jo, lo.take (s.2.2.2.2 6).toNatClampNeg, bo.take (s.2.2.2.2 7).toNatClampNeg, pa, ps0, s) F 0 0 m0 cap0 m1 := ⟨T, (hLat nx, ct - 1, hb, hy, hs), b4, D1⟩
      have hv : ct - 1 = ps0.length := by rw [h2, el, Nat.add_sub_cancel]
      rw [hv]
      exact q_end rfl hD
end EN
