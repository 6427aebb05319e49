/-! ===== the class exactly: a loop is made, worked, slipped, crossed, bound off ===== -/
/-- the class in memory, what it keeps with it; behind a keep of the same call -/
def KK (xm : Nat → Option kE) (nb : Nat) (jo : Int32) (lo : List kLf) (bo pa : List Int32) (ps : List aS) (st : aS) (F : kSg) (c0 s0 : Nat) (m0 : kM) (cap0 : Nat) (m : kM) : Prop := ∃ T h, INV nb jo lo bo pa ps st T h ∧ kept jo ps h ∧ eQ xm (eS nb jo pa st T h F) c0 s0 m0 cap0 m
def KS (xm : Nat → Option kE) (nb : Nat) (jo : Int32) (lo : List kLf) (bo pa : List Int32) (ps : List aS) (st : aS) (F : kSg) (c0 s0 : Nat) (m0 : kM) (cap0 : Nat) (m : kM) : Prop := ∃ T h, INV nb jo lo bo pa ps st T h ∧ eQ xm (eS nb jo pa st T h F) c0 s0 m0 cap0 m
section EJ
variable {xm : Nat → Option kE} {mem m0 : kM} {F G : kSg} {S : kO × kM → Prop} {N k nb q cap c0 s0 c1 s1 cap0 n r w b i : Nat} {jo x y z v k1 k2 k3 k4 : Int32} {lo : List kLf} {bo pa vl vr ya wl : List Int32} {ps : List aS} {rs rs' : List (List Int32)} {sc : Nat → Int32} {st : aS} {T : Nat → Int32} {h : kHs}
theorem KK.ks (D : KK xm nb jo lo bo pa ps st F c0 s0 m0 cap0 mem) : KS xm nb jo lo bo pa ps st F c0 s0 m0 cap0 mem := by
  obtain ⟨T, h, I, -, D⟩ := D
  exact ⟨T, h, I, D⟩
theorem cE_runs (hl : rs'.length = rs.length) : (cE nb jo pa (vl, vr, rs, ya, sc) q cap T h).set 9 (1009, cRn rs') = cE nb jo pa (vl, vr, rs', ya, sc) q cap T h := by
  have e0 : wO 1003 (vl, vr, rs', ya, sc) = wO 1003 (vl, vr, rs, ya, sc) := by
    unfold wO
    dsimp only
    rw [hl]
  have e : cE nb jo pa (vl, vr, rs', ya, sc) q cap T h = (cE nb jo pa (vl, vr, rs', ya, sc) q cap T h).set 3 (1003, wO 1003 (vl, vr, rs, ya, sc)) := by
    rw [← e0]
    exact (set_self rfl).symm
  rw [e]
  rfl
theorem lE_setN (hx : x = Int32.ofNat r) (hw : y = Int32.ofNat w) (h1 : 384 ≤ cap) (h2 : cap ≤ 119988) (hr : r < 19998) (hw6 : w < 6) (H : eS nb jo pa st T h F q cap mem) : dOk (m_Table_set xm N 1010 x y z mem) (rV fun m => eQ xm (eS nb jo pa st (kUp T (r * 6 + w) z) h F) 0 0 mem cap m) := by
  subst hx
  subst hw
  exact lE_set h1 h2 hr hw6 H
theorem p_make (hN : 11 ≤ N) (D : KK xm nb jo lo bo pa ps (vl, vr, rs, ya, sc) F c0 s0 m0 cap0 mem) (hj : jo = Int32.ofNat b) (hb : b < nb) (h24 : vl.length + vr.length < 24) (hlo : lo.length < 19998) (hbo : bo.length < 2 ^ 31) : dOk (m_K_make xm N 1000 k1 k2 k3 k4 mem) (rI fun v m => v = sc 6 ∧ KK xm nb jo (lo ++ [(k1, jo, sc 5, k2, sc 4, k3)]) bo pa ps (vl, vr ++ [sc 6], rs.map kFall, ya.set b (ya.getD b 0 - k4), kUp sc 6 (sc 6 + 1)) F c0 s0 m0 cap0 m) := by
  obtain ⟨T, h, I, kp, D⟩ := D
  have hm : sc 6 = Int32.ofNat lo.length := I.made
  have hsw := I.sw
  have hn4 := I.nb4
  obtain ⟨-, -, hr9, hr4, hy4⟩ := hsw
  dsimp only at hr9 hr4 hy4
  unfold m_K_make
  refine x_gR D 0 (fun _ _ => rfl) rfl ?_
  refine x_gE (x := sc 6) D 3 (fun _ _ => rfl) rfl ?_
  refine x_gR D 0 (fun _ _ => rfl) rfl ?_
  refine x_gE (x := sc 6) D 3 (fun _ _ => rfl) rfl ?_
  refine x_p D nb jo pa (vl, vr, rs, ya, kUp sc 6 (sc 6 + 1)) h 3 (fun _ _ => rfl) rfl rfl (fun _ _ => rfl) fun m1 D1 => ?_
  refine x_gR D1 0 (fun _ _ => rfl) rfl ?_
  refine x_rc D1 10 (fun _ _ => ⟨_, rfl⟩) ?_
  refine x_V (c2 := 0) (s2 := 0) D1 (fun q cap k1 k2 H => lE_setN (r := lo.length) (w := 0) hm rfl k1 k2 hlo (by decide) H) fun m2 D2 => ?_
  refine x_gR D2 0 (fun _ _ => rfl) rfl ?_
  refine x_gR D2 0 (fun _ _ => rfl) rfl ?_
  refine x_gE (x := jo) D2 1 (fun _ _ => rfl) rfl ?_
  refine x_rc D2 10 (fun _ _ => ⟨_, rfl⟩) ?_
  refine x_V (c2 := 0) (s2 := 0) D2 (fun q cap k1 k2 H => lE_setN (r := lo.length) (w := 1) hm rfl k1 k2 hlo (by decide) H) fun m3 D3 => ?_
  refine x_gR D3 0 (fun _ _ => rfl) rfl ?_
  refine x_gR D3 0 (fun _ _ => rfl) rfl ?_
  refine x_gE (x := sc 5) D3 3 (fun _ _ => rfl) rfl ?_
  refine x_rc D3 10 (fun _ _ => ⟨_, rfl⟩) ?_
  refine x_V (c2 := 0) (s2 := 0) D3 (fun q cap k1 k2 H => lE_setN (r := lo.length) (w := 2) hm rfl k1 k2 hlo (by decide) H) fun m4 D4 => ?_
  refine x_gR D4 0 (fun _ _ => rfl) rfl ?_
  refine x_rc D4 10 (fun _ _ => ⟨_, rfl⟩) ?_
  refine x_V (c2 := 0) (s2 := 0) D4 (fun q cap k1 k2 H => lE_setN (r := lo.length) (w := 3) hm rfl k1 k2 hlo (by decide) H) fun m5 D5 => ?_
  refine x_gR D5 0 (fun _ _ => rfl) rfl ?_
  refine x_rc D5 10 (fun _ _ => ⟨_, rfl⟩) ?_
  refine x_V (c2 := 0) (s2 := 0) D5 (fun q cap k1 k2 H => lE_setN (r := lo.length) (w := 4) hm rfl k1 k2 hlo (by decide) H) fun m6 D6 => ?_
  refine x_gR D6 0 (fun _ _ => rfl) rfl ?_
  refine x_rc D6 1 (fun _ _ => ⟨_, rfl⟩) ?_
  refine x_VT D6 (nb' := nb) (jo' := jo) (pa' := pa) (st' := (vl, vr, rs, ya.set b (ya.getD b 0 - k4), kUp sc 6 (sc 6 + 1))) (h' := h) (fun q cap H => bE_spend (a := 1001) (b := 1002) (j := 1) (ya := ya) hj hb hn4 hy4 H rfl rfl) fun m7 D7 => ?_
  refine x_gR D7 0 (fun _ _ => rfl) rfl ?_
  refine x_gR D7 3 (fun _ _ => rfl) rfl ?_
  refine x_rc D7 6 (fun _ _ => ⟨_, rfl⟩) ?_
  refine x_VT D7 (nb' := nb) (jo' := jo) (pa' := pa) (st' := (vl, vr ++ [sc 6], rs, ya.set b (ya.getD b 0 - k4), kUp sc 6 (sc 6 + 1))) (h' := h) (fun q cap H => nE_put (a := 1006) (b := 1007) (j := 6) (vl := vr) (by omega) H rfl rfl) fun m8 D8 => ?_
  refine x_gR D8 0 (fun _ _ => rfl) rfl ?_
  refine x_rc D8 3 (fun _ _ => ⟨_, rfl⟩) ?_
  refine x_VT D8 (nb' := nb) (jo' := jo) (pa' := pa) (st' := (vl, vr ++ [sc 6], rs.map kFall, ya.set b (ya.getD b 0 - k4), kUp sc 6 (sc 6 + 1))) (h' := h) (fun q cap H => by rw [← cE_runs (rs := rs) (by simp)]; exact wE_fall (i := 3) (st := (vl, vr ++ [sc 6], rs, ya.set b (ya.getD b 0 - k4), kUp sc 6 (sc 6 + 1))) hN hr9 hr4 H isWE_now) fun m9 D9 => ?_
  exact ok_I ⟨rfl, tMake T lo.length k1 jo (sc 5) k2 k3, h, I.make kp hlo hbo hj hb h24, kp, D9⟩
theorem id_ne {n : Nat} (hi : i < n) (hn : n < 2 ^ 31) : Int32.ofNat i ≠ -1 := fun e => by
  have h1 := congrArg Int32.toInt e
  rw [i_toI (by omega)] at h1
  have e1 : (-1 : Int32).toInt = -1 := by decide
  omega
theorem p_pop (hN : 2 ≤ N) (D : KK xm nb jo lo bo pa ps (wl ++ [Int32.ofNat i], vr, rs, ya, sc) F c0 s0 m0 cap0 mem) (hi : i < lo.length) (hlo : lo.length < 19998) (hbo : bo.length < 2 ^ 31) : dOk (m_K_takeWorked xm N 1000 mem) (rI fun v m => v = Int32.ofNat i ∧ KK xm nb jo lo bo pa ps (wl, vr, rs, ya, sc) F c0 s0 m0 cap0 m) := by
  obtain ⟨T, h, I, kp, D⟩ := D
  have h24 : (wl ++ [Int32.ofNat i]).length ≤ 24 := I.sw.1
  unfold m_K_takeWorked
  refine x_gR D 0 (fun _ _ => rfl) rfl ?_
  refine x_gR D 3 (fun _ _ => rfl) rfl ?_
  refine x_rc D 4 (fun _ _ => ⟨_, rfl⟩) ?_
  refine x_IT (P := fun y => y = Int32.ofNat i) D (nb' := nb) (jo' := jo) (pa' := pa) (st' := (wl, vr, rs, ya, sc)) (h' := h) (fun q cap H => nE_take0 (a := 1004) (b := 1005) (j := 4) (wl := wl) (v := Int32.ofNat i) (id_ne hi (by omega)) hN h24 H rfl rfl) fun v m2 hv D2 => ?_
  subst hv
  refine x_gR D2 0 (fun _ _ => rfl) rfl ?_
  refine x_rc D2 10 (fun _ _ => ⟨_, rfl⟩) ?_
  refine x_V (c2 := 0) (s2 := 0) D2 (fun q cap k1 k2 H => lE_setN (r := i) (w := 5) rfl rfl k1 k2 (by omega) (by decide) H) fun m3 D3 => ?_
  exact ok_I ⟨rfl, _, h, I.pop hi hlo hbo, kp, D3⟩
theorem lRel.at {f : kLf} (l : lRel T lo) (hf : lo[i]? = some f) : T (i * 6 + 3) = f.2.2.2.1 := (l i f hf).2.2.2.1
theorem p_work (hN : 11 ≤ N) (D : KK xm nb jo lo bo pa ps (wl ++ [Int32.ofNat i], vr, rs, ya, sc) F c0 s0 m0 cap0 mem) (hi : i < lo.length) (hj : jo = Int32.ofNat b) (hb : b < nb) (h24 : wl.length + vr.length < 24) (hlo : lo.length < 19998) (hbo : bo.length < 2 ^ 31) : dOk (m_K_workNext xm N 1000 k1 mem) (rI fun v m => v = sc 6 ∧ KK xm nb jo (lo ++ [(k1, jo, sc 5, lo[i].2.2.2.1 + 1, sc 4, 1)]) bo pa ps (wl, vr ++ [sc 6], rs.map kFall, ya.set b (ya.getD b 0 - 4), kUp sc 6 (sc 6 + 1)) F c0 s0 m0 cap0 m) := by
  have D0 := D
  obtain ⟨T, h, I, kp, D⟩ := D
  unfold m_K_workNext
  refine x_rc D 0 (fun _ _ => ⟨_, rfl⟩) ?_
  refine ok_cI (p_pop (by omega) D0 hi hlo hbo) fun v m2 hh => ?_
  obtain ⟨rfl, D2⟩ := hh
  have D20 := D2
  obtain ⟨T2, h2, I2, kp2, D2⟩ := D2
  refine x_gR D2 0 (fun _ _ => rfl) rfl ?_
  refine x_rc D2 10 (fun _ _ => ⟨_, rfl⟩) ?_
  refine x_ro D2 (fun q cap k2 hz H => lE_get (r := i) (w := 3) k2 (by omega) (by decide) hz H) ?_
  rw [show T2 (i * 6 + 3) = lo[i].2.2.2.1 from I2.2.1.at (List.getElem?_eq_getElem hi)]
  refine x_rc D2 0 (fun _ _ => ⟨_, rfl⟩) ?_
  exact ok_cI (p_make hN D20 hj hb h24 hlo hbo) fun v m3 hh => ok_I hh
end EJ
