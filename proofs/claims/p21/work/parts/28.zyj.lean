/-! ===== the class exactly: the other steps ===== -/
section EK
variable {xm : Nat → Option kE} {mem m0 : kM} {F G : kSg} {S : kO × kM → Prop} {N k nb q cap c0 s0 c1 s1 cap0 n r w b i : Nat} {jo x y z v t k1 k2 k3 k4 : Int32} {lo : List kLf} {bo pa vl vr ya wl ws xs A : List Int32} {ps : List aS} {rs rs' : List (List Int32)} {sc : Nat → Int32} {st : aS} {T : Nat → Int32} {h : kHs}
theorem p_over (hN : 11 ≤ N) (D : KK xm nb jo lo bo pa ps (vl, vr, rs, ya, sc) F c0 s0 m0 cap0 mem) (hj : jo = Int32.ofNat b) (hb : b < nb) (h24 : vl.length + vr.length < 24) (hlo : lo.length < 19998) (hbo : bo.length < 2 ^ 31) : dOk (m_K_makeOver xm N 1000 mem) (rI fun v m => v = sc 6 ∧ KK xm nb jo (lo ++ [(3, jo, sc 5, 1, sc 4, 0)]) bo pa ps (vl, vr ++ [sc 6], rs.map kFall, ya.set b (ya.getD b 0 - 3), kUp (kUp sc 8 (sc 8 + 1)) 6 (sc 6 + 1)) F c0 s0 m0 cap0 m) := by
  obtain ⟨T, h, I, kp, D⟩ := D
  unfold m_K_makeOver
  refine x_gR D 0 (fun _ _ => rfl) rfl ?_
  refine x_gE (x := sc 8) D 3 (fun _ _ => rfl) rfl ?_
  refine x_p D nb jo pa (vl, vr, rs, ya, kUp sc 8 (sc 8 + 1)) h 3 (fun _ _ => rfl) rfl rfl (fun _ _ => rfl) fun m1 D1 => ?_
  refine x_rc D1 0 (fun _ _ => ⟨_, rfl⟩) ?_
  have DK : KK xm nb jo lo bo pa ps (vl, vr, rs, ya, kUp sc 8 (sc 8 + 1)) F c0 s0 m0 cap0 m1 := ⟨T, h, I.num hbo (Or.inl rfl), kp, D1⟩
  refine ok_cI (p_make hN DK hj hb h24 hlo hbo) fun v m3 hh => ok_I hh
theorem p_tog2 (hN : 11 ≤ N) (hn : n ≤ 3) (hj : jo = Int32.ofNat b) (hb : b < nb) (hlo : lo.length < 19998) (hbo : bo.length < 2 ^ 31) : ∀ (k d f : Nat) (ws : List Int32) (mem : kM), d + k = n → k < f → ws.length = k → wl.length + vr.length < 24 → KK xm nb jo lo bo pa ps (wl ++ ws, vr, rs, ya, sc) F c0 s0 m0 cap0 mem → dOk (m_K_takeTogether_2 xm N f 1000 (Int32.ofNat n) k1 (Int32.ofNat d) mem) (rI fun v m => v = sc 6 ∧ KK xm nb jo (lo ++ [(k1, jo, sc 5, 1, sc 4, Int32.ofNat n)]) bo pa ps (wl, vr ++ [sc 6], rs.map kFall, ya.set b (ya.getD b 0 - 5), kUp sc 6 (sc 6 + 1)) F c0 s0 m0 cap0 m) := by
  intro k
  induction k with
  | zero =>
    intro d f ws mem hd hf hw h24 D
    obtain ⟨f, rfl⟩ : ∃ f', f = f' + 1 := ⟨f - 1, by omega⟩
    have hw : ws = [] := List.length_eq_zero_iff.mp hw
    subst hw
    rw [List.append_nil] at D
    rw [m_K_takeTogether_2, if_neg (fun z => by have := (i_lt (by omega) (by omega)).mp z; omega)]
    have D0 := D
    obtain ⟨T, h, I, kp, D⟩ := D
    refine x_rc D 0 (fun _ _ => ⟨_, rfl⟩) ?_
    exact ok_cI (p_make hN D0 hj hb h24 hlo hbo) fun v m3 hh => ok_I hh
  | succ k ih =>
    intro d f ws mem hd hf hw h24 D
    obtain ⟨f, rfl⟩ : ∃ f', f = f' + 1 := ⟨f - 1, by omega⟩
    obtain ⟨w1, y, rfl, hw1⟩ := snoc_last hw
    rw [← List.append_assoc] at D
    have D0 := D
    obtain ⟨T, h, I, kp, D⟩ := D
    obtain ⟨i, rfl, hi⟩ := I.1.2.1.2.2.1 y (List.mem_append_right _ (List.mem_singleton.mpr rfl))
    rw [m_K_takeTogether_2, if_pos ((i_lt (by omega) (by omega)).mpr (by omega))]
    refine x_rc D 0 (fun _ _ => ⟨_, rfl⟩) ?_
    refine ok_cI (p_pop (by omega) D0 hi hlo hbo) fun v m2 hh => ?_
    rw [i_add1]
    exact ih (d + 1) f w1 m2 (by omega) (by omega) hw1 h24 hh.2
theorem p_tog (hN : 11 ≤ N) (hn : n ≤ 3) (hw : ws.length = n) (D : KK xm nb jo lo bo pa ps (wl ++ ws, vr, rs, ya, sc) F c0 s0 m0 cap0 mem) (hj : jo = Int32.ofNat b) (hb : b < nb) (h24 : wl.length + vr.length < 24) (hlo : lo.length < 19998) (hbo : bo.length < 2 ^ 31) : dOk (m_K_takeTogether xm N 1000 (Int32.ofNat n) k1 mem) (rI fun v m => v = sc 6 ∧ KK xm nb jo (lo ++ [(k1, jo, sc 5, 1, sc 4, Int32.ofNat n)]) bo pa ps (wl, vr ++ [sc 6], rs.map kFall, ya.set b (ya.getD b 0 - 5), kUp sc 6 (sc 6 + 1)) F c0 s0 m0 cap0 m) := by
  unfold m_K_takeTogether
  exact p_tog2 hN hn hj hb hlo hbo n 0 N ws mem (by omega) (by omega) hw h24 D
theorem p_slip (hN : 2 ≤ N) (D : KK xm nb jo lo bo pa ps (wl ++ [Int32.ofNat i], vr, rs, ya, sc) F c0 s0 m0 cap0 mem) (hi : i < lo.length) (hlo : lo.length < 19998) (hbo : bo.length < 2 ^ 31) : dOk (m_K_slipNext xm N 1000 mem) (rI fun v m => v = Int32.ofNat i ∧ KK xm nb jo lo bo pa ps (wl, vr ++ [Int32.ofNat i], rs, ya, sc) F c0 s0 m0 cap0 m) := by
  obtain ⟨T, h, I, kp, D⟩ := D
  have h24 : (wl ++ [Int32.ofNat i]).length ≤ 24 := I.sw.1
  have h24' := I.1.2.1.2.1
  dsimp only at h24'
  rw [List.length_append, List.length_singleton] at h24'
  unfold m_K_slipNext
  refine x_gR D 0 (fun _ _ => rfl) rfl ?_
  refine x_gR D 3 (fun _ _ => rfl) rfl ?_
  refine x_rc D 4 (fun _ _ => ⟨_, rfl⟩) ?_
  refine x_IT (P := fun y => y = Int32.ofNat i) D (nb' := nb) (jo' := jo) (pa' := pa) (st' := (wl, vr, rs, ya, sc)) (h' := h) (fun q cap H => nE_take0 (a := 1004) (b := 1005) (j := 4) (wl := wl) (v := Int32.ofNat i) (id_ne hi (by omega)) hN h24 H rfl rfl) fun v m2 hv D2 => ?_
  subst hv
  refine x_gR D2 0 (fun _ _ => rfl) rfl ?_
  refine x_gR D2 3 (fun _ _ => rfl) rfl ?_
  refine x_rc D2 6 (fun _ _ => ⟨_, rfl⟩) ?_
  refine x_VT D2 (nb' := nb) (jo' := jo) (pa' := pa) (st' := (wl, vr ++ [Int32.ofNat i], rs, ya, sc)) (h' := h) (fun q cap H => nE_put (a := 1006) (b := 1007) (j := 6) (vl := vr) (by omega) H rfl rfl) fun m3 D3 => ?_
  refine ok_I ⟨rfl, T, h, I.perm hbo ?_ (I.2.2.2.1 _ (List.mem_append_right _ (List.mem_singleton.mpr rfl))).1 rfl rfl, kp, D3⟩
  rw [List.append_assoc]
  exact List.Perm.append_left wl List.perm_append_comm
theorem nAt_last : nAt (wl ++ [v]) 0 = v := by
  unfold nAt
  rw [if_pos (by simp), List.length_append, List.length_singleton, Nat.add_sub_cancel, Nat.sub_zero, List.getD_eq_getElem?_getD, List.getElem?_append_right (Nat.le_refl _), Nat.sub_self]
  rfl
theorem p_cross2 {n2 : Nat} (hN : 11 ≤ N) (hn : n ≤ 3) (hn2 : 1 ≤ n2) (hn3 : n2 ≤ 3) (hx : xs.length = n2) (hbo : bo.length < 2 ^ 31) : ∀ (k d f : Nat) (dn rest : List Int32) (mem : kM), d + k = n → k < f → rest.length = k → dn.length = d → KK xm nb jo lo bo pa ps (A ++ dn ++ xs ++ rest, vr, rs, ya, sc) F c0 s0 m0 cap0 mem → dOk (m_K_crossNext_2 xm N f 1000 (Int32.ofNat n) (Int32.ofNat n2) (Int32.ofNat d) mem) (rI fun v m => v = nAt (A ++ rest ++ dn ++ xs) 0 ∧ KK xm nb jo lo bo pa ps (A ++ rest ++ dn ++ xs, vr, rs, ya, kUp sc 9 (sc 9 + 1)) F c0 s0 m0 cap0 m) := by
  intro k
  induction k with
  | zero =>
    intro d f dn rest mem hd hf hr hdn D
    obtain ⟨f, rfl⟩ : ∃ f', f = f' + 1 := ⟨f - 1, by omega⟩
    have hr : rest = [] := List.length_eq_zero_iff.mp hr
    subst hr
    rw [List.append_nil] at D ⊢
    obtain ⟨T, h, I, kp, D⟩ := D
    have h24 : (A ++ dn ++ xs).length ≤ 24 := I.sw.1
    rw [m_K_crossNext_2, if_neg (fun z => by have := (i_lt (by omega) (by omega)).mp z; omega)]
    refine x_gR D 0 (fun _ _ => rfl) rfl ?_
    refine x_gE (x := sc 9) D 3 (fun _ _ => rfl) rfl ?_
    refine x_p D nb jo pa (A ++ dn ++ xs, vr, rs, ya, kUp sc 9 (sc 9 + 1)) h 3 (fun _ _ => rfl) rfl rfl (fun _ _ => rfl) fun m1 D1 => ?_
    refine x_gR D1 0 (fun _ _ => rfl) rfl ?_
    refine x_gR D1 3 (fun _ _ => rfl) rfl ?_
    refine x_rc D1 4 (fun _ _ => ⟨_, rfl⟩) ?_
    refine x_ro D1 (fun q cap k2 hz H => nE_at (p := 0) (a := 1004) (b := 1005) (j := 4) (vl := A ++ dn ++ xs) (by decide) h24 H rfl rfl) ?_
    exact ok_I ⟨rfl, T, h, I.num hbo (Or.inr (Or.inl rfl)), kp, D1⟩
  | succ k ih =>
    intro d f dn rest mem hd hf hr hdn D
    obtain ⟨f, rfl⟩ : ∃ f', f = f' + 1 := ⟨f - 1, by omega⟩
    obtain ⟨r1, t, rfl, hr1⟩ := snoc_last hr
    have e1 : A ++ dn ++ xs ++ (r1 ++ [t]) = A ++ (dn ++ xs ++ r1) ++ [t] := by simp
    rw [e1] at D
    obtain ⟨T, h, I, kp, D⟩ := D
    have h24 : (A ++ (dn ++ xs ++ r1) ++ [t]).length ≤ 24 := I.sw.1
    have hw : (dn ++ xs ++ r1).length = n + n2 - 1 := by simp; omega
    rw [m_K_crossNext_2, if_pos ((i_lt (by omega) (by omega)).mpr (by omega))]
    refine x_gR D 0 (fun _ _ => rfl) rfl ?_
    refine x_gR D 3 (fun _ _ => rfl) rfl ?_
    refine x_rc D 4 (fun _ _ => ⟨_, rfl⟩) ?_
    rw [i_add, i_sub1 (by omega), i_add1]
    refine x_VT D (nb' := nb) (jo' := jo) (pa' := pa) (st' := (A ++ [t] ++ (dn ++ xs ++ r1), vr, rs, ya, sc)) (h' := h) (fun q cap H => nE_move (a := 1004) (b := 1005) (j := 4) (wl := A) (ws := dn ++ xs ++ r1) (t := t) (by omega) hw h24 H rfl rfl) fun m2 D2 => ?_
    have I2 : INV nb jo lo bo pa ps (A ++ [t] ++ (dn ++ xs ++ r1), vr, rs, ya, sc) T h := by
      refine I.perm hbo ?_ (I.2.2.2.1 _ (List.mem_append_right _ (List.mem_singleton.mpr rfl))).1 rfl rfl
      refine List.Perm.append_right _ ?_
      rw [List.append_assoc A [t], List.append_assoc A (dn ++ xs ++ r1) [t]]
      exact List.Perm.append_left A List.perm_append_comm
    have e2 : A ++ [t] ++ (dn ++ xs ++ r1) = A ++ (t :: dn) ++ xs ++ r1 := by simp
    rw [e2] at I2 D2
    refine ok_mono (ih (d + 1) f (t :: dn) r1 m2 (by omega) (by omega) hr1 (by simp; omega) ⟨T, h, I2, kp, D2⟩) ?_
    have e3 : A ++ r1 ++ t :: dn ++ xs = A ++ (r1 ++ [t]) ++ dn ++ xs := by simp
    rw [e3]
    exact fun r h => h
theorem p_cross {n2 : Nat} (hN : 11 ≤ N) (hn : n ≤ 3) (hn2 : 1 ≤ n2) (hn3 : n2 ≤ 3) (hx : xs.length = n2) (hw : ws.length = n) (hbo : bo.length < 2 ^ 31) (D : KK xm nb jo lo bo pa ps (A ++ xs ++ ws, vr, rs, ya, sc) F c0 s0 m0 cap0 mem) : dOk (m_K_crossNext xm N 1000 (Int32.ofNat n) (Int32.ofNat n2) mem) (rI fun v m => v = nAt (A ++ ws ++ xs) 0 ∧ KK xm nb jo lo bo pa ps (A ++ ws ++ xs, vr, rs, ya, kUp sc 9 (sc 9 + 1)) F c0 s0 m0 cap0 m) := by
  unfold m_K_crossNext
  have e : A ++ xs ++ ws = A ++ [] ++ xs ++ ws := by simp
  rw [e] at D
  have h := p_cross2 (n := n) hN hn hn2 hn3 hx hbo n 0 N [] ws mem (by omega) (by omega) hw rfl D
  rw [List.append_nil] at h
  exact h
theorem p_bindAt {p : Nat} (hN : 3 ≤ N) (hp : p = 0 ∧ vr = wl ++ [Int32.ofNat i] ∧ ws = wl ∨ p = 1 ∧ vr = wl ++ [Int32.ofNat i, t] ∧ ws = wl ++ [t]) (D : KK xm nb jo lo bo pa ps (vl, vr, rs, ya, sc) F c0 s0 m0 cap0 mem) (hi : i < lo.length) (hlo : lo.length < 19998) (hbo : bo.length + 1 < 2 ^ 31) : dOk (m_K_bindAt xm N 1000 (Int32.ofNat p) mem) (rV fun m => KK xm nb jo lo (bo ++ [Int32.ofNat i]) pa ps (vl, ws, rs, ya, kUp sc 7 (sc 7 + 1)) F c0 s0 m0 cap0 m) := by
  obtain ⟨T, h, I, kp, D⟩ := D
  have h24 : vr.length ≤ 24 := I.sw.2.1
  have I2 : INV nb jo lo (bo ++ [Int32.ofNat i]) pa ps (vl, ws, rs, ya, kUp sc 7 (sc 7 + 1)) (kUp T (i * 6 + 5) 3) h := by
    rcases hp with ⟨-, rfl, rfl⟩ | ⟨-, rfl, rfl⟩
    · have := I.bind (p := ws.length) hlo hbo hi (by rw [List.getElem?_append_right (Nat.le_refl _), Nat.sub_self]; rfl)
      rw [List.eraseIdx_append_of_length_le (Nat.le_refl _), Nat.sub_self] at this
      simpa using this
    · have := I.bind (p := wl.length) hlo hbo hi (by rw [List.getElem?_append_right (Nat.le_refl _), Nat.sub_self]; rfl)
      rw [List.eraseIdx_append_of_length_le (Nat.le_refl _), Nat.sub_self] at this
      exact this
  have tk : ∀ q cap, HpT (cE nb jo pa (vl, vr, rs, ya, sc) q cap T h) F mem → dOk (m_Needle_takeAt xm N 1006 (Int32.ofNat p) mem) (rI fun y m => y = Int32.ofNat i ∧ HpT (cE nb jo pa (vl, ws, rs, ya, sc) q cap T h) F m ∧ St xm mem m 0 0) := by
    intro q cap H
    rcases hp with ⟨rfl, rfl, rfl⟩ | ⟨rfl, rfl, rfl⟩
    · exact nE_take0 (a := 1006) (b := 1007) (j := 6) (wl := ws) (v := Int32.ofNat i) (id_ne hi (by omega)) (by omega) h24 H rfl rfl
    · exact nE_take1 (a := 1006) (b := 1007) (j := 6) (wl := wl) (u := Int32.ofNat i) (v := t) (id_ne hi (by omega)) hN h24 H rfl rfl
  unfold m_K_bindAt
  refine x_gR D 0 (fun _ _ => rfl) rfl ?_
  refine x_gR D 3 (fun _ _ => rfl) rfl ?_
  refine x_rc D 6 (fun _ _ => ⟨_, rfl⟩) ?_
  refine x_IT (P := fun y => y = Int32.ofNat i) D (nb' := nb) (jo' := jo) (pa' := pa) (st' := (vl, ws, rs, ya, sc)) (h' := h) tk fun v m2 hv D2 => ?_
  subst hv
  refine x_gR D2 0 (fun _ _ => rfl) rfl ?_
  refine x_rc D2 10 (fun _ _ => ⟨_, rfl⟩) ?_
  refine x_V (c2 := 0) (s2 := 0) D2 (fun q cap k1 k2 H => lE_setN (r := i) (w := 5) rfl rfl k1 k2 (by omega) (by decide) H) fun m3 D3 => ?_
  refine x_gR D3 0 (fun _ _ => rfl) rfl ?_
  refine x_gE (x := sc 7) D3 3 (fun _ _ => rfl) rfl ?_
  refine x_p D3 nb jo pa (vl, ws, rs, ya, kUp sc 7 (sc 7 + 1)) h 3 (fun _ _ => rfl) rfl rfl (fun _ _ => rfl) fun m4 D4 => ?_
  exact ok_V ⟨_, h, I2, kp, D4⟩
end EK
