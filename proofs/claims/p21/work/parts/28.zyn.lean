/-! ===== the class's calls exactly: bind, pattern ===== -/
theorem zIter_succ (f : aW → aW) : ∀ (k : Nat) (w : aW), zIter f (k + 1) w = f (zIter f k w) := by
  intro k
  induction k with
  | zero => intro w; rfl
  | succ k ih =>
    intro w
    show zIter f (k + 1) (f w) = _
    rw [ih]
    rfl
def wYa (ya : List Int32) : aW → aW
  | (lo, bo, (vl, vr, rs, _, sc)) => (lo, bo, (vl, vr, rs, ya, sc))
theorem zBind1_ya (ya : List Int32) (w : aW) : zBind1 (wYa ya w) = wYa ya (zBind1 w) := by
  obtain ⟨lo, bo, vl, vr, rs, y0, sc⟩ := w
  rfl
theorem zIter_ya (ya : List Int32) : ∀ (k : Nat) (w : aW), zIter zBind1 k (wYa ya w) = wYa ya (zIter zBind1 k w) := by
  intro k
  induction k with
  | zero => intro w; rfl
  | succ k ih =>
    intro w
    show zIter zBind1 k (zBind1 (wYa ya w)) = _
    rw [zBind1_ya, ih]
    rfl
section EO
variable {xm : Nat → Option kE} {mem m0 : kM} {F G : kSg} {S : kO × kM → Prop} {N k nb q cap c0 s0 c1 s1 cap0 n r w b i t1 t2 : Nat} {jo x y z v t k1 k2 k3 k4 : Int32} {lo : List kLf} {bo pa vl vr ya wl ws xs A : List Int32} {ps : List aS} {rs rs' : List (List Int32)} {sc : Nat → Int32} {st : aS} {T : Nat → Int32} {h : kHs} {sp : aR} {c : aC} {hb hy : List Int32} {hs : Nat → aS} {nx ct : Nat}
/-- the class in memory behind a keep, its loops, bound off and state as one -/
def KW (xm : Nat → Option kE) (nb : Nat) (jo : Int32) (pa : List Int32) (ps : List aS) (F : kSg) (c0 s0 : Nat) (m0 : kM) (cap0 : Nat) (w : aW) (m : kM) : Prop := KK xm nb jo w.1 w.2.1 pa ps w.2.2 F c0 s0 m0 cap0 m
theorem two_last {l : List Int32} (h : 2 ≤ l.length) : ∃ A u v, l = A ++ [u, v] := by
  have h1 : ¬ l = [] := fun z => by rw [z] at h; simp at h
  obtain ⟨t, v, rfl⟩ := len_ne h1
  rw [List.length_append, List.length_singleton] at h
  have h2 : ¬ t = [] := fun z => by rw [z] at h; simp at h
  obtain ⟨A, u, rfl⟩ := len_ne h2
  exact ⟨A, u, v, by simp⟩
theorem zBind1_two {u : Int32} : zBind1 (lo, bo, (vl, wl ++ [u, v], rs, ya, sc)) = (lo, bo ++ [u], (vl, wl ++ [v], rs, ya, kUp sc 7 (sc 7 + 1))) := by
  have hl : (wl ++ [u, v]).length = wl.length + 2 := by simp
  have e1 : (wl ++ [u, v]).length - (if (wl ++ [u, v]).length = 1 then 1 else 2) = wl.length := by
    rw [hl, if_neg (by omega)]
    omega
  have e2 : (wl ++ [u, v]).getD wl.length 0 = u := by
    rw [List.getD_eq_getElem?_getD, List.getElem?_append_right (Nat.le_refl _), Nat.sub_self]
    rfl
  have e3 : (wl ++ [u, v]).eraseIdx wl.length = wl ++ [v] := by
    rw [List.eraseIdx_append_of_length_le (Nat.le_refl _), Nat.sub_self]
    rfl
  show (lo, bo ++ [(wl ++ [u, v]).getD ((wl ++ [u, v]).length - (if (wl ++ [u, v]).length = 1 then 1 else 2)) 0], (vl, (wl ++ [u, v]).eraseIdx ((wl ++ [u, v]).length - (if (wl ++ [u, v]).length = 1 then 1 else 2)), rs, ya, kUp sc 7 (sc 7 + 1))) = _
  rw [e1, e2, e3]
theorem zBind1_one {u : Int32} : zBind1 (lo, bo, (vl, [u], rs, ya, sc)) = (lo, bo ++ [u], (vl, [], rs, ya, kUp sc 7 (sc 7 + 1))) := rfl
theorem p_bindSec2 (hN : 120 ≤ N) (hlo : lo.length ≤ 12300) (hn : n ≤ 24) : ∀ (k d f : Nat) (bo vr : List Int32) (sc : Nat → Int32) (mem : kM), d + k = n → k < f → k + 1 ≤ vr.length → bo.length + k ≤ 12400 → KK xm nb jo lo bo pa ps (vl, vr, rs, ya, sc) F c0 s0 m0 cap0 mem → dOk (m_K_bindSeconds_2 xm N f 1000 (Int32.ofNat n) (Int32.ofNat d) mem) (rV fun m => ∃ bo' vr' sc', zIter zBind1 k (lo, bo, (vl, vr, rs, ya, sc)) = (lo, bo', (vl, vr', rs, ya, sc')) ∧ vr'.length + k = vr.length ∧ bo'.length = bo.length + k ∧ KK xm nb jo lo bo' pa ps (vl, vr', rs, ya, sc') F c0 s0 m0 cap0 m) := by
  intro k
  induction k with
  | zero =>
    intro d f bo vr sc mem hd hf hv hbo D
    obtain ⟨f, rfl⟩ : ∃ f', f = f' + 1 := ⟨f - 1, by omega⟩
    rw [m_K_bindSeconds_2, if_neg (fun z => by have := (i_lt (by omega) (by omega)).mp z; omega)]
    exact ok_V ⟨bo, vr, sc, rfl, rfl, rfl, D⟩
  | succ k ih =>
    intro d f bo vr sc mem hd hf hv hbo D
    obtain ⟨f, rfl⟩ : ∃ f', f = f' + 1 := ⟨f - 1, by omega⟩
    obtain ⟨A, u, v, rfl⟩ := two_last (l := vr) (by omega)
    rw [m_K_bindSeconds_2, if_pos ((i_lt (by omega) (by omega)).mpr (by omega))]
    have D0 := D
    obtain ⟨T, h, I, kp, D⟩ := D
    obtain ⟨i, rfl, hi⟩ := I.1.2.1.2.2.2.1 u (List.mem_append_right _ List.mem_cons_self)
    refine x_rc D 0 (fun _ _ => ⟨_, rfl⟩) ?_
    refine ok_cV (p_bindAt (p := 1) (wl := A) (t := v) (ws := A ++ [v]) (by omega) (Or.inr ⟨rfl, rfl, rfl⟩) D0 hi (by omega) (by omega)) fun m2 D2 => ?_
    rw [i_add1]
    refine ok_mono (ih (d + 1) f _ _ _ m2 (by omega) (by omega) (by simp at hv ⊢; omega) (by simp; omega) D2) ?_
    rintro w ⟨q1, bo', vr', sc', q2, q3, q4, q5⟩
    refine ⟨q1, bo', vr', sc', ?_, by simp at q3 ⊢; omega, by simp at q4; omega, q5⟩
    show zIter zBind1 k (zBind1 _) = _
    rw [zBind1_two]
    exact q2
theorem bind148 {cc : aC} (D : KS xm nb jo lo bo pa ps (vl, vr, rs, ya, sc) F 0 0 m0 cap0 mem) (hl : vl.length + vr.length ≤ 24) (hc : cc = (nb, jo, lo, bo, pa, ps, (vl, vr, rs, ya, sc))) : dOk (m_K_bind_148 xm N 1000 mem) (eX xm t1 t2 (0, Int32.ofNat (vl.length + vr.length), cc) F m0 cap0) := by
  have D0 := D
  obtain ⟨T, h, I, D⟩ := D
  unfold m_K_bind_148
  refine x_gR D 0 (fun _ _ => rfl) rfl ?_
  refine x_rc D 3 (fun _ _ => ⟨_, rfl⟩) ?_
  refine x_ro D (fun q cap k2 hz H => wE_onBoth (i := 3) (a := 1003) (st := (vl, vr, rs, ya, sc)) (by dsimp only; omega) H isWE_now) ?_
  subst hc
  exact q_end rfl D0
theorem q_bind (hX : kXok xm) (hN : 120 ≤ N) (hlo : lo.length ≤ 12300) (hbo : bo.length ≤ 12300) (D : KS xm nb jo lo bo pa ps (vl, vr, rs, ya, sc) F 0 0 m0 cap0 mem) : dOk (m_K_bind xm N 1000 x mem) (eX xm 0 1 (spBind x (nb, jo, lo, bo, pa, ps, (vl, vr, rs, ya, sc))) F m0 cap0) := by
  have D0 := D
  obtain ⟨T, h, I, D⟩ := D
  have h24 := I.1.2.1.2.1
  have hy4 : ya.length = 4 := I.sw.2.2.2.2
  dsimp only at h24
  have hn4 := I.nb4
  unfold m_K_bind
  refine ok_if (fun g => q_ex1 (if_pos (Or.inl g)) D0) (fun g1 => ?_)
  refine ok_if (fun g => q_ex1 (if_pos (Or.inr g)) D0) (fun g2 => ?_)
  have g3 : ¬ (x < 1 ∨ 24 < x) := fun z => z.elim g1 g2
  obtain ⟨n, hi, hi2, rfl⟩ := i_rng (n := 24) (by decide) g1 g2
  have e1 : (Int32.ofNat n).toNatClampNeg = n := i_nat (by omega)
  -- not the last one: 110 with no flag
  have sec : ¬ (n = vr.length ∧ vl = []) → n < vr.length → dOk (m_K_bind_110 xm N 1000 (Int32.ofNat n) 0 mem) (eX xm 0 1 (spBind (Int32.ofNat n) (nb, jo, lo, bo, pa, ps, (vl, vr, rs, ya, sc))) F m0 cap0) := by
    intro ha hn
    have hsp : spBind (Int32.ofNat n) (nb, jo, lo, bo, pa, ps, (vl, vr, rs, ya, sc)) = (0, Int32.ofNat (vl.length + vr.length - n), wC nb jo pa (pKeep ps (vl, vr, rs, ya, sc)) (zIter zBind1 n (lo, bo, (vl, vr, rs, ya, sc)))) := by
      refine (if_neg g3).trans ((if_neg (by rw [e1]; exact ha)).trans ((if_neg (by rw [e1]; omega)).trans ?_))
      rw [e1]
    rw [hsp]
    unfold m_K_bind_110
    refine p_keep D0 fun m1 D1 => ?_
    rw [if_pos rfl]
    unfold m_K_bind_137
    have D1' := D1
    obtain ⟨T1, h1, I1, kp1, E1⟩ := D1'
    refine x_rc E1 0 (fun _ _ => ⟨_, rfl⟩) ?_
    unfold m_K_bindSeconds
    refine ok_cV (p_bindSec2 hN hlo hi2 n 0 N bo vr sc m1 (by omega) (by omega) (by omega) (by omega) D1) fun m2 hh => ?_
    obtain ⟨bo', vr', sc', q2, q3, q4, D2⟩ := hh
    rw [if_pos rfl, q2, show vl.length + vr.length - n = vl.length + vr'.length by omega]
    exact bind148 D2.ks (by omega) rfl
  have fas : n = vr.length ∧ vl = [] → ¬ aYn jo ya < 6 → dOk (m_K_bind_110 xm N 1000 (Int32.ofNat n) 1 mem) (eX xm 0 1 (spBind (Int32.ofNat n) (nb, jo, lo, bo, pa, ps, (vl, vr, rs, ya, sc))) F m0 cap0) := by
    intro ha hy6
    have hsp : spBind (Int32.ofNat n) (nb, jo, lo, bo, pa, ps, (vl, vr, rs, ya, sc)) = (0, Int32.ofNat (vl.length + vr.length - n), wC nb jo pa (pKeep ps (vl, vr, rs, ya, sc)) (zIter zBind1 n (lo, bo, (vl, vr, rs, ya.set jo.toNatClampNeg (ya.getD jo.toNatClampNeg 0 - 6), sc)))) := by
      refine (if_neg g3).trans ((if_pos (by rw [e1]; exact ha)).trans ((if_neg hy6).trans ?_))
      rw [e1]
    obtain ⟨b, hj, hb⟩ := some_ball I.jj (by decide) hy6
    rw [hsp, zMake_b hj (by omega)]
    unfold m_K_bind_110
    refine p_keep D0 fun m1 D1 => ?_
    rw [if_neg (by decide), i_sub1 hi]
    unfold m_K_bind_137
    have D1' := D1
    obtain ⟨T1, h1, I1, kp1, E1⟩ := D1'
    refine x_rc E1 0 (fun _ _ => ⟨_, rfl⟩) ?_
    unfold m_K_bindSeconds
    refine ok_cV (p_bindSec2 (n := n - 1) hN hlo (by omega) (n - 1) 0 N bo vr sc m1 (by omega) (by omega) (by omega) (by omega) D1) fun m2 hh => ?_
    obtain ⟨bo', vr', sc', q2, q3, q4, D2⟩ := hh
    rw [if_neg (by decide)]
    obtain ⟨u, rfl⟩ : ∃ u, vr' = [u] := by
      match vr', q3 with
      | [u], _ => exact ⟨u, rfl⟩
      | [], q => simp at q; omega
      | _ :: _ :: _, q => simp at q; omega
    obtain ⟨T2, h2, I2, kp2, E2⟩ := D2
    obtain ⟨i, rfl, hil⟩ := I2.1.2.1.2.2.2.1 u (List.mem_singleton.mpr rfl)
    refine x_rc E2 0 (fun _ _ => ⟨_, rfl⟩) ?_
    have key : dOk (m_K_fastenLast xm N 1000 m2) (rV fun m => KK xm nb jo lo (bo' ++ [Int32.ofNat i]) pa (pKeep ps (vl, vr, rs, ya, sc)) (vl, [], rs, ya.set b (ya.getD b 0 - 6), kUp sc' 7 (sc' 7 + 1)) F 0 0 m0 cap0 m) := by
      unfold m_K_fastenLast
      refine x_gR E2 0 (fun _ _ => rfl) rfl ?_
      refine x_rc E2 1 (fun _ _ => ⟨_, rfl⟩) ?_
      refine x_VT E2 (nb' := nb) (jo' := jo) (pa' := pa) (st' := (vl, [Int32.ofNat i], rs, ya.set b (ya.getD b 0 - 6), sc')) (h' := h2) (fun q cap H => bE_spend (a := 1001) (b := 1002) (j := 1) (ya := ya) hj hb hn4 hy4 H rfl rfl) fun m3 E3 => ?_
      have D3 : KK xm nb jo lo bo' pa (pKeep ps (vl, vr, rs, ya, sc)) (vl, [Int32.ofNat i], rs, ya.set b (ya.getD b 0 - 6), sc') F 0 0 m0 cap0 m3 := ⟨T2, h2, I2.spend kp2 (by omega) hj hb, kp2, E3⟩
      refine x_rc E3 0 (fun _ _ => ⟨_, rfl⟩) ?_
      exact ok_cV (p_bindAt (p := 0) (wl := []) (t := 0) (ws := []) (by omega) (Or.inl ⟨rfl, rfl, rfl⟩) D3 hil (by omega) (by omega)) fun m4 D4 => ok_V D4
    refine ok_cV key fun m3 D3 => ?_
    have e2 : zIter zBind1 n (lo, bo, (vl, vr, rs, ya.set b (ya.getD b 0 - 6), sc)) = (lo, bo' ++ [Int32.ofNat i], (vl, [], rs, ya.set b (ya.getD b 0 - 6), kUp sc' 7 (sc' 7 + 1))) := by
      have e3 := zIter_ya (ya.set b (ya.getD b 0 - 6)) n (lo, bo, (vl, vr, rs, ya, sc))
      have e4 := zIter_succ zBind1 (n - 1) (lo, bo, (vl, vr, rs, ya, sc))
      rw [show n - 1 + 1 = n by omega, q2] at e4
      rw [e4] at e3
      exact e3
    rw [e2, show vl.length + vr.length - n = vl.length + ([] : List Int32).length by simp; omega]
    exact bind148 D3.ks (by simp; omega) rfl
  have b84 : ∀ s : Int32, (s = 0 ∧ ¬ (n = vr.length ∧ vl = []) ∧ n < vr.length ∨ s = 1 ∧ n = vr.length ∧ vl = []) → dOk (m_K_bind_84 xm N 1000 (Int32.ofNat n) s mem) (eX xm 0 1 (spBind (Int32.ofNat n) (nb, jo, lo, bo, pa, ps, (vl, vr, rs, ya, sc))) F m0 cap0) := by
    rintro s (⟨rfl, a1, a2⟩ | ⟨rfl, a1, a2⟩)
    · unfold m_K_bind_84
      rw [if_pos rfl]
      exact sec a1 a2
    · unfold m_K_bind_84
      rw [if_neg (by decide)]
      refine x_gR D 0 (fun _ _ => rfl) rfl ?_
      refine x_rc D 1 (fun _ _ => ⟨_, rfl⟩) ?_
      refine x_ro D (fun q cap k2 hz H => bE_ofJoined (a := 1001) (b := 1002) (nb := nb) (j := 1) (ya := ya) I.jj hn4 hy4 H rfl rfl) ?_
      refine ok_if (fun g => ?_) (fun g => fas ⟨a1, a2⟩ (fun z => g ((bY_lt I.jj (by decide)).mpr z)))
      exact q_ex2 ((if_neg g3).trans ((if_pos (by rw [e1]; exact ⟨a1, a2⟩)).trans (if_pos ((bY_lt I.jj (by decide)).mp g)))) D0
  have b53 : ¬ (n = vr.length ∧ vl = []) → dOk (m_K_bind_53 xm N 1000 (Int32.ofNat n) 0 mem) (eX xm 0 1 (spBind (Int32.ofNat n) (nb, jo, lo, bo, pa, ps, (vl, vr, rs, ya, sc))) F m0 cap0) := by
    intro ha
    unfold m_K_bind_53
    rw [if_pos rfl]
    refine x_gR D 0 (fun _ _ => rfl) rfl ?_
    refine x_gR D 3 (fun _ _ => rfl) rfl ?_
    refine x_gE (x := Int32.ofNat vr.length) D 6 (fun _ _ => rfl) rfl ?_
    have hcmp : Int32.ofNat vr.length - 1 < Int32.ofNat n ↔ vr.length ≤ n := by
      have e1 : (1 : Int32).toInt = 1 := by decide
      rw [Int32.lt_iff_toInt_lt, Int32.toInt_sub, i_toI (by omega), i_toI (by omega), e1, Int.bmod_eq_of_le (by omega) (by omega)]
      omega
    refine ok_if (fun g => ?_) (fun g => ?_)
    · exact q_ex2 ((if_neg g3).trans ((if_neg (by rw [e1]; exact ha)).trans (if_pos (by rw [e1]; exact hcmp.mp g)))) D0
    · exact b84 0 (Or.inl ⟨rfl, ha, by have h9 : ¬ vr.length ≤ n := fun z => g (hcmp.mpr z); omega⟩)
  unfold m_K_bind_52
  refine x_gR D 0 (fun _ _ => rfl) rfl ?_
  refine x_gR D 3 (fun _ _ => rfl) rfl ?_
  refine x_gE (x := Int32.ofNat vr.length) D 6 (fun _ _ => rfl) rfl ?_
  refine ok_if (fun g => ?_) (fun g => ?_)
  · have g := (i_eq (by omega) (by omega)).mp g
    refine x_gR D 0 (fun _ _ => rfl) rfl ?_
    refine x_gR D 3 (fun _ _ => rfl) rfl ?_
    refine x_gE (x := Int32.ofNat vl.length) D 4 (fun _ _ => rfl) rfl ?_
    refine ok_if (fun g4 => ?_) (fun g4 => ?_)
    · have g4 : vl.length = 0 := (i_eq (a := vl.length) (b := 0) (by omega) (by decide)).mp g4
      unfold m_K_bind_53
      rw [if_neg (by decide)]
      exact b84 1 (Or.inr ⟨rfl, g, List.length_eq_zero_iff.mp g4⟩)
    · exact b53 (fun z => g4 (by rw [z.2]; rfl))
  · exact b53 (fun z => g (by rw [z.1]))
/-! patterns -/
theorem HpT.pinG {r : Nat} {Ts : kTyL} {P : (Nat → Int32) → Prop} (H : HpT Ts F mem) (j : Nat) (hj : Ts[j]? = some (r, fun e => ∃ T, P T ∧ cF T n e)) : ∃ T, P T ∧ HpT (Ts.set j (r, cF T n)) F mem := by
  obtain ⟨A, hA, H1⟩ := H
  obtain ⟨e, h1, T, h2, h3⟩ := hA.2 j r _ hj
  have h4 := hA.set (t' := cF T n) (e := e) hj h3
  rw [set_self h1] at h4
  exact ⟨T, h2, A, h4, H1⟩
theorem pLenF_ok : ∀ (f n : Nat), n < 10 ^ f → n / 10 ^ pLenF f n = 0 ∧ (∀ j, j < pLenF f n → 0 < n / 10 ^ j) ∧ pLenF f n ≤ f := by
  intro f
  induction f with
  | zero =>
    intro n hn
    have : n = 0 := by simpa using hn
    subst this
    exact ⟨rfl, fun j hj => absurd hj (Nat.not_lt_zero _), Nat.le_refl _⟩
  | succ f ih =>
    intro n hn
    unfold pLenF
    by_cases g : 0 < n
    · rw [if_pos g]
      obtain ⟨h1, h2, h3⟩ := ih (n / 10) (by rw [Nat.pow_succ] at hn; omega)
      refine ⟨?_, fun j hj => ?_, by omega⟩
      · rw [Nat.pow_succ, Nat.mul_comm, ← Nat.div_div_eq_div_mul]
        exact h1
      · cases j with
        | zero => simpa using g
        | succ j =>
          rw [Nat.pow_succ, Nat.mul_comm, ← Nat.div_div_eq_div_mul]
          exact h2 j (by omega)
    · rw [if_neg g]
      have : n = 0 := by omega
      subst this
      exact ⟨rfl, fun j hj => absurd hj (Nat.not_lt_zero _), Nat.zero_le _⟩
theorem pLen_ok {n : Nat} (h1 : 1 ≤ n) (h2 : n ≤ 999999999) : 1 ≤ pLen n ∧ pLen n ≤ 9 ∧ n / 10 ^ pLen n = 0 ∧ ∀ j, j < pLen n → 0 < n / 10 ^ j := by
  obtain ⟨a1, a2, a3⟩ := pLenF_ok 9 n (by omega)
  refine ⟨?_, a3, a1, a2⟩
  apply Classical.byContradiction
  intro h
  have e : pLen n = 0 := by omega
  unfold pLen at e
  rw [e] at a1
  simp at a1
  omega
theorem pLen_uniq {n L : Nat} (h1 : 1 ≤ n) (h2 : n ≤ 999999999) (h3 : n / 10 ^ L = 0) (h4 : ∀ j, j < L → 0 < n / 10 ^ j) : L = pLen n := by
  obtain ⟨-, -, a1, a2⟩ := pLen_ok h1 h2
  rcases Nat.lt_trichotomy L (pLen n) with h | h | h
  · have := a2 L h
    omega
  · exact h
  · have := h4 _ h
    omega
theorem q_hasZero4 : ∀ (k d f n : Nat), d + k = 9 → k < f → n < 2 ^ 31 → m_K_hasZero_4 xm N f (Int32.ofNat n) (Int32.ofNat d) mem = some (.inl (some (.int (if pZ k n = true then 1 else 0))), mem) := by
  intro k
  induction k with
  | zero =>
    intro d f n hd hf hn
    obtain ⟨f, rfl⟩ : ∃ f', f = f' + 1 := ⟨f - 1, by omega⟩
    rw [m_K_hasZero_4, if_neg (fun z => by have := (i_lt (a := d) (b := 9) (by omega) (by omega)).mp z; omega)]
    rfl
  | succ k ih =>
    intro d f n hd hf hn
    obtain ⟨f, rfl⟩ : ∃ f', f = f' + 1 := ⟨f - 1, by omega⟩
    refine ok_eq ?_
    rw [m_K_hasZero_4, if_pos (show Int32.ofNat d < 9 from (i_lt (a := d) (b := 9) (by omega) (by omega)).mpr (by omega))]
    unfold pZ
    by_cases g : 0 < n
    · rw [if_pos g, if_pos ((i_pos hn).mpr g)]
      refine ok_nz (by decide) ?_
      rw [i_mod10 hn]
      by_cases g2 : n % 10 = 0
      · rw [if_pos g2, if_pos (show Int32.ofNat (n % 10) = 0 from (i_eq (b := 0) (by omega) (by decide)).mpr g2), if_pos rfl]
        exact ok_me
      · rw [if_neg g2, if_neg (show ¬ Int32.ofNat (n % 10) = 0 from fun z => g2 ((i_eq (b := 0) (by omega) (by decide)).mp z))]
        refine ok_nz (by decide) ?_
        rw [i_div10 hn, i_add1, ih (d + 1) f (n / 10) (by omega) (by omega) (by omega)]
        exact ok_me
    · rw [if_neg g, if_neg (fun z => g ((i_pos hn).mp z))]
      exact ok_me
theorem q_digits6 : ∀ (k d f c n : Nat), d + k = 9 → k < f → n < 2 ^ 31 → m_K_digitsIn_6 xm N f (Int32.ofNat c) (Int32.ofNat n) (Int32.ofNat d) mem = some (.inl (some (.int (Int32.ofNat (c + pLenF k n)))), mem) := by
  intro k
  induction k with
  | zero =>
    intro d f c n hd hf hn
    obtain ⟨f, rfl⟩ : ∃ f', f = f' + 1 := ⟨f - 1, by omega⟩
    rw [m_K_digitsIn_6, if_neg (fun z => by have := (i_lt (a := d) (b := 9) (by omega) (by omega)).mp z; omega)]
    rfl
  | succ k ih =>
    intro d f c n hd hf hn
    obtain ⟨f, rfl⟩ : ∃ f', f = f' + 1 := ⟨f - 1, by omega⟩
    refine ok_eq ?_
    rw [m_K_digitsIn_6, if_pos (show Int32.ofNat d < 9 from (i_lt (a := d) (b := 9) (by omega) (by omega)).mpr (by omega))]
    unfold pLenF
    by_cases g : 0 < n
    · rw [if_pos g, if_pos ((i_pos hn).mpr g)]
      refine ok_nz (by decide) ?_
      rw [i_div10 hn, i_add1, i_add1, ih (d + 1) f (c + 1) (n / 10) (by omega) (by omega) (by omega), show c + 1 + pLenF k (n / 10) = c + (pLenF k (n / 10) + 1) by omega]
      exact ok_me
    · rw [if_neg g, if_neg (fun z => g ((i_pos hn).mp z))]
      exact ok_me
/-- the digits are written, from the last one on -/
theorem q_tell22 (hX : kXok xm) {p n0 L : Nat} (hp : p < 6) (hL : L ≤ 9) {nb' : Nat} {C0 : kTyL} {x1 : Int32} (g0 : C0[0]? = some (1000, cO 11 [fR 1001, fR 1003, fR 1010, fR 1012, fR 1014, fR 1016, fR 1104, fE x1])) (g12 : C0[12]? = some (1012, tT 5 6 1013)) (g14 : C0[14]? = some (1014, tT 9 6 1015)) {Tp : Nat → Int32} {k13 : kTyL → Prop} : ∀ (k j f n : Nat) (a4 a5 a6 : Int32) (Td : Nat → Int32) (mem : kM), j + k = L → n = n0 / 10 ^ j → k < f → n < 2 ^ 31 → n < 10 ^ k → (∀ j', j' < L → 0 < n0 / 10 ^ j') → HpT ((C0.set 13 (1013, cF Tp 30)).set 15 (1015, cF Td 54)) F mem → 15 < C0.length →
    dOk (m_K_tellPattern_22 xm N f 1000 (Int32.ofNat p) (Int32.ofNat n0) (Int32.ofNat L) a4 a5 a6 (Int32.ofNat n) (Int32.ofNat k - 1) mem) (rV fun m => ∃ Td', (∀ i, i < k → Td' (p * 9 + i) = Int32.ofNat (n0 / 10 ^ (L - 1 - i) % 10)) ∧ (∀ c, (∀ i, i < k → c ≠ p * 9 + i) → Td' c = Td c) ∧ HpT ((C0.set 13 (1013, cF (kUp (kUp (kUp (kUp (kUp Tp (p * 5 + 0) (Int32.ofNat n0)) (p * 5 + 1) (Int32.ofNat L)) (p * 5 + 2) (pSumF (fAt 3) k n a4)) (p * 5 + 3) (pSumF (fAt 5) k n a5)) (p * 5 + 4) (pSumF (fAt 4) k n a6)) 30)).set 15 (1015, cF Td' 54)) F m ∧ St xm mem m 0 0) := by
  have s0 : ∀ x y, ((C0.set 13 x).set 15 y)[0]? = some (1000, cO 11 [fR 1001, fR 1003, fR 1010, fR 1012, fR 1014, fR 1016, fR 1104, fE x1]) := fun x y => set_ne (set_ne g0 (by decide)) (by decide)
  have s12 : ∀ x y, ((C0.set 13 x).set 15 y)[12]? = some (1012, tT 5 6 1013) := fun x y => set_ne (set_ne g12 (by decide)) (by decide)
  have s14 : ∀ x y, ((C0.set 13 x).set 15 y)[14]? = some (1014, tT 9 6 1015) := fun x y => set_ne (set_ne g14 (by decide)) (by decide)
  intro k
  induction k with
  | zero =>
    intro j f n a4 a5 a6 Td mem hj hn hf hn2 hnk hpos H hlen
    obtain ⟨f, rfl⟩ : ∃ f', f = f' + 1 := ⟨f - 1, by omega⟩
    have s13 : ∀ x y, ((C0.set 13 x).set 15 y)[13]? = some x := fun x y => set_ne (List.getElem?_set_self (by omega)) (by decide)
    have cm : ∀ x y z, ((C0.set 13 x).set 15 y).set 13 z = (C0.set 13 z).set 15 y := fun x y z => by rw [List.set_comm _ _ (show 15 ≠ 13 by decide), List.set_set]
    rw [m_K_tellPattern_22, if_pos (show Int32.ofNat 0 - 1 < 0 by decide)]
    refine t_gR H 0 (s0 _ _) rfl ?_
    refine t_rc H 12 (s12 _ _) ?_
    refine ok_cV (tE_set (f := 5) (mr := 6) (r := p) (w := 0) (j := 12) (b := 1013) (by decide) (by decide) hp (by decide) H (s12 _ _) (s13 _ _)) fun m1 h1 => ?_
    obtain ⟨H1, S1⟩ := h1
    rw [cm] at H1
    refine t_gR H1 0 (s0 _ _) rfl ?_
    refine t_rc H1 12 (s12 _ _) ?_
    refine ok_cV (tE_set (f := 5) (mr := 6) (r := p) (w := 1) (j := 12) (b := 1013) (by decide) (by decide) hp (by decide) H1 (s12 _ _) (s13 _ _)) fun m2 h2 => ?_
    obtain ⟨H2, S2⟩ := h2
    rw [cm] at H2
    refine t_gR H2 0 (s0 _ _) rfl ?_
    refine t_rc H2 12 (s12 _ _) ?_
    refine ok_cV (tE_set (f := 5) (mr := 6) (r := p) (w := 2) (j := 12) (b := 1013) (by decide) (by decide) hp (by decide) H2 (s12 _ _) (s13 _ _)) fun m3 h3 => ?_
    obtain ⟨H3, S3⟩ := h3
    rw [cm] at H3
    refine t_gR H3 0 (s0 _ _) rfl ?_
    refine t_rc H3 12 (s12 _ _) ?_
    refine ok_cV (tE_set (f := 5) (mr := 6) (r := p) (w := 3) (j := 12) (b := 1013) (by decide) (by decide) hp (by decide) H3 (s12 _ _) (s13 _ _)) fun m4 h4 => ?_
    obtain ⟨H4, S4⟩ := h4
    rw [cm] at H4
    refine t_gR H4 0 (s0 _ _) rfl ?_
    refine t_rc H4 12 (s12 _ _) ?_
    refine ok_cV (tE_set (f := 5) (mr := 6) (r := p) (w := 4) (j := 12) (b := 1013) (by decide) (by decide) hp (by decide) H4 (s12 _ _) (s13 _ _)) fun m5 h5 => ?_
    obtain ⟨H5, S5⟩ := h5
    rw [cm] at H5
    exact ok_V ⟨Td, fun i hi => absurd hi (Nat.not_lt_zero _), fun c _ => rfl, H5, S1.trans (S2.trans (S3.trans (S4.trans S5)))⟩
  | succ k ih =>
    intro j f n a4 a5 a6 Td mem hj hn hf hn2 hnk hpos H hlen
    obtain ⟨f, rfl⟩ : ∃ f', f = f' + 1 := ⟨f - 1, by omega⟩
    have s15 : ∀ x y, ((C0.set 13 x).set 15 y)[15]? = some y := fun x y => List.getElem?_set_self (by simpa using hlen)
    have npos : 0 < n := by rw [hn]; exact hpos j (by omega)
    rw [m_K_tellPattern_22, i_sub1 (by omega), if_neg (i_nn (by omega))]
    refine ok_nz (by decide) (ok_nz (by decide) ?_)
    rw [i_mod10 hn2, i_div10 hn2, Nat.add_sub_cancel]
    refine t_gR H 0 (s0 _ _) rfl ?_
    refine t_rc H 14 (s14 _ _) ?_
    refine ok_cV (tE_set (f := 9) (mr := 6) (r := p) (w := k) (j := 14) (b := 1015) (by decide) (by decide) hp (by omega) H (s14 _ _) (s15 _ _)) fun m1 h1 => ?_
    obtain ⟨H1, S1⟩ := h1
    rw [List.set_set] at H1
    have hd9 : n % 10 ≤ 9 := by omega
    refine ok_eI (sfE hX (r := 3) (by decide) hd9) ?_
    refine ok_eI (sfE hX (r := 5) (by decide) hd9) ?_
    refine ok_eI (sfE hX (r := 4) (by decide) hd9) ?_
    have e : Int32.ofNat k + (-1) = Int32.ofNat k - 1 := by rw [Int32.sub_eq_add_neg]
    rw [e]
    refine ok_mono (ih (j + 1) f (n / 10) _ _ _ _ m1 (by omega) (by rw [hn, Nat.pow_succ, Nat.div_div_eq_div_mul]) (by omega) (by omega) (by rw [Nat.pow_succ] at hnk; omega) hpos H1 hlen) ?_
    rintro w ⟨q1, Td', q2, q3, q4, q5⟩
    refine ⟨q1, Td', fun i hi => ?_, fun c hc => ?_, ?_, (S1.trans q5).mono (by omega) (by omega)⟩
    · by_cases g : i < k
      · exact q2 i g
      · have e2 : i = k := by omega
        subst e2
        rw [q3 _ (fun i' hi' => by omega), kUp_eq, show L - 1 - i = j by omega, hn]
    · rw [q3 c (fun i hi => hc i (by omega)), kUp_ne (by have := hc k (by omega); omega)]
    · unfold pSumF
      rw [if_pos npos, if_pos npos, if_pos npos]
      exact q4
end EO
