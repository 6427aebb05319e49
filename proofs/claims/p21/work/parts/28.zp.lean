/-! ===== the class: rules over what a call leaves ===== -/
section KZN
variable {xm : Nat → Option kE} {mem m0 : kM} {F G : kSg} {S T : kO × kM → Prop} {N r ci k n nb cap0 c0 s0 q cap : Nat} {x y z : Int32} {X : dRes} {ts : List fTy}
theorem d_gI {K : Int32 → dRes} (D : cP xm nb F c0 s0 m0 cap0 mem) (j : Nat) (hj : ∀ q cap, (cT nb q cap)[j]? = some (r, cO ci ts)) (hk : ts[k]? = some fI) (h : ∀ x, dOk (K x) S) : dOk (dGI xm mem r ci k K) S := by
  obtain ⟨q, cap, c, s, k1, k2, H, -⟩ := D
  exact t_gI H j (hj q cap) hk h
theorem d_gB {K : Int32 → dRes} (D : cP xm nb F c0 s0 m0 cap0 mem) (j : Nat) (hj : ∀ q cap, (cT nb q cap)[j]? = some (r, cO ci ts)) (hk : ts[k]? = some (fB n)) (h : ∀ i : Nat, i ≤ n → dOk (K (Int32.ofNat i)) S) : dOk (dGI xm mem r ci k K) S := by
  obtain ⟨q, cap, c, s, k1, k2, H, -⟩ := D
  exact t_gB H j (hj q cap) hk h
theorem d_gE {K : Int32 → dRes} (D : cP xm nb F c0 s0 m0 cap0 mem) (j : Nat) (hj : ∀ q cap, (cT nb q cap)[j]? = some (r, cO ci ts)) (hk : ts[k]? = some (fE x)) (h : dOk (K x) S) : dOk (dGI xm mem r ci k K) S := by
  obtain ⟨q, cap, c, s, k1, k2, H, -⟩ := D
  exact t_gE H j (hj q cap) hk h
theorem d_gR {K : Nat → dRes} {x : Nat} (D : cP xm nb F c0 s0 m0 cap0 mem) (j : Nat) (hj : ∀ q cap, (cT nb q cap)[j]? = some (r, cO ci ts)) (hk : ts[k]? = some (fR x)) (h : dOk (K x) S) : dOk (dGR xm mem r ci k K) S := by
  obtain ⟨q, cap, c, s, k1, k2, H, -⟩ := D
  exact t_gR H j (hj q cap) hk h
theorem d_rc {K : dRes} (D : cP xm nb F c0 s0 m0 cap0 mem) (j : Nat) (hj : ∀ q cap, ∃ ts, (cT nb q cap)[j]? = some (r, cO ci ts)) (h : dOk K S) : dOk (dRc xm mem r ci K) S := by
  obtain ⟨q, cap, c, s, k1, k2, H, -⟩ := D
  obtain ⟨ts, hj⟩ := hj q cap
  exact t_rc H j hj h
theorem d_p {w : Value} {K : kM → dRes} {t : fTy} (D : cP xm nb F c0 s0 m0 cap0 mem) (j : Nat) (hj : ∀ q cap, (cT nb q cap)[j]? = some (r, cO ci ts)) (hk : ts[k]? = some t) (hc : (!(Nat.beq ci 2) && !(Nat.beq ci 13)) = true) (hw : t w) (h : ∀ m, cP xm nb F c0 s0 m0 cap0 m → dOk (K m) S) : dOk (dP xm mem r ci k w K) S := by
  obtain ⟨q, cap, c, s, k1, k2, H, S1, k3, k4⟩ := D
  exact t_p H j (hj q cap) hk hc hw fun m H1 S2 => h m ⟨q, cap, c, s, k1, k2, H1, S1.trans S2, k3, k4⟩
/-- a call that only reads -/
theorem d_ro {K : Int32 → kM → dRes} {P : Int32 → Prop} (D : cP xm nb F c0 s0 m0 cap0 mem) (h : ∀ q cap, 384 ≤ cap → cap ≤ 119988 → HpT (cT nb q cap) F mem → ∃ v, P v ∧ X = some (.inl (some (.int v)), mem)) (k : ∀ v, P v → dOk (K v mem) S) : dOk (dCI X K) S := by
  obtain ⟨q, cap, c, s, k1, k2, H, -⟩ := D
  obtain ⟨v, hv, e⟩ := h q cap k1 k2 H
  exact ok_eI e (k v hv)
theorem ro_ {mem : kM} (h : ∃ v, X = some (.inl (some (.int v)), mem)) : ∃ v, True ∧ X = some (.inl (some (.int v)), mem) := by
  obtain ⟨v, h⟩ := h
  exact ⟨v, trivial, h⟩
theorem ro_n {mem : kM} {n : Nat} (h : ∃ v : Nat, v ≤ n ∧ X = some (.inl (some (.int (Int32.ofNat v))), mem)) : ∃ v, (∃ i : Nat, i ≤ n ∧ v = Int32.ofNat i) ∧ X = some (.inl (some (.int v)), mem) := by
  obtain ⟨v, h1, h⟩ := h
  exact ⟨_, ⟨v, h1, rfl⟩, h⟩
theorem d_V {K : kM → dRes} (D : cP xm nb F c0 s0 m0 cap0 mem) (h : ∀ q cap, 384 ≤ cap → cap ≤ 119988 → HpT (cT nb q cap) F mem → dOk X (rV fun m => cP xm nb F 0 0 mem cap m)) (k : ∀ m, cP xm nb F c0 s0 m0 cap0 m → dOk (K m) S) : dOk (dCV X K) S := cq_V D h k
theorem d_I {K : Int32 → kM → dRes} (D : cP xm nb F c0 s0 m0 cap0 mem) (h : ∀ q cap, 384 ≤ cap → cap ≤ 119988 → HpT (cT nb q cap) F mem → dOk X (rI fun _ m => cP xm nb F 0 0 mem cap m)) (k : ∀ v m, cP xm nb F c0 s0 m0 cap0 m → dOk (K v m) S) : dOk (dCI X K) S := cq_I D h k
/-- .. and keeps the types -/
theorem d_VT {K : kM → dRes} (D : cP xm nb F c0 s0 m0 cap0 mem) (h : ∀ q cap, HpT (cT nb q cap) F mem → dOk X (rV fun m => HpT (cT nb q cap) F m ∧ St xm mem m 0 0)) (k : ∀ m, cP xm nb F c0 s0 m0 cap0 m → dOk (K m) S) : dOk (dCV X K) S := d_V D (fun q cap k1 k2 H => up_V k1 k2 (h q cap H)) k
theorem d_IT {K : Int32 → kM → dRes} (D : cP xm nb F c0 s0 m0 cap0 mem) (h : ∀ q cap, HpT (cT nb q cap) F mem → dOk X (rI fun _ m => HpT (cT nb q cap) F m ∧ St xm mem m 0 0)) (k : ∀ v m, cP xm nb F c0 s0 m0 cap0 m → dOk (K v m) S) : dOk (dCI X K) S := d_I D (fun q cap k1 k2 H => up_I k1 k2 (h q cap H)) k
theorem HpT.app {Ts : kTyL} (e : kE) (H : HpT Ts F mem) : HpT Ts F (mem ++ [e]) := by
  obtain ⟨A, h1, h2⟩ := H
  exact ⟨A, h1, (h2.new e).sub (List.sublist_cons_self _ _)⟩
abbrev exn : kE := .inl (1000, [.null, .null, .null, .null, .null, .null])
/-- a call's answer: a number, or an exception of one of these classes -/
def cX1 (xm : Nat → Option kE) (nb : Nat) (F : kSg) (es : List Nat) (mem : kM) (cap : Nat) : kO × kM → Prop := rX (fun _ m => cP xm nb F 1 6 mem cap m) (fun e m => e ∈ es ∧ cP xm nb F 1 6 mem cap m)
theorem d_end {es : List Nat} {v : Int32} (D : cP xm nb F 0 0 m0 cap0 mem) : dOk (some (.inl (some (.int v)), mem)) (cX1 xm nb F es m0 cap0) := ok_XI (D.mono (by omega) (by omega))
theorem d_exn {es : List Nat} {e : Nat} (D : cP xm nb F 0 0 m0 cap0 mem) (he : e ∈ es) : dOk (some (.inr e, mem ++ [exn])) (cX1 xm nb F es m0 cap0) := by
  obtain ⟨q, cap, c, s, k1, k2, H, S1, k3, k4⟩ := D
  exact ok_XE ⟨he, q, cap, c + 1, s + 6, k1, k2, H.app _, S1.trans (St.new _), by omega, by omega⟩
theorem d_endI {v : Int32} (D : cP xm nb F 0 0 m0 cap0 mem) : dOk (some (.inl (some (.int v)), mem)) (rI fun _ m => cP xm nb F 0 0 m0 cap0 m) := ok_I D
theorem d_cX {es : List Nat} {K : Int32 → kM → dRes} {Hh : Nat → kM → dRes} (D : cP xm nb F 0 0 m0 cap0 mem) (h : ∀ q cap, 384 ≤ cap → cap ≤ 119988 → HpT (cT nb q cap) F mem → dOk X (cX1 xm nb F es mem cap)) (k : ∀ v m, cP xm nb F 1 6 m0 cap0 m → dOk (K v m) S) (kE : ∀ e m, e ∈ es → cP xm nb F 1 6 m0 cap0 m → dOk (Hh e m) S) : dOk (dCX X K Hh) S := by
  obtain ⟨q, cap, c, s, k1, k2, H, S1, k3, k4⟩ := D
  exact ok_cX (h q cap k1 k2 H) (fun v m hh => k v m ((cP.trans S1 k3 k4 hh).mono (by omega) (by omega))) (fun e m hh => kE e m hh.1 ((cP.trans S1 k3 k4 hh.2).mono (by omega) (by omega)))
/-! what is left of the private methods -/
theorem k_tell22 (hX : kXok xm) {a1 a2 a3 : Int32} : ∀ (k f : Nat) (a4 a5 a6 a7 : Int32) (mem : kM), k < f → k ≤ 9 → HpT (cT nb q cap) F mem → dOk (m_K_tellPattern_22 xm N f 1000 a1 a2 a3 a4 a5 a6 a7 (Int32.ofNat k - 1) mem) (rV fun m => HpT (cT nb q cap) F m ∧ St xm mem m 0 0) := by
  have st : ∀ (x y z : Int32) (mem : kM), HpT (cT nb q cap) F mem → dOk (m_Table_set xm N 1012 x y z mem) (rV fun m => HpT (cT nb q cap) F m ∧ St xm mem m 0 0) := fun x y z mem H => tb_set (f := 5) (mr := 6) (j := 12) (b := 1013) (by decide) (by decide) H rfl rfl
  intro k
  induction k with
  | zero =>
    intro f a4 a5 a6 a7 mem hf _ H
    obtain ⟨f, rfl⟩ : ∃ f', f = f' + 1 := ⟨f - 1, by omega⟩
    rw [m_K_tellPattern_22, if_pos (show Int32.ofNat 0 - 1 < 0 by decide)]
    refine t_gR H 0 rfl rfl ?_
    refine t_rc H 12 rfl ?_
    refine ok_cV (st _ _ _ _ H) fun m1 h1 => ?_
    obtain ⟨H1, S1⟩ := h1
    refine t_gR H1 0 rfl rfl ?_
    refine t_rc H1 12 rfl ?_
    refine ok_cV (st _ _ _ _ H1) fun m2 h2 => ?_
    obtain ⟨H2, S2⟩ := h2
    refine t_gR H2 0 rfl rfl ?_
    refine t_rc H2 12 rfl ?_
    refine ok_cV (st _ _ _ _ H2) fun m3 h3 => ?_
    obtain ⟨H3, S3⟩ := h3
    refine t_gR H3 0 rfl rfl ?_
    refine t_rc H3 12 rfl ?_
    refine ok_cV (st _ _ _ _ H3) fun m4 h4 => ?_
    obtain ⟨H4, S4⟩ := h4
    refine t_gR H4 0 rfl rfl ?_
    refine t_rc H4 12 rfl ?_
    refine ok_cV (st _ _ _ _ H4) fun m5 h5 => ?_
    obtain ⟨H5, S5⟩ := h5
    exact ok_V ⟨H5, S1.trans (S2.trans (S3.trans (S4.trans S5)))⟩
  | succ k ih =>
    intro f a4 a5 a6 a7 mem hf h9 H
    obtain ⟨f, rfl⟩ : ∃ f', f = f' + 1 := ⟨f - 1, by omega⟩
    rw [m_K_tellPattern_22, i_sub1 (by omega), if_neg (i_nn (by omega))]
    refine ok_nz (by decide) (ok_nz (by decide) ?_)
    refine t_gR H 0 rfl rfl ?_
    refine t_rc H 14 rfl ?_
    refine ok_cV (tb_set (f := 9) (mr := 6) (j := 14) (b := 1015) (by decide) (by decide) H rfl rfl) fun m1 h1 => ?_
    obtain ⟨H1, S1⟩ := h1
    obtain ⟨v3, e3⟩ := sf (N := N) (x := a7 - a7 / 10 * 10) (mem := m1) hX (r := 3) (by decide)
    obtain ⟨v5, e5⟩ := sf (N := N) (x := a7 - a7 / 10 * 10) (mem := m1) hX (r := 5) (by decide)
    obtain ⟨v4, e4⟩ := sf (N := N) (x := a7 - a7 / 10 * 10) (mem := m1) hX (r := 4) (by decide)
    refine ok_eI e3 (ok_eI e5 (ok_eI e4 ?_))
    have e : Int32.ofNat (k + 1 - 1) + (-1) = Int32.ofNat k - 1 := by rw [Nat.add_sub_cancel, Int32.sub_eq_add_neg]
    rw [e]
    refine ok_mono (ih f _ _ _ _ m1 (by omega) (by omega) H1) ?_
    rintro w ⟨q1, q2, q3⟩
    exact ⟨q1, q2, (S1.trans q3).mono (by omega) (by omega)⟩
theorem k_tell (hX : kXok xm) (hN : 11 ≤ N) (H : HpT (cT nb q cap) F mem) : dOk (m_K_tellPattern xm N 1000 x y mem) (rV fun m => HpT (cT nb q cap) F m ∧ St xm mem m 0 0) := by
  unfold m_K_tellPattern
  obtain ⟨v, hv, e⟩ := k_digits (xm := xm) (N := N) (mem := mem) (x := y) (by omega)
  refine ok_eI e ?_
  exact k_tell22 hX v N _ _ _ _ mem (by omega) hv H
/-- the needle that is meant: its address and its place among the cells -/
def isNd (a j : Nat) : Prop := (a = 1004 ∧ j = 4) ∨ (a = 1006 ∧ j = 6)
theorem isNd.nT {a j : Nat} (h : isNd a j) : (cT nb q cap)[j]? = some (a, nT (a + 1)) := by
  rcases h with ⟨rfl, rfl⟩ | ⟨rfl, rfl⟩ <;> rfl
theorem isNd.cA {a j : Nat} (h : isNd a j) : (cT nb q cap)[j + 1]? = some (a + 1, cA 24) := by
  rcases h with ⟨rfl, rfl⟩ | ⟨rfl, rfl⟩ <;> rfl
theorem k_needle (H : HpT (cT nb q cap) F mem) : ∃ a j, isNd a j ∧ m_K_needle xm N 1000 x mem = some (.inl (some (.ref a)), mem) := by
  have go : dOk (m_K_needle xm N 1000 x mem) (fun w => ∃ a j, isNd a j ∧ w = (.inl (some (.ref a)), mem)) := by
    unfold m_K_needle
    refine ok_if (fun _ => ?_) (fun _ => ?_)
    · refine t_gR H 0 rfl rfl ?_
      refine t_gR H 3 rfl rfl ?_
      exact ⟨_, rfl, 1004, 4, Or.inl ⟨rfl, rfl⟩, rfl⟩
    · refine t_gR H 0 rfl rfl ?_
      refine t_gR H 3 rfl rfl ?_
      exact ⟨_, rfl, 1006, 6, Or.inr ⟨rfl, rfl⟩, rfl⟩
  obtain ⟨w, h1, a, j, h2, rfl⟩ := go
  exact ⟨a, j, h2, h1⟩
theorem k_asMade (h2 : cap ≤ 119988) (H : HpT (cT nb q cap) F mem) : ∃ v, m_K_isAsMade xm N 1000 x mem = some (.inl (some (.int v)), mem) := by
  have go : dOk (m_K_isAsMade xm N 1000 x mem) (fun w => ∃ v, w = (.inl (some (.int v)), mem)) := by
    unfold m_K_isAsMade
    refine t_gR H 0 rfl rfl ?_
    refine t_rc H 10 rfl ?_
    obtain ⟨w, hw⟩ := lp_get (xm := xm) (N := N) (x := x) (y := 2) h2 H
    refine ok_eI hw ?_
    refine t_gR H 0 rfl rfl ?_
    refine t_gI H 3 rfl rfl fun v13 => ?_
    exact ok_if (fun _ => ⟨_, rfl, _, rfl⟩) (fun _ => ⟨_, rfl, _, rfl⟩)
  obtain ⟨w, h1, v, rfl⟩ := go
  exact ⟨v, h1⟩
theorem k_smooth (h2 : cap ≤ 119988) (H : HpT (cT nb q cap) F mem) : ∃ v, m_K_isSmooth xm N 1000 x mem = some (.inl (some (.int v)), mem) := by
  have go : dOk (m_K_isSmooth xm N 1000 x mem) (fun w => ∃ v, w = (.inl (some (.int v)), mem)) := by
    have last : ∀ s : Int32, dOk (m_K_isSmooth_24 xm N 1000 x s mem) (fun w => ∃ v, w = (.inl (some (.int v)), mem)) := by
      intro s
      unfold m_K_isSmooth_24
      refine t_rc H 0 rfl ?_
      obtain ⟨w, hw⟩ := k_asMade (xm := xm) (N := N) (x := x) h2 H
      refine ok_eI hw ?_
      exact ok_if (fun _ => ⟨_, rfl, _, rfl⟩) (fun _ => ⟨_, rfl, _, rfl⟩)
    unfold m_K_isSmooth m_K_isSmooth_23
    refine t_gR H 0 rfl rfl ?_
    refine t_rc H 10 rfl ?_
    obtain ⟨w, hw⟩ := lp_get (xm := xm) (N := N) (x := x) (y := 0) h2 H
    refine ok_eI hw ?_
    exact ok_if (fun _ => last _) (fun _ => ok_if (fun _ => last _) (fun _ => last _))
  obtain ⟨w, h1, v, rfl⟩ := go
  exact ⟨v, h1⟩
theorem k_sign (h2 : cap ≤ 119988) (H : HpT (cT nb q cap) F mem) : ∃ v, aSg v ∧ m_K_signOf xm N 1000 x mem = some (.inl (some (.int v)), mem) := by
  have go : dOk (m_K_signOf xm N 1000 x mem) (fun w => ∃ v, aSg v ∧ w = (.inl (some (.int v)), mem)) := by
    have last : ∀ s : Int32, dOk (m_K_signOf_38 xm N 1000 x s mem) (fun w => ∃ v, aSg v ∧ w = (.inl (some (.int v)), mem)) := by
      intro s
      unfold m_K_signOf_38
      refine t_rc H 0 rfl ?_
      obtain ⟨w, hw⟩ := k_asMade (xm := xm) (N := N) (x := x) h2 H
      refine ok_eI hw ?_
      exact ok_if (fun _ => ⟨_, rfl, 60, by unfold aSg; decide, rfl⟩) (fun _ => ⟨_, rfl, 62, by unfold aSg; decide, rfl⟩)
    unfold m_K_signOf m_K_signOf_28
    refine t_gR H 0 rfl rfl ?_
    refine t_rc H 10 rfl ?_
    obtain ⟨w, hw⟩ := lp_get (xm := xm) (N := N) (x := x) (y := 0) h2 H
    refine ok_eI hw ?_
    refine ok_if (fun _ => ⟨_, rfl, 111, by unfold aSg; decide, rfl⟩) (fun _ => ?_)
    refine ok_if (fun _ => ok_if (fun _ => last _) (fun _ => last _)) (fun _ => ?_)
    refine ok_if (fun _ => ok_if (fun _ => last _) (fun _ => last _)) (fun _ => ?_)
    refine t_rc H 0 rfl ?_
    obtain ⟨w, hw⟩ := k_smooth (xm := xm) (N := N) (x := x) h2 H
    refine ok_eI hw ?_
    exact ok_if (fun _ => ⟨_, rfl, 45, by unfold aSg; decide, rfl⟩) (fun _ => ⟨_, rfl, 118, by unfold aSg; decide, rfl⟩)
  obtain ⟨w, h1, v, h3, rfl⟩ := go
  exact ⟨v, h3, h1⟩
theorem k_where (hN : 26 ≤ N) (h2 : cap ≤ 119988) (H : HpT (cT nb q cap) F mem) : ∃ v, m_K_whereIs xm N 1000 x mem = some (.inl (some (.int v)), mem) := by
  have go : dOk (m_K_whereIs xm N 1000 x mem) (fun w => ∃ v, w = (.inl (some (.int v)), mem)) := by
    unfold m_K_whereIs
    refine t_gR H 0 rfl rfl ?_
    refine t_gR H 3 rfl rfl ?_
    refine t_rc H 4 rfl ?_
    obtain ⟨w, hw⟩ := n_holds (xm := xm) (N := N) (x := x) (j := 4) (b := 1005) hN H rfl rfl
    refine ok_eI hw ?_
    refine ok_if (fun _ => ?_) (fun _ => ⟨_, rfl, _, rfl⟩)
    refine t_gR H 0 rfl rfl ?_
    refine t_gR H 3 rfl rfl ?_
    refine t_rc H 6 rfl ?_
    obtain ⟨w, hw⟩ := n_holds (xm := xm) (N := N) (x := x) (j := 6) (b := 1007) hN H rfl rfl
    refine ok_eI hw ?_
    refine ok_if (fun _ => ?_) (fun _ => ⟨_, rfl, _, rfl⟩)
    refine t_gR H 0 rfl rfl ?_
    refine t_rc H 3 rfl ?_
    obtain ⟨w, hw⟩ := w_hasIn (xm := xm) (N := N) (x := x) (i := 3) (by omega) H isWk_now
    refine ok_eI hw ?_
    refine ok_if (fun _ => ?_) (fun _ => ⟨_, rfl, _, rfl⟩)
    refine t_gR H 0 rfl rfl ?_
    refine t_rc H 10 rfl ?_
    obtain ⟨w, hw⟩ := lp_get (xm := xm) (N := N) (x := x) (y := 5) h2 H
    exact ok_eI hw ⟨_, rfl, _, rfl⟩
  obtain ⟨w, h1, v, rfl⟩ := go
  exact ⟨v, h1⟩
theorem k_loopFact (hN : 26 ≤ N) (h2 : cap ≤ 119988) (H : HpT (cT nb q cap) F mem) : ∃ v, m_K_loopFact xm N 1000 x y mem = some (.inl (some (.int v)), mem) := by
  have go : dOk (m_K_loopFact xm N 1000 x y mem) (fun w => ∃ v, w = (.inl (some (.int v)), mem)) := by
    unfold m_K_loopFact
    refine ok_if (fun _ => ?_) (fun _ => ?_)
    · refine t_rc H 0 rfl ?_
      obtain ⟨w, hw⟩ := k_where (xm := xm) (N := N) (x := x) hN h2 H
      exact ok_eI hw ⟨_, rfl, _, rfl⟩
    · refine t_gR H 0 rfl rfl ?_
      refine t_rc H 10 rfl ?_
      obtain ⟨w, hw⟩ := lp_get (xm := xm) (N := N) (x := x) (y := y) h2 H
      exact ok_eI hw ⟨_, rfl, _, rfl⟩
  obtain ⟨w, h1, v, rfl⟩ := go
  exact ⟨v, h1⟩
end KZN
