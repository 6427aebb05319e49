/-! ===== what is asked, exactly: would, needs ===== -/
def spWould (x : Int32) : aC → aR
  | (nb, jo, lo, bo, pa, ps, (vl, vr, rs, ya, sc)) => if x < 0 ∨ ¬ x < Int32.ofNat pa.length then (1, 0, (nb, jo, lo, bo, pa, ps, (vl, vr, rs, ya, sc))) else (0, Int32.ofNat (zTry (pa.getD x.toNatClampNeg 0).toNatClampNeg 99 0 (vl.length, vl.length + vr.length, bY jo ya, 0)).1.2.1, (nb, jo, lo, bo, pa, ps, (vl, vr, rs, ya, sc)))
def spNeeds (x : Int32) : aC → aR
  | (nb, jo, lo, bo, pa, ps, (vl, vr, rs, ya, sc)) => if x < 0 ∨ ¬ x < Int32.ofNat pa.length then (1, 0, (nb, jo, lo, bo, pa, ps, (vl, vr, rs, ya, sc))) else (0, (zTry (pa.getD x.toNatClampNeg 0).toNatClampNeg 99 0 (vl.length, vl.length + vr.length, bY jo ya, 0)).1.2.2.2, (nb, jo, lo, bo, pa, ps, (vl, vr, rs, ya, sc)))
section FB
variable {xm : Nat → Option kE} {mem m0 : kM} {F : kSg} {X : dRes} {N k nb c0 s0 c1 s1 cap0 n M0 C S : Nat} {jo x y z t : Int32} {lo : List kLf} {bo pa vl vr ya : List Int32} {ps : List aS} {rs : List (List Int32)} {sc : Nat → Int32} {st : aS} {T : Nat → Int32} {h : kHs} {sp : aR} {L B P Q : kLi} {s y0 : Nat} {l r u : kLi} {cs : List kCs} {c : kCs} {g : Nat → Int32} {sum : Int64}
/-- a trial within a call that asks -/
theorem q_trial {K : kM → dRes} {Sx : kO × kM → Prop} (hX : kXok xm) (hN : 120 ≤ N) (hY : yNN ya) (D : KS xm nb jo lo bo pa ps (vl, vr, rs, ya, sc) F 0 0 m0 cap0 mem) (hp : n < pa.length) (g : ∀ m q cap T h, HpT ((cE nb jo pa (vl, vr, rs, ya, sc) q cap T h).set 104 (1104, trE (zTry (pa.getD n 0).toNatClampNeg 99 0 (vl.length, vl.length + vr.length, bY jo ya, 0)).1 (zTry (pa.getD n 0).toNatClampNeg 99 0 (vl.length, vl.length + vr.length, bY jo ya, 0)).2)) F m → KS xm nb jo lo bo pa ps (vl, vr, rs, ya, sc) F 0 0 m0 cap0 m → dOk (K m) Sx) : dOk (dCV (m_K_tryOut xm N 1000 (Int32.ofNat n) mem) K) Sx := by
  obtain ⟨T, h, I, q, cap, c, s, k1, k2, ⟨hz, H⟩, S1, k3, k4⟩ := D
  have h6 : pa.length ≤ 6 := I.1.2.2.2.2.1
  have h24 : vl.length + vr.length ≤ 24 := I.1.2.1.2.1
  obtain ⟨v, ev, h1, h2, nz⟩ := I.1.2.2.2.2.2 _ (List.getElem_mem hp)
  have hpe : pa[n]? = some (Int32.ofNat v) := by rw [List.getElem?_eq_getElem hp, ev]
  have hpd : (pa.getD n 0).toNatClampNeg = v := by
    rw [List.getD_eq_getElem?_getD, hpe]
    exact i_nat (by omega)
  rw [hpd] at g
  refine ok_cV (q_tryOut hX hN hpe h1 h2 nz h6 h24 I.jj I.nb4 I.sw.2.2.2.2 (bY_nn hY) H) fun m2 hh => ?_
  obtain ⟨H2, S2⟩ := hh
  have H3 := H2.wk (t' := tr (fB 99)) (getQ_lt (x := (1104, tr (fB 99))) rfl) (fun e he => trE_weak (zTry_le 99 0 _) he)
  rw [set_self rfl] at H3
  exact g m2 q cap T h H2 ⟨T, h, I, q, cap, c, s, k1, k2, ⟨hz, H3⟩, S1.trans S2, k3, k4⟩
theorem q_would (hX : kXok xm) (hN : 120 ≤ N) (hY : yNN ya) (D : KS xm nb jo lo bo pa ps (vl, vr, rs, ya, sc) F 0 0 m0 cap0 mem) : dOk (m_K_would xm N 1000 x mem) (eX xm 2 0 (spWould x (nb, jo, lo, bo, pa, ps, (vl, vr, rs, ya, sc))) F m0 cap0) := by
  have D0 := D
  obtain ⟨T, h, I, D⟩ := D
  have h6 : pa.length ≤ 6 := I.1.2.2.2.2.1
  unfold m_K_would
  refine x_rc D 0 (fun _ _ => ⟨_, rfl⟩) ?_
  refine x_ro D (fun q cap k2 hz H => q_hasPattern h6 rfl H) ?_
  by_cases g1 : x < 0
  · rw [if_pos g1, if_pos rfl]
    exact q_ex1 (if_pos (Or.inl g1)) D0
  · rw [if_neg g1]
    by_cases g2 : x < Int32.ofNat pa.length
    · rw [if_pos g2, if_neg (by decide)]
      have g12 : ¬ (x < 0 ∨ ¬ x < Int32.ofNat pa.length) := fun z => z.elim g1 (fun z => z g2)
      obtain ⟨ex, lx⟩ := i_of (Int32.not_lt.mp g1)
      generalize hn : x.toNatClampNeg = n at ex lx
      subst ex
      refine x_rc D 0 (fun _ _ => ⟨_, rfl⟩) ?_
      refine q_trial hX hN hY D0 ((i_lt lx (by omega)).mp g2) fun m q cap T h H1 D1 => ?_
      refine t_gR H1 0 rfl rfl ?_
      refine t_gE H1 104 rfl rfl ?_
      exact q_end (c := (nb, jo, lo, bo, pa, ps, (vl, vr, rs, ya, sc))) ((if_neg g12).trans (by rw [hn])) D1
    · rw [if_neg g2, if_pos rfl]
      exact q_ex1 (if_pos (Or.inr g2)) D0
theorem q_needs (hX : kXok xm) (hN : 120 ≤ N) (hY : yNN ya) (D : KS xm nb jo lo bo pa ps (vl, vr, rs, ya, sc) F 0 0 m0 cap0 mem) : dOk (m_K_needs xm N 1000 x mem) (eX xm 2 0 (spNeeds x (nb, jo, lo, bo, pa, ps, (vl, vr, rs, ya, sc))) F m0 cap0) := by
  have D0 := D
  obtain ⟨T, h, I, D⟩ := D
  have h6 : pa.length ≤ 6 := I.1.2.2.2.2.1
  unfold m_K_needs
  refine x_rc D 0 (fun _ _ => ⟨_, rfl⟩) ?_
  refine x_ro D (fun q cap k2 hz H => q_hasPattern h6 rfl H) ?_
  by_cases g1 : x < 0
  · rw [if_pos g1, if_pos rfl]
    exact q_ex1 (if_pos (Or.inl g1)) D0
  · rw [if_neg g1]
    by_cases g2 : x < Int32.ofNat pa.length
    · rw [if_pos g2, if_neg (by decide)]
      have g12 : ¬ (x < 0 ∨ ¬ x < Int32.ofNat pa.length) := fun z => z.elim g1 (fun z => z g2)
      obtain ⟨ex, lx⟩ := i_of (Int32.not_lt.mp g1)
      generalize hn : x.toNatClampNeg = n at ex lx
      subst ex
      refine x_rc D 0 (fun _ _ => ⟨_, rfl⟩) ?_
      refine q_trial hX hN hY D0 ((i_lt lx (by omega)).mp g2) fun m q cap T h H1 D1 => ?_
      refine t_gR H1 0 rfl rfl ?_
      refine t_gE H1 104 rfl rfl ?_
      exact q_end (c := (nb, jo, lo, bo, pa, ps, (vl, vr, rs, ya, sc))) ((if_neg g12).trans (by rw [hn])) D1
    · rw [if_neg g2, if_pos rfl]
      exact q_ex1 (if_pos (Or.inr g2)) D0
end FB
