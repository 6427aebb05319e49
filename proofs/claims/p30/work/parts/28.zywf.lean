/-! ===== what is asked, exactly: ofLoop ===== -/
def zWhere (vl vr : List Int32) (rs : List (List Int32)) (bo : List Int32) (x : Int32) : Int32 := if x ∈ openL rs then 4 else if x ∈ vl then 0 else if x ∈ vr then 1 else if x ∈ bo then 3 else 2
def zFact (f : kLf) (w : Int32) (n : Nat) : Int32 := [f.1, f.2.1, f.2.2.1, f.2.2.2.1, f.2.2.2.2.2, w].getD n 0
def spOfLoop (x y : Int32) : aC → aR
  | (nb, jo, lo, bo, pa, ps, (vl, vr, rs, ya, sc)) => if x < 0 ∨ ¬ x < Int32.ofNat lo.length then (1, 0, (nb, jo, lo, bo, pa, ps, (vl, vr, rs, ya, sc))) else if y < 0 ∨ ¬ y < 6 then (2, 0, (nb, jo, lo, bo, pa, ps, (vl, vr, rs, ya, sc))) else (0, zFact (lo.getD x.toNatClampNeg (0, 0, 0, 0, 0, 0)) (zWhere vl vr rs bo x) y.toNatClampNeg, (nb, jo, lo, bo, pa, ps, (vl, vr, rs, ya, sc)))
section GA
variable {xm : Nat → Option kE} {mem m0 : kM} {F X : kSg} {N k nb c0 s0 c1 s1 cap0 n M0 C S q cap i : Nat} {jo x y z t v : Int32} {lo : List kLf} {bo pa vl vr ya : List Int32} {ps : List aS} {rs : List (List Int32)} {sc : Nat → Int32} {st : aS} {T : Nat → Int32} {h : kHs} {sp : aR} {L B P Q : kLi} {s y0 : Nat} {l r u : kLi} {cs : List kCs} {c : kCs} {g : Nat → Int32} {sum : Int64}
theorem inOpen_iff : inOpen rs x ↔ x ∈ openL rs := by
  unfold inOpen openL
  constructor
  · rintro ⟨z, h1, h2, h3⟩
    exact List.mem_map.mpr ⟨z, List.mem_filter.mpr ⟨h1, decide_eq_true h2⟩, h3⟩
  · intro h
    obtain ⟨z, h1, h3⟩ := List.mem_map.mp h
    obtain ⟨h1, h2⟩ := List.mem_filter.mp h1
    exact ⟨z, h1, of_decide_eq_true h2, h3⟩
theorem q_whereIs (hN : 26 ≤ N) (I : INV nb jo lo bo pa ps (vl, vr, rs, ya, sc) T h) (hlo : lo.length < 19998) (hbo : bo.length < 2 ^ 31) (hi : i < lo.length) (h2 : cap ≤ 119988) (hz : ∀ i, cap ≤ i → i < 119988 → T i = 0) (H : HpT (cE nb jo pa (vl, vr, rs, ya, sc) q cap T h) F mem) : m_K_whereIs xm N 1000 (Int32.ofNat i) mem = some (.inl (some (.int (zWhere vl vr rs bo (Int32.ofNat i)))), mem) := by
  obtain ⟨o1, o2, o3, o4⟩ := I.2.2.2.1 _ (List.mem_append_right _ (List.mem_singleton.mpr rfl))
  dsimp only at o1 o2
  have hl : vl.length ≤ 24 := I.sw.1
  have hr : vr.length ≤ 24 := I.sw.2.1
  have h9 : rs.length ≤ 9 := I.sw.2.2.1
  have hm : sc 6 = Int32.ofNat lo.length := I.made
  have hb : sc 7 = Int32.ofNat bo.length := I.bnd
  have d1 : Int32.ofNat i ∈ vl → ¬ Int32.ofNat i ∈ openL rs := fun a b => absurd rfl ((List.nodup_append.mp o2).2.2 _ (List.mem_append_left _ a) _ b)
  have d2 : Int32.ofNat i ∈ vr → ¬ Int32.ofNat i ∈ openL rs := fun a b => absurd rfl ((List.nodup_append.mp o2).2.2 _ (List.mem_append_right _ a) _ b)
  refine ok_eq ?_
  unfold m_K_whereIs
  refine t_gR H 0 rfl rfl ?_
  refine t_gR H 3 rfl rfl ?_
  refine t_rc H 4 rfl ?_
  refine ok_eI (nE_holds (a := 1004) (b := 1005) (j := 4) hN hl H rfl rfl) ?_
  by_cases g1 : Int32.ofNat i ∈ vl
  · rw [if_pos g1, if_neg (show ¬ ((1 : Int32) = 0) by decide)]
    rw [show zWhere vl vr rs bo (Int32.ofNat i) = 0 from (if_neg (d1 g1)).trans (if_pos g1)]
    exact ok_me
  · rw [if_neg g1, if_pos rfl]
    refine t_gR H 0 rfl rfl ?_
    refine t_gR H 3 rfl rfl ?_
    refine t_rc H 6 rfl ?_
    refine ok_eI (nE_holds (a := 1006) (b := 1007) (j := 6) hN hr H rfl rfl) ?_
    by_cases g2 : Int32.ofNat i ∈ vr
    · rw [if_pos g2, if_neg (show ¬ ((1 : Int32) = 0) by decide)]
      rw [show zWhere vl vr rs bo (Int32.ofNat i) = 1 from (if_neg (d2 g2)).trans ((if_neg g1).trans (if_pos g2))]
      exact ok_me
    · rw [if_neg g2, if_pos rfl]
      refine t_gR H 0 rfl rfl ?_
      refine t_rc H 3 rfl ?_
      obtain ⟨v, hv, ev⟩ := wE_hasIn (xm := xm) (N := N) (i := 3) (a := 1003) (x := Int32.ofNat i) (by omega) h9 H isWE_now
      refine ok_eI ev ?_
      have hv := hv.trans inOpen_iff
      by_cases g3 : Int32.ofNat i ∈ openL rs
      · rw [if_neg (hv.mpr g3), show zWhere vl vr rs bo (Int32.ofNat i) = 4 from if_pos g3]
        exact ok_me
      · rw [if_pos (Classical.byContradiction fun z => g3 (hv.mp z))]
        refine t_gR H 0 rfl rfl ?_
        refine t_rc H 10 rfl ?_
        refine ok_eI (lE_get (r := i) (w := 5) h2 (by omega) (by decide) hz H) ?_
        have e3 := o3 i ⟨by dsimp only; rw [hm, i_nat (by omega)]; exact hi, g1, g2, g3⟩
        dsimp only at e3
        rw [hb, i_nat (by omega)] at e3
        unfold bAt at e3
        rw [List.take_of_length_le (Nat.le_refl _)] at e3
        rw [e3, show zWhere vl vr rs bo (Int32.ofNat i) = (if Int32.ofNat i ∈ bo then 3 else 2) from (if_neg g3).trans ((if_neg g1).trans (if_neg g2))]
        exact ok_me
theorem q_loopFact (hN : 26 ≤ N) (I : INV nb jo lo bo pa ps (vl, vr, rs, ya, sc) T h) (hlo : lo.length < 19998) (hbo : bo.length < 2 ^ 31) (hi : i < lo.length) (hn : n < 6) (h2 : cap ≤ 119988) (hz : ∀ i, cap ≤ i → i < 119988 → T i = 0) (H : HpT (cE nb jo pa (vl, vr, rs, ya, sc) q cap T h) F mem) : m_K_loopFact xm N 1000 (Int32.ofNat i) (Int32.ofNat n) mem = some (.inl (some (.int (zFact lo[i] (zWhere vl vr rs bo (Int32.ofNat i)) n))), mem) := by
  obtain ⟨f0, f1, f2, f3, f4, -⟩ := I.2.1 i lo[i] (List.getElem?_eq_getElem hi)
  refine ok_eq ?_
  unfold m_K_loopFact
  by_cases g : n = 5
  · subst g
    rw [if_pos (show Int32.ofNat 5 = 5 from rfl)]
    refine t_rc H 0 rfl ?_
    refine ok_eI (q_whereIs hN I hlo hbo hi h2 hz H) ?_
    exact ok_me
  · rw [if_neg (show ¬ (Int32.ofNat n = 5) from fun z => g ((i_eq (b := 5) (by omega) (by decide)).mp z))]
    refine t_gR H 0 rfl rfl ?_
    refine t_rc H 10 rfl ?_
    refine ok_eI (lE_get (r := i) (w := n) h2 (by omega) hn hz H) ?_
    rcases (show n = 0 ∨ n = 1 ∨ n = 2 ∨ n = 3 ∨ n = 4 by omega) with rfl | rfl | rfl | rfl | rfl
    · rw [f0]; exact ok_me
    · rw [f1]; exact ok_me
    · rw [f2]; exact ok_me
    · rw [f3]; exact ok_me
    · rw [f4]; exact ok_me
theorem q_ofLoop (hN : 120 ≤ N) (hlo : lo.length ≤ 12300) (hbo : bo.length ≤ 12300) (D : KS xm nb jo lo bo pa ps (vl, vr, rs, ya, sc) F 0 0 m0 cap0 mem) : dOk (m_K_ofLoop xm N 1000 x y mem) (eX xm 2 0 (spOfLoop x y (nb, jo, lo, bo, pa, ps, (vl, vr, rs, ya, sc))) F m0 cap0) := by
  have D0 := D
  obtain ⟨T, h, I, D⟩ := D
  have hm : sc 6 = Int32.ofNat lo.length := I.made
  unfold m_K_ofLoop
  refine ok_if (fun g => q_ex1 (if_pos (Or.inl g)) D0) (fun g1 => ?_)
  refine x_gR D 0 (fun _ _ => rfl) rfl ?_
  refine x_gE (x := sc 6) D 3 (fun _ _ => rfl) rfl ?_
  rw [hm]
  refine ok_if (fun g2 => ?_) (fun g => q_ex1 (if_pos (Or.inr g)) D0)
  have g12 : ¬ (x < 0 ∨ ¬ x < Int32.ofNat lo.length) := fun z => z.elim g1 (fun z => z g2)
  refine ok_if (fun g => q_ex2 ((if_neg g12).trans (if_pos (Or.inl g))) D0) (fun g3 => ?_)
  refine ok_if (fun g4 => ?_) (fun g => q_ex2 ((if_neg g12).trans (if_pos (Or.inr g))) D0)
  have g34 : ¬ (y < 0 ∨ ¬ y < 6) := fun z => z.elim g3 (fun z => z g4)
  obtain ⟨ex, lx⟩ := i_of (Int32.not_lt.mp g1)
  obtain ⟨ey, ly⟩ := i_of (Int32.not_lt.mp g3)
  generalize hn : x.toNatClampNeg = n at ex lx
  generalize hk : y.toNatClampNeg = k at ey ly
  subst ex
  subst ey
  have hnl := (i_lt lx (by omega)).mp g2
  have hk6 := (i_lt (b := 6) ly (by decide)).mp g4
  refine x_rc D 0 (fun _ _ => ⟨_, rfl⟩) ?_
  refine x_ro D (fun q cap k2 hz H => q_loopFact (by omega) I (by omega) (by omega) hnl hk6 k2 hz H) ?_
  exact q_end (c := (nb, jo, lo, bo, pa, ps, (vl, vr, rs, ya, sc))) ((if_neg g12).trans ((if_neg g34).trans (by rw [hn, hk, List.getD_eq_getElem?_getD, List.getElem?_eq_getElem hnl]; rfl))) D0
/-! the reference -/
theorem openL_cons {z : List Int32} : openL (z :: rs) = if z.getD 3 0 = 1 then z.getD 0 0 :: openL rs else openL rs := by
  unfold openL
  by_cases g : z.getD 3 0 = 1
  · rw [if_pos g, List.filter_cons_of_pos (by simpa using g)]
    rfl
  · rw [if_neg g, List.filter_cons_of_neg (by simpa using g)]
end GA
