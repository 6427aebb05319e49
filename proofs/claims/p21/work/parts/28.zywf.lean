/-! ===== what is asked, exactly: ofLoop ===== -/
def zWhere (vl vr : List Int32) (rs : List (List Int32)) (bo : List Int32) (x : Int32) : Int32 := if x ∈ openL rs then 4 else if x ∈ vl then 0 else if x ∈ vr then 1 else if x ∈ bo then 3 else 2
def zFact (f : kLf) (w : Int32) (n : Nat) : Int32 := [f.1, f.2.1, f.2.2.1, f.2.2.2.1, f.2.2.2.2.2, w].getD n 0
def spOfLoop (x y : Int32) : aC → aR
  | (nb, jo, lo, bo, pa, ps, (vl, vr, rs, ya, sc)) => if x < 0 ∨ ¬ x < Int32.ofNat lo.length then (1, 0, (nb, jo, lo, bo, pa, ps, (vl, vr, rs, ya, sc))) else if y < 0 ∨ ¬ y < 6 then (2, 0, (nb, jo, lo, bo, pa, ps, (vl, vr, rs, ya, sc))) else (0, zFact (lo.getD x.toNatClampNeg (0, 0, 0, 0, 0, 0)) (zWhere vl vr rs bo x) y.toNatClampNeg, (nb, jo, lo, bo, pa, ps, (vl, vr, rs, ya, sc)))
section GA
variable {xm : Nat → Option kE} {mem m0 : kM} {F X : kSg} {N k nb c0 s0 c1 s1 cap0 n M0 C S q cap i : Nat} {jo x y z t v : Int32} {lo : List kLf} {bo pa vl vr ya : List Int32} {ps : List aS} {rs : List (List Int32)} {sc : Nat → Int32} {st : aS} {T : Nat → Int32} {h : kHs} {sp : aR} {L B P Q : kLi} {s y0 : Nat} {l r u : kLi} {cs : List kCs} {c : kCs} {g : Nat → Int32} {sum : Int64}
theorem inOpen_iff : inOpen rs x ↔ x ∈ openL rs := by
  unfold inOpen openL
  constructor
  · rintro ⟨z, h1, h2, h3⟩
    exact List.mem_map.mpr ⟨z, List.mem_filter.mpr ⟨h1, decide_eq_true h2⟩, h3⟩
  · intro h
    obtain ⟨z, h1, h3⟩ := List.mem_map.mp h
    obtain ⟨h1, h2⟩ := List.mem_filter.mp h1
    exact ⟨z, h1, of_decide_eq_true h2, h3⟩
theorem q_whereIs (hN : 26 ≤ N) (I : INV nb jo lo bo pa ps (vl, vr, rs, ya, sc) T h) (hlo : lo.length < 19998) (hbo : bo.length < 2 ^ 31) (hi : i < lo.length) (h2 : cap ≤ 119988) (hz : ∀ i, cap ≤ i → i < 119988 → T i = 0) (H : HpT (cE nb jo pa (vl, vr, rs, ya, sc) q cap T h) F mem) : m_K_whereIs xm N 1000 (Int32.ofNat i) mem = some (.inl (some (.int (zWhere vl vr rs bo (Int32.ofNat i)))), mem) := by
  obtain ⟨o1, o2, o3, o4⟩ := I.2.2.2.1 _ (List.mem_append_right _ (List.mem_singleton.mpr rfl))
  dsimp only at o1 o2
  have hl : vl.length ≤ 24 := I.sw.1
  have hr : vr.length ≤ 24 := I.sw.2.1
  have h9 : rs.length ≤ 9 := I.sw.2.2.1
  have hm : sc 6 = Int32.ofNat lo.length := I.made
  have hb : sc 7 = Int32.ofNat bo.length := I.bnd
  have d1 : Int32.ofNat i ∈ vl → ¬ Int32.ofNat i ∈ openL rs := fun a b => absurd rfl ((List.nodup_append.mp o2).2.2 _ (List.mem_append_left _ a) _ b)
  have d2 : Int32.ofNat i ∈ vr → ¬ Int32.ofNat i ∈ openL rs := fun a b => absurd rfl ((List.nodup_append.mp o2).2.2 _ (List.mem_append_right _ a) _ b)
  refine ok_eq ?_
  unfold m_K_whereIs
  refine t_gR H 0 rfl rfl ?_
  refine t_gR H 3 rfl rfl ?_
  refine t_rc H 4 rfl ?_
  refine ok_eI (nE_holds (a := 1004) (b := 1005) (j := 4) hN hl H rfl rfl) ?_
  by_cases g1 : Int32.ofNat i ∈ vl
  · rw [if_pos g1, if_neg (show ¬ ((1 : Int32) = 0) by decide)]
    rw [show zWhere vl vr rs bo (Int32.ofNat i) = 0 from (if_neg (d1 g1)).trans (if_pos g1)]
    exact ok_me
  · rw [if_neg g1, if_pos rfl]
    refine t_gR H 0 rfl rfl ?_
    refine t_gR H 3 rfl rfl ?_
    refine t_rc H 6 rfl ?_
    refine ok_eI (nE_holds (a := 1006) (b := 1007) (j := 6) hN hr H rfl rfl) ?_
    by_cases g2 : Int32.ofNat i ∈ vr
    · rw [if_pos g2, if_neg (show ¬ ((1 : Int32) = 0) by decide)]
      rw [show zWhere vl vr rs bo (Int32.ofNat i) = 1 from (if_neg (d2 g2)).trans ((if_neg g1).trans (if_pos g2))]
      exact ok_me
    · rw [if_neg g2, if_pos rfl]
      refine t_gR H 0 rfl rfl ?_
      refine t_rc H 3 rfl ?_
      obtain ⟨v, hv, ev⟩ := wE_hasIn (xm := xm) (N := N) (i := 3) (a := 1003) (x := Int32.ofNat i) (by omega) h9 H isWE_now
      refine ok_eI ev ?_
      have hv := hv.trans inOpen_iff
      by_cases g3 : Int32.ofNat i ∈ openL rs
      · rw [if_neg (hv.mpr g3), show zWhere vl vr rs bo (Int32.ofNat i) = 4 from if_pos g3]
        exact ok_me
      · rw [if_pos (Classical.byContradiction fun z => g3 (hv.mp z))]
        refine t_gR H 0 rfl rfl ?_
        refine t_rc H 10 rfl ?_
        refine ok_eI (lE_get (r := i) (w := 5) h2 (by omega) (by decide) hz H) ?_
        have e3 := o3 i ⟨by dsimp only; rw [hm, i_nat (by omega)]; exact hi, g1, g2, g3⟩
        dsimp only at e3
        rw [hb, i_nat (by omega)] at e3
        unfold bAt at e3
        rw [List.take_of_length_le (Nat.le_refl _)] at e3
        rw [e3, show zWhere vl vr rs bo (Int32.ofNat i) = (if Int32.ofNat i ∈ bo then 3 else 2) from (if_neg g3).trans ((if_neg g1).trans (if_neg g2))]
        exact ok_me
theorem q_loopFact (hN : 26 ≤ N) (I : INV nb jo lo bo pa ps (vl, vr, rs, ya, sc) T h) (hlo : lo.length < 19998) (hbo : bo.length < 2 ^ 31) (hi : i < lo.length) (hn : n < 6) (h2 : cap ≤ 119988) (hz : ∀ i, cap ≤ i → i < 119988 → T i = 0) (H : HpT (cE nb jo pa (vl, vr, rs, ya, sc) q cap T h) F mem) : m_K_loopFact xm N 1000 (Int32.ofNat i) (Int32.ofNat n) mem = some (.inl (some (.int (zFact lo[i] (zWhere vl vr rs bo (Int32.ofNat i)) n))), mem) := by
  obtain ⟨f0, f1, f2, f3, f4, -⟩ := I.2.1 i lo[i] (List.getElem?_eq_getElem hi)
  refine ok_eq ?_
  unfold m_K_loopFact
  by_cases g : n = 5
  · subst g
    rw [if_pos (show Int32.ofNat 5 = 5 from rfl)]
    refine t_rc H 0 rfl ?_
    refine ok_eI (q_whereIs hN I hlo hbo hi h2 hz H) ?_
    exact ok_me
  · rw [if_neg (show ¬ (Int32.ofNat n = 5) from fun z => g ((i_eq (b := 5) (by omega) (by decide)).mp z))]
    refine t_gR H 0 rfl rfl ?_
    refine t_rc H 10 rfl ?_
    refine ok_eI (lE_get (r := i) (w := n) h2 (by omega) hn hz H) ?_
    rcases (show n = 0 ∨ n = 1 ∨ n = 2 ∨ n = 3 ∨ n = 4 by omega) with rfl | rfl | rfl | rfl | rfl
    · rw [f0]; exact ok_me
    · rw [f1]; exact ok_me
    · rw [f2]; exact ok_me
    · rw [f3]; exact ok_me
    · rw [f4]; exact ok_me
theorem q_ofLoop (hN : 120 ≤ N) (hlo : lo.length ≤ 12300) (hbo : bo.length ≤ 12300) (D : KS xm nb jo lo bo pa ps (vl, vr, rs, ya, sc) F 0 0 m0 cap0 mem) : dOk (m_K_ofLoop xm N 1000 x y mem) (eX xm 2 0 (spOfLoop x y (nb, jo, lo, bo, pa, ps, (vl, vr, rs, ya, sc))) F m0 cap0) := by
  have D0 := D
  obtain ⟨T, h, I, D⟩ := D
  have hm : sc 6 = Int32.ofNat lo.length := I.made
  unfold m_K_ofLoop
  refine ok_if (fun g => q_ex1 (if_pos (Or.inl g)) D0) (fun g1 => ?_)
  refine x_gR D 0 (fun _ _ => rfl) rfl ?_
  refine x_gE (x := sc 6) D 3 (fun _ _ => rfl) rfl ?_
  rw [hm]
  refine ok_if (fun g2 => ?_) (fun g => q_ex1 (if_pos (Or.inr g)) D0)
  have g12 : ¬ (x < 0 ∨ ¬ x < Int32.ofNat lo.length) := fun z => z.elim g1 (fun z => z g2)
  refine ok_if (fun g => q_ex2 ((if_neg g12).trans (if_pos (Or.inl g))) D0) (fun g3 => ?_)
  refine ok_if (fun g4 => ?_) (fun g => q_ex2 ((if_neg g12).trans (if_pos (Or.inr g))) D0)
  have g34 : ¬ (y < 0 ∨ ¬ y < 6) := fun z => z.elim g3 (fun z => z g4)
  obtain ⟨ex, lx⟩ := i_of (Int32.not_lt.mp g1)
  obtain ⟨ey, ly⟩ := i_of (Int32.not_lt.mp g3)
  generalize hn : x.toNatClampNeg = n at ex lx
  generalize hk : y.toNatClampNeg = k at ey ly
  subst ex
  subst ey
  have hnl := (i_lt lx (by omega)).mp g2
  have hk6 := (i_lt (b := 6) ly (by decide)).mp g4
  refine x_rc D 0 (fun _ _ => ⟨_, rfl⟩) ?_
  refine x_ro D (fun q cap k2 hz H => q_loopFact (by omega) I (by omega) (by omega) hnl hk6 k2 hz H) ?_
  exact q_end (c := (nb, jo, lo, bo, pa, ps, (vl, vr, rs, ya, sc))) ((if_neg g12).trans ((if_neg g34).trans (by rw [hn, hk, List.getD_eq_getElem?_getD, List.getElem?_eq_getElem hnl]; rfl))) D0
/-! the reference -/
theorem has_loopE {Ls : List kSg} {a q cap it i : Nat} {mc x : Int32} {es : List Nat} {vs : List Int32} (hw : sWf q cap es) (hi : Ls[i]? = some (sAL a q mc cap es)) : ∀ (j d f : Nat) (l : Int32) (mem : kM), es.length = d + j → j < f → IVs xm mem es vs → HpS ([sIt it d l mc a] :: Ls) mem → dOk (m_M_has_5 xm N f x it mem) (rI fun v m => v = (if x ∈ vs.drop d then 1 else 0) ∧ HpS Ls m ∧ St xm mem m 0 0) := by
  intro j
  have hlt := hw.lt
  induction j with
  | zero =>
    intro d f l mem hd hf hv H
    obtain ⟨f, rfl⟩ : ∃ f', f = f' + 1 := ⟨f - 1, by omega⟩
    rw [m_M_has_5]
    refine ok_rc (H.look 0 0 rfl rfl) ?_
    refine ok_eI (itr_has (l := 0) (n := es.length) (H.look 0 0 rfl rfl) (H.look (i + 1) 0 hi rfl) (by omega) (by omega)) ?_
    have e1 : (if d = es.length then (0 : Int32) else 1) = 0 := if_pos (by omega)
    rw [e1, if_pos rfl]
    refine ok_I ⟨?_, H.drop, St.refl⟩
    rw [List.drop_of_length_le (by have := hv.1; omega), if_neg List.not_mem_nil]
  | succ j ih =>
    intro d f l mem hd hf hv H
    obtain ⟨f, rfl⟩ : ∃ f', f = f' + 1 := ⟨f - 1, by omega⟩
    rw [m_M_has_5]
    refine ok_rc (H.look 0 0 rfl rfl) ?_
    refine ok_eI (itr_has (l := 0) (n := es.length) (H.look 0 0 rfl rfl) (H.look (i + 1) 0 hi rfl) (by omega) (by omega)) ?_
    have e1 : (if d = es.length then (0 : Int32) else 1) = 1 := if_neg (by omega)
    rw [e1, if_neg (show ¬ ((1 : Int32) = 0) by decide)]
    refine ok_rc (H.look 0 0 rfl rfl) ?_
    refine ok_cR (ls_next hw H i hi (by omega)) fun e m1 hh => ?_
    obtain ⟨rfl, H1, S1⟩ := hh
    have hv1 := hv.st S1
    have hdv : d < vs.length := by have := hv.1; omega
    have hk := hv1.at (i := d) (by omega) hdv
    refine ok_ccO hk ?_
    refine ok_rc hk ?_
    refine ok_eI (int_val hk) ?_
    have e2 : vs.drop d = vs[d] :: vs.drop (d + 1) := List.drop_eq_getElem_cons hdv
    rw [e2]
    refine ok_if (fun g => ?_) (fun g => ?_)
    · exact ok_I ⟨by rw [if_pos (g ▸ List.mem_cons_self)], H1.drop, S1⟩
    · refine ok_mono (ih (d + 1) f _ m1 (by omega) (by omega) hv1 H1) ?_
      rintro w ⟨v, q1, q0, q2, q3⟩
      refine ⟨v, q1, ?_, q2, (S1.trans q3).mono (by omega) (by omega)⟩
      rw [q0]
      by_cases g2 : x ∈ vs.drop (d + 1)
      · rw [if_pos g2, if_pos (List.mem_cons_of_mem _ g2)]
      · rw [if_neg g2, if_neg]
        intro z
        rcases List.mem_cons.mp z with h | h
        · exact g h.symm
        · exact g2 h
theorem m_hasE {Ls : List kSg} {a q cap i : Nat} {mc x : Int32} {es : List Nat} {vs : List Int32} (hN : 20001 ≤ N) (hw : sWf q cap es) (hl : es.length ≤ 20000) (H : HpS Ls mem) (hi : Ls[i]? = some (sAL a q mc cap es)) (hv : IVs xm mem es vs) : dOk (m_M_has xm N a x mem) (rI fun v m => v = (if x ∈ vs then 1 else 0) ∧ HpS Ls m ∧ St xm mem m 1 4) := by
  unfold m_M_has
  refine ok_rc (ls_hd H i hi) ?_
  refine ok_cR (ls_iterator H i hi) fun it m1 hh => ?_
  obtain ⟨H1, S1⟩ := hh
  refine ok_mono (has_loopE (x := x) hw hi es.length 0 N (-1) m1 (by omega) (by omega) (hv.st S1) H1) ?_
  rintro w ⟨v, q1, q0, q2, q3⟩
  exact ⟨v, q1, q0, q2, (S1.trans q3).mono (by omega) (by omega)⟩
theorem openL_cons {z : List Int32} : openL (z :: rs) = if z.getD 3 0 = 1 then z.getD 0 0 :: openL rs else openL rs := by
  unfold openL
  by_cases g : z.getD 3 0 = 1
  · rw [if_pos g, List.filter_cons_of_pos (by simpa using g)]
    rfl
  · rw [if_neg g, List.filter_cons_of_neg (by simpa using g)]
theorem where_loopE {x : Int32} {it : Nat} (hN : 20001 ≤ N) (hb : bo.length ≤ 20000) (h24 : vl.length + vr.length ≤ 24) (h9 : rs.length ≤ 9) (h4 : ∀ z ∈ rs, z.length = 4) (hB : B.1 = M0 + 2) : ∀ (j d f : Nat) (z : Int32) (mem : kM), rs.length = d + j → j < f → wRl xm mem L B P Q (s, l, r, u, y0) cs lo bo pa ps (vl, vr, rs, ya, sc) → HpS ([sIt it d z u.2.2.1 u.1] :: X :: wSg M0 L B P Q (s, l, r, u, y0) cs g sum ps (vl, vr, rs, ya, sc) F) mem → dOk (m_M_where_11 xm N f M0 x it mem) (rI fun v m => v = zWhere vl vr (rs.drop d) bo x ∧ HpS (X :: wSg M0 L B P Q (s, l, r, u, y0) cs g sum ps (vl, vr, rs, ya, sc) F) m ∧ St xm mem m 3 12) := by
  intro j
  induction j with
  | zero =>
    intro d f z mem hd hf R H
    obtain ⟨f, rfl⟩ : ∃ f', f = f' + 1 := ⟨f - 1, by omega⟩
    have R0 := R
    obtain ⟨⟨w1, w2, w3, w4⟩, ⟨c1, c2, c3, c4⟩, r3, r4, r5, r6, ⟨t1, t2, t3, ⟨t4, t5, t6⟩, t7, t8, t9⟩, r8⟩ := R
    dsimp only at t1 t2 t3 t7 t8 t9
    have e0 : openL (rs.drop d) = [] := by rw [List.drop_of_length_le (by omega)]; rfl
    have ew : zWhere vl vr (rs.drop d) bo x = if x ∈ vl then 0 else if x ∈ vr then 1 else if x ∈ bo then 3 else 2 := by
      unfold zWhere
      rw [e0, if_neg List.not_mem_nil]
    rw [ew]
    rw [m_M_where_11]
    refine ok_rc (H.look 0 0 rfl rfl) ?_
    refine ok_eI (itr_has (l := 0) (n := u.2.2.2.2.length) (H.look 0 0 rfl rfl) (H.look 10 0 rfl rfl) (by omega) (by omega)) ?_
    have e1 : (if d = u.2.2.2.2.length then (0 : Int32) else 1) = 0 := if_pos (by omega)
    rw [e1, if_pos rfl]
    have H := H.drop
    refine ok_gR (H.look 1 0 rfl rfl) rfl ?_
    refine ok_gR (H.look 6 0 rfl rfl) rfl ?_
    refine ok_cI (m_hasE (x := x) hN t1 (by have := t7.1; omega) H (i := 7) rfl t7) fun v m1 hh => ?_
    obtain ⟨rfl, H1, S1⟩ := hh
    by_cases g1 : x ∈ vl
    · rw [if_pos g1, if_pos g1, if_neg (show ¬ ((1 : Int32) = 0) by decide)]
      exact ok_I ⟨rfl, H1, S1.mono (by omega) (by omega)⟩
    rw [if_neg g1, if_neg g1, if_pos rfl]
    refine ok_gR (H1.look 1 0 rfl rfl) rfl ?_
    refine ok_gR (H1.look 6 0 rfl rfl) rfl ?_
    refine ok_cI (m_hasE (x := x) hN t2 (by have := t8.1; omega) H1 (i := 8) rfl (t8.st S1)) fun v m2 hh => ?_
    obtain ⟨rfl, H2, S2⟩ := hh
    by_cases g2 : x ∈ vr
    · rw [if_pos g2, if_pos g2, if_neg (show ¬ ((1 : Int32) = 0) by decide)]
      exact ok_I ⟨rfl, H2, (S1.trans S2).mono (by omega) (by omega)⟩
    rw [if_neg g2, if_neg g2, if_pos rfl]
    refine ok_gR (H2.look 1 0 rfl rfl) rfl ?_
    refine ok_cI (m_hasE (x := x) hN w2 (by have := r4.1; omega) H2 (i := 3) rfl ((r4.st S1).st S2)) fun v m3 hh => ?_
    obtain ⟨rfl, H3, S3⟩ := hh
    have ST := S1.trans (S2.trans S3)
    by_cases g3 : x ∈ bo
    · rw [if_pos g3, if_pos g3, if_neg (show ¬ ((1 : Int32) = 0) by decide)]
      exact ok_I ⟨rfl, H3, ST.mono (by omega) (by omega)⟩
    · rw [if_neg g3, if_neg g3, if_pos rfl]
      exact ok_I ⟨rfl, H3, ST.mono (by omega) (by omega)⟩
  | succ j ih =>
    intro d f z mem hd hf R H
    obtain ⟨f, rfl⟩ : ∃ f', f = f' + 1 := ⟨f - 1, by omega⟩
    have R0 := R
    obtain ⟨⟨w1, w2, w3, w4⟩, ⟨c1, c2, c3, c4⟩, r3, r4, r5, r6, ⟨t1, t2, t3, ⟨t4, t5, t6⟩, t7, t8, t9⟩, r8⟩ := R
    dsimp only at t1 t2 t3 t7 t8 t9
    have hu : d < u.2.2.2.2.length := by omega
    have hdr : d < rs.length := by omega
    rw [m_M_where_11]
    refine ok_rc (H.look 0 0 rfl rfl) ?_
    refine ok_eI (itr_has (l := 0) (n := u.2.2.2.2.length) (H.look 0 0 rfl rfl) (H.look 10 0 rfl rfl) (by omega) (by omega)) ?_
    have e1 : (if d = u.2.2.2.2.length then (0 : Int32) else 1) = 1 := if_neg (by omega)
    rw [e1, if_neg (show ¬ ((1 : Int32) = 0) by decide)]
    refine ok_rc (H.look 0 0 rfl rfl) ?_
    refine ok_cR (ls_next (a := u.1) (q := u.2.1) (mc := u.2.2.1) (cap := u.2.2.2.1) (es := u.2.2.2.2) t3 H 9 rfl hu) fun e m1 hh => ?_
    obtain ⟨rfl, H1, S1⟩ := hh
    have hat : (sRu u.2.2.2.2 rs)[d]? = some (u.2.2.2.2[d], kAr rs[d]) := sRu_at (List.getElem?_eq_getElem hu) (List.getElem?_eq_getElem hdr)
    have hz : rs[d].length = 4 := h4 _ (List.getElem_mem hdr)
    have hl := H1.look (xm := xm) 11 d rfl hat
    have eo : openL (rs.drop d) = if rs[d].getD 3 0 = 1 then rs[d].getD 0 0 :: openL (rs.drop (d + 1)) else openL (rs.drop (d + 1)) := by
      rw [List.drop_eq_getElem_cons hdr, openL_cons]
    refine ok_ccA hl (H1.ge 11 d rfl hat) ?_
    refine ok_iL hl (by rw [hz]; decide) ?_
    rw [show ((0 : Int32).toNatClampNeg) = 0 from rfl]
    have rest : (x ∈ openL (rs.drop d) ↔ x ∈ openL (rs.drop (d + 1))) → dOk (m_M_where_11 xm N f M0 x it m1) (rI fun v m => v = zWhere vl vr (rs.drop d) bo x ∧ HpS (X :: wSg M0 L B P Q (s, l, r, u, y0) cs g sum ps (vl, vr, rs, ya, sc) F) m ∧ St xm mem m 3 12) := by
      intro hiff
      refine ok_mono (ih (d + 1) f _ m1 (by omega) (by omega) (R0.st S1) H1) ?_
      rintro w ⟨v, q1, q0, q2, q3⟩
      refine ⟨v, q1, ?_, q2, (S1.trans q3).mono (by omega) (by omega)⟩
      rw [q0]
      unfold zWhere
      simp only [hiff]
    unfold m_M_where_46
    refine ok_if (fun g1 => ?_) (fun g1 => rest ?_)
    · refine ok_iL hl (by rw [hz]; decide) ?_
      rw [show ((3 : Int32).toNatClampNeg) = 3 from rfl]
      refine ok_if (fun g2 => ?_) (fun g2 => rest ?_)
      · refine ok_I ⟨?_, H1.drop, S1.mono (by omega) (by omega)⟩
        unfold zWhere
        rw [eo, if_pos g2, g1, if_pos List.mem_cons_self]
      · rw [eo, if_neg g2]
    · rw [eo]
      split
      · constructor
        · intro hm
          rcases List.mem_cons.mp hm with h | h
          · exact absurd h.symm g1
          · exact h
        · exact fun hm => List.mem_cons_of_mem _ hm
      · exact Iff.rfl
theorem m_whereE {x : Int32} (hN : 20001 ≤ N) (hb : bo.length ≤ 20000) (h24 : vl.length + vr.length ≤ 24) (h9 : rs.length ≤ 9) (h4 : ∀ z ∈ rs, z.length = 4) (hB : B.1 = M0 + 2) (R : wRl xm mem L B P Q (s, l, r, u, y0) cs lo bo pa ps (vl, vr, rs, ya, sc)) (H : HpS (X :: wSg M0 L B P Q (s, l, r, u, y0) cs g sum ps (vl, vr, rs, ya, sc) F) mem) : dOk (m_M_where xm N M0 x mem) (rI fun v m => v = zWhere vl vr rs bo x ∧ HpS (X :: wSg M0 L B P Q (s, l, r, u, y0) cs g sum ps (vl, vr, rs, ya, sc) F) m ∧ St xm mem m 4 16) := by
  unfold m_M_where
  refine ok_gR (H.look 1 0 rfl rfl) rfl ?_
  refine ok_gR (H.look 6 0 rfl rfl) rfl ?_
  refine ok_rc (ls_hd H 9 rfl) ?_
  refine ok_cR (ls_iterator (a := u.1) (q := u.2.1) (mc := u.2.2.1) (cap := u.2.2.2.1) (es := u.2.2.2.2) H 9 rfl) fun it m1 hh => ?_
  obtain ⟨H1, S1⟩ := hh
  refine ok_mono (where_loopE (x := x) hN hb h24 h9 h4 hB rs.length 0 N (-1) m1 (by omega) (by omega) (R.st S1) H1) ?_
  rintro w ⟨v, q1, q0, q2, q3⟩
  exact ⟨v, q1, q0, q2, (S1.trans q3).mono (by omega) (by omega)⟩
theorem m_ofLoopNowE {i n : Nat} (hX : kXok xm) (hN : 20001 ≤ N) (V : WC xm M0 L B P Q (s, l, r, u, y0) cs g sum lo bo pa ps (vl, vr, rs, ya, sc) F mem) (hi : aInv nb g lo bo pa ps (vl, vr, rs, ya, sc)) (hb : bo.length ≤ 20000) (hil : i < lo.length) (hlo : lo.length ≤ 20000) (hn : n < 6) : dOk (m_M_ofLoopNow xm N M0 (Int32.ofNat i) (Int32.ofNat n) mem) (rI fun v m => v = zFact lo[i] (zWhere vl vr rs bo (Int32.ofNat i)) n ∧ WC xm M0 L B P Q (s, l, r, u, y0) cs g sum lo bo pa ps (vl, vr, rs, ya, sc) F m ∧ St xm mem m 5 22) := by
  unfold m_M_ofLoopNow
  refine w_gL V.wr ?_
  refine w_loop hX V.wr hil fun e he => ?_
  refine ok_ccO he ?_
  refine os_nI (n := 6) xm V.1 (by decide) fun m1 p1 H1 S1 => ?_
  refine ok_gI (he.st S1) rfl ?_
  refine os_iS H1 0 0 rfl rfl (by decide) fun m2 H2 S2 => ?_
  have H2 : HpS ([(p1, kAr [lo[i].1, 0, 0, 0, 0, 0])] :: wSg M0 L B P Q (s, l, r, u, y0) cs g sum ps (vl, vr, rs, ya, sc) F) m2 := H2
  refine ok_gI ((he.st S1).st S2) rfl ?_
  refine os_iS H2 0 0 rfl rfl (show kInB 1 6 = true by decide) fun m3 H3 S3 => ?_
  have H3 : HpS ([(p1, kAr [lo[i].1, lo[i].2.1, 0, 0, 0, 0])] :: wSg M0 L B P Q (s, l, r, u, y0) cs g sum ps (vl, vr, rs, ya, sc) F) m3 := H3
  refine ok_gI (((he.st S1).st S2).st S3) rfl ?_
  refine os_iS H3 0 0 rfl rfl (show kInB 2 6 = true by decide) fun m4 H4 S4 => ?_
  have H4 : HpS ([(p1, kAr [lo[i].1, lo[i].2.1, lo[i].2.2.1, 0, 0, 0])] :: wSg M0 L B P Q (s, l, r, u, y0) cs g sum ps (vl, vr, rs, ya, sc) F) m4 := H4
  refine ok_gI ((((he.st S1).st S2).st S3).st S4) rfl ?_
  refine os_iS H4 0 0 rfl rfl (show kInB 3 6 = true by decide) fun m5 H5 S5 => ?_
  have H5 : HpS ([(p1, kAr [lo[i].1, lo[i].2.1, lo[i].2.2.1, lo[i].2.2.2.1, 0, 0])] :: wSg M0 L B P Q (s, l, r, u, y0) cs g sum ps (vl, vr, rs, ya, sc) F) m5 := H5
  refine ok_gI (((((he.st S1).st S2).st S3).st S4).st S5) rfl ?_
  refine os_iS H5 0 0 rfl rfl (show kInB 4 6 = true by decide) fun m6 H6 S6 => ?_
  have H6 : HpS ([(p1, kAr [lo[i].1, lo[i].2.1, lo[i].2.2.1, lo[i].2.2.2.1, lo[i].2.2.2.2.2, 0])] :: wSg M0 L B P Q (s, l, r, u, y0) cs g sum ps (vl, vr, rs, ya, sc) F) m6 := H6
  refine ok_rc (H6.look 1 0 rfl rfl) ?_
  have S16 := S1.trans (S2.trans (S3.trans (S4.trans (S5.trans S6))))
  refine ok_cI (m_whereE (x := Int32.ofNat i) hN hb hi.2.1.2.1 hi.sw.2.2.1 hi.sw.2.2.2.1 V.2.2.2.1 (V.2.1.st S16) H6) fun v m7 hh => ?_
  obtain ⟨rfl, H7, S7⟩ := hh
  refine os_iS H7 0 0 rfl rfl (show kInB 5 6 = true by decide) fun m8 H8 S8 => ?_
  have H8 : HpS ([(p1, kAr [lo[i].1, lo[i].2.1, lo[i].2.2.1, lo[i].2.2.2.1, lo[i].2.2.2.2.2, zWhere vl vr rs bo (Int32.ofNat i)])] :: wSg M0 L B P Q (s, l, r, u, y0) cs g sum ps (vl, vr, rs, ya, sc) F) m8 := H8
  refine ok_iL (H8.look 0 0 rfl rfl) (show kInB (Int32.ofNat n) 6 = true from i_inB hn (by decide)) ?_
  have ST := S16.trans (S7.trans S8)
  rw [i_nat (show n < 2 ^ 31 by omega)]
  exact ok_I ⟨rfl, V.mk' H8.drop ST, ST.mono (by omega) (by omega)⟩
theorem v_ofLoop (hX : kXok xm) (hN : 20001 ≤ N) (hk : k < 512) (I : RJ xm M0 t (nb, jo, lo, bo, pa, ps, (vl, vr, rs, ya, sc)) k C S F mem) (x z : Int32) : dOk (m_M_ofLoop xm N M0 x z mem) (eR xm M0 (spOfLoop x z (nb, jo, lo, bo, pa, ps, (vl, vr, rs, ya, sc))) k C S 5 22 F) := by
  have hsp : (spOfLoop x z (nb, jo, lo, bo, pa, ps, (vl, vr, rs, ya, sc))).2.2 = (nb, jo, lo, bo, pa, ps, (vl, vr, rs, ya, sc)) := by
    unfold spOfLoop
    dsimp only
    split
    · rfl
    · split <;> rfl
  unfold m_M_ofLoop
  refine RJ.askE hsp I fun L B P Q s y l r u cs g sum m V hi h0 h7 hl hb => ?_
  refine w_gL V.wr ?_
  have hL := V.2.2.1
  have hlt := V.2.1.1.1.lt
  have n3 := V.2.1.2.2.1.1
  have hd := ls_hd (xm := xm) (a := L.1) (q := L.2.1) (mc := L.2.2.1) (cap := L.2.2.2.1) (es := L.2.2.2.2) V.1 1 rfl
  have hsz := ls_size (xm := xm) (N := N) (a := L.1) (q := L.2.1) (mc := L.2.2.1) (cap := L.2.2.2.1) (es := L.2.2.2.2) V.1 1 rfl
  rw [hL] at hd hsz
  refine ok_rc hd ?_
  refine ok_eI hsz ?_
  rw [n3]
  refine ok_eI m_is ?_
  refine ok_if (fun e => ?_) (fun e => ?_)
  · exact e_ref V (congrArg (fun r : aR => r.1) (if_pos ((is_n (by omega)).mp (is_z.mp e)))) (by decide)
  · have e' : ¬ (x < 0 ∨ ¬ x < Int32.ofNat lo.length) := fun w => e (is_z.mpr ((is_n (by omega)).mpr w))
    obtain ⟨i, rfl, hil⟩ := in_nat (by omega) e
    have en : (Int32.ofNat i).toNatClampNeg = i := i_nat (by omega)
    refine ok_eI m_is ?_
    refine ok_if (fun e2 => ?_) (fun e2 => ?_)
    · have e2' : z < 0 ∨ ¬ z < 6 := (is_nn (n := 6) (by decide) (by decide)).mp (is_z.mp e2)
      exact e_ref V (congrArg (fun r : aR => r.1) ((if_neg e').trans (if_pos e2'))) (by decide)
    · have e2' : ¬ (z < 0 ∨ ¬ z < 6) := fun w => e2 (is_z.mpr ((is_nn (n := 6) (by decide) (by decide)).mpr w))
      obtain ⟨n, rfl, p1, p2⟩ := is_nat (a := 0) (b := 5) (by decide) (by decide) e2
      have es : spOfLoop (Int32.ofNat i) (Int32.ofNat n) (nb, jo, lo, bo, pa, ps, (vl, vr, rs, ya, sc)) = (0, zFact lo[i] (zWhere vl vr rs bo (Int32.ofNat i)) n, (nb, jo, lo, bo, pa, ps, (vl, vr, rs, ya, sc))) := (if_neg e').trans ((if_neg e2').trans (by rw [en, i_nat (show n < 2 ^ 31 by omega), List.getD_eq_getElem?_getD, List.getElem?_eq_getElem hil]; rfl))
      refine w_rc V.wr ?_
      refine ok_cI (m_ofLoopNowE hX hN V hi (by omega) hil (by omega) (by omega)) fun v m2 hh => ?_
      obtain ⟨rfl, V2, S2⟩ := hh
      refine ok_I ⟨g, sum, V2, rfl, rfl, S2, ?_, ?_⟩
      · rw [es]
        exact h0
      · rw [es]
        exact fun _ => rfl
end GA
