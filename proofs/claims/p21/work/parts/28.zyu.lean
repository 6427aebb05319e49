/-! ===== the class exactly: what is asked leaves the contents ===== -/
def wK {α : Type} (R : α → α → Prop) : List α → List α → Prop
  | [], [] => True
  | a :: l, b :: l' => R a b ∧ wK R l l'
  | _, _ => False
theorem wK_len {α : Type} {R : α → α → Prop} : ∀ {l l' : List α}, wK R l l' → l'.length = l.length := by
  intro l
  induction l with
  | nil =>
    intro l' h
    cases l' with
    | nil => rfl
    | cons b l' => exact h.elim
  | cons a l ih =>
    intro l' h
    cases l' with
    | nil => exact h.elim
    | cons b l' => exact congrArg (· + 1) (ih h.2)
theorem wK_at {α : Type} {R : α → α → Prop} : ∀ {l l' : List α} {j : Nat} {b : α}, wK R l l' → l'[j]? = some b → ∃ a, l[j]? = some a ∧ R a b := by
  intro l
  induction l with
  | nil =>
    intro l' j b h hj
    cases l' with
    | nil => cases hj
    | cons b l' => exact h.elim
  | cons a l ih =>
    intro l' j b h hj
    cases l' with
    | nil => exact h.elim
    | cons b' l' =>
      cases j with
      | zero =>
        cases hj
        exact ⟨a, rfl, h.1⟩
      | succ j => exact ih (j := j) h.2 hj
theorem wK_app {α : Type} {R : α → α → Prop} : ∀ {a a' b b' : List α}, wK R a a' → wK R b b' → wK R (a ++ b) (a' ++ b') := by
  intro a
  induction a with
  | nil =>
    intro a' b b' h1 h2
    cases a' with
    | nil => exact h2
    | cons x l => exact h1.elim
  | cons x l ih =>
    intro a' b b' h1 h2
    cases a' with
    | nil => exact h1.elim
    | cons y l' => exact ⟨h1.1, ih h1.2 h2⟩
def wF (t t' : fTy) : Prop := ∀ v, t v → t' v
def wC1 (a b : Nat × cTy) : Prop := a.1 = b.1 ∧ ∀ e, a.2 e → b.2 e
theorem cO_wk {ci : Nat} {ts ts' : List fTy} {e : kE} (he : cO ci ts e) (h : wK wF ts ts') : cO ci ts' e := by
  obtain ⟨fs, rfl, hl, hk⟩ := he
  refine ⟨fs, rfl, hl.trans (wK_len h).symm, fun k t' ht => ?_⟩
  obtain ⟨a, ha, r⟩ := wK_at h ht
  obtain ⟨v, q1, q2⟩ := hk k a ha
  exact ⟨v, q1, r v q2⟩
theorem wF_id {t : fTy} : wF t t := fun _ h => h
theorem wF_EI {x : Int32} : wF (fE x) fI := fun _ h => ⟨x, h⟩
theorem wF_EB {i n : Nat} (h : i ≤ n) : wF (fE (Int32.ofNat i)) (fB n) := fun _ hv => ⟨i, h, hv⟩
theorem tOk.wk {Ts Ts' : kTyL} {A : kSg} (h : tOk Ts A) (w : wK wC1 Ts Ts') : tOk Ts' A := by
  refine ⟨h.1.trans (wK_len w).symm, fun j r t' hj => ?_⟩
  obtain ⟨⟨r0, t⟩, ha, hr, ht⟩ := wK_at w hj
  dsimp only at hr ht
  subst hr
  obtain ⟨e, q1, q2⟩ := h.2 j _ t ha
  exact ⟨e, q1, ht e q2⟩
theorem wK_wE {a : Nat} {st : aS} (h1 : st.1.length ≤ 24) (h2 : st.2.1.length ≤ 24) (h3 : st.2.2.1.length ≤ 9) : wK wC1 (wE a st) (wT a) := by
  have nd : ∀ {b c : Nat} {e : kE}, c ≤ 24 → nE b c e → nT b e := fun hc he => cO_wk he ⟨wF_id, wF_EB hc, trivial⟩
  have pf : ∀ {xs : List Int32} {e : kE}, cPf 24 xs e → cA 24 e := by
    intro xs e he
    obtain ⟨zs, q1, q2⟩ := he
    exact ⟨xs ++ zs, by rw [List.length_append]; exact q1, q2⟩
  refine ⟨⟨rfl, fun e he => cO_wk he ⟨wF_id, wF_id, wF_id, wF_EB h3, wF_EI, wF_EI, wF_EI, wF_EI, wF_EI, wF_EI, trivial⟩⟩, ⟨rfl, fun e he => nd h1 he⟩, ⟨rfl, fun e he => pf he⟩, ⟨rfl, fun e he => nd h2 he⟩, ⟨rfl, fun e he => pf he⟩, ⟨rfl, fun e he => he⟩, ⟨rfl, fun e he => ?_⟩, trivial⟩
  obtain ⟨T, -, q⟩ := he
  exact ⟨_, mapR_len, q⟩
section EV
variable {xm : Nat → Option kE} {mem m0 : kM} {F G : kSg} {S : kO × kM → Prop} {N k nb q cap c0 s0 c1 s1 cap0 n r w b i p d a j : Nat} {jo x y z t : Int32} {lo : List kLf} {bo pa vl vr ya : List Int32} {ps : List aS} {rs : List (List Int32)} {sc : Nat → Int32} {st : aS} {T : Nat → Int32} {h : kHs} {c : aC}
/-- a work's bounds are in its cells -/
theorem wE_bnd {Ts : kTyL} {A : kSg} (hA : tOk Ts A) (W : isWE Ts i a st) : st.1.length ≤ 24 ∧ st.2.1.length ≤ 24 ∧ st.2.2.1.length ≤ 9 := by
  obtain ⟨e, -, zs, q1, -⟩ := hA.2 (i + 2) (a + 2) (cPf 24 st.1) (W 2 (by decide))
  obtain ⟨e', -, zs', q1', -⟩ := hA.2 (i + 4) (a + 4) (cPf 24 st.2.1) (W 4 (by decide))
  obtain ⟨e'', -, T, q2, -⟩ := hA.2 (i + 6) (a + 6) (cRn st.2.2.1) (W 6 (by decide))
  exact ⟨by omega, by omega, q2.1⟩
theorem cE_cT {A : kSg} (h6 : pa.length ≤ 6) (hy : st.2.2.2.1.length = 4) (hb12 : h.2.2.1.length = 12) (hy12 : h.2.2.2.1.length = 12) (hA : tOk (cE nb jo pa st q cap T h) A) : tOk (cT nb q cap) A := by
  have b0 := wE_bnd (i := 3) (a := 1003) hA isWE_now
  have bk : ∀ k, k < 12 → (h.2.2.2.2 k).1.length ≤ 24 ∧ (h.2.2.2.2 k).2.1.length ≤ 24 ∧ (h.2.2.2.2 k).2.2.1.length ≤ 9 := fun k hk => wE_bnd hA (isWE_12 hk)
  have wk : ∀ k a, k < 12 → wK wC1 (wE a (h.2.2.2.2 k)) (wT a) := fun k a hk => wK_wE (bk k hk).1 (bk k hk).2.1 (bk k hk).2.2
  refine hA.wk ?_
  unfold cE cT
  refine wK_app (a := [_, _, _]) ⟨⟨rfl, fun e he => cO_wk he ⟨wF_id, wF_id, wF_id, wF_id, wF_id, wF_id, wF_id, wF_EB h6, trivial⟩⟩, ⟨rfl, fun e he => cO_wk he ⟨wF_id, wF_id, wF_EI, trivial⟩⟩, ⟨rfl, fun e he => ⟨_, hy, he⟩⟩, trivial⟩ ?_
  refine wK_app (wK_wE b0.1 b0.2.1 b0.2.2) ?_
  refine wK_app (a := [_, _, _, _, _, _, _, _, _, _]) ⟨⟨rfl, fun e he => he⟩, ⟨rfl, fun e he => ⟨_, mapR_len, he⟩⟩, ⟨rfl, fun e he => he⟩, ⟨rfl, fun e he => ?_⟩, ⟨rfl, fun e he => he⟩, ⟨rfl, fun e he => ?_⟩, ⟨rfl, fun e he => cO_wk he ⟨wF_id, wF_id, wF_id, wF_EI, wF_EI, trivial⟩⟩, ⟨rfl, fun e he => he⟩, ⟨rfl, fun e he => ⟨_, hb12, he⟩⟩, ⟨rfl, fun e he => ⟨_, hy12, he⟩⟩, trivial⟩ ?_
  · obtain ⟨T, -, q⟩ := he
    exact ⟨_, mapR_len, q⟩
  · obtain ⟨T, -, q⟩ := he
    exact ⟨_, mapR_len, q⟩
  refine wK_app (wk 0 _ (by decide)) (wK_app (wk 1 _ (by decide)) (wK_app (wk 2 _ (by decide)) (wK_app (wk 3 _ (by decide)) (wK_app (wk 4 _ (by decide)) (wK_app (wk 5 _ (by decide)) (wK_app (wk 6 _ (by decide)) (wK_app (wk 7 _ (by decide)) (wK_app (wk 8 _ (by decide)) (wK_app (wk 9 _ (by decide)) (wK_app (wk 10 _ (by decide)) (wK_app (wk 11 _ (by decide)) ?_)))))))))))
  exact ⟨⟨rfl, fun e he => cO_wk he ⟨wF_id, wF_id, wF_id, wF_id, wF_id, trivial⟩⟩, trivial⟩
def aX (xm : Nat → Option kE) (c : aC) (F : kSg) (es : List Nat) (mem : kM) (cap : Nat) : kO × kM → Prop := rX (fun _ m => KC xm c F 1 6 mem cap m) (fun e m => e ∈ es ∧ KC xm c F 1 6 mem cap m)
theorem a_end {es : List Nat} {v : Int32} (D : KC xm c F 0 0 m0 cap0 mem) : dOk (some (.inl (some (.int v)), mem)) (aX xm c F es m0 cap0) := ok_XI (KS.mono D (by omega) (by omega))
theorem a_exn {es : List Nat} {e : Nat} (D : KC xm c F 0 0 m0 cap0 mem) (he : e ∈ es) : dOk (some (.inr e, mem ++ [exn])) (aX xm c F es m0 cap0) := ok_XE ⟨he, KS.app D⟩
theorem HpT.cw (G : HpT (cE nb jo pa (vl, vr, rs, ya, sc) q cap T h) F mem) (hC : ∀ A, tOk (cE nb jo pa (vl, vr, rs, ya, sc) q cap T h) A → tOk (cT nb q cap) A) : HpT (cT nb q cap) F mem := by
  obtain ⟨A, a, b⟩ := G
  exact ⟨A, hC A a, b⟩
theorem KS.cells (hX : kXok xm) (hN : 120 ≤ N) (hY : yNN ya) (D : KS xm nb jo lo bo pa ps (vl, vr, rs, ya, sc) F 0 0 m0 cap0 mem) : ∃ q cap T h, 384 ≤ cap ∧ cap ≤ 119988 ∧ nb ≤ 4 ∧ pa.length ≤ 6 ∧ HpT (cE nb jo pa (vl, vr, rs, ya, sc) q cap T h) F mem ∧ (∀ A, tOk (cE nb jo pa (vl, vr, rs, ya, sc) q cap T h) A → tOk (cT nb q cap) A) ∧ (∀ (c1 s1 : Nat) (m : kM), HpT (cE nb jo pa (vl, vr, rs, ya, sc) q cap T h) F m → St xm mem m c1 s1 → KS xm nb jo lo bo pa ps (vl, vr, rs, ya, sc) F c1 s1 m0 cap0 m) ∧ (∀ (p : Nat) (m : kM), p < pa.length → HpT (cE nb jo pa (vl, vr, rs, ya, sc) q cap T h) F m → dOk (m_K_tryOut xm N 1000 (Int32.ofNat p) m) (rV fun m' => HpT (cE nb jo pa (vl, vr, rs, ya, sc) q cap T h) F m' ∧ St xm m m' 0 0)) := by
  obtain ⟨T, h, I, q, cap, c, s, k1, k2, ⟨hz, H⟩, S1, k3, k4⟩ := D
  have hR := I.2.2.1
  have h6 : pa.length ≤ 6 := I.1.2.2.2.2.1
  have h24 : vl.length + vr.length ≤ 24 := I.1.2.1.2.1
  have hy4 : ya.length = 4 := I.sw.2.2.2.2
  refine ⟨q, cap, T, h, k1, k2, I.nb4, h6, H, fun A hA => cE_cT h6 hy4 hR.2.2.1 hR.2.2.2.1 hA, fun c1 s1 m Hm Sm => ⟨T, h, I, q, cap, c + c1, s + s1, k1, k2, ⟨hz, Hm⟩, S1.trans Sm, by omega, by omega⟩, fun p m hp Hm => ?_⟩
  obtain ⟨v, ev, h1, h2, nz⟩ := I.1.2.2.2.2.2 _ (List.getElem_mem hp)
  have hpe : pa[p]? = some (Int32.ofNat v) := by rw [List.getElem?_eq_getElem hp, ev]
  refine ok_mono (q_tryOut hX hN hpe h1 h2 nz h6 h24 I.jj I.nb4 hy4 (bY_nn hY) Hm) ?_
  rintro r ⟨e1, H2, S2⟩
  refine ⟨e1, ?_, S2⟩
  have H3 := H2.wk (t' := tr (fB 99)) (getQ_lt (x := (1104, tr (fB 99))) rfl) (fun e he => trE_weak (zTry_le 99 0 _) he)
  rw [set_self rfl] at H3
  exact H3
theorem a_ofLoop (hX : kXok xm) (hN : 120 ≤ N) (hY : yNN ya) (D0 : KS xm nb jo lo bo pa ps (vl, vr, rs, ya, sc) F 0 0 m0 cap0 mem) : dOk (m_K_ofLoop xm N 1000 x y mem) (aX xm (nb, jo, lo, bo, pa, ps, (vl, vr, rs, ya, sc)) F [0, 2] m0 cap0) := by
  obtain ⟨q, cap, T, h, h1, h2, hnb, h6, HE, hC, -, -⟩ := D0.cells hX hN hY
  have H := HE.cw hC
  have D := cP.refl (xm := xm) h1 h2 H
  unfold m_K_ofLoop
  refine ok_if (fun _ => ?_) (fun _ => ?_)
  · exact a_exn D0 (by decide)
  · refine d_gR D 0 (fun _ _ => rfl) rfl ?_
    refine d_gI D 3 (fun _ _ => rfl) rfl fun v9 => ?_
    refine ok_if (fun _ => ?_) (fun _ => ?_)
    · refine ok_if (fun _ => ?_) (fun _ => ?_)
      · exact a_exn D0 (by decide)
      · refine ok_if (fun _ => ?_) (fun _ => ?_)
        · refine d_rc D 0 (fun _ _ => ⟨_, rfl⟩) ?_
          refine d_ro D (fun q cap k1 k2 H => ro_ (k_loopFact (by omega) k2 H)) fun v48 hv48 => ?_
          exact a_end D0
        · exact a_exn D0 (by decide)
    · exact a_exn D0 (by decide)
theorem a_ofRun (hX : kXok xm) (hN : 120 ≤ N) (hY : yNN ya) (D0 : KS xm nb jo lo bo pa ps (vl, vr, rs, ya, sc) F 0 0 m0 cap0 mem) : dOk (m_K_ofRun xm N 1000 x y mem) (aX xm (nb, jo, lo, bo, pa, ps, (vl, vr, rs, ya, sc)) F [0, 2] m0 cap0) := by
  obtain ⟨q, cap, T, h, h1, h2, hnb, h6, HE, hC, -, -⟩ := D0.cells hX hN hY
  have H := HE.cw hC
  have D := cP.refl (xm := xm) h1 h2 H
  unfold m_K_ofRun
  refine ok_if (fun _ => ?_) (fun _ => ?_)
  · exact a_exn D0 (by decide)
  · refine d_gR D 0 (fun _ _ => rfl) rfl ?_
    refine d_gB D 3 (fun _ _ => rfl) rfl fun v9 hv9 => ?_
    refine ok_if (fun _ => ?_) (fun _ => ?_)
    · refine ok_if (fun _ => ?_) (fun _ => ?_)
      · exact a_exn D0 (by decide)
      · refine ok_if (fun _ => ?_) (fun _ => ?_)
        · refine d_gR D 0 (fun _ _ => rfl) rfl ?_
          refine d_gR D 3 (fun _ _ => rfl) rfl ?_
          refine d_rc D 8 (fun _ _ => ⟨_, rfl⟩) ?_
          refine d_ro D (fun q cap k1 k2 H => ro_ (w_runGet (i := 3) (a := 1003) H isWk_now)) fun v53 hv53 => ?_
          exact a_end D0
        · exact a_exn D0 (by decide)
    · exact a_exn D0 (by decide)
theorem a_many (hX : kXok xm) (hN : 120 ≤ N) (hY : yNN ya) (D0 : KS xm nb jo lo bo pa ps (vl, vr, rs, ya, sc) F 0 0 m0 cap0 mem) : dOk (m_K_many xm N 1000 x mem) (aX xm (nb, jo, lo, bo, pa, ps, (vl, vr, rs, ya, sc)) F [0] m0 cap0) := by
  obtain ⟨q, cap, T, h, h1, h2, hnb, h6, HE, hC, -, -⟩ := D0.cells hX hN hY
  have H := HE.cw hC
  have D := cP.refl (xm := xm) h1 h2 H
  unfold m_K_many
  refine ok_if (fun _ => ?_) (fun _ => ?_)
  · exact a_exn D0 (by decide)
  · refine ok_if (fun _ => ?_) (fun _ => ?_)
    · refine d_rc D 0 (fun _ _ => ⟨_, rfl⟩) ?_
      refine d_ro D (fun q cap k1 k2 H => ro_ (k_number (by omega) hnb H)) fun v23 hv23 => ?_
      exact a_end D0
    · exact a_exn D0 (by decide)
theorem a_left (hX : kXok xm) (hN : 120 ≤ N) (hY : yNN ya) (D0 : KS xm nb jo lo bo pa ps (vl, vr, rs, ya, sc) F 0 0 m0 cap0 mem) : dOk (m_K_left xm N 1000 x mem) (aX xm (nb, jo, lo, bo, pa, ps, (vl, vr, rs, ya, sc)) F [2] m0 cap0) := by
  obtain ⟨q, cap, T, h, h1, h2, hnb, h6, HE, hC, -, -⟩ := D0.cells hX hN hY
  have H := HE.cw hC
  have D := cP.refl (xm := xm) h1 h2 H
  unfold m_K_left
  refine d_gR D 0 (fun _ _ => rfl) rfl ?_
  refine d_rc D 1 (fun _ _ => ⟨_, rfl⟩) ?_
  refine d_ro D (fun q cap k1 k2 H => b_has (a := 1001) (b := 1002) (nb := nb) (j := 1) H rfl rfl) fun v5 hv5 => ?_
  refine ok_if (fun _ => ?_) (fun _ => ?_)
  · exact a_exn D0 (by decide)
  · refine d_gR D 0 (fun _ _ => rfl) rfl ?_
    refine d_rc D 1 (fun _ _ => ⟨_, rfl⟩) ?_
    refine d_ro D (fun q cap k1 k2 H => ro_ (b_of (a := 1001) (b := 1002) (nb := nb) (j := 1) H rfl rfl)) fun v26 hv26 => ?_
    exact a_end D0
theorem a_ofPattern (hX : kXok xm) (hN : 120 ≤ N) (hY : yNN ya) (D0 : KS xm nb jo lo bo pa ps (vl, vr, rs, ya, sc) F 0 0 m0 cap0 mem) : dOk (m_K_ofPattern xm N 1000 x y mem) (aX xm (nb, jo, lo, bo, pa, ps, (vl, vr, rs, ya, sc)) F [0, 2] m0 cap0) := by
  obtain ⟨q, cap, T, h, h1, h2, hnb, h6, HE, hC, -, -⟩ := D0.cells hX hN hY
  have H := HE.cw hC
  have D := cP.refl (xm := xm) h1 h2 H
  unfold m_K_ofPattern
  refine d_rc D 0 (fun _ _ => ⟨_, rfl⟩) ?_
  refine d_ro D (fun q cap k1 k2 H => ro_ (k_hasPattern H)) fun v2 hv2 => ?_
  refine ok_if (fun _ => ?_) (fun _ => ?_)
  · exact a_exn D0 (by decide)
  · refine ok_if (fun _ => ?_) (fun _ => ?_)
    · exact a_exn D0 (by decide)
    · refine ok_if (fun _ => ?_) (fun _ => ?_)
      · refine d_gR D 0 (fun _ _ => rfl) rfl ?_
        refine d_rc D 12 (fun _ _ => ⟨_, rfl⟩) ?_
        refine d_ro D (fun q cap k1 k2 H => ro_ (tb_get (f := 5) (mr := 6) (n := 30) (j := 12) (b := 1013) (by decide) (by decide) (by decide) H rfl rfl)) fun v44 hv44 => ?_
        exact a_end D0
      · exact a_exn D0 (by decide)
theorem a_on (hX : kXok xm) (hN : 120 ≤ N) (hY : yNN ya) (D0 : KS xm nb jo lo bo pa ps (vl, vr, rs, ya, sc) F 0 0 m0 cap0 mem) : dOk (m_K_on xm N 1000 x y mem) (aX xm (nb, jo, lo, bo, pa, ps, (vl, vr, rs, ya, sc)) F [2] m0 cap0) := by
  obtain ⟨q, cap, T, h, h1, h2, hnb, h6, HE, hC, -, -⟩ := D0.cells hX hN hY
  have H := HE.cw hC
  have D := cP.refl (xm := xm) h1 h2 H
  unfold m_K_on
  refine ok_if (fun _ => a_exn D0 (by decide)) (fun _ => ?_)
  refine ok_if (fun _ => ?_) (fun _ => a_exn D0 (by decide))
  refine t_rc H 0 rfl ?_
  obtain ⟨a, j, hA, e⟩ := k_needle (xm := xm) (N := N) (x := x) H
  refine ok_eR e ?_
  refine t_rc H j hA.nT ?_
  obtain ⟨v, hv⟩ := n_at (xm := xm) (N := N) (x := y) H hA.nT hA.cA
  exact ok_eI hv (a_end D0)
theorem a_would (hX : kXok xm) (hN : 120 ≤ N) (hY : yNN ya) (D0 : KS xm nb jo lo bo pa ps (vl, vr, rs, ya, sc) F 0 0 m0 cap0 mem) : dOk (m_K_would xm N 1000 x mem) (aX xm (nb, jo, lo, bo, pa, ps, (vl, vr, rs, ya, sc)) F [2] m0 cap0) := by
  obtain ⟨q, cap, T, h, h1, h2, hnb, h6, HE, hC, back, hT⟩ := D0.cells hX hN hY
  unfold m_K_would
  refine t_rc HE 0 rfl ?_
  refine ok_eI (q_hasPattern h6 rfl HE) ?_
  by_cases g1 : x < 0
  · rw [if_pos g1, if_pos rfl]
    exact a_exn D0 (by decide)
  · rw [if_neg g1]
    by_cases g2 : x < Int32.ofNat pa.length
    · rw [if_pos g2, if_neg (by decide)]
      obtain ⟨ex, lx⟩ := i_of (Int32.not_lt.mp g1)
      generalize x.toNatClampNeg = p at ex lx
      subst ex
      refine t_rc HE 0 rfl ?_
      refine ok_cV (hT p mem ((i_lt lx (by omega)).mp g2) HE) fun m1 hh => ?_
      obtain ⟨H1, S1⟩ := hh
      refine t_gR H1 0 rfl rfl ?_
      refine t_gI H1 104 rfl rfl fun v27 => ?_
      exact a_end (back 0 0 m1 H1 S1)
    · rw [if_neg g2, if_pos rfl]
      exact a_exn D0 (by decide)
theorem a_needs (hX : kXok xm) (hN : 120 ≤ N) (hY : yNN ya) (D0 : KS xm nb jo lo bo pa ps (vl, vr, rs, ya, sc) F 0 0 m0 cap0 mem) : dOk (m_K_needs xm N 1000 x mem) (aX xm (nb, jo, lo, bo, pa, ps, (vl, vr, rs, ya, sc)) F [2] m0 cap0) := by
  obtain ⟨q, cap, T, h, h1, h2, hnb, h6, HE, hC, back, hT⟩ := D0.cells hX hN hY
  unfold m_K_needs
  refine t_rc HE 0 rfl ?_
  refine ok_eI (q_hasPattern h6 rfl HE) ?_
  by_cases g1 : x < 0
  · rw [if_pos g1, if_pos rfl]
    exact a_exn D0 (by decide)
  · rw [if_neg g1]
    by_cases g2 : x < Int32.ofNat pa.length
    · rw [if_pos g2, if_neg (by decide)]
      obtain ⟨ex, lx⟩ := i_of (Int32.not_lt.mp g1)
      generalize x.toNatClampNeg = p at ex lx
      subst ex
      refine t_rc HE 0 rfl ?_
      refine ok_cV (hT p mem ((i_lt lx (by omega)).mp g2) HE) fun m1 hh => ?_
      obtain ⟨H1, S1⟩ := hh
      refine t_gR H1 0 rfl rfl ?_
      refine t_gI H1 104 rfl rfl fun v27 => ?_
      exact a_end (back 0 0 m1 H1 S1)
    · rw [if_neg g2, if_pos rfl]
      exact a_exn D0 (by decide)
theorem a_width (hX : kXok xm) (hN : 120 ≤ N) (hY : yNN ya) (D0 : KS xm nb jo lo bo pa ps (vl, vr, rs, ya, sc) F 0 0 m0 cap0 mem) : dOk (m_K_width xm N 1000 x mem) (rD fun _ m => KC xm (nb, jo, lo, bo, pa, ps, (vl, vr, rs, ya, sc)) F 0 0 m0 cap0 m) := by
  obtain ⟨q, cap, T, h, h1, h2, hnb, h6, HE, hC, -, -⟩ := D0.cells hX hN hY
  have H := HE.cw hC
  unfold m_K_width
  refine t_rc H 0 rfl ?_
  obtain ⟨a, j, hA, e⟩ := k_needle (xm := xm) (N := N) (x := x) H
  refine ok_eR e ?_
  refine t_rc H 0 rfl ?_
  obtain ⟨v, hv, e⟩ := k_widthOf (xm := xm) (N := N) (by omega) h2 hA H
  refine ok_eF e ?_
  unfold dF64
  rw [if_pos (wf_ok hv).2.1]
  exact ok_D D0
theorem a_seen (hX : kXok xm) (hN : 120 ≤ N) (hY : yNN ya) (D0 : KS xm nb jo lo bo pa ps (vl, vr, rs, ya, sc) F 0 0 m0 cap0 mem) : dOk (m_K_seen xm N 1000 x mem) (rR fun _ m => KC xm (nb, jo, lo, bo, pa, ps, (vl, vr, rs, ya, sc)) F 30 900 m0 cap0 m) := by
  obtain ⟨q, cap, T, h, h1, h2, hnb, h6, HE, hC, back, -⟩ := D0.cells hX hN hY
  have H := HE.cw hC
  obtain ⟨A, tA, HA⟩ := HE
  have tC := hC A tA
  have b0 := wE_bnd (i := 3) (a := 1003) tA isWE_now
  dsimp only at b0
  unfold m_K_seen
  refine t_rc H 0 rfl ?_
  obtain ⟨a, j, hA, e⟩ := k_needle (xm := xm) (N := N) (x := x) H
  refine ok_eR e ?_
  have key : ∃ c, c ≤ 24 ∧ tOk ((cT nb q cap).set j (a, nE (a + 1) c)) A := by
    rcases hA with ⟨rfl, rfl⟩ | ⟨rfl, rfl⟩
    · obtain ⟨e0, q1, q2⟩ := tA.2 4 1004 (nE 1005 vl.length) rfl
      have t4 := tC.set (j := 4) (r := 1004) (t' := nE 1005 vl.length) (e := e0) rfl q2
      rw [set_self q1] at t4
      exact ⟨_, b0.1, t4⟩
    · obtain ⟨e0, q1, q2⟩ := tA.2 6 1006 (nE 1007 vr.length) rfl
      have t4 := tC.set (j := 6) (r := 1006) (t' := nE 1007 vr.length) (e := e0) rfl q2
      rw [set_self q1] at t4
      exact ⟨_, b0.2.1, t4⟩
  obtain ⟨c, hc, t4⟩ := key
  have HS : HpS [A ++ F] mem := by
    unfold HpS
    simpa using HA
  refine os_n xm HS fun m1 p H1 S1 => ?_
  refine ok_cV (sb_new H1) fun m2 hh => ?_
  obtain ⟨b, H2, S2⟩ := hh
  refine ok_mono (k_seen17 (xm := xm) hN h2 hA hc t4 c 0 N b _ m2 (by omega) (by omega) sBy0 H2) ?_
  rintro w ⟨v, g1, g2, g3⟩
  have g2 : Hp [A ++ F].flatten w.2 := g2
  refine ⟨v, g1, KS.mono (back (1 + (1 + (c + 2))) (4 + (16 + (34 * c + 38))) w.2 ⟨A, tA, by simpa using g2⟩ (S1.trans (S2.trans g3))) (by omega) (by omega)⟩
theorem e_best22 (hX : kXok xm) (hN : 100 ≤ N) (h6 : pa.length ≤ 6) (hC : ∀ A, tOk (cE nb jo pa (vl, vr, rs, ya, sc) q cap T h) A → tOk (cT nb q cap) A) (hT : ∀ (p : Nat) (m : kM), p < pa.length → HpT (cE nb jo pa (vl, vr, rs, ya, sc) q cap T h) F m → dOk (m_K_tryOut xm N 1000 (Int32.ofNat p) m) (rV fun m' => HpT (cE nb jo pa (vl, vr, rs, ya, sc) q cap T h) F m' ∧ St xm m m' 0 0)) : ∀ (k d f : Nat) (a1 a2 : Int32) (mem : kM), d + k = 7 → k < f → HpT (cE nb jo pa (vl, vr, rs, ya, sc) q cap T h) F mem → dOk (m_K_bestPattern_22 xm N f 1000 a1 a2 (Int32.ofNat d) mem) (rI fun _ m => HpT (cE nb jo pa (vl, vr, rs, ya, sc) q cap T h) F m ∧ St xm mem m 0 0) := by
  intro k
  induction k with
  | zero =>
    intro d f a1 a2 mem hd hf G
    have H := G.cw hC
    obtain ⟨f, rfl⟩ : ∃ f', f = f' + 1 := ⟨f - 1, by omega⟩
    rw [m_K_bestPattern_22]
    refine t_gE (x := Int32.ofNat pa.length) G 0 rfl rfl ?_
    rw [if_neg (fun z => by have := (i_lt (by omega) (by omega)).mp z; omega)]
    exact ok_I ⟨G, St.refl⟩
  | succ k ih =>
    intro d f a1 a2 mem hd hf G
    have H := G.cw hC
    obtain ⟨f, rfl⟩ : ∃ f', f = f' + 1 := ⟨f - 1, by omega⟩
    rw [m_K_bestPattern_22]
    refine t_gE (x := Int32.ofNat pa.length) G 0 rfl rfl ?_
    refine ok_if (fun gd => ?_) (fun _ => ok_I ⟨G, St.refl⟩)
    have gd := (i_lt (by omega) (by omega)).mp gd
    refine t_rc H 0 rfl ?_
    refine ok_cV (hT d mem gd G) fun m1 hh => ?_
    obtain ⟨G1, S1⟩ := hh
    have H1 := G1.cw hC
    refine t_rc H1 0 rfl ?_
    obtain ⟨v, hv⟩ := k_ends (xm := xm) (N := N) (x := Int32.ofNat d) H1
    refine ok_eI hv ?_
    have go : ∀ x1 x2 : Int32, dOk (m_K_bestPattern_22 xm N f 1000 x1 x2 (Int32.ofNat d + 1) m1) (rI fun _ m => HpT (cE nb jo pa (vl, vr, rs, ya, sc) q cap T h) F m ∧ St xm mem m 0 0) := by
      intro x1 x2
      rw [i_add1]
      refine ok_mono (ih (d + 1) f x1 x2 m1 (by omega) (by omega) G1) ?_
      rintro w ⟨v, q1, q2, q3⟩
      exact ⟨v, q1, q2, (S1.trans q3).mono (by omega) (by omega)⟩
    unfold m_K_bestPattern_59 m_K_bestPattern_69
    refine ok_if (fun _ => go _ _) (fun _ => ?_)
    have g59 : dOk (dGR xm m1 1000 11 6 fun v62 => dGI xm m1 v62 9 3 fun v65 => m_K_bestPattern_22 xm N f 1000 (Int32.ofNat d) v65 (Int32.ofNat d + 1) m1) (rI fun _ m => HpT (cE nb jo pa (vl, vr, rs, ya, sc) q cap T h) F m ∧ St xm mem m 0 0) := by
      refine t_gR H1 0 rfl rfl ?_
      refine t_gI H1 104 rfl rfl fun v65 => ?_
      exact go _ _
    refine ok_if (fun _ => g59) (fun _ => ?_)
    refine t_gR H1 0 rfl rfl ?_
    refine t_gI H1 104 rfl rfl fun v52 => ?_
    exact ok_if (fun _ => g59) (fun _ => go _ _)
theorem e_best (hX : kXok xm) (hN : 100 ≤ N) (h6 : pa.length ≤ 6) (hC : ∀ A, tOk (cE nb jo pa (vl, vr, rs, ya, sc) q cap T h) A → tOk (cT nb q cap) A) (hT : ∀ (p : Nat) (m : kM), p < pa.length → HpT (cE nb jo pa (vl, vr, rs, ya, sc) q cap T h) F m → dOk (m_K_tryOut xm N 1000 (Int32.ofNat p) m) (rV fun m' => HpT (cE nb jo pa (vl, vr, rs, ya, sc) q cap T h) F m' ∧ St xm m m' 0 0)) (G : HpT (cE nb jo pa (vl, vr, rs, ya, sc) q cap T h) F mem) : dOk (m_K_bestPattern xm N 1000 mem) (rI fun _ m => HpT (cE nb jo pa (vl, vr, rs, ya, sc) q cap T h) F m ∧ St xm mem m 0 0) := by
  have H := G.cw hC
  unfold m_K_bestPattern
  refine t_gR H 0 rfl rfl ?_
  refine t_gR H 3 rfl rfl ?_
  refine t_gB H 4 rfl rfl fun c hc => ?_
  refine ok_if (fun _ => ok_I ⟨G, St.refl⟩) (fun _ => ?_)
  exact e_best22 hX hN h6 hC hT 7 0 N (-1) 0 mem (by omega) (by omega) G
theorem e_mP5 (hX : kXok xm) (hN : 100 ≤ N) (h6 : pa.length ≤ 6) (hC : ∀ A, tOk (cE nb jo pa (vl, vr, rs, ya, sc) q cap T h) A → tOk (cT nb q cap) A) (hT : ∀ (p : Nat) (m : kM), p < pa.length → HpT (cE nb jo pa (vl, vr, rs, ya, sc) q cap T h) F m → dOk (m_K_tryOut xm N 1000 (Int32.ofNat p) m) (rV fun m' => HpT (cE nb jo pa (vl, vr, rs, ya, sc) q cap T h) F m' ∧ St xm m m' 0 0)) : ∀ (k d g : Nat) (w : Int64) (mem : kM), d + k = 7 → k < g → HpT (cE nb jo pa (vl, vr, rs, ya, sc) q cap T h) F mem → dOk (m_K_mixedPatterns_5 xm N g 1000 w (Int32.ofNat d) mem) (rJ fun _ m => HpT (cE nb jo pa (vl, vr, rs, ya, sc) q cap T h) F m ∧ St xm mem m 0 0) := by
  intro k
  induction k with
  | zero =>
    intro d g w mem hd hg G
    have H := G.cw hC
    obtain ⟨g, rfl⟩ : ∃ f', g = f' + 1 := ⟨g - 1, by omega⟩
    rw [m_K_mixedPatterns_5]
    refine t_gE (x := Int32.ofNat pa.length) G 0 rfl rfl ?_
    rw [if_neg (fun z => by have := (i_lt (by omega) (by omega)).mp z; omega)]
    exact ok_J ⟨G, St.refl⟩
  | succ k ih =>
    intro d g w mem hd hg G
    have H := G.cw hC
    obtain ⟨g, rfl⟩ : ∃ f', g = f' + 1 := ⟨g - 1, by omega⟩
    rw [m_K_mixedPatterns_5]
    refine t_gE (x := Int32.ofNat pa.length) G 0 rfl rfl ?_
    refine ok_if (fun gd => ?_) (fun _ => ok_J ⟨G, St.refl⟩)
    have gd := (i_lt (by omega) (by omega)).mp gd
    refine t_gR H 0 rfl rfl ?_
    obtain ⟨v, hv⟩ := k_mixedRow (xm := xm) (N := N) (d := w) (x := Int32.ofNat d) (n := 5) (f := 5) (mr := 6) (n0 := 30) (j := 12) (a := 1012) (b := 1013) (by decide) (by decide) (by decide) H rfl rfl (by decide) (by omega)
    refine ok_eJ (show m_K_mixedRow xm N w 1012 (Int32.ofNat d) 5 mem = _ from hv) ?_
    refine t_rc H 0 rfl ?_
    refine ok_cV (hT d mem gd G) fun m1 hh => ?_
    obtain ⟨G1, S1⟩ := hh
    have H1 := G1.cw hC
    refine t_gR H1 0 rfl rfl ?_
    refine t_gI H1 104 rfl rfl fun v37 => ?_
    refine ok_eJ (show m_K_mixed xm N v (Int32.toInt64 v37) m1 = some (.inl (some (.long ((v * 31) + Int32.toInt64 v37))), m1) from rfl) ?_
    refine t_gR H1 0 rfl rfl ?_
    refine t_gI H1 104 rfl rfl fun v50 => ?_
    refine ok_eJ (show m_K_mixed xm N (v * 31 + Int32.toInt64 v37) (Int32.toInt64 v50) m1 = some (.inl (some (.long (((v * 31 + Int32.toInt64 v37) * 31) + Int32.toInt64 v50))), m1) from rfl) ?_
    rw [i_add1]
    refine ok_mono (ih (d + 1) g _ m1 (by omega) (by omega) G1) ?_
    rintro w ⟨v, q1, q2, q3⟩
    exact ⟨v, q1, q2, (S1.trans q3).mono (by omega) (by omega)⟩
theorem e_digest132 (hX : kXok xm) (hN : 100 ≤ N) (h6 : pa.length ≤ 6) (hC : ∀ A, tOk (cE nb jo pa (vl, vr, rs, ya, sc) q cap T h) A → tOk (cT nb q cap) A) (hT : ∀ (p : Nat) (m : kM), p < pa.length → HpT (cE nb jo pa (vl, vr, rs, ya, sc) q cap T h) F m → dOk (m_K_tryOut xm N 1000 (Int32.ofNat p) m) (rV fun m' => HpT (cE nb jo pa (vl, vr, rs, ya, sc) q cap T h) F m' ∧ St xm m m' 0 0)) (G : HpT (cE nb jo pa (vl, vr, rs, ya, sc) q cap T h) F mem) : ∀ (k d g : Nat) (w : Int64), d + k = 10 → k < g → dOk (m_K_digest_132 xm N g 1000 w (Int32.ofNat d) mem) (rJ fun _ m => HpT (cE nb jo pa (vl, vr, rs, ya, sc) q cap T h) F m ∧ St xm mem m 0 0) := by
  have H := G.cw hC
  have last : ∀ w : Int64, dOk (dRc xm mem 1000 11 <| dCJ (m_K_mixedPatterns xm N 1000 w mem) fun v165 m165 => dRc xm m165 1000 11 <| dCI (m_K_bestPattern xm N 1000 m165) fun v171 m171 => dCJ (m_K_mixed xm N v165 (Int32.toInt64 v171) m171) fun v175 m175 => some (.inl (some (.long v175)), m175)) (rJ fun _ m => HpT (cE nb jo pa (vl, vr, rs, ya, sc) q cap T h) F m ∧ St xm mem m 0 0) := by
    intro w
    refine t_rc H 0 rfl ?_
    refine ok_cJ (show dOk (m_K_mixedPatterns xm N 1000 w mem) _ from e_mP5 hX hN h6 hC hT 7 0 N w mem (by omega) (by omega) G) fun v m1 hh => ?_
    obtain ⟨H1, S1⟩ := hh
    refine t_rc H1 0 rfl ?_
    refine ok_cI (e_best hX hN h6 hC hT H1) fun v2 m2 hh => ?_
    obtain ⟨H2, S2⟩ := hh
    refine ok_eJ (show m_K_mixed xm N v (Int32.toInt64 v2) m2 = some (.inl (some (.long ((v * 31) + Int32.toInt64 v2))), m2) from rfl) ?_
    exact ok_J ⟨H2, S1.trans S2⟩
  intro k
  induction k with
  | zero =>
    intro d g w hd hg
    obtain ⟨g, rfl⟩ : ∃ f', g = f' + 1 := ⟨g - 1, by omega⟩
    rw [m_K_digest_132]
    refine t_gR H 0 rfl rfl ?_
    refine t_gB H 3 rfl rfl fun c hc => ?_
    rw [if_neg (fun z => by have := (i_lt (by omega) (by omega)).mp z; omega)]
    exact last w
  | succ k ih =>
    intro d g w hd hg
    obtain ⟨g, rfl⟩ : ∃ f', g = f' + 1 := ⟨g - 1, by omega⟩
    rw [m_K_digest_132]
    refine t_gR H 0 rfl rfl ?_
    refine t_gB H 3 rfl rfl fun c hc => ?_
    refine ok_if (fun _ => ?_) (fun _ => last w)
    refine t_gR H 0 rfl rfl ?_
    refine t_gR H 3 rfl rfl ?_
    obtain ⟨v, hv⟩ := k_mixedRow (xm := xm) (N := N) (d := w) (x := Int32.ofNat d) (n := 4) (f := 4) (mr := 9) (n0 := 36) (j := 8) (a := 1008) (b := 1009) (by decide) (by decide) (by decide) H rfl rfl (by decide) (by omega)
    refine ok_eJ (show m_K_mixedRow xm N w 1008 (Int32.ofNat d) 4 mem = _ from hv) ?_
    rw [i_add1]
    exact ih (d + 1) g v (by omega) (by omega)
theorem e_digest31 (hX : kXok xm) (hN : 100 ≤ N) (h6 : pa.length ≤ 6) (hC : ∀ A, tOk (cE nb jo pa (vl, vr, rs, ya, sc) q cap T h) A → tOk (cT nb q cap) A) (hT : ∀ (p : Nat) (m : kM), p < pa.length → HpT (cE nb jo pa (vl, vr, rs, ya, sc) q cap T h) F m → dOk (m_K_tryOut xm N 1000 (Int32.ofNat p) m) (rV fun m' => HpT (cE nb jo pa (vl, vr, rs, ya, sc) q cap T h) F m' ∧ St xm m m' 0 0)) (h2 : cap ≤ 119988) (hnb : nb ≤ 4) (G : HpT (cE nb jo pa (vl, vr, rs, ya, sc) q cap T h) F mem) : ∀ (k d g : Nat) (w : Int64), d + k = nb → k < g → dOk (m_K_digest_31 xm N g 1000 w (Int32.ofNat d) mem) (rJ fun _ m => HpT (cE nb jo pa (vl, vr, rs, ya, sc) q cap T h) F m ∧ St xm mem m 0 0) := by
  have H := G.cw hC
  intro k
  induction k with
  | zero =>
    intro d g w hd hg
    obtain ⟨g, rfl⟩ : ∃ f', g = f' + 1 := ⟨g - 1, by omega⟩
    rw [m_K_digest_31]
    refine t_gR H 0 rfl rfl ?_
    refine t_gE H 1 rfl rfl ?_
    rw [if_neg (fun z => by have := (i_lt (by omega) (by omega)).mp z; omega)]
    have n4 : isNd 1004 4 := Or.inl ⟨rfl, rfl⟩
    have n6 : isNd 1006 6 := Or.inr ⟨rfl, rfl⟩
    refine t_gR H 0 rfl rfl ?_
    refine t_gR H 3 rfl rfl ?_
    refine t_rc H 0 rfl ?_
    obtain ⟨v1, e1⟩ := k_mixedLoops (xm := xm) (N := N) (d := w) (by omega) h2 H n4
    refine ok_eJ e1 ?_
    refine t_gR H 0 rfl rfl ?_
    refine t_gR H 3 rfl rfl ?_
    refine t_rc H 0 rfl ?_
    obtain ⟨v2, e2⟩ := k_mixedLoops (xm := xm) (N := N) (d := v1) (by omega) h2 H n6
    refine ok_eJ e2 ?_
    refine t_gR H 0 rfl rfl ?_
    refine t_gR H 3 rfl rfl ?_
    refine t_rc H 0 rfl ?_
    obtain ⟨v3, h3, e3⟩ := k_widthOf (xm := xm) (N := N) (by omega) h2 n4 H
    refine ok_eF e3 ?_
    unfold dF32
    rw [if_pos (wf_ok h3).2.2.1]
    refine ok_eJ rfl ?_
    refine t_gR H 0 rfl rfl ?_
    refine t_gR H 3 rfl rfl ?_
    refine t_rc H 0 rfl ?_
    obtain ⟨v4, h4, e4⟩ := k_widthOf (xm := xm) (N := N) (by omega) h2 n6 H
    refine ok_eF e4 ?_
    rw [if_pos (wf_ok h4).2.2.1]
    refine ok_eJ rfl ?_
    exact e_digest132 hX hN h6 hC hT G 10 0 N _ (by omega) (by omega)
  | succ k ih =>
    intro d g w hd hg
    obtain ⟨g, rfl⟩ : ∃ f', g = f' + 1 := ⟨g - 1, by omega⟩
    rw [m_K_digest_31]
    refine t_gR H 0 rfl rfl ?_
    refine t_gE H 1 rfl rfl ?_
    rw [if_pos ((i_lt (by omega) (by omega)).mpr (by omega))]
    refine t_gR H 0 rfl rfl ?_
    refine t_rc H 1 rfl ?_
    obtain ⟨u, hu⟩ := b_of (xm := xm) (N := N) (x := Int32.ofNat d) (nb := nb) (j := 1) (b := 1002) H rfl rfl
    refine ok_eI hu ?_
    refine ok_eJ (show m_K_mixed xm N w (Int32.toInt64 u) mem = some (.inl (some (.long ((w * 31) + Int32.toInt64 u))), mem) from rfl) ?_
    rw [i_add1]
    exact ih (d + 1) g _ (by omega) (by omega)
theorem e_digest6 (hX : kXok xm) (hN : 100 ≤ N) (h6 : pa.length ≤ 6) (hC : ∀ A, tOk (cE nb jo pa (vl, vr, rs, ya, sc) q cap T h) A → tOk (cT nb q cap) A) (hT : ∀ (p : Nat) (m : kM), p < pa.length → HpT (cE nb jo pa (vl, vr, rs, ya, sc) q cap T h) F m → dOk (m_K_tryOut xm N 1000 (Int32.ofNat p) m) (rV fun m' => HpT (cE nb jo pa (vl, vr, rs, ya, sc) q cap T h) F m' ∧ St xm m m' 0 0)) (h2 : cap ≤ 119988) (hnb : nb ≤ 4) (G : HpT (cE nb jo pa (vl, vr, rs, ya, sc) q cap T h) F mem) : ∀ (k d g : Nat) (w : Int64), d + k = 16 → k < g → dOk (m_K_digest_6 xm N g 1000 w (Int32.ofNat d) mem) (rJ fun _ m => HpT (cE nb jo pa (vl, vr, rs, ya, sc) q cap T h) F m ∧ St xm mem m 0 0) := by
  have H := G.cw hC
  intro k
  induction k with
  | zero =>
    intro d g w hd hg
    obtain ⟨g, rfl⟩ : ∃ f', g = f' + 1 := ⟨g - 1, by omega⟩
    rw [m_K_digest_6, if_neg (fun z => by have := (i_lt (a := d) (b := 16) (by omega) (by omega)).mp z; omega)]
    exact e_digest31 hX hN h6 hC hT h2 hnb G nb 0 N w (by omega) (by omega)
  | succ k ih =>
    intro d g w hd hg
    obtain ⟨g, rfl⟩ : ∃ f', g = f' + 1 := ⟨g - 1, by omega⟩
    rw [m_K_digest_6, if_pos (show Int32.ofNat d < 16 from (i_lt (a := d) (b := 16) (by omega) (by omega)).mpr (by omega))]
    refine t_rc H 0 rfl ?_
    obtain ⟨u, hu⟩ := k_number (xm := xm) (N := N) (x := Int32.ofNat d) (by omega) hnb H
    refine ok_eI hu ?_
    refine ok_eJ (show m_K_mixed xm N w (Int32.toInt64 u) mem = some (.inl (some (.long ((w * 31) + Int32.toInt64 u))), mem) from rfl) ?_
    rw [i_add1]
    exact ih (d + 1) g _ (by omega) (by omega)
theorem a_best (hX : kXok xm) (hN : 120 ≤ N) (hY : yNN ya) (D0 : KS xm nb jo lo bo pa ps (vl, vr, rs, ya, sc) F 0 0 m0 cap0 mem) : dOk (m_K_best xm N 1000 mem) (rI fun _ m => KC xm (nb, jo, lo, bo, pa, ps, (vl, vr, rs, ya, sc)) F 0 0 m0 cap0 m) := by
  obtain ⟨q, cap, T, h, h1, h2, hnb, h6, HE, hC, back, hT⟩ := D0.cells hX hN hY
  unfold m_K_best
  refine t_rc HE 0 rfl ?_
  exact ok_cI (e_best hX (by omega) h6 hC hT HE) fun v m hh => ok_I (back 0 0 m hh.1 hh.2)
theorem a_digest (hX : kXok xm) (hN : 120 ≤ N) (hY : yNN ya) (D0 : KS xm nb jo lo bo pa ps (vl, vr, rs, ya, sc) F 0 0 m0 cap0 mem) : dOk (m_K_digest xm N 1000 mem) (rJ fun _ m => KC xm (nb, jo, lo, bo, pa, ps, (vl, vr, rs, ya, sc)) F 0 0 m0 cap0 m) := by
  obtain ⟨q, cap, T, h, h1, h2, hnb, h6, HE, hC, back, hT⟩ := D0.cells hX hN hY
  refine ok_mono (show dOk (m_K_digest xm N 1000 mem) _ from e_digest6 hX (by omega) h6 hC hT h2 hnb HE 16 0 N 58309 (by omega) (by omega)) ?_
  rintro w ⟨v, g1, g2, g3⟩
  exact ⟨v, g1, back 0 0 _ g2 g3⟩
end EV
