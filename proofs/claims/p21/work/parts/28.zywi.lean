/-! ===== what is asked, exactly: best ===== -/
def zT (jo : Int32) (pa vl vr ya : List Int32) (i : Nat) : aT × Nat := zTry (pa.getD i 0).toNatClampNeg 99 0 (vl.length, vl.length + vr.length, bY jo ya, 0)
/-- whether a trial ends as it should -/
def zEnds (jo : Int32) (pa vl vr ya : List Int32) (i : Nat) : Bool := decide ((zT jo pa vl vr ya i).1.1 = 0 ∧ 0 < (zT jo pa vl vr ya i).2 ∧ (zT jo pa vl vr ya i).2 % pLen (pa.getD i 0).toNatClampNeg = 0)
def zSpent (jo : Int32) (pa vl vr ya : List Int32) (i : Nat) : Int32 := (zT jo pa vl vr ya i).1.2.2.2
def zBestF (E : Nat → Bool) (Sp : Nat → Int32) : Nat → Nat → Int32 → Int32
  | 0, _, b => b
  | k + 1, d, b => zBestF E Sp k (d + 1) (if E d = true ∧ (b = -1 ∨ Sp d < Sp b.toNatClampNeg) then Int32.ofNat d else b)
def zBest (jo : Int32) (pa vl vr ya : List Int32) : Int32 := zBestF (zEnds jo pa vl vr ya) (zSpent jo pa vl vr ya) pa.length 0 (-1)
theorem i_ne0 {a : Nat} (ha : a < 2 ^ 31) (h : ¬ a = 0) : ¬ Int32.ofNat a = 0 := fun z => h ((i_eq (b := 0) ha (by decide)).mp z)
theorem zTry_ge {v : Nat} : ∀ (k d : Nat) (w : aT), d ≤ (zTry v k d w).2 := by
  intro k
  induction k with
  | zero => intro d w; exact Nat.le_refl _
  | succ k ih =>
    intro d w
    unfold zTry
    split
    · exact Nat.le_refl _
    · split
      · exact Nat.le_trans (Nat.le_succ d) (ih (d + 1) _)
      · exact Nat.le_refl _
theorem zTry_l {v : Nat} : ∀ (k d : Nat) (w : aT), (zTry v k d w).1.1 ≤ w.1 := by
  intro k
  induction k with
  | zero => intro d w; exact Nat.le_refl _
  | succ k ih =>
    intro d w
    unfold zTry
    split
    · exact Nat.le_refl _
    · split
      · exact Nat.le_trans (ih (d + 1) _) (Nat.sub_le _ _)
      · exact Nat.le_refl _
theorem zTry_pos {v : Nat} {k d : Nat} {w : aT} (hw : w.1 ≠ 0) (h : (zTry v k d w).1.1 = 0) : d < (zTry v k d w).2 := by
  cases k with
  | zero => exact absurd h hw
  | succ k =>
    unfold zTry at h ⊢
    rw [if_neg hw] at h ⊢
    split at h
    · rename_i g
      rw [if_pos g]
      exact zTry_ge k (d + 1) _
    · exact absurd h hw
theorem zBestF_none {E : Nat → Bool} {Sp : Nat → Int32} (h : ∀ i, E i = false) : ∀ (k d : Nat) (b : Int32), zBestF E Sp k d b = b := by
  intro k
  induction k with
  | zero => intro d b; rfl
  | succ k ih =>
    intro d b
    show zBestF E Sp k (d + 1) _ = b
    rw [ih, if_neg (fun z => by rw [h d] at z; exact absurd z.1 (by decide))]
section GD
variable {xm : Nat → Option kE} {mem m0 : kM} {F X : kSg} {N k nb c0 s0 c1 s1 cap0 n M0 C S q cap i a j p t ck : Nat} {jo x y z v tt : Int32} {lo : List kLf} {bo pa vl vr ya vs : List Int32} {ps : List aS} {rs : List (List Int32)} {sc : Nat → Int32} {st : aS} {T : Nat → Int32} {h : kHs} {sp : aR} {L B P Q : kLi} {s y0 : Nat} {l r u : kLi} {cs : List kCs} {c : kCs} {g : Nat → Int32} {sum : Int64} {w : aT}
theorem q_ends {v : Nat} (hp : pa[p]? = some (Int32.ofNat v)) (h1 : 1 ≤ v) (h2 : v ≤ 999999999) (h6 : pa.length ≤ 6) (hw : w.1 < 2 ^ 31) (ht : t < 2 ^ 31) (H : HpT ((cE nb jo pa (vl, vr, rs, ya, sc) q cap T h).set 104 (1104, trE w t)) F mem) : m_K_endsWhole xm N 1000 (Int32.ofNat p) mem = some (.inl (some (.int (if w.1 = 0 ∧ t % pLen v = 0 then 1 else 0))), mem) := by
  have hp6 : p < 6 := by
    have := getQ_lt hp
    omega
  obtain ⟨l1, l2, l3, l4⟩ := pLen_ok h1 h2
  obtain ⟨Tp, hTp, H1⟩ := HpT.pinG (P := fun T => ptRel T pa) H 13 rfl
  have e1 := tE_get (xm := xm) (N := N) (f := 5) (mr := 6) (r := p) (w := 1) (n := 30) (a := 1012) (b := 1013) (j := 12) (by decide) (by decide) hp6 (by decide) (by decide) (fun c h1 h2 => absurd h1 (by omega)) H1 rfl rfl
  rw [hTp p _ hp 1 (by decide), pInf_of (by omega), if_neg (by decide), if_pos rfl] at e1
  refine ok_eq ?_
  unfold m_K_endsWhole
  refine t_gR H 0 rfl rfl ?_
  refine t_rc H 12 rfl ?_
  refine ok_eI e1 ?_
  rw [if_pos ((i_pos (by omega)).mpr (by omega))]
  refine t_gR H 0 rfl rfl ?_
  refine t_gE (x := Int32.ofNat w.1) H 104 rfl rfl ?_
  by_cases g1 : w.1 = 0
  · rw [if_pos (show Int32.ofNat w.1 = 0 by rw [g1]; rfl)]
    refine t_gR H 0 rfl rfl ?_
    refine t_gE (x := Int32.ofNat t) H 104 rfl rfl ?_
    refine ok_nz (fun z => by have := (i_eq (b := 0) (by omega) (by decide)).mp z; omega) ?_
    rw [i_modL ht l1 l2]
    have hm : t % pLen v < pLen v := Nat.mod_lt _ l1
    by_cases g2 : t % pLen v = 0
    · rw [if_pos (show Int32.ofNat (t % pLen v) = 0 by rw [g2]; rfl), if_pos ⟨g1, g2⟩]
      exact ok_me
    · rw [if_neg (i_ne0 (by omega) g2), if_neg (fun z => g2 z.2)]
      exact ok_me
  · rw [if_neg (i_ne0 hw g1), if_neg (fun z => g1 z.1)]
    exact ok_me
/-- a trial, its cell told -/
theorem q_tryE (hX : kXok xm) (hN : 120 ≤ N) (hY : yNN ya) (I : INV nb jo lo bo pa ps (vl, vr, rs, ya, sc) T h) (hp : p < pa.length) (H : HpT (cE nb jo pa (vl, vr, rs, ya, sc) q cap T h) F mem) : dOk (m_K_tryOut xm N 1000 (Int32.ofNat p) mem) (rV fun m => HpT ((cE nb jo pa (vl, vr, rs, ya, sc) q cap T h).set 104 (1104, trE (zT jo pa vl vr ya p).1 (zT jo pa vl vr ya p).2)) F m ∧ HpT (cE nb jo pa (vl, vr, rs, ya, sc) q cap T h) F m ∧ St xm mem m 0 0) := by
  have h6 : pa.length ≤ 6 := I.1.2.2.2.2.1
  have h24 : vl.length + vr.length ≤ 24 := I.1.2.1.2.1
  obtain ⟨v, ev, h1, h2, nz⟩ := I.1.2.2.2.2.2 _ (List.getElem_mem hp)
  have hpe : pa[p]? = some (Int32.ofNat v) := by rw [List.getElem?_eq_getElem hp, ev]
  have hpd : (pa.getD p 0).toNatClampNeg = v := by
    rw [List.getD_eq_getElem?_getD, hpe]
    exact i_nat (by omega)
  refine ok_mono (q_tryOut hX hN hpe h1 h2 nz h6 h24 I.jj I.nb4 I.sw.2.2.2.2 (bY_nn hY) H) ?_
  rintro r ⟨e1, H2, S2⟩
  have H3 := H2.wk (t' := tr (fB 99)) (getQ_lt (x := (1104, tr (fB 99))) rfl) (fun e he => trE_weak (zTry_le 99 0 _) he)
  rw [set_self rfl] at H3
  refine ⟨e1, ?_, H3, S2⟩
  unfold zT
  rw [hpd]
  exact H2
theorem q_best22 (hX : kXok xm) (hN : 120 ≤ N) (hY : yNN ya) (I : INV nb jo lo bo pa ps (vl, vr, rs, ya, sc) T h) (h0 : vl.length ≠ 0) : ∀ (k d f : Nat) (b a2 : Int32) (mem : kM), d + k = pa.length → k < f → (b = -1 ∨ ∃ i : Nat, b = Int32.ofNat i ∧ i < pa.length ∧ a2 = zSpent jo pa vl vr ya i) → HpT (cE nb jo pa (vl, vr, rs, ya, sc) q cap T h) F mem → dOk (m_K_bestPattern_22 xm N f 1000 b a2 (Int32.ofNat d) mem) (rI fun v m => v = zBestF (zEnds jo pa vl vr ya) (zSpent jo pa vl vr ya) k d b ∧ HpT (cE nb jo pa (vl, vr, rs, ya, sc) q cap T h) F m ∧ St xm mem m 0 0) := by
  have h6 : pa.length ≤ 6 := I.1.2.2.2.2.1
  have h24 : vl.length + vr.length ≤ 24 := I.1.2.1.2.1
  intro k
  induction k with
  | zero =>
    intro d f b a2 mem hd hf hb G
    obtain ⟨f, rfl⟩ : ∃ f', f = f' + 1 := ⟨f - 1, by omega⟩
    rw [m_K_bestPattern_22]
    refine t_gE (x := Int32.ofNat pa.length) G 0 rfl rfl ?_
    rw [if_neg (fun z => by have := (i_lt (by omega) (by omega)).mp z; omega)]
    exact ok_I ⟨rfl, G, St.refl⟩
  | succ k ih =>
    intro d f b a2 mem hd hf hb G
    obtain ⟨f, rfl⟩ : ∃ f', f = f' + 1 := ⟨f - 1, by omega⟩
    have hdp : d < pa.length := by omega
    obtain ⟨v, ev, h1, h2, nz⟩ := I.1.2.2.2.2.2 _ (List.getElem_mem hdp)
    have hpe : pa[d]? = some (Int32.ofNat v) := by rw [List.getElem?_eq_getElem hdp, ev]
    have hpd : (pa.getD d 0).toNatClampNeg = v := by
      rw [List.getD_eq_getElem?_getD, hpe]
      exact i_nat (by omega)
    have b1 : (zT jo pa vl vr ya d).1.1 ≤ vl.length := zTry_l 99 0 _
    have b2 : (zT jo pa vl vr ya d).2 ≤ 0 + 99 := zTry_le 99 0 _
    have en : zEnds jo pa vl vr ya d = decide ((zT jo pa vl vr ya d).1.1 = 0 ∧ (zT jo pa vl vr ya d).2 % pLen v = 0) := by
      unfold zEnds
      rw [hpd]
      apply decide_eq_decide.mpr
      constructor
      · exact fun z => ⟨z.1, z.2.2⟩
      · exact fun z => ⟨z.1, zTry_pos (w := (vl.length, vl.length + vr.length, bY jo ya, 0)) h0 z.1, z.2⟩
    rw [m_K_bestPattern_22]
    refine t_gE (x := Int32.ofNat pa.length) G 0 rfl rfl ?_
    rw [if_pos ((i_lt (by omega) (by omega)).mpr hdp)]
    refine t_rc G 0 rfl ?_
    refine ok_cV (q_tryE hX hN hY I hdp G) fun m1 hh => ?_
    obtain ⟨H1, G1, S1⟩ := hh
    refine t_rc G1 0 rfl ?_
    refine ok_eI (q_ends hpe h1 h2 h6 (by omega) (by omega) H1) ?_
    have go : ∀ b' x2 : Int32, (b' = -1 ∨ ∃ i : Nat, b' = Int32.ofNat i ∧ i < pa.length ∧ x2 = zSpent jo pa vl vr ya i) → b' = (if zEnds jo pa vl vr ya d = true ∧ (b = -1 ∨ zSpent jo pa vl vr ya d < zSpent jo pa vl vr ya b.toNatClampNeg) then Int32.ofNat d else b) → dOk (m_K_bestPattern_22 xm N f 1000 b' x2 (Int32.ofNat d + 1) m1) (rI fun v m => v = zBestF (zEnds jo pa vl vr ya) (zSpent jo pa vl vr ya) (k + 1) d b ∧ HpT (cE nb jo pa (vl, vr, rs, ya, sc) q cap T h) F m ∧ St xm mem m 0 0) := by
      intro b' x2 hb' eb
      rw [i_add1]
      refine ok_mono (ih (d + 1) f b' x2 m1 (by omega) (by omega) hb' G1) ?_
      rintro w ⟨v, q1, q0, q2, q3⟩
      refine ⟨v, q1, ?_, q2, (S1.trans q3).mono (by omega) (by omega)⟩
      rw [q0, eb]
      rfl
    unfold m_K_bestPattern_59 m_K_bestPattern_69
    by_cases gE : (zT jo pa vl vr ya d).1.1 = 0 ∧ (zT jo pa vl vr ya d).2 % pLen v = 0
    · rw [if_pos gE, if_neg (show ¬ ((1 : Int32) = 0) by decide)]
      have eE : zEnds jo pa vl vr ya d = true := en.trans (decide_eq_true gE)
      have take : (b = -1 ∨ zSpent jo pa vl vr ya d < zSpent jo pa vl vr ya b.toNatClampNeg) → dOk (dGR xm m1 1000 11 6 fun v62 => dGI xm m1 v62 9 3 fun v65 => m_K_bestPattern_22 xm N f 1000 (Int32.ofNat d) v65 (Int32.ofNat d + 1) m1) (rI fun v m => v = zBestF (zEnds jo pa vl vr ya) (zSpent jo pa vl vr ya) (k + 1) d b ∧ HpT (cE nb jo pa (vl, vr, rs, ya, sc) q cap T h) F m ∧ St xm mem m 0 0) := by
        intro hc
        refine t_gR H1 0 rfl rfl ?_
        refine t_gE (x := (zT jo pa vl vr ya d).1.2.2.2) H1 104 rfl rfl ?_
        exact go _ _ (Or.inr ⟨d, rfl, hdp, rfl⟩) (if_pos ⟨eE, hc⟩).symm
      refine ok_if (fun e => take (Or.inl e)) (fun e => ?_)
      obtain ⟨i, rfl, hi, rfl⟩ := hb.resolve_left e
      have ei : (Int32.ofNat i).toNatClampNeg = i := i_nat (by omega)
      rw [ei] at take go
      refine t_gR H1 0 rfl rfl ?_
      refine t_gE (x := (zT jo pa vl vr ya d).1.2.2.2) H1 104 rfl rfl ?_
      refine ok_if (fun e2 => take (Or.inr e2)) (fun e2 => ?_)
      exact go _ _ (Or.inr ⟨i, rfl, hi, rfl⟩) (if_neg (fun z => z.2.elim e e2)).symm
    · rw [if_neg gE, if_pos rfl]
      have eE : zEnds jo pa vl vr ya d = false := en.trans (decide_eq_false gE)
      exact go _ _ hb (if_neg (fun z => by rw [eE] at z; exact absurd z.1 (by decide))).symm
theorem zEnds_0 (h0 : vl.length = 0) (i : Nat) : zEnds jo pa vl vr ya i = false := by
  unfold zEnds
  apply decide_eq_false
  rintro ⟨-, z, -⟩
  have e : (zT jo pa vl vr ya i).2 = 0 := by
    unfold zT
    rw [zTry, if_pos h0]
  omega
theorem q_bestE (hX : kXok xm) (hN : 120 ≤ N) (hY : yNN ya) (I : INV nb jo lo bo pa ps (vl, vr, rs, ya, sc) T h) (G : HpT (cE nb jo pa (vl, vr, rs, ya, sc) q cap T h) F mem) : dOk (m_K_bestPattern xm N 1000 mem) (rI fun v m => v = zBest jo pa vl vr ya ∧ HpT (cE nb jo pa (vl, vr, rs, ya, sc) q cap T h) F m ∧ St xm mem m 0 0) := by
  have h6 : pa.length ≤ 6 := I.1.2.2.2.2.1
  have hl : vl.length ≤ 24 := I.sw.1
  unfold m_K_bestPattern
  refine t_gR G 0 rfl rfl ?_
  refine t_gR G 3 rfl rfl ?_
  refine t_gE (x := Int32.ofNat vl.length) G 4 rfl rfl ?_
  by_cases h0 : vl.length = 0
  · rw [if_pos ((i_lt1 (by omega)).mpr h0)]
    refine ok_I ⟨?_, G, St.refl⟩
    unfold zBest
    rw [zBestF_none (zEnds_0 h0)]
  · rw [if_neg (fun z => h0 ((i_lt1 (by omega)).mp z))]
    exact q_best22 hX hN hY I h0 pa.length 0 N (-1) 0 mem (by omega) (by omega) (Or.inl rfl) G
theorem q_best (hX : kXok xm) (hN : 120 ≤ N) (hY : yNN ya) (D : KS xm nb jo lo bo pa ps (vl, vr, rs, ya, sc) F 0 0 m0 cap0 mem) : dOk (m_K_best xm N 1000 mem) (rI fun v m => v = zBest jo pa vl vr ya ∧ KC xm (nb, jo, lo, bo, pa, ps, (vl, vr, rs, ya, sc)) F 0 0 m0 cap0 m) := by
  obtain ⟨T, h, I, q, cap, c, s, k1, k2, ⟨hz, H⟩, S1, k3, k4⟩ := D
  unfold m_K_best
  refine t_rc H 0 rfl ?_
  refine ok_cI (q_bestE hX hN hY I H) fun v m hh => ?_
  obtain ⟨rfl, H2, S2⟩ := hh
  exact ok_I ⟨rfl, T, h, I, q, cap, c, s, k1, k2, ⟨hz, H2⟩, S1.trans S2, k3, k4⟩
/-! the reference -/
theorem pa_at (hil : i < pa.length) {n0 : Nat} (hn0 : pa[i] = Int32.ofNat n0) (p2 : n0 ≤ 999999999) : (pa.getD i 0).toNatClampNeg = n0 := by
  rw [List.getD_eq_getElem?_getD, List.getElem?_eq_getElem hil, hn0]
  exact i_nat (by omega)
theorem m_would0 (hX : kXok xm) (hN : 120 ≤ N) (hil : i < pa.length) (V : WR xm M0 g sum lo bo pa ps (vl, vr, rs, ya, sc) ck F mem) (hi : aInv nb g lo bo pa ps (vl, vr, rs, ya, sc)) (h7 : g 7 = jo) : m_M_wouldNow xm N M0 (Int32.ofNat i) 0 mem = some (.inl (some (.int (Int32.ofNat (zT jo pa vl vr ya i).1.2.1))), mem) := by
  obtain ⟨n0, hn0, p1, p2, pz⟩ := hi.2.2.2.2.2 _ (List.getElem_mem hil)
  unfold zT
  rw [pa_at hil hn0 p2]
  refine ok_eq (m_wouldNowE hX hN hil V hi h7 hn0 p1 p2 pz fun y' hr => ?_)
  unfold m_M_wouldNow_129
  rw [if_pos rfl]
  exact ok_me
theorem m_would1 (hX : kXok xm) (hN : 120 ≤ N) (hil : i < pa.length) (V : WR xm M0 g sum lo bo pa ps (vl, vr, rs, ya, sc) ck F mem) (hi : aInv nb g lo bo pa ps (vl, vr, rs, ya, sc)) (h7 : g 7 = jo) : m_M_wouldNow xm N M0 (Int32.ofNat i) 1 mem = some (.inl (some (.int (zSpent jo pa vl vr ya i))), mem) := by
  obtain ⟨n0, hn0, p1, p2, pz⟩ := hi.2.2.2.2.2 _ (List.getElem_mem hil)
  unfold zSpent zT
  rw [pa_at hil hn0 p2]
  refine ok_eq (m_wouldNowE hX hN hil V hi h7 hn0 p1 p2 pz fun y' hr => ?_)
  unfold m_M_wouldNow_129
  rw [if_neg (by decide), if_pos rfl]
  refine w_rc V ?_
  refine ok_eI (m_yarn V hi.sw.2.2.2.2 hi.jn) ?_
  rw [tRel_needs hr]
  exact ok_me
theorem m_would2 (hX : kXok xm) (hN : 120 ≤ N) (hil : i < pa.length) (V : WR xm M0 g sum lo bo pa ps (vl, vr, rs, ya, sc) ck F mem) (hi : aInv nb g lo bo pa ps (vl, vr, rs, ya, sc)) (h7 : g 7 = jo) : m_M_wouldNow xm N M0 (Int32.ofNat i) 2 mem = some (.inl (some (.int (if zEnds jo pa vl vr ya i = true then 1 else 0))), mem) := by
  obtain ⟨n0, hn0, p1, p2, pz⟩ := hi.2.2.2.2.2 _ (List.getElem_mem hil)
  have h24 : vl.length + vr.length ≤ 24 := hi.2.1.2.1
  have b1 : (zTry n0 99 0 (vl.length, vl.length + vr.length, bY jo ya, 0)).1.1 ≤ vl.length := zTry_l 99 0 _
  have b2 : (zTry n0 99 0 (vl.length, vl.length + vr.length, bY jo ya, 0)).2 ≤ 0 + 99 := zTry_le 99 0 _
  obtain ⟨l1, l2, l3, l4⟩ := pLen_ok p1 p2
  unfold zEnds zT
  rw [pa_at hil hn0 p2]
  refine ok_eq (m_wouldNowE hX hN hil V hi h7 hn0 p1 p2 pz fun y' hr => ?_)
  generalize zTry n0 99 0 (vl.length, vl.length + vr.length, bY jo ya, 0) = w at b1 b2
  unfold m_M_wouldNow_129
  rw [if_neg (by decide), if_neg (by decide)]
  by_cases g1 : w.1.1 = 0
  · rw [if_pos (show Int32.ofNat w.1.1 = 0 by rw [g1]; rfl)]
    by_cases g2 : 0 < w.2
    · rw [if_pos ((i_pos (by omega)).mpr g2)]
      refine ok_eI (m_lengthE (by omega) p1 p2) ?_
      refine ok_nz (fun z => by have := (i_eq (b := 0) (by omega) (by decide)).mp z; omega) ?_
      rw [i_modL (by omega) l1 l2]
      have hm : w.2 % pLen n0 < pLen n0 := Nat.mod_lt _ l1
      by_cases g3 : w.2 % pLen n0 = 0
      · rw [if_pos (show Int32.ofNat (w.2 % pLen n0) = 0 by rw [g3]; rfl), if_pos (decide_eq_true ⟨g1, g2, g3⟩)]
        exact ok_me
      · rw [if_neg (i_ne0 (by omega) g3), if_neg (fun z => g3 (of_decide_eq_true z).2.2)]
        exact ok_me
    · rw [if_neg (fun z => g2 ((i_pos (by omega)).mp z)), if_neg (fun z => g2 (of_decide_eq_true z).2.1)]
      exact ok_me
  · rw [if_neg (i_ne0 (by omega) g1), if_neg (fun z => g1 (of_decide_eq_true z).1)]
    exact ok_me
theorem best_loopE (hX : kXok xm) (hN : 120 ≤ N) (V : WR xm M0 g sum lo bo pa ps (vl, vr, rs, ya, sc) ck F mem) (hi : aInv nb g lo bo pa ps (vl, vr, rs, ya, sc)) (h7 : g 7 = jo) : ∀ (j d f : Nat) (b : Int32), d + j = pa.length → j < f → (b = -1 ∨ ∃ i : Nat, b = Int32.ofNat i ∧ i < pa.length) → m_M_bestNow_4 xm N f M0 b (Int32.ofNat d) mem = some (.inl (some (.int (zBestF (zEnds jo pa vl vr ya) (zSpent jo pa vl vr ya) j d b))), mem) := by
  intro j
  have h6 := hi.2.2.2.2.1
  induction j with
  | zero =>
    intro d f b hd hf hb
    obtain ⟨f, rfl⟩ : ∃ f', f = f' + 1 := ⟨f - 1, by omega⟩
    refine ok_eq ?_
    rw [m_M_bestNow_4]
    refine w_gP V ?_
    refine w_patSize V ?_
    rw [if_neg (fun z => by have := (i_lt (by omega) (by omega)).mp z; omega)]
    exact ok_me
  | succ j ih =>
    intro d f b hd hf hb
    obtain ⟨f, rfl⟩ : ∃ f', f = f' + 1 := ⟨f - 1, by omega⟩
    refine ok_eq ?_
    rw [m_M_bestNow_4]
    refine w_gP V ?_
    refine w_patSize V ?_
    rw [if_pos ((i_lt (by omega) (by omega)).mpr (by omega))]
    refine w_rc V ?_
    refine ok_eI (m_would2 (i := d) hX hN (by omega) V hi h7) ?_
    have next : ∀ b' : Int32, (b' = -1 ∨ ∃ i : Nat, b' = Int32.ofNat i ∧ i < pa.length) → b' = (if zEnds jo pa vl vr ya d = true ∧ (b = -1 ∨ zSpent jo pa vl vr ya d < zSpent jo pa vl vr ya b.toNatClampNeg) then Int32.ofNat d else b) → dOk (m_M_bestNow_47 xm N (fun a0 a1 a2 mem => m_M_bestNow_4 xm N f a0 a1 a2 mem) M0 b' (Int32.ofNat d) mem) (fun w => w = (.inl (some (.int (zBestF (zEnds jo pa vl vr ya) (zSpent jo pa vl vr ya) (j + 1) d b))), mem)) := by
      intro b' hb' eb
      unfold m_M_bestNow_47
      rw [i_add1]
      refine ⟨_, ih (d + 1) f b' (by omega) (by omega) hb', ?_⟩
      rw [eb]
      rfl
    by_cases gE : zEnds jo pa vl vr ya d = true
    · have take : (b = -1 ∨ zSpent jo pa vl vr ya d < zSpent jo pa vl vr ya b.toNatClampNeg) → dOk (m_M_bestNow_45 xm N (fun a0 a1 a2 mem => m_M_bestNow_4 xm N f a0 a1 a2 mem) M0 (Int32.ofNat d) mem) (fun w => w = (.inl (some (.int (zBestF (zEnds jo pa vl vr ya) (zSpent jo pa vl vr ya) (j + 1) d b))), mem)) := by
        intro hc
        unfold m_M_bestNow_45
        exact next _ (Or.inr ⟨d, rfl, by omega⟩) (if_pos ⟨gE, hc⟩).symm
      rw [if_pos gE, if_pos rfl]
      refine ok_if (fun e => take (Or.inl e)) (fun e => ?_)
      obtain ⟨i, rfl, hil⟩ := hb.resolve_left e
      have ei : (Int32.ofNat i).toNatClampNeg = i := i_nat (by omega)
      rw [ei] at take next
      refine w_rc V ?_
      refine ok_eI (m_would1 (i := d) hX hN (by omega) V hi h7) ?_
      refine w_rc V ?_
      refine ok_eI (m_would1 (i := i) hX hN hil V hi h7) ?_
      refine ok_if (fun e2 => take (Or.inr e2)) (fun e2 => ?_)
      exact next _ (Or.inr ⟨i, rfl, hil⟩) (if_neg (fun z => z.2.elim e e2)).symm
    · rw [if_neg gE, if_neg (show ¬ ((0 : Int32) = 1) by decide)]
      exact next b hb (if_neg (fun z => gE z.1)).symm
theorem m_bestNowE (hX : kXok xm) (hN : 120 ≤ N) (V : WR xm M0 g sum lo bo pa ps (vl, vr, rs, ya, sc) ck F mem) (hi : aInv nb g lo bo pa ps (vl, vr, rs, ya, sc)) (h7 : g 7 = jo) : m_M_bestNow xm N M0 mem = some (.inl (some (.int (zBest jo pa vl vr ya))), mem) := by
  have h6 := hi.2.2.2.2.1
  exact best_loopE hX hN V hi h7 pa.length 0 N (-1) (by omega) (by omega) (Or.inl rfl)
theorem v_best (hX : kXok xm) (hN : 120 ≤ N) (I : RJ xm M0 tt (nb, jo, lo, bo, pa, ps, (vl, vr, rs, ya, sc)) k C S F mem) : dOk (m_M_best xm N M0 mem) (rI fun v m => v = zBest jo pa vl vr ya ∧ ∃ t', RJ xm M0 t' (nb, jo, lo, bo, pa, ps, (vl, vr, rs, ya, sc)) (k + 1) (C + 0) (S + 0) F m) := by
  unfold m_M_best
  obtain ⟨g, sum, ck, W, hi, ⟨-, h7⟩, hl, hb, h1, h2⟩ := I
  dsimp only at W hi h7 hl hb
  obtain ⟨L, B, P, Q, ⟨s, l, r, u, y⟩, cs, H, R, hck, hx⟩ := W
  subst hck
  refine os_p H 0 0 rfl rfl rfl rfl fun m H1 S1 => ?_
  have V : WC xm M0 L B P Q (s, l, r, u, y) cs (kUp g 0 0) sum lo bo pa ps (vl, vr, rs, ya, sc) F m := ⟨H1, R.st S1, hx⟩
  have hi' : aInv nb (kUp g 0 0) lo bo pa ps (vl, vr, rs, ya, sc) := hi
  refine w_rc V.wr ?_
  refine ok_eI (m_bestNowE (jo := jo) hX hN V.wr hi' h7) ?_
  exact ok_I ⟨rfl, 0, RJ.mk' h1 h2 V.wr hi' ⟨rfl, h7⟩ (by omega) (by omega) (Nat.le_refl _) (S1.mono (by omega) (by omega))⟩
end GD
