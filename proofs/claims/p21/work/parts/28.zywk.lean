/-! ===== what is asked, exactly: digest; the class ===== -/
section GF
variable {xm : Nat → Option kE} {mem m0 : kM} {F X : kSg} {N k nb c0 s0 c1 s1 cap0 n M0 C S q cap i a j p t ck : Nat} {jo x y z v tt : Int32} {lo : List kLf} {bo pa vl vr ya vs : List Int32} {ps : List aS} {rs : List (List Int32)} {sc : Nat → Int32} {st : aS} {T : Nat → Int32} {h : kHs} {w : Int64}
theorem mix_ok {d v : Int64} : m_K_mixed xm N d v mem = some (.inl (some (.long (d * 31 + v))), mem) := rfl
theorem q_mixedRow6 {f mr b n0 : Nat} {Tf : Nat → Int32} (hf : f ≤ 9) (hm : mr ≤ 19998) (hp : p < mr) (hn : n0 < 2 ^ 31) (hz : ∀ c, n0 ≤ c → c < f * mr → Tf c = 0) {Ts : kTyL} (H : HpT Ts F mem) (hj : Ts[j]? = some (a, tT f mr b)) (hb : Ts[j + 1]? = some (b, cF Tf n0)) (hn9 : n ≤ f) : ∀ (k d g : Nat) (w : Int64), d + k = n → k < g → m_K_mixedRow_6 xm N g a (Int32.ofNat p) (Int32.ofNat n) w (Int32.ofNat d) mem = some (.inl (some (.long (zIt (fun i w => zMix w (Tf (p * f + i))) k d w))), mem) := by
  intro k
  induction k with
  | zero =>
    intro d g w hd hg
    obtain ⟨g, rfl⟩ : ∃ f', g = f' + 1 := ⟨g - 1, by omega⟩
    rw [m_K_mixedRow_6, if_neg (fun z => by have := (i_lt (by omega) (by omega)).mp z; omega)]
    rfl
  | succ k ih =>
    intro d g w hd hg
    obtain ⟨g, rfl⟩ : ∃ f', g = f' + 1 := ⟨g - 1, by omega⟩
    refine ok_eq ?_
    rw [m_K_mixedRow_6, if_pos ((i_lt (by omega) (by omega)).mpr (by omega))]
    refine t_rc H j hj ?_
    refine ok_eI (tE_get (r := p) (w := d) hf hm hp (by omega) hn hz H hj hb) ?_
    refine ok_eJ mix_ok ?_
    rw [i_add1]
    exact ⟨_, ih (d + 1) g _ (by omega) (by omega), rfl⟩
theorem zIt_congr {G G' : Nat → Int64 → Int64} : ∀ (k d : Nat) (w : Int64), (∀ i, d ≤ i → i < d + k → ∀ w, G i w = G' i w) → zIt G k d w = zIt G' k d w := by
  intro k
  induction k with
  | zero => intro d w _; rfl
  | succ k ih =>
    intro d w h
    show zIt G k (d + 1) (G d w) = zIt G' k (d + 1) (G' d w)
    rw [h d (Nat.le_refl _) (by omega)]
    exact ih (d + 1) _ fun i h1 h2 => h i (by omega) (by omega)
theorem q_mixRuns (hi : i < rs.length) (h9 : rs.length ≤ 9) (hN : 10 ≤ N) (H : HpT (cE nb jo pa (vl, vr, rs, ya, sc) q cap T h) F mem) : m_K_mixedRow xm N w 1008 (Int32.ofNat i) 4 mem = some (.inl (some (.long (zMixR rs i w))), mem) := by
  obtain ⟨Tr, hTr, H1⟩ := HpT.pinR (rs := rs) H 9 rfl
  have hz : rs[i]? = some (rs.getD i []) := by
    rw [List.getD_eq_getElem?_getD, List.getElem?_eq_getElem hi]
    rfl
  have e := q_mixedRow6 (xm := xm) (N := N) (a := 1008) (b := 1009) (p := i) (j := 8) (f := 4) (mr := 9) (n0 := 36) (n := 4) (by decide) (by decide) (by omega) (by decide) (fun c h1 h2 => absurd h1 (by omega)) H1 rfl rfl (by decide) 4 0 N w (by omega) (by omega)
  rw [zIt_congr (G' := fun k w => zMix w ((rs.getD i []).getD k 0)) 4 0 w (fun k h1 h2 w => by rw [hTr.2 i _ hz k (by omega)])] at e
  exact e
theorem q_mixPat (hi : i < pa.length) (h6 : pa.length ≤ 6) (hN : 10 ≤ N) (H : HpT (cE nb jo pa (vl, vr, rs, ya, sc) q cap T h) F mem) : m_K_mixedRow xm N w 1012 (Int32.ofNat i) 5 mem = some (.inl (some (.long (zIt (fun k w => zMix w (pInf (pa.getD i 0) k)) 5 0 w))), mem) := by
  obtain ⟨Tp, hTp, H1⟩ := HpT.pinG (P := fun T => ptRel T pa) H 13 rfl
  have hz : pa[i]? = some (pa.getD i 0) := by
    rw [List.getD_eq_getElem?_getD, List.getElem?_eq_getElem hi]
    rfl
  have e := q_mixedRow6 (xm := xm) (N := N) (a := 1012) (b := 1013) (p := i) (j := 12) (f := 5) (mr := 6) (n0 := 30) (n := 5) (by decide) (by decide) (by omega) (by decide) (fun c h1 h2 => absurd h1 (by omega)) H1 rfl rfl (by decide) 5 0 N w (by omega) (by omega)
  rw [zIt_congr (G' := fun k w => zMix w (pInf (pa.getD i 0) k)) 5 0 w (fun k h1 h2 w => by rw [hTp i _ hz k (by omega)])] at e
  exact e
theorem q_mL36 {K6 : Nat → Nat → Int64 → Int32 → kM → dRes} {a3 : Nat} {R : kO × kM → Prop} (hN : 26 ≤ N) (I : INV nb jo lo bo pa ps (vl, vr, rs, ya, sc) T h) (hlo : lo.length < 19998) (hbo : bo.length < 2 ^ 31) (hv : aId lo.length v) (h2 : cap ≤ 119988) (hz : ∀ i, cap ≤ i → i < 119988 → T i = 0) (H : HpT (cE nb jo pa (vl, vr, rs, ya, sc) q cap T h) F mem) : ∀ (k d g : Nat) (w : Int64), d + k = 6 → k < g → dOk (K6 1000 a3 (zIt (fun n w => zMix w (zFact (zLoop lo v) (zWhere vl vr rs bo v) n)) k d w) (y + 1) mem) R → dOk (m_K_mixedLoops_36 xm N K6 g 1000 a3 w y v (Int32.ofNat d) mem) R := by
  obtain ⟨id, rfl, hid⟩ := hv
  rw [zLoop_at hid (by omega)]
  intro k
  induction k with
  | zero =>
    intro d g w hd hg hK
    obtain ⟨g, rfl⟩ : ∃ f', g = f' + 1 := ⟨g - 1, by omega⟩
    rw [m_K_mixedLoops_36, if_neg (fun z => by have := (i_lt (a := d) (b := 6) (by omega) (by omega)).mp z; omega)]
    exact hK
  | succ k ih =>
    intro d g w hd hg hK
    obtain ⟨g, rfl⟩ : ∃ f', g = f' + 1 := ⟨g - 1, by omega⟩
    rw [m_K_mixedLoops_36, if_pos (show Int32.ofNat d < 6 from (i_lt (a := d) (b := 6) (by omega) (by omega)).mpr (by omega))]
    refine t_rc H 0 rfl ?_
    refine ok_eI (q_loopFact hN I hlo hbo hid (by omega) h2 hz H) ?_
    refine ok_eJ mix_ok ?_
    rw [i_add1]
    exact ih (d + 1) g _ (by omega) (by omega) hK
theorem q_mL6 (hN : 26 ≤ N) (I : INV nb jo lo bo pa ps (vl, vr, rs, ya, sc) T h) (hlo : lo.length < 19998) (hbo : bo.length < 2 ^ 31) (h2 : cap ≤ 119988) (hz : ∀ i, cap ≤ i → i < 119988 → T i = 0) (H : HpT (cE nb jo pa (vl, vr, rs, ya, sc) q cap T h) F mem) (hj : (cE nb jo pa (vl, vr, rs, ya, sc) q cap T h)[j]? = some (a, nE (a + 1) vs.length)) (hb : (cE nb jo pa (vl, vr, rs, ya, sc) q cap T h)[j + 1]? = some (a + 1, cPf 24 vs)) (h24 : vs.length ≤ 24) (hid : ∀ v ∈ vs, aId lo.length v) : ∀ (k d g : Nat) (w : Int64), d + k = vs.length → k < g → m_K_mixedLoops_6 xm N g 1000 a w (Int32.ofNat d) mem = some (.inl (some (.long (zIt (fun p w => zMixL lo bo vl vr rs (nAt vs p) w) k d w))), mem) := by
  intro k
  induction k with
  | zero =>
    intro d g w hd hg
    obtain ⟨g, rfl⟩ : ∃ f', g = f' + 1 := ⟨g - 1, by omega⟩
    refine ok_eq ?_
    rw [m_K_mixedLoops_6]
    refine t_gE H j hj rfl ?_
    rw [if_neg (fun z => by have := (i_lt (by omega) (by omega)).mp z; omega)]
    exact ok_me
  | succ k ih =>
    intro d g w hd hg
    obtain ⟨g, rfl⟩ : ∃ f', g = f' + 1 := ⟨g - 1, by omega⟩
    have hm : nAt vs d ∈ vs := by
      unfold nAt
      rw [if_pos (by omega), List.getD_eq_getElem?_getD, List.getElem?_eq_getElem (show vs.length - 1 - d < vs.length by omega)]
      exact List.getElem_mem _
    refine ok_eq ?_
    rw [m_K_mixedLoops_6]
    refine t_gE H j hj rfl ?_
    rw [if_pos ((i_lt (by omega) (by omega)).mpr (by omega))]
    refine t_rc H j hj ?_
    refine ok_eI (nE_at (p := d) (by omega) h24 H hj hb) ?_
    refine ok_eJ mix_ok ?_
    refine q_mL36 hN I hlo hbo (hid _ hm) h2 hz H 6 0 N _ (by omega) (by omega) ?_
    rw [i_add1]
    exact ⟨_, ih (d + 1) g _ (by omega) (by omega), rfl⟩
theorem q_mixedLoops (hN : 26 ≤ N) (I : INV nb jo lo bo pa ps (vl, vr, rs, ya, sc) T h) (hlo : lo.length < 19998) (hbo : bo.length < 2 ^ 31) (h2 : cap ≤ 119988) (hz : ∀ i, cap ≤ i → i < 119988 → T i = 0) (H : HpT (cE nb jo pa (vl, vr, rs, ya, sc) q cap T h) F mem) (hj : (cE nb jo pa (vl, vr, rs, ya, sc) q cap T h)[j]? = some (a, nE (a + 1) vs.length)) (hb : (cE nb jo pa (vl, vr, rs, ya, sc) q cap T h)[j + 1]? = some (a + 1, cPf 24 vs)) (h24 : vs.length ≤ 24) (hid : ∀ v ∈ vs, aId lo.length v) : m_K_mixedLoops xm N 1000 w a mem = some (.inl (some (.long (zMixN lo bo vl vr rs vs w))), mem) := q_mL6 hN I hlo hbo h2 hz H hj hb h24 hid vs.length 0 N w (by omega) (by omega)
theorem q_mP5 (hX : kXok xm) (hN : 120 ≤ N) (hY : yNN ya) (I : INV nb jo lo bo pa ps (vl, vr, rs, ya, sc) T h) : ∀ (k d g : Nat) (w : Int64) (mem : kM), d + k = pa.length → k < g → HpT (cE nb jo pa (vl, vr, rs, ya, sc) q cap T h) F mem → dOk (m_K_mixedPatterns_5 xm N g 1000 w (Int32.ofNat d) mem) (rJ fun v m => v = zIt (zMixP jo pa vl vr ya) k d w ∧ HpT (cE nb jo pa (vl, vr, rs, ya, sc) q cap T h) F m ∧ St xm mem m 0 0) := by
  have h6 : pa.length ≤ 6 := I.1.2.2.2.2.1
  intro k
  induction k with
  | zero =>
    intro d g w mem hd hg G
    obtain ⟨g, rfl⟩ : ∃ f', g = f' + 1 := ⟨g - 1, by omega⟩
    rw [m_K_mixedPatterns_5]
    refine t_gE (x := Int32.ofNat pa.length) G 0 rfl rfl ?_
    rw [if_neg (fun z => by have := (i_lt (by omega) (by omega)).mp z; omega)]
    exact ok_J ⟨rfl, G, St.refl⟩
  | succ k ih =>
    intro d g w mem hd hg G
    obtain ⟨g, rfl⟩ : ∃ f', g = f' + 1 := ⟨g - 1, by omega⟩
    have hdp : d < pa.length := by omega
    rw [m_K_mixedPatterns_5]
    refine t_gE (x := Int32.ofNat pa.length) G 0 rfl rfl ?_
    rw [if_pos ((i_lt (by omega) (by omega)).mpr hdp)]
    refine t_gR G 0 rfl rfl ?_
    refine ok_eJ (q_mixPat hdp h6 (by omega) G) ?_
    refine t_rc G 0 rfl ?_
    refine ok_cV (q_tryE hX hN hY I hdp G) fun m1 hh => ?_
    obtain ⟨H1, G1, S1⟩ := hh
    refine t_gR H1 0 rfl rfl ?_
    refine t_gE (x := Int32.ofNat (zT jo pa vl vr ya d).1.2.1) H1 104 rfl rfl ?_
    refine ok_eJ mix_ok ?_
    refine t_gR H1 0 rfl rfl ?_
    refine t_gE (x := (zT jo pa vl vr ya d).1.2.2.2) H1 104 rfl rfl ?_
    refine ok_eJ mix_ok ?_
    rw [i_add1]
    refine ok_mono (ih (d + 1) g _ m1 (by omega) (by omega) G1) ?_
    rintro w ⟨v, q1, q0, q2, q3⟩
    exact ⟨v, q1, q0, q2, (S1.trans q3).mono (by omega) (by omega)⟩
theorem q_dig132 (hX : kXok xm) (hN : 120 ≤ N) (hY : yNN ya) (I : INV nb jo lo bo pa ps (vl, vr, rs, ya, sc) T h) (G : HpT (cE nb jo pa (vl, vr, rs, ya, sc) q cap T h) F mem) : ∀ (k d g : Nat) (w : Int64), d + k = rs.length → k < g → dOk (m_K_digest_132 xm N g 1000 w (Int32.ofNat d) mem) (rJ fun v m => v = zDig4 jo pa vl vr ya (zIt (zMixR rs) k d w) ∧ HpT (cE nb jo pa (vl, vr, rs, ya, sc) q cap T h) F m ∧ St xm mem m 0 0) := by
  have h9 : rs.length ≤ 9 := I.sw.2.2.1
  have h6 : pa.length ≤ 6 := I.1.2.2.2.2.1
  intro k
  induction k with
  | zero =>
    intro d g w hd hg
    obtain ⟨g, rfl⟩ : ∃ f', g = f' + 1 := ⟨g - 1, by omega⟩
    rw [m_K_digest_132]
    refine t_gR G 0 rfl rfl ?_
    refine t_gE (x := Int32.ofNat rs.length) G 3 rfl rfl ?_
    rw [if_neg (fun z => by have := (i_lt (by omega) (by omega)).mp z; omega)]
    refine t_rc G 0 rfl ?_
    refine ok_cJ (show dOk (m_K_mixedPatterns xm N 1000 w mem) _ from q_mP5 hX hN hY I pa.length 0 N w mem (by omega) (by omega) G) fun v m1 hh => ?_
    obtain ⟨rfl, G1, S1⟩ := hh
    refine t_rc G1 0 rfl ?_
    refine ok_cI (q_bestE hX hN hY I G1) fun v2 m2 hh => ?_
    obtain ⟨rfl, G2, S2⟩ := hh
    refine ok_eJ mix_ok ?_
    exact ok_J ⟨rfl, G2, S1.trans S2⟩
  | succ k ih =>
    intro d g w hd hg
    obtain ⟨g, rfl⟩ : ∃ f', g = f' + 1 := ⟨g - 1, by omega⟩
    rw [m_K_digest_132]
    refine t_gR G 0 rfl rfl ?_
    refine t_gE (x := Int32.ofNat rs.length) G 3 rfl rfl ?_
    rw [if_pos ((i_lt (by omega) (by omega)).mpr (by omega))]
    refine t_gR G 0 rfl rfl ?_
    refine t_gR G 3 rfl rfl ?_
    refine ok_eJ (q_mixRuns (i := d) (by omega) h9 (by omega) G) ?_
    rw [i_add1]
    exact ih (d + 1) g _ (by omega) (by omega)
theorem q_dig31 (hX : kXok xm) (hN : 120 ≤ N) (hY : yNN ya) (I : INV nb jo lo bo pa ps (vl, vr, rs, ya, sc) T h) (hlo : lo.length < 19998) (hbo : bo.length < 2 ^ 31) (h2 : cap ≤ 119988) (hz : ∀ i, cap ≤ i → i < 119988 → T i = 0) (G : HpT (cE nb jo pa (vl, vr, rs, ya, sc) q cap T h) F mem) : ∀ (k d g : Nat) (w : Int64), d + k = nb → k < g → dOk (m_K_digest_31 xm N g 1000 w (Int32.ofNat d) mem) (rJ fun v m => v = zDig2 jo lo bo pa vl vr ya rs (sc 4) (zIt (fun i w => zMix w (ya.getD i 0)) k d w) ∧ HpT (cE nb jo pa (vl, vr, rs, ya, sc) q cap T h) F m ∧ St xm mem m 0 0) := by
  have h9 : rs.length ≤ 9 := I.sw.2.2.1
  have hl : vl.length ≤ 24 := I.sw.1
  have hr : vr.length ≤ 24 := I.sw.2.1
  have hn4 := I.nb4
  have il := I.1.2.1.2.2.1
  have ir := I.1.2.1.2.2.2.1
  dsimp only at il ir
  intro k
  induction k with
  | zero =>
    intro d g w hd hg
    obtain ⟨g, rfl⟩ : ∃ f', g = f' + 1 := ⟨g - 1, by omega⟩
    rw [m_K_digest_31]
    refine t_gR G 0 rfl rfl ?_
    refine t_gE (x := Int32.ofNat nb) G 1 rfl rfl ?_
    rw [if_neg (fun z => by have := (i_lt (by omega) (by omega)).mp z; omega)]
    refine t_gR G 0 rfl rfl ?_
    refine t_gR G 3 rfl rfl ?_
    refine t_rc G 0 rfl ?_
    refine ok_eJ (q_mixedLoops (a := 1004) (j := 4) (by omega) I hlo hbo h2 hz G rfl rfl hl il) ?_
    refine t_gR G 0 rfl rfl ?_
    refine t_gR G 3 rfl rfl ?_
    refine t_rc G 0 rfl ?_
    refine ok_eJ (q_mixedLoops (a := 1006) (j := 6) (by omega) I hlo hbo h2 hz G rfl rfl hr ir) ?_
    refine t_gR G 0 rfl rfl ?_
    refine t_gR G 3 rfl rfl ?_
    refine t_rc G 0 rfl ?_
    refine ok_eF (q_widthOf (a := 1004) (j := 4) (by omega) I hlo h2 hz G rfl rfl hl il) ?_
    unfold dF32
    rw [if_pos (wf_ok (zWd_le hl)).2.2.1]
    refine ok_eJ mix_ok ?_
    refine t_gR G 0 rfl rfl ?_
    refine t_gR G 3 rfl rfl ?_
    refine t_rc G 0 rfl ?_
    refine ok_eF (q_widthOf (a := 1006) (j := 6) (by omega) I hlo h2 hz G rfl rfl hr ir) ?_
    rw [if_pos (wf_ok (zWd_le hr)).2.2.1]
    refine ok_eJ mix_ok ?_
    rw [(wf_ok (zWd_le hl)).2.2.2.1, (wf_ok (zWd_le hr)).2.2.2.1]
    exact q_dig132 hX hN hY I G rs.length 0 N _ (by omega) (by omega)
  | succ k ih =>
    intro d g w hd hg
    obtain ⟨g, rfl⟩ : ∃ f', g = f' + 1 := ⟨g - 1, by omega⟩
    rw [m_K_digest_31]
    refine t_gR G 0 rfl rfl ?_
    refine t_gE (x := Int32.ofNat nb) G 1 rfl rfl ?_
    rw [if_pos ((i_lt (by omega) (by omega)).mpr (by omega))]
    refine t_gR G 0 rfl rfl ?_
    refine t_rc G 1 rfl ?_
    refine ok_eI (bE_of (c := d) (a := 1001) (b := 1002) (nb := nb) (j := 1) (ya := ya) (by omega) hn4 I.sw.2.2.2.2 G rfl rfl) ?_
    refine ok_eJ mix_ok ?_
    rw [i_add1]
    exact ih (d + 1) g _ (by omega) (by omega)
theorem q_dig6 (hX : kXok xm) (hN : 120 ≤ N) (hY : yNN ya) (h01 : ∀ z ∈ rs, z.getD 3 0 = 0 ∨ z.getD 3 0 = 1) (I : INV nb jo lo bo pa ps (vl, vr, rs, ya, sc) T h) (hlo : lo.length < 19998) (hbo : bo.length < 2 ^ 31) (h2 : cap ≤ 119988) (hz : ∀ i, cap ≤ i → i < 119988 → T i = 0) (G : HpT (cE nb jo pa (vl, vr, rs, ya, sc) q cap T h) F mem) : ∀ (k d g : Nat) (w : Int64), d + k = 16 → k < g → dOk (m_K_digest_6 xm N g 1000 w (Int32.ofNat d) mem) (rJ fun v m => v = zDig2 jo lo bo pa vl vr ya rs (sc 4) (zIt (fun i w => zMix w (ya.getD i 0)) nb 0 (zIt (fun i w => zMix w (zMny nb jo pa ps (vl, vr, rs, ya, sc) i)) k d w)) ∧ HpT (cE nb jo pa (vl, vr, rs, ya, sc) q cap T h) F m ∧ St xm mem m 0 0) := by
  have hn4 := I.nb4
  intro k
  induction k with
  | zero =>
    intro d g w hd hg
    obtain ⟨g, rfl⟩ : ∃ f', g = f' + 1 := ⟨g - 1, by omega⟩
    rw [m_K_digest_6, if_neg (fun z => by have := (i_lt (a := d) (b := 16) (by omega) (by omega)).mp z; omega)]
    exact q_dig31 hX hN hY I hlo hbo h2 hz G nb 0 N w (by omega) (by omega)
  | succ k ih =>
    intro d g w hd hg
    obtain ⟨g, rfl⟩ : ∃ f', g = f' + 1 := ⟨g - 1, by omega⟩
    rw [m_K_digest_6, if_pos (show Int32.ofNat d < 16 from (i_lt (a := d) (b := 16) (by omega) (by omega)).mpr (by omega))]
    refine t_rc G 0 rfl ?_
    refine ok_eI (q_number (by omega) I h01 (by omega) G) ?_
    refine ok_eJ mix_ok ?_
    rw [i_add1]
    exact ih (d + 1) g _ (by omega) (by omega)
theorem q_digest (hX : kXok xm) (hN : 120 ≤ N) (hY : yNN ya) (h01 : ∀ z ∈ rs, z.getD 3 0 = 0 ∨ z.getD 3 0 = 1) (hlo : lo.length ≤ 12300) (hbo : bo.length ≤ 12300) (D : KS xm nb jo lo bo pa ps (vl, vr, rs, ya, sc) F 0 0 m0 cap0 mem) : dOk (m_K_digest xm N 1000 mem) (rJ fun v m => v = zDig nb jo lo bo pa ps vl vr rs ya sc ∧ KC xm (nb, jo, lo, bo, pa, ps, (vl, vr, rs, ya, sc)) F 0 0 m0 cap0 m) := by
  obtain ⟨T, h, I, q, cap, c, s, k1, k2, ⟨hz, H⟩, S1, k3, k4⟩ := D
  unfold m_K_digest
  refine ok_mono (show dOk (m_K_digest_6 xm N N 1000 58309 0 mem) _ from q_dig6 hX hN hY h01 I (by omega) (by omega) k2 hz H 16 0 N 58309 (by omega) (by omega)) ?_
  rintro w ⟨v, q1, q0, H2, S2⟩
  exact ⟨v, q1, q0, T, h, I, q, cap, c, s, k1, k2, ⟨hz, H2⟩, S1.trans S2, k3, k4⟩
end GF
