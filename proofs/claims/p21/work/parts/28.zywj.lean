/-! ===== what is asked, exactly: digest, told; the reference ===== -/
def zMix (w : Int64) (v : Int32) : Int64 := w * 31 + Int32.toInt64 v
def zIt (G : Nat → Int64 → Int64) : Nat → Nat → Int64 → Int64
  | 0, _, w => w
  | k + 1, d, w => zIt G k (d + 1) (G d w)
/-- a loop and what is told of it -/
def zMixL (lo : List kLf) (bo vl vr : List Int32) (rs : List (List Int32)) (v : Int32) (w : Int64) : Int64 := zIt (fun n w => zMix w (zFact (zLoop lo v) (zWhere vl vr rs bo v) n)) 6 0 (zMix w v)
def zMixN (lo : List kLf) (bo vl vr : List Int32) (rs : List (List Int32)) (vs : List Int32) (w : Int64) : Int64 := zIt (fun p w => zMixL lo bo vl vr rs (nAt vs p) w) vs.length 0 w
def zMixR (rs : List (List Int32)) (i : Nat) (w : Int64) : Int64 := zIt (fun k w => zMix w ((rs.getD i []).getD k 0)) 4 0 w
def zMixP (jo : Int32) (pa vl vr ya : List Int32) (i : Nat) (w : Int64) : Int64 := zMix (zMix (zIt (fun k w => zMix w (pInf (pa.getD i 0) k)) 5 0 w) (Int32.ofNat (zT jo pa vl vr ya i).1.2.1)) (zSpent jo pa vl vr ya i)
/-- the end of the checksum: patterns, the best one -/
def zDig4 (jo : Int32) (pa vl vr ya : List Int32) (w : Int64) : Int64 := zMix (zIt (zMixP jo pa vl vr ya) pa.length 0 w) (zBest jo pa vl vr ya)
def zDig3 (jo : Int32) (pa vl vr ya : List Int32) (rs : List (List Int32)) (w : Int64) : Int64 := zDig4 jo pa vl vr ya (zIt (zMixR rs) rs.length 0 w)
def zDig2 (jo : Int32) (lo : List kLf) (bo pa vl vr ya : List Int32) (rs : List (List Int32)) (x : Int32) (w : Int64) : Int64 := zDig3 jo pa vl vr ya rs (zMix (zMix (zMixN lo bo vl vr rs vr (zMixN lo bo vl vr rs vl w)) (Int32.ofNat (zWd lo x vl))) (Int32.ofNat (zWd lo x vr)))
def zDig (nb : Nat) (jo : Int32) (lo : List kLf) (bo pa : List Int32) (ps : List aS) (vl vr : List Int32) (rs : List (List Int32)) (ya : List Int32) (sc : Nat → Int32) : Int64 := zDig2 jo lo bo pa vl vr ya rs (sc 4) (zIt (fun i w => zMix w (ya.getD i 0)) nb 0 (zIt (fun i w => zMix w (zMny nb jo pa ps (vl, vr, rs, ya, sc) i)) 16 0 58309))
section GE
variable {xm : Nat → Option kE} {mem m0 : kM} {N M0 nb k C S ck c0 s0 : Nat} {F X : kSg} {g : Nat → Int32} {sum w0 : Int64} {jo t : Int32} {lo : List kLf} {bo pa : List Int32} {ps : List aS} {T : kO × kM → Prop} {L B P Q : kLi} {s y : Nat} {l r u : kLi} {cs : List kCs} {vl vr ya : List Int32} {rs : List (List Int32)} {sc : Nat → Int32} {st : aS} {c : kCs}
theorem add_frontE {x : Int32} (H : HpS (X :: wSg M0 L B P Q c cs g sum ps st F) mem) : dOk (m_M_add xm N M0 x mem) (rV fun m => HpS (X :: wSg M0 L B P Q c cs g (zMix sum x) ps st F) m ∧ St xm mem m 0 0) := by
  unfold m_M_add
  refine ok_gJ (H.look 1 0 rfl rfl) rfl ?_
  refine os_p H 1 0 rfl rfl rfl rfl fun m H1 S1 => ?_
  exact ok_V ⟨H1, S1⟩
theorem d_addE' {x : Int32} {K : kM → dRes} {c1 s1 : Nat} (V : WC xm M0 L B P Q c cs g sum lo bo pa ps st F mem) (S0 : St xm m0 mem c1 s1) (h : ∀ m, WC xm M0 L B P Q c cs g (zMix sum x) lo bo pa ps st F m → St xm m0 m c1 s1 → dOk (K m) T) : dOk (dRc xm mem M0 15 <| dCV (m_M_add xm N M0 x mem) K) T := by
  refine w_rc V.wr ?_
  have key : dOk (m_M_add xm N M0 x mem) (rV fun m => WC xm M0 L B P Q c cs g (zMix sum x) lo bo pa ps st F m ∧ St xm mem m 0 0) := by
    unfold m_M_add
    refine ok_gJ (V.1.look 0 0 rfl rfl) rfl ?_
    refine os_p V.1 0 0 rfl rfl rfl rfl fun m H1 S1 => ?_
    exact ok_V ⟨⟨H1, V.2.1.st S1, V.2.2⟩, S1⟩
  refine ok_cV key fun m hh => ?_
  obtain ⟨V1, S1⟩ := hh
  exact h m V1 ((S0.trans S1).mono (by omega) (by omega))
theorem d_addE {Y : dRes} {K : kM → dRes} {x : Int32} {c1 s1 : Nat} (D : dOk Y (rI fun v m => v = x ∧ WC xm M0 L B P Q c cs g sum lo bo pa ps st F m ∧ St xm mem m c1 s1)) (S0 : St xm m0 mem c0 s0) (h : ∀ m, WC xm M0 L B P Q c cs g (zMix sum x) lo bo pa ps st F m → St xm m0 m (c0 + c1) (s0 + s1) → dOk (K m) T) : dOk (dCI Y fun v m => dRc xm m M0 15 <| dCV (m_M_add xm N M0 v m) K) T := by
  refine ok_cI D fun v m hh => ?_
  obtain ⟨rfl, V, S1⟩ := hh
  exact d_addE' V (S0.trans S1) h
theorem d_pureE {Y : dRes} {x : Int32} (V : WC xm M0 L B P Q c cs g sum lo bo pa ps st F mem) (h : Y = some (.inl (some (.int x)), mem)) : dOk Y (rI fun v m => v = x ∧ WC xm M0 L B P Q c cs g sum lo bo pa ps st F m ∧ St xm mem m 0 0) := by
  subst h
  exact ok_I ⟨rfl, V, St.refl⟩
theorem add_35E {a q cap i t : Nat} {mc : Int32} {es : List Nat} {vs : List Int32} {K13 : Nat → Nat → Int32 → kM → dRes} (hX : kXok xm) (hN : 20001 ≤ N) (hi : aInv nb g lo bo pa ps (vl, vr, rs, ya, sc)) (hb : bo.length ≤ 20000) (hlo : lo.length ≤ 20000) (hs : ∀ sum, (wSg M0 L B P Q (s, l, r, u, y) cs g sum ps (vl, vr, rs, ya, sc) F)[i]? = some (sAL a q mc cap es)) (hw : sWf q cap es) (hv : IVs xm m0 es vs) (hid : ∀ v ∈ vs, aId lo.length v) (ht : t < es.length) : ∀ (j d f c1 s1 : Nat) (sum : Int64) (mem : kM), d + j = 6 → j < f → WC xm M0 L B P Q (s, l, r, u, y) cs g sum lo bo pa ps (vl, vr, rs, ya, sc) F mem → St xm m0 mem c1 s1 → (∀ m, WC xm M0 L B P Q (s, l, r, u, y) cs g (zIt (fun n w => zMix w (zFact (zLoop lo (vs.getD t 0)) (zWhere vl vr rs bo (vs.getD t 0)) n)) j d sum) lo bo pa ps (vl, vr, rs, ya, sc) F m → St xm m0 m (c1 + 5 * j) (s1 + 22 * j) → dOk (K13 M0 a (Int32.ofNat t + (-1)) m) T) → dOk (m_M_addNeedle_35 xm N K13 f M0 a (Int32.ofNat t) (Int32.ofNat d) mem) T := by
  intro j
  induction j with
  | zero =>
    intro d f c1 s1 sum mem hd hf V S0 h
    obtain ⟨f, rfl⟩ : ∃ f', f = f' + 1 := ⟨f - 1, by omega⟩
    rw [m_M_addNeedle_35, if_neg (fun z => by have := (i_lt (a := d) (b := 6) (by omega) (by omega)).mp z; omega)]
    exact h mem V (S0.mono (by omega) (by omega))
  | succ j ih =>
    intro d f c1 s1 sum mem hd hf V S0 h
    obtain ⟨f, rfl⟩ : ∃ f', f = f' + 1 := ⟨f - 1, by omega⟩
    rw [m_M_addNeedle_35, if_pos (show Int32.ofNat d < 6 from (i_lt (a := d) (b := 6) (by omega) (by omega)).mpr (by omega))]
    refine ok_rc (ls_hd V.1 i (hs sum)) ?_
    refine ok_eR (ls_get (j := t) hX hw V.1 i (hs sum) ht) ?_
    have hv1 := hv.st S0
    have hl := hv.1
    have hk : kIv xm mem es[t] (vs[t]'(by omega)) := hv1.at ht (by omega)
    refine ok_ccO hk ?_
    refine ok_rc hk ?_
    refine ok_eI (int_val hk) ?_
    refine w_rc V.wr ?_
    have ev : vs.getD t 0 = vs[t]'(by omega) := by
      rw [List.getD_eq_getElem?_getD, List.getElem?_eq_getElem (show t < vs.length by omega)]
      rfl
    obtain ⟨id, hid1, hid2⟩ := hid _ (List.getElem_mem (show t < vs.length by omega))
    have D := m_ofLoopNowE (N := N) (n := d) hX hN V hi hb hid2 hlo (by omega)
    rw [← zLoop_at hid2 (by omega), ← hid1, ← ev] at D
    rw [← ev]
    refine d_addE D S0 fun m V1 S1 => ?_
    rw [i_add1]
    exact ih (d + 1) f _ _ _ m (by omega) (by omega) V1 S1 fun m2 V2 S2 => h m2 V2 (S2.mono (by omega) (by omega))
theorem add_13E {a q cap i : Nat} {mc : Int32} {es : List Nat} {vs : List Int32} (hX : kXok xm) (hN : 20001 ≤ N) (hi : aInv nb g lo bo pa ps (vl, vr, rs, ya, sc)) (hb : bo.length ≤ 20000) (hlo : lo.length ≤ 20000) (hs : ∀ sum, (wSg M0 L B P Q (s, l, r, u, y) cs g sum ps (vl, vr, rs, ya, sc) F)[i]? = some (sAL a q mc cap es)) (hw : sWf q cap es) (hv : IVs xm m0 es vs) (hid : ∀ v ∈ vs, aId lo.length v) (h24 : es.length ≤ 24) : ∀ (j d f c1 s1 : Nat) (sum : Int64) (mem : kM), d + j = vs.length → j < f → WC xm M0 L B P Q (s, l, r, u, y) cs g sum lo bo pa ps (vl, vr, rs, ya, sc) F mem → St xm m0 mem c1 s1 → dOk (m_M_addNeedle_13 xm N f M0 a (Int32.ofNat j - 1) mem) (rV fun m => WC xm M0 L B P Q (s, l, r, u, y) cs g (zIt (fun p w => zMixL lo bo vl vr rs (nAt vs p) w) j d sum) lo bo pa ps (vl, vr, rs, ya, sc) F m ∧ St xm m0 m (c1 + 30 * j) (s1 + 132 * j)) := by
  intro j
  have hl := hv.1
  induction j with
  | zero =>
    intro d f c1 s1 sum mem hj hf V S0
    obtain ⟨f, rfl⟩ : ∃ f', f = f' + 1 := ⟨f - 1, by omega⟩
    rw [m_M_addNeedle_13, if_pos (by decide)]
    exact ok_V ⟨V, S0.mono (by omega) (by omega)⟩
  | succ j ih =>
    intro d f c1 s1 sum mem hj hf V S0
    obtain ⟨f, rfl⟩ : ∃ f', f = f' + 1 := ⟨f - 1, by omega⟩
    rw [m_M_addNeedle_13, i_sub1 (by omega), if_neg (i_nn (by omega))]
    rw [show j + 1 - 1 = j by omega]
    have ht : j < es.length := by omega
    refine ok_rc (ls_hd V.1 i (hs sum)) ?_
    refine ok_eR (ls_get (j := j) hX hw V.1 i (hs sum) ht) ?_
    have hv1 := hv.st S0
    have hk : kIv xm mem es[j] (vs[j]'(by omega)) := hv1.at ht (by omega)
    have ev : nAt vs d = vs.getD j 0 := by
      unfold nAt
      rw [if_pos (by omega), show vs.length - 1 - d = j by omega]
    have ev2 : vs.getD j 0 = vs[j]'(by omega) := by
      rw [List.getD_eq_getElem?_getD, List.getElem?_eq_getElem (show j < vs.length by omega)]
      rfl
    refine ok_ccO hk ?_
    refine ok_rc hk ?_
    refine ok_eI (int_val hk) ?_
    rw [← ev2]
    refine d_addE' V S0 fun m V1 S1 => ?_
    refine add_35E hX hN hi hb hlo hs hw hv hid ht 6 0 N c1 s1 _ m (by omega) (by omega) V1 S1 fun m2 V2 S2 => ?_
    have e1 : Int32.ofNat j + (-1) = Int32.ofNat j - 1 := (Int32.sub_eq_add_neg _ _).symm
    rw [e1]
    refine ok_mono (ih (d + 1) f _ _ _ m2 (by omega) (by omega) V2 S2) ?_
    rintro w ⟨q1, q2, q3⟩
    refine ⟨q1, ?_, q3.mono (by omega) (by omega)⟩
    show WC xm M0 L B P Q (s, l, r, u, y) cs g (zIt (fun p w => zMixL lo bo vl vr rs (nAt vs p) w) j (d + 1) (zMixL lo bo vl vr rs (nAt vs d) sum)) lo bo pa ps (vl, vr, rs, ya, sc) F w.2
    rw [ev]
    exact q2
theorem m_addNeedleE {x : Int32} {c1 s1 : Nat} {vs : List Int32} (hX : kXok xm) (hN : 20001 ≤ N) (hi : aInv nb g lo bo pa ps (vl, vr, rs, ya, sc)) (hb : bo.length ≤ 20000) (hlo : lo.length ≤ 20000) (hvs : vs = (if x = 0 then vl else vr)) (V : WC xm M0 L B P Q (s, l, r, u, y) cs g sum lo bo pa ps (vl, vr, rs, ya, sc) F mem) (S0 : St xm m0 mem c1 s1) : dOk (m_M_addNeedle xm N M0 x mem) (rV fun m => WC xm M0 L B P Q (s, l, r, u, y) cs g (zMixN lo bo vl vr rs vs sum) lo bo pa ps (vl, vr, rs, ya, sc) F m ∧ St xm m0 m (c1 + 30 * vs.length) (s1 + 132 * vs.length)) := by
  unfold m_M_addNeedle
  refine w_rc V.wr ?_
  refine ok_eR (m_needle V) ?_
  obtain ⟨i, a, q, cap, mc, es, vs', ha, hs, hw, hv, hvs'⟩ := c_ndA V x
  have e0 : vs' = vs := hvs'.trans hvs.symm
  subst e0
  rw [ha]
  have h24 : es.length ≤ 24 := by
    rw [hv.1, hvs']
    split
    · exact hi.sw.1
    · exact hi.sw.2.1
  have hid : ∀ v ∈ vs', aId lo.length v := by
    rw [hvs']
    split
    · exact hi.2.1.2.2.1
    · exact hi.2.1.2.2.2.1
  refine ok_rc (ls_hd V.1 i (hs sum)) ?_
  refine ok_eI (ls_size V.1 i (hs sum)) ?_
  have hl := hv.1
  rw [hl]
  refine ok_mono (add_13E hX hN hi hb hlo hs hw hv hid h24 vs'.length 0 N 0 0 sum mem (by omega) (by omega) V St.refl) ?_
  rintro w ⟨q1, q2, q3⟩
  exact ⟨q1, q2, (S0.trans q3).mono (by omega) (by omega)⟩
theorem dig_131E {it t : Nat} {z : Int32} {K103 : Nat → Nat → kM → dRes} (ht : t < rs.length) (htu : t < u.2.2.2.2.length) (hz : rs[t].length = 4) : ∀ (j d f : Nat) (sum : Int64) (mem : kM), d + j = 4 → j < f → wRl xm mem L B P Q (s, l, r, u, y) cs lo bo pa ps (vl, vr, rs, ya, sc) → HpS ([sIt it (t + 1) z u.2.2.1 u.1] :: wSg M0 L B P Q (s, l, r, u, y) cs g sum ps (vl, vr, rs, ya, sc) F) mem → (∀ m, wRl xm m L B P Q (s, l, r, u, y) cs lo bo pa ps (vl, vr, rs, ya, sc) → HpS ([sIt it (t + 1) z u.2.2.1 u.1] :: wSg M0 L B P Q (s, l, r, u, y) cs g (zIt (fun k w => zMix w ((rs.getD t []).getD k 0)) j d sum) ps (vl, vr, rs, ya, sc) F) m → St xm mem m 0 0 → dOk (K103 M0 it m) T) → dOk (m_M_digest_131 xm N K103 f M0 it u.2.2.2.2[t] 4 (Int32.ofNat d) mem) T := by
  have er : rs.getD t [] = rs[t] := by
    rw [List.getD_eq_getElem?_getD, List.getElem?_eq_getElem ht]
    rfl
  intro j
  induction j with
  | zero =>
    intro d f sum mem hd hf R H h
    obtain ⟨f, rfl⟩ : ∃ f', f = f' + 1 := ⟨f - 1, by omega⟩
    rw [m_M_digest_131, if_neg (fun z => by have := (i_lt (a := d) (b := 4) (by omega) (by omega)).mp z; omega)]
    exact h mem R H St.refl
  | succ j ih =>
    intro d f sum mem hd hf R H h
    obtain ⟨f, rfl⟩ : ∃ f', f = f' + 1 := ⟨f - 1, by omega⟩
    have hat : (sRu u.2.2.2.2 rs)[t]? = some (u.2.2.2.2[t], kAr rs[t]) := sRu_at (List.getElem?_eq_getElem htu) (List.getElem?_eq_getElem ht)
    have hl := H.look (xm := xm) 10 t rfl hat
    rw [m_M_digest_131, if_pos (show Int32.ofNat d < 4 from (i_lt (a := d) (b := 4) (by omega) (by omega)).mpr (by omega))]
    refine ok_iL hl (by rw [hz]; exact i_inB (by omega) (by decide)) ?_
    rw [i_nat (show d < 2 ^ 31 by omega), ← er]
    refine ok_rc (H.look 1 0 rfl rfl) ?_
    refine ok_cV (add_frontE H) fun m hh => ?_
    obtain ⟨H1, S1⟩ := hh
    rw [i_add1]
    refine ih (d + 1) f _ m (by omega) (by omega) (R.st S1) H1 fun m2 R2 H2 S2 => ?_
    exact h m2 R2 H2 ((S1.trans S2).mono (by omega) (by omega))
theorem dig_174E {i : Nat} {K161 : Nat → Int32 → kM → dRes} (hX : kXok xm) (hN : 120 ≤ N) (hi : aInv nb g lo bo pa ps (vl, vr, rs, ya, sc)) (h7 : g 7 = jo) (hil : i < pa.length) : ∀ (j d f c1 s1 : Nat) (sum : Int64) (mem : kM), d + j = 5 → j < f → WC xm M0 L B P Q (s, l, r, u, y) cs g sum lo bo pa ps (vl, vr, rs, ya, sc) F mem → St xm m0 mem c1 s1 → (∀ m, WC xm M0 L B P Q (s, l, r, u, y) cs g (zMix (zMix (zIt (fun k w => zMix w (pInf (pa.getD i 0) k)) j d sum) (Int32.ofNat (zT jo pa vl vr ya i).1.2.1)) (zSpent jo pa vl vr ya i)) lo bo pa ps (vl, vr, rs, ya, sc) F m → St xm m0 m (c1 + 1 * j) (s1 + 5 * j) → dOk (K161 M0 (Int32.ofNat i + 1) m) T) → dOk (m_M_digest_174 xm N K161 f M0 (Int32.ofNat i) (Int32.ofNat d) mem) T := by
  obtain ⟨n0, hn0, p1, p2, pz⟩ := hi.2.2.2.2.2 _ (List.getElem_mem hil)
  have ep : pa.getD i 0 = Int32.ofNat n0 := by
    rw [List.getD_eq_getElem?_getD, List.getElem?_eq_getElem hil, hn0]
    rfl
  intro j
  induction j with
  | zero =>
    intro d f c1 s1 sum mem hd hf V S0 h
    obtain ⟨f, rfl⟩ : ∃ f', f = f' + 1 := ⟨f - 1, by omega⟩
    rw [m_M_digest_174, if_neg (fun z => by have := (i_lt (a := d) (b := 5) (by omega) (by omega)).mp z; omega)]
    refine w_rc V.wr ?_
    refine d_addE (d_pureE V (m_would0 hX hN hil V.wr hi h7)) S0 fun m1 V1 S1 => ?_
    refine w_rc V1.wr ?_
    refine d_addE (d_pureE V1 (m_would1 hX hN hil V1.wr hi h7)) S1 fun m2 V2 S2 => ?_
    exact h m2 V2 (S2.mono (by omega) (by omega))
  | succ j ih =>
    intro d f c1 s1 sum mem hd hf V S0 h
    obtain ⟨f, rfl⟩ : ∃ f', f = f' + 1 := ⟨f - 1, by omega⟩
    rw [m_M_digest_174, if_pos (show Int32.ofNat d < 5 from (i_lt (a := d) (b := 5) (by omega) (by omega)).mpr (by omega))]
    refine w_rc V.wr ?_
    refine d_addE (m_ofPatternNowE hX (by omega) (by omega) hil hn0 p1 p2 pz V) S0 fun m1 V1 S1 => ?_
    rw [i_add1]
    rw [← ep] at V1
    exact ih (d + 1) f _ _ _ m1 (by omega) (by omega) V1 S1 fun m2 V2 S2 => h m2 V2 (S2.mono (by omega) (by omega))
theorem dig_161E (hX : kXok xm) (hN : 120 ≤ N) (hi : aInv nb g lo bo pa ps (vl, vr, rs, ya, sc)) (h7 : g 7 = jo) : ∀ (j d f c1 s1 : Nat) (sum : Int64) (mem : kM), d + j = pa.length → j < f → WC xm M0 L B P Q (s, l, r, u, y) cs g sum lo bo pa ps (vl, vr, rs, ya, sc) F mem → St xm m0 mem c1 s1 → dOk (m_M_digest_161 xm N f M0 (Int32.ofNat d) mem) (rJ fun v m => v = zMix (zIt (zMixP jo pa vl vr ya) j d sum) (zBest jo pa vl vr ya) ∧ WD xm M0 L B P Q (s, l, r, u, y) cs g lo bo pa ps (vl, vr, rs, ya, sc) F m0 (c1 + 5 * j) (s1 + 25 * j) m) := by
  have h6 : pa.length ≤ 6 := hi.2.2.2.2.1
  intro j
  induction j with
  | zero =>
    intro d f c1 s1 sum mem hd hf V S0
    obtain ⟨f, rfl⟩ : ∃ f', f = f' + 1 := ⟨f - 1, by omega⟩
    have n5 : P.2.2.2.2.length = pa.length := V.2.1.2.2.2.2.1.1
    rw [m_M_digest_161]
    refine ok_gR (V.1.look 0 0 rfl rfl) rfl ?_
    refine ok_rc (ls_hd V.1 3 rfl) ?_
    refine ok_eI (ls_size (a := P.1) (q := P.2.1) (mc := P.2.2.1) (cap := P.2.2.2.1) (es := P.2.2.2.2) V.1 3 rfl) ?_
    rw [n5, if_neg (fun z => by have := (i_lt (by omega) (by omega)).mp z; omega)]
    refine w_rc V.wr ?_
    refine d_addE (d_pureE V (m_bestNowE hX hN V.wr hi h7)) S0 fun m1 V1 S1 => ?_
    refine ok_gJ (V1.1.look 0 0 rfl rfl) rfl ?_
    exact ok_J ⟨rfl, _, V1, S1.mono (by omega) (by omega)⟩
  | succ j ih =>
    intro d f c1 s1 sum mem hd hf V S0
    obtain ⟨f, rfl⟩ : ∃ f', f = f' + 1 := ⟨f - 1, by omega⟩
    have n5 : P.2.2.2.2.length = pa.length := V.2.1.2.2.2.2.1.1
    rw [m_M_digest_161]
    refine ok_gR (V.1.look 0 0 rfl rfl) rfl ?_
    refine ok_rc (ls_hd V.1 3 rfl) ?_
    refine ok_eI (ls_size (a := P.1) (q := P.2.1) (mc := P.2.2.1) (cap := P.2.2.2.1) (es := P.2.2.2.2) V.1 3 rfl) ?_
    rw [n5, if_pos ((i_lt (by omega) (by omega)).mpr (by omega))]
    refine dig_174E (jo := jo) hX hN hi h7 (i := d) (by omega) 5 0 N c1 s1 sum mem (by omega) (by omega) V S0 fun m1 V1 S1 => ?_
    rw [i_add1]
    refine ok_mono (ih (d + 1) f _ _ _ m1 (by omega) (by omega) V1 S1) ?_
    rintro w ⟨v, q1, q0, q2⟩
    exact ⟨v, q1, q0, WD.mono q2 (by omega) (by omega)⟩
theorem dig_103E {it : Nat} (hX : kXok xm) (hN : 120 ≤ N) (hi : aInv nb g lo bo pa ps (vl, vr, rs, ya, sc)) (h7 : g 7 = jo) (hx : L.1 = M0 + 1 ∧ B.1 = M0 + 2 ∧ P.1 = M0 + 3 ∧ Q.1 = M0 + 4) : ∀ (j d f c1 s1 : Nat) (z : Int32) (sum : Int64) (mem : kM), rs.length = d + j → j < f → wRl xm mem L B P Q (s, l, r, u, y) cs lo bo pa ps (vl, vr, rs, ya, sc) → HpS ([sIt it d z u.2.2.1 u.1] :: wSg M0 L B P Q (s, l, r, u, y) cs g sum ps (vl, vr, rs, ya, sc) F) mem → St xm m0 mem c1 s1 → dOk (m_M_digest_103 xm N f M0 it mem) (rJ fun v m => v = zDig4 jo pa vl vr ya (zIt (zMixR rs) j d sum) ∧ WD xm M0 L B P Q (s, l, r, u, y) cs g lo bo pa ps (vl, vr, rs, ya, sc) F m0 (c1 + 30) (s1 + 150) m) := by
  have h6 : pa.length ≤ 6 := hi.2.2.2.2.1
  have h9 : rs.length ≤ 9 := hi.sw.2.2.1
  have hr4 : ∀ z ∈ rs, z.length = 4 := hi.sw.2.2.2.1
  intro j
  induction j with
  | zero =>
    intro d f c1 s1 z sum mem hd hf R H S0
    obtain ⟨f, rfl⟩ : ∃ f', f = f' + 1 := ⟨f - 1, by omega⟩
    have t9 := R.2.2.2.2.2.2.1.2.2.2.2.2.2
    dsimp only at t9
    rw [m_M_digest_103]
    refine ok_rc (H.look 0 0 rfl rfl) ?_
    refine ok_eI (itr_has (l := 0) (n := u.2.2.2.2.length) (H.look 0 0 rfl rfl) (H.look 9 0 rfl rfl) (by omega) (by omega)) ?_
    have e1 : (if d = u.2.2.2.2.length then (0 : Int32) else 1) = 0 := if_pos (by omega)
    rw [e1, if_pos rfl]
    refine ok_mono (dig_161E (jo := jo) hX hN hi h7 pa.length 0 N c1 s1 sum mem (by omega) (by omega) ⟨H.drop, R, hx⟩ S0) ?_
    rintro w ⟨v, q1, q0, q2⟩
    exact ⟨v, q1, q0, WD.mono q2 (by omega) (by omega)⟩
  | succ j ih =>
    intro d f c1 s1 z sum mem hd hf R H S0
    obtain ⟨f, rfl⟩ : ∃ f', f = f' + 1 := ⟨f - 1, by omega⟩
    have t9 := R.2.2.2.2.2.2.1.2.2.2.2.2.2
    have t3 := R.2.2.2.2.2.2.1.2.2.1
    dsimp only at t9 t3
    have hu : d < u.2.2.2.2.length := by omega
    have hdr : d < rs.length := by omega
    rw [m_M_digest_103]
    refine ok_rc (H.look 0 0 rfl rfl) ?_
    refine ok_eI (itr_has (l := 0) (n := u.2.2.2.2.length) (H.look 0 0 rfl rfl) (H.look 9 0 rfl rfl) (by omega) (by omega)) ?_
    have e1 : (if d = u.2.2.2.2.length then (0 : Int32) else 1) = 1 := if_neg (by omega)
    rw [e1, if_neg (show ¬ ((1 : Int32) = 0) by decide)]
    refine ok_rc (H.look 0 0 rfl rfl) ?_
    refine ok_cR (ls_next (a := u.1) (q := u.2.1) (mc := u.2.2.1) (cap := u.2.2.2.1) (es := u.2.2.2.2) t3 H 8 rfl hu) fun e m1 hh => ?_
    obtain ⟨rfl, H1, S1⟩ := hh
    have hat : (sRu u.2.2.2.2 rs)[d]? = some (u.2.2.2.2[d], kAr rs[d]) := sRu_at (List.getElem?_eq_getElem hu) (List.getElem?_eq_getElem hdr)
    have hz : rs[d].length = 4 := hr4 _ (List.getElem_mem hdr)
    have hl := H1.look (xm := xm) 10 d rfl hat
    refine ok_ccA hl (H1.ge 10 d rfl hat) ?_
    refine ok_lenI hl (by decide) ?_
    rw [hz]
    refine dig_131E hdr hu hz 4 0 N sum m1 (by omega) (by omega) (R.st S1) H1 fun m2 R2 H2 S2 => ?_
    refine ok_mono (ih (d + 1) f _ _ _ _ m2 (by omega) (by omega) R2 H2 (S0.trans (S1.trans S2))) ?_
    rintro w ⟨v, q1, q0, q2⟩
    exact ⟨v, q1, q0, WD.mono q2 (by omega) (by omega)⟩
theorem dig_37E (hX : kXok xm) (hN : 20001 ≤ N) (hi : aInv nb g lo bo pa ps (vl, vr, rs, ya, sc)) (h7 : g 7 = jo) (hb : bo.length ≤ 20000) (hlo : lo.length ≤ 20000) : ∀ (j d f c1 s1 : Nat) (sum : Int64) (mem : kM), d + j = nb → j < f → WC xm M0 L B P Q (s, l, r, u, y) cs g sum lo bo pa ps (vl, vr, rs, ya, sc) F mem → St xm m0 mem c1 s1 → dOk (m_M_digest_37 xm N f M0 (Int32.ofNat d) mem) (rJ fun v m => v = zDig2 jo lo bo pa vl vr ya rs (sc 4) (zIt (fun i w => zMix w (ya.getD i 0)) j d sum) ∧ WD xm M0 L B P Q (s, l, r, u, y) cs g lo bo pa ps (vl, vr, rs, ya, sc) F m0 (c1 + 751) (s1 + 3322) m) := by
  have h9 : rs.length ≤ 9 := hi.sw.2.2.1
  have h24 : vl.length + vr.length ≤ 24 := hi.2.1.2.1
  have h4 : ya.length = 4 := hi.sw.2.2.2.2
  have hnb : g 6 = Int32.ofNat nb := hi.1.1
  have hn4 : nb ≤ 4 := hi.1.2.1
  intro j
  induction j with
  | zero =>
    intro d f c1 s1 sum mem hd hf V S0
    obtain ⟨f, rfl⟩ : ∃ f', f = f' + 1 := ⟨f - 1, by omega⟩
    rw [m_M_digest_37]
    refine ok_gI (V.1.look 0 0 rfl rfl) rfl ?_
    rw [hnb, if_neg (fun z => by have := (i_lt (by omega) (by omega)).mp z; omega)]
    refine w_rc V.wr ?_
    refine ok_cV (m_addNeedleE (x := 0) (vs := vl) hX hN hi hb hlo rfl V S0) fun m1 D1 => ?_
    obtain ⟨V1, S1⟩ := D1
    refine w_rc V1.wr ?_
    refine ok_cV (m_addNeedleE (x := 1) (vs := vr) hX hN hi hb hlo rfl V1 S1) fun m2 D2 => ?_
    obtain ⟨V2, S2⟩ := D2
    refine w_rc V2.wr ?_
    refine d_addE (d_pureE V2 (m_widthNowE (N := N) (x := 0) hX (by omega) V2 hi (by omega))) S2 fun m3 V3 S3 => ?_
    refine w_rc V3.wr ?_
    refine d_addE (d_pureE V3 (m_widthNowE (N := N) (x := 1) hX (by omega) V3 hi (by omega))) S3 fun m4 V4 S4 => ?_
    refine ok_gR (V4.1.look 0 0 rfl rfl) rfl ?_
    refine ok_gR (V4.1.look 5 0 rfl rfl) rfl ?_
    refine ok_rc (ls_hd V4.1 8 rfl) ?_
    refine ok_cR (ls_iterator (a := u.1) (q := u.2.1) (mc := u.2.2.1) (cap := u.2.2.2.1) (es := u.2.2.2.2) V4.1 8 rfl) fun it m5 hh => ?_
    obtain ⟨H5, S5⟩ := hh
    refine ok_mono (dig_103E (jo := jo) hX (by omega) hi h7 V4.2.2 rs.length 0 N _ _ (-1) _ m5 (by omega) (by omega) (V4.2.1.st S5) H5 (S4.trans S5)) ?_
    rintro w ⟨v, q1, q0, q2⟩
    exact ⟨v, q1, q0, WD.mono q2 (by omega) (by omega)⟩
  | succ j ih =>
    intro d f c1 s1 sum mem hd hf V S0
    obtain ⟨f, rfl⟩ : ∃ f', f = f' + 1 := ⟨f - 1, by omega⟩
    rw [m_M_digest_37]
    refine ok_gI (V.1.look 0 0 rfl rfl) rfl ?_
    rw [hnb, if_pos ((i_lt (by omega) (by omega)).mpr (by omega))]
    refine ok_gR (V.1.look 0 0 rfl rfl) rfl ?_
    refine ok_gR (V.1.look 5 0 rfl rfl) rfl ?_
    refine ok_iL (V.1.look 10 0 rfl rfl) (by dsimp only; rw [h4]; exact i_inB (by omega) (by decide)) ?_
    rw [i_nat (show d < 2 ^ 31 by omega)]
    refine d_addE' V S0 fun m1 V1 S1 => ?_
    rw [i_add1]
    exact ih (d + 1) f _ _ _ m1 (by omega) (by omega) V1 S1
theorem dig_14E (hX : kXok xm) (hN : 20001 ≤ N) (hi : aInv nb g lo bo pa ps (vl, vr, rs, ya, sc)) (h7 : g 7 = jo) (hb : bo.length ≤ 20000) (hlo : lo.length ≤ 20000) : ∀ (j d f c1 s1 : Nat) (sum : Int64) (mem : kM), d + j = 16 → j < f → WC xm M0 L B P Q (s, l, r, u, y) cs g sum lo bo pa ps (vl, vr, rs, ya, sc) F mem → St xm m0 mem c1 s1 → dOk (m_M_digest_14 xm N f M0 (Int32.ofNat d) mem) (rJ fun v m => v = zDig2 jo lo bo pa vl vr ya rs (sc 4) (zIt (fun i w => zMix w (ya.getD i 0)) nb 0 (zIt (fun i w => zMix w (zMny nb jo pa ps (vl, vr, rs, ya, sc) i)) j d sum)) ∧ WD xm M0 L B P Q (s, l, r, u, y) cs g lo bo pa ps (vl, vr, rs, ya, sc) F m0 (c1 + 2 * j + 751) (s1 + 20 * j + 3322) m) := by
  have hn4 : nb ≤ 4 := hi.1.2.1
  intro j
  induction j with
  | zero =>
    intro d f c1 s1 sum mem hd hf V S0
    obtain ⟨f, rfl⟩ : ∃ f', f = f' + 1 := ⟨f - 1, by omega⟩
    rw [m_M_digest_14, if_neg (fun z => by have := (i_lt (a := d) (b := 16) (by omega) (by omega)).mp z; omega)]
    refine ok_mono (dig_37E (jo := jo) hX hN hi h7 hb hlo nb 0 N c1 s1 sum mem (by omega) (by omega) V S0) ?_
    rintro w ⟨v, q1, q0, q2⟩
    exact ⟨v, q1, q0, WD.mono q2 (by omega) (by omega)⟩
  | succ j ih =>
    intro d f c1 s1 sum mem hd hf V S0
    obtain ⟨f, rfl⟩ : ∃ f', f = f' + 1 := ⟨f - 1, by omega⟩
    rw [m_M_digest_14, if_pos (show Int32.ofNat d < 16 from (i_lt (a := d) (b := 16) (by omega) (by omega)).mpr (by omega))]
    refine w_rc V.wr ?_
    refine d_addE (m_manyNowE (jo := jo) (by omega) (by omega) V hi h7) S0 fun m1 V1 S1 => ?_
    rw [i_add1]
    refine ok_mono (ih (d + 1) f _ _ _ m1 (by omega) (by omega) V1 S1) ?_
    rintro w ⟨v, q1, q0, q2⟩
    exact ⟨v, q1, q0, WD.mono q2 (by omega) (by omega)⟩
theorem v_digest (hX : kXok xm) (hN : 20001 ≤ N) (hk : k < 512) (I : RJ xm M0 t (nb, jo, lo, bo, pa, ps, (vl, vr, rs, ya, sc)) k C S F mem) : dOk (m_M_digest xm N M0 mem) (rJ fun v m => v = zDig nb jo lo bo pa ps vl vr rs ya sc ∧ ∃ t', RJ xm M0 t' (nb, jo, lo, bo, pa, ps, (vl, vr, rs, ya, sc)) (k + 1) (C + 783) (S + 3642) F m) := by
  unfold m_M_digest
  obtain ⟨g, sum, ck, W, hi, ⟨-, h7⟩, hl, hb, h1, h2⟩ := I
  dsimp only at W hi h7 hl hb
  obtain ⟨L, B, P, Q, ⟨s, l, r, u, y⟩, cs, H, R, hck, hx⟩ := W
  subst hck
  refine os_p H 0 0 rfl rfl rfl rfl fun m H1 S1 => ?_
  have V : WC xm M0 L B P Q (s, l, r, u, y) cs (kUp g 0 0) sum lo bo pa ps (vl, vr, rs, ya, sc) F m := ⟨H1, R.st S1, hx⟩
  have hi' : aInv nb (kUp g 0 0) lo bo pa ps (vl, vr, rs, ya, sc) := hi
  refine os_p V.1 0 0 rfl rfl rfl rfl fun m1 H2 S2 => ?_
  refine ok_mono (dig_14E (m0 := m) (g := kUp g 0 0) (jo := jo) (L := L) (B := B) (P := P) (Q := Q) (s := s) (y := y) (l := l) (r := r) (u := u) (cs := cs) hX hN hi' h7 (by omega) (by omega) 16 0 N 0 0 58309 m1 (by omega) (by omega) ⟨H2, V.2.1.st S2, V.2.2⟩ S2) ?_
  rintro w ⟨v, q1, q0, sum', q2, q3⟩
  exact ⟨v, q1, q0, 0, RJ.mk' h1 h2 q2.wr hi' ⟨rfl, h7⟩ (by omega) (by omega) (Nat.le_refl _) ((S1.trans q3).mono (by omega) (by omega))⟩
end GE
