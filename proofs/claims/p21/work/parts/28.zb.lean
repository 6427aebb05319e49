/-! ===== the reference: digest, the whole ===== -/
section KZ2
variable {xm : Nat → Option kE} {mem m0 : kM} {N M0 nb k C S ck c0 s0 : Nat} {F X : kSg} {g : Nat → Int32} {sum : Int64} {lo : List kLf} {bo pa : List Int32} {ps : List aS} {T : kO × kM → Prop} {L B P Q : kLi} {s y : Nat} {l r u : kLi} {cs : List kCs} {vl vr ya : List Int32} {rs : List (List Int32)} {sc : Nat → Int32} {st : aS} {c : kCs}
theorem dig_174 {i : Nat} {K161 : Nat → Int32 → kM → dRes} (hX : kXok xm) (hN : 120 ≤ N) (hi : aInv nb g lo bo pa ps (vl, vr, rs, ya, sc)) (hil : i < pa.length) : ∀ (j d f c1 s1 : Nat) (mem : kM), d + j = 5 → j < f → WD xm M0 L B P Q (s, l, r, u, y) cs g lo bo pa ps (vl, vr, rs, ya, sc) F m0 c1 s1 mem → (∀ m, WD xm M0 L B P Q (s, l, r, u, y) cs g lo bo pa ps (vl, vr, rs, ya, sc) F m0 (c1 + 1 * j) (s1 + 5 * j) m → dOk (K161 M0 (Int32.ofNat i + 1) m) T) → dOk (m_M_digest_174 xm N K161 f M0 (Int32.ofNat i) (Int32.ofNat d) mem) T := by
  intro j
  induction j with
  | zero =>
    intro d f c1 s1 mem hd hf D h
    obtain ⟨f, rfl⟩ : ∃ f', f = f' + 1 := ⟨f - 1, by omega⟩
    obtain ⟨sum, V, S0⟩ := D
    rw [m_M_digest_174, if_neg (fun z => by have := (i_lt (a := d) (b := 5) (by omega) (by omega)).mp z; omega)]
    refine w_rc V.wr ?_
    refine d_add (d_pure V (m_wouldNow hX hN hil V.wr hi)) S0 fun m1 D1 => ?_
    obtain ⟨sum1, V1, S1⟩ := D1
    refine w_rc V1.wr ?_
    refine d_add (d_pure V1 (m_wouldNow hX hN hil V1.wr hi)) S1 fun m2 D2 => ?_
    exact h m2 (D2.mono (by omega) (by omega))
  | succ j ih =>
    intro d f c1 s1 mem hd hf D h
    obtain ⟨f, rfl⟩ : ∃ f', f = f' + 1 := ⟨f - 1, by omega⟩
    obtain ⟨sum, V, S0⟩ := D
    rw [m_M_digest_174, if_pos (show Int32.ofNat d < 5 from (i_lt (a := d) (b := 5) (by omega) (by omega)).mpr (by omega))]
    refine w_rc V.wr ?_
    refine d_add (m_ofPatternNow hX (by omega) (by omega) hil hi.2.2.2.2.2 V) S0 fun m1 D1 => ?_
    rw [i_add1]
    exact ih (d + 1) f _ _ m1 (by omega) (by omega) D1 fun m2 D2 => h m2 (D2.mono (by omega) (by omega))
theorem dig_161 (hX : kXok xm) (hN : 120 ≤ N) (hi : aInv nb g lo bo pa ps (vl, vr, rs, ya, sc)) : ∀ (j d f c1 s1 : Nat) (mem : kM), d + j = pa.length → j < f → WD xm M0 L B P Q (s, l, r, u, y) cs g lo bo pa ps (vl, vr, rs, ya, sc) F m0 c1 s1 mem → dOk (m_M_digest_161 xm N f M0 (Int32.ofNat d) mem) (rJ fun v m => WD xm M0 L B P Q (s, l, r, u, y) cs g lo bo pa ps (vl, vr, rs, ya, sc) F m0 (c1 + 5 * j) (s1 + 25 * j) m) := by
  have h6 : pa.length ≤ 6 := hi.2.2.2.2.1
  intro j
  induction j with
  | zero =>
    intro d f c1 s1 mem hd hf D
    obtain ⟨f, rfl⟩ : ∃ f', f = f' + 1 := ⟨f - 1, by omega⟩
    obtain ⟨sum, V, S0⟩ := D
    have n5 : P.2.2.2.2.length = pa.length := V.2.1.2.2.2.2.1.1
    rw [m_M_digest_161]
    refine ok_gR (V.1.look 0 0 rfl rfl) rfl ?_
    refine ok_rc (ls_hd V.1 3 rfl) ?_
    refine ok_eI (ls_size (a := P.1) (q := P.2.1) (mc := P.2.2.1) (cap := P.2.2.2.1) (es := P.2.2.2.2) V.1 3 rfl) ?_
    rw [n5, if_neg (fun z => by have := (i_lt (by omega) (by omega)).mp z; omega)]
    refine w_rc V.wr ?_
    refine d_add (d_pure V (m_bestNow hX hN V.wr hi)) S0 fun m1 D1 => ?_
    obtain ⟨sum1, V1, S1⟩ := D1
    refine ok_gJ (V1.1.look 0 0 rfl rfl) rfl ?_
    exact ok_J ⟨sum1, V1, S1.mono (by omega) (by omega)⟩
  | succ j ih =>
    intro d f c1 s1 mem hd hf D
    obtain ⟨f, rfl⟩ : ∃ f', f = f' + 1 := ⟨f - 1, by omega⟩
    obtain ⟨sum, V, S0⟩ := D
    have n5 : P.2.2.2.2.length = pa.length := V.2.1.2.2.2.2.1.1
    rw [m_M_digest_161]
    refine ok_gR (V.1.look 0 0 rfl rfl) rfl ?_
    refine ok_rc (ls_hd V.1 3 rfl) ?_
    refine ok_eI (ls_size (a := P.1) (q := P.2.1) (mc := P.2.2.1) (cap := P.2.2.2.1) (es := P.2.2.2.2) V.1 3 rfl) ?_
    rw [n5, if_pos ((i_lt (by omega) (by omega)).mpr (by omega))]
    refine dig_174 hX hN hi (i := d) (by omega) 5 0 N c1 s1 mem (by omega) (by omega) ⟨sum, V, S0⟩ fun m1 D1 => ?_
    rw [i_add1]
    refine ok_mono (ih (d + 1) f _ _ m1 (by omega) (by omega) D1) ?_
    rintro w ⟨v, q1, q2⟩
    exact ⟨v, q1, WD.mono q2 (by omega) (by omega)⟩
theorem dig_103 {it : Nat} (hX : kXok xm) (hN : 120 ≤ N) (hi : aInv nb g lo bo pa ps (vl, vr, rs, ya, sc)) (hx : L.1 = M0 + 1 ∧ B.1 = M0 + 2 ∧ P.1 = M0 + 3 ∧ Q.1 = M0 + 4) : ∀ (j d f c1 s1 : Nat) (z : Int32) (sum : Int64) (mem : kM), rs.length = d + j → j < f → wRl xm mem L B P Q (s, l, r, u, y) cs lo bo pa ps (vl, vr, rs, ya, sc) → HpS ([sIt it d z u.2.2.1 u.1] :: wSg M0 L B P Q (s, l, r, u, y) cs g sum ps (vl, vr, rs, ya, sc) F) mem → St xm m0 mem c1 s1 → dOk (m_M_digest_103 xm N f M0 it mem) (rJ fun v m => WD xm M0 L B P Q (s, l, r, u, y) cs g lo bo pa ps (vl, vr, rs, ya, sc) F m0 (c1 + 30) (s1 + 150) m) := by
  have h6 : pa.length ≤ 6 := hi.2.2.2.2.1
  have h9 : rs.length ≤ 9 := hi.sw.2.2.1
  have hr4 : ∀ z ∈ rs, z.length = 4 := hi.sw.2.2.2.1
  intro j
  induction j with
  | zero =>
    intro d f c1 s1 z sum mem hd hf R H S0
    obtain ⟨f, rfl⟩ : ∃ f', f = f' + 1 := ⟨f - 1, by omega⟩
    have t9 := R.2.2.2.2.2.2.1.2.2.2.2.2.2
    dsimp only at t9
    rw [m_M_digest_103]
    refine ok_rc (H.look 0 0 rfl rfl) ?_
    refine ok_eI (itr_has (l := 0) (n := u.2.2.2.2.length) (H.look 0 0 rfl rfl) (H.look 9 0 rfl rfl) (by omega) (by omega)) ?_
    have e1 : (if d = u.2.2.2.2.length then (0 : Int32) else 1) = 0 := if_pos (by omega)
    rw [e1, if_pos rfl]
    refine ok_mono (dig_161 hX hN hi pa.length 0 N c1 s1 mem (by omega) (by omega) ⟨sum, ⟨H.drop, R, hx⟩, S0⟩) ?_
    rintro w ⟨v, q1, q2⟩
    exact ⟨v, q1, WD.mono q2 (by omega) (by omega)⟩
  | succ j ih =>
    intro d f c1 s1 z sum mem hd hf R H S0
    obtain ⟨f, rfl⟩ : ∃ f', f = f' + 1 := ⟨f - 1, by omega⟩
    have t9 := R.2.2.2.2.2.2.1.2.2.2.2.2.2
    have t3 := R.2.2.2.2.2.2.1.2.2.1
    dsimp only at t9 t3
    have hu : d < u.2.2.2.2.length := by omega
    have hdr : d < rs.length := by omega
    rw [m_M_digest_103]
    refine ok_rc (H.look 0 0 rfl rfl) ?_
    refine ok_eI (itr_has (l := 0) (n := u.2.2.2.2.length) (H.look 0 0 rfl rfl) (H.look 9 0 rfl rfl) (by omega) (by omega)) ?_
    have e1 : (if d = u.2.2.2.2.length then (0 : Int32) else 1) = 1 := if_neg (by omega)
    rw [e1, if_neg (show ¬ ((1 : Int32) = 0) by decide)]
    refine ok_rc (H.look 0 0 rfl rfl) ?_
    refine ok_cR (ls_next (a := u.1) (q := u.2.1) (mc := u.2.2.1) (cap := u.2.2.2.1) (es := u.2.2.2.2) t3 H 8 rfl hu) fun e m1 hh => ?_
    obtain ⟨rfl, H1, S1⟩ := hh
    have hat : (sRu u.2.2.2.2 rs)[d]? = some (u.2.2.2.2[d], kAr rs[d]) := sRu_at (List.getElem?_eq_getElem hu) (List.getElem?_eq_getElem hdr)
    have hz : rs[d].length = 4 := hr4 _ (List.getElem_mem hdr)
    have hl := H1.look (xm := xm) 10 d rfl hat
    refine ok_ccA hl (H1.ge 10 d rfl hat) ?_
    refine ok_lenI hl (by decide) ?_
    rw [hz]
    refine dig_131 hx hdr hu hz 4 0 N sum m1 (by omega) (by omega) (R.st S1) H1 fun sum2 m2 R2 H2 S2 => ?_
    refine ok_mono (ih (d + 1) f _ _ _ sum2 m2 (by omega) (by omega) R2 H2 (S0.trans (S1.trans S2))) ?_
    rintro w ⟨v, q1, q2⟩
    exact ⟨v, q1, WD.mono q2 (by omega) (by omega)⟩
theorem dig_37 (hX : kXok xm) (hN : 20001 ≤ N) (hi : aInv nb g lo bo pa ps (vl, vr, rs, ya, sc)) (hb : bo.length ≤ 20000) (hlo : lo.length ≤ 20000) : ∀ (j d f c1 s1 : Nat) (mem : kM), d + j = nb → j < f → WD xm M0 L B P Q (s, l, r, u, y) cs g lo bo pa ps (vl, vr, rs, ya, sc) F m0 c1 s1 mem → dOk (m_M_digest_37 xm N f M0 (Int32.ofNat d) mem) (rJ fun v m => WD xm M0 L B P Q (s, l, r, u, y) cs g lo bo pa ps (vl, vr, rs, ya, sc) F m0 (c1 + 751) (s1 + 3322) m) := by
  have h9 : rs.length ≤ 9 := hi.sw.2.2.1
  have h24 : vl.length + vr.length ≤ 24 := hi.2.1.2.1
  have h4 : ya.length = 4 := hi.sw.2.2.2.2
  have hnb : g 6 = Int32.ofNat nb := hi.1.1
  have hn4 : nb ≤ 4 := hi.1.2.1
  intro j
  induction j with
  | zero =>
    intro d f c1 s1 mem hd hf D
    obtain ⟨f, rfl⟩ : ∃ f', f = f' + 1 := ⟨f - 1, by omega⟩
    obtain ⟨sum, V, S0⟩ := D
    rw [m_M_digest_37]
    refine ok_gI (V.1.look 0 0 rfl rfl) rfl ?_
    rw [hnb, if_neg (fun z => by have := (i_lt (by omega) (by omega)).mp z; omega)]
    refine w_rc V.wr ?_
    refine ok_cV (m_addNeedle (x := 0) (vs := vl) hX hN hi hb hlo rfl V S0) fun m1 D1 => ?_
    obtain ⟨sum1, V1, S1⟩ := D1
    refine w_rc V1.wr ?_
    refine ok_cV (m_addNeedle (x := 1) (vs := vr) hX hN hi hb hlo rfl V1 S1) fun m2 D2 => ?_
    obtain ⟨sum2, V2, S2⟩ := D2
    refine w_rc V2.wr ?_
    refine d_add (d_pure V2 (by obtain ⟨v, -, hv⟩ := m_widthNow (N := N) (x := 0) hX (by omega) V2 hi; exact ⟨_, hv⟩)) S2 fun m3 D3 => ?_
    obtain ⟨sum3, V3, S3⟩ := D3
    refine w_rc V3.wr ?_
    refine d_add (d_pure V3 (by obtain ⟨v, -, hv⟩ := m_widthNow (N := N) (x := 1) hX (by omega) V3 hi; exact ⟨_, hv⟩)) S3 fun m4 D4 => ?_
    obtain ⟨sum4, V4, S4⟩ := D4
    refine ok_gR (V4.1.look 0 0 rfl rfl) rfl ?_
    refine ok_gR (V4.1.look 5 0 rfl rfl) rfl ?_
    refine ok_rc (ls_hd V4.1 8 rfl) ?_
    refine ok_cR (ls_iterator (a := u.1) (q := u.2.1) (mc := u.2.2.1) (cap := u.2.2.2.1) (es := u.2.2.2.2) V4.1 8 rfl) fun it m5 hh => ?_
    obtain ⟨H5, S5⟩ := hh
    refine ok_mono (dig_103 hX (by omega) hi V4.2.2 rs.length 0 N _ _ (-1) sum4 m5 (by omega) (by omega) (V4.2.1.st S5) H5 (S4.trans S5)) ?_
    rintro w ⟨v, q1, q2⟩
    exact ⟨v, q1, WD.mono q2 (by omega) (by omega)⟩
  | succ j ih =>
    intro d f c1 s1 mem hd hf D
    obtain ⟨f, rfl⟩ : ∃ f', f = f' + 1 := ⟨f - 1, by omega⟩
    obtain ⟨sum, V, S0⟩ := D
    rw [m_M_digest_37]
    refine ok_gI (V.1.look 0 0 rfl rfl) rfl ?_
    rw [hnb, if_pos ((i_lt (by omega) (by omega)).mpr (by omega))]
    refine ok_gR (V.1.look 0 0 rfl rfl) rfl ?_
    refine ok_gR (V.1.look 5 0 rfl rfl) rfl ?_
    refine ok_iL (V.1.look 10 0 rfl rfl) (by dsimp only; rw [h4]; exact i_inB (by omega) (by decide)) ?_
    refine d_add' V S0 fun m1 D1 => ?_
    rw [i_add1]
    exact ih (d + 1) f _ _ m1 (by omega) (by omega) D1
theorem dig_14 (hX : kXok xm) (hN : 20001 ≤ N) (hi : aInv nb g lo bo pa ps (vl, vr, rs, ya, sc)) (hb : bo.length ≤ 20000) (hlo : lo.length ≤ 20000) : ∀ (j d f c1 s1 : Nat) (mem : kM), d + j = 16 → j < f → WD xm M0 L B P Q (s, l, r, u, y) cs g lo bo pa ps (vl, vr, rs, ya, sc) F m0 c1 s1 mem → dOk (m_M_digest_14 xm N f M0 (Int32.ofNat d) mem) (rJ fun v m => WD xm M0 L B P Q (s, l, r, u, y) cs g lo bo pa ps (vl, vr, rs, ya, sc) F m0 (c1 + 2 * j + 751) (s1 + 20 * j + 3322) m) := by
  have hn4 : nb ≤ 4 := hi.1.2.1
  intro j
  induction j with
  | zero =>
    intro d f c1 s1 mem hd hf D
    obtain ⟨f, rfl⟩ : ∃ f', f = f' + 1 := ⟨f - 1, by omega⟩
    rw [m_M_digest_14, if_neg (fun z => by have := (i_lt (a := d) (b := 16) (by omega) (by omega)).mp z; omega)]
    refine ok_mono (dig_37 hX hN hi hb hlo nb 0 N c1 s1 mem (by omega) (by omega) D) ?_
    rintro w ⟨v, q1, q2⟩
    exact ⟨v, q1, WD.mono q2 (by omega) (by omega)⟩
  | succ j ih =>
    intro d f c1 s1 mem hd hf D
    obtain ⟨f, rfl⟩ : ∃ f', f = f' + 1 := ⟨f - 1, by omega⟩
    obtain ⟨sum, V, S0⟩ := D
    rw [m_M_digest_14, if_pos (show Int32.ofNat d < 16 from (i_lt (a := d) (b := 16) (by omega) (by omega)).mpr (by omega))]
    refine w_rc V.wr ?_
    refine d_add (m_manyNow (by omega) (by omega) V hi.sw) S0 fun m1 D1 => ?_
    rw [i_add1]
    refine ok_mono (ih (d + 1) f _ _ m1 (by omega) (by omega) D1) ?_
    rintro w ⟨v, q1, q2⟩
    exact ⟨v, q1, WD.mono q2 (by omega) (by omega)⟩
theorem r_digest (hX : kXok xm) (hN : 20001 ≤ N) (hk : k < 512) (I : RI xm M0 nb k C S F mem) : dOk (m_M_digest xm N M0 mem) (rJ fun v m => RI xm M0 nb (k + 1) (C + 783) (S + 3642) F m) := by
  unfold m_M_digest
  refine RI.askW (fun P => rJ fun _ m => P m) (fun P P' r hP h => by obtain ⟨v, h1, h2⟩ := h; exact ⟨v, h1, hP _ h2⟩) I fun L B P Q s y l r u cs g sum lo bo pa ps vl vr rs ya sc m V hi hl hb => ?_
  refine os_p V.1 0 0 rfl rfl rfl rfl fun m1 H1 S1 => ?_
  refine ok_mono (dig_14 (m0 := m) (g := g) (L := L) (B := B) (P := P) (Q := Q) (s := s) (y := y) (l := l) (r := r) (u := u) (cs := cs) hX hN hi (by omega) (by omega) 16 0 N 0 0 m1 (by omega) (by omega) ⟨58309, ⟨H1, V.2.1.st S1, V.2.2⟩, S1⟩) ?_
  rintro w ⟨v, q1, sum', q2, q3⟩
  exact ⟨v, q1, g, sum', q2, rfl, rfl, q3.mono (by omega) (by omega)⟩
end KZ2
