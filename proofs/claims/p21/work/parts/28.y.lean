/-! ===== the reference: seen, width ===== -/
section KY
variable {xm : Nat → Option kE} {mem : kM} {N M0 nb k C S ck : Nat} {F X : kSg} {g : Nat → Int32} {sum : Int64} {lo : List kLf} {bo pa : List Int32} {ps : List aS} {T : kO × kM → Prop} {L B P Q : kLi} {s y : Nat} {l r u : kLi} {cs : List kCs} {vl vr ya : List Int32} {rs : List (List Int32)} {sc : Nat → Int32} {st : aS} {c : kCs}
/-- into a call that asks, for any kind of answer -/
theorem RI.askW (w : (kM → Prop) → kO × kM → Prop) (hw : ∀ (P P' : kM → Prop) (r : kO × kM), (∀ m, P m → P' m) → w P r → w P' r) {K : kM → dRes} {c0 s0 : Nat} (I : RI xm M0 nb k C S F mem) (h : ∀ (L B P Q : kLi) (s y : Nat) (l r u : kLi) (cs : List kCs) g sum lo bo pa ps vl vr rs ya sc m, WC xm M0 L B P Q (s, l, r, u, y) cs g sum lo bo pa ps (vl, vr, rs, ya, sc) F m → aInv nb g lo bo pa ps (vl, vr, rs, ya, sc) → lo.length ≤ 24 * k → bo.length ≤ 24 * k → dOk (K m) (w fun m2 => ∃ g' sum', WC xm M0 L B P Q (s, l, r, u, y) cs g' sum' lo bo pa ps (vl, vr, rs, ya, sc) F m2 ∧ g' 6 = g 6 ∧ g' 7 = g 7 ∧ St xm m m2 c0 s0)) : dOk (dP xm mem M0 15 0 (.int 0) K) (w fun m => RI xm M0 nb (k + 1) (C + c0) (S + s0) F m) := by
  obtain ⟨g, sum, lo, bo, pa, ps, ⟨vl, vr, rs, ya, sc⟩, ck, W, hi, hl, hb, h1, h2⟩ := I
  obtain ⟨L, B, P, Q, ⟨s, l, r, u, y⟩, cs, H, R, hck, hx⟩ := W
  subst hck
  refine os_p H 0 0 rfl rfl rfl rfl fun m H1 S1 => ?_
  refine ok_mono (h L B P Q s y l r u cs (kUp g 0 0) sum lo bo pa ps vl vr rs ya sc m ⟨H1, R.st S1, hx⟩ hi hl hb) ?_
  intro z hz
  refine hw _ _ z ?_ hz
  rintro m2 ⟨g', sum', V, q6, q7, S2⟩
  refine WC.ri h1 h2 V ?_ hl hb ((S1.trans S2).mono (by omega) (by omega))
  obtain ⟨⟨a1, a2, a3⟩, a4⟩ := hi
  have q6' : g' 6 = g 6 := q6
  have q7' : g' 7 = g 7 := q7
  exact ⟨⟨by rw [q6']; exact a1, a2, by rw [q7']; exact a3⟩, a4⟩
theorem ml_smooth {e : Nat} {f : kLf} {x : Int32} (he : kLo xm mem e f) : ∃ v, m_ML_isSmooth xm N e x mem = some (.inl (some (.int v)), mem) := by
  have go : dOk (m_ML_isSmooth xm N e x mem) (fun w => ∃ v, w = (.inl (some (.int v)), mem)) := by
    have me : ∀ v : Int32, dOk (some (.inl (some (.int v)), mem)) (fun w => ∃ v, w = (.inl (some (.int v)), mem)) := fun v => ⟨_, rfl, v, rfl⟩
    have h33 : ∀ a b : Int32, dOk (m_ML_isSmooth_33 xm N a b mem) (fun w => ∃ v, w = (.inl (some (.int v)), mem)) := by
      intro a b
      unfold m_ML_isSmooth_33
      exact ok_if (fun _ => me _) (fun _ => me _)
    have h20 : ∀ a : Int32, dOk (m_ML_isSmooth_20 xm N e x a mem) (fun w => ∃ v, w = (.inl (some (.int v)), mem)) := by
      intro a
      unfold m_ML_isSmooth_20
      refine ok_gI he rfl ?_
      exact ok_if (fun _ => h33 _ _) (fun _ => h33 _ _)
    unfold m_ML_isSmooth m_ML_isSmooth_19
    refine ok_gI he rfl ?_
    refine ok_if (fun _ => h20 _) (fun _ => ?_)
    refine ok_gI he rfl ?_
    exact ok_if (fun _ => h20 _) (fun _ => h20 _)
  obtain ⟨w, h1, v, rfl⟩ := go
  exact ⟨v, h1⟩
theorem m_sign {e : Nat} {f : kLf} {fs : List Value} {la ra ua y0 s0 : Nat} (he : kLo xm mem e f) (h0 : kLook xm mem M0 = some (.inl (15, fs))) (h5 : fs[5]? = some (.ref s0)) (hs : kLook xm mem s0 = some (stE la ra ua y0 sc)) : ∃ v, aSg v ∧ m_M_sign xm N M0 e mem = some (.inl (some (.int v)), mem) := by
  have go : dOk (m_M_sign xm N M0 e mem) (fun w => ∃ v, aSg v ∧ w = (.inl (some (.int v)), mem)) := by
    have me : ∀ v : Int32, aSg v → dOk (some (.inl (some (.int v)), mem)) (fun w => ∃ v, aSg v ∧ w = (.inl (some (.int v)), mem)) := fun v hv => ⟨_, rfl, v, hv, rfl⟩
    have h19 : ∀ a : Int32, dOk (m_M_sign_19 xm N M0 e a mem) (fun w => ∃ v, aSg v ∧ w = (.inl (some (.int v)), mem)) := by
      intro a
      unfold m_M_sign_19
      refine ok_gI he rfl ?_
      refine ok_if (fun _ => me _ (by unfold aSg; decide)) (fun _ => ?_)
      refine ok_gI he rfl ?_
      refine ok_if (fun _ => ok_if (fun _ => me _ (by unfold aSg; decide)) (fun _ => me _ (by unfold aSg; decide))) (fun _ => ?_)
      refine ok_gI he rfl ?_
      refine ok_if (fun _ => ok_if (fun _ => me _ (by unfold aSg; decide)) (fun _ => me _ (by unfold aSg; decide))) (fun _ => ?_)
      refine ok_gR h0 h5 ?_
      refine ok_gI hs rfl ?_
      refine ok_rc he ?_
      obtain ⟨v, hv⟩ := ml_smooth (N := N) (x := sc 4) he
      refine ok_eI hv ?_
      exact ok_if (fun _ => me _ (by unfold aSg; decide)) (fun _ => me _ (by unfold aSg; decide))
    unfold m_M_sign
    refine ok_gI he rfl ?_
    refine ok_gR h0 h5 ?_
    refine ok_gI hs rfl ?_
    exact ok_if (fun _ => h19 _) (fun _ => h19 _)
  obtain ⟨w, h1, v, hv, rfl⟩ := go
  exact ⟨v, hv, h1⟩
/-- a loop of a needle, as it is read behind one more segment -/
theorem c_loopOf {i a q cap j : Nat} {mc : Int32} {es : List Nat} {vs : List Int32} {K : Nat → kM → dRes} (hX : kXok xm) (V : WC xm M0 L B P Q (s, l, r, u, y) cs g sum lo bo pa ps (vl, vr, rs, ya, sc) F mem) (hs : (wSg M0 L B P Q (s, l, r, u, y) cs g sum ps (vl, vr, rs, ya, sc) F)[i]? = some (sAL a q mc cap es)) (hw : sWf q cap es) (hv : IVs xm mem es vs) (hid : ∀ v ∈ vs, aId lo.length v) (hj : j < es.length) (h : ∀ e f, kLo xm mem e f → dOk (K e mem) T) : dOk (dRc xm mem a 4 <| dCR (m_AL_get xm N a (Int32.ofNat j) mem) fun v41 m41 => dCC xm m41 v41 0 2 <| dRc xm m41 v41 2 <| dCI (m_Int_intValue xm N v41 m41) fun v47 m47 => dRc xm m47 (M0 + 1) 4 <| dCR (m_AL_get xm N (M0 + 1) v47 m47) fun v50 m50 => dCC xm m50 v50 0 13 <| K v50 m50) T := by
  have hl := hv.1
  refine ok_rc (ls_hd V.1 i hs) ?_
  refine ok_eR (ls_get (j := j) hX hw V.1 i hs hj) ?_
  have hk : kIv xm mem es[j] (vs[j]'(by omega)) := hv.at hj (by omega)
  refine ok_ccO hk ?_
  refine ok_rc hk ?_
  refine ok_eI (int_val hk) ?_
  obtain ⟨id, hid1, hid2⟩ := hid _ (List.getElem_mem (show j < vs.length by omega))
  rw [hid1]
  refine w_loop hX V.wr hid2 fun e he => ?_
  exact ok_ccO he (h e _ he)
/-- taking the segment ahead into the frame, and back -/
theorem WC.front (hH : HpS (X :: wSg M0 L B P Q (s, l, r, u, y) cs g sum ps (vl, vr, rs, ya, sc) F) mem) (R : wRl xm mem L B P Q (s, l, r, u, y) cs lo bo pa ps (vl, vr, rs, ya, sc)) (hx : L.1 = M0 + 1 ∧ B.1 = M0 + 2 ∧ P.1 = M0 + 3 ∧ Q.1 = M0 + 4) : WC xm M0 L B P Q (s, l, r, u, y) cs g sum lo bo pa ps (vl, vr, rs, ya, sc) F mem := ⟨hH.drop, R, hx⟩
theorem seen_loop {a q cap i p : Nat} {mc : Int32} {es : List Nat} {vs : List Int32} (hX : kXok xm) (hs : (wSg M0 L B P Q (s, l, r, u, y) cs g sum ps (vl, vr, rs, ya, sc) F)[i]? = some (sAL a q mc cap es)) (hw : sWf q cap es) (hid : ∀ v ∈ vs, aId lo.length v) (h24 : es.length ≤ 24) (hx : L.1 = M0 + 1 ∧ B.1 = M0 + 2 ∧ P.1 = M0 + 3 ∧ Q.1 = M0 + 4) : ∀ (j d f : Nat) (b : Nat) (xs : List Int32) (mem : kM), es.length = d + j → j < f → sBy xs d → IVs xm mem es vs → wRl xm mem L B P Q (s, l, r, u, y) cs lo bo pa ps (vl, vr, rs, ya, sc) → HpS (sSB p b xs d :: wSg M0 L B P Q (s, l, r, u, y) cs g sum ps (vl, vr, rs, ya, sc) F) mem → dOk (m_M_seen_27 xm N f M0 a p (Int32.ofNat j - 1) mem) (rR fun v m => WC xm M0 L B P Q (s, l, r, u, y) cs g sum lo bo pa ps (vl, vr, rs, ya, sc) F m ∧ St xm mem m (2 + j) (38 + 34 * j)) := by
  intro j
  induction j with
  | zero =>
    intro d f b xs mem hd hf hB hv R H
    obtain ⟨f, rfl⟩ : ∃ f', f = f' + 1 := ⟨f - 1, by omega⟩
    rw [m_M_seen_27, if_pos (by decide)]
    refine ok_rc (H.look 0 0 rfl rfl) ?_
    refine ok_cR (sb_toString (by omega) hB H) fun z m1 hh => ?_
    exact ok_R ⟨⟨hh.1, R.st hh.2, hx⟩, hh.2.mono (by omega) (by omega)⟩
  | succ j ih =>
    intro d f b xs mem hd hf hB hv R H
    obtain ⟨f, rfl⟩ : ∃ f', f = f' + 1 := ⟨f - 1, by omega⟩
    rw [m_M_seen_27, i_sub1 (by omega), if_neg (i_nn (by omega))]
    have V := WC.front H R hx
    rw [show j + 1 - 1 = j by omega]
    refine w_gL V.wr ?_
    refine c_loopOf hX V hs hw hv hid (by omega) fun e f' he => ?_
    refine w_rc V.wr ?_
    obtain ⟨v, hv1, hv2⟩ := m_sign (N := N) he (V.1.look 0 0 rfl rfl) rfl (V.1.look 5 0 rfl rfl)
    refine ok_eI hv2 ?_
    refine ok_rc (H.look 0 0 rfl rfl) ?_
    refine ok_cR (sb_append (x := v) (by omega) hv1 hB H) fun z m1 hh => ?_
    obtain ⟨-, b', xs', H1, hB1, S1⟩ := hh
    have e1 : Int32.ofNat j + (-1) = Int32.ofNat j - 1 := (Int32.sub_eq_add_neg _ _).symm
    rw [e1]
    refine ok_mono (ih (d + 1) f b' xs' m1 (by omega) (by omega) hB1 (hv.st S1) (R.st S1) H1) ?_
    rintro w ⟨v, q1, q2, q3⟩
    exact ⟨v, q1, q2, (S1.trans q3).mono (by omega) (by omega)⟩
theorem r_seen (hX : kXok xm) (hN : 60 ≤ N) (I : RI xm M0 nb k C S F mem) (x : Int32) : dOk (m_M_seen xm N M0 x mem) (rR fun v m => RI xm M0 nb (k + 1) (C + 28) (S + 874) F m) := by
  unfold m_M_seen
  refine RI.askW (fun P => rR fun _ m => P m) (fun P P' r hP h => by obtain ⟨v, h1, h2⟩ := h; exact ⟨v, h1, hP _ h2⟩) I fun L B P Q s y l r u cs g sum lo bo pa ps vl vr rs ya sc m V hi hl hb => ?_
  refine w_rc V.wr ?_
  refine ok_eR (m_needle V) ?_
  obtain ⟨i, a, q, cap, mc, es, vs, ha, hs, hw, hv, hvs⟩ := c_nd V x
  rw [ha]
  have h24 : es.length ≤ 24 := by
    rw [hv.1, hvs]
    split
    · exact hi.sw.1
    · exact hi.sw.2.1
  have hid : ∀ v ∈ vs, aId lo.length v := by
    rw [hvs]
    split
    · exact hi.2.1.2.2.1
    · exact hi.2.1.2.2.2.1
  refine os_n xm V.1 fun m1 p H1 S1 => ?_
  refine ok_cV (sb_new H1) fun m2 hh => ?_
  obtain ⟨b, H2, S2⟩ := hh
  have S12 := S1.trans S2
  refine ok_rc (ls_hd H2 (i + 1) hs) ?_
  refine ok_eI (ls_size H2 (i + 1) hs) ?_
  refine ok_mono (seen_loop hX hs hw hid h24 V.2.2 es.length 0 N b _ m2 (by omega) (by omega) sBy0 (hv.st S12) (V.2.1.st S12) H2) ?_
  rintro w ⟨v, q1, q2, q3⟩
  refine ⟨v, q1, g, sum, q2, rfl, rfl, (S12.trans q3).mono (by omega) ?_⟩
  have e4 : kSz (.inl (1, [.null, .int 0, .int 0, .int 0])) = 4 := rfl
  rw [e4]
  omega
/-! width -/
theorem width_fp : ∀ z : Nat, z ≤ 96 → kFin64 (FP.ddiv (FP.i2d (Int32.ofNat z)) 4620693217682128896) = true := by
  intro z hz
  have h : (List.range 97).all (fun z => kFin64 (FP.ddiv (FP.i2d (Int32.ofNat z)) 4620693217682128896)) = true := by decide +kernel
  exact List.all_eq_true.mp h z (List.mem_range.mpr (by omega))
theorem width_loop {a q cap i : Nat} {mc : Int32} {es : List Nat} {vs : List Int32} (hX : kXok xm) (V : WC xm M0 L B P Q (s, l, r, u, y) cs g sum lo bo pa ps (vl, vr, rs, ya, sc) F mem) (hs : (wSg M0 L B P Q (s, l, r, u, y) cs g sum ps (vl, vr, rs, ya, sc) F)[i]? = some (sAL a q mc cap es)) (hw : sWf q cap es) (hv : IVs xm mem es vs) (hid : ∀ v ∈ vs, aId lo.length v) (h24 : es.length ≤ 24) : ∀ (j d f z : Nat), es.length + 1 ≤ d + j → 1 ≤ d → d ≤ 25 → j < f → 4 * es.length + 1 ≤ z + d → z ≤ 96 → ∃ v : Nat, v ≤ 96 ∧ m_M_widthNow_16 xm N f M0 a (Int32.ofNat z) (Int32.ofNat d) mem = some (.inl (some (.int (Int32.ofNat v))), mem) := by
  intro j
  induction j with
  | zero =>
    intro d f z h1 h2 h2' h3 h4 h5
    obtain ⟨f, rfl⟩ : ∃ f', f = f' + 1 := ⟨f - 1, by omega⟩
    refine ⟨z, h5, ok_eq ?_⟩
    rw [m_M_widthNow_16]
    refine ok_rc (ls_hd V.1 i hs) ?_
    refine ok_eI (ls_size V.1 i hs) ?_
    rw [if_neg (fun w => by have := (i_lt (by omega) (by omega)).mp w; omega)]
    exact ok_me
  | succ j ih =>
    intro d f z h1 h2 h2' h3 h4 h5
    obtain ⟨f, rfl⟩ : ∃ f', f = f' + 1 := ⟨f - 1, by omega⟩
    by_cases hd : d < es.length
    · have go : dOk (m_M_widthNow_16 xm N (f + 1) M0 a (Int32.ofNat z) (Int32.ofNat d) mem) (fun w => ∃ v : Nat, v ≤ 96 ∧ w = (.inl (some (.int (Int32.ofNat v))), mem)) := by
        rw [m_M_widthNow_16]
        refine ok_rc (ls_hd V.1 i hs) ?_
        refine ok_eI (ls_size V.1 i hs) ?_
        rw [if_pos ((i_lt (by omega) (by omega)).mpr hd)]
        refine w_gL V.wr ?_
        refine c_loopOf hX V hs hw hv hid hd fun e f1 he => ?_
        refine ok_gR (V.1.look 0 0 rfl rfl) rfl ?_
        refine ok_gI (V.1.look 5 0 rfl rfl) rfl ?_
        refine ok_rc he ?_
        obtain ⟨v1, hv1⟩ := ml_smooth (N := N) (x := sc 4) he
        refine ok_eI hv1 ?_
        refine w_gL V.wr ?_
        rw [i_sub1 h2]
        refine c_loopOf hX V hs hw hv hid (show d - 1 < es.length by omega) fun e2 f2 he2 => ?_
        refine ok_gR (V.1.look 0 0 rfl rfl) rfl ?_
        refine ok_gI (V.1.look 5 0 rfl rfl) rfl ?_
        refine ok_rc he2 ?_
        obtain ⟨v2, hv2⟩ := ml_smooth (N := N) (x := sc 4) he2
        refine ok_eI hv2 ?_
        have next : ∀ t : Nat, t ≤ 1 → dOk (m_M_widthNow_100 xm N (fun a0 a2 a3 a4 mem => m_M_widthNow_16 xm N f a0 a2 a3 a4 mem) M0 a (Int32.ofNat d) (Int32.ofNat z) (Int32.ofNat t) mem) (fun w => ∃ v : Nat, v ≤ 96 ∧ w = (.inl (some (.int (Int32.ofNat v))), mem)) := by
          intro t ht
          unfold m_M_widthNow_100
          rw [i_add1, i_sub (by omega)]
          obtain ⟨v, hv96, hv'⟩ := ih (d + 1) f (z - t) (by omega) (by omega) (by omega) (by omega) (by omega) (by omega)
          exact ⟨_, hv', v, hv96, rfl⟩
        exact ok_if (fun _ => next 0 (by decide)) (fun _ => next 1 (by decide))
      obtain ⟨w, g1, v, g2, rfl⟩ := go
      exact ⟨v, g2, g1⟩
    · refine ⟨z, h5, ok_eq ?_⟩
      rw [m_M_widthNow_16]
      refine ok_rc (ls_hd V.1 i hs) ?_
      refine ok_eI (ls_size V.1 i hs) ?_
      rw [if_neg (fun w => by have := (i_lt (by omega) (by omega)).mp w; omega)]
      exact ok_me
theorem m_widthNow {x : Int32} (hX : kXok xm) (hN : 60 ≤ N) (V : WC xm M0 L B P Q (s, l, r, u, y) cs g sum lo bo pa ps (vl, vr, rs, ya, sc) F mem) (hi : aInv nb g lo bo pa ps (vl, vr, rs, ya, sc)) : ∃ v : Nat, v ≤ 96 ∧ m_M_widthNow xm N M0 x mem = some (.inl (some (.int (Int32.ofNat v))), mem) := by
  obtain ⟨i, a, q, cap, mc, es, vs, ha, hs, hw, hv, hvs⟩ := c_nd V x
  have h24 : es.length ≤ 24 := by
    rw [hv.1, hvs]
    split
    · exact hi.sw.1
    · exact hi.sw.2.1
  have hid : ∀ v ∈ vs, aId lo.length v := by
    rw [hvs]
    split
    · exact hi.2.1.2.2.1
    · exact hi.2.1.2.2.2.1
  obtain ⟨v, h96, hv'⟩ := width_loop hX V hs hw hv hid h24 (es.length + 1) 1 N (4 * es.length) (by omega) (by decide) (by decide) (by omega) (by omega) (by omega)
  refine ⟨v, h96, ok_eq ?_⟩
  unfold m_M_widthNow
  refine w_rc V.wr ?_
  refine ok_eR (m_needle V) ?_
  rw [ha]
  refine ok_rc (ls_hd V.1 i hs) ?_
  refine ok_eI (ls_size V.1 i hs) ?_
  have e4 : (4 : Int32) * Int32.ofNat es.length = Int32.ofNat (4 * es.length) := i_mul (a := 4)
  rw [e4]
  exact ⟨_, hv', rfl⟩
theorem r_width (hX : kXok xm) (hN : 60 ≤ N) (I : RI xm M0 nb k C S F mem) (x : Int32) : dOk (m_M_width xm N M0 x mem) (rD fun v m => RI xm M0 nb (k + 1) (C + 0) (S + 0) F m) := by
  unfold m_M_width
  refine RI.askW (fun P => rD fun _ m => P m) (fun P P' r hP h => by obtain ⟨v, h1, h2⟩ := h; exact ⟨v, h1, hP _ h2⟩) I fun L B P Q s y l r u cs g sum lo bo pa ps vl vr rs ya sc m V hi hl hb => ?_
  refine w_rc V.wr ?_
  obtain ⟨v, h96, hv⟩ := m_widthNow (x := x) hX hN V hi
  refine ok_eI hv ?_
  unfold dF64
  rw [if_pos (width_fp v h96)]
  exact ok_D ⟨g, sum, V, rfl, rfl, St.refl⟩
end KY
