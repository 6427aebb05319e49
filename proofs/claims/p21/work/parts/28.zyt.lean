/-! ===== the reference exactly: what is asked leaves the contents ===== -/
section EU
variable {xm : Nat → Option kE} {mem : kM} {N M0 nb k C S : Nat} {F : kSg} {t : Int32} {cc : Int32 × List kLf × List Int32 × List Int32 × List aS × aS}
theorem RJ.ask {K : kM → dRes} {c0 s0 : Nat} {R : Int32 → kM → Prop} (I : RJ xm M0 t (nb, cc) k C S F mem) (h : ∀ (L B P Q : kLi) (s y : Nat) (l r u : kLi) (cs : List kCs) g sum lo bo pa ps vl vr rs ya sc m, WC xm M0 L B P Q (s, l, r, u, y) cs g sum lo bo pa ps (vl, vr, rs, ya, sc) F m → aInv nb g lo bo pa ps (vl, vr, rs, ya, sc) → lo.length ≤ 24 * k → bo.length ≤ 24 * k → dOk (K m) (rI fun v m2 => ∃ g' sum', WC xm M0 L B P Q (s, l, r, u, y) cs g' sum' lo bo pa ps (vl, vr, rs, ya, sc) F m2 ∧ g' 6 = g 6 ∧ g' 7 = g 7 ∧ St xm m m2 c0 s0)) : dOk (dP xm mem M0 15 0 (.int 0) K) (rI fun v m => ∃ t', RJ xm M0 t' (nb, cc) (k + 1) (C + c0) (S + s0) F m) := by
  obtain ⟨jo, lo, bo, pa, ps, vl, vr, rs, ya, sc⟩ := cc
  obtain ⟨g, sum, ck, W, hi, ⟨-, h7⟩, hl, hb, h1, h2⟩ := I
  dsimp only at W hi h7 hl hb
  obtain ⟨L, B, P, Q, ⟨s, l, r, u, y⟩, cs, H, R, hck, hx⟩ := W
  subst hck
  refine os_p H 0 0 rfl rfl rfl rfl fun m H1 S1 => ?_
  refine ok_mono (h L B P Q s y l r u cs (kUp g 0 0) sum lo bo pa ps vl vr rs ya sc m ⟨H1, R.st S1, hx⟩ hi hl hb) ?_
  rintro w ⟨v, q1, g', sum', V, q6, q7, S2⟩
  refine ⟨v, q1, g' 0, RJ.mk' h1 h2 V.wr ?_ ⟨rfl, q7.trans h7⟩ (by omega) (by omega) (Nat.le_refl _) ((S1.trans S2).mono (by omega) (by omega))⟩
  obtain ⟨⟨a1, a2, a3⟩, a4⟩ := hi
  have q6' : g' 6 = g 6 := q6
  have q7' : g' 7 = g 7 := q7
  exact ⟨⟨by rw [q6']; exact a1, a2, by rw [q7']; exact a3⟩, a4⟩
theorem RJ.askW (w : (kM → Prop) → kO × kM → Prop) (hw : ∀ (P P' : kM → Prop) (r : kO × kM), (∀ m, P m → P' m) → w P r → w P' r) {K : kM → dRes} {c0 s0 : Nat} (I : RJ xm M0 t (nb, cc) k C S F mem) (h : ∀ (L B P Q : kLi) (s y : Nat) (l r u : kLi) (cs : List kCs) g sum lo bo pa ps vl vr rs ya sc m, WC xm M0 L B P Q (s, l, r, u, y) cs g sum lo bo pa ps (vl, vr, rs, ya, sc) F m → aInv nb g lo bo pa ps (vl, vr, rs, ya, sc) → lo.length ≤ 24 * k → bo.length ≤ 24 * k → dOk (K m) (w fun m2 => ∃ g' sum', WC xm M0 L B P Q (s, l, r, u, y) cs g' sum' lo bo pa ps (vl, vr, rs, ya, sc) F m2 ∧ g' 6 = g 6 ∧ g' 7 = g 7 ∧ St xm m m2 c0 s0)) : dOk (dP xm mem M0 15 0 (.int 0) K) (w fun m => ∃ t', RJ xm M0 t' (nb, cc) (k + 1) (C + c0) (S + s0) F m) := by
  obtain ⟨jo, lo, bo, pa, ps, vl, vr, rs, ya, sc⟩ := cc
  obtain ⟨g, sum, ck, W, hi, ⟨-, h7⟩, hl, hb, h1, h2⟩ := I
  dsimp only at W hi h7 hl hb
  obtain ⟨L, B, P, Q, ⟨s, l, r, u, y⟩, cs, H, R, hck, hx⟩ := W
  subst hck
  refine os_p H 0 0 rfl rfl rfl rfl fun m H1 S1 => ?_
  refine ok_mono (h L B P Q s y l r u cs (kUp g 0 0) sum lo bo pa ps vl vr rs ya sc m ⟨H1, R.st S1, hx⟩ hi hl hb) ?_
  intro z hz
  refine hw _ _ z ?_ hz
  rintro m2 ⟨g', sum', V, q6, q7, S2⟩
  refine ⟨g' 0, RJ.mk' h1 h2 V.wr ?_ ⟨rfl, q7.trans h7⟩ (by omega) (by omega) (Nat.le_refl _) ((S1.trans S2).mono (by omega) (by omega))⟩
  obtain ⟨⟨a1, a2, a3⟩, a4⟩ := hi
  have q6' : g' 6 = g 6 := q6
  have q7' : g' 7 = g 7 := q7
  exact ⟨⟨by rw [q6']; exact a1, a2, by rw [q7']; exact a3⟩, a4⟩
theorem x_on (hX : kXok xm) (I : RJ xm M0 t (nb, cc) k C S F mem) (x z : Int32) : dOk (m_M_on xm N M0 x z mem) (rI fun v m => ∃ t', RJ xm M0 t' (nb, cc) (k + 1) (C + 0) (S + 0) F m) := by
  unfold m_M_on
  refine RJ.ask (R := fun _ _ => True) I fun L B P Q s y l r u cs g sum lo bo pa ps vl vr rs ya sc m V hi hl hb => ?_
  refine ok_eI m_is ?_
  refine ok_if (fun e => c_ref V) (fun e => ?_)
  obtain ⟨n, rfl, p1, p2⟩ := is_nat (a := 0) (b := 23) (by decide) (by decide) e
  refine ok_rc (V.1.look 0 0 rfl rfl) ?_
  refine ok_eR (m_needle V) ?_
  obtain ⟨i, a, q, cap, mc, es, vs, ha, hs, hw, hv, -⟩ := c_nd V x
  rw [ha]
  have hlt := hw.lt
  refine ok_rc (ls_hd V.1 i hs) ?_
  refine ok_eI (ls_size V.1 i hs) ?_
  refine ok_if (fun e2 => ?_) (fun e2 => c_same V)
  have e2 := (i_lt (by omega) hlt).mp e2
  refine ok_rc (ls_hd V.1 i hs) ?_
  refine ok_eI (ls_size V.1 i hs) ?_
  refine ok_rc (ls_hd V.1 i hs) ?_
  rw [i_sub1 (by omega), i_sub (by omega)]
  refine ok_eR (ls_get (j := es.length - 1 - n) hX hw V.1 i hs (by omega)) ?_
  have hk : kIv xm m es[es.length - 1 - n] (vs[es.length - 1 - n]'(by have := hv.1; omega)) := hv.at (by omega) (by have := hv.1; omega)
  refine ok_ccO hk ?_
  refine ok_rc hk ?_
  exact ok_eI (int_val hk) (c_same V)
theorem x_left (I : RJ xm M0 t (nb, cc) k C S F mem) (x : Int32) : dOk (m_M_left xm N M0 x mem) (rI fun v m => ∃ t', RJ xm M0 t' (nb, cc) (k + 1) (C + 0) (S + 0) F m) := by
  unfold m_M_left
  refine RJ.ask (R := fun _ _ => True) I fun L B P Q s y l r u cs g sum lo bo pa ps vl vr rs ya sc m V hi hl hb => ?_
  refine ok_gI (V.1.look 0 0 rfl rfl) rfl ?_
  have hnb := hi.1.2.1
  have h6 : g 6 = Int32.ofNat nb := hi.1.1
  refine ok_eI m_is ?_
  refine ok_if (fun e => c_ref V) (fun e => ?_)
  rw [h6] at e
  obtain ⟨i, rfl, hil⟩ := in_nat (by omega) e
  refine ok_gR (V.1.look 0 0 rfl rfl) rfl ?_
  refine ok_gR (V.1.look 5 0 rfl rfl) rfl ?_
  refine ok_iL (V.1.look 10 0 rfl rfl) ?_ (c_same V)
  have h4 := hi.sw.2.2.2.2
  dsimp only at h4 ⊢
  rw [h4]
  exact i_inB (by omega) (by decide)
theorem x_ofRun (hX : kXok xm) (I : RJ xm M0 t (nb, cc) k C S F mem) (x z : Int32) : dOk (m_M_ofRun xm N M0 x z mem) (rI fun v m => ∃ t', RJ xm M0 t' (nb, cc) (k + 1) (C + 0) (S + 0) F m) := by
  unfold m_M_ofRun
  refine RJ.ask (R := fun _ _ => True) I fun L B P Q s y l r u cs g sum lo bo pa ps vl vr rs ya sc m V hi hl hb => ?_
  have hr9 := hi.sw.2.2.1
  dsimp only at hr9
  refine w_rc V.wr ?_
  refine ok_eI (m_isRun V.wr x) ?_
  refine ok_if (fun e => c_ref V) (fun e => ?_)
  obtain ⟨i, rfl, hil⟩ := in_nat (by omega) e
  refine ok_eI m_is ?_
  refine ok_if (fun e => c_ref V) (fun e2 => ?_)
  obtain ⟨n, rfl, p1, p2⟩ := is_nat (a := 0) (b := 3) (by decide) (by decide) e2
  refine w_run hX V.wr hil fun e he => ?_
  have hz : rs[i].length = 4 := hi.sw.2.2.2.1 _ (List.getElem_mem hil)
  exact ok_iL he (by rw [hz]; exact i_inB (by omega) (by decide)) (c_same V)
theorem x_ofLoop (hX : kXok xm) (hN : 20001 ≤ N) (hk : k < 512) (I : RJ xm M0 t (nb, cc) k C S F mem) (x z : Int32) : dOk (m_M_ofLoop xm N M0 x z mem) (rI fun v m => ∃ t', RJ xm M0 t' (nb, cc) (k + 1) (C + 5) (S + 22) F m) := by
  unfold m_M_ofLoop
  refine RJ.ask (R := fun _ _ => True) I fun L B P Q s y l r u cs g sum lo bo pa ps vl vr rs ya sc m V hi hl hb => ?_
  refine w_gL V.wr ?_
  have hL := V.2.2.1
  have hlt := V.2.1.1.1.lt
  have n3 := V.2.1.2.2.1.1
  have hd := ls_hd (xm := xm) (a := L.1) (q := L.2.1) (mc := L.2.2.1) (cap := L.2.2.2.1) (es := L.2.2.2.2) V.1 1 rfl
  have hsz := ls_size (xm := xm) (N := N) (a := L.1) (q := L.2.1) (mc := L.2.2.1) (cap := L.2.2.2.1) (es := L.2.2.2.2) V.1 1 rfl
  rw [hL] at hd hsz
  refine ok_rc hd ?_
  refine ok_eI hsz ?_
  refine ok_eI m_is ?_
  refine ok_if (fun e => c_up (by omega) (by omega) (c_ref V)) (fun e => ?_)
  obtain ⟨i, rfl, hil⟩ := in_nat hlt e
  refine ok_eI m_is ?_
  refine ok_if (fun e => c_up (by omega) (by omega) (c_ref V)) (fun e2 => ?_)
  obtain ⟨n, rfl, p1, p2⟩ := is_nat (a := 0) (b := 5) (by decide) (by decide) e2
  refine w_rc V.wr ?_
  refine ok_cI (m_ofLoopNow hX hN V hi (by omega) (by omega) (by omega) (by omega)) fun v m2 hh => ?_
  exact ok_I ⟨g, sum, hh.1, rfl, rfl, hh.2⟩
theorem x_many (hN : 20 ≤ N) (I : RJ xm M0 t (nb, cc) k C S F mem) (x : Int32) : dOk (m_M_many xm N M0 x mem) (rI fun v m => ∃ t', RJ xm M0 t' (nb, cc) (k + 1) (C + 2) (S + 20) F m) := by
  unfold m_M_many
  refine RJ.ask (R := fun _ _ => True) I fun L B P Q s y l r u cs g sum lo bo pa ps vl vr rs ya sc m V hi hl hb => ?_
  refine ok_eI m_is ?_
  refine ok_if (fun e => c_up (by omega) (by omega) (c_ref V)) (fun e => ?_)
  obtain ⟨n, rfl, p1, p2⟩ := is_nat (a := 0) (b := 15) (by decide) (by decide) e
  refine w_rc V.wr ?_
  refine ok_cI (m_manyNow hN (by omega) V hi.sw) fun v m2 hh => ?_
  exact ok_I ⟨g, sum, hh.1, rfl, rfl, hh.2⟩
theorem x_ofPattern (hX : kXok xm) (hN : 20 ≤ N) (I : RJ xm M0 t (nb, cc) k C S F mem) (x z : Int32) : dOk (m_M_ofPattern xm N M0 x z mem) (rI fun v m => ∃ t', RJ xm M0 t' (nb, cc) (k + 1) (C + 1) (S + 5) F m) := by
  unfold m_M_ofPattern
  refine RJ.ask (R := fun _ _ => True) I fun L B P Q s y l r u cs g sum lo bo pa ps vl vr rs ya sc m V hi hl hb => ?_
  have h6 := hi.2.2.2.2.1
  refine w_rc V.wr ?_
  refine ok_eI (m_isPattern V.wr x) ?_
  refine ok_if (fun e => c_up (by omega) (by omega) (c_ref V)) (fun e => ?_)
  obtain ⟨i, rfl, hil⟩ := in_nat (by omega) e
  refine ok_eI m_is ?_
  refine ok_if (fun e => c_up (by omega) (by omega) (c_ref V)) (fun e2 => ?_)
  obtain ⟨n, rfl, p1, p2⟩ := is_nat (a := 0) (b := 4) (by decide) (by decide) e2
  refine w_rc V.wr ?_
  refine ok_cI (m_ofPatternNow hX hN (by omega) hil hi.2.2.2.2.2 V) fun v m2 hh => ?_
  exact ok_I ⟨g, sum, hh.1, rfl, rfl, hh.2⟩
theorem x_would (hX : kXok xm) (hN : 120 ≤ N) (I : RJ xm M0 t (nb, cc) k C S F mem) (x : Int32) : dOk (m_M_would xm N M0 x mem) (rI fun v m => ∃ t', RJ xm M0 t' (nb, cc) (k + 1) (C + 0) (S + 0) F m) := by
  unfold m_M_would
  refine RJ.ask (R := fun _ _ => True) I fun L B P Q s y l r u cs g sum lo bo pa ps vl vr rs ya sc m V hi hl hb => ?_
  have h6 := hi.2.2.2.2.1
  refine w_rc V.wr ?_
  refine ok_eI (m_isPattern V.wr x) ?_
  refine ok_if (fun e => c_ref V) (fun e => ?_)
  obtain ⟨i, rfl, hil⟩ := in_nat (by omega) e
  refine w_rc V.wr ?_
  obtain ⟨v, h⟩ := m_wouldNow (a2 := 0) hX hN hil V.wr hi
  exact ok_eI h (c_same V)
theorem x_needs (hX : kXok xm) (hN : 120 ≤ N) (I : RJ xm M0 t (nb, cc) k C S F mem) (x : Int32) : dOk (m_M_needs xm N M0 x mem) (rI fun v m => ∃ t', RJ xm M0 t' (nb, cc) (k + 1) (C + 0) (S + 0) F m) := by
  unfold m_M_needs
  refine RJ.ask (R := fun _ _ => True) I fun L B P Q s y l r u cs g sum lo bo pa ps vl vr rs ya sc m V hi hl hb => ?_
  have h6 := hi.2.2.2.2.1
  refine w_rc V.wr ?_
  refine ok_eI (m_isPattern V.wr x) ?_
  refine ok_if (fun e => c_ref V) (fun e => ?_)
  obtain ⟨i, rfl, hil⟩ := in_nat (by omega) e
  refine w_rc V.wr ?_
  obtain ⟨v, h⟩ := m_wouldNow (a2 := 1) hX hN hil V.wr hi
  exact ok_eI h (c_same V)
theorem x_best (hX : kXok xm) (hN : 120 ≤ N) (I : RJ xm M0 t (nb, cc) k C S F mem) : dOk (m_M_best xm N M0 mem) (rI fun v m => ∃ t', RJ xm M0 t' (nb, cc) (k + 1) (C + 0) (S + 0) F m) := by
  unfold m_M_best
  refine RJ.ask (R := fun _ _ => True) I fun L B P Q s y l r u cs g sum lo bo pa ps vl vr rs ya sc m V hi hl hb => ?_
  refine w_rc V.wr ?_
  obtain ⟨v, h⟩ := m_bestNow hX hN V.wr hi
  exact ok_eI h (c_same V)
theorem x_seen (hX : kXok xm) (hN : 60 ≤ N) (I : RJ xm M0 t (nb, cc) k C S F mem) (x : Int32) : dOk (m_M_seen xm N M0 x mem) (rR fun v m => ∃ t', RJ xm M0 t' (nb, cc) (k + 1) (C + 28) (S + 874) F m) := by
  unfold m_M_seen
  refine RJ.askW (fun P => rR fun _ m => P m) (fun P P' r hP h => by obtain ⟨v, h1, h2⟩ := h; exact ⟨v, h1, hP _ h2⟩) I fun L B P Q s y l r u cs g sum lo bo pa ps vl vr rs ya sc m V hi hl hb => ?_
  refine w_rc V.wr ?_
  refine ok_eR (m_needle V) ?_
  obtain ⟨i, a, q, cap, mc, es, vs, ha, hs, hw, hv, hvs⟩ := c_nd V x
  rw [ha]
  have h24 : es.length ≤ 24 := by
    rw [hv.1, hvs]
    split
    · exact hi.sw.1
    · exact hi.sw.2.1
  have hid : ∀ v ∈ vs, aId lo.length v := by
    rw [hvs]
    split
    · exact hi.2.1.2.2.1
    · exact hi.2.1.2.2.2.1
  refine os_n xm V.1 fun m1 p H1 S1 => ?_
  refine ok_cV (sb_new H1) fun m2 hh => ?_
  obtain ⟨b, H2, S2⟩ := hh
  have S12 := S1.trans S2
  refine ok_rc (ls_hd H2 (i + 1) hs) ?_
  refine ok_eI (ls_size H2 (i + 1) hs) ?_
  refine ok_mono (seen_loop hX hs hw hid h24 V.2.2 es.length 0 N b _ m2 (by omega) (by omega) sBy0 (hv.st S12) (V.2.1.st S12) H2) ?_
  rintro w ⟨v, q1, q2, q3⟩
  refine ⟨v, q1, g, sum, q2, rfl, rfl, (S12.trans q3).mono (by omega) ?_⟩
  have e4 : kSz (.inl (1, [.null, .int 0, .int 0, .int 0])) = 4 := rfl
  rw [e4]
  omega
theorem x_width (hX : kXok xm) (hN : 60 ≤ N) (I : RJ xm M0 t (nb, cc) k C S F mem) (x : Int32) : dOk (m_M_width xm N M0 x mem) (rD fun v m => ∃ t', RJ xm M0 t' (nb, cc) (k + 1) (C + 0) (S + 0) F m) := by
  unfold m_M_width
  refine RJ.askW (fun P => rD fun _ m => P m) (fun P P' r hP h => by obtain ⟨v, h1, h2⟩ := h; exact ⟨v, h1, hP _ h2⟩) I fun L B P Q s y l r u cs g sum lo bo pa ps vl vr rs ya sc m V hi hl hb => ?_
  refine w_rc V.wr ?_
  obtain ⟨v, h96, hv⟩ := m_widthNow (x := x) hX hN V hi
  refine ok_eI hv ?_
  unfold dF64
  rw [if_pos (width_fp v h96)]
  exact ok_D ⟨g, sum, V, rfl, rfl, St.refl⟩
theorem x_digest (hX : kXok xm) (hN : 20001 ≤ N) (hk : k < 512) (I : RJ xm M0 t (nb, cc) k C S F mem) : dOk (m_M_digest xm N M0 mem) (rJ fun v m => ∃ t', RJ xm M0 t' (nb, cc) (k + 1) (C + 783) (S + 3642) F m) := by
  unfold m_M_digest
  refine RJ.askW (fun P => rJ fun _ m => P m) (fun P P' r hP h => by obtain ⟨v, h1, h2⟩ := h; exact ⟨v, h1, hP _ h2⟩) I fun L B P Q s y l r u cs g sum lo bo pa ps vl vr rs ya sc m V hi hl hb => ?_
  refine os_p V.1 0 0 rfl rfl rfl rfl fun m1 H1 S1 => ?_
  refine ok_mono (dig_14 (m0 := m) (g := g) (L := L) (B := B) (P := P) (Q := Q) (s := s) (y := y) (l := l) (r := r) (u := u) (cs := cs) hX hN hi (by omega) (by omega) 16 0 N 0 0 m1 (by omega) (by omega) ⟨58309, ⟨H1, V.2.1.st S1, V.2.2⟩, S1⟩) ?_
  rintro w ⟨v, q1, sum', q2, q3⟩
  exact ⟨v, q1, g, sum', q2, rfl, rfl, q3.mono (by omega) (by omega)⟩
end EU
