/-! ===== the reference: what is asked of it: on, ofLoop, ofRun, left ===== -/
/-- the reference in memory with all that is concrete: what is asked leaves it as it is -/
def WC (xm : Nat → Option kE) (M0 : Nat) (L B P Q : kLi) (c : kCs) (cs : List kCs) (g : Nat → Int32) (sum : Int64) (lo : List kLf) (bo pa : List Int32) (ps : List aS) (st : aS) (F : kSg) (mem : kM) : Prop :=
  HpS (wSg M0 L B P Q c cs g sum ps st F) mem ∧ wRl xm mem L B P Q c cs lo bo pa ps st ∧ L.1 = M0 + 1 ∧ B.1 = M0 + 2 ∧ P.1 = M0 + 3 ∧ Q.1 = M0 + 4
section KV
variable {xm : Nat → Option kE} {mem : kM} {N M0 nb k C S ck : Nat} {F X : kSg} {g : Nat → Int32} {sum : Int64} {lo : List kLf} {bo pa : List Int32} {ps : List aS} {T : kO × kM → Prop} {L B P Q : kLi} {s y : Nat} {l r u : kLi} {cs : List kCs} {vl vr ya : List Int32} {rs : List (List Int32)} {sc : Nat → Int32} {st : aS} {c : kCs}
theorem WC.wr (V : WC xm M0 L B P Q c cs g sum lo bo pa ps st F mem) : WR xm M0 g sum lo bo pa ps st (kCapL L + kCapL B) F mem := ⟨L, B, P, Q, c, cs, V.1, V.2.1, rfl, V.2.2⟩
theorem WC.mk' {m : kM} {c0 s0 : Nat} (V : WC xm M0 L B P Q c cs g sum lo bo pa ps st F mem) (H : HpS (wSg M0 L B P Q c cs g sum ps st F) m) (S1 : St xm mem m c0 s0) : WC xm M0 L B P Q c cs g sum lo bo pa ps st F m := ⟨H, V.2.1.st S1, V.2.2⟩
theorem WC.ri {m : kM} {c0 s0 : Nat} (h1 : mem.length ≤ C) (h2 : kSl mem ≤ S + 4 * (kCapL L + kCapL B)) (V : WC xm M0 L B P Q c cs g sum lo bo pa ps st F m) (hi : aInv nb g lo bo pa ps st) (hl : lo.length ≤ 24 * k) (hb : bo.length ≤ 24 * k) (S1 : St xm mem m c0 s0) : RI xm M0 nb (k + 1) (C + c0) (S + s0) F m :=
  RI.mk' h1 h2 V.wr hi (by omega) (by omega) (Nat.le_refl _) (S1.mono (Nat.le_refl _) (by omega))
/-- into a call that asks -/
theorem RI.ask {K : kM → dRes} {c0 s0 : Nat} {R : Int32 → kM → Prop} (I : RI xm M0 nb k C S F mem) (h : ∀ (L B P Q : kLi) (s y : Nat) (l r u : kLi) (cs : List kCs) g sum lo bo pa ps vl vr rs ya sc m, WC xm M0 L B P Q (s, l, r, u, y) cs g sum lo bo pa ps (vl, vr, rs, ya, sc) F m → aInv nb g lo bo pa ps (vl, vr, rs, ya, sc) → lo.length ≤ 24 * k → bo.length ≤ 24 * k → dOk (K m) (rI fun v m2 => ∃ g' sum', WC xm M0 L B P Q (s, l, r, u, y) cs g' sum' lo bo pa ps (vl, vr, rs, ya, sc) F m2 ∧ g' 6 = g 6 ∧ g' 7 = g 7 ∧ St xm m m2 c0 s0)) : dOk (dP xm mem M0 15 0 (.int 0) K) (rI fun v m => RI xm M0 nb (k + 1) (C + c0) (S + s0) F m) := by
  obtain ⟨g, sum, lo, bo, pa, ps, ⟨vl, vr, rs, ya, sc⟩, ck, W, hi, hl, hb, h1, h2⟩ := I
  obtain ⟨L, B, P, Q, ⟨s, l, r, u, y⟩, cs, H, R, hck, hx⟩ := W
  subst hck
  refine os_p H 0 0 rfl rfl rfl rfl fun m H1 S1 => ?_
  refine ok_mono (h L B P Q s y l r u cs (kUp g 0 0) sum lo bo pa ps vl vr rs ya sc m ⟨H1, R.st S1, hx⟩ hi hl hb) ?_
  rintro w ⟨v, q1, g', sum', V, q6, q7, S2⟩
  refine ⟨v, q1, WC.ri h1 h2 V ?_ hl hb ((S1.trans S2).mono (by omega) (by omega))⟩
  obtain ⟨⟨a1, a2, a3⟩, a4⟩ := hi
  have q6' : g' 6 = g 6 := q6
  have q7' : g' 7 = g 7 := q7
  exact ⟨⟨by rw [q6']; exact a1, a2, by rw [q7']; exact a3⟩, a4⟩
theorem c_ref {x : Int32} (V : WC xm M0 L B P Q c cs g sum lo bo pa ps st F mem) : dOk (dRc xm mem M0 15 <| dCI (m_M_refuse xm N M0 x mem) fun v m => some (.inl (some (.int v)), m)) (rI fun v m2 => ∃ g' sum', WC xm M0 L B P Q c cs g' sum' lo bo pa ps st F m2 ∧ g' 6 = g 6 ∧ g' 7 = g 7 ∧ St xm mem m2 0 0) := by
  refine ok_rc (V.1.look 0 0 rfl rfl) ?_
  have key : dOk (m_M_refuse xm N M0 x mem) (rI fun v m => WC xm M0 L B P Q c cs (kUp g 0 x) sum lo bo pa ps st F m ∧ St xm mem m 0 0) := by
    unfold m_M_refuse
    refine os_p V.1 0 0 rfl rfl rfl rfl fun m H1 S1 => ?_
    exact ok_I ⟨⟨H1, V.2.1.st S1, V.2.2⟩, S1⟩
  refine ok_cI key fun v m hh => ?_
  exact ok_I ⟨kUp g 0 x, sum, hh.1, rfl, rfl, hh.2⟩
/-- an answer that leaves the memory -/
theorem c_same {v : Int32} {c0 s0 : Nat} (V : WC xm M0 L B P Q c cs g sum lo bo pa ps st F mem) : dOk (some (.inl (some (.int v)), mem)) (rI fun v m2 => ∃ g' sum', WC xm M0 L B P Q c cs g' sum' lo bo pa ps st F m2 ∧ g' 6 = g 6 ∧ g' 7 = g 7 ∧ St xm mem m2 c0 s0) := ok_I ⟨g, sum, V, rfl, rfl, St.refl.mono (by omega) (by omega)⟩
theorem c_up {c0 s0 c1 s1 : Nat} (hc : c0 ≤ c1) (hs : s0 ≤ s1) {Y : dRes} (h : dOk Y (rI fun v m2 => ∃ g' sum', WC xm M0 L B P Q c cs g' sum' lo bo pa ps st F m2 ∧ g' 6 = g 6 ∧ g' 7 = g 7 ∧ St xm mem m2 c0 s0)) : dOk Y (rI fun v m2 => ∃ g' sum', WC xm M0 L B P Q c cs g' sum' lo bo pa ps st F m2 ∧ g' 6 = g 6 ∧ g' 7 = g 7 ∧ St xm mem m2 c1 s1) := by
  refine ok_mono h ?_
  rintro w ⟨v, q1, g', sum', q2, q3, q4, q5⟩
  exact ⟨v, q1, g', sum', q2, q3, q4, q5.mono hc hs⟩
theorem m_needle {x : Int32} (V : WC xm M0 L B P Q (s, l, r, u, y) cs g sum lo bo pa ps st F mem) : m_M_needle xm N M0 x mem = some (.inl (some (.ref (if x = 0 then l.1 else r.1))), mem) := by
  refine ok_eq ?_
  unfold m_M_needle
  refine ok_if (fun e => ?_) (fun e => ?_)
  · rw [if_pos e]
    refine ok_gR (V.1.look 0 0 rfl rfl) rfl ?_
    exact ok_gR (V.1.look 5 0 rfl rfl) rfl ok_me
  · rw [if_neg e]
    refine ok_gR (V.1.look 0 0 rfl rfl) rfl ?_
    exact ok_gR (V.1.look 5 0 rfl rfl) rfl ok_me
/-- one of the two needles, as a list in its place -/
theorem c_nd (V : WC xm M0 L B P Q (s, l, r, u, y) cs g sum lo bo pa ps (vl, vr, rs, ya, sc) F mem) (x : Int32) : ∃ (i a q cap : Nat) (mc : Int32) (es : List Nat) (vs : List Int32), (if x = 0 then l.1 else r.1) = a ∧ (wSg M0 L B P Q (s, l, r, u, y) cs g sum ps (vl, vr, rs, ya, sc) F)[i]? = some (sAL a q mc cap es) ∧ sWf q cap es ∧ IVs xm mem es vs ∧ vs = (if x = 0 then vl else vr) := by
  obtain ⟨H, R, -⟩ := V
  obtain ⟨-, -, -, -, -, -, ⟨t1, t2, -, -, t7, t8, -⟩, -⟩ := R
  by_cases e : x = 0
  · rw [if_pos e, if_pos e]
    exact ⟨6, _, l.2.1, l.2.2.2.1, l.2.2.1, l.2.2.2.2, vl, rfl, rfl, t1, t7, rfl⟩
  · rw [if_neg e, if_neg e]
    exact ⟨7, _, r.2.1, r.2.2.2.1, r.2.2.1, r.2.2.2.2, vr, rfl, rfl, t2, t8, rfl⟩
theorem r_on (hX : kXok xm) (I : RI xm M0 nb k C S F mem) (x z : Int32) : dOk (m_M_on xm N M0 x z mem) (rI fun v m => RI xm M0 nb (k + 1) (C + 0) (S + 0) F m) := by
  unfold m_M_on
  refine RI.ask (R := fun _ _ => True) I fun L B P Q s y l r u cs g sum lo bo pa ps vl vr rs ya sc m V hi hl hb => ?_
  refine ok_eI m_is ?_
  refine ok_if (fun e => c_ref V) (fun e => ?_)
  obtain ⟨n, rfl, p1, p2⟩ := is_nat (a := 0) (b := 23) (by decide) (by decide) e
  refine ok_rc (V.1.look 0 0 rfl rfl) ?_
  refine ok_eR (m_needle V) ?_
  obtain ⟨i, a, q, cap, mc, es, vs, ha, hs, hw, hv, -⟩ := c_nd V x
  rw [ha]
  have hlt := hw.lt
  refine ok_rc (ls_hd V.1 i hs) ?_
  refine ok_eI (ls_size V.1 i hs) ?_
  refine ok_if (fun e2 => ?_) (fun e2 => c_same V)
  have e2 := (i_lt (by omega) hlt).mp e2
  refine ok_rc (ls_hd V.1 i hs) ?_
  refine ok_eI (ls_size V.1 i hs) ?_
  refine ok_rc (ls_hd V.1 i hs) ?_
  rw [i_sub1 (by omega), i_sub (by omega)]
  refine ok_eR (ls_get (j := es.length - 1 - n) hX hw V.1 i hs (by omega)) ?_
  have hk : kIv xm m es[es.length - 1 - n] (vs[es.length - 1 - n]'(by have := hv.1; omega)) := hv.at (by omega) (by have := hv.1; omega)
  refine ok_ccO hk ?_
  refine ok_rc hk ?_
  exact ok_eI (int_val hk) (c_same V)
theorem r_left (I : RI xm M0 nb k C S F mem) (x : Int32) : dOk (m_M_left xm N M0 x mem) (rI fun v m => RI xm M0 nb (k + 1) (C + 0) (S + 0) F m) := by
  unfold m_M_left
  refine RI.ask (R := fun _ _ => True) I fun L B P Q s y l r u cs g sum lo bo pa ps vl vr rs ya sc m V hi hl hb => ?_
  refine ok_gI (V.1.look 0 0 rfl rfl) rfl ?_
  have hnb := hi.1.2.1
  have h6 : g 6 = Int32.ofNat nb := hi.1.1
  refine ok_eI m_is ?_
  refine ok_if (fun e => c_ref V) (fun e => ?_)
  rw [h6] at e
  obtain ⟨i, rfl, hil⟩ := in_nat (by omega) e
  refine ok_gR (V.1.look 0 0 rfl rfl) rfl ?_
  refine ok_gR (V.1.look 5 0 rfl rfl) rfl ?_
  refine ok_iL (V.1.look 10 0 rfl rfl) ?_ (c_same V)
  have h4 := hi.sw.2.2.2.2
  dsimp only at h4 ⊢
  rw [h4]
  exact i_inB (by omega) (by decide)
theorem r_ofRun (hX : kXok xm) (I : RI xm M0 nb k C S F mem) (x z : Int32) : dOk (m_M_ofRun xm N M0 x z mem) (rI fun v m => RI xm M0 nb (k + 1) (C + 0) (S + 0) F m) := by
  unfold m_M_ofRun
  refine RI.ask (R := fun _ _ => True) I fun L B P Q s y l r u cs g sum lo bo pa ps vl vr rs ya sc m V hi hl hb => ?_
  have hr9 := hi.sw.2.2.1
  dsimp only at hr9
  refine w_rc V.wr ?_
  refine ok_eI (m_isRun V.wr x) ?_
  refine ok_if (fun e => c_ref V) (fun e => ?_)
  obtain ⟨i, rfl, hil⟩ := in_nat (by omega) e
  refine ok_eI m_is ?_
  refine ok_if (fun e => c_ref V) (fun e2 => ?_)
  obtain ⟨n, rfl, p1, p2⟩ := is_nat (a := 0) (b := 3) (by decide) (by decide) e2
  refine w_run hX V.wr hil fun e he => ?_
  have hz : rs[i].length = 4 := hi.sw.2.2.2.1 _ (List.getElem_mem hil)
  exact ok_iL he (by rw [hz]; exact i_inB (by omega) (by decide)) (c_same V)
/-! is a loop in a list -/
theorem has_loop {Ls : List kSg} {a q cap it i : Nat} {mc x : Int32} {es : List Nat} {vs : List Int32} (hw : sWf q cap es) (hi : Ls[i]? = some (sAL a q mc cap es)) : ∀ (j d f : Nat) (l : Int32) (mem : kM), es.length = d + j → j < f → IVs xm mem es vs → HpS ([sIt it d l mc a] :: Ls) mem → dOk (m_M_has_5 xm N f x it mem) (rI fun v m => HpS Ls m ∧ St xm mem m 0 0) := by
  intro j
  have hlt := hw.lt
  induction j with
  | zero =>
    intro d f l mem hd hf hv H
    obtain ⟨f, rfl⟩ : ∃ f', f = f' + 1 := ⟨f - 1, by omega⟩
    rw [m_M_has_5]
    refine ok_rc (H.look 0 0 rfl rfl) ?_
    refine ok_eI (itr_has (l := 0) (n := es.length) (H.look 0 0 rfl rfl) (H.look (i + 1) 0 hi rfl) (by omega) (by omega)) ?_
    have e1 : (if d = es.length then (0 : Int32) else 1) = 0 := if_pos (by omega)
    rw [e1, if_pos rfl]
    exact ok_I ⟨H.drop, St.refl⟩
  | succ j ih =>
    intro d f l mem hd hf hv H
    obtain ⟨f, rfl⟩ : ∃ f', f = f' + 1 := ⟨f - 1, by omega⟩
    rw [m_M_has_5]
    refine ok_rc (H.look 0 0 rfl rfl) ?_
    refine ok_eI (itr_has (l := 0) (n := es.length) (H.look 0 0 rfl rfl) (H.look (i + 1) 0 hi rfl) (by omega) (by omega)) ?_
    have e1 : (if d = es.length then (0 : Int32) else 1) = 1 := if_neg (by omega)
    rw [e1, if_neg (show ¬ ((1 : Int32) = 0) by decide)]
    refine ok_rc (H.look 0 0 rfl rfl) ?_
    refine ok_cR (ls_next hw H i hi (by omega)) fun e m1 hh => ?_
    obtain ⟨rfl, H1, S1⟩ := hh
    have hv1 := hv.st S1
    have hk := hv1.at (i := d) (by omega) (by have := hv.1; omega)
    refine ok_ccO hk ?_
    refine ok_rc hk ?_
    refine ok_eI (int_val hk) ?_
    refine ok_if (fun _ => ?_) (fun _ => ?_)
    · exact ok_I ⟨H1.drop, S1⟩
    · refine ok_mono (ih (d + 1) f _ m1 (by omega) (by omega) hv1 H1) ?_
      rintro w ⟨v, q1, q2, q3⟩
      exact ⟨v, q1, q2, (S1.trans q3).mono (by omega) (by omega)⟩
theorem m_has {Ls : List kSg} {a q cap i : Nat} {mc x : Int32} {es : List Nat} {vs : List Int32} (hN : 20001 ≤ N) (hw : sWf q cap es) (hl : es.length ≤ 20000) (H : HpS Ls mem) (hi : Ls[i]? = some (sAL a q mc cap es)) (hv : IVs xm mem es vs) : dOk (m_M_has xm N a x mem) (rI fun v m => HpS Ls m ∧ St xm mem m 1 4) := by
  unfold m_M_has
  refine ok_rc (ls_hd H i hi) ?_
  refine ok_cR (ls_iterator H i hi) fun it m1 hh => ?_
  obtain ⟨H1, S1⟩ := hh
  refine ok_mono (has_loop (x := x) hw hi es.length 0 N (-1) m1 (by omega) (by omega) (hv.st S1) H1) ?_
  rintro w ⟨v, q1, q2, q3⟩
  exact ⟨v, q1, q2, (S1.trans q3).mono (by omega) (by omega)⟩
theorem where_loop {x : Int32} {it : Nat} (hN : 20001 ≤ N) (hb : bo.length ≤ 20000) (h24 : vl.length + vr.length ≤ 24) (h9 : rs.length ≤ 9) (h4 : ∀ z ∈ rs, z.length = 4) (hB : B.1 = M0 + 2) : ∀ (j d f : Nat) (z : Int32) (mem : kM), rs.length = d + j → j < f → wRl xm mem L B P Q (s, l, r, u, y) cs lo bo pa ps (vl, vr, rs, ya, sc) → HpS ([sIt it d z u.2.2.1 u.1] :: X :: wSg M0 L B P Q (s, l, r, u, y) cs g sum ps (vl, vr, rs, ya, sc) F) mem → dOk (m_M_where_11 xm N f M0 x it mem) (rI fun v m => HpS (X :: wSg M0 L B P Q (s, l, r, u, y) cs g sum ps (vl, vr, rs, ya, sc) F) m ∧ St xm mem m 3 12) := by
  intro j
  induction j with
  | zero =>
    intro d f z mem hd hf R H
    obtain ⟨f, rfl⟩ : ∃ f', f = f' + 1 := ⟨f - 1, by omega⟩
    have R0 := R
    obtain ⟨⟨w1, w2, w3, w4⟩, ⟨c1, c2, c3, c4⟩, r3, r4, r5, r6, ⟨t1, t2, t3, ⟨t4, t5, t6⟩, t7, t8, t9⟩, r8⟩ := R
    dsimp only at t1 t2 t3 t7 t8 t9
    rw [m_M_where_11]
    refine ok_rc (H.look 0 0 rfl rfl) ?_
    refine ok_eI (itr_has (l := 0) (n := u.2.2.2.2.length) (H.look 0 0 rfl rfl) (H.look 10 0 rfl rfl) (by omega) (by omega)) ?_
    have e1 : (if d = u.2.2.2.2.length then (0 : Int32) else 1) = 0 := if_pos (by omega)
    rw [e1, if_pos rfl]
    have H := H.drop
    refine ok_gR (H.look 1 0 rfl rfl) rfl ?_
    refine ok_gR (H.look 6 0 rfl rfl) rfl ?_
    refine ok_cI (m_has (x := x) hN t1 (by have := t7.1; omega) H (i := 7) rfl t7) fun v m1 hh => ?_
    obtain ⟨H1, S1⟩ := hh
    refine ok_if (fun _ => ?_) (fun _ => ok_I ⟨H1, S1.mono (by omega) (by omega)⟩)
    refine ok_gR (H1.look 1 0 rfl rfl) rfl ?_
    refine ok_gR (H1.look 6 0 rfl rfl) rfl ?_
    refine ok_cI (m_has (x := x) hN t2 (by have := t8.1; omega) H1 (i := 8) rfl (t8.st S1)) fun v m2 hh => ?_
    obtain ⟨H2, S2⟩ := hh
    refine ok_if (fun _ => ?_) (fun _ => ok_I ⟨H2, (S1.trans S2).mono (by omega) (by omega)⟩)
    refine ok_gR (H2.look 1 0 rfl rfl) rfl ?_
    refine ok_cI (m_has (x := x) hN w2 (by have := r4.1; omega) H2 (i := 3) rfl ((r4.st S1).st S2)) fun v m3 hh => ?_
    obtain ⟨H3, S3⟩ := hh
    have ST := S1.trans (S2.trans S3)
    exact ok_if (fun _ => ok_I ⟨H3, ST.mono (by omega) (by omega)⟩) (fun _ => ok_I ⟨H3, ST.mono (by omega) (by omega)⟩)
  | succ j ih =>
    intro d f z mem hd hf R H
    obtain ⟨f, rfl⟩ : ∃ f', f = f' + 1 := ⟨f - 1, by omega⟩
    have R0 := R
    obtain ⟨⟨w1, w2, w3, w4⟩, ⟨c1, c2, c3, c4⟩, r3, r4, r5, r6, ⟨t1, t2, t3, ⟨t4, t5, t6⟩, t7, t8, t9⟩, r8⟩ := R
    dsimp only at t1 t2 t3 t7 t8 t9
    have hu : d < u.2.2.2.2.length := by omega
    have hdr : d < rs.length := by omega
    rw [m_M_where_11]
    refine ok_rc (H.look 0 0 rfl rfl) ?_
    refine ok_eI (itr_has (l := 0) (n := u.2.2.2.2.length) (H.look 0 0 rfl rfl) (H.look 10 0 rfl rfl) (by omega) (by omega)) ?_
    have e1 : (if d = u.2.2.2.2.length then (0 : Int32) else 1) = 1 := if_neg (by omega)
    rw [e1, if_neg (show ¬ ((1 : Int32) = 0) by decide)]
    refine ok_rc (H.look 0 0 rfl rfl) ?_
    refine ok_cR (ls_next (a := u.1) (q := u.2.1) (mc := u.2.2.1) (cap := u.2.2.2.1) (es := u.2.2.2.2) t3 H 9 rfl hu) fun e m1 hh => ?_
    obtain ⟨rfl, H1, S1⟩ := hh
    have hat : (sRu u.2.2.2.2 rs)[d]? = some (u.2.2.2.2[d], kAr rs[d]) := sRu_at (List.getElem?_eq_getElem hu) (List.getElem?_eq_getElem hdr)
    have hz : rs[d].length = 4 := h4 _ (List.getElem_mem hdr)
    have hl := H1.look (xm := xm) 11 d rfl hat
    refine ok_ccA hl (H1.ge 11 d rfl hat) ?_
    refine ok_iL hl (by rw [hz]; decide) ?_
    have rest : dOk (m_M_where_11 xm N f M0 x it m1) (rI fun v m => HpS (X :: wSg M0 L B P Q (s, l, r, u, y) cs g sum ps (vl, vr, rs, ya, sc) F) m ∧ St xm mem m 3 12) := by
      refine ok_mono (ih (d + 1) f _ m1 (by omega) (by omega) (R0.st S1) H1) ?_
      rintro w ⟨v, q1, q2, q3⟩
      exact ⟨v, q1, q2, (S1.trans q3).mono (by omega) (by omega)⟩
    unfold m_M_where_46
    refine ok_if (fun _ => ?_) (fun _ => rest)
    refine ok_iL hl (by rw [hz]; decide) ?_
    exact ok_if (fun _ => ok_I ⟨H1.drop, S1.mono (by omega) (by omega)⟩) (fun _ => rest)
theorem m_where {x : Int32} (hN : 20001 ≤ N) (hb : bo.length ≤ 20000) (h24 : vl.length + vr.length ≤ 24) (h9 : rs.length ≤ 9) (h4 : ∀ z ∈ rs, z.length = 4) (hB : B.1 = M0 + 2) (R : wRl xm mem L B P Q (s, l, r, u, y) cs lo bo pa ps (vl, vr, rs, ya, sc)) (H : HpS (X :: wSg M0 L B P Q (s, l, r, u, y) cs g sum ps (vl, vr, rs, ya, sc) F) mem) : dOk (m_M_where xm N M0 x mem) (rI fun v m => HpS (X :: wSg M0 L B P Q (s, l, r, u, y) cs g sum ps (vl, vr, rs, ya, sc) F) m ∧ St xm mem m 4 16) := by
  unfold m_M_where
  refine ok_gR (H.look 1 0 rfl rfl) rfl ?_
  refine ok_gR (H.look 6 0 rfl rfl) rfl ?_
  refine ok_rc (ls_hd H 9 rfl) ?_
  refine ok_cR (ls_iterator (a := u.1) (q := u.2.1) (mc := u.2.2.1) (cap := u.2.2.2.1) (es := u.2.2.2.2) H 9 rfl) fun it m1 hh => ?_
  obtain ⟨H1, S1⟩ := hh
  refine ok_mono (where_loop (x := x) hN hb h24 h9 h4 hB rs.length 0 N (-1) m1 (by omega) (by omega) (R.st S1) H1) ?_
  rintro w ⟨v, q1, q2, q3⟩
  exact ⟨v, q1, q2, (S1.trans q3).mono (by omega) (by omega)⟩
theorem m_ofLoopNow {i n : Nat} (hX : kXok xm) (hN : 20001 ≤ N) (V : WC xm M0 L B P Q (s, l, r, u, y) cs g sum lo bo pa ps (vl, vr, rs, ya, sc) F mem) (hi : aInv nb g lo bo pa ps (vl, vr, rs, ya, sc)) (hb : bo.length ≤ 20000) (hil : i < lo.length) (hlo : lo.length ≤ 20000) (hn : n < 6) : dOk (m_M_ofLoopNow xm N M0 (Int32.ofNat i) (Int32.ofNat n) mem) (rI fun v m => WC xm M0 L B P Q (s, l, r, u, y) cs g sum lo bo pa ps (vl, vr, rs, ya, sc) F m ∧ St xm mem m 5 22) := by
  unfold m_M_ofLoopNow
  refine w_gL V.wr ?_
  refine w_loop hX V.wr hil fun e he => ?_
  refine ok_ccO he ?_
  refine os_nI (n := 6) xm V.1 (by decide) fun m1 p1 H1 S1 => ?_
  refine ok_gI (he.st S1) rfl ?_
  refine os_iS H1 0 0 rfl rfl (by decide) fun m2 H2 S2 => ?_
  refine ok_gI ((he.st S1).st S2) rfl ?_
  refine os_iS H2 0 0 rfl rfl (by simp; decide) fun m3 H3 S3 => ?_
  refine ok_gI (((he.st S1).st S2).st S3) rfl ?_
  refine os_iS H3 0 0 rfl rfl (by simp; decide) fun m4 H4 S4 => ?_
  refine ok_gI ((((he.st S1).st S2).st S3).st S4) rfl ?_
  refine os_iS H4 0 0 rfl rfl (by simp; decide) fun m5 H5 S5 => ?_
  refine ok_gI (((((he.st S1).st S2).st S3).st S4).st S5) rfl ?_
  refine os_iS H5 0 0 rfl rfl (by simp; decide) fun m6 H6 S6 => ?_
  refine ok_rc (H6.look 1 0 rfl rfl) ?_
  have S16 := S1.trans (S2.trans (S3.trans (S4.trans (S5.trans S6))))
  refine ok_cI (m_where (x := Int32.ofNat i) hN hb hi.2.1.2.1 hi.sw.2.2.1 hi.sw.2.2.2.1 V.2.2.2.1 (V.2.1.st S16) H6) fun v m7 hh => ?_
  obtain ⟨H7, S7⟩ := hh
  refine os_iS H7 0 0 rfl rfl (by simp; decide) fun m8 H8 S8 => ?_
  refine ok_iL (H8.look 0 0 rfl rfl) (by simp only [List.length_set, List.length_replicate]; exact i_inB hn (by decide)) ?_
  have ST := S16.trans (S7.trans S8)
  exact ok_I ⟨V.mk' H8.drop ST, ST.mono (by omega) (by omega)⟩
theorem r_ofLoop (hX : kXok xm) (hN : 20001 ≤ N) (hk : k < 512) (I : RI xm M0 nb k C S F mem) (x z : Int32) : dOk (m_M_ofLoop xm N M0 x z mem) (rI fun v m => RI xm M0 nb (k + 1) (C + 5) (S + 22) F m) := by
  unfold m_M_ofLoop
  refine RI.ask (R := fun _ _ => True) I fun L B P Q s y l r u cs g sum lo bo pa ps vl vr rs ya sc m V hi hl hb => ?_
  refine w_gL V.wr ?_
  have hL := V.2.2.1
  have hlt := V.2.1.1.1.lt
  have n3 := V.2.1.2.2.1.1
  have hd := ls_hd (xm := xm) (a := L.1) (q := L.2.1) (mc := L.2.2.1) (cap := L.2.2.2.1) (es := L.2.2.2.2) V.1 1 rfl
  have hsz := ls_size (xm := xm) (N := N) (a := L.1) (q := L.2.1) (mc := L.2.2.1) (cap := L.2.2.2.1) (es := L.2.2.2.2) V.1 1 rfl
  rw [hL] at hd hsz
  refine ok_rc hd ?_
  refine ok_eI hsz ?_
  refine ok_eI m_is ?_
  refine ok_if (fun e => c_up (by omega) (by omega) (c_ref V)) (fun e => ?_)
  obtain ⟨i, rfl, hil⟩ := in_nat hlt e
  refine ok_eI m_is ?_
  refine ok_if (fun e => c_up (by omega) (by omega) (c_ref V)) (fun e2 => ?_)
  obtain ⟨n, rfl, p1, p2⟩ := is_nat (a := 0) (b := 5) (by decide) (by decide) e2
  refine w_rc V.wr ?_
  refine ok_cI (m_ofLoopNow hX hN V hi (by omega) (by omega) (by omega) (by omega)) fun v m2 hh => ?_
  exact ok_I ⟨g, sum, hh.1, rfl, rfl, hh.2⟩
end KV
