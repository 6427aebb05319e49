/-! ===== the reference: crossing ===== -/
section KL
variable {xm : Nat → Option kE} {N M0 ck : Nat} {g : Nat → Int32} {sum : Int64} {lo : List kLf} {bo pa : List Int32} {ps : List aS} {vr ya : List Int32} {rs : List (List Int32)} {sc : Nat → Int32} {F : kSg}
theorem kA_ten {cap n : Nat} (h : n < 10) (hc : cap = 0 ∨ cap = 10) (hn : n ≤ cap) : (kAc cap n = 10) ∧ kAs cap n ≤ 10 := by
  rcases hc with rfl | rfl
  · obtain rfl : n = 0 := by omega
    exact ⟨rfl, by decide⟩
  · unfold kAc kAs
    rw [if_neg (by omega), if_neg (by omega)]
    omega
theorem wRl.left {m : kM} {L B P Q : kLi} {s y la lq lc lc' lq' : Nat} {lm lm' : Int32} {le le' : List Nat} {r u : kLi} {cs : List kCs} {vl vl' : List Int32} {sc' : Nat → Int32} (R : wRl xm m L B P Q (s, (la, lq, lm, lc, le), r, u, y) cs lo bo pa ps (vl, vr, rs, ya, sc)) (h1 : sWf lq' lc' le') (h2 : lc' ≤ 40) (h3 : IVs xm m le' vl') : wRl xm m L B P Q (s, (la, lq', lm', lc', le'), r, u, y) cs lo bo pa ps (vl', vr, rs, ya, sc') := by
  obtain ⟨w, cc, r3, r4, r5, r6, ⟨t1, t2, t3, ⟨t4, t5, t6⟩, t7, t8, t9⟩, r8⟩ := R
  exact ⟨w, cc, r3, r4, r5, r6, ⟨h1, t2, t3, ⟨h2, t5, t6⟩, h3, t8, t9⟩, r8⟩
theorem HpS.drop2 {Ls : List kSg} {A B : kSg} {mem : kM} (H : HpS (A :: B :: Ls) mem) : HpS Ls mem := H.drop.drop
/-- the end of crossing: both groups are put back -/
theorem cross_fin {L B P Q : kLi} {s y la lq lc pb qb cb pa' qa ca f : Nat} {lm mb ma : Int32} {le ea eb : List Nat} {r u : kLi} {cs : List kCs} {vl xs ys : List Int32} {x : Int32} {n2 : Nat} {mem : kM} (hX : kXok xm) (H : HpS (sAL pb qb mb cb eb :: sAL pa' qa ma ca ea :: wSg M0 L B P Q (s, (la, lq, lm, lc, le), r, u, y) cs g sum ps (vl, vr, rs, ya, sc) F) mem) (R : wRl xm mem L B P Q (s, (la, lq, lm, lc, le), r, u, y) cs lo bo pa ps (vl, vr, rs, ya, sc)) (hck : kCapL L + kCapL B = ck ∧ L.1 = M0 + 1 ∧ B.1 = M0 + 2 ∧ P.1 = M0 + 3 ∧ Q.1 = M0 + 4)
    (ha : sWf qa ca ea) (hb : sWf qb cb eb) (hca : ca ≤ 10) (hcb : cb ≤ 10) (ia : IVs xm mem ea ys) (ib : IVs xm mem eb (xs ++ [x])) (hl : le.length + ea.length + eb.length ≤ lc) (h24 : le.length + ea.length + eb.length ≤ 24) (hn2 : n2 < 2 ^ 31) :
    dOk (m_M_crossNow_53 xm N (f + 1) M0 (Int32.ofNat n2) pa' pb (Int32.ofNat n2) mem) (rI fun v m => v = x ∧ WR xm M0 g sum lo bo pa ps (vl ++ ys ++ (xs ++ [x]), vr, rs, ya, kUp sc 9 (sc 9 + 1)) ck F m ∧ St xm mem m 4 (ea.length + eb.length)) := by
  obtain ⟨-, -, -, -, -, -, ⟨t1, t2, t3, ⟨t4, t5, t6⟩, t7, t8, t9⟩, -⟩ := id R
  dsimp only at t1 t4 t7
  rw [m_M_crossNow_53, if_neg (fun z => by have := (i_lt hn2 hn2).mp z; omega)]
  refine ok_gR (H.look 2 0 rfl rfl) rfl ?_
  refine ok_gR (H.look 7 0 rfl rfl) rfl ?_
  refine ok_rc (ls_hd H 8 rfl) ?_
  refine ok_cI (ls_addAll (a := la) (q := lq) (mc := lm) (cap := lc) (es := le) (b := pa') (q2 := qa) (mc2 := ma) (cap2 := ca) (fs := ea) hX t1 ha (by omega) (by omega) H 8 1 (by decide) rfl rfl t7.ok ia.ok) fun v m1 h => ?_
  obtain ⟨q1, H1, w1, S1⟩ := h
  rw [if_neg (by omega)] at S1
  have e1 : kBc lc le.length ea.length = lc := by
    unfold kBc
    split
    · rfl
    · rw [if_neg (by omega)]
  rw [e1] at H1 w1
  refine ok_gR (H1.look 2 0 rfl rfl) rfl ?_
  refine ok_gR (H1.look 7 0 rfl rfl) rfl ?_
  refine ok_rc (ls_hd H1 8 rfl) ?_
  have i1 := (t7.app ia).st S1
  refine ok_cI (ls_addAll (a := la) (q := q1) (mc := lm + 1) (cap := lc) (es := le ++ ea) (b := pb) (q2 := qb) (mc2 := mb) (cap2 := cb) (fs := eb) hX w1 hb (by omega) (by omega) H1 8 0 (by decide) rfl rfl i1.ok (ib.st S1).ok) fun v m2 h => ?_
  obtain ⟨q2, H2, w2, S2⟩ := h
  have el : (le ++ ea).length = le.length + ea.length := by simp
  rw [if_neg (by omega)] at S2
  have e2 : kBc lc (le ++ ea).length eb.length = lc := by
    unfold kBc
    split
    · rfl
    · rw [if_neg (by omega)]
  rw [e2] at H2 w2
  have i2 := (i1.app (ib.st S1)).st S2
  refine ok_gR (H2.look 2 0 rfl rfl) rfl ?_
  refine ok_gI (H2.look 7 0 rfl rfl) rfl ?_
  refine os_p H2 7 0 rfl rfl rfl rfl fun m3 H3 S3 => ?_
  refine ok_gR (H3.look 2 0 rfl rfl) rfl ?_
  refine ok_gR (H3.look 7 0 rfl rfl) rfl ?_
  refine ok_gR (H3.look 2 0 rfl rfl) rfl ?_
  refine ok_gR (H3.look 7 0 rfl rfl) rfl ?_
  refine ok_rc (ls_hd H3 8 rfl) ?_
  refine ok_eI (ls_size (a := la) (q := q2) (mc := lm + 1 + 1) (cap := lc) (es := le ++ ea ++ eb) H3 8 rfl) ?_
  have i3 := i2.st S3
  have n3 := i3.1
  have lx : (le ++ ea ++ eb).length = le.length + ea.length + eb.length := by rw [List.length_append, List.length_append]
  have lb := ib.1
  rw [List.length_append, List.length_singleton] at lb
  rw [i_sub1 (by omega)]
  refine ok_rc (ls_hd H3 8 rfl) ?_
  refine ok_eR (ls_get (a := la) (q := q2) (mc := lm + 1 + 1) (cap := lc) (es := le ++ ea ++ eb) hX w2 H3 8 rfl (show (le ++ ea ++ eb).length - 1 < _ by omega)) ?_
  have hk : kIv xm m3 (le ++ ea ++ eb)[(le ++ ea ++ eb).length - 1] x := by
    refine i3.2 _ _ x (List.getElem?_eq_getElem (by omega)) ?_
    have hidx : (le ++ ea ++ eb).length - 1 = (vl ++ ys ++ xs).length := by
      rw [n3]
      simp only [List.length_append, List.length_singleton]
      omega
    rw [hidx, ← List.append_assoc (vl ++ ys), List.getElem?_concat_length]
  refine ok_ccO hk ?_
  refine ok_rc hk ?_
  refine ok_eI (int_val hk) ?_
  have ST := S1.trans (S2.trans S3)
  refine ok_I ⟨rfl, ⟨L, B, P, Q, (s, (la, q2, lm + 1 + 1, lc, le ++ ea ++ eb), r, u, y), cs, H3.drop2, (R.st ST).left w2 t4 i3, hck⟩, ST.mono (by omega) (by omega)⟩
theorem cross_53 {L B P Q : kLi} {s y la lq lc pb pa' qa ca n2 : Nat} {ma : Int32} {ea : List Nat} {r u : kLi} {cs : List kCs} {vl ys : List Int32} (hX : kXok xm) (hck : kCapL L + kCapL B = ck ∧ L.1 = M0 + 1 ∧ B.1 = M0 + 2 ∧ P.1 = M0 + 3 ∧ Q.1 = M0 + 4) (ha : sWf qa ca ea) (hca : ca ≤ 10) (hn2 : n2 ≤ 3) (hea : ea.length ≤ 3) :
    ∀ (j i f : Nat) (mem : kM) (lm mb : Int32) (le eb : List Nat) (qb cb : Nat) (zs tl : List Int32), i + j = n2 → j < f → zs.length = j → tl.length = i → HpS (sAL pb qb mb cb eb :: sAL pa' qa ma ca ea :: wSg M0 L B P Q (s, (la, lq, lm, lc, le), r, u, y) cs g sum ps (vl ++ zs, vr, rs, ya, sc) F) mem → wRl xm mem L B P Q (s, (la, lq, lm, lc, le), r, u, y) cs lo bo pa ps (vl ++ zs, vr, rs, ya, sc) → sWf qb cb eb → (cb = 0 ∨ cb = 10) → IVs xm mem ea ys → IVs xm mem eb tl → zs ++ tl ≠ [] → le.length + ea.length + eb.length ≤ lc → le.length + ea.length + eb.length ≤ 24 →
      dOk (m_M_crossNow_53 xm N f M0 (Int32.ofNat n2) pa' pb (Int32.ofNat i) mem) (rI fun v m => some v = (zs ++ tl).getLast? ∧ WR xm M0 g sum lo bo pa ps (vl ++ ys ++ (zs ++ tl), vr, rs, ya, kUp sc 9 (sc 9 + 1)) ck F m ∧ St xm mem m (4 + 2 * j) (ea.length + n2 + 11 * j)) := by
  intro j
  induction j with
  | zero =>
    intro i f mem lm mb le eb qb cb zs tl hi hf hz ht H R hb hcb ia ib hne hl h24
    obtain ⟨f, rfl⟩ : ∃ f', f = f' + 1 := ⟨f - 1, by omega⟩
    have hz : zs = [] := List.length_eq_zero_iff.mp hz
    subst hz
    rw [List.append_nil] at R H
    rw [List.nil_append] at hne ⊢
    obtain ⟨xs, x, rfl⟩ := snoc_of hne
    have lb := ib.1
    have : i = n2 := by omega
    subst this
    refine ok_mono (cross_fin hX H R hck ha hb hca (by omega) ia ib hl h24 (by omega)) ?_
    rintro w ⟨v, h1, rfl, h2, h3⟩
    exact ⟨v, h1, by simp, h2, h3.mono (by omega) (by omega)⟩
  | succ j ih =>
    intro i f mem lm mb le eb qb cb zs tl hi hf hz ht H R hb hcb ia ib hne hl h24
    obtain ⟨f, rfl⟩ : ∃ f', f = f' + 1 := ⟨f - 1, by omega⟩
    obtain ⟨t, v, rfl⟩ := snoc_of (l := zs) (fun e => by rw [e] at hz; cases hz)
    have hR := R
    obtain ⟨-, -, -, -, -, -, ⟨t1, t2, t3, ⟨t4, t5, t6⟩, t7, t8, t9⟩, -⟩ := hR
    dsimp only at t1 t4 t7
    rw [m_M_crossNow_53, if_pos ((i_lt (by omega) (by omega)).mpr (by omega))]
    refine ok_gR (H.look 2 0 rfl rfl) rfl ?_
    refine ok_gR (H.look 7 0 rfl rfl) rfl ?_
    rw [← List.append_assoc] at t7
    have n7 := t7.1
    rw [List.length_append, List.length_append, List.length_singleton] at n7
    have lb := ib.1
    refine ok_cI (m_pull (a := la) (q := lq) (mc := lm) (cap := lc) (es := le) (vs := vl ++ t) (v := v) t1 H (i := 8) rfl t7) fun x m1 h => ?_
    obtain ⟨rfl, H1, w1, i1, S1⟩ := h
    refine ok_cR (int_valueOf hX H1 x) fun e m2 h => ?_
    obtain ⟨hiv, H2, S2⟩ := h
    have H2 : HpS _ m2 := H2
    have S12 := S1.trans S2
    refine ok_rc (ls_hd H2 0 rfl) ?_
    refine ok_cV (ls_add0 (a := pb) (q := qb) (mc := mb) (cap := cb) (es := eb) hX hb (by omega) H2 0 rfl (ib.st S12).ok hiv.ok) fun m3 h => ?_
    obtain ⟨qb', H3, hb', S3⟩ := h
    have kt := kA_ten (cap := cb) (n := eb.length) (by omega) hcb hb.1
    rw [kt.1] at H3 hb'
    rw [i_add1]
    have ib' : IVs xm m3 (e :: eb) (x :: tl) := IVs.app (es := [e]) (vs := [x]) (IVs.one (hiv.st S3)) (((ib.st S12)).st S3)
    have e4 : t ++ [x] ++ tl = t ++ (x :: tl) := by simp
    rw [e4] at hne ⊢
    have ST := S12.trans S3
    have ld : le.dropLast.length = le.length - 1 := List.length_dropLast
    refine ok_mono (ih (i + 1) f m3 (lm + 1) (mb + 1) le.dropLast (e :: eb) qb' 10 t (x :: tl) (by omega) (by omega) (by simp at hz; omega) (by simp; omega) H3 ((R.st ST).left w1 t4 (i1.st (S2.trans S3))) hb' (Or.inr rfl) (ia.st ST) ib' hne (by simp only [List.length_cons]; omega) (by simp only [List.length_cons]; omega)) ?_
    rintro w ⟨v', h1, h2, h3, S4⟩
    have := kt.2
    exact ⟨v', h1, h2, h3, (ST.trans S4).mono (by omega) (by omega)⟩
theorem cross_20 {L B P Q : kLi} {s y la lq lc pb pa' n1 n2 : Nat} {r u : kLi} {cs : List kCs} {vl xs : List Int32} (hX : kXok xm) (hN : 20 ≤ N) (hck : kCapL L + kCapL B = ck ∧ L.1 = M0 + 1 ∧ B.1 = M0 + 2 ∧ P.1 = M0 + 3 ∧ Q.1 = M0 + 4) (hn1 : n1 ≤ 3) (hn2 : n2 ≤ 3) (hn0 : 1 ≤ n2) (hx : xs.length = n2) :
    ∀ (j i f : Nat) (mem : kM) (lm ma : Int32) (le ea : List Nat) (qa ca : Nat) (zs tl : List Int32), i + j = n1 → j < f → zs.length = j → tl.length = i → HpS (sAL pb 1 0 0 [] :: sAL pa' qa ma ca ea :: wSg M0 L B P Q (s, (la, lq, lm, lc, le), r, u, y) cs g sum ps (vl ++ xs ++ zs, vr, rs, ya, sc) F) mem → wRl xm mem L B P Q (s, (la, lq, lm, lc, le), r, u, y) cs lo bo pa ps (vl ++ xs ++ zs, vr, rs, ya, sc) → sWf qa ca ea → (ca = 0 ∨ ca = 10) → IVs xm mem ea tl → le.length + ea.length ≤ lc → le.length + ea.length ≤ 24 →
      dOk (m_M_crossNow_20 xm N f M0 (Int32.ofNat n1) (Int32.ofNat n2) pa' pb (Int32.ofNat i) mem) (rI fun v m => some v = xs.getLast? ∧ WR xm M0 g sum lo bo pa ps (vl ++ (zs ++ tl) ++ xs, vr, rs, ya, kUp sc 9 (sc 9 + 1)) ck F m ∧ St xm mem m (4 + 2 * n2 + 2 * j) (n1 + n2 + 11 * n2 + 11 * j)) := by
  intro j
  induction j with
  | zero =>
    intro i f mem lm ma le ea qa ca zs tl hi hf hz ht H R ha hca ia hl h24
    obtain ⟨f, rfl⟩ : ∃ f', f = f' + 1 := ⟨f - 1, by omega⟩
    have hz : zs = [] := List.length_eq_zero_iff.mp hz
    subst hz
    rw [List.append_nil] at R H
    rw [List.nil_append]
    have lb := ia.1
    rw [m_M_crossNow_20, if_neg (fun z => by have := (i_lt (by omega) (by omega)).mp z; omega)]
    have h0 := cross_53 (N := N) (pb := pb) (pa' := pa') (qa := qa) (ca := ca) (ea := ea) (ma := ma) (n2 := n2) (L := L) (B := B) (P := P) (Q := Q) (s := s) (y := y) (la := la) (lq := lq) (lc := lc) (r := r) (u := u) (cs := cs) (vl := vl) (ys := tl) (F := F) (g := g) (sum := sum) (ps := ps) (vr := vr) (rs := rs) (ya := ya) (sc := sc) (lo := lo) (bo := bo) (pa := pa) (ck := ck) (M0 := M0) hX hck ha (by omega) hn2 (by omega) n2 0 N mem lm 0 le [] 1 0 xs [] (by omega) (by omega) hx rfl H R sWf_nil (Or.inl rfl) ia IVs.nil (by rw [List.append_nil]; intro e; rw [e] at hx; simp at hx; omega) (by simp; omega) (by simp; omega)
    rw [List.append_nil] at h0
    refine ok_mono h0 ?_
    rintro w ⟨v, h1, h2, h3, h4⟩
    exact ⟨v, h1, h2, h3, h4.mono (by omega) (by omega)⟩
  | succ j ih =>
    intro i f mem lm ma le ea qa ca zs tl hi hf hz ht H R ha hca ia hl h24
    obtain ⟨f, rfl⟩ : ∃ f', f = f' + 1 := ⟨f - 1, by omega⟩
    obtain ⟨t, v, rfl⟩ := snoc_of (l := zs) (fun e => by rw [e] at hz; cases hz)
    have hR := R
    obtain ⟨-, -, -, -, -, -, ⟨t1, t2, t3, ⟨t4, t5, t6⟩, t7, t8, t9⟩, -⟩ := hR
    dsimp only at t1 t4 t7
    rw [m_M_crossNow_20, if_pos ((i_lt (by omega) (by omega)).mpr (by omega))]
    refine ok_gR (H.look 2 0 rfl rfl) rfl ?_
    refine ok_gR (H.look 7 0 rfl rfl) rfl ?_
    rw [← List.append_assoc] at t7
    have n7 := t7.1
    rw [List.length_append, List.length_append, List.length_singleton] at n7
    have lb := ia.1
    refine ok_cI (m_pull (a := la) (q := lq) (mc := lm) (cap := lc) (es := le) (vs := vl ++ xs ++ t) (v := v) t1 H (i := 8) rfl t7) fun x m1 h => ?_
    obtain ⟨rfl, H1, w1, i1, S1⟩ := h
    refine ok_cR (int_valueOf hX H1 x) fun e m2 h => ?_
    obtain ⟨hiv, H2, S2⟩ := h
    have H2 : HpS _ m2 := H2
    have S12 := S1.trans S2
    refine ok_rc (ls_hd H2 1 rfl) ?_
    refine ok_cV (ls_add0 (a := pa') (q := qa) (mc := ma) (cap := ca) (es := ea) hX ha (by omega) H2 1 rfl (ia.st S12).ok hiv.ok) fun m3 h => ?_
    obtain ⟨qa', H3, ha', S3⟩ := h
    have kt := kA_ten (cap := ca) (n := ea.length) (by omega) hca ha.1
    rw [kt.1] at H3 ha'
    rw [i_add1]
    have ia' : IVs xm m3 (e :: ea) (x :: tl) := IVs.app (es := [e]) (vs := [x]) (IVs.one (hiv.st S3)) (((ia.st S12)).st S3)
    have e4 : t ++ [x] ++ tl = t ++ (x :: tl) := by simp
    rw [e4]
    have ST := S12.trans S3
    have ld : le.dropLast.length = le.length - 1 := List.length_dropLast
    refine ok_mono (ih (i + 1) f m3 (lm + 1) (ma + 1) le.dropLast (e :: ea) qa' 10 t (x :: tl) (by omega) (by omega) (by simp at hz; omega) (by simp; omega) H3 ((R.st ST).left w1 t4 (i1.st (S2.trans S3))) ha' (Or.inr rfl) ia' (by simp only [List.length_cons]; omega) (by simp only [List.length_cons]; omega)) ?_
    rintro w ⟨v', h1, h2, h3, S4⟩
    have := kt.2
    exact ⟨v', h1, h2, h3, (ST.trans S4).mono (by omega) (by omega)⟩
theorem m_crossNow {n1 n2 : Nat} {vl xs ys : List Int32} {mem : kM} (hX : kXok xm) (hN : 20 ≤ N) (W : WR xm M0 g sum lo bo pa ps (vl ++ xs ++ ys, vr, rs, ya, sc) ck F mem) (ha : aSw (vl ++ xs ++ ys, vr, rs, ya, sc)) (hx : xs.length = n2) (hy : ys.length = n1) (hn1 : n1 ≤ 3) (hn2 : n2 ≤ 3) (hn0 : 1 ≤ n2) :
    dOk (m_M_crossNow xm N M0 (Int32.ofNat n1) (Int32.ofNat n2) mem) (rI fun v m => some v = xs.getLast? ∧ WR xm M0 g sum lo bo pa ps (vl ++ ys ++ xs, vr, rs, ya, kUp sc 9 (sc 9 + 1)) ck F m ∧ St xm mem m (6 + 2 * n2 + 2 * n1) (6 + n1 + n2 + 11 * n2 + 11 * n1)) := by
  obtain ⟨L, B, P, Q, ⟨s, ⟨la, lq, lm, lc, le⟩, r, u, y⟩, cs, H, R, hck⟩ := W
  unfold m_M_crossNow
  refine os_n xm H fun m1 pa' H1 S1 => ?_
  refine ok_cV (ls_new H1 0 rfl) fun m2 h => ?_
  obtain ⟨H2, S2⟩ := h
  refine os_n xm H2 fun m3 pb H3 S3 => ?_
  refine ok_cV (ls_new H3 0 rfl) fun m4 h => ?_
  obtain ⟨H4, S4⟩ := h
  have ST := S1.trans (S2.trans (S3.trans S4))
  have hR := R
  obtain ⟨-, -, -, -, -, -, ⟨t1, t2, t3, ⟨t4, t5, t6⟩, t7, t8, t9⟩, -⟩ := hR
  dsimp only at t1 t4 t7
  have n7 := t7.1
  have a1 := ha.1
  dsimp only at a1
  have h0 := cross_20 (N := N) (F := F) (M0 := M0) (ck := ck) (g := g) (sum := sum) (lo := lo) (bo := bo) (pa := pa) (ps := ps) (vr := vr) (rs := rs) (ya := ya) (sc := sc) (pb := pb) (pa' := pa') (vl := vl) (xs := xs) hX hN hck hn1 hn2 hn0 hx n1 0 N m4 lm 0 le [] 1 0 ys [] (by omega) (by omega) hy rfl H4 (R.st ST) sWf_nil (Or.inl rfl) IVs.nil (by have := t1.1; simp; omega) (by simp; omega)
  rw [List.append_nil] at h0
  refine ok_mono h0 ?_
  rintro w ⟨v, h1, h2, h3, h4⟩
  refine ⟨v, h1, h2, h3, (ST.trans h4).mono (by omega) ?_⟩
  have e3 : kSz (.inl (4, [.int 0, .null, .int 0])) = 3 := rfl
  rw [e3]
  omega
end KL
