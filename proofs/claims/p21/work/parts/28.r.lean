/-! ===== the reference's calls: undo, buy ===== -/
section KR2
variable {xm : Nat → Option kE} {mem : kM} {N M0 nb k C S ck : Nat} {F : kSg} {g : Nat → Int32} {sum : Int64} {lo : List kLf} {bo pa : List Int32} {ps : List aS} {st : aS} {T : kO × kM → Prop}
theorem LVs.init {m : kM} {es : List Nat} {vs : List kLf} {v : kLf} (h : LVs xm m es (vs ++ [v])) : LVs xm m es.dropLast vs := by
  have hl : es.length = vs.length + 1 := by rw [h.1]; simp
  refine ⟨by rw [List.length_dropLast]; omega, fun i e w h1 h2 => ?_⟩
  have hi := (List.getElem?_eq_some_iff.mp h2).1
  rw [List.getElem?_dropLast, if_pos (by omega)] at h1
  exact h.2 i e w h1 (by rw [List.getElem?_append_left hi]; exact h2)
theorem IVs.init {m : kM} {es : List Nat} {vs : List Int32} {v : Int32} (h : IVs xm m es (vs ++ [v])) : IVs xm m es.dropLast vs := by
  have hl : es.length = vs.length + 1 := by rw [h.1]; simp
  refine ⟨by rw [List.length_dropLast]; omega, fun i e w h1 h2 => ?_⟩
  have hi := (List.getElem?_eq_some_iff.mp h2).1
  rw [List.getElem?_dropLast, if_pos (by omega)] at h1
  exact h.2 i e w h1 (by rw [List.getElem?_append_left hi]; exact h2)
theorem sWf.dropLast {q cap : Nat} {es : List Nat} (h : sWf q cap es) : sWf q cap es.dropLast := ⟨by have := h.1; rw [List.length_dropLast]; omega, h.2⟩
theorem w_s7 {K : Nat → dRes} (W : WR xm M0 g sum lo bo pa ps st ck F mem) (h : ∀ s la ra ua y, kLook xm mem s = some (stE la ra ua y st.2.2.2.2) → dOk (K s) T) : dOk (dGR xm mem M0 15 5 K) T := by
  obtain ⟨L, B, P, Q, ⟨s', l, r, u, y⟩, cs, H, R, hck⟩ := W
  have h3 := H.look (xm := xm) 0 0 rfl rfl
  exact ok_gR h3 rfl (h s' _ _ _ _ (H.look (xm := xm) 5 0 rfl rfl))
theorem w_pastSize {K : Int32 → kM → dRes} (W : WR xm M0 g sum lo bo pa ps st ck F mem) (h : dOk (K (Int32.ofNat ps.length) mem) T) : dOk (dRc xm mem (M0 + 4) 4 <| dCI (m_AL_size xm N (M0 + 4) mem) K) T := by
  obtain ⟨L, B, P, ⟨Qa, Qq, Qm, Qc, Qe⟩, c, cs, H, R, hck, hL, hB, hP, hQ⟩ := W
  obtain ⟨-, -, r3, r4, r5, ⟨r6, r6'⟩, -⟩ := R
  dsimp only at hQ r6
  subst hQ
  have n6 : Qe.length = ps.length := by rw [r6, List.length_map, r6']
  refine ok_rc (ls_hd H 4 rfl) ?_
  refine ok_eI (ls_size (a := M0 + 4) (q := Qq) (mc := Qm) (cap := Qc) (es := Qe) H 4 rfl) ?_
  rw [n6]
  exact h
theorem undo_81 {b' : Nat} (hb7 : st.2.2.2.2 7 = Int32.ofNat b') (hb : b' ≤ 20000) : ∀ (j f : Nat) (mem : kM) (t : List Int32), t.length = j → j < f → j ≤ 20000 → bo.length = b' → WR xm M0 g sum lo (bo ++ t) pa ps st ck F mem → dOk (m_M_undo_81 xm N f M0 mem) (rI fun v m => WR xm M0 g sum lo bo pa ps st ck F m ∧ St xm mem m 0 0) := by
  intro j
  induction j with
  | zero =>
    intro f mem t ht hf hj hbl W
    obtain ⟨f, rfl⟩ : ∃ f', f = f' + 1 := ⟨f - 1, by omega⟩
    have ht : t = [] := List.length_eq_zero_iff.mp ht
    subst ht
    rw [List.append_nil] at W
    rw [m_M_undo_81]
    refine w_gB W ?_
    have W0 := W
    obtain ⟨L, ⟨Ba, Bq, Bm, Bc, Be⟩, P, Q, c, cs, H, R, hck, hL, hB, hP, hQ⟩ := W
    have r4 := R.2.2.2.1
    dsimp only at hB r4
    subst hB
    have n4 := r4.1
    refine ok_rc (ls_hd H 2 rfl) ?_
    refine ok_eI (ls_size (a := M0 + 2) (q := Bq) (mc := Bm) (cap := Bc) (es := Be) H 2 rfl) ?_
    refine w_s7 W0 fun s la ra ua y h0 => ?_
    refine ok_gI h0 rfl ?_
    rw [hb7, if_neg (fun z => by have := (i_lt (by omega) (by omega)).mp z; omega)]
    refine w_gQ W0 ?_
    refine w_pastSize W0 ?_
    exact ok_I ⟨W0, St.refl⟩
  | succ j ih =>
    intro f mem t ht hf hj hbl W
    obtain ⟨f, rfl⟩ : ∃ f', f = f' + 1 := ⟨f - 1, by omega⟩
    obtain ⟨t, v, rfl⟩ := snoc_of (l := t) (fun e => by rw [e] at ht; cases ht)
    rw [List.length_append, List.length_singleton] at ht
    rw [m_M_undo_81]
    refine w_gB W ?_
    have W0 := W
    obtain ⟨L, ⟨Ba, Bq, Bm, Bc, Be⟩, P, Q, c, cs, H, R, hck, hL, hB, hP, hQ⟩ := W
    obtain ⟨⟨w1, w2, w3, w4⟩, cc, r3, r4, r5, r6⟩ := R
    dsimp only at hB r4
    subst hB
    rw [← List.append_assoc] at r4
    have n4 := r4.1
    rw [List.length_append, List.length_append, List.length_singleton] at n4
    have hsz := ls_size (xm := xm) (N := N) (a := M0 + 2) (q := Bq) (mc := Bm) (cap := Bc) (es := Be) H 2 rfl
    refine ok_rc (ls_hd H 2 rfl) ?_
    refine ok_eI hsz ?_
    refine w_s7 W0 fun s la ra ua y h0 => ?_
    refine ok_gI h0 rfl ?_
    rw [hb7, if_pos ((i_lt (by omega) (by omega)).mpr (by omega))]
    refine w_gB W0 ?_
    refine w_gB W0 ?_
    refine ok_rc (ls_hd H 2 rfl) ?_
    refine ok_eI hsz ?_
    refine ok_rc (ls_hd H 2 rfl) ?_
    rw [i_sub1 (by omega)]
    refine ok_cR (ls_remove (a := M0 + 2) (q := Bq) (mc := Bm) (cap := Bc) (es := Be) w2 H 2 rfl r4.ok (by omega)) fun e m1 hh => ?_
    obtain ⟨-, H1, w2', S1⟩ := hh
    rw [dropLast_idx] at H1 w2'
    have W1 : WR xm M0 g sum lo (bo ++ t) pa ps st ck F m1 := ⟨L, (M0 + 2, Bq, Bm + 1, Bc, Be.dropLast), P, Q, c, cs, H1, ⟨⟨w1, w2', w3, w4⟩, cc, r3.st S1, (r4.st S1).init, r5.st S1, r6.1, r6.2.1.st S1, fun i c z q1 q2 => (r6.2.2 i c z q1 q2).st S1⟩, hck, hL, rfl, hP, hQ⟩
    refine ok_mono (ih f m1 t (by omega) (by omega) (by omega) hbl W1) ?_
    rintro r ⟨v, h1, h2, h3⟩
    exact ⟨v, h1, h2, (S1.trans h3).mono (by omega) (by omega)⟩
theorem undo_44 {n' b' : Nat} {tb : List Int32} (hn6 : st.2.2.2.2 6 = Int32.ofNat n') (hb7 : st.2.2.2.2 7 = Int32.ofNat b') (hn : n' ≤ 20000) (hbl : bo.length = b') (hb : b' ≤ 20000) (htb : tb.length < N ∧ tb.length ≤ 20000) : ∀ (j f : Nat) (mem : kM) (lo t : List kLf), t.length = j → j < f → j ≤ 20000 → lo.length = n' → WR xm M0 g sum (lo ++ t) (bo ++ tb) pa ps st ck F mem → dOk (m_M_undo_44 xm N f M0 mem) (rI fun v m => WR xm M0 g sum lo bo pa ps st ck F m ∧ St xm mem m 0 0) := by
  intro j
  induction j with
  | zero =>
    intro f mem lo t ht hf hj hlo W
    obtain ⟨f, rfl⟩ : ∃ f', f = f' + 1 := ⟨f - 1, by omega⟩
    have ht : t = [] := List.length_eq_zero_iff.mp ht
    subst ht
    rw [List.append_nil] at W
    rw [m_M_undo_44]
    refine w_gL W ?_
    have W0 := W
    obtain ⟨⟨La, Lq, Lm, Lc, Le⟩, B, P, Q, c, cs, H, R, hck, hL, hB, hP, hQ⟩ := W
    have r3 := R.2.2.1
    dsimp only at hL r3
    subst hL
    have n3 := r3.1
    refine ok_rc (ls_hd H 1 rfl) ?_
    refine ok_eI (ls_size (a := M0 + 1) (q := Lq) (mc := Lm) (cap := Lc) (es := Le) H 1 rfl) ?_
    refine w_s7 W0 fun s la ra ua y h0 => ?_
    refine ok_gI h0 rfl ?_
    rw [hn6, if_neg (fun z => by have := (i_lt (by omega) (by omega)).mp z; omega)]
    exact undo_81 hb7 hb tb.length N mem tb rfl htb.1 htb.2 hbl W0
  | succ j ih =>
    intro f mem lo t ht hf hj hlo W
    obtain ⟨f, rfl⟩ : ∃ f', f = f' + 1 := ⟨f - 1, by omega⟩
    obtain ⟨t, v, rfl⟩ := snoc_of (l := t) (fun e => by rw [e] at ht; cases ht)
    rw [List.length_append, List.length_singleton] at ht
    rw [m_M_undo_44]
    refine w_gL W ?_
    have W0 := W
    obtain ⟨⟨La, Lq, Lm, Lc, Le⟩, B, P, Q, c, cs, H, R, hck, hL, hB, hP, hQ⟩ := W
    obtain ⟨⟨w1, w2⟩, cc, r3, r4, r5, r6⟩ := R
    dsimp only at hL r3
    subst hL
    rw [← List.append_assoc] at r3
    have n3 := r3.1
    rw [List.length_append, List.length_append, List.length_singleton] at n3
    have hsz := ls_size (xm := xm) (N := N) (a := M0 + 1) (q := Lq) (mc := Lm) (cap := Lc) (es := Le) H 1 rfl
    refine ok_rc (ls_hd H 1 rfl) ?_
    refine ok_eI hsz ?_
    refine w_s7 W0 fun s la ra ua y h0 => ?_
    refine ok_gI h0 rfl ?_
    rw [hn6, if_pos ((i_lt (by omega) (by omega)).mpr (by omega))]
    refine w_gL W0 ?_
    refine w_gL W0 ?_
    refine ok_rc (ls_hd H 1 rfl) ?_
    refine ok_eI hsz ?_
    refine ok_rc (ls_hd H 1 rfl) ?_
    rw [i_sub1 (by omega)]
    refine ok_cR (ls_remove (a := M0 + 1) (q := Lq) (mc := Lm) (cap := Lc) (es := Le) w1 H 1 rfl r3.ok (by omega)) fun e m1 hh => ?_
    obtain ⟨-, H1, w1', S1⟩ := hh
    rw [dropLast_idx] at H1 w1'
    have W1 : WR xm M0 g sum (lo ++ t) (bo ++ tb) pa ps st ck F m1 := ⟨(M0 + 1, Lq, Lm + 1, Lc, Le.dropLast), B, P, Q, c, cs, H1, ⟨⟨w1', w2⟩, cc, (r3.st S1).init, r4.st S1, r5.st S1, r6.1, r6.2.1.st S1, fun i c z q1 q2 => (r6.2.2 i c z q1 q2).st S1⟩, hck, rfl, hB, hP, hQ⟩
    refine ok_mono (ih f m1 lo t (by omega) (by omega) (by omega) hlo W1) ?_
    rintro r ⟨v, h1, h2, h3⟩
    exact ⟨v, h1, h2, (S1.trans h3).mono (by omega) (by omega)⟩
theorem HpS.back {a0 a1 a2 a3 a4 b0 b1 b2 b3 b4 b5 x0 x1 x2 x3 x4 x5 A : kSg} (H : HpS [a0, a1, a2, a3, a4, b0, b1, b2, b3, b4, b5, A ++ [x0, x1, x2, x3, x4, x5].flatten, F] mem) : HpS [a0, a1, a2, a3, a4, x0, x1, x2, x3, x4, x5, A, F] mem := by
  have H1 : HpS [a0, a1, a2, a3, a4, A ++ [x0, x1, x2, x3, x4, x5].flatten, F] mem := (((((H.era 5 rfl).era 5 rfl).era 5 rfl).era 5 rfl).era 5 rfl).era 5 rfl
  refine Hp.perm H1 ?_
  have e1 : [a0, a1, a2, a3, a4, A ++ [x0, x1, x2, x3, x4, x5].flatten, F].flatten = [a0, a1, a2, a3, a4].flatten ++ (A ++ ([x0, x1, x2, x3, x4, x5].flatten ++ F)) := by simp [List.append_assoc]
  have e2 : [a0, a1, a2, a3, a4, x0, x1, x2, x3, x4, x5, A, F].flatten = [a0, a1, a2, a3, a4].flatten ++ ([x0, x1, x2, x3, x4, x5].flatten ++ (A ++ F)) := by simp [List.append_assoc]
  rw [e1, e2]
  refine List.Perm.append_left _ ?_
  rw [← List.append_assoc, ← List.append_assoc]
  exact List.Perm.append_right _ List.perm_append_comm
theorem r_undo (hX : kXok xm) (hN : 20001 ≤ N) (hk : k < 512) (I : RI xm M0 nb k C S F mem) : dOk (m_M_undo xm N M0 mem) (rI fun v m => RI xm M0 nb (k + 1) C S F m) := by
  obtain ⟨g, sum, lo, bo, pa, ps, st, ck, W, hi, hl, hb, h1, h2⟩ := I
  unfold m_M_undo
  refine m_start W fun m1 W1 S1 => ?_
  have hi1 : aInv nb (kUp g 0 0) lo bo pa ps st := hi
  refine w_gQ W1 ?_
  have W0 := W1
  obtain ⟨L, B, P, ⟨Qa, Qq, Qm, Qc, Qe⟩, c, cs, H, R, hck, hL, hB, hP, hQ⟩ := W1
  obtain ⟨⟨w1, w2, w3, w4⟩, cc, r3, r4, r5, ⟨r6, r6'⟩, r7, r8⟩ := R
  dsimp only at hQ r6
  subst hQ
  subst r6
  refine ok_rc (ls_hd H 4 rfl) ?_
  refine ok_eI (ls_isEmpty (a := M0 + 4) (q := Qq) (mc := Qm) (cap := Qc) (es := cs.map (fun c : kCs => c.1)) H 4 rfl w4.lt) ?_
  by_cases he : cs = []
  · have e1 : (if cs.map (fun c : kCs => c.1) = [] then (1 : Int32) else 0) = 1 := if_pos (by rw [he]; rfl)
    rw [e1, if_neg (show ¬ ((1 : Int32) = 0) by decide)]
    exact r_ref h1 h2 W0 hi1 hl hb S1
  · rw [if_neg (fun z => he (List.map_eq_nil_iff.mp z)), if_pos rfl]
    obtain ⟨cs, c', rfl⟩ := snoc_of he
    have hp0 : ps ≠ [] := by
      intro z
      rw [z] at r6'
      simp at r6'
    obtain ⟨ps, s', rfl⟩ := snoc_of hp0
    have hl' : cs.length = ps.length := by simpa using r6'
    have hok := pOwn_ok (xm := xm) H (i := 11) rfl r6'
    refine w_gQ W0 ?_
    refine w_gQ W0 ?_
    refine w_pastSize W0 ?_
    refine ok_rc (ls_hd H 4 rfl) ?_
    rw [i_sub1 (by simp)]
    have hjl : (ps ++ [s']).length - 1 < ((cs ++ [c']).map (fun c : kCs => c.1)).length := by simp [hl']
    refine ok_cR (ls_remove (a := M0 + 4) (q := Qq) (mc := Qm) (cap := Qc) (es := (cs ++ [c']).map (fun c : kCs => c.1)) w4 H 4 rfl hok hjl) fun e m2 hh => ?_
    obtain ⟨he', H2, w4', S2⟩ := hh
    have ee : e = c'.1 := by
      rw [he']
      simp [← hl']
    subst ee
    have e4 : ((cs ++ [c']).map (fun c : kCs => c.1)).eraseIdx ((ps ++ [s']).length - 1) = cs.map (fun c : kCs => c.1) := by
      rw [show (ps ++ [s']).length - 1 = ((cs ++ [c']).map (fun c : kCs => c.1)).length - 1 by simp [hl'], dropLast_idx]
      simp
    rw [e4] at H2 w4'
    have hseg : pOwn (cs ++ [c']) (ps ++ [s']) = pOwn cs ps ++ sOwn c' s' := pOwn_snoc hl'
    have hcell : kLook xm m2 c'.1 = some (stE c'.2.1.1 c'.2.2.1.1 c'.2.2.2.1.1 c'.2.2.2.2 s'.2.2.2.2) := by
      refine H2.look 11 (pOwn cs ps).length rfl ?_
      rw [hseg, List.getElem?_append_right (Nat.le_refl _), Nat.sub_self]
      rfl
    refine ok_ccO hcell ?_
    refine os_p H2 0 0 rfl rfl rfl rfl fun m3 H3 S3 => ?_
    have H4 : HpS [[(M0, mE (kUp g 0 0) sum L.1 B.1 P.1 (M0 + 4) c'.1)], sL L, sL B, sL P, sL (M0 + 4, Qq, Qm + 1, Qc, cs.map (fun c : kCs => c.1)), [(c.1, stE c.2.1.1 c.2.2.1.1 c.2.2.2.1.1 c.2.2.2.2 st.2.2.2.2)], sL c.2.1, sL c.2.2.1, sL c.2.2.2.1, sRu c.2.2.2.1.2.2.2.2 st.2.2.1, [(c.2.2.2.2, kAr st.2.2.2.1)], pOwn cs ps ++ sOwn c' s', F] m3 := by
      rw [← hseg]
      exact H3
    have H5 := HpS.back H4
    have ST := S2.trans S3
    have r8' : sRl xm m1 c' s' := r8 cs.length c' s' (by simp) (by rw [hl']; simp)
    have W5 : WR xm M0 (kUp g 0 0) sum lo bo pa ps s' ck F m3 := ⟨L, B, P, (M0 + 4, Qq, Qm + 1, Qc, cs.map (fun c : kCs => c.1)), c', cs, H5, ⟨⟨w1, w2, w3, w4'⟩, cc, r3.st ST, r4.st ST, r5.st ST, ⟨rfl, hl'⟩, r8'.st ST, fun i c z q1 q2 => (r8 i c z (by rw [List.getElem?_append_left (List.getElem?_eq_some_iff.mp q1).1]; exact q1) (by rw [List.getElem?_append_left (List.getElem?_eq_some_iff.mp q2).1]; exact q2)).st ST⟩, hck, hL, hB, hP, rfl⟩
    obtain ⟨a1, a2, a3, a4, a5, a6⟩ := hi1
    rw [List.reverse_append] at a3
    obtain ⟨n', b', g1, g2, g3, g4⟩ := a3
    have e5 : lo = lo.take n' ++ lo.drop n' := (List.take_append_drop _ _).symm
    have e6 : bo = bo.take b' ++ bo.drop b' := (List.take_append_drop _ _).symm
    have l5 : (lo.take n').length = n' := by rw [List.length_take]; omega
    have l6 : (bo.take b').length = b' := by rw [List.length_take]; omega
    have l7 : (lo.drop n').length = lo.length - n' := List.length_drop
    have l8 : (bo.drop b').length = bo.length - b' := List.length_drop
    have W6 : WR xm M0 (kUp g 0 0) sum (lo.take n' ++ lo.drop n') (bo.take b' ++ bo.drop b') pa ps s' ck F m3 := by
      rw [← e5, ← e6]
      exact W5
    refine ok_mono (undo_44 (n' := n') (b' := b') (bo := bo.take b') (tb := bo.drop b') g3.2.2.2.2.2.1 g3.2.2.2.2.2.2 (by omega) l6 (by omega) (by omega) (lo.length - n') N m3 (lo.take n') (lo.drop n') l7 (by omega) (by omega) l5 W6) ?_
    rintro r ⟨v, q1, q2, q3⟩
    refine ⟨v, q1, (RI.mk' (c := 0) (s := 0) h1 h2 q2 ⟨a1, ?_, ?_, by simp at a4; omega, a5, a6⟩ (by omega) (by omega) (Nat.le_refl _) ((S1.trans (ST.trans q3)).mono (by omega) (by omega)))⟩
    · rw [l5, l6]; exact g3
    · rw [l5, l6]; exact g4
end KR2
