/-! ===== what is asked, exactly: many ===== -/
def zSum (ya : List Int32) : Int32 := ya.foldl (· + ·) 0
def zOpn (rs : List (List Int32)) : Int32 := rs.foldl (fun a z => a + z.getD 3 0) 0
def zMny (nb : Nat) (jo : Int32) (pa : List Int32) (ps : List aS) (st : aS) (n : Nat) : Int32 := [Int32.ofNat nb, zSum st.2.2.2.1, jo, Int32.ofNat st.1.length, Int32.ofNat st.2.1.length, st.2.2.2.2 4, st.2.2.2.2 5, st.2.2.2.2 6, st.2.2.2.2 8, st.2.2.2.2 9, st.2.2.2.2 10, st.2.2.2.2 7, Int32.ofNat st.2.2.1.length, zOpn st.2.2.1, Int32.ofNat pa.length, Int32.ofNat ps.length].getD n 0
def spMany (x : Int32) : aC → aR
  | (nb, jo, lo, bo, pa, ps, (vl, vr, rs, ya, sc)) => if x < 0 ∨ ¬ x < 16 then (1, 0, (nb, jo, lo, bo, pa, ps, (vl, vr, rs, ya, sc))) else (0, zMny nb jo pa ps (vl, vr, rs, ya, sc) x.toNatClampNeg, (nb, jo, lo, bo, pa, ps, (vl, vr, rs, ya, sc)))
section GB
variable {xm : Nat → Option kE} {mem m0 : kM} {F X : kSg} {N k nb c0 s0 c1 s1 cap0 n M0 C S q cap i : Nat} {jo x y z t v : Int32} {lo : List kLf} {bo pa vl vr ya : List Int32} {ps : List aS} {rs : List (List Int32)} {sc : Nat → Int32} {st : aS} {T : Nat → Int32} {h : kHs} {sp : aR} {L B P Q : kLi} {s y0 : Nat} {l r u : kLi} {cs : List kCs} {c : kCs} {g : Nat → Int32} {sum : Int64}
theorem many_65E {n : Nat} {a2 : Int32} (hn : n < 16) (V : WC xm M0 L B P Q (s, l, r, u, y0) cs g sum lo bo pa ps (vl, vr, rs, ya, sc) F mem) (h4 : ya.length = 4) : ∀ (j d f : Nat) (a3 : Int32), d + j = 4 → j < f → dOk (m_M_manyNow_65 xm N f M0 (Int32.ofNat n) a2 a3 y0 (Int32.ofNat 4) (Int32.ofNat d) mem) (rI fun v m => v = [g 6, (ya.drop d).foldl (· + ·) a3, g 7, Int32.ofNat l.2.2.2.2.length, Int32.ofNat r.2.2.2.2.length, sc 4, sc 5, sc 6, sc 8, sc 9, sc 10, sc 7, Int32.ofNat u.2.2.2.2.length, a2, Int32.ofNat P.2.2.2.2.length, Int32.ofNat Q.2.2.2.2.length].getD n 0 ∧ WC xm M0 L B P Q (s, l, r, u, y0) cs g sum lo bo pa ps (vl, vr, rs, ya, sc) F m ∧ St xm mem m 1 16) := by
  intro j
  induction j with
  | zero =>
    intro d f a3 hd hf
    obtain ⟨f, rfl⟩ : ∃ f', f = f' + 1 := ⟨f - 1, by omega⟩
    rw [List.drop_of_length_le (show ya.length ≤ d by omega), List.foldl_nil]
    rw [m_M_manyNow_65, if_neg (fun z => by have := (i_lt (by omega) (by omega)).mp z; omega)]
    refine os_nI (n := 16) xm V.1 (by decide) fun m1 p1 H1 S1 => ?_
    refine ok_gI (H1.look 1 0 rfl rfl) rfl ?_
    refine os_iS H1 0 0 rfl rfl (show kInB 0 16 = true by decide) fun m2 H2 S2 => ?_
    have H2 : HpS ([(p1, kAr [g 6, 0, 0, 0, 0, 0, 0, 0, 0, 0, 0, 0, 0, 0, 0, 0])] :: wSg M0 L B P Q (s, l, r, u, y0) cs g sum ps (vl, vr, rs, ya, sc) F) m2 := H2
    refine os_iS H2 0 0 rfl rfl (show kInB 1 16 = true by decide) fun m3 H3 S3 => ?_
    have H3 : HpS ([(p1, kAr [g 6, a3, 0, 0, 0, 0, 0, 0, 0, 0, 0, 0, 0, 0, 0, 0])] :: wSg M0 L B P Q (s, l, r, u, y0) cs g sum ps (vl, vr, rs, ya, sc) F) m3 := H3
    refine ok_gI (H3.look 1 0 rfl rfl) rfl ?_
    refine os_iS H3 0 0 rfl rfl (show kInB 2 16 = true by decide) fun m4 H4 S4 => ?_
    have H4 : HpS ([(p1, kAr [g 6, a3, g 7, 0, 0, 0, 0, 0, 0, 0, 0, 0, 0, 0, 0, 0])] :: wSg M0 L B P Q (s, l, r, u, y0) cs g sum ps (vl, vr, rs, ya, sc) F) m4 := H4
    refine ok_gR (H4.look 1 0 rfl rfl) rfl ?_
    refine ok_gR (H4.look 6 0 rfl rfl) rfl ?_
    refine ok_rc (ls_hd H4 7 rfl) ?_
    refine ok_eI (ls_size (a := l.1) (q := l.2.1) (mc := l.2.2.1) (cap := l.2.2.2.1) (es := l.2.2.2.2) H4 7 rfl) ?_
    refine os_iS H4 0 0 rfl rfl (show kInB 3 16 = true by decide) fun m5 H5 S5 => ?_
    have H5 : HpS ([(p1, kAr [g 6, a3, g 7, Int32.ofNat l.2.2.2.2.length, 0, 0, 0, 0, 0, 0, 0, 0, 0, 0, 0, 0])] :: wSg M0 L B P Q (s, l, r, u, y0) cs g sum ps (vl, vr, rs, ya, sc) F) m5 := H5
    refine ok_gR (H5.look 1 0 rfl rfl) rfl ?_
    refine ok_gR (H5.look 6 0 rfl rfl) rfl ?_
    refine ok_rc (ls_hd H5 8 rfl) ?_
    refine ok_eI (ls_size (a := r.1) (q := r.2.1) (mc := r.2.2.1) (cap := r.2.2.2.1) (es := r.2.2.2.2) H5 8 rfl) ?_
    refine os_iS H5 0 0 rfl rfl (show kInB 4 16 = true by decide) fun m6 H6 S6 => ?_
    have H6 : HpS ([(p1, kAr [g 6, a3, g 7, Int32.ofNat l.2.2.2.2.length, Int32.ofNat r.2.2.2.2.length, 0, 0, 0, 0, 0, 0, 0, 0, 0, 0, 0])] :: wSg M0 L B P Q (s, l, r, u, y0) cs g sum ps (vl, vr, rs, ya, sc) F) m6 := H6
    refine ok_gR (H6.look 1 0 rfl rfl) rfl ?_
    refine ok_gI (H6.look 6 0 rfl rfl) rfl ?_
    refine os_iS H6 0 0 rfl rfl (show kInB 5 16 = true by decide) fun m7 H7 S7 => ?_
    have H7 : HpS ([(p1, kAr [g 6, a3, g 7, Int32.ofNat l.2.2.2.2.length, Int32.ofNat r.2.2.2.2.length, sc 4, 0, 0, 0, 0, 0, 0, 0, 0, 0, 0])] :: wSg M0 L B P Q (s, l, r, u, y0) cs g sum ps (vl, vr, rs, ya, sc) F) m7 := H7
    refine ok_gR (H7.look 1 0 rfl rfl) rfl ?_
    refine ok_gI (H7.look 6 0 rfl rfl) rfl ?_
    refine os_iS H7 0 0 rfl rfl (show kInB 6 16 = true by decide) fun m8 H8 S8 => ?_
    have H8 : HpS ([(p1, kAr [g 6, a3, g 7, Int32.ofNat l.2.2.2.2.length, Int32.ofNat r.2.2.2.2.length, sc 4, sc 5, 0, 0, 0, 0, 0, 0, 0, 0, 0])] :: wSg M0 L B P Q (s, l, r, u, y0) cs g sum ps (vl, vr, rs, ya, sc) F) m8 := H8
    refine ok_gR (H8.look 1 0 rfl rfl) rfl ?_
    refine ok_gI (H8.look 6 0 rfl rfl) rfl ?_
    refine os_iS H8 0 0 rfl rfl (show kInB 7 16 = true by decide) fun m9 H9 S9 => ?_
    have H9 : HpS ([(p1, kAr [g 6, a3, g 7, Int32.ofNat l.2.2.2.2.length, Int32.ofNat r.2.2.2.2.length, sc 4, sc 5, sc 6, 0, 0, 0, 0, 0, 0, 0, 0])] :: wSg M0 L B P Q (s, l, r, u, y0) cs g sum ps (vl, vr, rs, ya, sc) F) m9 := H9
    refine ok_gR (H9.look 1 0 rfl rfl) rfl ?_
    refine ok_gI (H9.look 6 0 rfl rfl) rfl ?_
    refine os_iS H9 0 0 rfl rfl (show kInB 8 16 = true by decide) fun m10 H10 S10 => ?_
    have H10 : HpS ([(p1, kAr [g 6, a3, g 7, Int32.ofNat l.2.2.2.2.length, Int32.ofNat r.2.2.2.2.length, sc 4, sc 5, sc 6, sc 8, 0, 0, 0, 0, 0, 0, 0])] :: wSg M0 L B P Q (s, l, r, u, y0) cs g sum ps (vl, vr, rs, ya, sc) F) m10 := H10
    refine ok_gR (H10.look 1 0 rfl rfl) rfl ?_
    refine ok_gI (H10.look 6 0 rfl rfl) rfl ?_
    refine os_iS H10 0 0 rfl rfl (show kInB 9 16 = true by decide) fun m11 H11 S11 => ?_
    have H11 : HpS ([(p1, kAr [g 6, a3, g 7, Int32.ofNat l.2.2.2.2.length, Int32.ofNat r.2.2.2.2.length, sc 4, sc 5, sc 6, sc 8, sc 9, 0, 0, 0, 0, 0, 0])] :: wSg M0 L B P Q (s, l, r, u, y0) cs g sum ps (vl, vr, rs, ya, sc) F) m11 := H11
    refine ok_gR (H11.look 1 0 rfl rfl) rfl ?_
    refine ok_gI (H11.look 6 0 rfl rfl) rfl ?_
    refine os_iS H11 0 0 rfl rfl (show kInB 10 16 = true by decide) fun m12 H12 S12 => ?_
    have H12 : HpS ([(p1, kAr [g 6, a3, g 7, Int32.ofNat l.2.2.2.2.length, Int32.ofNat r.2.2.2.2.length, sc 4, sc 5, sc 6, sc 8, sc 9, sc 10, 0, 0, 0, 0, 0])] :: wSg M0 L B P Q (s, l, r, u, y0) cs g sum ps (vl, vr, rs, ya, sc) F) m12 := H12
    refine ok_gR (H12.look 1 0 rfl rfl) rfl ?_
    refine ok_gI (H12.look 6 0 rfl rfl) rfl ?_
    refine os_iS H12 0 0 rfl rfl (show kInB 11 16 = true by decide) fun m13 H13 S13 => ?_
    have H13 : HpS ([(p1, kAr [g 6, a3, g 7, Int32.ofNat l.2.2.2.2.length, Int32.ofNat r.2.2.2.2.length, sc 4, sc 5, sc 6, sc 8, sc 9, sc 10, sc 7, 0, 0, 0, 0])] :: wSg M0 L B P Q (s, l, r, u, y0) cs g sum ps (vl, vr, rs, ya, sc) F) m13 := H13
    refine ok_gR (H13.look 1 0 rfl rfl) rfl ?_
    refine ok_gR (H13.look 6 0 rfl rfl) rfl ?_
    refine ok_rc (ls_hd H13 9 rfl) ?_
    refine ok_eI (ls_size (a := u.1) (q := u.2.1) (mc := u.2.2.1) (cap := u.2.2.2.1) (es := u.2.2.2.2) H13 9 rfl) ?_
    refine os_iS H13 0 0 rfl rfl (show kInB 12 16 = true by decide) fun m14 H14 S14 => ?_
    have H14 : HpS ([(p1, kAr [g 6, a3, g 7, Int32.ofNat l.2.2.2.2.length, Int32.ofNat r.2.2.2.2.length, sc 4, sc 5, sc 6, sc 8, sc 9, sc 10, sc 7, Int32.ofNat u.2.2.2.2.length, 0, 0, 0])] :: wSg M0 L B P Q (s, l, r, u, y0) cs g sum ps (vl, vr, rs, ya, sc) F) m14 := H14
    refine os_iS H14 0 0 rfl rfl (show kInB 13 16 = true by decide) fun m15 H15 S15 => ?_
    have H15 : HpS ([(p1, kAr [g 6, a3, g 7, Int32.ofNat l.2.2.2.2.length, Int32.ofNat r.2.2.2.2.length, sc 4, sc 5, sc 6, sc 8, sc 9, sc 10, sc 7, Int32.ofNat u.2.2.2.2.length, a2, 0, 0])] :: wSg M0 L B P Q (s, l, r, u, y0) cs g sum ps (vl, vr, rs, ya, sc) F) m15 := H15
    refine ok_gR (H15.look 1 0 rfl rfl) rfl ?_
    refine ok_rc (ls_hd H15 4 rfl) ?_
    refine ok_eI (ls_size (a := P.1) (q := P.2.1) (mc := P.2.2.1) (cap := P.2.2.2.1) (es := P.2.2.2.2) H15 4 rfl) ?_
    refine os_iS H15 0 0 rfl rfl (show kInB 14 16 = true by decide) fun m16 H16 S16 => ?_
    have H16 : HpS ([(p1, kAr [g 6, a3, g 7, Int32.ofNat l.2.2.2.2.length, Int32.ofNat r.2.2.2.2.length, sc 4, sc 5, sc 6, sc 8, sc 9, sc 10, sc 7, Int32.ofNat u.2.2.2.2.length, a2, Int32.ofNat P.2.2.2.2.length, 0])] :: wSg M0 L B P Q (s, l, r, u, y0) cs g sum ps (vl, vr, rs, ya, sc) F) m16 := H16
    refine ok_gR (H16.look 1 0 rfl rfl) rfl ?_
    refine ok_rc (ls_hd H16 5 rfl) ?_
    refine ok_eI (ls_size (a := Q.1) (q := Q.2.1) (mc := Q.2.2.1) (cap := Q.2.2.2.1) (es := Q.2.2.2.2) H16 5 rfl) ?_
    refine os_iS H16 0 0 rfl rfl (show kInB 15 16 = true by decide) fun m17 H17 S17 => ?_
    have H17 : HpS ([(p1, kAr [g 6, a3, g 7, Int32.ofNat l.2.2.2.2.length, Int32.ofNat r.2.2.2.2.length, sc 4, sc 5, sc 6, sc 8, sc 9, sc 10, sc 7, Int32.ofNat u.2.2.2.2.length, a2, Int32.ofNat P.2.2.2.2.length, Int32.ofNat Q.2.2.2.2.length])] :: wSg M0 L B P Q (s, l, r, u, y0) cs g sum ps (vl, vr, rs, ya, sc) F) m17 := H17
    refine ok_iL (H17.look 0 0 rfl rfl) (show kInB (Int32.ofNat n) 16 = true from i_inB hn (by decide)) ?_
    have ST := S1.trans (S2.trans (S3.trans (S4.trans (S5.trans (S6.trans (S7.trans (S8.trans (S9.trans (S10.trans (S11.trans (S12.trans (S13.trans (S14.trans (S15.trans (S16.trans S17)))))))))))))))
    rw [i_nat (show n < 2 ^ 31 by omega)]
    exact ok_I ⟨rfl, V.mk' H17.drop ST, ST.mono (by omega) (by omega)⟩
  | succ j ih =>
    intro d f a3 hd hf
    obtain ⟨f, rfl⟩ : ∃ f', f = f' + 1 := ⟨f - 1, by omega⟩
    rw [m_M_manyNow_65, if_pos ((i_lt (by omega) (by omega)).mpr (by omega))]
    refine ok_iL (V.1.look 10 0 rfl rfl) (by dsimp only; rw [h4]; exact i_inB (by omega) (by decide)) ?_
    rw [i_add1, i_nat (show d < 2 ^ 31 by omega), drop_cons' (show d < ya.length by omega), List.foldl_cons]
    exact ih (d + 1) f _ (by omega) (by omega)
theorem many_16E {n it : Nat} (hN : 20 ≤ N) (hn : n < 16) (h4 : ya.length = 4) (h9 : rs.length ≤ 9) (hr4 : ∀ z ∈ rs, z.length = 4) : ∀ (j d f : Nat) (z a2 : Int32) (mem m0 : kM), rs.length = d + j → j < f → WC xm M0 L B P Q (s, l, r, u, y0) cs g sum lo bo pa ps (vl, vr, rs, ya, sc) F m0 → St xm m0 mem 1 4 → HpS ([sIt it d z u.2.2.1 u.1] :: wSg M0 L B P Q (s, l, r, u, y0) cs g sum ps (vl, vr, rs, ya, sc) F) mem → dOk (m_M_manyNow_16 xm N f M0 (Int32.ofNat n) a2 0 it mem) (rI fun v m => v = [g 6, ya.foldl (· + ·) 0, g 7, Int32.ofNat l.2.2.2.2.length, Int32.ofNat r.2.2.2.2.length, sc 4, sc 5, sc 6, sc 8, sc 9, sc 10, sc 7, Int32.ofNat u.2.2.2.2.length, (rs.drop d).foldl (fun a z => a + z.getD 3 0) a2, Int32.ofNat P.2.2.2.2.length, Int32.ofNat Q.2.2.2.2.length].getD n 0 ∧ WC xm M0 L B P Q (s, l, r, u, y0) cs g sum lo bo pa ps (vl, vr, rs, ya, sc) F m ∧ St xm m0 m 2 20) := by
  intro j
  induction j with
  | zero =>
    intro d f z a2 mem m0 hd hf V S0 H
    obtain ⟨f, rfl⟩ : ∃ f', f = f' + 1 := ⟨f - 1, by omega⟩
    have t9 := V.2.1.2.2.2.2.2.2.1.2.2.2.2.2.2
    dsimp only at t9
    rw [List.drop_of_length_le (show rs.length ≤ d by omega), List.foldl_nil]
    rw [m_M_manyNow_16]
    refine ok_rc (H.look 0 0 rfl rfl) ?_
    refine ok_eI (itr_has (l := 0) (n := u.2.2.2.2.length) (H.look 0 0 rfl rfl) (H.look 9 0 rfl rfl) (by omega) (by omega)) ?_
    have e1 : (if d = u.2.2.2.2.length then (0 : Int32) else 1) = 0 := if_pos (by omega)
    rw [e1, if_pos rfl]
    have V1 := V.mk' H.drop S0
    refine ok_gR (V1.1.look 0 0 rfl rfl) rfl ?_
    refine ok_gR (V1.1.look 5 0 rfl rfl) rfl ?_
    refine ok_lenI (V1.1.look 10 0 rfl rfl) (by decide) ?_
    dsimp only
    rw [h4]
    refine ok_mono (many_65E (a2 := a2) hn V1 h4 4 0 N 0 (by omega) (by omega)) ?_
    rintro w ⟨v, q1, q0, q2, q3⟩
    exact ⟨v, q1, q0, q2, (S0.trans q3).mono (by omega) (by omega)⟩
  | succ j ih =>
    intro d f z a2 mem m0 hd hf V S0 H
    obtain ⟨f, rfl⟩ : ∃ f', f = f' + 1 := ⟨f - 1, by omega⟩
    have t9 := V.2.1.2.2.2.2.2.2.1.2.2.2.2.2.2
    have t3 := V.2.1.2.2.2.2.2.2.1.2.2.1
    dsimp only at t9 t3
    have hu : d < u.2.2.2.2.length := by omega
    have hdr : d < rs.length := by omega
    rw [m_M_manyNow_16]
    refine ok_rc (H.look 0 0 rfl rfl) ?_
    refine ok_eI (itr_has (l := 0) (n := u.2.2.2.2.length) (H.look 0 0 rfl rfl) (H.look 9 0 rfl rfl) (by omega) (by omega)) ?_
    have e1 : (if d = u.2.2.2.2.length then (0 : Int32) else 1) = 1 := if_neg (by omega)
    rw [e1, if_neg (show ¬ ((1 : Int32) = 0) by decide)]
    refine ok_rc (H.look 0 0 rfl rfl) ?_
    refine ok_cR (ls_next (a := u.1) (q := u.2.1) (mc := u.2.2.1) (cap := u.2.2.2.1) (es := u.2.2.2.2) t3 H 8 rfl hu) fun e m1 hh => ?_
    obtain ⟨rfl, H1, S1⟩ := hh
    have hat : (sRu u.2.2.2.2 rs)[d]? = some (u.2.2.2.2[d], kAr rs[d]) := sRu_at (List.getElem?_eq_getElem hu) (List.getElem?_eq_getElem hdr)
    have hz : rs[d].length = 4 := hr4 _ (List.getElem_mem hdr)
    have hl := H1.look (xm := xm) 10 d rfl hat
    refine ok_ccA hl (H1.ge 10 d rfl hat) ?_
    refine ok_iL hl (by rw [hz]; decide) ?_
    rw [show ((3 : Int32).toNatClampNeg) = 3 from rfl, List.drop_eq_getElem_cons hdr, List.foldl_cons]
    exact ih (d + 1) f _ _ m1 m0 (by omega) (by omega) V ((S0.trans S1).mono (by omega) (by omega)) H1
theorem m_manyNowE {n : Nat} (hN : 20 ≤ N) (hn : n < 16) (V : WC xm M0 L B P Q (s, l, r, u, y0) cs g sum lo bo pa ps (vl, vr, rs, ya, sc) F mem) (hi : aInv nb g lo bo pa ps (vl, vr, rs, ya, sc)) (h7 : g 7 = jo) : dOk (m_M_manyNow xm N M0 (Int32.ofNat n) mem) (rI fun v m => v = zMny nb jo pa ps (vl, vr, rs, ya, sc) n ∧ WC xm M0 L B P Q (s, l, r, u, y0) cs g sum lo bo pa ps (vl, vr, rs, ya, sc) F m ∧ St xm mem m 2 20) := by
  obtain ⟨a1, a2, a3, a4, a5⟩ := hi.sw
  have h6 : g 6 = Int32.ofNat nb := hi.1.1
  dsimp only at a3
  have R := V.2.1
  obtain ⟨-, -, -, -, r5, ⟨r6, r6'⟩, ⟨-, -, -, -, t7, t8, t9⟩, -⟩ := R
  have n7 := t7.1
  have n8 := t8.1
  have n5 := r5.1
  have n6 : Q.2.2.2.2.length = ps.length := by rw [r6, List.length_map, r6']
  dsimp only at n7 n8 t9
  unfold m_M_manyNow
  refine ok_gR (V.1.look 0 0 rfl rfl) rfl ?_
  refine ok_gR (V.1.look 5 0 rfl rfl) rfl ?_
  refine ok_rc (ls_hd V.1 8 rfl) ?_
  refine ok_cR (ls_iterator (a := u.1) (q := u.2.1) (mc := u.2.2.1) (cap := u.2.2.2.1) (es := u.2.2.2.2) V.1 8 rfl) fun it m1 hh => ?_
  obtain ⟨H1, S1⟩ := hh
  have key := many_16E hN hn a5 a3 a4 rs.length 0 N (-1) 0 m1 mem (by omega) (by omega) V S1 H1
  rw [n7, n8, t9, n5, n6, h6, h7] at key
  exact key
theorem v_many (hN : 20 ≤ N) (I : RJ xm M0 t (nb, jo, lo, bo, pa, ps, (vl, vr, rs, ya, sc)) k C S F mem) (x : Int32) : dOk (m_M_many xm N M0 x mem) (eR xm M0 (spMany x (nb, jo, lo, bo, pa, ps, (vl, vr, rs, ya, sc))) k C S 2 20 F) := by
  have hsp : (spMany x (nb, jo, lo, bo, pa, ps, (vl, vr, rs, ya, sc))).2.2 = (nb, jo, lo, bo, pa, ps, (vl, vr, rs, ya, sc)) := by
    unfold spMany
    dsimp only
    split <;> rfl
  unfold m_M_many
  refine RJ.askE hsp I fun L B P Q s y l r u cs g sum m V hi h0 h7 hl hb => ?_
  refine ok_eI m_is ?_
  refine ok_if (fun e => ?_) (fun e => ?_)
  · have e' : x < 0 ∨ ¬ x < 16 := (is_nn (n := 16) (by decide) (by decide)).mp (is_z.mp e)
    exact e_ref V (congrArg (fun r : aR => r.1) (if_pos e')) (by decide)
  · have e' : ¬ (x < 0 ∨ ¬ x < 16) := fun w => e (is_z.mpr ((is_nn (n := 16) (by decide) (by decide)).mpr w))
    obtain ⟨n, rfl, p1, p2⟩ := is_nat (a := 0) (b := 15) (by decide) (by decide) e
    have es : spMany (Int32.ofNat n) (nb, jo, lo, bo, pa, ps, (vl, vr, rs, ya, sc)) = (0, zMny nb jo pa ps (vl, vr, rs, ya, sc) n, (nb, jo, lo, bo, pa, ps, (vl, vr, rs, ya, sc))) := (if_neg e').trans (by rw [i_nat (show n < 2 ^ 31 by omega)])
    refine w_rc V.wr ?_
    refine ok_cI (m_manyNowE hN (by omega) V hi h7) fun v m2 hh => ?_
    obtain ⟨rfl, V2, S2⟩ := hh
    refine ok_I ⟨g, sum, V2, rfl, rfl, S2, ?_, ?_⟩
    · rw [es]
      exact h0
    · rw [es]
      exact fun _ => rfl
/-! the class -/
theorem sum_0 : ∀ {l : List Int32} {a : Int32}, (∀ v ∈ l, v = 0) → l.foldl (· + ·) a = a := by
  intro l
  induction l with
  | nil => intro a _; rfl
  | cons v l ih =>
    intro a h
    rw [List.foldl_cons, h v List.mem_cons_self, Int32.add_zero]
    exact ih fun w hw => h w (List.mem_cons_of_mem _ hw)
theorem bSum_all (hz : ∀ i, nb ≤ i → ya.getD i 0 = 0) : bSum ya nb 0 0 = zSum ya := by
  unfold bSum zSum
  rw [List.drop_zero]
  have e := congrArg (fun l : List Int32 => l.foldl (· + ·) 0) (List.take_append_drop nb ya)
  rw [List.foldl_append] at e
  rw [← e]
  refine (sum_0 fun v hv => ?_).symm
  obtain ⟨i, hi⟩ := List.mem_iff_getElem?.mp hv
  rw [List.getElem?_drop] at hi
  have := hz (nb + i) (by omega)
  rw [List.getD_eq_getElem?_getD, hi] at this
  exact this
theorem opn_nOpen : ∀ {rs : List (List Int32)} {a : Nat}, (∀ z ∈ rs, z.getD 3 0 = 0 ∨ z.getD 3 0 = 1) → rs.foldl (fun a z => a + z.getD 3 0) (Int32.ofNat a) = Int32.ofNat (a + nOpen rs) := by
  intro rs
  induction rs with
  | nil => intro a _; rfl
  | cons z rs ih =>
    intro a h
    rw [List.foldl_cons]
    unfold nOpen
    rcases h z List.mem_cons_self with e | e
    · rw [e, Int32.add_zero, List.filter_cons_of_neg (by rw [e]; decide)]
      exact ih fun w hw => h w (List.mem_cons_of_mem _ hw)
    · rw [e, i_add1, List.filter_cons_of_pos (by rw [e]; decide), List.length_cons, ih (a := a + 1) fun w hw => h w (List.mem_cons_of_mem _ hw)]
      unfold nOpen
      congr 1
      omega
theorem zOpn_nOpen (h : ∀ z ∈ rs, z.getD 3 0 = 0 ∨ z.getD 3 0 = 1) : zOpn rs = Int32.ofNat (nOpen rs) := by
  have e := opn_nOpen (a := 0) h
  rw [Nat.zero_add] at e
  exact e
theorem ok_sw {S : kO × kM → Prop} {n : Nat} {hi : Int} {D Y : dRes} {L : List dRes} (hn : n < 2 ^ 31) (h1 : (n : Int) ≤ hi) (h : L[n]? = some Y) (k : dOk Y S) : dOk (dSw (Int32.ofNat n) 0 hi D L) S := by
  unfold dSw
  rw [i_toI hn, if_neg (by omega), show ((n : Int) - 0).toNat = n by omega, h]
  exact k
theorem ok_swD {S : kO × kM → Prop} {n : Nat} {hi : Int} {D : dRes} {L : List dRes} (hn : n < 2 ^ 31) (h1 : hi < (n : Int)) (k : dOk D S) : dOk (dSw (Int32.ofNat n) 0 hi D L) S := by
  unfold dSw
  rw [i_toI hn, if_pos (Or.inr h1)]
  exact k
theorem q_number (hN : 26 ≤ N) (I : INV nb jo lo bo pa ps (vl, vr, rs, ya, sc) T h) (h01 : ∀ z ∈ rs, z.getD 3 0 = 0 ∨ z.getD 3 0 = 1) (hn : n < 16) (H : HpT (cE nb jo pa (vl, vr, rs, ya, sc) q cap T h) F mem) : m_K_number xm N 1000 (Int32.ofNat n) mem = some (.inl (some (.int (zMny nb jo pa ps (vl, vr, rs, ya, sc) n))), mem) := by
  obtain ⟨o1, -, -, -⟩ := I.2.2.2.1 _ (List.mem_append_right _ (List.mem_singleton.mpr rfl))
  dsimp only at o1
  have hy4 : ya.length = 4 := I.sw.2.2.2.2
  have h9 : rs.length ≤ 9 := I.sw.2.2.1
  have hct : h.2.1 = ps.length := I.2.2.1.2.1
  refine ok_eq ?_
  unfold m_K_number
  rcases (show n = 0 ∨ n = 1 ∨ n = 2 ∨ n = 3 ∨ n = 4 ∨ n = 5 ∨ n = 6 ∨ n = 7 ∨ n = 8 ∨ n = 9 ∨ n = 10 ∨ n = 11 ∨ n = 12 ∨ n = 13 ∨ n = 14 ∨ n = 15 by omega) with rfl | rfl | rfl | rfl | rfl | rfl | rfl | rfl | rfl | rfl | rfl | rfl | rfl | rfl | rfl | rfl
  · refine ok_sw (by decide) (by decide) rfl ?_
    refine t_gR H 0 rfl rfl ?_
    refine t_gE H 1 rfl rfl ?_
    exact ok_me
  · refine ok_sw (by decide) (by decide) rfl ?_
    refine t_gR H 0 rfl rfl ?_
    refine t_rc H 1 rfl ?_
    refine ok_eI (bE_ofAll (a := 1001) (b := 1002) (j := 1) (by omega) I.nb4 hy4 H rfl rfl) ?_
    rw [bSum_all I.2.2.2.2]
    exact ok_me
  · refine ok_sw (by decide) (by decide) rfl ?_
    refine t_gR H 0 rfl rfl ?_
    refine t_gE H 1 rfl rfl ?_
    exact ok_me
  · refine ok_sw (by decide) (by decide) rfl ?_
    refine t_gR H 0 rfl rfl ?_
    refine t_gR H 3 rfl rfl ?_
    refine t_gE H 4 rfl rfl ?_
    exact ok_me
  · refine ok_sw (by decide) (by decide) rfl ?_
    refine t_gR H 0 rfl rfl ?_
    refine t_gR H 3 rfl rfl ?_
    refine t_gE H 6 rfl rfl ?_
    exact ok_me
  · refine ok_sw (by decide) (by decide) rfl ?_
    refine t_gR H 0 rfl rfl ?_
    refine t_gE H 3 rfl rfl ?_
    rw [show zMny nb jo pa ps (vl, vr, rs, ya, sc) 5 = sc 5 &&& 1 from o1]
    exact ok_me
  · refine ok_sw (by decide) (by decide) rfl ?_
    refine t_gR H 0 rfl rfl ?_
    refine t_gE H 3 rfl rfl ?_
    exact ok_me
  · refine ok_sw (by decide) (by decide) rfl ?_
    refine t_gR H 0 rfl rfl ?_
    refine t_gE H 3 rfl rfl ?_
    exact ok_me
  · refine ok_sw (by decide) (by decide) rfl ?_
    refine t_gR H 0 rfl rfl ?_
    refine t_gE H 3 rfl rfl ?_
    exact ok_me
  · refine ok_sw (by decide) (by decide) rfl ?_
    refine t_gR H 0 rfl rfl ?_
    refine t_gE H 3 rfl rfl ?_
    exact ok_me
  · refine ok_sw (by decide) (by decide) rfl ?_
    refine t_gR H 0 rfl rfl ?_
    refine t_gE H 3 rfl rfl ?_
    exact ok_me
  · refine ok_sw (by decide) (by decide) rfl ?_
    refine t_gR H 0 rfl rfl ?_
    refine t_gE H 3 rfl rfl ?_
    exact ok_me
  · refine ok_sw (by decide) (by decide) rfl ?_
    refine t_gR H 0 rfl rfl ?_
    refine t_gE H 3 rfl rfl ?_
    exact ok_me
  · refine ok_sw (by decide) (by decide) rfl ?_
    refine t_gR H 0 rfl rfl ?_
    refine t_rc H 3 rfl ?_
    refine ok_eI (wE_openRuns (i := 3) (a := 1003) (by omega) h9 H isWE_now) ?_
    rw [show zMny nb jo pa ps (vl, vr, rs, ya, sc) 13 = Int32.ofNat (nOpen rs) from zOpn_nOpen h01]
    exact ok_me
  · refine ok_sw (by decide) (by decide) rfl ?_
    refine t_gE H 0 rfl rfl ?_
    exact ok_me
  · refine ok_swD (by decide) (by decide) ?_
    refine t_gR H 0 rfl rfl ?_
    refine t_gE H 16 rfl rfl ?_
    rw [show zMny nb jo pa ps (vl, vr, rs, ya, sc) 15 = Int32.ofNat h.2.1 by rw [hct]; rfl]
    exact ok_me
theorem q_many (hN : 120 ≤ N) (h01 : ∀ z ∈ rs, z.getD 3 0 = 0 ∨ z.getD 3 0 = 1) (D : KS xm nb jo lo bo pa ps (vl, vr, rs, ya, sc) F 0 0 m0 cap0 mem) : dOk (m_K_many xm N 1000 x mem) (eX xm 0 2 (spMany x (nb, jo, lo, bo, pa, ps, (vl, vr, rs, ya, sc))) F m0 cap0) := by
  have D0 := D
  obtain ⟨T, h, I, D⟩ := D
  unfold m_K_many
  refine ok_if (fun g => q_ex1 (if_pos (Or.inl g)) D0) (fun g1 => ?_)
  refine ok_if (fun g2 => ?_) (fun g => q_ex1 (if_pos (Or.inr g)) D0)
  have g12 : ¬ (x < 0 ∨ ¬ x < 16) := fun z => z.elim g1 (fun z => z g2)
  obtain ⟨ex, lx⟩ := i_of (Int32.not_lt.mp g1)
  generalize hn : x.toNatClampNeg = n at ex lx
  subst ex
  have hn16 := (i_lt (b := 16) lx (by decide)).mp g2
  refine x_rc D 0 (fun _ _ => ⟨_, rfl⟩) ?_
  refine x_ro D (fun q cap k2 hz H => q_number (by omega) I h01 hn16 H) ?_
  exact q_end (c := (nb, jo, lo, bo, pa, ps, (vl, vr, rs, ya, sc))) ((if_neg g12).trans (by rw [hn])) D0
end GB
