/-! ===== the reference: keep, make, what is asked of the state ===== -/
def kUp {α : Type} (f : Nat → α) (k : Nat) (v : α) : Nat → α := fun j => if j = k then v else f j
section KJ2
variable {xm : Nat → Option kE} {mem : kM} {N M0 ck : Nat} {g : Nat → Int32} {sum : Int64} {lo : List kLf} {bo pa : List Int32} {ps : List aS} {st : aS} {F : kSg}
theorem m_keep21 (hX : kXok xm) (hN : 10 ≤ N) (W : WR xm M0 g sum lo bo pa ps st ck F mem) (ha : aSw st) (hp : ps.length ≤ 12) : dOk (m_M_keep_21 xm N M0 mem) (rV fun m => WR xm M0 g sum lo bo pa (ps ++ [st]) st ck F m ∧ St xm mem m 31 300) := by
  obtain ⟨⟨La, Lq, Lm, Lc, Le⟩, ⟨Ba, Bq, Bm, Bc, Be⟩, ⟨Pa, Pq, Pm, Pc, Pe⟩, ⟨Qa, Qq, Qm, Qc, Qe⟩, ⟨s, l, r, u, y⟩, cs, H, R, hck⟩ := W
  unfold m_M_keep_21
  refine ok_gR (H.look 0 0 rfl rfl) rfl ?_
  refine ok_gR (H.look 0 0 rfl rfl) rfl ?_
  refine ok_rc (H.look 5 0 rfl rfl) ?_
  obtain ⟨⟨w1, w2, w3, w4⟩, ⟨c1, c2, c3, c4⟩, r3, r4, r5, ⟨r6, r6'⟩, r7, r8⟩ := R
  refine ok_cR (ms_copy (i := 5) hX hN H rfl rfl rfl rfl rfl rfl r7 ha) fun p m1 h => ?_
  obtain ⟨c', rfl, H1, R1, S1⟩ := h
  have H2 := H1.into 11 rfl
  rw [← pOwn_snoc r6'] at H2
  have H2 : HpS (wSg M0 (La, Lq, Lm, Lc, Le) (Ba, Bq, Bm, Bc, Be) (Pa, Pq, Pm, Pc, Pe) (Qa, Qq, Qm, Qc, Qe) (s, l, r, u, y) (cs ++ [c']) g sum (ps ++ [st]) st F) m1 := H2
  have hok := pOwn_ok (xm := xm) H2 (i := 11) rfl (by simp [r6'])
  dsimp only at r6 r3 r4 r5
  subst r6
  refine ok_rc (ls_hd H2 4 rfl) ?_
  refine ok_cI (ls_add (q := Qq) (mc := Qm) (cap := Qc) (es := cs.map (fun c : kCs => c.1)) hX w4 (by dsimp only [kCapL] at c4; omega) H2 4 rfl (fun e he => hok e (by rw [List.map_append]; exact List.mem_append_left _ he)) (hok c'.1 (by simp))) fun v m2 h => ?_
  obtain ⟨-, q', H3, w5, S2⟩ := h
  have hlen : (cs.map (fun c : kCs => c.1)).length ≤ 24 := by rw [List.length_map, r6']; omega
  have hk := kAc_small (cap := Qc) hlen c4
  have ST := S1.trans S2
  refine ok_V ⟨⟨(La, Lq, Lm, Lc, Le), (Ba, Bq, Bm, Bc, Be), (Pa, Pq, Pm, Pc, Pe), (Qa, q', Qm + 1, kAc Qc (cs.map (fun c : kCs => c.1)).length, cs.map (fun c : kCs => c.1) ++ [c'.1]), (s, l, r, u, y), cs ++ [c'], H3, ?_, hck⟩, ST.mono (by omega) (by have := hk.2; omega)⟩
  refine ⟨⟨w1, w2, w3, w5⟩, ⟨c1, c2, c3, hk.1⟩, r3.st ST, r4.st ST, r5.st ST, ⟨by simp, by simp [r6']⟩, r7.st ST, ?_⟩
  intro i k z h1 h2
  by_cases hi : i < cs.length
  · rw [List.getElem?_append_left hi] at h1
    rw [List.getElem?_append_left (by omega)] at h2
    exact (r8 i k z h1 h2).st ST
  · rw [List.getElem?_append_right (by omega)] at h1
    rw [List.getElem?_append_right (by omega), ← r6'] at h2
    cases hz : i - cs.length with
    | zero => rw [hz] at h1 h2; cases h1; cases h2; exact R1.st S2
    | succ w => rw [hz] at h1; cases h1
theorem m_keep (hX : kXok xm) (hN : 10 ≤ N) (W : WR xm M0 g sum lo bo pa ps st ck F mem) (ha : aSw st) (hp : ps.length ≤ 12) : dOk (m_M_keep xm N M0 mem) (rV fun m => WR xm M0 g sum lo bo pa ((if ps.length = 12 then ps.drop 1 else ps) ++ [st]) st ck F m ∧ St xm mem m 31 300) := by
  have W0 := W
  obtain ⟨⟨La, Lq, Lm, Lc, Le⟩, ⟨Ba, Bq, Bm, Bc, Be⟩, ⟨Pa, Pq, Pm, Pc, Pe⟩, ⟨Qa, Qq, Qm, Qc, Qe⟩, ⟨s, l, r, u, y⟩, cs, H, R, hck⟩ := W
  obtain ⟨⟨w1, w2, w3, w4⟩, ⟨c1, c2, c3, c4⟩, r3, r4, r5, ⟨r6, r6'⟩, r7, r8⟩ := R
  dsimp only at r6 r3 r4 r5
  subst r6
  unfold m_M_keep
  refine ok_gR (H.look 0 0 rfl rfl) rfl ?_
  refine ok_rc (ls_hd H 4 rfl) ?_
  refine ok_eI (ls_size H 4 rfl) ?_
  rw [List.length_map, r6']
  have hq : (Int32.ofNat ps.length = 12) ↔ ps.length = 12 := i_eq (b := 12) (by omega) (by decide)
  refine ok_if (fun e => ?_) (fun e => ?_)
  · have e := hq.mp e
    obtain ⟨p0, ps, rfl⟩ : ∃ p0 ps', ps = p0 :: ps' := by
      cases ps with
      | nil => cases e
      | cons a b => exact ⟨a, b, rfl⟩
    obtain ⟨c0, cs, rfl⟩ : ∃ c0 cs', cs = c0 :: cs' := by
      cases cs with
      | nil => cases r6'
      | cons a b => exact ⟨a, b, rfl⟩
    rw [if_pos e]
    refine ok_gR (H.look 0 0 rfl rfl) rfl ?_
    refine ok_rc (ls_hd H 4 rfl) ?_
    have hok := pOwn_ok (xm := xm) H (i := 11) rfl r6'
    refine ok_cR (ls_remove (q := Qq) (mc := Qm) (cap := Qc) (es := (c0 :: cs).map (fun c : kCs => c.1)) (j := 0) w4 H 4 rfl hok (by simp)) fun p m1 h => ?_
    obtain ⟨-, H1, w5, S1⟩ := h
    have H2 := H1.shrink (B := pOwn cs ps) 11 rfl (by rw [pOwn_cons]; exact List.sublist_append_right _ _)
    have W2 : WR xm M0 g sum lo bo pa ps st ck F m1 := by
      refine ⟨(La, Lq, Lm, Lc, Le), (Ba, Bq, Bm, Bc, Be), (Pa, Pq, Pm, Pc, Pe), (Qa, Qq, Qm + 1, Qc, cs.map (fun c : kCs => c.1)), (s, l, r, u, y), cs, H2, ?_, hck⟩
      refine ⟨⟨w1, w2, w3, w5⟩, ⟨c1, c2, c3, c4⟩, r3.st S1, r4.st S1, r5.st S1, ⟨rfl, by simpa using r6'⟩, r7.st S1, ?_⟩
      intro i k z h1 h2
      exact (r8 (i + 1) k z h1 h2).st S1
    refine ok_mono (m_keep21 hX hN W2 ha (by simp at e; omega)) ?_
    rintro r ⟨h1, h2, h3⟩
    exact ⟨h1, h2, (S1.trans h3).mono (by omega) (by omega)⟩
  · rw [if_neg (fun z => e (hq.mpr z))]
    exact m_keep21 hX hN W0 ha hp
theorem m_all {c : kCs} {Ls : List kSg} {sc : Nat → Int32} (H : HpS Ls mem) (i : Nat) {s y : Nat} {l r u : kLi} (h0 : Ls[i]? = some [(s, stE l.1 r.1 u.1 y sc)]) (h1 : Ls[i + 1]? = some (sL l)) (h2 : Ls[i + 2]? = some (sL r)) : m_MS_all xm N s mem = some (.inl (some (.int (Int32.ofNat (l.2.2.2.2.length + r.2.2.2.2.length)))), mem) := by
  refine ok_eq ?_
  unfold m_MS_all
  refine ok_gR (H.look i 0 h0 rfl) rfl ?_
  refine ok_rc (ls_hd H (i + 1) h1) ?_
  refine ok_eI (ls_size H (i + 1) h1) ?_
  refine ok_gR (H.look i 0 h0 rfl) rfl ?_
  refine ok_rc (ls_hd H (i + 2) h2) ?_
  refine ok_eI (ls_size H (i + 2) h2) ?_
  rw [i_add]
  exact ok_me
/-- the yarn of the joined ball, -1 without one -/
def aYarn (g : Nat → Int32) (ya : List Int32) : Int32 := if g 7 = -1 then -1 else ya.getD (g 7).toNatClampNeg 0
theorem m_yarn (W : WR xm M0 g sum lo bo pa ps st ck F mem) (hy : st.2.2.2.1.length = 4) (hj : g 7 = -1 ∨ ∃ b : Nat, g 7 = Int32.ofNat b ∧ b < 4) : m_M_yarn xm N M0 mem = some (.inl (some (.int (aYarn g st.2.2.2.1))), mem) := by
  obtain ⟨L, B, P, Q, c, cs, H, R, hck⟩ := W
  refine ok_eq ?_
  unfold m_M_yarn aYarn
  refine ok_gI (H.look 0 0 rfl rfl) rfl ?_
  refine ok_if (fun e => ?_) (fun e => ?_)
  · rw [if_pos e]; exact ok_me
  · rw [if_neg e]
    obtain ⟨b, hb, hb4⟩ : ∃ b : Nat, g 7 = Int32.ofNat b ∧ b < 4 := by
      rcases hj with h | h
      · exact absurd h e
      · exact h
    refine ok_gR (H.look 0 0 rfl rfl) rfl ?_
    refine ok_gR (H.look 5 0 rfl rfl) rfl ?_
    refine ok_gI (H.look 0 0 rfl rfl) rfl ?_
    refine ok_iL (H.look 10 0 rfl rfl) ?_ ok_me
    rw [hb, hy]
    exact i_inB hb4 (by decide)
theorem m_refuse {k : Int32} (W : WR xm M0 g sum lo bo pa ps st ck F mem) : dOk (m_M_refuse xm N M0 k mem) (rI fun v m => v = 0 ∧ WR xm M0 (kUp g 0 k) sum lo bo pa ps st ck F m ∧ St xm mem m 0 0) := by
  obtain ⟨L, B, P, Q, c, cs, H, R, hck⟩ := W
  unfold m_M_refuse
  refine os_p H 0 0 rfl rfl rfl rfl fun m H1 S1 => ?_
  exact ok_I ⟨rfl, ⟨L, B, P, Q, c, cs, H1, R.st S1, hck⟩, S1⟩
/-- the first row of each call: nothing is thrown yet -/
theorem m_start {S : kO × kM → Prop} {K : kM → dRes} (W : WR xm M0 g sum lo bo pa ps st ck F mem) (h : ∀ m, WR xm M0 (kUp g 0 0) sum lo bo pa ps st ck F m → St xm mem m 0 0 → dOk (K m) S) : dOk (dP xm mem M0 15 0 (.int 0) K) S := by
  obtain ⟨L, B, P, Q, c, cs, H, R, hck⟩ := W
  refine os_p H 0 0 rfl rfl rfl rfl fun m H1 S1 => ?_
  exact h m ⟨L, B, P, Q, c, cs, H1, R.st S1, hck⟩ S1
theorem WR.hd (W : WR xm M0 g sum lo bo pa ps st ck F mem) : ∃ fs, kLook xm mem M0 = some (.inl (15, fs)) := by
  obtain ⟨L, B, P, Q, c, cs, H, R, hck⟩ := W
  exact ⟨_, H.look 0 0 rfl rfl⟩
theorem m_make {vl vr : List Int32} {rs : List (List Int32)} {ya : List Int32} {sc : Nat → Int32} {b : Nat} {k1 k2 k3 k4 : Int32} (hX : kXok xm) (hN : 20 ≤ N) (W : WR xm M0 g sum lo bo pa ps (vl, vr, rs, ya, sc) ck F mem) (ha : aSw (vl, vr, rs, ya, sc)) (hr : vr.length < 24) (hlo : lo.length ≤ 12500) (hj : g 7 = Int32.ofNat b) (hb : b < 4) :
    dOk (m_M_make xm N M0 k1 k2 k3 k4 mem) (rI fun v m => v = sc 6 ∧ ∃ ck', ck ≤ ck' ∧ WR xm M0 g sum (lo ++ [(k1, g 7, sc 5, k2, sc 4, k3)]) bo pa ps (vl, vr ++ [sc 6], rs.map kFall, ya.set b (ya.getD b 0 - k4), kUp sc 6 (sc 6 + 1)) ck' F m ∧ St xm mem m 5 (60 + 4 * (ck' - ck))) := by
  obtain ⟨⟨La, Lq, Lm, Lc, Le⟩, ⟨Ba, Bq, Bm, Bc, Be⟩, ⟨Pa, Pq, Pm, Pc, Pe⟩, ⟨Qa, Qq, Qm, Qc, Qe⟩, ⟨s, ⟨la, lq, lm, lc, le⟩, ⟨ra, rq, rm, rc, re⟩, ⟨ua, uq, um, uc, ue⟩, y⟩, cs, H, R, hck⟩ := W
  obtain ⟨⟨w1, w2, w3, w4⟩, ⟨c1, c2, c3, c4⟩, r3, r4, r5, r6, ⟨t1, t2, t3, ⟨t4, t5, t6⟩, t7, t8, t9⟩, r8⟩ := R
  obtain ⟨a1, a2, a3, a4, a5⟩ := ha
  dsimp only [kCapL] at *
  have hck0 := hck.1
  have n3 := r3.1
  have n8 := t8.1
  unfold m_M_make
  refine ok_gR (H.look 0 0 rfl rfl) rfl ?_
  refine ok_gR (H.look 5 0 rfl rfl) rfl ?_
  refine ok_gI (H.look 0 0 rfl rfl) rfl ?_
  have hin : kInB (g 7) ya.length = true := by rw [hj, a5]; exact i_inB hb (by decide)
  have hnt : (g 7).toNatClampNeg = b := by rw [hj]; exact i_nat (by omega)
  refine ok_iL (H.look 10 0 rfl rfl) hin ?_
  refine os_iS H 10 0 rfl rfl hin fun m1 H1 S1 => ?_
  rw [hnt] at H1
  refine ok_gR (H1.look 0 0 rfl rfl) rfl ?_
  unfold dN
  have H2 : HpS _ (m1 ++ [.inl (13, [.int 0, .int 0, .int 0, .int 0, .int 0, .int 0])]) := Hp.app H1
  refine ok_gI (H2.look 0 0 rfl rfl) rfl ?_
  refine ok_gR (H2.look 0 0 rfl rfl) rfl ?_
  refine ok_gI (H2.look 5 0 rfl rfl) rfl ?_
  refine ok_gR (H2.look 0 0 rfl rfl) rfl ?_
  refine ok_gI (H2.look 5 0 rfl rfl) rfl ?_
  refine ok_eV (loop_new (f := (k1, g 7, sc 5, k2, sc 4, k3))) ?_
  have H3 : HpS _ (m1 ++ [kLc (k1, g 7, sc 5, k2, sc 4, k3)]) := Hp.app H1
  have S3 : St xm m1 (m1 ++ [kLc (k1, g 7, sc 5, k2, sc 4, k3)]) 1 6 := St.new _
  have hlo3 : kLo xm (m1 ++ [kLc (k1, g 7, sc 5, k2, sc 4, k3)]) (kNew m1) (k1, g 7, sc 5, k2, sc 4, k3) := app_look
  generalize m1 ++ [kLc (k1, g 7, sc 5, k2, sc 4, k3)] = m3 at H3 S3 hlo3 ⊢
  refine ok_rc (ls_hd H3 1 rfl) ?_
  have S13 := S1.trans S3
  refine ok_cI (ls_add (q := Lq) (mc := Lm) (cap := Lc) (es := Le) hX w1 (by omega) H3 1 rfl (r3.st S13).ok hlo3.ok) fun v m4 h => ?_
  obtain ⟨-, Lq', H4, w1', S4⟩ := h
  refine ok_gR (H4.look 0 0 rfl rfl) rfl ?_
  refine ok_gR (H4.look 5 0 rfl rfl) rfl ?_
  refine ok_gR (H4.look 0 0 rfl rfl) rfl ?_
  refine ok_gI (H4.look 5 0 rfl rfl) rfl ?_
  refine ok_cR (int_valueOf hX H4 (sc 6)) fun e m5 h => ?_
  obtain ⟨hiv, H5, S5⟩ := h
  have H5 : HpS _ m5 := H5
  have S15 := S13.trans (S4.trans S5)
  refine ok_rc (ls_hd H5 7 rfl) ?_
  refine ok_cI (ls_add (q := rq) (mc := rm) (cap := rc) (es := re) hX t2 (by omega) H5 7 rfl (t8.st S15).ok hiv.ok) fun v m6 h => ?_
  obtain ⟨-, rq', H6, t2', S6⟩ := h
  refine ok_gR (H6.look 0 0 rfl rfl) rfl ?_
  refine ok_gI (H6.look 5 0 rfl rfl) rfl ?_
  refine os_p H6 5 0 rfl rfl rfl rfl fun m7 H7 S7 => ?_
  refine ok_gR (H7.look 0 0 rfl rfl) rfl ?_
  refine ok_gR (H7.look 5 0 rfl rfl) rfl ?_
  refine ok_rc (ls_hd H7 8 rfl) ?_
  refine ok_cR (ls_iterator H7 8 rfl) fun it m8 h => ?_
  obtain ⟨H8, S8⟩ := h
  have S18 := S15.trans (S6.trans (S7.trans S8))
  refine ok_mono (fall_loop (i := 8) (j0 := 5) (u := 9) (sc := kUp sc 6 (sc 6 + 1)) (y1 := y) (l1 := la) (r1 := ra) t3 (by decide) (by decide) (by decide) rs.length 0 N (-1) m8 _ rs (by omega) (by omega) rfl rfl rfl rfl t9 a3 a4 H8) ?_
  rintro r ⟨v, h1, rfl, H9, S9⟩
  have ST := S18.trans S9
  rw [List.take_zero, List.nil_append, List.drop_zero] at H9
  have kp := kAs_pot (n := Le.length) (cap := Lc) w1.1
  have kb := kAc_big (n := Le.length) (cap := Lc) (by omega) c1
  have ks := kAc_small (n := re.length) (cap := rc) (by omega) t5
  refine ⟨_, h1, ?_, kAc Lc Le.length + Bc, by omega, ⟨(La, Lq', Lm + 1, kAc Lc Le.length, Le ++ [kNew m1]), (Ba, Bq, Bm, Bc, Be), (Pa, Pq, Pm, Pc, Pe), (Qa, Qq, Qm, Qc, Qe), (s, (la, lq, lm, lc, le), (ra, rq', rm + 1, kAc rc re.length, re ++ [e]), (ua, uq, um, uc, ue), y), cs, H9, ?_, rfl, hck.2⟩, ?_⟩
  · show sc 6 + 1 - 1 = sc 6
    exact Int32.add_sub_cancel _ _
  · refine ⟨⟨w1', w2, w3, w4⟩, ⟨kb, c2, c3, c4⟩, ?_, r4.st ST, r5.st ST, r6, ⟨t1, t2', t3, ⟨t4, ks.1, t6⟩, t7.st ST, ?_, by rw [List.length_map]; exact t9⟩, fun i c z q1 q2 => (r8 i c z q1 q2).st ST⟩
    · exact LVs.snoc (r3.st ST) (hlo3.st (S4.trans (S5.trans (S6.trans (S7.trans (S8.trans S9))))))
    · exact (t8.st ST).app (IVs.one (hiv.st (S6.trans (S7.trans (S8.trans S9)))))
  · refine ST.mono (by omega) ?_
    have := ks.2
    omega
end KJ2
