/-! ===== what is asked, exactly: ofPattern ===== -/
def spOfPattern (x y : Int32) : aC → aR
  | (nb, jo, lo, bo, pa, ps, (vl, vr, rs, ya, sc)) => if x < 0 ∨ ¬ x < Int32.ofNat pa.length then (1, 0, (nb, jo, lo, bo, pa, ps, (vl, vr, rs, ya, sc))) else if y < 0 ∨ ¬ y < 5 then (2, 0, (nb, jo, lo, bo, pa, ps, (vl, vr, rs, ya, sc))) else (0, pInf (pa.getD x.toNatClampNeg 0) y.toNatClampNeg, (nb, jo, lo, bo, pa, ps, (vl, vr, rs, ya, sc)))
theorem pSumF_add (h : Int32 → Int32) (j : Nat) : ∀ (f n : Nat) (s : Int32), n < 10 ^ f → pSumF h (f + j) n s = pSumF h f n s := by
  intro f
  induction f with
  | zero =>
    intro n s hn
    have e : n = 0 := by simpa using hn
    subst e
    cases j with
    | zero => rfl
    | succ j => rw [Nat.zero_add]; rfl
  | succ f ih =>
    intro n s hn
    have h1 := ih (n / 10) (s + h (Int32.ofNat (n % 10))) (by rw [Nat.pow_succ] at hn; omega)
    rw [show f + 1 + j = (f + j) + 1 by omega]
    show (if 0 < n then pSumF h (f + j) (n / 10) (s + h (Int32.ofNat (n % 10))) else s) = (if 0 < n then pSumF h f (n / 10) (s + h (Int32.ofNat (n % 10))) else s)
    rw [h1]
theorem pSumF_pos {h : Int32 → Int32} {f n : Nat} {s : Int32} (hn : 0 < n) : pSumF h (f + 1) n s = pSumF h f (n / 10) (s + h (Int32.ofNat (n % 10))) := if_pos hn
theorem aNz_div {n : Nat} (h : aNz n) : aNz (n / 10) := by
  intro i hi
  have := h (i + 1)
  rw [Nat.pow_succ, Nat.mul_comm, ← Nat.div_div_eq_div_mul] at this
  exact this hi
section FE
variable {xm : Nat → Option kE} {mem m0 : kM} {F : kSg} {N k nb c0 s0 c1 s1 cap0 M0 C S : Nat} {jo x y z t : Int32} {lo : List kLf} {bo pa vl vr ya : List Int32} {ps : List aS} {rs : List (List Int32)} {sc : Nat → Int32} {L B P Q : kLi} {s y0 : Nat} {l r u : kLi} {cs : List kCs} {g : Nat → Int32} {sum : Int64}
theorem pat_46E {a2 p : Nat} (ha2 : a2 < 5) {Ls : List kSg} : ∀ (f n : Nat) (a b c d e : Int32) (mem : kM), n < 10 ^ f → n < 2 ^ 31 → aNz n → HpS ([(p, kAr [a, b, c, d, e])] :: Ls) mem → dOk (m_M_ofPatternNow_46 xm N (f + 1) (Int32.ofNat a2) p (Int32.ofNat n) mem) (rI fun v m => v = [a, b, pSumF (fAt 3) f n c, pSumF (fAt 5) f n d, pSumF (fAt 4) f n e].getD a2 0 ∧ HpS Ls m ∧ St xm mem m 0 0) := by
  have e2 : (Int32.ofNat a2).toNatClampNeg = a2 := i_nat (by omega)
  intro f
  induction f with
  | zero =>
    intro n a b c d e mem hf hn hz H
    have hn0 : n = 0 := by simpa using hf
    subst hn0
    rw [m_M_ofPatternNow_46, if_neg (by decide)]
    refine ok_iL (H.look 0 0 rfl rfl) (show kInB (Int32.ofNat a2) 5 = true from i_inB ha2 (by decide)) ?_
    rw [e2]
    exact ok_I ⟨rfl, H.drop, St.refl⟩
  | succ f ih =>
    intro n a b c d e mem hf hn hz H
    by_cases hn0 : n = 0
    · subst hn0
      rw [m_M_ofPatternNow_46, if_neg (by decide)]
      refine ok_iL (H.look 0 0 rfl rfl) (show kInB (Int32.ofNat a2) 5 = true from i_inB ha2 (by decide)) ?_
      rw [e2]
      exact ok_I ⟨rfl, H.drop, St.refl⟩
    · have h0 : 0 < n := by omega
      have d0 := hz 0 (by rw [Nat.pow_zero, Nat.div_one]; exact h0)
      rw [Nat.pow_zero, Nat.div_one] at d0
      have d1 : 1 ≤ n % 10 := by omega
      have d9 : n % 10 ≤ 9 := by omega
      rw [m_M_ofPatternNow_46, if_pos ((i_pos hn).mpr h0)]
      refine ok_iL (H.look 0 0 rfl rfl) (show kInB 2 5 = true by decide) ?_
      refine ok_nz (by decide) ?_
      rw [i_mod10 hn]
      refine ok_eI (m_eatsE d1 d9) ?_
      refine os_iS H 0 0 rfl rfl (show kInB 2 5 = true by decide) fun m1 H1 S1 => ?_
      have H1 : HpS ([(p, kAr [a, b, c + Int32.ofNat (aUse (n % 10)), d, e])] :: Ls) m1 := H1
      refine ok_iL (H1.look 0 0 rfl rfl) (show kInB 3 5 = true by decide) ?_
      refine ok_nz (by decide) ?_
      refine ok_eI (m_makesE d1 d9) ?_
      refine os_iS H1 0 0 rfl rfl (show kInB 3 5 = true by decide) fun m2 H2 S2 => ?_
      have H2 : HpS ([(p, kAr [a, b, c + Int32.ofNat (aUse (n % 10)), d + Int32.ofNat (aGive (n % 10)), e])] :: Ls) m2 := H2
      refine ok_iL (H2.look 0 0 rfl rfl) (show kInB 4 5 = true by decide) ?_
      refine ok_nz (by decide) ?_
      refine ok_eI (m_takesE d1 d9) ?_
      refine os_iS H2 0 0 rfl rfl (show kInB 4 5 = true by decide) fun m3 H3 S3 => ?_
      have H3 : HpS ([(p, kAr [a, b, c + Int32.ofNat (aUse (n % 10)), d + Int32.ofNat (aGive (n % 10)), e + Int32.ofNat (aTake (n % 10))])] :: Ls) m3 := H3
      refine ok_nz (by decide) ?_
      rw [i_div10 hn]
      refine ok_mono (ih (n / 10) a b _ _ _ m3 (by rw [Nat.pow_succ] at hf; omega) (by omega) (aNz_div hz) H3) ?_
      rintro w ⟨v, q1, q0, q2, q3⟩
      refine ⟨v, q1, ?_, q2, (S1.trans (S2.trans (S3.trans q3))).mono (by omega) (by omega)⟩
      have f3 : fAt 3 (Int32.ofNat (n % 10)) = Int32.ofNat (aUse (n % 10)) := fAt_3 d1 d9
      rw [pSumF_pos h0, pSumF_pos h0, pSumF_pos h0, f3, fAt_5 d1 d9, fAt_4 d1 d9]
      exact q0
theorem m_ofPatternNowE {i n n0 : Nat} (hX : kXok xm) (hN : 20 ≤ N) (hn : n < 5) (hil : i < pa.length) (hn0 : pa[i] = Int32.ofNat n0) (p1 : 1 ≤ n0) (p2 : n0 ≤ 999999999) (pz : aNz n0) (V : WC xm M0 L B P Q (s, l, r, u, y0) cs g sum lo bo pa ps (vl, vr, rs, ya, sc) F mem) : dOk (m_M_ofPatternNow xm N M0 (Int32.ofNat i) (Int32.ofNat n) mem) (rI fun v m => v = pInf (Int32.ofNat n0) n ∧ WC xm M0 L B P Q (s, l, r, u, y0) cs g sum lo bo pa ps (vl, vr, rs, ya, sc) F m ∧ St xm mem m 1 5) := by
  unfold m_M_ofPatternNow
  refine w_gP V.wr ?_
  refine w_pat hX V.wr hil ?_
  rw [hn0]
  refine os_nI (n := 5) xm V.1 (by decide) fun m1 q1 H1 S1 => ?_
  refine os_iS H1 0 0 rfl rfl (by decide) fun m2 H2 S2 => ?_
  refine ok_eI (m_lengthE (by omega) p1 p2) ?_
  refine os_iS H2 0 0 rfl rfl (by simp; decide) fun m3 H3 S3 => ?_
  refine os_iS H3 0 0 rfl rfl (by simp; decide) fun m4 H4 S4 => ?_
  refine os_iS H4 0 0 rfl rfl (by simp; decide) fun m5 H5 S5 => ?_
  refine os_iS H5 0 0 rfl rfl (by simp; decide) fun m6 H6 S6 => ?_
  have H6 : HpS ([(q1, kAr [Int32.ofNat n0, Int32.ofNat (pLen n0), 0, 0, 0])] :: wSg M0 L B P Q (s, l, r, u, y0) cs g sum ps (vl, vr, rs, ya, sc) F) m6 := H6
  have S16 := S1.trans (S2.trans (S3.trans (S4.trans (S5.trans S6))))
  obtain ⟨N', rfl⟩ : ∃ N', N = N' + 1 := ⟨N - 1, by omega⟩
  have hlt : n0 < 10 ^ 9 := by omega
  refine ok_mono (pat_46E hn N' n0 _ _ _ _ _ m6 ?_ (by omega) pz H6) ?_
  · calc n0 < 10 ^ 9 := hlt
      _ ≤ 10 ^ N' := Nat.pow_le_pow_right (by decide) (by omega)
  · rintro w ⟨v, q1, q0, q2, q3⟩
    have ST := S16.trans q3
    refine ⟨v, q1, ?_, V.mk' q2 ST, ST.mono (by omega) (by omega)⟩
    obtain ⟨j, rfl⟩ : ∃ j, N' = 9 + j := ⟨N' - 9, by omega⟩
    rw [pSumF_add _ j 9 n0 _ hlt, pSumF_add _ j 9 n0 _ hlt, pSumF_add _ j 9 n0 _ hlt] at q0
    rw [q0, pInf_of (by omega)]
    match n, hn with
    | 0, _ | 1, _ | 2, _ | 3, _ | 4, _ => rfl
theorem v_ofPattern (hX : kXok xm) (hN : 20 ≤ N) (I : RJ xm M0 t (nb, jo, lo, bo, pa, ps, (vl, vr, rs, ya, sc)) k C S F mem) (x z : Int32) : dOk (m_M_ofPattern xm N M0 x z mem) (eR xm M0 (spOfPattern x z (nb, jo, lo, bo, pa, ps, (vl, vr, rs, ya, sc))) k C S 1 5 F) := by
  have hsp : (spOfPattern x z (nb, jo, lo, bo, pa, ps, (vl, vr, rs, ya, sc))).2.2 = (nb, jo, lo, bo, pa, ps, (vl, vr, rs, ya, sc)) := by
    unfold spOfPattern
    dsimp only
    split
    · rfl
    · split <;> rfl
  unfold m_M_ofPattern
  refine RJ.askE hsp I fun L B P Q s y l r u cs g sum m V hi h0 h7 hl hb => ?_
  have h6 := hi.2.2.2.2.1
  refine w_rc V.wr ?_
  refine ok_eI (m_isPattern V.wr x) ?_
  refine ok_if (fun e => ?_) (fun e => ?_)
  · exact e_ref V (congrArg (fun r : aR => r.1) (if_pos ((is_n (by omega)).mp (is_z.mp e)))) (by decide)
  · have e' : ¬ (x < 0 ∨ ¬ x < Int32.ofNat pa.length) := fun w => e (is_z.mpr ((is_n (by omega)).mpr w))
    obtain ⟨i, rfl, hil⟩ := in_nat (by omega) e
    have en : (Int32.ofNat i).toNatClampNeg = i := i_nat (by omega)
    refine ok_eI m_is ?_
    refine ok_if (fun e2 => ?_) (fun e2 => ?_)
    · have e2' : z < 0 ∨ ¬ z < 5 := (is_nn (n := 5) (by decide) (by decide)).mp (is_z.mp e2)
      exact e_ref V (congrArg (fun r : aR => r.1) ((if_neg e').trans (if_pos e2'))) (by decide)
    · have e2' : ¬ (z < 0 ∨ ¬ z < 5) := fun w => e2 (is_z.mpr ((is_nn (n := 5) (by decide) (by decide)).mpr w))
      obtain ⟨n, rfl, q1, q2⟩ := is_nat (a := 0) (b := 4) (by decide) (by decide) e2
      obtain ⟨n0, hn0, p1, p2, pz⟩ := hi.2.2.2.2.2 _ (List.getElem_mem hil)
      have hpd : pa.getD (Int32.ofNat i).toNatClampNeg 0 = Int32.ofNat n0 := by
        rw [en, List.getD_eq_getElem?_getD, List.getElem?_eq_getElem hil, hn0]
        rfl
      have es : spOfPattern (Int32.ofNat i) (Int32.ofNat n) (nb, jo, lo, bo, pa, ps, (vl, vr, rs, ya, sc)) = (0, pInf (Int32.ofNat n0) n, (nb, jo, lo, bo, pa, ps, (vl, vr, rs, ya, sc))) := (if_neg e').trans ((if_neg e2').trans (by rw [hpd, i_nat (show n < 2 ^ 31 by omega)]))
      refine w_rc V.wr ?_
      refine ok_cI (m_ofPatternNowE hX hN (by omega) hil hn0 p1 p2 pz V) fun v m2 hh => ?_
      obtain ⟨rfl, V2, S2⟩ := hh
      refine ok_I ⟨g, sum, V2, rfl, rfl, S2, ?_, ?_⟩
      · rw [es]
        exact h0
      · rw [es]
        exact fun _ => rfl
theorem q_ofPattern (D : KS xm nb jo lo bo pa ps (vl, vr, rs, ya, sc) F 0 0 m0 cap0 mem) : dOk (m_K_ofPattern xm N 1000 x y mem) (eX xm 2 0 (spOfPattern x y (nb, jo, lo, bo, pa, ps, (vl, vr, rs, ya, sc))) F m0 cap0) := by
  have D0 := D
  obtain ⟨T, h, I, D⟩ := D
  have h6 : pa.length ≤ 6 := I.1.2.2.2.2.1
  unfold m_K_ofPattern
  refine x_rc D 0 (fun _ _ => ⟨_, rfl⟩) ?_
  refine x_ro D (fun q cap k2 hz H => q_hasPattern h6 rfl H) ?_
  by_cases g1 : x < 0
  · rw [if_pos g1, if_pos rfl]
    exact q_ex1 (if_pos (Or.inl g1)) D0
  · rw [if_neg g1]
    by_cases g2 : x < Int32.ofNat pa.length
    · rw [if_pos g2, if_neg (by decide)]
      have g12 : ¬ (x < 0 ∨ ¬ x < Int32.ofNat pa.length) := fun z => z.elim g1 (fun z => z g2)
      refine ok_if (fun g => q_ex2 ((if_neg g12).trans (if_pos (Or.inl g))) D0) (fun g3 => ?_)
      refine ok_if (fun g4 => ?_) (fun g => q_ex2 ((if_neg g12).trans (if_pos (Or.inr g))) D0)
      have g34 : ¬ (y < 0 ∨ ¬ y < 5) := fun z => z.elim g3 (fun z => z g4)
      obtain ⟨ex, lx⟩ := i_of (Int32.not_lt.mp g1)
      obtain ⟨ey, ly⟩ := i_of (Int32.not_lt.mp g3)
      generalize hn : x.toNatClampNeg = n at ex lx
      generalize hk : y.toNatClampNeg = k at ey ly
      subst ex
      subst ey
      have hnl := (i_lt lx (by omega)).mp g2
      have hk5 := (i_lt (b := 5) ly (by decide)).mp g4
      refine x_gR D 0 (fun _ _ => rfl) rfl ?_
      refine x_rc D 12 (fun _ _ => ⟨_, rfl⟩) ?_
      refine x_ro (v := pInf (pa.getD n 0) k) D (fun q cap k2 hz H => ?_) ?_
      · obtain ⟨Tp, hTp, H1⟩ := HpT.pinG (P := fun T => ptRel T pa) H 13 rfl
        have e1 := tE_get (xm := xm) (N := N) (f := 5) (mr := 6) (r := n) (w := k) (n := 30) (a := 1012) (b := 1013) (j := 12) (by decide) (by decide) (by omega) hk5 (by decide) (fun c h1 h2 => absurd h1 (by omega)) H1 rfl rfl
        rw [e1, hTp n (pa.getD n 0) (by rw [List.getD_eq_getElem?_getD, List.getElem?_eq_getElem hnl]; rfl) k hk5]
      · exact q_end (c := (nb, jo, lo, bo, pa, ps, (vl, vr, rs, ya, sc))) ((if_neg g12).trans ((if_neg g34).trans (by rw [hn, hk]))) D0
    · rw [if_neg g2, if_pos rfl]
      exact q_ex1 (if_pos (Or.inr g2)) D0
end FE
