/-! ===== the class exactly: all its cells; the history ===== -/
/-- the history: the next slot, how many are kept, their balls and yarn, the works by slots -/
abbrev kHs : Type := Nat × Nat × List Int32 × List Int32 × (Nat → aS)
/-- what a pattern's numbers and digits are -/
def pLenF : Nat → Nat → Nat
  | 0, _ => 0
  | f + 1, n => if 0 < n then pLenF f (n / 10) + 1 else 0
def pLen (n : Nat) : Nat := pLenF 9 n
def pSumF (h : Int32 → Int32) : Nat → Nat → Int32 → Int32
  | 0, _, s => s
  | f + 1, n, s => if 0 < n then pSumF h f (n / 10) (s + h (Int32.ofNat (n % 10))) else s
def sEat (x : Int32) : Int32 := kAr_4.getD x.toNatClampNeg 0
def pDg (n i : Nat) : Nat := n / 10 ^ (pLen n - 1 - i) % 10
def fAt (r : Nat) (x : Int32) : Int32 := (if r = 3 then kAr_3 else if r = 4 then kAr_4 else if r = 5 then kAr_5 else kAr_6).getD x.toNatClampNeg 0
def pInf (v : Int32) (k : Nat) : Int32 := if k = 0 then v else if k = 1 then Int32.ofNat (pLen v.toNatClampNeg) else if k = 2 then pSumF (fAt 3) 9 v.toNatClampNeg 0 else if k = 3 then pSumF (fAt 5) 9 v.toNatClampNeg 0 else pSumF (fAt 4) 9 v.toNatClampNeg 0
def ptRel (T : Nat → Int32) (pa : List Int32) : Prop := ∀ (p : Nat) (v : Int32), pa[p]? = some v → ∀ k < 5, T (p * 5 + k) = pInf v k
def pdRel (T : Nat → Int32) (pa : List Int32) : Prop := ∀ (p : Nat) (v : Int32), pa[p]? = some v → ∀ i < pLen v.toNatClampNeg, T (p * 9 + i) = Int32.ofNat (pDg v.toNatClampNeg i)
def cPt (pa : List Int32) : cTy := fun e => ∃ T, ptRel T pa ∧ cF T 30 e
def cDg (pa : List Int32) : cTy := fun e => ∃ T, pdRel T pa ∧ cF T 54 e
/-- the class's cells: balls bought, joined, patterns, the work as it is now, the loops' cells at q, so many, the history -/
def cE (nb : Nat) (jo : Int32) (pa : List Int32) (st : aS) (q cap : Nat) (T : Nat → Int32) (h : kHs) : kTyL := [(1000, cO 11 [fR 1001, fR 1003, fR 1010, fR 1012, fR 1014, fR 1016, fR 1104, fE (Int32.ofNat pa.length)]), (1001, bE 1002 nb jo), (1002, cX st.2.2.2.1)] ++ (wE 1003 st ++ ([(1010, tT 6 19998 q), (q, cF T cap), (1012, tT 5 6 1013), (1013, cPt pa), (1014, tT 9 6 1015), (1015, cDg pa), (1016, cO 6 [fR 1017, fR 1018, fR 1019, fE (Int32.ofNat h.1), fE (Int32.ofNat h.2.1)]), (1017, cQ 3 kW12), (1018, cX h.2.2.1), (1019, cX h.2.2.2.1)] ++ (wE 1020 (h.2.2.2.2 0) ++ (wE 1027 (h.2.2.2.2 1) ++ (wE 1034 (h.2.2.2.2 2) ++ (wE 1041 (h.2.2.2.2 3) ++ (wE 1048 (h.2.2.2.2 4) ++ (wE 1055 (h.2.2.2.2 5) ++ (wE 1062 (h.2.2.2.2 6) ++ (wE 1069 (h.2.2.2.2 7) ++ (wE 1076 (h.2.2.2.2 8) ++ (wE 1083 (h.2.2.2.2 9) ++ (wE 1090 (h.2.2.2.2 10) ++ (wE 1097 (h.2.2.2.2 11) ++ [(1104, tr (fB 99))]))))))))))))))
section EF
variable {xm : Nat → Option kE} {mem m0 : kM} {F G : kSg} {S : kO × kM → Prop} {N k nb q cap nx ct c0 s0 cap0 : Nat} {jo x y z : Int32} {pa hb hy vl vr ya : List Int32} {rs : List (List Int32)} {sc : Nat → Int32} {st s1 : aS} {T : Nat → Int32} {h : kHs} {hs : Nat → aS} {X : dRes}
theorem isWE_now : isWE (cE nb jo pa st q cap T h) 3 1003 st := by
  intro d hd
  match d, hd with
  | 0, _ | 1, _ | 2, _ | 3, _ | 4, _ | 5, _ | 6, _ => rfl
theorem isWE_12 (hk : k < 12) : isWE (cE nb jo pa st q cap T h) (20 + 7 * k) (1020 + 7 * k) (h.2.2.2.2 k) := by
  intro d hd
  have all : ∀ k < 12, ∀ d < 7, (cE nb jo pa st q cap T h)[20 + 7 * k + d]? = (wE (1020 + 7 * k) (h.2.2.2.2 k))[d]? := by
    intro k hk d hd
    match k, hk with
    | 0, _ | 1, _ | 2, _ | 3, _ | 4, _ | 5, _ | 6, _ | 7, _ | 8, _ | 9, _ | 10, _ | 11, _ =>
      match d, hd with
      | 0, _ | 1, _ | 2, _ | 3, _ | 4, _ | 5, _ | 6, _ => rfl
  exact all k hk d hd
theorem setW_now : setW (cE nb jo pa (vl, vr, rs, ya, sc) q cap T h) 3 1003 st = cE nb jo pa (st.1, st.2.1, st.2.2.1, ya, st.2.2.2.2) q cap T h := rfl
theorem setW_12 (hk : k < 12) : setW (cE nb jo pa st q cap T (nx, ct, hb, hy, hs)) (20 + 7 * k) (1020 + 7 * k) s1 = cE nb jo pa st q cap T (nx, ct, hb, hy, kUp hs k s1) := by
  match k, hk with
  | 0, _ | 1, _ | 2, _ | 3, _ | 4, _ | 5, _ | 6, _ | 7, _ | 8, _ | 9, _ | 10, _ | 11, _ => rfl
theorem kW12_len : kW12.length = 12 := rfl
theorem hE_isSlot (hl : hb.length = 12) (hl2 : hy.length = 12) (hk : k < 12) (H : HpT (cE nb jo pa st q cap T (nx, ct, hb, hy, hs)) F mem) : m_History_isSlot xm N 1016 (Int32.ofNat k) mem = some (.inl (some (.int 1)), mem) := by
  refine ok_eq ?_
  unfold m_History_isSlot
  rw [if_neg (i_nn (by omega))]
  refine t_gR H 16 rfl rfl ?_
  refine t_lenQ H 17 rfl (by decide) ?_
  rw [kW12_len, if_pos ((i_lt (by omega) (by decide)).mpr hk)]
  refine t_gR H 16 rfl rfl ?_
  refine t_lenX H 18 rfl ?_
  rw [hl, if_pos ((i_lt (by omega) (by decide)).mpr hk)]
  refine t_gR H 16 rfl rfl ?_
  refine t_lenX H 19 rfl ?_
  rw [hl2, if_pos ((i_lt (by omega) (by decide)).mpr hk)]
  exact ok_me
theorem hE_keep (hnx : nx < 12) (hct : ct ≤ 12) (hl : hb.length = 12) (hl2 : hy.length = 12) (hjo : jOk nb jo) (hnb : nb ≤ 4) (h4 : ya.length = 4) (H : HpT (cE nb jo pa (vl, vr, rs, ya, sc) q cap T (nx, ct, hb, hy, hs)) F mem) : dOk (m_History_keep xm N 1016 1003 1001 mem) (rV fun m => HpT (cE nb jo pa (vl, vr, rs, ya, sc) q cap T (if nx + 1 < 12 then nx + 1 else 0, if ct < 12 then ct + 1 else 12, hb.set nx jo, hy.set nx (bY jo ya), kUp hs nx (vl, vr, rs, ya, sc))) F m ∧ St xm mem m 0 0) := by
  have gx : kInB (Int32.ofNat nx) kW12.length = true := i_inB (by rw [kW12_len]; exact hnx) (by rw [kW12_len]; decide)
  have hq : kW12.getD (Int32.ofNat nx).toNatClampNeg none = some (1020 + 7 * nx) := by rw [i_nat (by omega)]; exact kW12_at hnx
  have W : isWE (cE nb jo pa (vl, vr, rs, ya, sc) q cap T (nx, ct, hb, hy, hs)) (20 + 7 * nx) (1020 + 7 * nx) (hs nx) := isWE_12 hnx
  have V : isWE (cE nb jo pa (vl, vr, rs, ya, sc) q cap T (nx, ct, hb, hy, hs)) 3 1003 (vl, vr, rs, ya, sc) := isWE_now
  unfold m_History_keep
  refine t_gE H 16 rfl rfl ?_
  refine t_rc H 16 rfl ?_
  refine ok_eI (hE_isSlot hl hl2 hnx H) ?_
  rw [if_neg (by decide)]
  refine t_gR H 16 rfl rfl ?_
  refine t_gE H 16 rfl rfl ?_
  refine t_alN H 17 rfl (by decide) gx hq ?_
  refine t_gR H 16 rfl rfl ?_
  refine t_gE H 16 rfl rfl ?_
  refine t_aL H 17 rfl (by decide) gx hq ?_
  refine t_rc H (20 + 7 * nx) (W 0 (by decide)) ?_
  refine ok_cV (wE_copyFrom (i := 3) (j := 20 + 7 * nx) (by omega) H W V) fun m1 h1 => ?_
  obtain ⟨H1, S1⟩ := h1
  rw [setW_12 hnx] at H1
  refine t_gR H1 16 rfl rfl ?_
  refine t_gE H1 16 rfl rfl ?_
  refine t_gE H1 1 rfl rfl ?_
  refine t_iSn H1 18 rfl (show nx < hb.length by omega) (show hb.length < 2 ^ 31 by omega) fun m2 H2 S2 => ?_
  have H2 : HpT (cE nb jo pa (vl, vr, rs, ya, sc) q cap T (nx, ct, hb.set nx jo, hy, kUp hs nx (vl, vr, rs, ya, sc))) F m2 := H2
  refine t_gR H2 16 rfl rfl ?_
  refine t_gE H2 16 rfl rfl ?_
  refine t_rc H2 1 rfl ?_
  refine ok_eI (bE_ofJoined (a := 1001) (b := 1002) (nb := nb) (j := 1) hjo hnb h4 H2 rfl rfl) ?_
  refine t_iSn H2 19 rfl (show nx < hy.length by omega) (show hy.length < 2 ^ 31 by omega) fun m3 H3 S3 => ?_
  have H3 : HpT (cE nb jo pa (vl, vr, rs, ya, sc) q cap T (nx, ct, hb.set nx jo, hy.set nx (bY jo ya), kUp hs nx (vl, vr, rs, ya, sc))) F m3 := H3
  refine t_gE (x := Int32.ofNat nx) H3 16 rfl rfl ?_
  have last : ∀ s : Nat, dOk (m_History_keep_85 xm N 1016 1016 (Int32.ofNat s) m3) (rV fun m => HpT (cE nb jo pa (vl, vr, rs, ya, sc) q cap T (s, if ct < 12 then ct + 1 else 12, hb.set nx jo, hy.set nx (bY jo ya), kUp hs nx (vl, vr, rs, ya, sc))) F m ∧ St xm mem m 0 0) := by
    intro s
    unfold m_History_keep_85
    refine t_pE H3 16 rfl rfl rfl fun m4 H4 S4 => ?_
    have H4 : HpT (cE nb jo pa (vl, vr, rs, ya, sc) q cap T (s, ct, hb.set nx jo, hy.set nx (bY jo ya), kUp hs nx (vl, vr, rs, ya, sc))) F m4 := H4
    refine t_gE (x := Int32.ofNat ct) H4 16 rfl rfl ?_
    refine ok_eI m_min ?_
    have e : (if (12 : Int32) < Int32.ofNat ct + 1 then (12 : Int32) else Int32.ofNat ct + 1) = Int32.ofNat (if ct < 12 then ct + 1 else 12) := by
      rw [i_add1]
      by_cases g : ct < 12
      · rw [if_pos g, if_neg (show ¬ (12 : Int32) < Int32.ofNat (ct + 1) from fun z => by have := (i_lt (a := 12) (by decide) (by omega)).mp z; omega)]
      · rw [if_neg g, if_pos (show (12 : Int32) < Int32.ofNat (ct + 1) from (i_lt (a := 12) (by decide) (by omega)).mpr (by omega))]
        rfl
    rw [e]
    refine t_pE H4 16 rfl rfl rfl fun m5 H5 S5 => ?_
    exact ok_V ⟨H5, S1.trans (S2.trans (S3.trans (S4.trans S5)))⟩
  rw [i_add1]
  by_cases g : nx + 1 < 12
  · rw [if_pos (show Int32.ofNat (nx + 1) < 12 from (i_lt (b := 12) (by omega) (by decide)).mpr g), if_pos g]
    refine t_gE (x := Int32.ofNat nx) H3 16 rfl rfl ?_
    rw [i_add1]
    exact last _
  · rw [if_neg (show ¬ Int32.ofNat (nx + 1) < 12 from fun z => g ((i_lt (b := 12) (by omega) (by decide)).mp z)), if_neg g]
    exact last 0
/-- the slot of the latest -/
def hLat (nx : Nat) : Nat := if 0 < nx then nx - 1 else 11
theorem hE_back (hnx : nx < 12) (h1 : 1 ≤ ct) (hct : ct ≤ 12) (hl : hb.length = 12) (hl2 : hy.length = 12) (hjb : jOk nb (hb.getD (hLat nx) 0)) (hnb : nb ≤ 4) (h4 : ya.length = 4) (H : HpT (cE nb jo pa (vl, vr, rs, ya, sc) q cap T (nx, ct, hb, hy, hs)) F mem) : dOk (m_History_bringBack xm N 1016 1003 1001 mem) (rV fun m => HpT (cE nb jo pa ((hs (hLat nx)).1, (hs (hLat nx)).2.1, (hs (hLat nx)).2.2.1, yUp (hb.getD (hLat nx) 0) (hy.getD (hLat nx) 0) ya, (hs (hLat nx)).2.2.2.2) q cap T (hLat nx, ct - 1, hb, hy, hs)) F m ∧ St xm mem m 0 0) := by
  have hL : hLat nx < 12 := by unfold hLat; split <;> omega
  have main : dOk (m_History_bringBack_18 xm N 1016 1003 1001 (Int32.ofNat (hLat nx)) mem) (rV fun m => HpT (cE nb jo pa ((hs (hLat nx)).1, (hs (hLat nx)).2.1, (hs (hLat nx)).2.2.1, yUp (hb.getD (hLat nx) 0) (hy.getD (hLat nx) 0) ya, (hs (hLat nx)).2.2.2.2) q cap T (hLat nx, ct - 1, hb, hy, hs)) F m ∧ St xm mem m 0 0) := by
    generalize hLat nx = k at hL hjb
    have gx : kInB (Int32.ofNat k) kW12.length = true := i_inB (by rw [kW12_len]; exact hL) (by rw [kW12_len]; decide)
    have hq : kW12.getD (Int32.ofNat k).toNatClampNeg none = some (1020 + 7 * k) := by rw [i_nat (by omega)]; exact kW12_at hL
    have W : isWE (cE nb jo pa (vl, vr, rs, ya, sc) q cap T (nx, ct, hb, hy, hs)) (20 + 7 * k) (1020 + 7 * k) (hs k) := isWE_12 hL
    have V : isWE (cE nb jo pa (vl, vr, rs, ya, sc) q cap T (nx, ct, hb, hy, hs)) 3 1003 (vl, vr, rs, ya, sc) := isWE_now
    unfold m_History_bringBack_18
    refine t_gE (x := Int32.ofNat ct) H 16 rfl rfl ?_
    rw [if_neg (show ¬ Int32.ofNat ct < 1 from fun z => by have := (i_lt (b := 1) (by omega) (by decide)).mp z; omega)]
    refine t_rc H 16 rfl ?_
    refine ok_eI (hE_isSlot hl hl2 hL H) ?_
    rw [if_neg (by decide)]
    refine t_gR H 16 rfl rfl ?_
    refine t_alN H 17 rfl (by decide) gx hq ?_
    refine t_gR H 16 rfl rfl ?_
    refine t_aL H 17 rfl (by decide) gx hq ?_
    refine t_rc H 3 rfl ?_
    refine ok_cV (wE_copyFrom (i := 20 + 7 * k) (j := 3) (by omega) H V W) fun m1 h1 => ?_
    obtain ⟨H1, S1⟩ := h1
    rw [setW_now] at H1
    refine t_gR H1 16 rfl rfl ?_
    refine t_iLn H1 18 rfl (show k < hb.length by omega) (show hb.length < 2 ^ 31 by omega) ?_
    refine t_gR H1 16 rfl rfl ?_
    refine t_iLn H1 19 rfl (show k < hy.length by omega) (show hy.length < 2 ^ 31 by omega) ?_
    refine t_rc H1 1 rfl ?_
    refine ok_cV (bE_set (a := 1001) (b := 1002) (nb := nb) (jo := jo) (ya := ya) (j := 1) hjb hnb h4 H1 rfl rfl) fun m2 h2 => ?_
    obtain ⟨H2, S2⟩ := h2
    refine t_pE H2 16 rfl rfl rfl fun m3 H3 S3 => ?_
    have H3 : HpT (cE nb jo pa ((hs k).1, (hs k).2.1, (hs k).2.2.1, yUp (hb.getD k 0) (hy.getD k 0) ya, (hs k).2.2.2.2) q cap T (k, ct, hb, hy, hs)) F m3 := H3
    refine t_gE (x := Int32.ofNat ct) H3 16 rfl rfl ?_
    rw [i_sub1 h1]
    refine t_pE H3 16 rfl rfl rfl fun m4 H4 S4 => ?_
    exact ok_V ⟨H4, S1.trans (S2.trans (S3.trans S4))⟩
  unfold m_History_bringBack
  refine t_gE (x := Int32.ofNat nx) H 16 rfl rfl ?_
  by_cases g : 0 < nx
  · rw [if_pos (show (0 : Int32) < Int32.ofNat nx from (i_lt (a := 0) (by decide) (by omega)).mpr g)]
    refine t_gE (x := Int32.ofNat nx) H 16 rfl rfl ?_
    rw [i_sub1 (by omega)]
    have e : hLat nx = nx - 1 := if_pos g
    rw [e] at main
    rw [e]
    exact main
  · rw [if_neg (show ¬ (0 : Int32) < Int32.ofNat nx from fun z => g ((i_lt (a := 0) (by decide) (by omega)).mp z))]
    have e : hLat nx = 11 := if_neg g
    rw [e] at main
    rw [e]
    exact main
end EF
