/-! ===== what is asked, exactly: smooth loops, width ===== -/
/-- whether a loop is smooth, seen from this side -/
def zSm (f : kLf) (x : Int32) : Bool := if f.1 = 0 ∨ f.1 = 2 then (if x = f.2.2.2.2.1 then false else true) else (if x = f.2.2.2.2.1 then true else false)
def zDf (b : Nat → Bool) : Nat → Nat
  | 0 => 0
  | n + 1 => zDf b n + (if b (n + 1) = b n then 0 else 1)
def zLoop (lo : List kLf) (v : Int32) : kLf := lo.getD v.toNatClampNeg (0, 0, 0, 0, 0, 0)
def zB (lo : List kLf) (x : Int32) (vs : List Int32) (i : Nat) : Bool := zSm (zLoop lo (vs.getD i 0)) x
/-- a width, in eighths -/
def zWd (lo : List kLf) (x : Int32) (vs : List Int32) : Nat := 4 * vs.length - zDf (zB lo x vs) (vs.length - 1)
theorem zDf_le {b : Nat → Bool} : ∀ n, zDf b n ≤ n := by
  intro n
  induction n with
  | zero => exact Nat.le_refl _
  | succ n ih =>
    unfold zDf
    split <;> omega
theorem zWd_le {lo : List kLf} {x : Int32} {vs : List Int32} (h : vs.length ≤ 24) : zWd lo x vs ≤ 96 := by
  unfold zWd
  omega
theorem zLoop_at {lo : List kLf} {i : Nat} (hi : i < lo.length) (h : i < 2 ^ 31) : zLoop lo (Int32.ofNat i) = lo[i] := by
  unfold zLoop
  rw [i_nat h, List.getD_eq_getElem?_getD, List.getElem?_eq_getElem hi]
  rfl
theorem zSm_v {f : kLf} {x s : Int32} (h : s = if f.1 = 0 ∨ f.1 = 2 then 0 else 1) : (if s = (if x = f.2.2.2.2.1 then (1 : Int32) else 0) then (1 : Int32) else 0) = if zSm f x = true then 1 else 0 := by
  subst h
  unfold zSm
  by_cases g : f.1 = 0 ∨ f.1 = 2
  · by_cases g2 : x = f.2.2.2.2.1
    · simp only [if_pos g, if_pos g2]
      all_goals decide
    · simp only [if_pos g, if_neg g2]
      all_goals decide
  · by_cases g2 : x = f.2.2.2.2.1
    · simp only [if_neg g, if_pos g2]
      all_goals decide
    · simp only [if_neg g, if_neg g2]
      all_goals decide
theorem b_ne {a b : Bool} : ((if a = true then (1 : Int32) else 0) = (if b = true then 1 else 0)) ↔ a = b := by
  cases a <;> cases b <;> decide
theorem xor_par (a b : Int32) : ((a ^^^ b) &&& 1) = 0 ↔ (b &&& 1) = (a &&& 1) := by
  have e1 : (1 : Int32).toBitVec.toNat = 1 := rfl
  have e0 : (0 : Int32).toBitVec.toNat = 0 := rfl
  have ea : ∀ c : Int32, (c &&& 1).toBitVec.toNat = c.toBitVec.toNat % 2 := by
    intro c
    rw [Int32.toBitVec_and, BitVec.toNat_and, e1, Nat.and_one_is_mod]
  have ex : ((a ^^^ b) &&& 1).toBitVec.toNat = (a.toBitVec.toNat % 2) ^^^ (b.toBitVec.toNat % 2) := by
    rw [ea, Int32.toBitVec_xor, BitVec.toNat_xor]
    exact @Nat.xor_mod_two_pow a.toBitVec.toNat b.toBitVec.toNat 1
  have inj : ∀ c d : Int32, c.toBitVec.toNat = d.toBitVec.toNat → c = d := fun c d h => Int32.toBitVec_inj.mp (BitVec.eq_of_toNat_eq h)
  constructor
  · intro h
    apply inj
    rw [ea, ea]
    rw [h, e0] at ex
    rcases Nat.mod_two_eq_zero_or_one a.toBitVec.toNat with p | p <;> rcases Nat.mod_two_eq_zero_or_one b.toBitVec.toNat with r | r <;> rw [p, r] at ex <;> first | exact absurd ex (by decide) | rw [p, r]
  · intro h
    apply inj
    have h' := congrArg (fun c : Int32 => c.toBitVec.toNat) h
    rw [ea, ea] at h'
    rw [ex, h', Nat.xor_self]
    rfl
section GC
variable {xm : Nat → Option kE} {mem m0 : kM} {F X : kSg} {N k nb c0 s0 c1 s1 cap0 n M0 C S q cap i a j : Nat} {jo x y z t v : Int32} {lo : List kLf} {bo pa vl vr ya vs : List Int32} {ps : List aS} {rs : List (List Int32)} {sc : Nat → Int32} {st : aS} {T : Nat → Int32} {h : kHs} {sp : aR} {L B P Q : kLi} {s y0 : Nat} {l r u : kLi} {cs : List kCs} {c : kCs} {g : Nat → Int32} {sum : Int64}
theorem q_asMade (I : INV nb jo lo bo pa ps (vl, vr, rs, ya, sc) T h) (hlo : lo.length < 19998) (hi : i < lo.length) (h2 : cap ≤ 119988) (hz : ∀ i, cap ≤ i → i < 119988 → T i = 0) (H : HpT (cE nb jo pa (vl, vr, rs, ya, sc) q cap T h) F mem) : m_K_isAsMade xm N 1000 (Int32.ofNat i) mem = some (.inl (some (.int (if sc 4 = lo[i].2.2.2.2.1 then 1 else 0))), mem) := by
  obtain ⟨o1, -, -, -⟩ := I.2.2.2.1 _ (List.mem_append_right _ (List.mem_singleton.mpr rfl))
  dsimp only at o1
  obtain ⟨f0, f1, f2, f3, f4, f5⟩ := I.2.1 i lo[i] (List.getElem?_eq_getElem hi)
  have iff : ((lo[i].2.2.1 ^^^ sc 5) &&& 1) = 0 ↔ sc 4 = lo[i].2.2.2.2.1 := by
    rw [xor_par, o1, f5]
  refine ok_eq ?_
  unfold m_K_isAsMade
  refine t_gR H 0 rfl rfl ?_
  refine t_rc H 10 rfl ?_
  refine ok_eI (lE_get (r := i) (w := 2) h2 (by omega) (by decide) hz H) ?_
  rw [f2]
  refine t_gR H 0 rfl rfl ?_
  refine t_gE (x := sc 5) H 3 rfl rfl ?_
  by_cases e : sc 4 = lo[i].2.2.2.2.1
  · rw [if_pos (iff.mpr e), if_pos e]
    exact ok_me
  · rw [if_neg (fun z => e (iff.mp z)), if_neg e]
    exact ok_me
theorem q_smooth (I : INV nb jo lo bo pa ps (vl, vr, rs, ya, sc) T h) (hlo : lo.length < 19998) (hv : aId lo.length v) (h2 : cap ≤ 119988) (hz : ∀ i, cap ≤ i → i < 119988 → T i = 0) (H : HpT (cE nb jo pa (vl, vr, rs, ya, sc) q cap T h) F mem) : m_K_isSmooth xm N 1000 v mem = some (.inl (some (.int (if zSm (zLoop lo v) (sc 4) = true then 1 else 0))), mem) := by
  obtain ⟨i, rfl, hi⟩ := hv
  rw [zLoop_at hi (by omega)]
  obtain ⟨f0, -, -, -, -, -⟩ := I.2.1 i lo[i] (List.getElem?_eq_getElem hi)
  refine ok_eq ?_
  have last : ∀ s : Int32, (s = if lo[i].1 = 0 ∨ lo[i].1 = 2 then 0 else 1) → dOk (m_K_isSmooth_24 xm N 1000 (Int32.ofNat i) s mem) (fun w => w = (.inl (some (.int (if zSm lo[i] (sc 4) = true then 1 else 0))), mem)) := by
    intro s hs
    unfold m_K_isSmooth_24
    refine t_rc H 0 rfl ?_
    refine ok_eI (q_asMade I hlo hi h2 hz H) ?_
    rw [← zSm_v (x := sc 4) hs]
    refine ok_if (fun e => ?_) (fun e => ?_)
    · rw [if_pos e]
      exact ok_me
    · rw [if_neg e]
      exact ok_me
  unfold m_K_isSmooth m_K_isSmooth_23
  refine t_gR H 0 rfl rfl ?_
  refine t_rc H 10 rfl ?_
  refine ok_eI (lE_get (r := i) (w := 0) h2 (by omega) (by decide) hz H) ?_
  rw [f0]
  refine ok_if (fun e => last _ (if_pos (Or.inl e)).symm) (fun e => ?_)
  refine ok_if (fun e2 => last _ (if_pos (Or.inr e2)).symm) (fun e2 => last _ (if_neg (fun w => w.elim e e2)).symm)
theorem q_width12 (I : INV nb jo lo bo pa ps (vl, vr, rs, ya, sc) T h) (hlo : lo.length < 19998) (h2 : cap ≤ 119988) (hz : ∀ i, cap ≤ i → i < 119988 → T i = 0) (H : HpT (cE nb jo pa (vl, vr, rs, ya, sc) q cap T h) F mem) (hj : (cE nb jo pa (vl, vr, rs, ya, sc) q cap T h)[j]? = some (a, nE (a + 1) vs.length)) (hb : (cE nb jo pa (vl, vr, rs, ya, sc) q cap T h)[j + 1]? = some (a + 1, cPf 24 vs)) (h24 : vs.length ≤ 24) (hid : ∀ v ∈ vs, aId lo.length v) : ∀ (k d f z : Nat), vs.length ≤ d + k → 1 ≤ d → d ≤ 25 → k < f → z ≤ 96 → zDf (zB lo (sc 4) vs) (vs.length - d) ≤ z → m_K_widthOf_12 xm N f 1000 a (wf z) (Int32.ofNat d) mem = some (.inl (some (.float (wf (z - zDf (zB lo (sc 4) vs) (vs.length - d))))), mem) := by
  intro k
  induction k with
  | zero =>
    intro d f z hd h1 h25 hf hz96 hle
    obtain ⟨f, rfl⟩ : ∃ f', f = f' + 1 := ⟨f - 1, by omega⟩
    refine ok_eq ?_
    rw [m_K_widthOf_12]
    refine t_gE H j hj rfl ?_
    rw [if_neg (fun z => by have := (i_lt (by omega) (by omega)).mp z; omega), show vs.length - d = 0 by omega]
    exact ok_me
  | succ k ih =>
    intro d f z hd h1 h25 hf hz96 hle
    obtain ⟨f, rfl⟩ : ∃ f', f = f' + 1 := ⟨f - 1, by omega⟩
    refine ok_eq ?_
    rw [m_K_widthOf_12]
    refine t_gE H j hj rfl ?_
    by_cases gd : d < vs.length
    · rw [if_pos ((i_lt (by omega) (by omega)).mpr gd)]
      have e0 : vs.length - d = (vs.length - (d + 1)) + 1 := by omega
      have ed : zDf (zB lo (sc 4) vs) (vs.length - d) = zDf (zB lo (sc 4) vs) (vs.length - (d + 1)) + (if zB lo (sc 4) vs (vs.length - (d + 1) + 1) = zB lo (sc 4) vs (vs.length - (d + 1)) then 0 else 1) := by
        rw [e0]
        rfl
      have n1 : nAt vs (d - 1) = vs.getD (vs.length - (d + 1) + 1) 0 := by
        unfold nAt
        rw [if_pos (by omega), show vs.length - 1 - (d - 1) = vs.length - (d + 1) + 1 by omega]
      have n2 : nAt vs d = vs.getD (vs.length - (d + 1)) 0 := by
        unfold nAt
        rw [if_pos gd, show vs.length - 1 - d = vs.length - (d + 1) by omega]
      have m1 : vs.getD (vs.length - (d + 1) + 1) 0 ∈ vs := by
        rw [List.getD_eq_getElem?_getD, List.getElem?_eq_getElem (by omega)]
        exact List.getElem_mem _
      have m2 : vs.getD (vs.length - (d + 1)) 0 ∈ vs := by
        rw [List.getD_eq_getElem?_getD, List.getElem?_eq_getElem (by omega)]
        exact List.getElem_mem _
      refine t_rc H j hj ?_
      rw [i_sub1 h1]
      refine ok_eI (nE_at (p := d - 1) (by omega) h24 H hj hb) ?_
      refine t_rc H 0 rfl ?_
      rw [n1]
      refine ok_eI (q_smooth I hlo (hid _ m1) h2 hz H) ?_
      refine t_rc H j hj ?_
      refine ok_eI (nE_at (p := d) (by omega) h24 H hj hb) ?_
      refine t_rc H 0 rfl ?_
      rw [n2]
      refine ok_eI (q_smooth I hlo (hid _ m2) h2 hz H) ?_
      unfold m_K_widthOf_49
      rw [i_add1]
      by_cases gb : zB lo (sc 4) vs (vs.length - (d + 1) + 1) = zB lo (sc 4) vs (vs.length - (d + 1))
      · rw [if_pos gb, Nat.add_zero] at ed
        refine ok_if (fun _ => ?_) (fun w => absurd (b_ne.mpr gb) w)
        rw [ed]
        exact ⟨_, ih (d + 1) f z (by omega) (by omega) (by omega) (by omega) hz96 (by omega), rfl⟩
      · rw [if_neg gb] at ed
        refine ok_if (fun w => absurd (b_ne.mp w) gb) (fun _ => ?_)
        obtain ⟨y, rfl⟩ : ∃ y, z = y + 1 := ⟨z - 1, by omega⟩
        rw [wf_sub (by omega)]
        unfold dF32
        rw [if_pos (wf_ok (z := y) (by omega)).1]
        rw [show y + 1 - zDf (zB lo (sc 4) vs) (vs.length - d) = y - zDf (zB lo (sc 4) vs) (vs.length - (d + 1)) by omega]
        exact ⟨_, ih (d + 1) f y (by omega) (by omega) (by omega) (by omega) (by omega) (by omega), rfl⟩
    · rw [if_neg (fun z => by have := (i_lt (by omega) (by omega)).mp z; omega), show vs.length - d = 0 by omega]
      exact ok_me
theorem q_widthOf (hN : 26 ≤ N) (I : INV nb jo lo bo pa ps (vl, vr, rs, ya, sc) T h) (hlo : lo.length < 19998) (h2 : cap ≤ 119988) (hz : ∀ i, cap ≤ i → i < 119988 → T i = 0) (H : HpT (cE nb jo pa (vl, vr, rs, ya, sc) q cap T h) F mem) (hj : (cE nb jo pa (vl, vr, rs, ya, sc) q cap T h)[j]? = some (a, nE (a + 1) vs.length)) (hb : (cE nb jo pa (vl, vr, rs, ya, sc) q cap T h)[j + 1]? = some (a + 1, cPf 24 vs)) (h24 : vs.length ≤ 24) (hid : ∀ v ∈ vs, aId lo.length v) : m_K_widthOf xm N 1000 a mem = some (.inl (some (.float (wf (zWd lo (sc 4) vs)))), mem) := by
  refine ok_eq ?_
  unfold m_K_widthOf
  refine t_gE H j hj rfl ?_
  rw [wf_half h24]
  unfold dF32
  rw [if_pos (wf_ok (z := 4 * vs.length) (by omega)).1]
  have hle := zDf_le (b := zB lo (sc 4) vs) (vs.length - 1)
  have e := q_width12 (xm := xm) (N := N) I hlo h2 hz H hj hb h24 hid 24 1 N (4 * vs.length) (by omega) (by omega) (by omega) (by omega) (by omega) (by omega)
  exact ⟨_, e, rfl⟩
theorem q_width (hN : 120 ≤ N) (hlo : lo.length ≤ 12300) (D : KS xm nb jo lo bo pa ps (vl, vr, rs, ya, sc) F 0 0 m0 cap0 mem) : dOk (m_K_width xm N 1000 x mem) (rD fun v m => v = FP.f2d (wf (zWd lo (sc 4) (if x = 0 then vl else vr))) ∧ KC xm (nb, jo, lo, bo, pa, ps, (vl, vr, rs, ya, sc)) F 0 0 m0 cap0 m) := by
  have D0 := D
  obtain ⟨T, h, I, D⟩ := D
  have hl : vl.length ≤ 24 := I.sw.1
  have hr : vr.length ≤ 24 := I.sw.2.1
  have il := I.1.2.1.2.2.1
  have ir := I.1.2.1.2.2.2.1
  dsimp only at il ir
  unfold m_K_width
  refine x_rc D 0 (fun _ _ => ⟨_, rfl⟩) ?_
  refine ok_eR (q_needle D) ?_
  refine x_rc D 0 (fun _ _ => ⟨_, rfl⟩) ?_
  obtain ⟨q, cap, c, s, k1, k2, ⟨hz, H⟩, -⟩ := D
  by_cases g : x = 0
  · rw [if_pos g, if_pos g]
    refine ok_eF (q_widthOf (a := 1004) (j := 4) (by omega) I (by omega) k2 hz H rfl rfl hl il) ?_
    unfold dF64
    rw [if_pos (wf_ok (zWd_le hl)).2.1]
    exact ok_D ⟨rfl, D0⟩
  · rw [if_neg g, if_neg g]
    refine ok_eF (q_widthOf (a := 1006) (j := 6) (by omega) I (by omega) k2 hz H rfl rfl hr ir) ?_
    unfold dF64
    rw [if_pos (wf_ok (zWd_le hr)).2.1]
    exact ok_D ⟨rfl, D0⟩
/-! the reference -/
theorem ml_smoothE {e : Nat} {f : kLf} (he : kLo xm mem e f) : m_ML_isSmooth xm N e x mem = some (.inl (some (.int (if zSm f x = true then 1 else 0))), mem) := by
  have h33 : ∀ a b : Int32, m_ML_isSmooth_33 xm N a b mem = some (.inl (some (.int (if a = b then 1 else 0))), mem) := by
    intro a b
    unfold m_ML_isSmooth_33
    by_cases e : a = b
    · rw [if_pos e, if_pos e]
    · rw [if_neg e, if_neg e]
  have h20 : ∀ s : Int32, (s = if f.1 = 0 ∨ f.1 = 2 then 0 else 1) → dOk (m_ML_isSmooth_20 xm N e x s mem) (fun w => w = (.inl (some (.int (if zSm f x = true then 1 else 0))), mem)) := by
    intro s hs
    unfold m_ML_isSmooth_20
    refine ok_gI he rfl ?_
    rw [← zSm_v (x := x) hs]
    refine ok_if (fun e => ?_) (fun e => ?_)
    · rw [h33, if_pos e]
      exact ok_me
    · rw [h33, if_neg e]
      exact ok_me
  refine ok_eq ?_
  unfold m_ML_isSmooth m_ML_isSmooth_19
  refine ok_gI he rfl ?_
  refine ok_if (fun e => h20 _ (if_pos (Or.inr e)).symm) (fun e => ?_)
  refine ok_gI he rfl ?_
  exact ok_if (fun e2 => h20 _ (if_pos (Or.inl e2)).symm) (fun e2 => h20 _ (if_neg (fun w => w.elim e2 e)).symm)
theorem c_loopOfE {i a q cap j : Nat} {mc : Int32} {es : List Nat} {vs : List Int32} {K : Nat → kM → dRes} {T : kO × kM → Prop} (hX : kXok xm) (V : WC xm M0 L B P Q (s, l, r, u, y0) cs g sum lo bo pa ps (vl, vr, rs, ya, sc) F mem) (hs : (wSg M0 L B P Q (s, l, r, u, y0) cs g sum ps (vl, vr, rs, ya, sc) F)[i]? = some (sAL a q mc cap es)) (hw : sWf q cap es) (hv : IVs xm mem es vs) (hid : ∀ v ∈ vs, aId lo.length v) (hlo : lo.length < 2 ^ 31) (hj : j < es.length) (h : ∀ e, kLo xm mem e (zLoop lo (vs.getD j 0)) → dOk (K e mem) T) : dOk (dRc xm mem a 4 <| dCR (m_AL_get xm N a (Int32.ofNat j) mem) fun v41 m41 => dCC xm m41 v41 0 2 <| dRc xm m41 v41 2 <| dCI (m_Int_intValue xm N v41 m41) fun v47 m47 => dRc xm m47 (M0 + 1) 4 <| dCR (m_AL_get xm N (M0 + 1) v47 m47) fun v50 m50 => dCC xm m50 v50 0 13 <| K v50 m50) T := by
  have hl := hv.1
  refine ok_rc (ls_hd V.1 i hs) ?_
  refine ok_eR (ls_get (j := j) hX hw V.1 i hs hj) ?_
  have hk : kIv xm mem es[j] (vs[j]'(by omega)) := hv.at hj (by omega)
  refine ok_ccO hk ?_
  refine ok_rc hk ?_
  refine ok_eI (int_val hk) ?_
  obtain ⟨id, hid1, hid2⟩ := hid _ (List.getElem_mem (show j < vs.length by omega))
  have ez : zLoop lo (vs.getD j 0) = lo[id] := by
    rw [List.getD_eq_getElem?_getD, List.getElem?_eq_getElem (show j < vs.length by omega)]
    show zLoop lo vs[j] = _
    rw [hid1]
    exact zLoop_at hid2 (by omega)
  rw [hid1]
  refine w_loop hX V.wr hid2 fun e he => ?_
  exact ok_ccO he (h e (by rw [ez]; exact he))
theorem width_loopE {a q cap i : Nat} {mc : Int32} {es : List Nat} {vs : List Int32} (hX : kXok xm) (V : WC xm M0 L B P Q (s, l, r, u, y0) cs g sum lo bo pa ps (vl, vr, rs, ya, sc) F mem) (hs : (wSg M0 L B P Q (s, l, r, u, y0) cs g sum ps (vl, vr, rs, ya, sc) F)[i]? = some (sAL a q mc cap es)) (hw : sWf q cap es) (hv : IVs xm mem es vs) (hid : ∀ v ∈ vs, aId lo.length v) (hlo : lo.length < 2 ^ 31) (h24 : es.length ≤ 24) : ∀ (j d f : Nat), vs.length + 2 ≤ d + j → 1 ≤ d → d ≤ max 1 vs.length → j < f → m_M_widthNow_16 xm N f M0 a (Int32.ofNat (4 * vs.length - zDf (zB lo (sc 4) vs) (d - 1))) (Int32.ofNat d) mem = some (.inl (some (.int (Int32.ofNat (zWd lo (sc 4) vs)))), mem) := by
  intro j
  have hl := hv.1
  induction j with
  | zero =>
    intro d f h1 h2 h2' h3
    omega
  | succ j ih =>
    intro d f h1 h2 h2' h3
    obtain ⟨f, rfl⟩ : ∃ f', f = f' + 1 := ⟨f - 1, by omega⟩
    refine ok_eq ?_
    rw [m_M_widthNow_16]
    refine ok_rc (ls_hd V.1 i hs) ?_
    refine ok_eI (ls_size V.1 i hs) ?_
    by_cases hd : d < es.length
    · rw [if_pos ((i_lt (by omega) (by omega)).mpr hd)]
      refine w_gL V.wr ?_
      refine c_loopOfE hX V hs hw hv hid hlo hd fun e he => ?_
      refine ok_gR (V.1.look 0 0 rfl rfl) rfl ?_
      refine ok_gI (V.1.look 5 0 rfl rfl) rfl ?_
      refine ok_rc he ?_
      refine ok_eI (ml_smoothE he) ?_
      refine w_gL V.wr ?_
      rw [i_sub1 h2]
      refine c_loopOfE hX V hs hw hv hid hlo (show d - 1 < es.length by omega) fun e2 he2 => ?_
      refine ok_gR (V.1.look 0 0 rfl rfl) rfl ?_
      refine ok_gI (V.1.look 5 0 rfl rfl) rfl ?_
      refine ok_rc he2 ?_
      refine ok_eI (ml_smoothE he2) ?_
      have ed : zDf (zB lo (sc 4) vs) d = zDf (zB lo (sc 4) vs) (d - 1) + (if zB lo (sc 4) vs d = zB lo (sc 4) vs (d - 1) then 0 else 1) := by
        obtain ⟨d', rfl⟩ : ∃ d', d = d' + 1 := ⟨d - 1, by omega⟩
        rfl
      have hdl := zDf_le (b := zB lo (sc 4) vs) (d - 1)
      unfold m_M_widthNow_100
      rw [i_add1]
      have next := ih (d + 1) f (by omega) (by omega) (by omega) (by omega)
      rw [Nat.add_sub_cancel] at next
      by_cases gb : zB lo (sc 4) vs d = zB lo (sc 4) vs (d - 1)
      · rw [if_pos gb] at ed
        rw [ed, Nat.add_zero] at next
        refine ok_if (fun _ => ?_) (fun w => absurd (b_ne.mpr gb) w)
        rw [Int32.sub_zero]
        exact ⟨_, next, rfl⟩
      · rw [if_neg gb] at ed
        rw [ed] at next
        refine ok_if (fun w => absurd (b_ne.mp w) gb) (fun _ => ?_)
        rw [i_sub1 (by omega), show 4 * vs.length - zDf (zB lo (sc 4) vs) (d - 1) - 1 = 4 * vs.length - (zDf (zB lo (sc 4) vs) (d - 1) + 1) by omega]
        exact ⟨_, next, rfl⟩
    · rw [if_neg (fun w => by have := (i_lt (by omega) (by omega)).mp w; omega)]
      unfold zWd
      rw [show d - 1 = vs.length - 1 by omega]
      exact ok_me
theorem m_widthNowE (hX : kXok xm) (hN : 60 ≤ N) (V : WC xm M0 L B P Q (s, l, r, u, y0) cs g sum lo bo pa ps (vl, vr, rs, ya, sc) F mem) (hi : aInv nb g lo bo pa ps (vl, vr, rs, ya, sc)) (hlo : lo.length < 2 ^ 31) : m_M_widthNow xm N M0 x mem = some (.inl (some (.int (Int32.ofNat (zWd lo (sc 4) (if x = 0 then vl else vr))))), mem) := by
  obtain ⟨i, a, q, cap, mc, es, vs, ha, hs, hw, hv, hvs⟩ := c_nd V x
  have h24 : es.length ≤ 24 := by
    rw [hv.1, hvs]
    split
    · exact hi.sw.1
    · exact hi.sw.2.1
  have hid : ∀ v ∈ vs, aId lo.length v := by
    rw [hvs]
    split
    · exact hi.2.1.2.2.1
    · exact hi.2.1.2.2.2.1
  have hl := hv.1
  have key := width_loopE (N := N) hX V hs hw hv hid hlo h24 (vs.length + 1) 1 N (by omega) (by decide) (by omega) (by omega)
  rw [show zDf (zB lo (sc 4) vs) (1 - 1) = 0 from rfl, Nat.sub_zero] at key
  rw [← hvs]
  refine ok_eq ?_
  unfold m_M_widthNow
  refine w_rc V.wr ?_
  refine ok_eR (m_needle V) ?_
  rw [ha]
  refine ok_rc (ls_hd V.1 i hs) ?_
  refine ok_eI (ls_size V.1 i hs) ?_
  have e4 : (4 : Int32) * Int32.ofNat es.length = Int32.ofNat (4 * es.length) := i_mul (a := 4)
  rw [e4, hl, show m_M_widthNow_16 xm N N M0 a (Int32.ofNat (4 * vs.length)) 1 mem = _ from key]
  exact ok_me
theorem v_width (hX : kXok xm) (hN : 60 ≤ N) (hk : k < 512) (I : RJ xm M0 t (nb, jo, lo, bo, pa, ps, (vl, vr, rs, ya, sc)) k C S F mem) (x : Int32) : dOk (m_M_width xm N M0 x mem) (rD fun v m => v = FP.ddiv (FP.i2d (Int32.ofNat (zWd lo (sc 4) (if x = 0 then vl else vr)))) 4620693217682128896 ∧ ∃ t', RJ xm M0 t' (nb, jo, lo, bo, pa, ps, (vl, vr, rs, ya, sc)) (k + 1) (C + 0) (S + 0) F m) := by
  unfold m_M_width
  obtain ⟨g, sum, ck, W, hi, ⟨-, h7⟩, hl, hb, h1, h2⟩ := I
  dsimp only at W hi h7 hl hb
  obtain ⟨L, B, P, Q, ⟨s, l, r, u, y⟩, cs, H, R, hck, hx⟩ := W
  subst hck
  refine os_p H 0 0 rfl rfl rfl rfl fun m H1 S1 => ?_
  have V : WC xm M0 L B P Q (s, l, r, u, y) cs (kUp g 0 0) sum lo bo pa ps (vl, vr, rs, ya, sc) F m := ⟨H1, R.st S1, hx⟩
  have hi' : aInv nb (kUp g 0 0) lo bo pa ps (vl, vr, rs, ya, sc) := hi
  refine w_rc V.wr ?_
  refine ok_eI (m_widthNowE hX hN V hi' (by omega)) ?_
  have h24 : (if x = 0 then vl else vr).length ≤ 24 := by
    split
    · exact hi.sw.1
    · exact hi.sw.2.1
  unfold dF64
  rw [if_pos (width_fp _ (zWd_le h24))]
  refine ok_D ⟨rfl, 0, RJ.mk' h1 h2 V.wr hi' ⟨rfl, h7⟩ (by omega) (by omega) (Nat.le_refl _) (S1.mono (by omega) (by omega))⟩
end GC
