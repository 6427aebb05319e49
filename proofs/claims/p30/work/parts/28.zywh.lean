/-! ===== what is asked, exactly: smooth loops, width ===== -/
/-- whether a loop is smooth, seen from this side -/
def zSm (f : kLf) (x : Int32) : Bool := if f.1 = 0 ∨ f.1 = 2 then (if x = f.2.2.2.2.1 then false else true) else (if x = f.2.2.2.2.1 then true else false)
def zDf (b : Nat → Bool) : Nat → Nat
  | 0 => 0
  | n + 1 => zDf b n + (if b (n + 1) = b n then 0 else 1)
def zLoop (lo : List kLf) (v : Int32) : kLf := lo.getD v.toNatClampNeg (0, 0, 0, 0, 0, 0)
def zB (lo : List kLf) (x : Int32) (vs : List Int32) (i : Nat) : Bool := zSm (zLoop lo (vs.getD i 0)) x
/-- a width, in eighths -/
def zWd (lo : List kLf) (x : Int32) (vs : List Int32) : Nat := 4 * vs.length - zDf (zB lo x vs) (vs.length - 1)
theorem zDf_le {b : Nat → Bool} : ∀ n, zDf b n ≤ n := by
  intro n
  induction n with
  | zero => exact Nat.le_refl _
  | succ n ih =>
    unfold zDf
    split <;> omega
theorem zWd_le {lo : List kLf} {x : Int32} {vs : List Int32} (h : vs.length ≤ 24) : zWd lo x vs ≤ 96 := by
  unfold zWd
  omega
theorem zLoop_at {lo : List kLf} {i : Nat} (hi : i < lo.length) (h : i < 2 ^ 31) : zLoop lo (Int32.ofNat i) = lo[i] := by
  unfold zLoop
  rw [i_nat h, List.getD_eq_getElem?_getD, List.getElem?_eq_getElem hi]
  rfl
theorem zSm_v {f : kLf} {x s : Int32} (h : s = if f.1 = 0 ∨ f.1 = 2 then 0 else 1) : (if s = (if x = f.2.2.2.2.1 then (1 : Int32) else 0) then (1 : Int32) else 0) = if zSm f x = true then 1 else 0 := by
  subst h
  unfold zSm
  by_cases g : f.1 = 0 ∨ f.1 = 2
  · by_cases g2 : x = f.2.2.2.2.1
    · simp only [if_pos g, if_pos g2]
      all_goals decide
    · simp only [if_pos g, if_neg g2]
      all_goals decide
  · by_cases g2 : x = f.2.2.2.2.1
    · simp only [if_neg g, if_pos g2]
      all_goals decide
    · simp only [if_neg g, if_neg g2]
      all_goals decide
theorem b_ne {a b : Bool} : ((if a = true then (1 : Int32) else 0) = (if b = true then 1 else 0)) ↔ a = b := by
  cases a <;> cases b <;> decide
theorem xor_par (a b : Int32) : ((a ^^^ b) &&& 1) = 0 ↔ (b &&& 1) = (a &&& 1) := by
  have e1 : (1 : Int32).toBitVec.toNat = 1 := rfl
  have e0 : (0 : Int32).toBitVec.toNat = 0 := rfl
  have ea : ∀ c : Int32, (c &&& 1).toBitVec.toNat = c.toBitVec.toNat % 2 := by
    intro c
    rw [Int32.toBitVec_and, BitVec.toNat_and, e1, Nat.and_one_is_mod]
  have ex : ((a ^^^ b) &&& 1).toBitVec.toNat = (a.toBitVec.toNat % 2) ^^^ (b.toBitVec.toNat % 2) := by
    rw [ea, Int32.toBitVec_xor, BitVec.toNat_xor]
    exact @Nat.xor_mod_two_pow a.toBitVec.toNat b.toBitVec.toNat 1
  have inj : ∀ c d : Int32, c.toBitVec.toNat = d.toBitVec.toNat → c = d := fun c d h => Int32.toBitVec_inj.mp (BitVec.eq_of_toNat_eq h)
  constructor
  · intro h
    apply inj
    rw [ea, ea]
    rw [h, e0] at ex
    rcases Nat.mod_two_eq_zero_or_one a.toBitVec.toNat with p | p <;> rcases Nat.mod_two_eq_zero_or_one b.toBitVec.toNat with r | r <;> rw [p, r] at ex <;> first | exact absurd ex (by decide) | rw [p, r]
  · intro h
    apply inj
    have h' := congrArg (fun c : Int32 => c.toBitVec.toNat) h
    rw [ea, ea] at h'
    rw [ex, h', Nat.xor_self]
    rfl
section GC
variable {xm : Nat → Option kE} {mem m0 : kM} {F X : kSg} {N k nb c0 s0 c1 s1 cap0 n M0 C S q cap i a j : Nat} {jo x y z t v : Int32} {lo : List kLf} {bo pa vl vr ya vs : List Int32} {ps : List aS} {rs : List (List Int32)} {sc : Nat → Int32} {st : aS} {T : Nat → Int32} {h : kHs} {sp : aR} {L B P Q : kLi} {s y0 : Nat} {l r u : kLi} {cs : List kCs} {c : kCs} {g : Nat → Int32} {sum : Int64}
theorem q_asMade (I : INV nb jo lo bo pa ps (vl, vr, rs, ya, sc) T h) (hlo : lo.length < 19998) (hi : i < lo.length) (h2 : cap ≤ 119988) (hz : ∀ i, cap ≤ i → i < 119988 → T i = 0) (H : HpT (cE nb jo pa (vl, vr, rs, ya, sc) q cap T h) F mem) : m_K_isAsMade xm N 1000 (Int32.ofNat i) mem = some (.inl (some (.int (if sc 4 = lo[i].2.2.2.2.1 then 1 else 0))), mem) := by
  obtain ⟨o1, -, -, -⟩ := I.2.2.2.1 _ (List.mem_append_right _ (List.mem_singleton.mpr rfl))
  dsimp only at o1
  obtain ⟨f0, f1, f2, f3, f4, f5⟩ := I.2.1 i lo[i] (List.getElem?_eq_getElem hi)
  have iff : ((lo[i].2.2.1 ^^^ sc 5) &&& 1) = 0 ↔ sc 4 = lo[i].2.2.2.2.1 := by
    rw [xor_par, o1, f5]
  refine ok_eq ?_
  unfold m_K_isAsMade
  refine t_gR H 0 rfl rfl ?_
  refine t_rc H 10 rfl ?_
  refine ok_eI (lE_get (r := i) (w := 2) h2 (by omega) (by decide) hz H) ?_
  rw [f2]
  refine t_gR H 0 rfl rfl ?_
  refine t_gE (x := sc 5) H 3 rfl rfl ?_
  by_cases e : sc 4 = lo[i].2.2.2.2.1
  · rw [if_pos (iff.mpr e), if_pos e]
    exact ok_me
  · rw [if_neg (fun z => e (iff.mp z)), if_neg e]
    exact ok_me
theorem q_smooth (I : INV nb jo lo bo pa ps (vl, vr, rs, ya, sc) T h) (hlo : lo.length < 19998) (hv : aId lo.length v) (h2 : cap ≤ 119988) (hz : ∀ i, cap ≤ i → i < 119988 → T i = 0) (H : HpT (cE nb jo pa (vl, vr, rs, ya, sc) q cap T h) F mem) : m_K_isSmooth xm N 1000 v mem = some (.inl (some (.int (if zSm (zLoop lo v) (sc 4) = true then 1 else 0))), mem) := by
  obtain ⟨i, rfl, hi⟩ := hv
  rw [zLoop_at hi (by omega)]
  obtain ⟨f0, -, -, -, -, -⟩ := I.2.1 i lo[i] (List.getElem?_eq_getElem hi)
  refine ok_eq ?_
  have last : ∀ s : Int32, (s = if lo[i].1 = 0 ∨ lo[i].1 = 2 then 0 else 1) → dOk (m_K_isSmooth_24 xm N 1000 (Int32.ofNat i) s mem) (fun w => w = (.inl (some (.int (if zSm lo[i] (sc 4) = true then 1 else 0))), mem)) := by
    intro s hs
    unfold m_K_isSmooth_24
    refine t_rc H 0 rfl ?_
    refine ok_eI (q_asMade I hlo hi h2 hz H) ?_
    rw [← zSm_v (x := sc 4) hs]
    refine ok_if (fun e => ?_) (fun e => ?_)
    · rw [if_pos e]
      exact ok_me
    · rw [if_neg e]
      exact ok_me
  unfold m_K_isSmooth m_K_isSmooth_23
  refine t_gR H 0 rfl rfl ?_
  refine t_rc H 10 rfl ?_
  refine ok_eI (lE_get (r := i) (w := 0) h2 (by omega) (by decide) hz H) ?_
  rw [f0]
  refine ok_if (fun e => last _ (if_pos (Or.inl e)).symm) (fun e => ?_)
  refine ok_if (fun e2 => last _ (if_pos (Or.inr e2)).symm) (fun e2 => last _ (if_neg (fun w => w.elim e e2)).symm)
theorem q_width12 (I : INV nb jo lo bo pa ps (vl, vr, rs, ya, sc) T h) (hlo : lo.length < 19998) (h2 : cap ≤ 119988) (hz : ∀ i, cap ≤ i → i < 119988 → T i = 0) (H : HpT (cE nb jo pa (vl, vr, rs, ya, sc) q cap T h) F mem) (hj : (cE nb jo pa (vl, vr, rs, ya, sc) q cap T h)[j]? = some (a, nE (a + 1) vs.length)) (hb : (cE nb jo pa (vl, vr, rs, ya, sc) q cap T h)[j + 1]? = some (a + 1, cPf 24 vs)) (h24 : vs.length ≤ 24) (hid : ∀ v ∈ vs, aId lo.length v) : ∀ (k d f z : Nat), vs.length ≤ d + k → 1 ≤ d → d ≤ 25 → k < f → z ≤ 96 → zDf (zB lo (sc 4) vs) (vs.length - d) ≤ z → m_K_widthOf_12 xm N f 1000 a (wf z) (Int32.ofNat d) mem = some (.inl (some (.float (wf (z - zDf (zB lo (sc 4) vs) (vs.length - d))))), mem) := by
  intro k
  induction k with
  | zero =>
    intro d f z hd h1 h25 hf hz96 hle
    obtain ⟨f, rfl⟩ : ∃ f', f = f' + 1 := ⟨f - 1, by omega⟩
    refine ok_eq ?_
    rw [m_K_widthOf_12]
    refine t_gE H j hj rfl ?_
    rw [if_neg (fun z => by have := (i_lt (by omega) (by omega)).mp z; omega), show vs.length - d = 0 by omega]
    exact ok_me
  | succ k ih =>
    intro d f z hd h1 h25 hf hz96 hle
    obtain ⟨f, rfl⟩ : ∃ f', f = f' + 1 := ⟨f - 1, by omega⟩
    refine ok_eq ?_
    rw [m_K_widthOf_12]
    refine t_gE H j hj rfl ?_
    by_cases gd : d < vs.length
    · rw [if_pos ((i_lt (by omega) (by omega)).mpr gd)]
      have e0 : vs.length - d = (vs.length - (d + 1)) + 1 := by omega
      have ed : zDf (zB lo (sc 4) vs) (vs.length - d) = zDf (zB lo (sc 4) vs) (vs.length - (d + 1)) + (if zB lo (sc 4) vs (vs.length - (d + 1) + 1) = zB lo (sc 4) vs (vs.length - (d + 1)) then 0 else 1) := by
        rw [e0]
        rfl
      have n1 : nAt vs (d - 1) = vs.getD (vs.length - (d + 1) + 1) 0 := by
        unfold nAt
        rw [if_pos (by omega), show vs.length - 1 - (d - 1) = vs.length - (d + 1) + 1 by omega]
      have n2 : nAt vs d = vs.getD (vs.length - (d + 1)) 0 := by
        unfold nAt
        rw [if_pos gd, show vs.length - 1 - d = vs.length - (d + 1) by omega]
      have m1 : vs.getD (vs.length - (d + 1) + 1) 0 ∈ vs := by
        rw [List.getD_eq_getElem?_getD, List.getElem?_eq_getElem (by omega)]
        exact List.getElem_mem _
      have m2 : vs.getD (vs.length - (d + 1)) 0 ∈ vs := by
        rw [List.getD_eq_getElem?_getD, List.getElem?_eq_getElem (by omega)]
        exact List.getElem_mem _
      refine t_rc H j hj ?_
      rw [i_sub1 h1]
      refine ok_eI (nE_at (p := d - 1) (by omega) h24 H hj hb) ?_
      refine t_rc H 0 rfl ?_
      rw [n1]
      refine ok_eI (q_smooth I hlo (hid _ m1) h2 hz H) ?_
      refine t_rc H j hj ?_
      refine ok_eI (nE_at (p := d) (by omega) h24 H hj hb) ?_
      refine t_rc H 0 rfl ?_
      rw [n2]
      refine ok_eI (q_smooth I hlo (hid _ m2) h2 hz H) ?_
      unfold m_K_widthOf_49
      rw [i_add1]
      by_cases gb : zB lo (sc 4) vs (vs.length - (d + 1) + 1) = zB lo (sc 4) vs (vs.length - (d + 1))
      · rw [if_pos gb, Nat.add_zero] at ed
        refine ok_if (fun _ => ?_) (fun w => absurd (b_ne.mpr gb) w)
        rw [ed]
        exact ⟨_, ih (d + 1) f z (by omega) (by omega) (by omega) (by omega) hz96 (by omega), rfl⟩
      · rw [if_neg gb] at ed
        refine ok_if (fun w => absurd (b_ne.mp w) gb) (fun _ => ?_)
        obtain ⟨y, rfl⟩ : ∃ y, z = y + 1 := ⟨z - 1, by omega⟩
        rw [wf_sub (by omega)]
        unfold dF32
        rw [if_pos (wf_ok (z := y) (by omega)).1]
        rw [show y + 1 - zDf (zB lo (sc 4) vs) (vs.length - d) = y - zDf (zB lo (sc 4) vs) (vs.length - (d + 1)) by omega]
        exact ⟨_, ih (d + 1) f y (by omega) (by omega) (by omega) (by omega) (by omega) (by omega), rfl⟩
    · rw [if_neg (fun z => by have := (i_lt (by omega) (by omega)).mp z; omega), show vs.length - d = 0 by omega]
      exact ok_me
theorem q_widthOf (hN : 26 ≤ N) (I : INV nb jo lo bo pa ps (vl, vr, rs, ya, sc) T h) (hlo : lo.length < 19998) (h2 : cap ≤ 119988) (hz : ∀ i, cap ≤ i → i < 119988 → T i = 0) (H : HpT (cE nb jo pa (vl, vr, rs, ya, sc) q cap T h) F mem) (hj : (cE nb jo pa (vl, vr, rs, ya, sc) q cap T h)[j]? = some (a, nE (a + 1) vs.length)) (hb : (cE nb jo pa (vl, vr, rs, ya, sc) q cap T h)[j + 1]? = some (a + 1, cPf 24 vs)) (h24 : vs.length ≤ 24) (hid : ∀ v ∈ vs, aId lo.length v) : m_K_widthOf xm N 1000 a mem = some (.inl (some (.float (wf (zWd lo (sc 4) vs)))), mem) := by
  refine ok_eq ?_
  unfold m_K_widthOf
  refine t_gE H j hj rfl ?_
  rw [wf_half h24]
  unfold dF32
  rw [if_pos (wf_ok (z := 4 * vs.length) (by omega)).1]
  have hle := zDf_le (b := zB lo (sc 4) vs) (vs.length - 1)
  have e := q_width12 (xm := xm) (N := N) I hlo h2 hz H hj hb h24 hid 24 1 N (4 * vs.length) (by omega) (by omega) (by omega) (by omega) (by omega) (by omega)
  exact ⟨_, e, rfl⟩
theorem q_width (hN : 120 ≤ N) (hlo : lo.length ≤ 12300) (D : KS xm nb jo lo bo pa ps (vl, vr, rs, ya, sc) F 0 0 m0 cap0 mem) : dOk (m_K_width xm N 1000 x mem) (rD fun v m => v = FP.f2d (wf (zWd lo (sc 4) (if x = 0 then vl else vr))) ∧ KC xm (nb, jo, lo, bo, pa, ps, (vl, vr, rs, ya, sc)) F 0 0 m0 cap0 m) := by
  have D0 := D
  obtain ⟨T, h, I, D⟩ := D
  have hl : vl.length ≤ 24 := I.sw.1
  have hr : vr.length ≤ 24 := I.sw.2.1
  have il := I.1.2.1.2.2.1
  have ir := I.1.2.1.2.2.2.1
  dsimp only at il ir
  unfold m_K_width
  refine x_rc D 0 (fun _ _ => ⟨_, rfl⟩) ?_
  refine ok_eR (q_needle D) ?_
  refine x_rc D 0 (fun _ _ => ⟨_, rfl⟩) ?_
  obtain ⟨q, cap, c, s, k1, k2, ⟨hz, H⟩, -⟩ := D
  by_cases g : x = 0
  · rw [if_pos g, if_pos g]
    refine ok_eF (q_widthOf (a := 1004) (j := 4) (by omega) I (by omega) k2 hz H rfl rfl hl il) ?_
    unfold dF64
    rw [if_pos (wf_ok (zWd_le hl)).2.1]
    exact ok_D ⟨rfl, D0⟩
  · rw [if_neg g, if_neg g]
    refine ok_eF (q_widthOf (a := 1006) (j := 6) (by omega) I (by omega) k2 hz H rfl rfl hr ir) ?_
    unfold dF64
    rw [if_pos (wf_ok (zWd_le hr)).2.1]
    exact ok_D ⟨rfl, D0⟩
/-! the reference -/
end GC
