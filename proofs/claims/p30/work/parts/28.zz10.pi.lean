/-! ===== a property of its own: the law's steps; its loop ===== -/
section PI
variable {xm : Nat → Option kE} {mem m0 : kM} {F G A : kSg} {S : kO × kM → Prop} {X : dRes} {N k n cap nb i j r t1 t2 z B R p M s v : Nat} {c c2 : aC} {sp : aR} {x y jo v51 v58 v65 v73 v81 t u w : Int32} {lo : List kLf} {bo pa vl vr ya ys vs wl us vl' vr' ys' : List Int32} {ps : List aS} {rs rs' : List (List Int32)} {sc sc' : Nat → Int32} {st : aS} {f : kLf} {T : Nat → Int32} {h : kHs} {D : kM → dRes} {w' : aW}
theorem lp_iSv {K : kM → dRes} (I : LwP xm c F n mem) (k : Nat) (hk : F[k]? = some (r, .inr (.inl (0, ys)))) (hi : kInB x ys.length = true) (ys' : List Int32) (hv : ys.set x.toNatClampNeg y = ys') (h : ∀ m, LwP xm c (F.set k (r, .inr (.inl (0, ys')))) n m → dOk (K m) S) : dOk (dIS xm mem r x y K) S := by
  subst hv
  exact lp_iS I k hk hi h
theorem stp_call {K : Int32 → kM → dRes} {H : Nat → kM → dRes} {P : Prop} (I : LwP xm c F n mem) (h : ∀ cap, KC xm c F 0 0 mem cap mem → dOk X (eX xm t1 t2 sp F mem cap)) (hK : ∀ v m, K v m = some (.inl (some (.int 1)), m)) (hH : ∀ m, H 1 m = some (.inl (some (.int 0)), m)) (hs : sp.1 = 0 ∧ sp.2.2 = c2 ∧ P ∨ sp.2.2 = c ∧ (sp.1 = 1 ∧ t1 = 1 ∨ sp.1 = 2 ∧ t2 = 1)) : dOk (dCX X K H) (rI fun v m => v = 0 ∧ LwP xm c F (n + 1) m ∨ v = 1 ∧ P ∧ LwP xm c2 F (n + 1) m) := by
  refine lp_X I h (fun m h0 I2 => ?_) (fun m h1 I2 => ?_) (fun m h2 I2 => ?_)
  · rw [hK]
    rcases hs with ⟨-, e, hP⟩ | ⟨-, ⟨e, -⟩ | ⟨e, -⟩⟩
    · rw [e] at I2
      exact ok_I (Or.inr ⟨rfl, hP, I2⟩)
    · rw [h0] at e
      exact absurd e (by decide)
    · rw [h0] at e
      exact absurd e (by decide)
  · rcases hs with ⟨e, -⟩ | ⟨e, ⟨-, e2⟩ | ⟨e2, -⟩⟩
    · rw [h1] at e
      exact absurd e (by decide)
    · rw [e2, hH]
      rw [e] at I2
      exact ok_I (Or.inl ⟨rfl, I2⟩)
    · rw [h1] at e2
      exact absurd e2 (by decide)
  · rcases hs with ⟨e, -⟩ | ⟨e, ⟨e2, -⟩ | ⟨-, e2⟩⟩
    · rw [h2] at e
      exact absurd e (by decide)
    · rw [h2] at e2
      exact absurd e2 (by decide)
    · rw [e2, hH]
      rw [e] at I2
      exact ok_I (Or.inl ⟨rfl, I2⟩)
theorem len1 (h : ¬ vl = []) : 1 ≤ vl.length := by
  cases vl with
  | nil => exact absurd rfl h
  | cons a l =>
    rw [List.length_cons]
    omega
theorem sw_k {L : List dRes} {t0 D0 : dRes} (h1 : 1 ≤ k) (h8 : k ≤ 8) (hL : L[k - 1]? = some t0) (g : dOk t0 S) : dOk (dSw (Int32.ofNat k) 1 8 D0 L) S := by
  unfold dSw
  rw [i_toI (show k < 2 ^ 31 by omega), if_neg (by omega), show ((k : Int) - 1).toNat = k - 1 by omega, hL]
  exact g
theorem zs1 : zStep jo 1 w' = zWork jo 1 w' := if_pos rfl
theorem zs2 : zStep jo 2 w' = zWork jo 2 w' := by
  unfold zStep
  rw [if_neg (by decide), if_pos rfl]
theorem zs3 : zStep jo 3 w' = zOver jo w' := by
  unfold zStep
  rw [if_neg (by decide), if_neg (by decide), if_pos rfl]
theorem zs4 : zStep jo 4 w' = zTog jo 2 4 w' := by
  unfold zStep
  rw [if_neg (by decide), if_neg (by decide), if_neg (by decide), if_pos rfl]
theorem zs5 : zStep jo 5 w' = zTog jo 2 5 w' := by
  unfold zStep
  rw [if_neg (by decide), if_neg (by decide), if_neg (by decide), if_neg (by decide), if_pos rfl]
theorem zs6 : zStep jo 6 w' = zSlip w' := by
  unfold zStep
  rw [if_neg (by decide), if_neg (by decide), if_neg (by decide), if_neg (by decide), if_neg (by decide), if_pos rfl]
theorem spWork_no (g : vl = [] ∨ aYn jo ya < 4) : spWork x (nb, jo, lo, bo, pa, ps, (vl, vr, rs, ya, sc)) = (1, 0, (nb, jo, lo, bo, pa, ps, (vl, vr, rs, ya, sc))) := by
  show (if _ ∨ _ then _ else _) = _
  rw [if_pos g]
theorem spWork_yes {kk : Int32} (g : ¬ (vl = [] ∨ aYn jo ya < 4)) (hk : (if x = 0 then 1 else 2) = kk) : spWork x (nb, jo, lo, bo, pa, ps, (vl, vr, rs, ya, sc)) = (0, sc 6, wC nb jo pa (pKeep ps (vl, vr, rs, ya, sc)) (zWork jo kk (lo, bo, (vl, vr, rs, ya, sc)))) := by
  subst hk
  show (if _ ∨ _ then _ else _) = _
  rw [if_neg g]
theorem spOver_no (g : vl.length + vr.length = 24 ∨ aYn jo ya < 3) : spOver (nb, jo, lo, bo, pa, ps, (vl, vr, rs, ya, sc)) = (1, 0, (nb, jo, lo, bo, pa, ps, (vl, vr, rs, ya, sc))) := by
  show (if _ ∨ _ then _ else _) = _
  rw [if_pos g]
theorem spOver_yes (g : ¬ (vl.length + vr.length = 24 ∨ aYn jo ya < 3)) : spOver (nb, jo, lo, bo, pa, ps, (vl, vr, rs, ya, sc)) = (0, sc 6, wC nb jo pa (pKeep ps (vl, vr, rs, ya, sc)) (zOver jo (lo, bo, (vl, vr, rs, ya, sc)))) := by
  show (if _ ∨ _ then _ else _) = _
  rw [if_neg g]
theorem spTog_no (g : vl.length < 2 ∨ aYn jo ya < 5) : spTog 2 y (nb, jo, lo, bo, pa, ps, (vl, vr, rs, ya, sc)) = (2, 0, (nb, jo, lo, bo, pa, ps, (vl, vr, rs, ya, sc))) := by
  have e2 : (2 : Int32).toNatClampNeg = 2 := by decide
  unfold spTog
  dsimp only
  rw [if_neg (show ¬ ¬ ((2 : Int32) = 2 ∨ (2 : Int32) = 3) by decide), e2, if_pos g]
theorem spTog_yes {kk : Int32} (g : ¬ (vl.length < 2 ∨ aYn jo ya < 5)) (hk : (if y = 0 then 4 else 5) = kk) : spTog 2 y (nb, jo, lo, bo, pa, ps, (vl, vr, rs, ya, sc)) = (0, sc 6, wC nb jo pa (pKeep ps (vl, vr, rs, ya, sc)) (zTog jo 2 kk (lo, bo, (vl, vr, rs, ya, sc)))) := by
  have e2 : (2 : Int32).toNatClampNeg = 2 := by decide
  subst hk
  unfold spTog
  dsimp only
  rw [if_neg (show ¬ ¬ ((2 : Int32) = 2 ∨ (2 : Int32) = 3) by decide), e2, if_neg g]
theorem spSlip_no (g : vl = []) : spSlip (nb, jo, lo, bo, pa, ps, (vl, vr, rs, ya, sc)) = (1, 0, (nb, jo, lo, bo, pa, ps, (vl, vr, rs, ya, sc))) := by
  show (if _ then _ else _) = _
  rw [if_pos g]
theorem spSlip_yes (g : ¬ vl = []) : spSlip (nb, jo, lo, bo, pa, ps, (vl, vr, rs, ya, sc)) = (0, vl.getLastD 0, wC nb jo pa (pKeep ps (vl, vr, rs, ya, sc)) (zSlip (lo, bo, (vl, vr, rs, ya, sc)))) := by
  show (if _ then _ else _) = _
  rw [if_neg g]
theorem lw_wk {q : Nat} (hX : kXok xm) (hN : 400 ≤ N) (Q : QC B R (2, jo, lo, bo, pa, ps, (vl, vr, rs, ya, sc))) (hB : B ≤ 700) (hq : bY jo ya = Int32.ofNat q) (hqB : q ≤ B) {kk : Int32} (hk : (if x = 0 then 1 else 2) = kk) (I : LwP xm (2, jo, lo, bo, pa, ps, (vl, vr, rs, ya, sc)) F n mem) : dOk (m_law_step_59 xm N 1000 x mem) (rI fun v m => v = 0 ∧ LwP xm (2, jo, lo, bo, pa, ps, (vl, vr, rs, ya, sc)) F (n + 1) m ∨ v = 1 ∧ (1 ≤ vl.length ∧ 4 ≤ q ∧ cOk (wC 2 jo pa (pKeep ps (vl, vr, rs, ya, sc)) (zWork jo kk (lo, bo, (vl, vr, rs, ya, sc))))) ∧ LwP xm (wC 2 jo pa (pKeep ps (vl, vr, rs, ya, sc)) (zWork jo kk (lo, bo, (vl, vr, rs, ya, sc)))) F (n + 1) m) := by
  obtain ⟨T, h', I1⟩ := I.inv2
  obtain ⟨l1, l2⟩ := Q.len I1 hB
  obtain ⟨q1, q2, ⟨j, hj, hj2⟩, q5, q6, q7, J⟩ := Q
  dsimp only at hj
  have yq : ∀ a : Nat, a < 100 → (aYn jo ya < Int32.ofNat a ↔ q < a) := by
    intro a ha
    rw [aYn_j hj hj2, hq]
    exact i_lt (by omega) (by omega)
  unfold m_law_step_59
  refine lp_rc I (stp_call (t1 := 1) (t2 := 0) (sp := spWork x (2, jo, lo, bo, pa, ps, (vl, vr, rs, ya, sc))) I (fun cap Dd => q_work (lo := lo) (bo := bo) hX (by omega) q1.1.1 (by omega) (by omega) Dd) (fun _ _ => rfl) (fun _ => rfl) ?_)
  by_cases g : vl = [] ∨ aYn jo ya < 4
  · rw [spWork_no g]
    exact Or.inr ⟨rfl, Or.inl ⟨rfl, rfl⟩⟩
  · have ho : cOk (spWork x (2, jo, lo, bo, pa, ps, (vl, vr, rs, ya, sc))).2.2 := ok_work I1.jj (by decide) q1
    rw [spWork_yes g hk] at ho ⊢
    exact Or.inl ⟨rfl, rfl, len1 (fun z => g (Or.inl z)), Nat.not_lt.mp fun z => g (Or.inr ((yq 4 (by decide)).mpr z)), ho⟩
theorem lw_tg {q : Nat} (hX : kXok xm) (hN : 400 ≤ N) (Q : QC B R (2, jo, lo, bo, pa, ps, (vl, vr, rs, ya, sc))) (hB : B ≤ 700) (hq : bY jo ya = Int32.ofNat q) (hqB : q ≤ B) {kk : Int32} (hk : (if y = 0 then 4 else 5) = kk) (I : LwP xm (2, jo, lo, bo, pa, ps, (vl, vr, rs, ya, sc)) F n mem) : dOk (m_law_step_86 xm N 1000 2 y mem) (rI fun v m => v = 0 ∧ LwP xm (2, jo, lo, bo, pa, ps, (vl, vr, rs, ya, sc)) F (n + 1) m ∨ v = 1 ∧ (2 ≤ vl.length ∧ 5 ≤ q ∧ cOk (wC 2 jo pa (pKeep ps (vl, vr, rs, ya, sc)) (zTog jo 2 kk (lo, bo, (vl, vr, rs, ya, sc))))) ∧ LwP xm (wC 2 jo pa (pKeep ps (vl, vr, rs, ya, sc)) (zTog jo 2 kk (lo, bo, (vl, vr, rs, ya, sc)))) F (n + 1) m) := by
  obtain ⟨T, h', I1⟩ := I.inv2
  obtain ⟨l1, l2⟩ := Q.len I1 hB
  obtain ⟨q1, q2, ⟨j, hj, hj2⟩, q5, q6, q7, J⟩ := Q
  dsimp only at hj
  have yq : ∀ a : Nat, a < 100 → (aYn jo ya < Int32.ofNat a ↔ q < a) := by
    intro a ha
    rw [aYn_j hj hj2, hq]
    exact i_lt (by omega) (by omega)
  unfold m_law_step_86
  refine lp_rc I (stp_call (t1 := 0) (t2 := 1) (sp := spTog 2 y (2, jo, lo, bo, pa, ps, (vl, vr, rs, ya, sc))) I (fun cap Dd => q_together (lo := lo) (bo := bo) hX (by omega) q1.1.1 (by omega) (by omega) Dd) (fun _ _ => rfl) (fun _ => rfl) ?_)
  by_cases g : vl.length < 2 ∨ aYn jo ya < 5
  · rw [spTog_no g]
    exact Or.inr ⟨rfl, Or.inr ⟨rfl, rfl⟩⟩
  · have ho : cOk (spTog 2 y (2, jo, lo, bo, pa, ps, (vl, vr, rs, ya, sc))).2.2 := ok_together I1.jj (by decide) q1
    rw [spTog_yes g hk] at ho ⊢
    exact Or.inl ⟨rfl, rfl, Nat.not_lt.mp (fun z => g (Or.inl z)), Nat.not_lt.mp fun z => g (Or.inr ((yq 5 (by decide)).mpr z)), ho⟩
theorem lw_ov {q : Nat} (hX : kXok xm) (hN : 400 ≤ N) (Q : QC B R (2, jo, lo, bo, pa, ps, (vl, vr, rs, ya, sc))) (hB : B ≤ 700) (hq : bY jo ya = Int32.ofNat q) (hqB : q ≤ B) {K0 : Int32 → kM → dRes} {H0 : Nat → kM → dRes} (k0 : ∀ v m, K0 v m = some (.inl (some (.int 1)), m)) (h0 : ∀ m, H0 1 m = some (.inl (some (.int 0)), m)) (I : LwP xm (2, jo, lo, bo, pa, ps, (vl, vr, rs, ya, sc)) F n mem) : dOk (dRc xm mem 1000 11 <| dCX (m_K_over xm N 1000 mem) K0 H0) (rI fun v m => v = 0 ∧ LwP xm (2, jo, lo, bo, pa, ps, (vl, vr, rs, ya, sc)) F (n + 1) m ∨ v = 1 ∧ (0 ≤ vl.length ∧ 3 ≤ q ∧ cOk (wC 2 jo pa (pKeep ps (vl, vr, rs, ya, sc)) (zOver jo (lo, bo, (vl, vr, rs, ya, sc))))) ∧ LwP xm (wC 2 jo pa (pKeep ps (vl, vr, rs, ya, sc)) (zOver jo (lo, bo, (vl, vr, rs, ya, sc)))) F (n + 1) m) := by
  obtain ⟨T, h', I1⟩ := I.inv2
  obtain ⟨l1, l2⟩ := Q.len I1 hB
  obtain ⟨q1, q2, ⟨j, hj, hj2⟩, q5, q6, q7, J⟩ := Q
  dsimp only at hj
  have yq : ∀ a : Nat, a < 100 → (aYn jo ya < Int32.ofNat a ↔ q < a) := by
    intro a ha
    rw [aYn_j hj hj2, hq]
    exact i_lt (by omega) (by omega)
  refine lp_rc I (stp_call (t1 := 1) (t2 := 0) (sp := spOver (2, jo, lo, bo, pa, ps, (vl, vr, rs, ya, sc))) I (fun cap Dd => q_over (lo := lo) (bo := bo) hX (by omega) q1.1.1 (by omega) (by omega) Dd) k0 h0 ?_)
  by_cases g : vl.length + vr.length = 24 ∨ aYn jo ya < 3
  · rw [spOver_no g]
    exact Or.inr ⟨rfl, Or.inl ⟨rfl, rfl⟩⟩
  · have ho : cOk (spOver (2, jo, lo, bo, pa, ps, (vl, vr, rs, ya, sc))).2.2 := ok_over I1.jj (by decide) q1
    rw [spOver_yes g] at ho ⊢
    exact Or.inl ⟨rfl, rfl, Nat.zero_le _, Nat.not_lt.mp fun z => g (Or.inr ((yq 3 (by decide)).mpr z)), ho⟩
theorem lw_sl {q : Nat} (hX : kXok xm) (hN : 400 ≤ N) (Q : QC B R (2, jo, lo, bo, pa, ps, (vl, vr, rs, ya, sc))) (hB : B ≤ 700) (hq : bY jo ya = Int32.ofNat q) (hqB : q ≤ B) {K0 : Int32 → kM → dRes} {H0 : Nat → kM → dRes} (k0 : ∀ v m, K0 v m = some (.inl (some (.int 1)), m)) (h0 : ∀ m, H0 1 m = some (.inl (some (.int 0)), m)) (I : LwP xm (2, jo, lo, bo, pa, ps, (vl, vr, rs, ya, sc)) F n mem) : dOk (dRc xm mem 1000 11 <| dCX (m_K_slip xm N 1000 mem) K0 H0) (rI fun v m => v = 0 ∧ LwP xm (2, jo, lo, bo, pa, ps, (vl, vr, rs, ya, sc)) F (n + 1) m ∨ v = 1 ∧ (1 ≤ vl.length ∧ 0 ≤ q ∧ cOk (wC 2 jo pa (pKeep ps (vl, vr, rs, ya, sc)) (zSlip (lo, bo, (vl, vr, rs, ya, sc))))) ∧ LwP xm (wC 2 jo pa (pKeep ps (vl, vr, rs, ya, sc)) (zSlip (lo, bo, (vl, vr, rs, ya, sc)))) F (n + 1) m) := by
  obtain ⟨T, h', I1⟩ := I.inv2
  obtain ⟨l1, l2⟩ := Q.len I1 hB
  obtain ⟨q1, q2, ⟨j, hj, hj2⟩, q5, q6, q7, J⟩ := Q
  dsimp only at hj
  have yq : ∀ a : Nat, a < 100 → (aYn jo ya < Int32.ofNat a ↔ q < a) := by
    intro a ha
    rw [aYn_j hj hj2, hq]
    exact i_lt (by omega) (by omega)
  refine lp_rc I (stp_call (t1 := 1) (t2 := 0) (sp := spSlip (2, jo, lo, bo, pa, ps, (vl, vr, rs, ya, sc))) I (fun cap Dd => q_slip (lo := lo) (bo := bo) hX (by omega) q1.1.1 (by omega) (by omega) Dd) k0 h0 ?_)
  by_cases g : vl = []
  · rw [spSlip_no g]
    exact Or.inr ⟨rfl, Or.inl ⟨rfl, rfl⟩⟩
  · have ho : cOk (spSlip (2, jo, lo, bo, pa, ps, (vl, vr, rs, ya, sc))).2.2 := ok_slip q1
    rw [spSlip_yes g] at ho ⊢
    exact Or.inl ⟨rfl, rfl, len1 g, Nat.zero_le _, ho⟩
/-- a step by itself: it is done, or all is as it was -/
theorem lw_one {q : Nat} (hX : kXok xm) (hN : 400 ≤ N) (Q : QC B R (2, jo, lo, bo, pa, ps, (vl, vr, rs, ya, sc))) (hB : B ≤ 700) (hq : bY jo ya = Int32.ofNat q) (hqB : q ≤ B) (h1 : 1 ≤ k) (h6 : k ≤ 6) (I : LwP xm (2, jo, lo, bo, pa, ps, (vl, vr, rs, ya, sc)) F n mem) : dOk (m_law_step xm N 1000 (Int32.ofNat k) mem) (rI fun v m => v = 0 ∧ LwP xm (2, jo, lo, bo, pa, ps, (vl, vr, rs, ya, sc)) F (n + 1) m ∨ v = 1 ∧ (aWant k ≤ vl.length ∧ aTake k ≤ q ∧ cOk (wC 2 jo pa (pKeep ps (vl, vr, rs, ya, sc)) (zStep jo k (lo, bo, (vl, vr, rs, ya, sc))))) ∧ LwP xm (wC 2 jo pa (pKeep ps (vl, vr, rs, ya, sc)) (zStep jo k (lo, bo, (vl, vr, rs, ya, sc)))) F (n + 1) m) := by
  unfold m_law_step
  rcases (show k = 1 ∨ k = 2 ∨ k = 3 ∨ k = 4 ∨ k = 5 ∨ k = 6 by omega) with rfl | rfl | rfl | rfl | rfl | rfl
  · refine sw_k (k := 1) (by decide) (by decide) rfl ?_
    unfold m_law_step_48
    rw [if_neg (by decide), zs1]
    exact lw_wk hX hN Q hB hq hqB rfl I
  · refine sw_k (k := 2) (by decide) (by decide) rfl ?_
    unfold m_law_step_48
    rw [if_pos (by decide), zs2]
    exact lw_wk hX hN Q hB hq hqB rfl I
  · refine sw_k (k := 3) (by decide) (by decide) rfl ?_
    rw [zs3]
    exact lw_ov hX hN Q hB hq hqB (fun _ _ => rfl) (fun _ => rfl) I
  · refine sw_k (k := 4) (by decide) (by decide) rfl ?_
    unfold m_law_step_74
    rw [if_neg (by decide), zs4]
    exact lw_tg hX hN Q hB hq hqB rfl I
  · refine sw_k (k := 5) (by decide) (by decide) rfl ?_
    unfold m_law_step_74
    rw [if_pos (by decide), zs5]
    exact lw_tg hX hN Q hB hq hqB rfl I
  · refine sw_k (k := 6) (by decide) (by decide) rfl ?_
    rw [zs6]
    exact lw_sl hX hN Q hB hq hqB (fun _ _ => rfl) (fun _ => rfl) I
theorem take_last {a : Nat} (h1 : 1 ≤ a) (h2 : a ≤ vl.length) : ∃ u, vl = vl.take (vl.length - a) ++ u ∧ vl.getLastD 0 ∈ u := by
  refine ⟨vl.drop (vl.length - a), (List.take_append_drop _ _).symm, ?_⟩
  obtain ⟨wl, w, rfl⟩ := len_ne (l := vl) (fun z => by rw [z] at h2; exact absurd h2 (by rw [List.length_nil]; omega))
  rw [List.getLastD_concat]
  have e : (wl ++ [w]).length - a ≤ wl.length := by rw [List.length_append, List.length_singleton]; omega
  rw [List.drop_append_of_le_length e]
  exact List.mem_append_right _ (List.mem_singleton.mpr rfl)
/-- what a step that makes a loop does -/
theorem zStep_shape (h1 : 1 ≤ k) (h5 : k ≤ 5) (hw : aWant k ≤ vl.length) : ∃ (vl' ya' : List Int32) (sc' : Nat → Int32) (g : Int32), zStep jo k (lo, bo, (vl, vr, rs, ya, sc)) = (lo ++ [(Int32.ofNat k, jo, sc 5, g, sc 4, Int32.ofNat (aUse k))], bo, (vl', vr ++ [sc 6], rs.map kFall, ya', sc')) ∧ sc' 5 = sc 5 ∧ (k < 3 → g = zHeight lo (vl.getLastD 0) + 1) ∧ (3 ≤ k → g = 1) ∧ (0 < aUse k → ∃ u, vl = vl' ++ u ∧ vl.getLastD 0 ∈ u) := by
  rcases (show k = 1 ∨ k = 2 ∨ k = 3 ∨ k = 4 ∨ k = 5 by omega) with rfl | rfl | rfl | rfl | rfl
  · refine ⟨vl.dropLast, _, _, _, rfl, kUp_ne (by decide), fun _ => rfl, fun z => absurd z (by decide), fun _ => ?_⟩
    rw [List.dropLast_eq_take]
    exact take_last (by decide) hw
  · refine ⟨vl.dropLast, _, _, _, rfl, kUp_ne (by decide), fun _ => rfl, fun z => absurd z (by decide), fun _ => ?_⟩
    rw [List.dropLast_eq_take]
    exact take_last (by decide) hw
  · refine ⟨vl, _, _, _, rfl, ?_, fun z => absurd z (by decide), fun _ => rfl, fun z => absurd z (by decide)⟩
    rw [kUp_ne (by decide), kUp_ne (by decide)]
  · exact ⟨vl.take (vl.length - 2), _, _, _, rfl, kUp_ne (by decide), fun z => absurd z (by decide), fun _ => rfl, fun _ => take_last (by decide) hw⟩
  · exact ⟨vl.take (vl.length - 2), _, _, _, rfl, kUp_ne (by decide), fun z => absurd z (by decide), fun _ => rfl, fun _ => take_last (by decide) hw⟩
def zEat : List Int32 := [0, 1, 1, 0, 2, 2, 1]
def zTak : List Int32 := [0, 4, 4, 3, 5, 5, 0]
theorem zEat_at (h1 : 1 ≤ k) (h6 : k ≤ 6) : zEat.getD (Int32.ofNat k).toNatClampNeg 0 = Int32.ofNat (aUse k) := by
  rcases (show k = 1 ∨ k = 2 ∨ k = 3 ∨ k = 4 ∨ k = 5 ∨ k = 6 by omega) with rfl | rfl | rfl | rfl | rfl | rfl <;> decide
theorem zTak_at (h1 : 1 ≤ k) (h6 : k ≤ 6) : zTak.getD (Int32.ofNat k).toNatClampNeg 0 = Int32.ofNat (aTake k) := by
  rcases (show k = 1 ∨ k = 2 ∨ k = 3 ∨ k = 4 ∨ k = 5 ∨ k = 6 by omega) with rfl | rfl | rfl | rfl | rfl | rfl <;> decide
theorem nAt_0 (h : ¬ vl = []) : nAt vl 0 = vl.getLastD 0 := by
  obtain ⟨wl, w, rfl⟩ := len_ne h
  rw [nAt_last, List.getLastD_concat]
theorem lw_step {K : Nat → Nat → Int32 → Int32 → kM → dRes} {a2 a3 : Int32} {a0 : Nat} (hX : kXok xm) (hN : 400 ≤ N) (Q : QC B R (2, jo, lo, bo, pa, ps, (vl, vr, rs, ya, sc))) (hB : B ≤ 700) (hK : kD xm B (R + 1) F (n + 60) (fun m => m_law_law_1303 xm N K a0 1000 a2 a3 m) S) (h51 : v51 = Int32.ofNat (yOf (vl, vr, rs, ya, sc))) (h58 : v58 = Int32.ofNat vl.length) (h65 : v65 = Int32.ofNat vr.length) (h73 : v73 = Int32.ofNat lo.length) (h81 : v81 = nAt vl 0) (I : LwP xm (2, jo, lo, bo, pa, ps, (vl, vr, rs, ya, sc)) F n mem) : dOk (m_law_law_168 xm N K a0 1000 a2 a3 x v51 v58 v65 v73 v81 mem) S := by
  obtain ⟨T, h', I1⟩ := I.inv2
  obtain ⟨l1, l2⟩ := Q.len I1 hB
  have Q0 := Q
  obtain ⟨q1, q2, ⟨j, hj, hj2⟩, q5, q6, q7, J⟩ := Q0
  dsimp only at hj q5 q6 q7 J
  have W := pW.of J I1
  obtain ⟨q, hq, hqB⟩ := W.q (by omega) hj hj2
  dsimp only at hq
  have h4 : ya.length = 4 := I1.sw.2.2.2.2
  have l24 : vl.length + vr.length ≤ 24 := I1.1.2.1.2.1
  have hys := J.now.sum (show B ≤ 20000 by omega)
  have hys2 := hys.2
  subst h51 h58 h65 h73 h81
  unfold m_law_law_168
  obtain ⟨r, hr, er⟩ := q_below xm N mem (x >>> (4 &&& 31)) (k := 6) (by decide) (by decide)
  refine ok_eI er ?_
  have e1 : (1 : Int32) + Int32.ofNat r = Int32.ofNat (r + 1) := by rw [show (1 : Int32) = Int32.ofNat 1 from rfl, i_add, Nat.add_comm]
  rw [e1]
  obtain ⟨k, hk⟩ : ∃ k, k = r + 1 := ⟨_, rfl⟩
  rw [← hk]
  have h1 : 1 ≤ k := by omega
  have h6 : k ≤ 6 := by omega
  refine lp_nI (z := 7) I (by decide) fun m p I => ?_
  refine lp_iSv I 0 rfl (by decide) [0, 0, 0, 0, 0, 0, 0] (by decide) fun m I => ?_
  refine lp_iSv I 0 rfl (by decide) [0, 1, 0, 0, 0, 0, 0] (by decide) fun m I => ?_
  refine lp_iSv I 0 rfl (by decide) [0, 1, 1, 0, 0, 0, 0] (by decide) fun m I => ?_
  refine lp_iSv I 0 rfl (by decide) [0, 1, 1, 0, 0, 0, 0] (by decide) fun m I => ?_
  refine lp_iSv I 0 rfl (by decide) [0, 1, 1, 0, 2, 0, 0] (by decide) fun m I => ?_
  refine lp_iSv I 0 rfl (by decide) [0, 1, 1, 0, 2, 2, 0] (by decide) fun m I => ?_
  refine lp_iSv I 0 rfl (by decide) zEat (by decide) fun m I => ?_
  refine lp_nI (z := 7) I (by decide) fun m p2 I => ?_
  refine lp_iSv I 0 rfl (by decide) [0, 0, 0, 0, 0, 0, 0] (by decide) fun m I => ?_
  refine lp_iSv I 0 rfl (by decide) [0, 4, 0, 0, 0, 0, 0] (by decide) fun m I => ?_
  refine lp_iSv I 0 rfl (by decide) [0, 4, 4, 0, 0, 0, 0] (by decide) fun m I => ?_
  refine lp_iSv I 0 rfl (by decide) [0, 4, 4, 3, 0, 0, 0] (by decide) fun m I => ?_
  refine lp_iSv I 0 rfl (by decide) [0, 4, 4, 3, 5, 0, 0] (by decide) fun m I => ?_
  refine lp_iSv I 0 rfl (by decide) [0, 4, 4, 3, 5, 5, 0] (by decide) fun m I => ?_
  refine lp_iSv I 0 rfl (by decide) zTak (by decide) fun m I => ?_
  have I : LwP xm (2, jo, lo, bo, pa, ps, (vl, vr, rs, ya, sc)) ((p2, .inr (.inl (0, zTak))) :: (p, .inr (.inl (0, zEat))) :: F) (n + 3 + 3) m := I
  have hin : kInB (Int32.ofNat k) 7 = true := i_inB (by omega) (by decide)
  refine ok_cI (lw_one hX hN Q hB hq hqB h1 h6 I) fun v m hh => ?_
  rcases hh with ⟨rfl, I⟩ | ⟨rfl, ⟨hw, ht, ho⟩, I⟩
  · rw [if_pos rfl]
    refine lp_many (by omega) q1 1 (by decide) (Int32.ofNat (yOf (vl, vr, rs, ya, sc))) hys.1 rfl I fun m I => ?_
    rw [if_pos rfl]
    refine lp_many (by omega) q1 3 (by decide) (Int32.ofNat vl.length) rfl rfl I fun m I => ?_
    rw [if_pos rfl]
    refine lp_many (by omega) q1 4 (by decide) (Int32.ofNat vr.length) rfl rfl I fun m I => ?_
    rw [if_pos rfl]
    unfold m_law_law_367
    rw [if_pos rfl]
    exact hK _ _ _ Q.up (by omega) I.drop1.drop1
  · rw [if_neg (by decide)]
    obtain ⟨W', R', y'⟩ := W.step (s := k) (by dsimp only; omega) (by omega) hj hj2 hq hqB h1 (by omega) ht hw h4
    obtain ⟨n1, n2, n3, n4, n5, n6⟩ := zStep_num (jo := jo) (w := (lo, bo, (vl, vr, rs, ya, sc))) h1 (by omega) hw (Or.inr ⟨j, hj, by omega⟩) h4
    have Q' := Q.made W' R' n2 ho (by dsimp only at n1; omega)
    have hu : aUse k ≤ vl.length := by
      rcases (show k = 1 ∨ k = 2 ∨ k = 3 ∨ k = 4 ∨ k = 5 ∨ k = 6 by omega) with e | e | e | e | e | e <;> rw [e] at hw ⊢ <;> exact hw
    have y2 : yOf (zStep jo k (lo, bo, (vl, vr, rs, ya, sc))).2.2 + aTake k = yOf (vl, vr, rs, ya, sc) := y'
    have ht2 : aTake k ≤ yOf (vl, vr, rs, ya, sc) := by omega
    clear y2
    rcases (show k ≤ 5 ∨ k = 6 by omega) with h5 | h5
    · obtain ⟨vl', ya', sc', g, es, e5, g3, g4, g5⟩ := zStep_shape (jo := jo) (lo := lo) (bo := bo) (vr := vr) (rs := rs) (ya := ya) (sc := sc) h1 h5 hw
      rw [es] at I Q' y' n3
      dsimp only at y' n3
      have I : LwP xm (2, jo, lo ++ [(Int32.ofNat k, jo, sc 5, g, sc 4, Int32.ofNat (aUse k))], bo, pa, pKeep ps (vl, vr, rs, ya, sc), (vl', vr ++ [sc 6], rs.map kFall, ya', sc')) ((p2, .inr (.inl (0, zTak))) :: (p, .inr (.inl (0, zEat))) :: F) _ m := I
      have Q' : QC B R (2, jo, lo ++ [(Int32.ofNat k, jo, sc 5, g, sc 4, Int32.ofNat (aUse k))], bo, pa, pKeep ps (vl, vr, rs, ya, sc), (vl', vr ++ [sc 6], rs.map kFall, ya', sc')) := Q'
      obtain ⟨T', h2', I2⟩ := I.inv2
      have el : (lo ++ [(Int32.ofNat k, jo, sc 5, g, sc 4, Int32.ofNat (aUse k))]).length = lo.length + 1 := by rw [List.length_append]; rfl
      have m6 : sc 6 = Int32.ofNat lo.length := I1.made
      have ez : zLoop (lo ++ [(Int32.ofNat k, jo, sc 5, g, sc 4, Int32.ofNat (aUse k))]) (sc 6) = (Int32.ofNat k, jo, sc 5, g, sc 4, Int32.ofNat (aUse k)) := by
        rw [m6]
        exact zLoop_new (t := []) rfl (by omega)
      have hid : aId (lo ++ [(Int32.ofNat k, jo, sc 5, g, sc 4, Int32.ofNat (aUse k))]).length (sc 6) := ⟨lo.length, m6, by omega⟩
      refine lp_many (by omega) Q'.1 3 (by decide) (Int32.ofNat vl'.length) rfl rfl I fun m I => ?_
      refine lp_iLv I 1 rfl hin (Int32.ofNat (aUse k)) (zEat_at h1 h6) ?_
      rw [if_pos (by rw [i_sub hu, n3])]
      refine lp_many (by omega) Q'.1 4 (by decide) (Int32.ofNat (vr ++ [sc 6]).length) rfl rfl I fun m I => ?_
      rw [if_pos (by rw [List.length_append, List.length_singleton, i_add1])]
      refine lp_many (by omega) Q'.1 1 (by decide) (Int32.ofNat (yOf (vl', vr ++ [sc 6], rs.map kFall, ya', sc'))) (Q'.2.2.2.2.2.2.now.sum (by omega)).1 rfl I fun m I => ?_
      refine lp_iLv I 0 rfl hin (Int32.ofNat (aTake k)) (zTak_at h1 h6) ?_
      rw [if_pos (by rw [i_sub ht2]; congr 1; omega)]
      refine lp_many (by omega) Q'.1 7 (by decide) (Int32.ofNat (lo ++ [(Int32.ofNat k, jo, sc 5, g, sc 4, Int32.ofNat (aUse k))]).length) I2.made rfl I fun m I => ?_
      have k6 : ¬ Int32.ofNat k = 6 := fun z => by have := (i_eq (b := 6) (by omega) (by decide)).mp z; omega
      rw [if_neg k6]
      unfold m_law_law_328
      rw [if_pos (by rw [i_add1, el])]
      unfold m_law_law_367
      rw [if_neg (by decide)]
      refine lp_on 0 (by decide) (sc 6) (by rw [if_neg (by decide), nAt_last]) rfl I fun m I => ?_
      rw [if_neg k6, if_pos m6]
      refine lp_ofLoop (by omega) (by omega) (by omega) 0 (by decide) (Int32.ofNat k) hid (by rw [ez]; rfl) rfl I fun m I => ?_
      rw [if_pos rfl]
      refine lp_ofLoop (by omega) (by omega) (by omega) 4 (by decide) (Int32.ofNat (aUse k)) hid (by rw [ez]; rfl) rfl I fun m I => ?_
      refine lp_iLv I 1 rfl hin (Int32.ofNat (aUse k)) (zEat_at h1 h6) ?_
      rw [if_pos rfl]
      refine lp_ofLoop (by omega) (by omega) (by omega) 2 (by decide) (sc 5) hid (by rw [ez]; rfl) rfl I fun m I => ?_
      refine lp_many (by omega) Q'.1 6 (by decide) (sc 5) e5 rfl I fun m I => ?_
      rw [if_pos rfl]
      refine lp_ofLoop (by omega) (by omega) (by omega) 1 (by decide) jo hid (by rw [ez]; rfl) rfl I fun m I => ?_
      refine lp_many (by omega) Q'.1 2 (by decide) jo rfl rfl I fun m I => ?_
      rw [if_pos rfl]
      have f518 : ∀ (m : kM) (n' : Nat), n' ≤ n + 40 → LwP xm (2, jo, lo ++ [(Int32.ofNat k, jo, sc 5, g, sc 4, Int32.ofNat (aUse k))], bo, pa, pKeep ps (vl, vr, rs, ya, sc), (vl', vr ++ [sc 6], rs.map kFall, ya', sc')) ((p2, .inr (.inl (0, zTak))) :: (p, .inr (.inl (0, zEat))) :: F) n' m → dOk (m_law_law_518 xm N K a0 1000 a2 a3 (Int32.ofNat k) (sc 6) m) S := by
        intro m n' hn' I
        unfold m_law_law_518
        refine ok_if (fun g2 => ?_) (fun _ => hK _ _ _ Q'.up (by omega) I.drop1.drop1)
        have g2 : 2 < k := (i_lt (a := 2) (by decide) (by omega)).mp g2
        refine ok_if (fun _ => ?_) (fun _ => hK _ _ _ Q'.up (by omega) I.drop1.drop1)
        refine lp_ofLoop (by omega) (by omega) (by omega) 3 (by decide) 1 hid (by rw [ez]; exact g4 g2) rfl I fun m I => ?_
        rw [if_pos rfl]
        exact hK _ _ _ Q'.up (by omega) I.drop1.drop1
      have tipF : 1 ≤ vl.length → ∃ i, nAt vl 0 = Int32.ofNat i ∧ i < lo.length ∧ nAt vl 0 = vl.getLastD 0 ∧ nAt vl 0 ∈ vl := by
        intro h
        have hne : ¬ vl = [] := fun z => by rw [z] at h; exact absurd h (by decide)
        obtain ⟨i, ei, hi⟩ := I1.1.2.1.2.2.1 _ (nAt_mem (i := 0) h)
        exact ⟨i, ei, hi, nAt_0 hne, nAt_mem h⟩
      have f492 : ∀ (m : kM) (n' : Nat), n' ≤ n + 39 → LwP xm (2, jo, lo ++ [(Int32.ofNat k, jo, sc 5, g, sc 4, Int32.ofNat (aUse k))], bo, pa, pKeep ps (vl, vr, rs, ya, sc), (vl', vr ++ [sc 6], rs.map kFall, ya', sc')) ((p2, .inr (.inl (0, zTak))) :: (p, .inr (.inl (0, zEat))) :: F) n' m → dOk (m_law_law_492 xm N K a0 1000 a2 a3 (nAt vl 0) (Int32.ofNat k) p (sc 6) m) S := by
        intro m n' hn' I
        unfold m_law_law_492
        refine ok_if (fun _ => ?_) (fun _ => f518 m n' (by omega) I)
        refine lp_iLv I 1 rfl hin (Int32.ofNat (aUse k)) (zEat_at h1 h6) ?_
        refine ok_if (fun g0 => ?_) (fun _ => f518 m n' (by omega) I)
        have g0 : 0 < aUse k := (i_lt (a := 0) (by decide) (by omega)).mp g0
        obtain ⟨i, ei, hi, et, hm⟩ := tipF (by omega)
        obtain ⟨u, eu, hu2⟩ := g5 g0
        have nd := I1.nd
        obtain ⟨d1, d2, d3⟩ := List.nodup_append.mp nd
        obtain ⟨d4, d5, d6⟩ := List.nodup_append.mp d1
        refine lp_ofLoop (by omega) (by omega) (by omega) 5 (by decide) 2 ⟨i, ei, by omega⟩ ?_ rfl I fun m I => ?_
        · show zWhere vl' (vr ++ [sc 6]) (rs.map kFall) bo (nAt vl 0) = 2
          unfold zWhere
          rw [openL_fall, if_neg (fun z => d3 _ (List.mem_append_left _ hm) _ z rfl), if_neg (fun z => ?_), if_neg (fun z => ?_), if_neg (fun z => (I1.apart (by omega) _ z).1 hm)]
          · rcases List.mem_append.mp z with z | z
            · exact d6 _ hm _ z rfl
            · have := List.mem_singleton.mp z
              rw [ei, m6] at this
              have := (i_eq (by omega) (by omega)).mp this
              omega
          · rw [eu] at d4
            rw [et] at z
            exact (List.nodup_append.mp d4).2.2 _ z _ hu2 rfl
        · rw [if_pos rfl]
          exact f518 m _ (by omega) I
      unfold m_law_law_467
      refine ok_if (fun g2 => ?_) (fun _ => f492 m _ (by omega) I)
      have g2 : k < 3 := (i_lt (b := 3) (by omega) (by decide)).mp g2
      have hv1 : 1 ≤ vl.length := by
        rcases (show k = 1 ∨ k = 2 by omega) with e | e <;> rw [e] at hw <;> exact hw
      obtain ⟨i, ei, hi, et, hm⟩ := tipF hv1
      refine lp_ofLoop (by omega) (by omega) (by omega) 3 (by decide) (zHeight lo (vl.getLastD 0) + 1) hid (by rw [ez]; exact g3 g2) rfl I fun m I => ?_
      refine lp_ofLoop (by omega) (by omega) (by omega) 3 (by decide) (zHeight lo (vl.getLastD 0)) ⟨i, ei, by omega⟩ ?_ rfl I fun m I => ?_
      · show (zLoop (lo ++ [(Int32.ofNat k, jo, sc 5, g, sc 4, Int32.ofNat (aUse k))]) (nAt vl 0)).2.2.2.1 = zHeight lo (vl.getLastD 0)
        rw [← et, ei]
        unfold zLoop zHeight
        rw [i_nat (by omega), List.getD_eq_getElem?_getD, List.getElem?_append_left hi, ← List.getD_eq_getElem?_getD]
      · rw [if_pos rfl]
        exact f492 m _ (by omega) I
    · subst h5
      have es : zStep jo 6 (lo, bo, (vl, vr, rs, ya, sc)) = (lo, bo, (vl.dropLast, vr ++ [vl.getLastD 0], rs, ya, sc)) := rfl
      rw [es] at I Q' y' n3
      dsimp only at y' n3
      have I : LwP xm (2, jo, lo, bo, pa, pKeep ps (vl, vr, rs, ya, sc), (vl.dropLast, vr ++ [vl.getLastD 0], rs, ya, sc)) ((p2, .inr (.inl (0, zTak))) :: (p, .inr (.inl (0, zEat))) :: F) _ m := I
      have Q' : QC B R (2, jo, lo, bo, pa, pKeep ps (vl, vr, rs, ya, sc), (vl.dropLast, vr ++ [vl.getLastD 0], rs, ya, sc)) := Q'
      obtain ⟨T', h2', I2⟩ := I.inv2
      have hne : ¬ vl = [] := fun z => by rw [z] at hw; exact absurd hw (by decide)
      refine lp_many (by omega) Q'.1 3 (by decide) (Int32.ofNat vl.dropLast.length) rfl rfl I fun m I => ?_
      refine lp_iLv I 1 rfl hin (Int32.ofNat (aUse 6)) (zEat_at h1 h6) ?_
      rw [if_pos (by rw [i_sub hu, n3])]
      refine lp_many (by omega) Q'.1 4 (by decide) (Int32.ofNat (vr ++ [vl.getLastD 0]).length) rfl rfl I fun m I => ?_
      rw [if_pos (by rw [List.length_append, List.length_singleton, i_add1])]
      refine lp_many (by omega) Q'.1 1 (by decide) (Int32.ofNat (yOf (vl, vr, rs, ya, sc))) hys.1 rfl I fun m I => ?_
      refine lp_iLv I 0 rfl hin (Int32.ofNat (aTake 6)) (zTak_at h1 h6) ?_
      rw [if_pos (by rw [i_sub ht2]; rfl)]
      refine lp_many (by omega) Q'.1 7 (by decide) (Int32.ofNat lo.length) I2.made rfl I fun m I => ?_
      rw [if_pos (show Int32.ofNat 6 = 6 from rfl)]
      unfold m_law_law_328
      rw [if_pos (by rw [Int32.add_zero])]
      unfold m_law_law_367
      rw [if_neg (by decide)]
      refine lp_on 0 (by decide) (nAt vl 0) (by rw [if_neg (by decide), nAt_last, nAt_0 hne]) rfl I fun m I => ?_
      rw [if_pos (show Int32.ofNat 6 = 6 from rfl), if_pos rfl]
      unfold m_law_law_467
      rw [if_neg (by decide)]
      unfold m_law_law_492
      rw [if_neg (by decide)]
      unfold m_law_law_518
      rw [if_pos (by decide), if_neg (by decide)]
      exact hK _ _ _ Q'.up (by omega) I.drop1.drop1
end PI
