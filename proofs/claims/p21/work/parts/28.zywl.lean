/-! ===== the law around what is asked, exactly: ofLoop, many; calls with a value of their own ===== -/
section GG
variable {xm : Nat → Option kE} {mem m0 : kM} {F G A : kSg} {S : kO × kM → Prop} {X : dRes} {N k nb q cap c0 s0 cap0 n O M0 C0 S0 : Nat} {jo x y t : Int32} {lo : List kLf} {bo pa vl vr ya : List Int32} {ps : List aS} {rs : List (List Int32)} {sc : Nat → Int32} {w : Int64} {c c' : aC}
theorem ok_ofLoop (hc : cOk (nb, jo, lo, bo, pa, ps, (vl, vr, rs, ya, sc))) : cOk (spOfLoop x y (nb, jo, lo, bo, pa, ps, (vl, vr, rs, ya, sc))).2.2 := by
  unfold spOfLoop
  dsimp only
  split
  · exact hc
  · split <;> exact hc
theorem y2_ofLoop (hX : kXok xm) (hN : 120 ≤ N) (hc : cOk (nb, jo, lo, bo, pa, ps, (vl, vr, rs, ya, sc))) (hlo : lo.length ≤ 12300) (hbo : bo.length ≤ 12300) (D : KS xm nb jo lo bo pa ps (vl, vr, rs, ya, sc) (oU O w :: G) 0 0 m0 cap0 mem) : dOk (m_law_ofLoop xm N 1000 x y O mem) (lR xm (spOfLoop x y (nb, jo, lo, bo, pa, ps, (vl, vr, rs, ya, sc))) O G m0 cap0) := by
  unfold m_law_ofLoop
  refine s_rc (c := (nb, jo, lo, bo, pa, ps, (vl, vr, rs, ya, sc))) D ?_
  exact l_X (q_ofLoop hN hlo hbo D) (fun _ _ => rfl) (fun _ _ => rfl)
theorem n2_many : (spMany x (nb, jo, lo, bo, pa, ps, (vl, vr, rs, ya, sc))).1 ≠ 2 := by
  unfold spMany
  dsimp only
  split
  · show (1 : Int32) ≠ 2
    decide
  · show (0 : Int32) ≠ 2
    decide
theorem ok_many (hc : cOk (nb, jo, lo, bo, pa, ps, (vl, vr, rs, ya, sc))) : cOk (spMany x (nb, jo, lo, bo, pa, ps, (vl, vr, rs, ya, sc))).2.2 := by
  unfold spMany
  dsimp only
  split <;> exact hc
theorem y2_many (hX : kXok xm) (hN : 120 ≤ N) (hc : cOk (nb, jo, lo, bo, pa, ps, (vl, vr, rs, ya, sc))) (hlo : lo.length ≤ 12300) (hbo : bo.length ≤ 12300) (D : KS xm nb jo lo bo pa ps (vl, vr, rs, ya, sc) (oU O w :: G) 0 0 m0 cap0 mem) : dOk (m_law_many xm N 1000 x O mem) (lR xm (spMany x (nb, jo, lo, bo, pa, ps, (vl, vr, rs, ya, sc))) O G m0 cap0) := by
  unfold m_law_many
  refine s_rc (c := (nb, jo, lo, bo, pa, ps, (vl, vr, rs, ya, sc))) D ?_
  exact l_X (q_many hN hc.1.2 D) (fun _ _ => rfl) (fun z => absurd z n2_many)
theorem lj_c1E {K : Int32 → kM → dRes} {P : Int32 → Prop} (I : LJ xm M0 O t c c' k C0 S0 w mem) (h : ∀ cap F, KC xm c F 0 0 mem cap mem → dOk X (rI fun v m => P v ∧ KC xm c F 0 0 mem cap m)) (K' : ∀ v m w, P v → LJ xm M0 O t c c' k (C0 + 30) (S0 + 900) w m → dOk (K v m) S) : dOk (dCI X K) S := by
  obtain ⟨cap, G, D, back⟩ := I.cls
  exact ok_cI (h cap _ D) fun v m hh => K' v m w hh.1 (back m _ 0 0 w (by decide) (by decide) hh.2)
theorem lj_r1E {K : Int32 → kM → dRes} {P : Int32 → Prop} {c1 s1 : Nat} (I : LJ xm M0 O t c c' k C0 S0 w mem) (h : ∀ C S F, RJ xm M0 t c' k C S F mem → dOk X (rI fun v m => P v ∧ ∃ t', RJ xm M0 t' c' (k + 1) (C + c1) (S + s1) F m)) (hc : c1 ≤ 1141) (hs : s1 ≤ 6690) (K' : ∀ v m t', P v → LJ xm M0 O t' c c' (k + 1) (C0 + 1141) (S0 + 6690) w m → dOk (K v m) S) : dOk (dCI X K) S := by
  obtain ⟨q, cap, T, h', A, h1, h2, I1, hz, tA, I⟩ := I
  refine ok_cI (h _ _ _ I) fun v m hh => ?_
  obtain ⟨hv, t', J⟩ := hh
  exact K' v m t' hv ⟨q, cap, T, h', A, h1, h2, I1, hz, tA, J.up (Nat.le_refl _) (by omega) (by omega)⟩
theorem lj_cJE {K : Int64 → kM → dRes} {P : Int64 → Prop} (I : LJ xm M0 O t c c' k C0 S0 w mem) (h : ∀ cap F, KC xm c F 0 0 mem cap mem → dOk X (rJ fun v m => P v ∧ KC xm c F 0 0 mem cap m)) (K' : ∀ v m w, P v → LJ xm M0 O t c c' k (C0 + 30) (S0 + 900) w m → dOk (K v m) S) : dOk (dCJ X K) S := by
  obtain ⟨cap, G, D, back⟩ := I.cls
  exact ok_cJ (h cap _ D) fun v m hh => K' v m w hh.1 (back m _ 0 0 w (by decide) (by decide) hh.2)
theorem lj_rJE {K : Int64 → kM → dRes} {P : Int64 → Prop} {c1 s1 : Nat} (I : LJ xm M0 O t c c' k C0 S0 w mem) (h : ∀ C S F, RJ xm M0 t c' k C S F mem → dOk X (rJ fun v m => P v ∧ ∃ t', RJ xm M0 t' c' (k + 1) (C + c1) (S + s1) F m)) (hc : c1 ≤ 1141) (hs : s1 ≤ 6690) (K' : ∀ v m t', P v → LJ xm M0 O t' c c' (k + 1) (C0 + 1141) (S0 + 6690) w m → dOk (K v m) S) : dOk (dCJ X K) S := by
  obtain ⟨q, cap, T, h', A, h1, h2, I1, hz, tA, I⟩ := I
  refine ok_cJ (h _ _ _ I) fun v m hh => ?_
  obtain ⟨hv, t', J⟩ := hh
  exact K' v m t' hv ⟨q, cap, T, h', A, h1, h2, I1, hz, tA, J.up (Nat.le_refl _) (by omega) (by omega)⟩
theorem lj_cDE {K : UInt64 → kM → dRes} {P : UInt64 → Prop} (I : LJ xm M0 O t c c' k C0 S0 w mem) (h : ∀ cap F, KC xm c F 0 0 mem cap mem → dOk X (rD fun v m => P v ∧ KC xm c F 0 0 mem cap m)) (K' : ∀ v m w, P v → LJ xm M0 O t c c' k (C0 + 30) (S0 + 900) w m → dOk (K v m) S) : dOk (dCD X K) S := by
  obtain ⟨cap, G, D, back⟩ := I.cls
  exact ok_cD (h cap _ D) fun v m hh => K' v m w hh.1 (back m _ 0 0 w (by decide) (by decide) hh.2)
theorem lj_rDE {K : UInt64 → kM → dRes} {P : UInt64 → Prop} {c1 s1 : Nat} (I : LJ xm M0 O t c c' k C0 S0 w mem) (h : ∀ C S F, RJ xm M0 t c' k C S F mem → dOk X (rD fun v m => P v ∧ ∃ t', RJ xm M0 t' c' (k + 1) (C + c1) (S + s1) F m)) (hc : c1 ≤ 1141) (hs : s1 ≤ 6690) (K' : ∀ v m t', P v → LJ xm M0 O t' c c' (k + 1) (C0 + 1141) (S0 + 6690) w m → dOk (K v m) S) : dOk (dCD X K) S := by
  obtain ⟨q, cap, T, h', A, h1, h2, I1, hz, tA, I⟩ := I
  refine ok_cD (h _ _ _ I) fun v m hh => ?_
  obtain ⟨hv, t', J⟩ := hh
  exact K' v m t' hv ⟨q, cap, T, h', A, h1, h2, I1, hz, tA, J.up (Nat.le_refl _) (by omega) (by omega)⟩
end GG
