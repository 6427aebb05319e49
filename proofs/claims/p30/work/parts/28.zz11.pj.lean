/-! ===== a property of its own: the law's loop ===== -/
section PJJ
variable {xm : Nat → Option kE} {mem m0 : kM} {F G A : kSg} {S : kO × kM → Prop} {X : dRes} {N k n cap nb i j r t1 t2 z B R p M s v : Nat} {c c2 : aC} {sp : aR} {x y jo t u w a2 : Int32} {lo : List kLf} {bo pa vl vr ya ys xs : List Int32} {ps : List aS} {rs : List (List Int32)} {sc : Nat → Int32} {st : aS} {D : kM → dRes}
theorem q_cell {a : Nat} (hS : xm 0 = some (.inr (.inl (0, xs)))) (hL : xs.length < 2 ^ 31) (ha : a < 2 ^ 31) (mem : kM) : ∃ v : Int32, m_law_cell xm N 0 (Int32.ofNat a) mem = some (.inl (some (.int v)), mem) := by
  have h0 : kLook xm mem 0 = some (.inr (.inl (0, xs))) := by
    unfold kLook
    rw [if_pos (by decide)]
    exact hS
  by_cases g : a < xs.length
  · refine ⟨xs.getD a 0, ok_eq ?_⟩
    unfold m_law_cell
    refine ok_lenI h0 (by decide) ?_
    rw [if_pos ((i_lt ha hL).mpr g)]
    refine ok_iL h0 (i_inB g hL) ?_
    rw [i_nat ha]
    exact ok_me
  · refine ⟨790386105 * (Int32.ofNat a + 3), ok_eq ?_⟩
    unfold m_law_cell
    refine ok_lenI h0 (by decide) ?_
    rw [if_neg (fun q => g ((i_lt ha hL).mp q))]
    exact ok_me
theorem lw_23 (hX : kXok xm) (hN : 400 ≤ N) (hS : xm 0 = some (.inr (.inl (0, xs)))) (hL : xs.length < 2 ^ 31) (hB : B ≤ 700) (h2 : a2 = Int32.ofNat B) : ∀ (d i f n : Nat) (mem : kM) (c : aC), i + d = 45 → d < f → QC B (i + 1) c → n + 4100 * d + 5000 ≤ M → LwP xm c F n mem → dOk (m_law_law_23 xm N f 0 1000 a2 (Int32.ofNat i) mem) (rI fun v m => v = 1 ∧ ∃ c', LwP xm c' F M m) := by
  intro d
  induction d with
  | zero =>
    intro i f n mem c hd hf Q hM I
    obtain ⟨f, rfl⟩ : ∃ f', f = f' + 1 := ⟨f - 1, by omega⟩
    have ei : i = 45 := by omega
    subst ei
    obtain ⟨nb, jo, lo, bo, pa, ps, vl, vr, rs, ya, sc⟩ := c
    have e2 : nb = 2 := Q.2.1
    subst e2
    obtain ⟨T, h', I1⟩ := I.inv2
    obtain ⟨l1, l2⟩ := Q.len I1 hB
    rw [m_law_law_23, if_neg (by decide)]
    refine lp_digest hX (by omega) (by omega) (by omega) Q.1 I fun m I => ?_
    refine ok_cI (so_all hX hN Q hB (by omega) I) fun v m hh => ?_
    obtain ⟨rfl, I⟩ := hh
    rw [if_neg (by decide)]
    refine lp_digest hX (by omega) (by omega) (by omega) Q.1 I fun m I => ?_
    rw [if_pos (lg_self _)]
    exact ok_I ⟨rfl, _, I.up (by omega)⟩
  | succ d ih =>
    intro i f n mem c hd hf Q hM I
    obtain ⟨f, rfl⟩ : ∃ f', f = f' + 1 := ⟨f - 1, by omega⟩
    obtain ⟨nb, jo, lo, bo, pa, ps, vl, vr, rs, ya, sc⟩ := c
    have e2 : nb = 2 := Q.2.1
    subst e2
    obtain ⟨T, h', I1⟩ := I.inv2
    obtain ⟨l1, l2⟩ := Q.len I1 hB
    rw [m_law_law_23, if_pos (show Int32.ofNat i < 45 from (i_lt (b := 45) (by omega) (by decide)).mpr (by omega))]
    refine ok_nz (by decide) ?_
    have e8 : (8 : Int32) + (Int32.ofNat i - Int32.ofNat i / 20 * 20) = Int32.ofNat (8 + i % 20) := by
      rw [show (20 : Int32) = Int32.ofNat 20 from rfl, i_modN (by omega) (by decide) (by decide), show (8 : Int32) = Int32.ofNat 8 from rfl, i_add]
    obtain ⟨v37, hv⟩ := q_cell (N := N) hS hL (show 8 + i % 20 < 2 ^ 31 by omega) mem
    rw [e8]
    refine ok_eI hv ?_
    refine ok_nz (by decide) ?_
    have hys := Q.2.2.2.2.2.2.now.sum (show B ≤ 20000 by omega)
    refine lp_many (by omega) Q.1 1 (by decide) (Int32.ofNat (yOf (vl, vr, rs, ya, sc))) hys.1 rfl I fun m I => ?_
    refine lp_many (by omega) Q.1 3 (by decide) (Int32.ofNat vl.length) rfl rfl I fun m I => ?_
    refine lp_many (by omega) Q.1 4 (by decide) (Int32.ofNat vr.length) rfl rfl I fun m I => ?_
    refine lp_many (by omega) Q.1 7 (by decide) (Int32.ofNat lo.length) I1.made rfl I fun m I => ?_
    refine lp_on 0 (by decide) (nAt vl 0) rfl rfl I fun m I => ?_
    generalize v37 >>> (((Int32.ofNat i / 20) * 4) &&& 31) = x
    obtain ⟨r, hr, er⟩ := q_below xm N m x (k := 17) (by decide) (by decide)
    refine ok_eI er ?_
    have hK : kD xm B (i + 1 + 1) F (n + 5 + 60) (fun m => m_law_law_1303 xm N (fun a0 a1 a2 a3 mem => m_law_law_23 xm N f a0 a1 a2 a3 mem) 0 1000 a2 (Int32.ofNat i) m) (rI fun v m => v = 1 ∧ ∃ c', LwP xm c' F M m) := by
      intro c' m n' Q' hn' I'
      obtain ⟨nb, jo, lo, bo, pa, ps, vl, vr, rs, ya, sc⟩ := c'
      have e2 : nb = 2 := Q'.2.1
      subst e2
      show dOk (m_law_law_1303 xm N _ 0 1000 a2 (Int32.ofNat i) m) _
      unfold m_law_law_1303
      refine ok_cI (so_all hX hN Q' hB (by omega) I') fun v m hh => ?_
      obtain ⟨rfl, I⟩ := hh
      rw [if_neg (by decide)]
      have hys := Q'.2.2.2.2.2.2.now.sum (show B ≤ 20000 by omega)
      have hy2 := hys.2
      refine lp_many (by omega) Q'.1 1 (by decide) (Int32.ofNat (yOf (vl, vr, rs, ya, sc))) hys.1 rfl I fun m I => ?_
      rw [h2, if_neg (fun z => by have := (i_lt (by omega) (by omega)).mp z; omega), i_add1, ← h2]
      exact ih (i + 1) f _ m _ (by omega) (by omega) Q' (by omega) I
    refine sw_all (show (14 : Int) - 0 < ((15 : Nat) : Int) by decide) (lw_cast (v81 := 0) hX hN Q hB hK rfl rfl rfl rfl I) fun t ht => ?_
    simp only [List.mem_cons, List.not_mem_nil, or_false] at ht
    rcases ht with rfl | rfl | rfl | rfl | rfl | rfl | rfl | rfl | rfl | rfl | rfl | rfl | rfl | rfl | rfl
    · exact lw_step hX hN Q hB hK rfl rfl rfl rfl rfl I
    · exact lw_step hX hN Q hB hK rfl rfl rfl rfl rfl I
    · exact lw_step hX hN Q hB hK rfl rfl rfl rfl rfl I
    · exact lw_step hX hN Q hB hK rfl rfl rfl rfl rfl I
    · exact lw_turn hX hN Q hB hK rfl rfl I
    · exact lw_turn hX hN Q hB hK rfl rfl I
    · exact lw_turn hX hN Q hB hK rfl rfl I
    · exact lw_follow (v65 := 0) (v73 := 0) (v81 := 0) hX hN Q hB hK rfl rfl I
    · exact lw_undo hN Q hB hK rfl rfl I
    · exact lw_undo hN Q hB hK rfl rfl I
    · exact lw_drop hX hN Q hB hK rfl rfl I
    · exact lw_drop hX hN Q hB hK rfl rfl I
    · exact lw_latch (v51 := 0) (v73 := 0) (v81 := 0) (x := x) hX hN Q hB hK rfl rfl I
    · exact lw_bind (v73 := 0) (v81 := 0) hX hN Q hB hK rfl rfl rfl I
    · exact lw_cross (v51 := 0) (v65 := 0) (v73 := 0) hX hN Q hB hK rfl rfl I
end PJJ
