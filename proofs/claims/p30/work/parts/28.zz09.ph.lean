/-! ===== a property of its own: the law's cases: drop, turn, latch, bind, cross ===== -/
section PHH
variable {xm : Nat → Option kE} {mem m0 : kM} {F G A : kSg} {S : kO × kM → Prop} {X : dRes} {N k n cap nb i j r t1 t2 z B R p M s v n1 n2 : Nat} {c c2 : aC} {x y jo v51 v58 v65 v73 v81 t u w : Int32} {lo : List kLf} {bo pa vl vr ya ys vs wl us vl' vr' A3 xs ws : List Int32} {ps : List aS} {rs rs' : List (List Int32)} {sc sc' : Nat → Int32} {st : aS} {f : kLf} {T : Nat → Int32} {h : kHs} {D : kM → dRes} {w' : aW} {zz : List Int32}
theorem pSt.runs (h : pSt B R lo (vl, vr, rs, ya, sc)) (hr : ∀ z ∈ rs', rOk z) (h5 : sc' 5 = sc 5) (h6 : sc' 6 = sc 6) : pSt B R lo (vl', vr', rs', ya, sc') := by
  obtain ⟨a, b, n, r, h1, h2, h3, h4, h5', h6', h7, h8⟩ := h
  exact ⟨a, b, n, r, h1, h6.trans h2, h5.trans h3, h4, h5', h6', h7, hr⟩
theorem pSt.rsOk (h : pSt B R lo (vl, vr, rs, ya, sc)) : ∀ z ∈ rs, rOk z := by
  obtain ⟨a, b, n, r, h1, h2, h3, h4, h5, h6, h7, h8⟩ := h
  exact h8
theorem getD_last : (rs ++ [zz]).getD rs.length [] = zz := by
  rw [List.getD_eq_getElem?_getD, List.getElem?_append_right (Nat.le_refl _), Nat.sub_self]
  rfl
/-! drop -/
theorem spDrop_eq (h9 : rs.length ≠ 9) : spDrop (nb, jo, lo, bo, pa, ps, (wl ++ [w], vr, rs, ya, sc)) = (0, Int32.ofNat rs.length, (nb, jo, lo, bo, pa, pKeep ps (wl ++ [w], vr, rs, ya, sc), (wl, vr, rs ++ [[w, zHeight lo w, 0, 1]], ya, sc))) := by
  show (if _ ∨ _ then _ else _) = _
  rw [if_neg (fun z => z.elim (fun z => by simp at z) (fun z => h9 z)), List.dropLast_concat, List.getLastD_concat]
theorem lw_drop {K : Nat → Nat → Int32 → Int32 → kM → dRes} {a2 a3 a6 a9 : Int32} {a0 : Nat} (hX : kXok xm) (hN : 400 ≤ N) (Q : QC B R (2, jo, lo, bo, pa, ps, (vl, vr, rs, ya, sc))) (hB : B ≤ 700) (hK : kD xm B (R + 1) F (n + 60) (fun m => m_law_law_1303 xm N K a0 1000 a2 a3 m) S) (h6 : a6 = Int32.ofNat vl.length) (h9 : a9 = nAt vl 0) (I : LwP xm (2, jo, lo, bo, pa, ps, (vl, vr, rs, ya, sc)) F n mem) : dOk (m_law_law_791 xm N K a0 1000 a2 a3 a6 a9 mem) S := by
  obtain ⟨T, h', I1⟩ := I.inv2
  obtain ⟨l1, l2⟩ := Q.len I1 hB
  have Q0 := Q
  obtain ⟨q1, q2, q3, q5, q6, q7, J⟩ := Q0
  dsimp only at q2 q3 q5 q6 q7 J
  have l24 : vl.length ≤ 24 := I1.sw.1
  have l9 : rs.length ≤ 9 := I1.sw.2.2.1
  subst h6 h9
  unfold m_law_law_791
  refine ok_if (fun _ => hK _ _ _ Q.up (by omega) I) (fun g0 => ?_)
  have g0 : ¬ vl = [] := fun z => g0 (by rw [z]; rfl)
  refine lp_many (by omega) q1 12 (by decide) (Int32.ofNat rs.length) rfl rfl I fun m I => ?_
  refine ok_if (fun _ => hK _ _ _ Q.up (by omega) I) (fun g9 => ?_)
  have g9 : rs.length ≠ 9 := fun z => g9 (by rw [z]; rfl)
  obtain ⟨wl, w, rfl⟩ := len_ne g0
  have es := spDrop_eq (nb := 2) (jo := jo) (lo := lo) (bo := bo) (pa := pa) (ps := ps) (wl := wl) (w := w) (vr := vr) (ya := ya) (sc := sc) g9
  have ho : cOk (spDrop (2, jo, lo, bo, pa, ps, (wl ++ [w], vr, rs, ya, sc))).2.2 := ok_drop q1
  rw [es] at ho
  refine lp_rc I (lp_I I (fun cap Dd => q_drop (lo := lo) (bo := bo) hX (by omega) (by omega) (by omega) Dd) es fun m I => ?_)
  obtain ⟨i, ei, hi⟩ : aId lo.length w := I1.1.2.1.2.2.1 w (List.mem_append_right _ (List.mem_singleton.mpr rfl))
  have hz : rOk [w, zHeight lo w, 0, 1] := by
    obtain ⟨q, e1, e2, e3⟩ := zHeight_at J.1 hi (by omega)
    rw [ei]
    exact ⟨rfl, q, 0, e1, rfl, Nat.zero_le _, by omega⟩
  have Q' : QC B R (2, jo, lo, bo, pa, pKeep ps (wl ++ [w], vr, rs, ya, sc), (wl, vr, rs ++ [[w, zHeight lo w, 0, 1]], ya, sc)) := by
    refine ⟨ho, rfl, q3, q5, q6, q7, J.step J.1 (J.now.runs (fun z hz' => ?_) rfl rfl) ⟨[], (List.append_nil _).symm⟩ J.2.1 (Nat.le_refl _)⟩
    rcases List.mem_append.mp hz' with h | h
    · exact J.now.rsOk z h
    · rw [List.mem_singleton.mp h]
      exact hz
  obtain ⟨T', h2', I2⟩ := I.inv2
  have hl : (rs ++ [[w, zHeight lo w, 0, 1]]).length = rs.length + 1 := by rw [List.length_append]; rfl
  have ew : nAt (wl ++ [w]) 0 = w := nAt_last
  rw [ew]
  have hid : aId lo.length w := ⟨i, ei, hi⟩
  refine lp_ofRun rs.length 0 (by omega) (by decide) w (by rw [getD_last]; rfl) rfl rfl I fun m I => ?_
  rw [if_pos rfl]
  refine lp_ofLoop (by omega) (by omega) (by omega) 5 (by decide) 4 hid ?_ rfl I fun m I => ?_
  · show zWhere wl vr (rs ++ [[w, zHeight lo w, 0, 1]]) bo w = 4
    rw [zWhere_n, (zW_iff I2 (by omega)).1.mpr]
    · rfl
    · rw [openL_snoc, if_pos (show [w, zHeight lo w, 0, 1].getD 3 0 = 1 from rfl)]
      exact List.mem_append_right _ (List.mem_singleton.mpr rfl)
  rw [if_pos rfl]
  refine lp_ofRun rs.length 1 (by omega) (by decide) (zHeight lo w) (by rw [getD_last]; rfl) rfl rfl I fun m I => ?_
  refine lp_ofLoop (by omega) (by omega) (by omega) 3 (by decide) (zHeight lo w) hid rfl rfl I fun m I => ?_
  rw [if_pos rfl]
  refine lp_ofRun rs.length 2 (by omega) (by decide) 0 (by rw [getD_last]; rfl) rfl rfl I fun m I => ?_
  rw [if_pos rfl]
  refine lp_many (by omega) Q'.1 3 (by decide) (Int32.ofNat wl.length) rfl rfl I fun m I => ?_
  rw [if_pos (by rw [List.length_append, List.length_singleton, i_sub1 (by omega), Nat.add_sub_cancel])]
  exact hK _ _ _ Q'.up (by omega) I
/-! turn -/
theorem and1_or (r : Int32) : r &&& 1 = 0 ∨ r &&& 1 = 1 := by
  have e : (r &&& 1).toBitVec.toNat = r.toBitVec.toNat % 2 := by
    rw [Int32.toBitVec_and, BitVec.toNat_and]
    exact Nat.and_one_is_mod _
  rcases Nat.mod_two_eq_zero_or_one r.toBitVec.toNat with h | h
  · exact Or.inl (Int32.toBitVec_inj.mp (BitVec.eq_of_toNat_eq (by rw [e, h]; rfl)))
  · exact Or.inr (Int32.toBitVec_inj.mp (BitVec.eq_of_toNat_eq (by rw [e, h]; rfl)))
theorem zSm_flip (hx : x = 0 ∨ x = 1) (hf : f.2.2.2.2.1 = 0 ∨ f.2.2.2.2.1 = 1) : zSm f (1 - x) = !zSm f x := by
  unfold zSm
  rcases hx with rfl | rfl <;> rcases hf with e | e <;> rw [e] <;> by_cases g : f.1 = 0 ∨ f.1 = 2
  all_goals first | (rw [if_pos g, if_pos g]; rfl) | (rw [if_neg g, if_neg g]; rfl)
theorem zDf_not {b : Nat → Bool} : ∀ n, zDf (fun i => !b i) n = zDf b n := by
  intro n
  induction n with
  | zero => rfl
  | succ n ih =>
    unfold zDf
    rw [ih]
    congr 1
    cases b (n + 1) <;> cases b n <;> rfl
theorem zWd_flip (hx : x = 0 ∨ x = 1) (hl : ∀ f ∈ lo, f.2.2.2.2.1 = 0 ∨ f.2.2.2.2.1 = 1) : zWd lo (1 - x) vs = zWd lo x vs := by
  have e : zB lo (1 - x) vs = fun i => !zB lo x vs i := by
    funext i
    unfold zB
    refine zSm_flip hx ?_
    unfold zLoop
    rw [List.getD_eq_getElem?_getD]
    cases e : lo[(vs.getD i 0).toNatClampNeg]? with
    | none => exact Or.inl rfl
    | some f => exact hl f (List.mem_of_getElem? e)
  unfold zWd
  rw [e, zDf_not]
theorem wd_same {z : Nat} (hz : z ≤ 96) : Op.cmpValue (FP.dcmp (FP.f2d (wf z)) (FP.f2d (wf z))) .l = 0 := by
  have h : (List.range 97).all (fun z => Op.cmpValue (FP.dcmp (FP.f2d (wf z)) (FP.f2d (wf z))) .l == 0) = true := by decide +kernel
  exact eq_of_beq (List.all_eq_true.mp h z (List.mem_range.mpr (by omega)))
theorem lRel.side {T : Nat → Int32} (l : lRel T lo) : ∀ f ∈ lo, f.2.2.2.2.1 = 0 ∨ f.2.2.2.2.1 = 1 := by
  intro f hf
  obtain ⟨i, hi⟩ := List.mem_iff_getElem?.mp hf
  rw [(l i f hi).2.2.2.2.2]
  exact and1_or _
theorem lw_turn {K : Nat → Nat → Int32 → Int32 → kM → dRes} {a2 a3 a6 a7 : Int32} {a0 : Nat} (hX : kXok xm) (hN : 400 ≤ N) (Q : QC B R (2, jo, lo, bo, pa, ps, (vl, vr, rs, ya, sc))) (hB : B ≤ 700) (hK : kD xm B (R + 1) F (n + 60) (fun m => m_law_law_1303 xm N K a0 1000 a2 a3 m) S) (h6 : a6 = Int32.ofNat vl.length) (h7 : a7 = Int32.ofNat vr.length) (I : LwP xm (2, jo, lo, bo, pa, ps, (vl, vr, rs, ya, sc)) F n mem) : dOk (m_law_law_544 xm N K a0 1000 a2 a3 a6 a7 mem) S := by
  obtain ⟨T, h', I1⟩ := I.inv2
  obtain ⟨l1, l2⟩ := Q.len I1 hB
  have Q0 := Q
  obtain ⟨q1, q2, q3, q5, q6, q7, J⟩ := Q0
  dsimp only at q2 q3 q5 q6 q7 J
  have l24 : vl.length ≤ 24 := I1.sw.1
  have r24 : vr.length ≤ 24 := I1.sw.2.1
  have hx4 : sc 4 = 0 ∨ sc 4 = 1 := by
    obtain ⟨o1, -⟩ := I1.2.2.2.1 _ (List.mem_append_right _ (List.mem_singleton.mpr rfl))
    dsimp only at o1
    rw [o1]
    exact and1_or _
  have efl : zWd lo (1 - sc 4) vr = zWd lo (sc 4) vr := zWd_flip hx4 I1.2.1.side
  subst h6 h7
  unfold m_law_law_544
  rw [i_add]
  refine ok_if (fun _ => hK _ _ _ Q.up (by omega) I) (fun g0 => ?_)
  have g0 : ¬ vl.length + vr.length = 0 := fun z => g0 (by rw [z]; rfl)
  refine lp_width (by omega) (by omega) I fun m I => ?_
  rw [if_neg (show ¬ (1 : Int32) = 0 by decide)]
  refine lp_many (by omega) q1 10 (by decide) (sc 10) rfl rfl I fun m I => ?_
  refine lp_many (by omega) q1 5 (by decide) (sc 4) rfl rfl I fun m I => ?_
  have es : spTurn (2, jo, lo, bo, pa, ps, (vl, vr, rs, ya, sc)) = (0, Int32.ofNat vr.length, (2, jo, lo, bo, pa, pKeep ps (vl, vr, rs, ya, sc), (vr, vl, rs, ya, kUp (kUp (kUp sc 10 (sc 10 + if vl = [] then 0 else 1)) 4 (1 - sc 4)) 5 (sc 5 + 1)))) := by
    show (if _ then _ else _) = _
    rw [if_neg g0]
  have ho : cOk (spTurn (2, jo, lo, bo, pa, ps, (vl, vr, rs, ya, sc))).2.2 := ok_turn q1
  rw [es] at ho
  refine lp_rc I (lp_I I (fun cap Dd => q_turn (lo := lo) (bo := bo) hX (by omega) (by omega) (by omega) Dd) es fun m I => ?_)
  rw [if_pos rfl]
  have Q' : QC B (R + 1) (2, jo, lo, bo, pa, pKeep ps (vl, vr, rs, ya, sc), (vr, vl, rs, ya, kUp (kUp (kUp sc 10 (sc 10 + if vl = [] then 0 else 1)) 4 (1 - sc 4)) 5 (sc 5 + 1))) := ⟨ho, rfl, q3, q5, q6, q7, J.turn⟩
  have c4 : kUp (kUp (kUp sc 10 (sc 10 + if vl = [] then 0 else 1)) 4 (1 - sc 4)) 5 (sc 5 + 1) 4 = 1 - sc 4 := by rw [kUp_ne (by decide), kUp_eq]
  have c10 : kUp (kUp (kUp sc 10 (sc 10 + if vl = [] then 0 else 1)) 4 (1 - sc 4)) 5 (sc 5 + 1) 10 = sc 10 + if vl = [] then 0 else 1 := by rw [kUp_ne (by decide), kUp_ne (by decide), kUp_eq]
  generalize kUp (kUp (kUp sc 10 (sc 10 + if vl = [] then 0 else 1)) 4 (1 - sc 4)) 5 (sc 5 + 1) = sc' at *
  refine lp_many (by omega) Q'.1 4 (by decide) (Int32.ofNat vl.length) rfl rfl I fun m I => ?_
  rw [if_pos rfl]
  refine lp_width (by omega) (by omega) I fun m I => ?_
  rw [if_pos rfl, c4, efl, if_pos (wd_same (zWd_le r24))]
  refine lp_many (by omega) Q'.1 10 (by decide) (sc' 10) rfl rfl I fun m I => ?_
  have fin : ∀ w : Int32, sc' 10 = sc 10 + w → dOk (m_law_law_625 xm N K a0 1000 a2 a3 (sc 4) (sc' 10) (sc 10) w m) S := by
    intro w hw
    unfold m_law_law_625
    rw [if_pos hw]
    refine lp_many (by omega) Q'.1 5 (by decide) (1 - sc 4) c4 rfl I fun m I => ?_
    rw [if_pos rfl]
    exact hK _ _ _ Q' (by omega) I
  by_cases gl : vl = []
  · rw [if_pos gl] at c10
    rw [if_neg (show ¬ (0 : Int32) < Int32.ofNat vl.length by rw [gl]; decide)]
    exact fin 0 c10
  · rw [if_neg gl] at c10
    have : vl.length ≠ 0 := fun z => gl (List.eq_nil_of_length_eq_zero z)
    rw [if_pos (show (0 : Int32) < Int32.ofNat vl.length from (i_lt (a := 0) (by decide) (by omega)).mpr (by omega))]
    exact fin 1 c10
/-! latch -/
theorem spLatch_eq (hr : r < rs.length) (h9 : rs.length ≤ 9) (h0 : (rs.getD r []).getD 3 0 ≠ 0) (h24 : vl.length + vr.length ≠ 24) : spLatch (Int32.ofNat r) (nb, jo, lo, bo, pa, ps, (vl, vr, rs, ya, sc)) = (0, (rs.getD r []).getD 2 0, (nb, jo, lo, bo, pa, pKeep ps (vl, vr, rs, ya, sc), (vl ++ [(rs.getD r []).getD 0 0], vr, rs.set r ((rs.getD r []).set 3 0), ya, sc))) := by
  show (if _ ∨ _ then _ else if _ ∨ _ then _ else _) = _
  rw [if_neg (nrg hr (by omega)), i_nat (by omega), if_neg (fun z => z.elim h0 h24)]
theorem lw_latch (hX : kXok xm) (hN : 400 ≤ N) (Q : QC B R (2, jo, lo, bo, pa, ps, (vl, vr, rs, ya, sc))) (hB : B ≤ 700) (hK : kD xm B (R + 1) F (n + 60) D S) (h58 : v58 = Int32.ofNat vl.length) (h65 : v65 = Int32.ofNat vr.length) (I : LwP xm (2, jo, lo, bo, pa, ps, (vl, vr, rs, ya, sc)) F n mem) : dOk (lc_latch xm N D x v51 v58 v65 v73 v81 mem) S := by
  obtain ⟨T, h', I1⟩ := I.inv2
  obtain ⟨l1, l2⟩ := Q.len I1 hB
  have Q0 := Q
  obtain ⟨q1, q2, q3, q5, q6, q7, J⟩ := Q0
  dsimp only at q2 q3 q5 q6 q7 J
  have l24 : vl.length + vr.length ≤ 24 := I1.1.2.1.2.1
  have l9 : rs.length ≤ 9 := I1.sw.2.2.1
  subst h58 h65
  unfold lc_latch
  refine lp_many (by omega) q1 12 (by decide) (Int32.ofNat rs.length) rfl rfl I fun m I => ?_
  by_cases g0 : rs.length = 0
  · rw [if_pos (show Int32.ofNat rs.length - 1 < 0 by rw [g0]; decide)]
    exact hK _ _ _ Q.up (by omega) I
  obtain ⟨r, hr⟩ : ∃ r, rs.length = r + 1 := ⟨rs.length - 1, by omega⟩
  have e1 : Int32.ofNat rs.length - 1 = Int32.ofNat r := by rw [i_sub1 (by omega), hr, Nat.add_sub_cancel]
  rw [e1, if_neg (i_nn (by omega))]
  have hrl : r < rs.length := by omega
  refine lp_ofRun r 3 hrl (by decide) ((rs.getD r []).getD 3 0) rfl rfl rfl I fun m I => ?_
  refine ok_if (fun _ => hK _ _ _ Q.up (by omega) I) (fun g3 => ?_)
  rw [i_add]
  refine ok_if (fun _ => hK _ _ _ Q.up (by omega) I) (fun g24 => ?_)
  have g24 : vl.length + vr.length ≠ 24 := fun z => g24 (by rw [z]; rfl)
  have es := spLatch_eq (nb := 2) (jo := jo) (lo := lo) (bo := bo) (pa := pa) (ps := ps) (vl := vl) (vr := vr) (ya := ya) (sc := sc) hrl l9 g3 g24
  have ho : cOk (spLatch (Int32.ofNat r) (2, jo, lo, bo, pa, ps, (vl, vr, rs, ya, sc))).2.2 := ok_latch q1
  rw [es] at ho
  refine lp_rc I (lp_I I (fun cap Dd => q_latch (lo := lo) (bo := bo) hX (by omega) (by omega) (by omega) q1.1.2 Dd) es fun m I => ?_)
  have hmem : rs.getD r [] ∈ rs := by
    rw [List.getD_eq_getElem?_getD, List.getElem?_eq_getElem hrl]
    exact List.getElem_mem hrl
  have hzl : (rs.getD r []).length = 4 := (J.now.rsOk _ hmem).1
  have Q' : QC B R (2, jo, lo, bo, pa, pKeep ps (vl, vr, rs, ya, sc), (vl ++ [(rs.getD r []).getD 0 0], vr, rs.set r ((rs.getD r []).set 3 0), ya, sc)) := by
    refine ⟨ho, rfl, q3, q5, q6, q7, J.step J.1 (J.now.runs (fun z hz' => ?_) rfl rfl) ⟨[], (List.append_nil _).symm⟩ J.2.1 (Nat.le_refl _)⟩
    rcases List.mem_or_eq_of_mem_set hz' with h | h
    · exact J.now.rsOk z h
    · obtain ⟨h4, d, e, a1, a2, a3⟩ := J.now.rsOk _ hmem
      rw [h]
      refine ⟨by rw [List.length_set]; exact h4, d, e, ?_, ?_, a3⟩
      · rw [List.getD_eq_getElem?_getD, List.getElem?_set_ne (by decide), ← List.getD_eq_getElem?_getD]
        exact a1
      · rw [List.getD_eq_getElem?_getD, List.getElem?_set_ne (by decide), ← List.getD_eq_getElem?_getD]
        exact a2
  have eg : (rs.set r ((rs.getD r []).set 3 0)).getD r [] = (rs.getD r []).set 3 0 := by
    rw [List.getD_eq_getElem?_getD, List.getElem?_set_self hrl]
    rfl
  have hrl2 : r < (rs.set r ((rs.getD r []).set 3 0)).length := by rw [List.length_set]; exact hrl
  refine lp_ofRun r 2 hrl2 (by decide) ((rs.getD r []).getD 2 0) (by rw [eg, List.getD_eq_getElem?_getD, List.getElem?_set_ne (by decide), ← List.getD_eq_getElem?_getD]) rfl rfl I fun m I => ?_
  rw [if_pos rfl]
  refine lp_on 0 (by decide) ((rs.getD r []).getD 0 0) (by rw [if_pos rfl, nAt_last]) rfl I fun m I => ?_
  refine lp_ofRun r 0 hrl2 (by decide) ((rs.getD r []).getD 0 0) (by rw [eg, List.getD_eq_getElem?_getD, List.getElem?_set_ne (by decide), ← List.getD_eq_getElem?_getD]) rfl rfl I fun m I => ?_
  rw [if_pos rfl]
  refine lp_ofRun r 3 hrl2 (by decide) 0 (by rw [eg, List.getD_eq_getElem?_getD, List.getElem?_set_self (by omega)]; rfl) rfl rfl I fun m I => ?_
  rw [if_pos rfl]
  refine lp_many (by omega) Q'.1 3 (by decide) (Int32.ofNat (vl ++ [(rs.getD r []).getD 0 0]).length) rfl rfl I fun m I => ?_
  rw [if_pos (by rw [List.length_append, List.length_singleton, i_add1])]
  exact hK _ _ _ Q'.up (by omega) I
/-! bind -/
theorem vr_split {k : Nat} (h : k < vr.length) : ∃ (wl us : List Int32) (t : Int32), vr = wl ++ us.reverse ++ [t] ∧ us.length = k := by
  obtain ⟨w0, t, rfl⟩ := len_ne (l := vr) (fun z => by rw [z] at h; exact absurd h (Nat.not_lt_zero _))
  rw [List.length_append, List.length_singleton] at h
  refine ⟨w0.take (w0.length - k), (w0.drop (w0.length - k)).reverse, t, ?_, ?_⟩
  · rw [List.reverse_reverse, List.take_append_drop]
  · rw [List.length_reverse, List.length_drop]
    omega
theorem nAt_two : nAt (wl ++ [u, t]) 1 = u := by
  unfold nAt
  have e : (wl ++ [u, t]).length = wl.length + 2 := by rw [List.length_append]; rfl
  rw [e, if_pos (by omega), show wl.length + 2 - 1 - 1 = wl.length by omega, List.getD_eq_getElem?_getD, List.getElem?_append_right (Nat.le_refl _), Nat.sub_self]
  rfl
theorem spBind_eq {k : Nat} (h1 : 1 ≤ k) (h2 : k ≤ 24) (h3 : k < vr.length) : spBind (Int32.ofNat k) (nb, jo, lo, bo, pa, ps, (vl, vr, rs, ya, sc)) = (0, Int32.ofNat (vl.length + vr.length - k), wC nb jo pa (pKeep ps (vl, vr, rs, ya, sc)) (zIter zBind1 k (lo, bo, (vl, vr, rs, ya, sc)))) := by
  show (if _ ∨ _ then _ else if _ ∧ _ then _ else if _ then _ else _) = _
  rw [if_neg (show ¬ (Int32.ofNat k < 1 ∨ (24 : Int32) < Int32.ofNat k) from nrg1 h1 h2 (by decide)), i_nat (by omega), if_neg (fun z => by omega), if_neg (by omega)]
theorem lw_bind (hX : kXok xm) (hN : 400 ≤ N) (Q : QC B R (2, jo, lo, bo, pa, ps, (vl, vr, rs, ya, sc))) (hB : B ≤ 700) (hK : kD xm B (R + 1) F (n + 60) D S) (h51 : v51 = Int32.ofNat (yOf (vl, vr, rs, ya, sc))) (h58 : v58 = Int32.ofNat vl.length) (h65 : v65 = Int32.ofNat vr.length) (I : LwP xm (2, jo, lo, bo, pa, ps, (vl, vr, rs, ya, sc)) F n mem) : dOk (lc_bind xm N D x v51 v58 v65 v73 v81 mem) S := by
  obtain ⟨T, h', I1⟩ := I.inv2
  obtain ⟨l1, l2⟩ := Q.len I1 hB
  have Q0 := Q
  obtain ⟨q1, q2, q3, q5, q6, q7, J⟩ := Q0
  dsimp only at q2 q3 q5 q6 q7 J
  have l24 : vl.length + vr.length ≤ 24 := I1.1.2.1.2.1
  subst h51 h58 h65
  unfold lc_bind
  obtain ⟨r, hr, er⟩ := q_below xm N mem (x >>> (4 &&& 31)) (k := 3) (by decide) (by decide)
  refine ok_eI er ?_
  have e1 : (1 : Int32) + Int32.ofNat r = Int32.ofNat (r + 1) := by rw [show (1 : Int32) = Int32.ofNat 1 from rfl, i_add, Nat.add_comm]
  rw [e1]
  refine ok_if (fun g => ?_) (fun _ => hK _ _ _ Q.up (by omega) I)
  have g : r + 1 < vr.length := (i_lt (by omega) (by omega)).mp g
  obtain ⟨wl, us, t, evr, hus⟩ := vr_split g
  obtain ⟨u, us, rfl⟩ : ∃ u us', us = u :: us' := by
    cases us with
    | nil =>
      rw [List.length_nil] at hus
      omega
    | cons u us => exact ⟨u, us, rfl⟩
  have a0 : nAt vr 0 = t := by rw [evr]; exact nAt_last
  have a1 : nAt vr 1 = u := by
    rw [evr, show wl ++ (u :: us).reverse ++ [t] = (wl ++ us.reverse) ++ [u, t] by simp]
    exact nAt_two
  have hsub : ∀ v ∈ u :: us, v ∈ vr := by
    intro v hv
    rw [evr]
    exact List.mem_append_left _ (List.mem_append_right _ (List.mem_reverse.mpr hv))
  refine lp_many (by omega) q1 11 (by decide) (Int32.ofNat bo.length) I1.bnd rfl I fun m I => ?_
  refine lp_on 0 (by decide) t (by rw [if_neg (by decide), a0]) rfl I fun m I => ?_
  refine lp_on 1 (by decide) u (by rw [if_neg (by decide), a1]) rfl I fun m I => ?_
  obtain ⟨sc', eB, c7, cK⟩ := zBindN (lo := lo) (vl := vl) (rs := rs) (ya := ya) (u :: us) wl bo t sc
  rw [← evr, hus] at eB
  have es := spBind_eq (nb := 2) (jo := jo) (lo := lo) (bo := bo) (pa := pa) (ps := ps) (vl := vl) (rs := rs) (ya := ya) (sc := sc) (show 1 ≤ r + 1 by omega) (show r + 1 ≤ 24 by omega) g
  have ho : cOk (spBind (Int32.ofNat (r + 1)) (2, jo, lo, bo, pa, ps, (vl, vr, rs, ya, sc))).2.2 := ok_bind I1.jj (by decide) q1
  rw [es, eB] at ho
  rw [eB] at es
  refine lp_rc I (lp_I I (fun cap Dd => q_bind (lo := lo) (bo := bo) hX (by omega) (by omega) (by omega) Dd) es fun m I => ?_)
  rw [if_pos (by rw [i_add, i_sub (by omega)])]
  have ho : cOk (2, jo, lo, bo ++ u :: us, pa, pKeep ps (vl, vr, rs, ya, sc), (vl, wl ++ [t], rs, ya, sc')) := ho
  have I : LwP xm (2, jo, lo, bo ++ u :: us, pa, pKeep ps (vl, vr, rs, ya, sc), (vl, wl ++ [t], rs, ya, sc')) F _ m := I
  have hlb : (bo ++ u :: us).length = bo.length + (r + 1) := by rw [List.length_append, hus]
  have nd : (bo ++ u :: us).Nodup := by
    have hd := (List.nodup_append.mp (List.nodup_append.mp I1.nd).1).2.1
    rw [evr] at hd
    refine List.nodup_append.mpr ⟨J.2.1, (List.reverse_perm _).nodup_iff.mp (List.nodup_append.mp (List.nodup_append.mp hd).1).2.1, fun a ha b hb e => ?_⟩
    subst e
    exact (I1.apart (by omega) a ha).2.1 (hsub a hb)
  have Q' : QC B R (2, jo, lo, bo ++ u :: us, pa, pKeep ps (vl, vr, rs, ya, sc), (vl, wl ++ [t], rs, ya, sc')) := ⟨ho, rfl, q3, q5, q6, by dsimp only; omega, J.step J.1 (J.now.runs J.now.rsOk (cK 5 (by decide)) (cK 6 (by decide))) ⟨[], (List.append_nil _).symm⟩ nd (Nat.le_refl _)⟩
  obtain ⟨T', h2', I2⟩ := I.inv2
  refine lp_many (by omega) Q'.1 11 (by decide) (Int32.ofNat (bo ++ u :: us).length) I2.bnd rfl I fun m I => ?_
  rw [if_pos (by rw [i_add, hlb])]
  refine lp_on 0 (by decide) t (by rw [if_neg (by decide), nAt_last]) rfl I fun m I => ?_
  rw [if_pos rfl]
  refine lp_ofLoop (by omega) (by omega) (by omega) 5 (by decide) 3 (I1.1.2.1.2.2.2.1 u (hsub u List.mem_cons_self)) ?_ rfl I fun m I => ?_
  · show zWhere vl (wl ++ [t]) rs (bo ++ u :: us) u = 3
    rw [zWhere_n, (zW_iff I2 (by omega)).2.2.2.mpr (List.mem_append_right _ List.mem_cons_self)]
    rfl
  rw [if_pos rfl]
  refine lp_many (by omega) Q'.1 1 (by decide) (Int32.ofNat (yOf (vl, vr, rs, ya, sc))) (J.now.sum (by omega)).1 rfl I fun m I => ?_
  rw [if_pos rfl]
  exact hK _ _ _ Q'.up (by omega) I
/-! cross -/
theorem getD_app3 {i : Nat} (hi : i < xs.length) : (A3 ++ xs ++ ws).getD (A3.length + i) 0 = xs.getD i 0 := by
  rw [List.append_assoc, List.getD_eq_getElem?_getD, List.getElem?_append_right (by omega), Nat.add_sub_cancel_left, List.getElem?_append_left hi, ← List.getD_eq_getElem?_getD]
theorem getD_app4 {i : Nat} : (A3 ++ xs ++ ws).getD (A3.length + xs.length + i) 0 = ws.getD i 0 := by
  rw [List.getD_eq_getElem?_getD, List.getElem?_append_right (by rw [List.length_append]; omega), List.length_append, Nat.add_sub_cancel_left, ← List.getD_eq_getElem?_getD]
theorem cross_at {n1 n2 : Nat} (h1 : 1 ≤ n1) (h2 : 1 ≤ n2) (hl : n1 + n2 ≤ vl.length) : nAt (zCrossL n1 n2 vl) 0 = nAt vl n1 ∧ nAt (zCrossL n1 n2 vl) n2 = nAt vl 0 ∧ (zCrossL n1 n2 vl).length = vl.length := by
  obtain ⟨A3, xs, ws, e, hx, hw⟩ : ∃ A3 xs ws, vl = A3 ++ xs ++ ws ∧ xs.length = n2 ∧ ws.length = n1 := by
    refine ⟨vl.take (vl.length - (n1 + n2)), (vl.drop (vl.length - (n1 + n2))).take n2, (vl.drop (vl.length - (n1 + n2))).drop n2, ?_, ?_, ?_⟩
    · rw [List.append_assoc, List.take_append_drop, List.take_append_drop]
    · rw [List.length_take, List.length_drop]
      omega
    · rw [List.length_drop, List.length_drop]
      omega
  subst e
  have l1 : (A3 ++ xs ++ ws).length = A3.length + n2 + n1 := by rw [List.length_append, List.length_append, hx, hw]
  have l2 : (A3 ++ ws ++ xs).length = A3.length + n1 + n2 := by rw [List.length_append, List.length_append, hx, hw]
  rw [zCrossL_eq hw hx]
  refine ⟨?_, ?_, by omega⟩
  · unfold nAt
    rw [l1, l2, if_pos (by omega), if_pos (by omega)]
    rw [show A3.length + n1 + n2 - 1 - 0 = A3.length + ws.length + (n2 - 1) by omega, getD_app4, show A3.length + n2 + n1 - 1 - n1 = A3.length + (n2 - 1) by omega, getD_app3 (by omega)]
  · unfold nAt
    rw [l1, l2, if_pos (by omega), if_pos (by omega)]
    rw [show A3.length + n1 + n2 - 1 - n2 = A3.length + (n1 - 1) by omega, getD_app3 (by omega), show A3.length + n2 + n1 - 1 - 0 = A3.length + xs.length + (n1 - 1) by omega, getD_app4]
theorem spCross_eq {n1 n2 : Nat} (h1 : 1 ≤ n1) (h2 : 1 ≤ n2) (h3 : n1 ≤ 3) (h4 : n2 ≤ 3) (hl : n1 + n2 ≤ vl.length) : spCross (Int32.ofNat n1) (Int32.ofNat n2) (nb, jo, lo, bo, pa, ps, (vl, vr, rs, ya, sc)) = (0, nAt (zCrossL n1 n2 vl) 0, (nb, jo, lo, bo, pa, pKeep ps (vl, vr, rs, ya, sc), (zCrossL n1 n2 vl, vr, rs, ya, kUp sc 9 (sc 9 + 1)))) := by
  show (if _ ∨ _ then _ else if _ then _ else _) = _
  rw [if_neg (show ¬ ((Int32.ofNat n1 < 1 ∨ (3 : Int32) < Int32.ofNat n1) ∨ Int32.ofNat n2 < 1 ∨ (3 : Int32) < Int32.ofNat n2) from fun z => z.elim (nrg1 h1 h3 (by decide)) (nrg1 h2 h4 (by decide))), i_nat (by omega), i_nat (by omega), if_neg (by omega)]
  rfl
theorem lw_cross (hX : kXok xm) (hN : 400 ≤ N) (Q : QC B R (2, jo, lo, bo, pa, ps, (vl, vr, rs, ya, sc))) (hB : B ≤ 700) (hK : kD xm B (R + 1) F (n + 60) D S) (h58 : v58 = Int32.ofNat vl.length) (h81 : v81 = nAt vl 0) (I : LwP xm (2, jo, lo, bo, pa, ps, (vl, vr, rs, ya, sc)) F n mem) : dOk (lc_cross xm N D x v51 v58 v65 v73 v81 mem) S := by
  obtain ⟨T, h', I1⟩ := I.inv2
  obtain ⟨l1, l2⟩ := Q.len I1 hB
  have Q0 := Q
  obtain ⟨q1, q2, q3, q5, q6, q7, J⟩ := Q0
  dsimp only at q2 q3 q5 q6 q7 J
  have l24 : vl.length ≤ 24 := I1.sw.1
  subst h58 h81
  unfold lc_cross
  obtain ⟨r, hr, er⟩ := q_below xm N mem (x >>> (4 &&& 31)) (k := 3) (by decide) (by decide)
  obtain ⟨r2, hr2, er2⟩ := q_below xm N mem (x >>> (6 &&& 31)) (k := 3) (by decide) (by decide)
  refine ok_eI er (ok_eI er2 ?_)
  have e1 : (1 : Int32) + Int32.ofNat r = Int32.ofNat (r + 1) := by rw [show (1 : Int32) = Int32.ofNat 1 from rfl, i_add, Nat.add_comm]
  have e2 : (1 : Int32) + Int32.ofNat r2 = Int32.ofNat (r2 + 1) := by rw [show (1 : Int32) = Int32.ofNat 1 from rfl, i_add, Nat.add_comm]
  rw [e1, e2, i_add]
  refine ok_if (fun _ => hK _ _ _ Q.up (by omega) I) (fun g => ?_)
  have g : r + 1 + (r2 + 1) ≤ vl.length := Nat.not_lt.mp fun z => g ((i_lt (by omega) (by omega)).mpr z)
  obtain ⟨b1, b2, b3⟩ := cross_at (n1 := r + 1) (n2 := r2 + 1) (by omega) (by omega) g
  refine lp_on (r + 1) (by omega) (nAt vl (r + 1)) (by rw [if_pos rfl]) rfl I fun m I => ?_
  refine lp_many (by omega) q1 9 (by decide) (sc 9) rfl rfl I fun m I => ?_
  have es := spCross_eq (nb := 2) (jo := jo) (lo := lo) (bo := bo) (pa := pa) (ps := ps) (vr := vr) (rs := rs) (ya := ya) (sc := sc) (show 1 ≤ r + 1 by omega) (show 1 ≤ r2 + 1 by omega) (by omega) (by omega) g
  have ho : cOk (spCross (Int32.ofNat (r + 1)) (Int32.ofNat (r2 + 1)) (2, jo, lo, bo, pa, ps, (vl, vr, rs, ya, sc))).2.2 := ok_cross q1
  rw [es] at ho
  refine lp_rc I (lp_I I (fun cap Dd => q_cross (lo := lo) (bo := bo) hX (by omega) (by omega) (by omega) Dd) es fun m I => ?_)
  rw [if_pos b1]
  have Q' : QC B R (2, jo, lo, bo, pa, pKeep ps (vl, vr, rs, ya, sc), (zCrossL (r + 1) (r2 + 1) vl, vr, rs, ya, kUp sc 9 (sc 9 + 1))) := ⟨ho, rfl, q3, q5, q6, q7, J.step J.1 (J.now.runs J.now.rsOk (kUp_ne (by decide)) (kUp_ne (by decide))) ⟨[], (List.append_nil _).symm⟩ J.2.1 (Nat.le_refl _)⟩
  refine lp_on (r2 + 1) (by omega) (nAt vl 0) (by rw [if_pos rfl]; exact b2) rfl I fun m I => ?_
  rw [if_pos rfl]
  refine lp_many (by omega) Q'.1 9 (by decide) (sc 9 + 1) (show kUp sc 9 (sc 9 + 1) 9 = sc 9 + 1 from kUp_eq) rfl I fun m I => ?_
  rw [if_pos rfl]
  refine lp_many (by omega) Q'.1 3 (by decide) (Int32.ofNat vl.length) (congrArg Int32.ofNat b3) rfl I fun m I => ?_
  rw [if_pos rfl]
  exact hK _ _ _ Q'.up (by omega) I
end PHH
