/-! ===== the law around what is asked, exactly ===== -/
section FD
variable {xm : Nat → Option kE} {mem m0 : kM} {F G A : kSg} {N k nb q cap c0 s0 cap0 n O : Nat} {jo x y t : Int32} {lo : List kLf} {bo pa vl vr ya : List Int32} {ps : List aS} {rs : List (List Int32)} {sc : Nat → Int32} {w : Int64}
theorem n2_on : (spOn x y (nb, jo, lo, bo, pa, ps, (vl, vr, rs, ya, sc))).1 ≠ 2 := by
  unfold spOn
  dsimp only
  split
  · show (1 : Int32) ≠ 2
    decide
  · show (0 : Int32) ≠ 2
    decide
theorem ok_on (hc : cOk (nb, jo, lo, bo, pa, ps, (vl, vr, rs, ya, sc))) : cOk (spOn x y (nb, jo, lo, bo, pa, ps, (vl, vr, rs, ya, sc))).2.2 := by
  unfold spOn
  dsimp only
  split <;> exact hc
theorem y2_on (hX : kXok xm) (hN : 120 ≤ N) (hc : cOk (nb, jo, lo, bo, pa, ps, (vl, vr, rs, ya, sc))) (hlo : lo.length ≤ 12300) (hbo : bo.length ≤ 12300) (D : KS xm nb jo lo bo pa ps (vl, vr, rs, ya, sc) (oU O w :: G) 0 0 m0 cap0 mem) : dOk (m_law_on xm N 1000 x y O mem) (lR xm (spOn x y (nb, jo, lo, bo, pa, ps, (vl, vr, rs, ya, sc))) O G m0 cap0) := by
  unfold m_law_on
  refine s_rc (c := (nb, jo, lo, bo, pa, ps, (vl, vr, rs, ya, sc))) D ?_
  exact l_X (q_on D) (fun _ _ => rfl) (fun z => absurd z n2_on)
theorem n2_left : (spLeft x (nb, jo, lo, bo, pa, ps, (vl, vr, rs, ya, sc))).1 ≠ 2 := by
  unfold spLeft
  dsimp only
  split
  · show (1 : Int32) ≠ 2
    decide
  · show (0 : Int32) ≠ 2
    decide
theorem ok_left (hc : cOk (nb, jo, lo, bo, pa, ps, (vl, vr, rs, ya, sc))) : cOk (spLeft x (nb, jo, lo, bo, pa, ps, (vl, vr, rs, ya, sc))).2.2 := by
  unfold spLeft
  dsimp only
  split <;> exact hc
theorem y2_left (hX : kXok xm) (hN : 120 ≤ N) (hc : cOk (nb, jo, lo, bo, pa, ps, (vl, vr, rs, ya, sc))) (hlo : lo.length ≤ 12300) (hbo : bo.length ≤ 12300) (D : KS xm nb jo lo bo pa ps (vl, vr, rs, ya, sc) (oU O w :: G) 0 0 m0 cap0 mem) : dOk (m_law_left xm N 1000 x O mem) (lR xm (spLeft x (nb, jo, lo, bo, pa, ps, (vl, vr, rs, ya, sc))) O G m0 cap0) := by
  unfold m_law_left
  refine s_rc (c := (nb, jo, lo, bo, pa, ps, (vl, vr, rs, ya, sc))) D ?_
  exact l_X (q_left D) (fun _ _ => rfl) (fun z => absurd z n2_left)
theorem ok_ofRun (hc : cOk (nb, jo, lo, bo, pa, ps, (vl, vr, rs, ya, sc))) : cOk (spOfRun x y (nb, jo, lo, bo, pa, ps, (vl, vr, rs, ya, sc))).2.2 := by
  unfold spOfRun
  dsimp only
  split
  · exact hc
  · split <;> exact hc
theorem y2_ofRun (hX : kXok xm) (hN : 120 ≤ N) (hc : cOk (nb, jo, lo, bo, pa, ps, (vl, vr, rs, ya, sc))) (hlo : lo.length ≤ 12300) (hbo : bo.length ≤ 12300) (D : KS xm nb jo lo bo pa ps (vl, vr, rs, ya, sc) (oU O w :: G) 0 0 m0 cap0 mem) : dOk (m_law_ofRun xm N 1000 x y O mem) (lR xm (spOfRun x y (nb, jo, lo, bo, pa, ps, (vl, vr, rs, ya, sc))) O G m0 cap0) := by
  unfold m_law_ofRun
  refine s_rc (c := (nb, jo, lo, bo, pa, ps, (vl, vr, rs, ya, sc))) D ?_
  exact l_X (q_ofRun D) (fun _ _ => rfl) (fun _ _ => rfl)
theorem n2_would : (spWould x (nb, jo, lo, bo, pa, ps, (vl, vr, rs, ya, sc))).1 ≠ 2 := by
  unfold spWould
  dsimp only
  split
  · show (1 : Int32) ≠ 2
    decide
  · show (0 : Int32) ≠ 2
    decide
theorem ok_would (hc : cOk (nb, jo, lo, bo, pa, ps, (vl, vr, rs, ya, sc))) : cOk (spWould x (nb, jo, lo, bo, pa, ps, (vl, vr, rs, ya, sc))).2.2 := by
  unfold spWould
  dsimp only
  split <;> exact hc
theorem y2_would (hX : kXok xm) (hN : 120 ≤ N) (hc : cOk (nb, jo, lo, bo, pa, ps, (vl, vr, rs, ya, sc))) (hlo : lo.length ≤ 12300) (hbo : bo.length ≤ 12300) (D : KS xm nb jo lo bo pa ps (vl, vr, rs, ya, sc) (oU O w :: G) 0 0 m0 cap0 mem) : dOk (m_law_would xm N 1000 x O mem) (lR xm (spWould x (nb, jo, lo, bo, pa, ps, (vl, vr, rs, ya, sc))) O G m0 cap0) := by
  unfold m_law_would
  refine s_rc (c := (nb, jo, lo, bo, pa, ps, (vl, vr, rs, ya, sc))) D ?_
  exact l_X (q_would hX hN hc.1.1 D) (fun _ _ => rfl) (fun z => absurd z n2_would)
theorem n2_needs : (spNeeds x (nb, jo, lo, bo, pa, ps, (vl, vr, rs, ya, sc))).1 ≠ 2 := by
  unfold spNeeds
  dsimp only
  split
  · show (1 : Int32) ≠ 2
    decide
  · show (0 : Int32) ≠ 2
    decide
theorem ok_needs (hc : cOk (nb, jo, lo, bo, pa, ps, (vl, vr, rs, ya, sc))) : cOk (spNeeds x (nb, jo, lo, bo, pa, ps, (vl, vr, rs, ya, sc))).2.2 := by
  unfold spNeeds
  dsimp only
  split <;> exact hc
theorem y2_needs (hX : kXok xm) (hN : 120 ≤ N) (hc : cOk (nb, jo, lo, bo, pa, ps, (vl, vr, rs, ya, sc))) (hlo : lo.length ≤ 12300) (hbo : bo.length ≤ 12300) (D : KS xm nb jo lo bo pa ps (vl, vr, rs, ya, sc) (oU O w :: G) 0 0 m0 cap0 mem) : dOk (m_law_needs xm N 1000 x O mem) (lR xm (spNeeds x (nb, jo, lo, bo, pa, ps, (vl, vr, rs, ya, sc))) O G m0 cap0) := by
  unfold m_law_needs
  refine s_rc (c := (nb, jo, lo, bo, pa, ps, (vl, vr, rs, ya, sc))) D ?_
  exact l_X (q_needs hX hN hc.1.1 D) (fun _ _ => rfl) (fun z => absurd z n2_needs)
theorem ok_ofPattern (hc : cOk (nb, jo, lo, bo, pa, ps, (vl, vr, rs, ya, sc))) : cOk (spOfPattern x y (nb, jo, lo, bo, pa, ps, (vl, vr, rs, ya, sc))).2.2 := by
  unfold spOfPattern
  dsimp only
  split
  · exact hc
  · split <;> exact hc
theorem y2_ofPattern (hX : kXok xm) (hN : 120 ≤ N) (hc : cOk (nb, jo, lo, bo, pa, ps, (vl, vr, rs, ya, sc))) (hlo : lo.length ≤ 12300) (hbo : bo.length ≤ 12300) (D : KS xm nb jo lo bo pa ps (vl, vr, rs, ya, sc) (oU O w :: G) 0 0 m0 cap0 mem) : dOk (m_law_ofPattern xm N 1000 x y O mem) (lR xm (spOfPattern x y (nb, jo, lo, bo, pa, ps, (vl, vr, rs, ya, sc))) O G m0 cap0) := by
  unfold m_law_ofPattern
  refine s_rc (c := (nb, jo, lo, bo, pa, ps, (vl, vr, rs, ya, sc))) D ?_
  exact l_X (q_ofPattern D) (fun _ _ => rfl) (fun _ _ => rfl)
end FD
