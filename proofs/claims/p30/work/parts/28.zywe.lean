/-! ===== the law around what is asked, exactly ===== -/
section FD
variable {xm : Nat → Option kE} {mem m0 : kM} {F G A : kSg} {N k nb q cap c0 s0 cap0 n O : Nat} {jo x y t : Int32} {lo : List kLf} {bo pa vl vr ya : List Int32} {ps : List aS} {rs : List (List Int32)} {sc : Nat → Int32} {w : Int64}
theorem n2_on : (spOn x y (nb, jo, lo, bo, pa, ps, (vl, vr, rs, ya, sc))).1 ≠ 2 := by
  unfold spOn
  dsimp only
  split
  · show (1 : Int32) ≠ 2
    decide
  · show (0 : Int32) ≠ 2
    decide
theorem ok_on (hc : cOk (nb, jo, lo, bo, pa, ps, (vl, vr, rs, ya, sc))) : cOk (spOn x y (nb, jo, lo, bo, pa, ps, (vl, vr, rs, ya, sc))).2.2 := by
  unfold spOn
  dsimp only
  split <;> exact hc
theorem n2_left : (spLeft x (nb, jo, lo, bo, pa, ps, (vl, vr, rs, ya, sc))).1 ≠ 2 := by
  unfold spLeft
  dsimp only
  split
  · show (1 : Int32) ≠ 2
    decide
  · show (0 : Int32) ≠ 2
    decide
theorem ok_left (hc : cOk (nb, jo, lo, bo, pa, ps, (vl, vr, rs, ya, sc))) : cOk (spLeft x (nb, jo, lo, bo, pa, ps, (vl, vr, rs, ya, sc))).2.2 := by
  unfold spLeft
  dsimp only
  split <;> exact hc
theorem ok_ofRun (hc : cOk (nb, jo, lo, bo, pa, ps, (vl, vr, rs, ya, sc))) : cOk (spOfRun x y (nb, jo, lo, bo, pa, ps, (vl, vr, rs, ya, sc))).2.2 := by
  unfold spOfRun
  dsimp only
  split
  · exact hc
  · split <;> exact hc
theorem n2_would : (spWould x (nb, jo, lo, bo, pa, ps, (vl, vr, rs, ya, sc))).1 ≠ 2 := by
  unfold spWould
  dsimp only
  split
  · show (1 : Int32) ≠ 2
    decide
  · show (0 : Int32) ≠ 2
    decide
theorem ok_would (hc : cOk (nb, jo, lo, bo, pa, ps, (vl, vr, rs, ya, sc))) : cOk (spWould x (nb, jo, lo, bo, pa, ps, (vl, vr, rs, ya, sc))).2.2 := by
  unfold spWould
  dsimp only
  split <;> exact hc
theorem n2_needs : (spNeeds x (nb, jo, lo, bo, pa, ps, (vl, vr, rs, ya, sc))).1 ≠ 2 := by
  unfold spNeeds
  dsimp only
  split
  · show (1 : Int32) ≠ 2
    decide
  · show (0 : Int32) ≠ 2
    decide
theorem ok_needs (hc : cOk (nb, jo, lo, bo, pa, ps, (vl, vr, rs, ya, sc))) : cOk (spNeeds x (nb, jo, lo, bo, pa, ps, (vl, vr, rs, ya, sc))).2.2 := by
  unfold spNeeds
  dsimp only
  split <;> exact hc
theorem ok_ofPattern (hc : cOk (nb, jo, lo, bo, pa, ps, (vl, vr, rs, ya, sc))) : cOk (spOfPattern x y (nb, jo, lo, bo, pa, ps, (vl, vr, rs, ya, sc))).2.2 := by
  unfold spOfPattern
  dsimp only
  split
  · exact hc
  · split <;> exact hc
end FD
