/-! ===== the reference: crossing ===== -/
section KL
variable {xm : Nat → Option kE} {N M0 ck : Nat} {g : Nat → Int32} {sum : Int64} {lo : List kLf} {bo pa : List Int32} {ps : List aS} {vr ya : List Int32} {rs : List (List Int32)} {sc : Nat → Int32} {F : kSg}
theorem kA_ten {cap n : Nat} (h : n < 10) (hc : cap = 0 ∨ cap = 10) (hn : n ≤ cap) : (kAc cap n = 10) ∧ kAs cap n ≤ 10 := by
  rcases hc with rfl | rfl
  · obtain rfl : n = 0 := by omega
    exact ⟨rfl, by decide⟩
  · unfold kAc kAs
    rw [if_neg (by omega), if_neg (by omega)]
    omega
theorem wRl.left {m : kM} {L B P Q : kLi} {s y la lq lc lc' lq' : Nat} {lm lm' : Int32} {le le' : List Nat} {r u : kLi} {cs : List kCs} {vl vl' : List Int32} {sc' : Nat → Int32} (R : wRl xm m L B P Q (s, (la, lq, lm, lc, le), r, u, y) cs lo bo pa ps (vl, vr, rs, ya, sc)) (h1 : sWf lq' lc' le') (h2 : lc' ≤ 40) (h3 : IVs xm m le' vl') : wRl xm m L B P Q (s, (la, lq', lm', lc', le'), r, u, y) cs lo bo pa ps (vl', vr, rs, ya, sc') := by
  obtain ⟨w, cc, r3, r4, r5, r6, ⟨t1, t2, t3, ⟨t4, t5, t6⟩, t7, t8, t9⟩, r8⟩ := R
  exact ⟨w, cc, r3, r4, r5, r6, ⟨h1, t2, t3, ⟨h2, t5, t6⟩, h3, t8, t9⟩, r8⟩
theorem HpS.drop2 {Ls : List kSg} {A B : kSg} {mem : kM} (H : HpS (A :: B :: Ls) mem) : HpS Ls mem := H.drop.drop
end KL
