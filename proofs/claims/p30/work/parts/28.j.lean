/-! ===== the reference: keep, make, what is asked of the state ===== -/
def kUp {α : Type} (f : Nat → α) (k : Nat) (v : α) : Nat → α := fun j => if j = k then v else f j
section KJ2
variable {xm : Nat → Option kE} {mem : kM} {N M0 ck : Nat} {g : Nat → Int32} {sum : Int64} {lo : List kLf} {bo pa : List Int32} {ps : List aS} {st : aS} {F : kSg}
/-- the yarn of the joined ball, -1 without one -/
def aYarn (g : Nat → Int32) (ya : List Int32) : Int32 := if g 7 = -1 then -1 else ya.getD (g 7).toNatClampNeg 0
/-- the first row of each call: nothing is thrown yet -/
theorem m_start {S : kO × kM → Prop} {K : kM → dRes} (W : WR xm M0 g sum lo bo pa ps st ck F mem) (h : ∀ m, WR xm M0 (kUp g 0 0) sum lo bo pa ps st ck F m → St xm mem m 0 0 → dOk (K m) S) : dOk (dP xm mem M0 15 0 (.int 0) K) S := by
  obtain ⟨L, B, P, Q, c, cs, H, R, hck⟩ := W
  refine os_p H 0 0 rfl rfl rfl rfl fun m H1 S1 => ?_
  exact h m ⟨L, B, P, Q, c, cs, H1, R.st S1, hck⟩ S1
theorem WR.hd (W : WR xm M0 g sum lo bo pa ps st ck F mem) : ∃ fs, kLook xm mem M0 = some (.inl (15, fs)) := by
  obtain ⟨L, B, P, Q, c, cs, H, R, hck⟩ := W
  exact ⟨_, H.look 0 0 rfl rfl⟩
end KJ2
