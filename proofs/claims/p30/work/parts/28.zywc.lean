/-! ===== what is asked of the reference, exactly: would, needs ===== -/
/-- the reference's yarn within a trial beside the class's: the yarn at first, the yarn then -/
def tRel (Y y : Int32) (w : aT) : Prop := y = w.2.2.1 ∧ Y = w.2.2.1 + w.2.2.2 ∨ y = -1 ∧ w.2.2.1 = 0 ∧ w.2.2.2 = 0 ∧ Y = -1
theorem tRel_can {Y y : Int32} {w : aT} {s : Nat} (h1 : 1 ≤ s) (h9 : s ≤ 9) (h : tRel Y y w) : zCan s w.1 w.2.1 y = zCan s w.1 w.2.1 w.2.2.1 := by
  rcases h with ⟨rfl, -⟩ | ⟨rfl, e, -, -⟩
  · rfl
  · rw [e]
    have h := zCan_y (nb := 0) (ya := []) (l := w.1) (a := w.2.1) (Or.inl rfl : jOk 0 (-1)) h1 h9
    exact h
theorem tRel_step {Y y : Int32} {w : aT} {s : Nat} {l a : Nat} (hz : zCan s w.1 w.2.1 w.2.2.1 = true) (h : tRel Y y w) (h1 : 1 ≤ s) (h9 : s ≤ 9) : tRel Y (y - Int32.ofNat (aTake s)) (l, a, w.2.2.1 - Int32.ofNat (aTake s), w.2.2.2 + Int32.ofNat (aTake s)) := by
  rcases h with ⟨rfl, e⟩ | ⟨rfl, e1, e2, e3⟩
  · refine Or.inl ⟨rfl, ?_⟩
    dsimp only
    rw [e, Int32.add_comm w.2.2.2 (Int32.ofNat (aTake s)), ← Int32.add_assoc, Int32.sub_add_cancel]
  · obtain ⟨z1, z2, z3⟩ := zCan_all hz
    have e0 : aTake s = 0 := by
      rcases z2 with z2 | z2
      · exact z2
      · apply Classical.byContradiction
        intro g
        have := (aUse_le h1 h9).2.1
        rw [e1] at z2
        exact z2 ((i_lt (a := 0) (by decide) (by omega)).mpr (by omega))
    rw [e0]
    refine Or.inr ⟨rfl, ?_, ?_, e3⟩
    · dsimp only
      rw [e1]
      rfl
    · dsimp only
      rw [e2]
      rfl
theorem tRel_needs {Y y : Int32} {w : aT} (h : tRel Y y w) : Y - y = w.2.2.2 := by
  rcases h with ⟨rfl, rfl⟩ | ⟨rfl, -, e, rfl⟩
  · rw [Int32.add_comm, Int32.add_sub_cancel]
  · rw [e]
    rfl
section FC
variable {xm : Nat → Option kE} {mem : kM} {N M0 nb k C S ck : Nat} {F : kSg} {g : Nat → Int32} {sum : Int64} {jo t Y : Int32} {lo : List kLf} {bo pa vl vr ya : List Int32} {ps : List aS} {rs : List (List Int32)} {sc : Nat → Int32} {T : kO × kM → Prop}
theorem tRel_0 (h7 : g 7 = jo) {l a : Nat} : tRel (aYarn g ya) (aYarn g ya) (l, a, bY jo ya, 0) := by
  unfold aYarn bY
  rw [h7]
  by_cases e : jo = -1
  · rw [if_pos e, if_pos e]
    exact Or.inr ⟨rfl, rfl, rfl, rfl⟩
  · rw [if_neg e, if_neg e]
    exact Or.inl ⟨rfl, by dsimp only; rw [Int32.add_zero]⟩
end FC
