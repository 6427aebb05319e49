/-! ===== the reference: its invariant, with the room so far; what is asked of the needles ===== -/
def RI (xm : Nat → Option kE) (M0 nb k C S : Nat) (F : kSg) (mem : kM) : Prop :=
  ∃ g sum lo bo pa ps st ck, WR xm M0 g sum lo bo pa ps st ck F mem ∧ aInv nb g lo bo pa ps st ∧ lo.length ≤ 24 * k ∧ bo.length ≤ 24 * k ∧ mem.length ≤ C ∧ kSl mem ≤ S + 4 * ck
section KM
variable {xm : Nat → Option kE} {mem : kM} {N M0 ck nb k C S : Nat} {g : Nat → Int32} {sum : Int64} {lo : List kLf} {bo pa : List Int32} {ps : List aS} {vl vr ya : List Int32} {rs : List (List Int32)} {sc : Nat → Int32} {F : kSg} {T : kO × kM → Prop}
theorem RI.mk' {m : kM} {k' ck' c s : Nat} {st : aS} (h1 : mem.length ≤ C) (h2 : kSl mem ≤ S + 4 * ck) (W : WR xm M0 g sum lo bo pa ps st ck' F m) (h : aInv nb g lo bo pa ps st) (hl : lo.length ≤ 24 * k') (hb : bo.length ≤ 24 * k') (hc : ck ≤ ck') (S1 : St xm mem m c (s + 4 * (ck' - ck))) : RI xm M0 nb k' (C + c) (S + s) F m := by
  refine ⟨g, sum, lo, bo, pa, ps, st, ck', W, h, hl, hb, ?_, ?_⟩
  · have := S1.2.1; omega
  · have := S1.2.2.1; omega
theorem RI.up {k' C' S' : Nat} (I : RI xm M0 nb k C S F mem) (hk : k ≤ k') (hC : C ≤ C') (hS : S ≤ S') : RI xm M0 nb k' C' S' F mem := by
  obtain ⟨g, sum, lo, bo, pa, ps, st, ck, W, h, hl, hb, h1, h2⟩ := I
  exact ⟨g, sum, lo, bo, pa, ps, st, ck, W, h, by omega, by omega, by omega, by omega⟩
/-! the contents' invariant -/
theorem aCh_mono : ∀ {l : List aS} {n b n' b' : Nat}, aCh n b l → n ≤ n' → b ≤ b' → aCh n' b' l := by
  intro l
  cases l with
  | nil => intro n b n' b' _ _ _; trivial
  | cons s r =>
    intro n b n' b' h h1 h2
    obtain ⟨x, y, h3, h4, h5, h6⟩ := h
    exact ⟨x, y, by omega, by omega, h5, h6⟩
theorem aCh_init : ∀ {l : List aS} {n b : Nat} {x : aS}, aCh n b (l ++ [x]) → aCh n b l := by
  intro l
  induction l with
  | nil => intro n b x _; trivial
  | cons s r ih =>
    intro n b x h
    obtain ⟨x, y, h3, h4, h5, h6⟩ := h
    exact ⟨x, y, h3, h4, h5, ih h6⟩
theorem aInv.keep {st : aS} (h : aInv nb g lo bo pa ps st) : aInv nb g lo bo pa ((if ps.length = 12 then ps.drop 1 else ps) ++ [st]) st := by
  obtain ⟨h1, h2, h3, h4, h5, h6⟩ := h
  refine ⟨h1, h2, ?_, ?_, h5, h6⟩
  · rw [List.reverse_append]
    refine ⟨_, _, Nat.le_refl _, Nat.le_refl _, h2, ?_⟩
    split
    · cases ps with
      | nil => exact h3
      | cons p t =>
        rw [List.reverse_cons] at h3
        exact aCh_init h3
    · exact h3
  · rw [List.length_append]
    split
    · rw [List.length_drop]; simp; omega
    · simp; omega
theorem aInv.jn (h : aInv nb g lo bo pa ps (vl, vr, rs, ya, sc)) : g 7 = -1 ∨ ∃ b : Nat, g 7 = Int32.ofNat b ∧ b < 4 := by
  obtain ⟨⟨h1, h2, h3⟩, -⟩ := h
  rcases h3 with h | ⟨b, h4, h5⟩
  · exact Or.inl h
  · exact Or.inr ⟨b, h4, by omega⟩
theorem aInv.some (h : aInv nb g lo bo pa ps (vl, vr, rs, ya, sc)) {k : Int32} (hk : 0 ≤ k) (hy : ¬ aYarn g ya < k) : ∃ b : Nat, g 7 = Int32.ofNat b ∧ b < 4 := by
  rcases h.jn with h1 | h1
  · exfalso
    apply hy
    unfold aYarn
    rw [if_pos h1]
    rw [Int32.lt_iff_toInt_lt]
    rw [Int32.le_iff_toInt_le] at hk
    have e1 : (-1 : Int32).toInt = -1 := by decide
    have e0 : (0 : Int32).toInt = 0 := by decide
    omega
  · exact h1
theorem aInv.sw (h : aInv nb g lo bo pa ps (vl, vr, rs, ya, sc)) : aSw (vl, vr, rs, ya, sc) := h.2.1.1
/-- a loop is made -/
theorem aInv.make {f : kLf} {vl' : List Int32} {b : Nat} {y : Int32} {sc' : Nat → Int32} (h : aInv nb g lo bo pa ps (vl, vr, rs, ya, sc)) (h1 : ∀ v ∈ vl', v ∈ vl) (h2 : vl'.length + vr.length < 24) (h6 : sc' 6 = sc 6 + 1) (h7 : sc' 7 = sc 7) : aInv nb g (lo ++ [f]) bo pa ps (vl', vr ++ [sc 6], rs.map kFall, ya.set b y, sc') := by
  obtain ⟨a1, ⟨⟨b1, b2, b3, b4, b5⟩, b6, b7, b8, b9, b10, b11⟩, a3, a4, a5, a6⟩ := h
  dsimp only at *
  have el : (lo ++ [f]).length = lo.length + 1 := by simp
  refine ⟨a1, ⟨⟨by dsimp only; omega, by simp; omega, by simpa using b3, ?_, by simpa using b5⟩, by simp; omega, ?_, ?_, ?_, ?_, ?_⟩, ?_, a4, a5, a6⟩
  · intro z hz
    obtain ⟨w, hw, rfl⟩ := List.mem_map.mp hz
    rw [kFall_len]
    exact b4 w hw
  · intro v hv
    rw [el]
    exact (b7 v (h1 v hv)).mono (by omega)
  · intro v hv
    rw [el]
    rcases List.mem_append.mp hv with h | h
    · exact (b8 v h).mono (by omega)
    · rw [List.mem_singleton.mp h]
      exact ⟨lo.length, b10, by omega⟩
  · intro z hz
    obtain ⟨w, hw, rfl⟩ := List.mem_map.mp hz
    rw [kFall_0, el]
    exact (b9 w hw).mono (by omega)
  · show sc' 6 = _
    rw [h6, b10, el, i_add1]
  · show sc' 7 = _
    rw [h7, b11]
  · rw [el]
    exact aCh_mono a3 (by omega) (Nat.le_refl _)
/-- loops change their places alone -/
theorem aInv.move {vl' vr' : List Int32} {sc' : Nat → Int32} (h : aInv nb g lo bo pa ps (vl, vr, rs, ya, sc)) (h1 : ∀ v ∈ vl', v ∈ vl ∨ v ∈ vr) (h1' : ∀ v ∈ vr', v ∈ vl ∨ v ∈ vr) (h2 : vl'.length + vr'.length ≤ 24) (h6 : sc' 6 = sc 6) (h7 : sc' 7 = sc 7) : aInv nb g lo bo pa ps (vl', vr', rs, ya, sc') := by
  obtain ⟨a1, ⟨⟨b1, b2, b3, b4, b5⟩, b6, b7, b8, b9, b10, b11⟩, a3, a4, a5, a6⟩ := h
  refine ⟨a1, ⟨⟨by dsimp only; omega, by dsimp only; omega, b3, b4, b5⟩, h2, ?_, ?_, b9, h6.trans b10, h7.trans b11⟩, a3, a4, a5, a6⟩
  · intro v hv
    rcases h1 v hv with h | h
    · exact b7 v h
    · exact b8 v h
  · intro v hv
    rcases h1' v hv with h | h
    · exact b7 v h
    · exact b8 v h
end KM
