/-! ===== the reference: its invariant, with the room so far; what is asked of the needles ===== -/
def RI (xm : Nat → Option kE) (M0 nb k C S : Nat) (F : kSg) (mem : kM) : Prop :=
  ∃ g sum lo bo pa ps st ck, WR xm M0 g sum lo bo pa ps st ck F mem ∧ aInv nb g lo bo pa ps st ∧ lo.length ≤ 24 * k ∧ bo.length ≤ 24 * k ∧ mem.length ≤ C ∧ kSl mem ≤ S + 4 * ck
section KM
variable {xm : Nat → Option kE} {mem : kM} {N M0 ck nb k C S : Nat} {g : Nat → Int32} {sum : Int64} {lo : List kLf} {bo pa : List Int32} {ps : List aS} {vl vr ya : List Int32} {rs : List (List Int32)} {sc : Nat → Int32} {F : kSg} {T : kO × kM → Prop}
theorem RI.mk' {m : kM} {k' ck' c s : Nat} {st : aS} (h1 : mem.length ≤ C) (h2 : kSl mem ≤ S + 4 * ck) (W : WR xm M0 g sum lo bo pa ps st ck' F m) (h : aInv nb g lo bo pa ps st) (hl : lo.length ≤ 24 * k') (hb : bo.length ≤ 24 * k') (hc : ck ≤ ck') (S1 : St xm mem m c (s + 4 * (ck' - ck))) : RI xm M0 nb k' (C + c) (S + s) F m := by
  refine ⟨g, sum, lo, bo, pa, ps, st, ck', W, h, hl, hb, ?_, ?_⟩
  · have := S1.2.1; omega
  · have := S1.2.2.1; omega
theorem RI.up {k' C' S' : Nat} (I : RI xm M0 nb k C S F mem) (hk : k ≤ k') (hC : C ≤ C') (hS : S ≤ S') : RI xm M0 nb k' C' S' F mem := by
  obtain ⟨g, sum, lo, bo, pa, ps, st, ck, W, h, hl, hb, h1, h2⟩ := I
  exact ⟨g, sum, lo, bo, pa, ps, st, ck, W, h, by omega, by omega, by omega, by omega⟩
theorem w_leftEmpty {K : Int32 → kM → dRes} (W : WR xm M0 g sum lo bo pa ps (vl, vr, rs, ya, sc) ck F mem) (h : dOk (K (if vl = [] then 1 else 0) mem) T) : dOk (dGR xm mem M0 15 5 fun v6 => dGR xm mem v6 14 0 fun v9 => dRc xm mem v9 4 <| dCI (m_AL_isEmpty xm N v9 mem) K) T := by
  obtain ⟨L, B, P, Q, ⟨s, ⟨la, lq, lm, lc, le⟩, r, u, y⟩, cs, H, R, hck⟩ := W
  obtain ⟨-, -, -, -, -, -, ⟨t1, -, -, -, t7, -, -⟩, -⟩ := R
  have n7 := t7.1
  dsimp only at n7 t1
  refine ok_gR (H.look 0 0 rfl rfl) rfl ?_
  refine ok_gR (H.look 5 0 rfl rfl) rfl ?_
  refine ok_rc (ls_hd H 6 rfl) ?_
  refine ok_eI (ls_isEmpty (a := la) (q := lq) (mc := lm) (cap := lc) (es := le) H 6 rfl t1.lt) ?_
  have e : (if le = [] then (1 : Int32) else 0) = if vl = [] then 1 else 0 := by
    by_cases h : le = []
    · rw [if_pos h, if_pos (List.length_eq_zero_iff.mp (by rw [← n7, h]; rfl))]
    · rw [if_neg h, if_neg (fun z => h (List.length_eq_zero_iff.mp (by rw [n7, z]; rfl)))]
  rw [e]
  exact h
theorem w_leftSize {K : Int32 → kM → dRes} (W : WR xm M0 g sum lo bo pa ps (vl, vr, rs, ya, sc) ck F mem) (h : dOk (K (Int32.ofNat vl.length) mem) T) : dOk (dGR xm mem M0 15 5 fun v6 => dGR xm mem v6 14 0 fun v9 => dRc xm mem v9 4 <| dCI (m_AL_size xm N v9 mem) K) T := by
  obtain ⟨L, B, P, Q, ⟨s, ⟨la, lq, lm, lc, le⟩, r, u, y⟩, cs, H, R, hck⟩ := W
  obtain ⟨-, -, -, -, -, -, ⟨t1, -, -, -, t7, -, -⟩, -⟩ := R
  have n7 := t7.1
  dsimp only at n7 t1
  refine ok_gR (H.look 0 0 rfl rfl) rfl ?_
  refine ok_gR (H.look 5 0 rfl rfl) rfl ?_
  refine ok_rc (ls_hd H 6 rfl) ?_
  refine ok_eI (ls_size (a := la) (q := lq) (mc := lm) (cap := lc) (es := le) H 6 rfl) ?_
  rw [n7]
  exact h
theorem w_rightSize {K : Int32 → kM → dRes} (W : WR xm M0 g sum lo bo pa ps (vl, vr, rs, ya, sc) ck F mem) (h : dOk (K (Int32.ofNat vr.length) mem) T) : dOk (dGR xm mem M0 15 5 fun v6 => dGR xm mem v6 14 1 fun v9 => dRc xm mem v9 4 <| dCI (m_AL_size xm N v9 mem) K) T := by
  obtain ⟨L, B, P, Q, ⟨s, l, ⟨ra, rq, rm, rc, re⟩, u, y⟩, cs, H, R, hck⟩ := W
  obtain ⟨-, -, -, -, -, -, ⟨-, t2, -, -, -, t8, -⟩, -⟩ := R
  have n8 := t8.1
  dsimp only at n8 t2
  refine ok_gR (H.look 0 0 rfl rfl) rfl ?_
  refine ok_gR (H.look 5 0 rfl rfl) rfl ?_
  refine ok_rc (ls_hd H 7 rfl) ?_
  refine ok_eI (ls_size (a := ra) (q := rq) (mc := rm) (cap := rc) (es := re) H 7 rfl) ?_
  rw [n8]
  exact h
theorem w_runsSize {K : Int32 → kM → dRes} (W : WR xm M0 g sum lo bo pa ps (vl, vr, rs, ya, sc) ck F mem) (h : dOk (K (Int32.ofNat rs.length) mem) T) : dOk (dGR xm mem M0 15 5 fun v6 => dGR xm mem v6 14 2 fun v9 => dRc xm mem v9 4 <| dCI (m_AL_size xm N v9 mem) K) T := by
  obtain ⟨L, B, P, Q, ⟨s, l, r, ⟨ua, uq, um, uc, ue⟩, y⟩, cs, H, R, hck⟩ := W
  obtain ⟨-, -, -, -, -, -, ⟨-, -, t3, -, -, -, t9⟩, -⟩ := R
  dsimp only at t9 t3
  refine ok_gR (H.look 0 0 rfl rfl) rfl ?_
  refine ok_gR (H.look 5 0 rfl rfl) rfl ?_
  refine ok_rc (ls_hd H 8 rfl) ?_
  refine ok_eI (ls_size (a := ua) (q := uq) (mc := um) (cap := uc) (es := ue) H 8 rfl) ?_
  rw [t9]
  exact h
theorem w_all {K : Int32 → kM → dRes} (W : WR xm M0 g sum lo bo pa ps (vl, vr, rs, ya, sc) ck F mem) (h : dOk (K (Int32.ofNat (vl.length + vr.length)) mem) T) : dOk (dGR xm mem M0 15 5 fun v6 => dRc xm mem v6 14 <| dCI (m_MS_all xm N v6 mem) K) T := by
  obtain ⟨L, B, P, Q, ⟨s, ⟨la, lq, lm, lc, le⟩, ⟨ra, rq, rm, rc, re⟩, u, y⟩, cs, H, R, hck⟩ := W
  obtain ⟨-, -, -, -, -, -, ⟨t1, t2, -, -, t7, t8, -⟩, -⟩ := R
  have n7 := t7.1
  have n8 := t8.1
  dsimp only at n7 n8
  refine ok_gR (H.look 0 0 rfl rfl) rfl ?_
  refine ok_rc (H.look 5 0 rfl rfl) ?_
  refine ok_eI (m_all (c := (s, (la, lq, lm, lc, le), (ra, rq, rm, rc, re), u, y)) (sc := sc) H 5 (s := s) (y := y) (l := (la, lq, lm, lc, le)) (r := (ra, rq, rm, rc, re)) (u := u) rfl rfl rfl) ?_
  dsimp only
  rw [n7, n8]
  exact h
/-! the contents' invariant -/
theorem aCh_mono : ∀ {l : List aS} {n b n' b' : Nat}, aCh n b l → n ≤ n' → b ≤ b' → aCh n' b' l := by
  intro l
  cases l with
  | nil => intro n b n' b' _ _ _; trivial
  | cons s r =>
    intro n b n' b' h h1 h2
    obtain ⟨x, y, h3, h4, h5, h6⟩ := h
    exact ⟨x, y, by omega, by omega, h5, h6⟩
theorem aCh_init : ∀ {l : List aS} {n b : Nat} {x : aS}, aCh n b (l ++ [x]) → aCh n b l := by
  intro l
  induction l with
  | nil => intro n b x _; trivial
  | cons s r ih =>
    intro n b x h
    obtain ⟨x, y, h3, h4, h5, h6⟩ := h
    exact ⟨x, y, h3, h4, h5, ih h6⟩
theorem aInv.keep {st : aS} (h : aInv nb g lo bo pa ps st) : aInv nb g lo bo pa ((if ps.length = 12 then ps.drop 1 else ps) ++ [st]) st := by
  obtain ⟨h1, h2, h3, h4, h5, h6⟩ := h
  refine ⟨h1, h2, ?_, ?_, h5, h6⟩
  · rw [List.reverse_append]
    refine ⟨_, _, Nat.le_refl _, Nat.le_refl _, h2, ?_⟩
    split
    · cases ps with
      | nil => exact h3
      | cons p t =>
        rw [List.reverse_cons] at h3
        exact aCh_init h3
    · exact h3
  · rw [List.length_append]
    split
    · rw [List.length_drop]; simp; omega
    · simp; omega
theorem aInv.jn (h : aInv nb g lo bo pa ps (vl, vr, rs, ya, sc)) : g 7 = -1 ∨ ∃ b : Nat, g 7 = Int32.ofNat b ∧ b < 4 := by
  obtain ⟨⟨h1, h2, h3⟩, -⟩ := h
  rcases h3 with h | ⟨b, h4, h5⟩
  · exact Or.inl h
  · exact Or.inr ⟨b, h4, by omega⟩
theorem aInv.some (h : aInv nb g lo bo pa ps (vl, vr, rs, ya, sc)) {k : Int32} (hk : 0 ≤ k) (hy : ¬ aYarn g ya < k) : ∃ b : Nat, g 7 = Int32.ofNat b ∧ b < 4 := by
  rcases h.jn with h1 | h1
  · exfalso
    apply hy
    unfold aYarn
    rw [if_pos h1]
    rw [Int32.lt_iff_toInt_lt]
    rw [Int32.le_iff_toInt_le] at hk
    have e1 : (-1 : Int32).toInt = -1 := by decide
    have e0 : (0 : Int32).toInt = 0 := by decide
    omega
  · exact h1
theorem aInv.sw (h : aInv nb g lo bo pa ps (vl, vr, rs, ya, sc)) : aSw (vl, vr, rs, ya, sc) := h.2.1.1
/-- a loop is made -/
theorem aInv.make {f : kLf} {vl' : List Int32} {b : Nat} {y : Int32} {sc' : Nat → Int32} (h : aInv nb g lo bo pa ps (vl, vr, rs, ya, sc)) (h1 : ∀ v ∈ vl', v ∈ vl) (h2 : vl'.length + vr.length < 24) (h6 : sc' 6 = sc 6 + 1) (h7 : sc' 7 = sc 7) : aInv nb g (lo ++ [f]) bo pa ps (vl', vr ++ [sc 6], rs.map kFall, ya.set b y, sc') := by
  obtain ⟨a1, ⟨⟨b1, b2, b3, b4, b5⟩, b6, b7, b8, b9, b10, b11⟩, a3, a4, a5, a6⟩ := h
  dsimp only at *
  have el : (lo ++ [f]).length = lo.length + 1 := by simp
  refine ⟨a1, ⟨⟨by dsimp only; omega, by simp; omega, by simpa using b3, ?_, by simpa using b5⟩, by simp; omega, ?_, ?_, ?_, ?_, ?_⟩, ?_, a4, a5, a6⟩
  · intro z hz
    obtain ⟨w, hw, rfl⟩ := List.mem_map.mp hz
    rw [kFall_len]
    exact b4 w hw
  · intro v hv
    rw [el]
    exact (b7 v (h1 v hv)).mono (by omega)
  · intro v hv
    rw [el]
    rcases List.mem_append.mp hv with h | h
    · exact (b8 v h).mono (by omega)
    · rw [List.mem_singleton.mp h]
      exact ⟨lo.length, b10, by omega⟩
  · intro z hz
    obtain ⟨w, hw, rfl⟩ := List.mem_map.mp hz
    rw [kFall_0, el]
    exact (b9 w hw).mono (by omega)
  · show sc' 6 = _
    rw [h6, b10, el, i_add1]
  · show sc' 7 = _
    rw [h7, b11]
  · rw [el]
    exact aCh_mono a3 (by omega) (Nat.le_refl _)
/-- loops change their places alone -/
theorem aInv.move {vl' vr' : List Int32} {sc' : Nat → Int32} (h : aInv nb g lo bo pa ps (vl, vr, rs, ya, sc)) (h1 : ∀ v ∈ vl', v ∈ vl ∨ v ∈ vr) (h1' : ∀ v ∈ vr', v ∈ vl ∨ v ∈ vr) (h2 : vl'.length + vr'.length ≤ 24) (h6 : sc' 6 = sc 6) (h7 : sc' 7 = sc 7) : aInv nb g lo bo pa ps (vl', vr', rs, ya, sc') := by
  obtain ⟨a1, ⟨⟨b1, b2, b3, b4, b5⟩, b6, b7, b8, b9, b10, b11⟩, a3, a4, a5, a6⟩ := h
  refine ⟨a1, ⟨⟨by dsimp only; omega, by dsimp only; omega, b3, b4, b5⟩, h2, ?_, ?_, b9, h6.trans b10, h7.trans b11⟩, a3, a4, a5, a6⟩
  · intro v hv
    rcases h1 v hv with h | h
    · exact b7 v h
    · exact b8 v h
  · intro v hv
    rcases h1' v hv with h | h
    · exact b7 v h
    · exact b8 v h
end KM
