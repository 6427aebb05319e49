/-! ===== the reference exactly: follow ===== -/
theorem zAcc (jo : Int32) (s : Nat) (w : aW) : w.1.length ≤ (zStep jo s w).1.length ∧ (zStep jo s w).1.length + w.2.2.2.1.length ≤ w.1.length + (zStep jo s w).2.2.2.1.length ∧ (zStep jo s w).1.length ≤ w.1.length + 3 ∧ (zStep jo s w).2.1 = w.2.1 := by
  have wk : ∀ (k : Int32) (w : aW), (zWork jo k w).1.length = w.1.length + 1 ∧ (zWork jo k w).2.1 = w.2.1 ∧ (zWork jo k w).2.2.2.1.length = w.2.2.2.1.length + 1 := by
    intro k w
    obtain ⟨lo, bo, vl, vr, rs, ya, sc⟩ := w
    obtain ⟨a1, a2, a3, a4, a5⟩ := zMake_all jo k (zHeight lo (vl.getLastD 0) + 1) 1 4 (lo, bo, (vl.dropLast, vr, rs, ya, sc))
    exact ⟨a1, a2, a4⟩
  have ov : ∀ (w : aW), (zOver jo w).1.length = w.1.length + 1 ∧ (zOver jo w).2.1 = w.2.1 ∧ (zOver jo w).2.2.2.1.length = w.2.2.2.1.length + 1 := by
    intro w
    obtain ⟨lo, bo, vl, vr, rs, ya, sc⟩ := w
    obtain ⟨a1, a2, a3, a4, a5⟩ := zMake_all jo 3 1 0 3 (lo, bo, (vl, vr, rs, ya, kUp sc 8 (sc 8 + 1)))
    exact ⟨a1, a2, a4⟩
  have tg : ∀ (n : Nat) (k : Int32) (w : aW), (zTog jo n k w).1.length = w.1.length + 1 ∧ (zTog jo n k w).2.1 = w.2.1 ∧ (zTog jo n k w).2.2.2.1.length = w.2.2.2.1.length + 1 := by
    intro n k w
    obtain ⟨lo, bo, vl, vr, rs, ya, sc⟩ := w
    obtain ⟨a1, a2, a3, a4, a5⟩ := zMake_all jo k 1 (Int32.ofNat n) 5 (lo, bo, (vl.take (vl.length - n), vr, rs, ya, sc))
    exact ⟨a1, a2, a4⟩
  unfold zStep
  split
  · have := wk 1 w; exact ⟨by omega, by omega, by omega, this.2.1⟩
  split
  · have := wk 2 w; exact ⟨by omega, by omega, by omega, this.2.1⟩
  split
  · have := ov w; exact ⟨by omega, by omega, by omega, this.2.1⟩
  split
  · have := tg 2 4 w; exact ⟨by omega, by omega, by omega, this.2.1⟩
  split
  · have := tg 2 5 w; exact ⟨by omega, by omega, by omega, this.2.1⟩
  split
  · obtain ⟨lo, bo, vl, vr, rs, ya, sc⟩ := w
    refine ⟨Nat.le_refl _, ?_, by show lo.length ≤ lo.length + 3; omega, rfl⟩
    show lo.length + vr.length ≤ lo.length + (vr ++ [vl.getLastD 0]).length
    rw [List.length_append]
    omega
  split
  · obtain ⟨lo, bo, vl, vr, rs, ya, sc⟩ := w
    exact ⟨Nat.le_refl _, Nat.le_refl _, by show lo.length ≤ lo.length + 3; omega, rfl⟩
  split
  · have := tg 3 4 w; exact ⟨by omega, by omega, by omega, this.2.1⟩
  · have a := wk 1 w
    have b := ov (zWork jo 1 w)
    have c := wk 1 (zOver jo (zWork jo 1 w))
    exact ⟨by omega, by omega, by omega, c.2.1.trans (b.2.1.trans a.2.1)⟩
section ET
variable {xm : Nat → Option kE} {mem : kM} {N M0 nb k C S ck b n : Nat} {F : kSg} {g : Nat → Int32} {sum : Int64} {t jo x y : Int32} {lo : List kLf} {bo pa vl vr ya : List Int32} {ps : List aS} {rs : List (List Int32)} {sc : Nat → Int32} {st : aS} {T : kO × kM → Prop} {sp : aR} {w : aW}
/-- the reference within a call -/
def VW (xm : Nat → Option kE) (M0 nb : Nat) (g : Nat → Int32) (sum : Int64) (pa : List Int32) (ps : List aS) (F : kSg) (ck : Nat) (w : aW) (m : kM) : Prop := WR xm M0 g sum w.1 w.2.1 pa ps w.2.2 ck F m ∧ aInv nb g w.1 w.2.1 pa ps w.2.2
/-- .. behind steps that made so many loops -/
def VA (xm : Nat → Option kE) (M0 nb : Nat) (g : Nat → Int32) (sum : Int64) (pa : List Int32) (ps : List aS) (F : kSg) (ck n c s : Nat) (m0 : kM) (w : aW) (m : kM) : Prop := ∃ ck', ck ≤ ck' ∧ VW xm M0 nb g sum pa ps F ck' w m ∧ St xm m0 m (c + 5 * n) (s + 60 * n + 4 * (ck' - ck))
theorem v_rc {K : dRes} (D : VW xm M0 nb g sum pa ps F ck w mem) (h : dOk K T) : dOk (dRc xm mem M0 15 K) T := w_rc D.1 h
end ET
