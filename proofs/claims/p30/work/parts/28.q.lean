/-! ===== the reference's calls: latch, pattern, undo, buy ===== -/
section KQ
variable {xm : Nat → Option kE} {mem : kM} {N M0 nb k C S ck : Nat} {F : kSg} {g : Nat → Int32} {sum : Int64} {lo : List kLf} {bo pa : List Int32} {ps : List aS} {vl vr ya : List Int32} {rs : List (List Int32)} {sc : Nat → Int32} {T : kO × kM → Prop}
theorem in_nat {x : Int32} {n : Nat} (hn : n < 2 ^ 31) (h : ¬ (if x < 0 then (0 : Int32) else if Int32.ofNat n - 1 < x then 0 else 1) = 0) : ∃ i : Nat, x = Int32.ofNat i ∧ i < n := by
  by_cases g1 : x < 0
  · rw [if_pos g1] at h; exact absurd rfl h
  · rw [if_neg g1] at h
    by_cases g2 : Int32.ofNat n - 1 < x
    · rw [if_pos g2] at h; exact absurd rfl h
    · have x0 : 0 ≤ x := Int32.not_lt.mp g1
      obtain ⟨ex, hxl⟩ := i_of x0
      refine ⟨x.toNatClampNeg, ex, ?_⟩
      by_cases hn0 : n = 0
      · exfalso
        subst hn0
        apply g2
        rw [Int32.lt_iff_toInt_lt]
        rw [Int32.le_iff_toInt_le] at x0
        have e1 : (Int32.ofNat 0 - 1).toInt = -1 := by decide
        have e0 : (0 : Int32).toInt = 0 := by decide
        omega
      · rw [i_sub1 (by omega), ex] at g2
        have := (not_congr (i_lt (by omega) hxl)).mp g2
        omega
theorem i_div10 {n : Nat} (h : n < 2 ^ 31) : Int32.ofNat n / 10 = Int32.ofNat (n / 10) := by
  rw [← Int32.toInt_inj, Int32.toInt_div_of_ne_right _ _ (by decide), i_toI h, i_toI (show n / 10 < 2 ^ 31 by omega)]
  rfl
theorem i_pos {n : Nat} (h : n < 2 ^ 31) : (0 < Int32.ofNat n) ↔ 0 < n := i_lt (a := 0) (by decide) h
theorem i_mod10 {n : Nat} (h : n < 2 ^ 31) : Int32.ofNat n - Int32.ofNat n / 10 * 10 = Int32.ofNat (n % 10) := by
  have e : (10 : Int32) = Int32.ofNat 10 := rfl
  rw [i_div10 h, e, ← Int32.ofNat_mul, i_sub (by omega)]
  congr 1
  omega
end KQ
