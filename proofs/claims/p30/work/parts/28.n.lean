/-! ===== the reference's calls: join, cast, work, over, together, slip, cross ===== -/
section KNN
variable {xm : Nat → Option kE} {mem : kM} {N M0 nb k C S : Nat} {F : kSg}
theorem kLow {z : Nat → Int32} {x : Int32} : kUp z 0 x 6 = z 6 ∧ kUp z 0 x 7 = z 7 := ⟨rfl, rfl⟩
theorem split3 {α : Type} {l : List α} {n2 n1 : Nat} (h : n1 + n2 ≤ l.length) : ∃ A xs ys, l = A ++ xs ++ ys ∧ xs.length = n2 ∧ ys.length = n1 := by
  refine ⟨l.take (l.length - (n1 + n2)), (l.drop (l.length - (n1 + n2))).take n2, (l.drop (l.length - (n1 + n2))).drop n2, ?_, ?_, ?_⟩
  · rw [List.append_assoc, List.take_append_drop, List.take_append_drop]
  · rw [List.length_take, List.length_drop]; omega
  · rw [List.length_drop, List.length_drop]; omega
theorem is_nat {x : Int32} {a b : Nat} (ha : a < 2 ^ 31) (hb : b < 2 ^ 31) (h : ¬ (if x < Int32.ofNat a then (0 : Int32) else if Int32.ofNat b < x then 0 else 1) = 0) : ∃ n : Nat, x = Int32.ofNat n ∧ a ≤ n ∧ n ≤ b := by
  by_cases g1 : x < Int32.ofNat a
  · rw [if_pos g1] at h; exact absurd rfl h
  · rw [if_neg g1] at h
    by_cases g2 : Int32.ofNat b < x
    · rw [if_pos g2] at h; exact absurd rfl h
    · have g1' := g1
      rw [Int32.lt_iff_toInt_lt, i_toI ha] at g1
      have x0 : 0 ≤ x := by
        rw [Int32.le_iff_toInt_le]
        have e0 : (0 : Int32).toInt = 0 := by decide
        omega
      obtain ⟨ex, hxl⟩ := i_of x0
      rw [ex] at g1' g2
      refine ⟨x.toNatClampNeg, ex, ?_, ?_⟩
      · have := (not_congr (i_lt hxl ha)).mp g1'
        omega
      · have := (not_congr (i_lt hb hxl)).mp g2
        omega
end KNN
