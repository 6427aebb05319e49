/-! ===== the reference: a state's copy ===== -/
section KH
variable {xm : Nat → Option kE} {mem : kM} {Ls : List kSg} {N : Nat}
theorem HpS.rev6 {A B C D E G : kSg} (H : HpS (A :: B :: C :: D :: E :: G :: Ls) mem) : HpS ([G, E, D, C, B, A].flatten :: Ls) mem := by
  refine Hp.perm H ?_
  have h := (List.reverse_perm [A, B, C, D, E, G]).symm
  have h2 : ([A, B, C, D, E, G] ++ Ls).Perm ([G, E, D, C, B, A] ++ Ls) := h.append_right Ls
  have h3 := h2.flatten
  rw [List.flatten_append (L₁ := [G, E, D, C, B, A])] at h3
  exact h3
theorem kCpy4 {ya : List Int32} (h : ya.length = 4) : kCpy ya [0, 0, 0, 0] (0 : Int32).toNatClampNeg (0 : Int32).toNatClampNeg (4 : Int32).toNatClampNeg = ya := by
  match ya, h with
  | [w0, w1, w2, w3], _ => rfl
theorem sWf_nil : sWf 1 0 [] := ⟨Nat.le_refl _, by decide, fun _ => rfl⟩
end KH
