/-! ===== lists of the JDK: what changes them ===== -/
/-- an array's length, and what was taken for it, when one more is put into a list -/
def kAc (cap n : Nat) : Nat := if n = cap then kGr cap (n + 1) else cap
def kAs (cap n : Nat) : Nat := if n = cap then kGr cap (n + 1) else 0
section KC
variable {xm : Nat → Option kE} {mem : kM} {F : List (Nat × kE)} {N a q cap x : Nat} {mc : Int32} {es : List Nat}
theorem sAL_pos (h : cap ≠ 0) : sAL a q mc cap es ++ F = sHd a q mc es.length :: (q, sAr cap es) :: F := by
  unfold sAL
  rw [if_neg h]
  rfl
theorem sAL_nil : sAL a q mc 0 es ++ F = sHd a q mc es.length :: F := rfl
theorem sAr_push (h : es.length < cap) : (es.map some ++ List.replicate (cap - es.length) none : List (Option Nat)).set es.length (some x) = (es ++ [x]).map some ++ List.replicate (cap - (es ++ [x]).length) none := by
  obtain ⟨k, hk⟩ : ∃ k, cap - es.length = k + 1 := ⟨cap - es.length - 1, by omega⟩
  rw [List.set_append_right _ _ (by simp), hk]
  simp only [List.length_map, Nat.sub_self, List.replicate_succ, List.set_cons_zero, List.map_append, List.map_cons, List.map_nil, List.length_append, List.length_cons, List.length_nil, List.append_assoc, List.cons_append, List.nil_append]
  rw [show cap - (es.length + (0 + 1)) = k by omega]
end KC
