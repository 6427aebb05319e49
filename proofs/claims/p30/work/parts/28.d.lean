/-! ===== lists of the JDK: addAll, insert, iterators; numbers ===== -/
section KD2
variable {xm : Nat → Option kE} {mem : kM} {F : List (Nat × kE)} {N a q cap x : Nat} {mc : Int32} {es : List Nat}
theorem sAr_take : (es.map some ++ List.replicate (cap - es.length) none : List (Option Nat)).take es.length = es.map some := List.take_left' (by simp)
/-- how long the array is, behind adding k more; what was taken for it -/
def kBc (cap n k : Nat) : Nat := if k = 0 then cap else if cap - n < k then kGr cap (n + k) else cap
theorem sAL_perm {A : List (Nat × kE)} {z : Nat × kE} : (z :: (sAL a q mc cap es ++ A)).Perm (sAL a q mc cap es ++ z :: A) := (List.perm_middle (a := z) (l₁ := sAL a q mc cap es) (l₂ := A)).symm
end KD2
