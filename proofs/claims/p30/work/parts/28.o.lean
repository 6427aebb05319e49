/-! ===== the reference's calls: together, cast, turn, bind ===== -/
section KO
variable {xm : Nat → Option kE} {mem : kM} {N M0 nb k C S ck : Nat} {F : kSg} {g : Nat → Int32} {sum : Int64} {lo : List kLf} {bo pa : List Int32} {ps : List aS} {vl vr ya : List Int32} {rs : List (List Int32)} {sc : Nat → Int32}
theorem i_mul {a b : Nat} : Int32.ofNat a * Int32.ofNat b = Int32.ofNat (a * b) := (Int32.ofNat_mul a b).symm
theorem i_ge0 {a : Nat} (h : a < 2 ^ 31) : 0 ≤ Int32.ofNat a := Int32.not_lt.mp (i_nn h)
theorem HpS.swap67 {a0 a1 a2 a3 a4 a5 X Y : kSg} {R : List kSg} (H : HpS (a0 :: a1 :: a2 :: a3 :: a4 :: a5 :: X :: Y :: R) mem) : HpS (a0 :: a1 :: a2 :: a3 :: a4 :: a5 :: Y :: X :: R) mem :=
  Hp.perm H (List.Perm.flatten (((((((List.Perm.swap Y X R).cons a5).cons a4).cons a3).cons a2).cons a1).cons a0))
end KO
