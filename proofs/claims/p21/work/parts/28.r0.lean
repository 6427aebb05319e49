/-! the law of this claim asks no thrown code: the reference's method as in the other claims, for what is said of it -/
def m_M_thrown (xm : Nat → Option kE) (N : Nat) (a0 : Nat) (mem : kM) : dRes :=
  dGI xm mem a0 15 0 fun v1 =>
  some (.inl (some (.int v1)), mem)
