theorem kPure (L : Nat) (xs : Nat → Int32) (hL : L ≤ 1536) : kGo (kXm L xs) kSm kDfl kFty kG 200 0 0 [(0, .ref 0)] [] [] (fun o m1 => o = .inl (some (.int 1)) ∧ m1.length ≤ 601024 ∧ kSl m1 ≤ 7293034) := by
  sorry
