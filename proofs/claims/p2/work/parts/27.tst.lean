theorem kTst0 : (match kLoop (kXm 0 (fun _ => 0)) kSm kDfl kFty kG (kExec (kXm 0 (fun _ => 0)) kSm kDfl kFty kG 5000 40) 0 5000 0 [(0, .ref 0)] [] [] with
  | some (.inl (some (.int x)), m1) => x == 1 && decide (m1.length < 5000)
  | _ => false) = true := by decide +kernel
