/-! ===== a property of its own: the law's walk ===== -/
theorem kPure (L : Nat) (xs : Nat → Int32) (hL : L ≤ 260) : ∀ z : Value, z.category = 1 → kGo (kXm L xs) (kSm z) kDfl kFty kG 200 0 0 [(0, .ref 0)] [] [] (fun o m1 => o = .inl (some (.int 1)) ∧ m1.length ≤ 600172 ∧ kSl m1 ≤ 7300667) := by
  intro z hz
  obtain ⟨R, h1, h2, h3, h4⟩ := law_all30 (N := 400) (xm := kXm L xs) (xs := (List.range L).map xs) (Nat.le_refl _) (kXok_k L xs) rfl (by rw [List.length_map, List.length_range]; omega)
  refine go_mono (show 10 ≤ 200 by decide) (wp_mono ?_ (go_of_ca (m_law_law_ok hz (kXm L xs) 400 h1)))
  intro o m1 e
  have e : (o, m1) = R := e
  subst e
  exact ⟨h2, Nat.le_trans h3 (by decide), Nat.le_trans h4 (by decide)⟩
