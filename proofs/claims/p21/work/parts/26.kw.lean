/-! ===== walks of the interpreter: what is reached, and with what ===== -/
section KWP
variable (xm : Nat → Option kE) (sm : Nat → Option Value) (dfl : Nat → Option (List Value)) (fty : Nat → Nat → FieldType) (G : kT)
/-- from here, with calls nested d deep, the method comes to an end with P -/
def kGo (d mi pc : Nat) (lv : kL) (st : List Value) (mem : kM) (P : kO → kM → Prop) : Prop :=
  ∃ F f o m1, kLoop xm sm dfl fty G (kExec xm sm dfl fty G F d) mi f pc lv st mem = some (o, m1) ∧ P o m1
/-- the call of method y comes to an end with P -/
def kCa (d y : Nat) (av : List Value) (mem : kM) (P : kO → kM → Prop) : Prop :=
  ∃ F o m1, kExec xm sm dfl fty G F d y av mem = some (o, m1) ∧ P o m1
end KWP
section KWR
variable {xm : Nat → Option kE} {sm : Nat → Option Value} {dfl : Nat → Option (List Value)} {fty : Nat → Nat → FieldType} {G : kT} {d mi pc : Nat} {lv : kL} {st : List Value} {mem : kM} {P : kO → kM → Prop}
theorem wp_step {x : kI} {pc' : Nat} {lv' : kL} {st' : List Value} {mem' : kM} (hG : G.1 mi pc = some x) (hs : kStep xm sm dfl fty (G.2.1 mi) (G.2.2.1 mi) x.1 x.2.1 x.2.2 pc lv st mem = some (.inl (pc', lv', st', mem'))) (k : kGo xm sm dfl fty G d mi pc' lv' st' mem' P) : kGo xm sm dfl fty G d mi pc lv st mem P := by
  obtain ⟨F, f, o, m1, h, hP⟩ := k
  obtain ⟨ins, a, b⟩ := x
  refine ⟨F, f + 1, o, m1, ?_, hP⟩
  rw [kLoop, hG]
  simp only [hs]
  exact h
theorem wp_end {x : kI} {o : kO} {m1 : kM} (hG : G.1 mi pc = some x) (hs : kStep xm sm dfl fty (G.2.1 mi) (G.2.2.1 mi) x.1 x.2.1 x.2.2 pc lv st mem = some (.inr (.inl (o, m1)))) (h : P o m1) : kGo xm sm dfl fty G d mi pc lv st mem P := by
  obtain ⟨ins, a, b⟩ := x
  refine ⟨0, 1, o, m1, ?_, h⟩
  rw [kLoop, hG]
  simp only [hs]
theorem ca_mono {d' y : Nat} {av : List Value} {Q : kO → kM → Prop} (hd : d ≤ d') (hPQ : ∀ o m1, P o m1 → Q o m1) (h : kCa xm sm dfl fty G d y av mem P) : kCa xm sm dfl fty G d' y av mem Q := by
  obtain ⟨F, o, m1, h, hP⟩ := h
  exact ⟨F, o, m1, kExec_le xm sm dfl fty G (Nat.le_refl F) d d' hd y av mem _ h, hPQ _ _ hP⟩
theorem wp_mono {Q : kO → kM → Prop} (hPQ : ∀ o m1, P o m1 → Q o m1) (h : kGo xm sm dfl fty G d mi pc lv st mem P) : kGo xm sm dfl fty G d mi pc lv st mem Q := by
  obtain ⟨F, f, o, m1, h, hP⟩ := h
  exact ⟨F, f, o, m1, h, hPQ _ _ hP⟩
theorem ca_of {y : Nat} {av : List Value} (hn : (av.map fun v => v.category).sum ≤ G.2.1 y) (k : kGo xm sm dfl fty G d y 0 (lv_args 0 av) [] mem P) : kCa xm sm dfl fty G (d + 1) y av mem P := by
  obtain ⟨F, f, o, m1, h, hP⟩ := k
  refine ⟨max F f, o, m1, ?_, hP⟩
  rw [kExec, if_pos hn]
  exact kLoop_le xm sm dfl fty G (fun y args mem r h => kExec_le xm sm dfl fty G (Nat.le_max_left F f) d d (Nat.le_refl d) y args mem r h) y f _ (Nat.le_max_right F f) _ _ _ _ _ h
/-- goal first: the call; then from its answer; then (where it may throw) from the handler -/
theorem wp_call {x : kI} {y len : Nat} {av rest : List Value} {Pc : kO → kM → Prop} (hG : G.1 mi pc = some x) (hs : kStep xm sm dfl fty (G.2.1 mi) (G.2.2.1 mi) x.1 x.2.1 x.2.2 pc lv st mem = some (.inr (.inr (y, av, rest, len)))) (hc : kCa xm sm dfl fty G d y av mem Pc)
    (k : ∀ v m1, Pc (.inl v) m1 → kGo xm sm dfl fty G d mi (pc + len) lv (v.toList ++ rest) m1 P)
    (kX : ∀ E m1, Pc (.inr E) m1 → ∃ h i, G.2.2.2 mi pc E = some (h, i) ∧ kGo xm sm dfl fty G d mi h (lv.filter (fun q => !(q.1 == i) && !(q.1 + 1 == i && q.2.category == 2))) [] m1 P) : kGo xm sm dfl fty G d mi pc lv st mem P := by
  obtain ⟨F1, o1, m1, h1, hP1⟩ := hc
  obtain ⟨ins, a, b⟩ := x
  have up : ∀ F2, ∀ y args mem r, kExec xm sm dfl fty G F2 d y args mem = some r → kExec xm sm dfl fty G (max F1 F2) d y args mem = some r := fun F2 y args mem r h => kExec_le xm sm dfl fty G (Nat.le_max_right F1 F2) d d (Nat.le_refl d) y args mem r h
  have h1' : ∀ F2, kExec xm sm dfl fty G (max F1 F2) d y av mem = some (o1, m1) := fun F2 => kExec_le xm sm dfl fty G (Nat.le_max_left F1 F2) d d (Nat.le_refl d) y av mem _ h1
  cases o1 with
  | inl v =>
    obtain ⟨F2, f, o, m2, h2, hP⟩ := k v m1 hP1
    refine ⟨max F1 F2, f + 1, o, m2, ?_, hP⟩
    rw [kLoop, hG]
    simp only [hs, h1' F2]
    exact kLoop_le xm sm dfl fty G (up F2) mi f f (Nat.le_refl f) _ _ _ _ _ h2
  | inr E =>
    obtain ⟨hp, i, hh, F2, f, o, m2, h2, hP⟩ := kX E m1 hP1
    refine ⟨max F1 F2, f + 1, o, m2, ?_, hP⟩
    rw [kLoop, hG]
    simp only [hs, h1' F2, hh]
    exact kLoop_le xm sm dfl fty G (up F2) mi f f (Nat.le_refl f) _ _ _ _ _ h2
/-- some pure steps at once -/
def kRun (xm : Nat → Option kE) (sm : Nat → Option Value) (dfl : Nat → Option (List Value)) (fty : Nat → Nat → FieldType) (G : kT) (mi : Nat) : Nat → (Nat × kL × List Value × kM) → Option (Nat × kL × List Value × kM)
  | 0, s => some s
  | n + 1, s => match G.1 mi s.1 with
    | none => none
    | some x => match kStep xm sm dfl fty (G.2.1 mi) (G.2.2.1 mi) x.1 x.2.1 x.2.2 s.1 s.2.1 s.2.2.1 s.2.2.2 with
      | some (.inl s') => kRun xm sm dfl fty G mi n s'
      | _ => none
theorem wp_run (n : Nat) {pc' : Nat} {lv' : kL} {st' : List Value} {mem' : kM} (h : kRun xm sm dfl fty G mi n (pc, lv, st, mem) = some (pc', lv', st', mem')) (k : kGo xm sm dfl fty G d mi pc' lv' st' mem' P) : kGo xm sm dfl fty G d mi pc lv st mem P := by
  induction n generalizing pc lv st mem with
  | zero => cases h; exact k
  | succ n ih =>
    rw [kRun] at h
    cases hG : G.1 mi pc with
    | none => simp only [hG] at h; cases h
    | some x =>
      simp only [hG] at h
      split at h
      · rename_i s' hs
        obtain ⟨p1, l1, t1, m1⟩ := s'
        exact wp_step hG hs (ih h)
      · cases h
end KWR
/-- the law's walk, from its first instruction, with 1 as its answer within its room: the law's run -/
theorem kFinal {p : Program} {e : Env} {s : State} {m : MethodId} {below : List Frame} {meth : Method} {c : Code} (l : Launch) (hl : l.stackTraces = false) {b L : Nat} {xs : Nat → Int32} (C0 : lw_At p s m meth c b L xs)
    (hw : kGo (kXm L xs) kSm kDfl kFty kG 200 0 0 [(0, .ref 0)] [] [] (fun o m1 => o = .inl (some (.int 1)) ∧ m1.length ≤ 701464 ∧ kSl m1 ≤ 6991711)) :
    W p l e room_1 s m #[Value.ref b] below meth c s.heap [] 0 0 (lw_Z below #[Value.ref b] s) (entryFrame m ([Value.ref b] : List Value).toArray 9) := by
  obtain ⟨F, f, o, m1, h, rfl, h1, h2⟩ := hw
  exact kBridge l hl C0 (Nat.le_refl 200) h ⟨h1, h2⟩
