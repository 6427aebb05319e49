/-! ===== the bridge: what the interpreter computes of the law, the law's run does ===== -/
theorem kBridge {p : Program} {e : Env} {s : State} {m : MethodId} {below : List Frame} {meth : Method} {c : Code} (l : Launch) (hl : l.stackTraces = false) {b L : Nat} {xs : Nat → Int32} (C0 : lw_At p s m meth c b L xs) {F d f : Nat} {m1 : kM} (hd : d ≤ 200)
    (hrun : kLoop (kXm L xs) kSm kDfl kFty kG (kExec (kXm L xs) kSm kDfl kFty kG F d) 0 f 0 [(0, .ref 0)] [] [] = some (.inl (some (.int 1)), m1)) (hroom : m1.length ≤ 701464 ∧ kSl m1 ≤ 6991711) :
    W p l e room_1 s m #[Value.ref b] below meth c s.heap [] 0 0 (lw_Z below #[Value.ref b] s) (entryFrame m ([Value.ref b] : List Value).toArray 9) := by
  obtain ⟨D, dA, ext, he, hWd⟩ := kStart C0
  obtain ⟨hx, hcode, hret, hml, hown, hts0, -, hbl, hlk, -, hmn, ht⟩ := C0
  have hts := kTs hts0
  obtain ⟨-, g2⟩ := kWalk (p := p) (l := l) (e := e) (R := room_1) (s := s) (m := m) (args := #[Value.ref b]) (below := below) (meth := meth) (c := c) (D := D) (dA := dA) (ext := ext) (base := s.heap.size) (n0 := 0) (z0 := 0) (mi := 0) (F := F) (d := d) kTOk_holds hl
    (fun y hy av mem r h => kSim kTOk_holds hl d y hy av mem r h) hx hcode hml hown hts hWd hmn hret hlk (fun _ => ht) (fun hh h => by cases h) (by show 9 + (d + 1) ≤ 2048; omega) (by show 300 * (d + 2) ≤ 84000; omega) f 0 [(0, .ref 0)] [] [] _ m1 hrun
  have hA := g2 ⟨by rw [Nat.zero_add]; exact hroom.1, by rw [Nat.zero_add]; exact hroom.2⟩
  have hRM : kRM D dA ext s.heap.size (kXm L xs) [] s.heap := ⟨by simp, fun r e' h1 h2 _ => by unfold kLook at h2; rw [if_neg (by omega)] at h2; cases h2⟩
  have hlv := lv_entry (n := 9) [Value.ref b] (show 1 ≤ 9 by decide)
  have hlv' : lv_has ((lg_sl [Value.ref b] ++ List.replicate (9 - (lg_sl [Value.ref b]).length) Slot.unset).toArray) (kNL 0) (kTl (kAd ext s.heap.size) [(0, .ref 0)]) := by
    have e1 : kAd ext s.heap.size 0 = b := he
    show lv_has _ _ [(0, Value.ref (kAd ext s.heap.size 0))]
    rw [e1]
    exact hlv
  have hW := hA s.heap [] 0 0 _ hRM va_S.rf hlv' rfl rfl
  rw [lg_entry_eq]
  intro T hT X
  obtain ⟨t, a1, b1⟩ := hW T hT X
  obtain ⟨o, h1, h2, ⟨rfl, -, -⟩, Ls, ⟨-, hW2, hs⟩, hfree⟩ := b1
  refine ⟨t, a1, _, h1, h2, rfl, lw_closed (d0 := s.drawn) (Drawn.sameBut.refl _ _) ⟨_, rfl⟩ hW2 ?_⟩
  exact State.sameButNew.mono (State.sameButNew.drop_fresh (L := []) (J := Ls) hs hfree) (by simpa using hroom.1) (by simpa using hroom.2)
