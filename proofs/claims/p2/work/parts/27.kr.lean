/-! ===== rules of walks, one for each kind of instruction that reads or writes memory, or branches ===== -/
section KRULES
variable {xm : Nat → Option kE} {sm : Nat → Option Value} {dfl : Nat → Option (List Value)} {fty : Nat → Nat → FieldType} {G : kT} {d mi pc : Nat} {lv : kL} {st : List Value} {mem : kM} {P : kO → kM → Prop}
variable {a b i r : Nat}
theorem wp_ifc {c : Jvm.ClassFile.Cond} {o : Int} {x : Int32} (hG : G.1 mi pc = some (.ifCond c o, a, b)) (h1 : kIf c x 0 = true → kGo xm sm dfl fty G d mi a lv st mem P) (h2 : kIf c x 0 = false → kGo xm sm dfl fty G d mi (pc + 3) lv st mem P) : kGo xm sm dfl fty G d mi pc lv (.int x :: st) mem P := by
  refine wp_step hG (pc' := if kIf c x 0 = true then a else pc + 3) (lv' := lv) (st' := st) (mem' := mem) rfl ?_
  by_cases h : kIf c x 0 = true
  · rw [if_pos h]; exact h1 h
  · rw [if_neg h]; exact h2 (by simpa using h)
theorem wp_icmp {c : Jvm.ClassFile.Cond} {o : Int} {x y : Int32} (hG : G.1 mi pc = some (.if_icmp c o, a, b)) (h1 : kIf c x y = true → kGo xm sm dfl fty G d mi a lv st mem P) (h2 : kIf c x y = false → kGo xm sm dfl fty G d mi (pc + 3) lv st mem P) : kGo xm sm dfl fty G d mi pc lv (.int y :: .int x :: st) mem P := by
  refine wp_step hG (pc' := if kIf c x y = true then a else pc + 3) (lv' := lv) (st' := st) (mem' := mem) rfl ?_
  by_cases h : kIf c x y = true
  · rw [if_pos h]; exact h1 h
  · rw [if_neg h]; exact h2 (by simpa using h)
theorem wp_gf {fs : List Value} {v : Value} (hG : G.1 mi pc = some (.getfield i, a, b)) (hk : kLook xm mem r = some (.inl (a, fs))) (hv : fs[b]? = some v) (k : kGo xm sm dfl fty G d mi (pc + 3) lv (v :: st) mem P) : kGo xm sm dfl fty G d mi pc lv (.ref r :: st) mem P := by
  refine wp_step hG ?_ k
  show kStep xm sm dfl fty _ _ (.getfield i) a b pc lv (.ref r :: st) mem = _
  simp [kStep, kTopA, hk, hv, kNx]
theorem wp_pf {fs : List Value} {v : Value} (hG : G.1 mi pc = some (.putfield i, a, b)) (hk : kLook xm mem r = some (.inl (a, fs))) (h1 : 1000 ≤ r) (hb : b < fs.length) (hf : kFits (fty a b) v = true) (k : kGo xm sm dfl fty G d mi (pc + 3) lv st (mem.set (r - 1000) (.inl (a, fs.set b v))) P) : kGo xm sm dfl fty G d mi pc lv (v :: .ref r :: st) mem P := by
  refine wp_step hG ?_ k
  show kStep xm sm dfl fty _ _ (.putfield i) a b pc lv (v :: .ref r :: st) mem = _
  simp [kStep, hk, h1, hb, hf, kNx]
theorem wp_len {t : Nat} {xs : List Int32} (hG : G.1 mi pc = some (.arraylength, a, b)) (hk : kLook xm mem r = some (.inr (.inl (t, xs)))) (ht : t < 2) (k : kGo xm sm dfl fty G d mi (pc + 1) lv (.int (Int32.ofNat xs.length) :: st) mem P) : kGo xm sm dfl fty G d mi pc lv (.ref r :: st) mem P := by
  refine wp_step hG ?_ k
  show kStep xm sm dfl fty _ _ .arraylength a b pc lv (.ref r :: st) mem = _
  simp [kStep, kTopA, hk, ht, kNx]
theorem wp_lenQ {t : Nat} {xs : List (Option Nat)} (hG : G.1 mi pc = some (.arraylength, a, b)) (hk : kLook xm mem r = some (.inr (.inr (t, xs)))) (ht : t = 2 ∨ t = 3) (k : kGo xm sm dfl fty G d mi (pc + 1) lv (.int (Int32.ofNat xs.length) :: st) mem P) : kGo xm sm dfl fty G d mi pc lv (.ref r :: st) mem P := by
  refine wp_step hG ?_ k
  show kStep xm sm dfl fty _ _ .arraylength a b pc lv (.ref r :: st) mem = _
  simp [kStep, kTopA, hk, ht, kNx]
theorem wp_ial {xs : List Int32} {j : Int32} (hG : G.1 mi pc = some (.iaload, a, b)) (hk : kLook xm mem r = some (.inr (.inl (0, xs)))) (hj : kInB j xs.length = true) (k : kGo xm sm dfl fty G d mi (pc + 1) lv (.int (xs.getD j.toNatClampNeg 0) :: st) mem P) : kGo xm sm dfl fty G d mi pc lv (.int j :: .ref r :: st) mem P := by
  refine wp_step hG ?_ k
  show kStep xm sm dfl fty _ _ .iaload a b pc lv (.int j :: .ref r :: st) mem = _
  simp [kStep, kTopA, kTopI, hk, hj, kNx]
theorem wp_ias {xs : List Int32} {j x : Int32} (hG : G.1 mi pc = some (.iastore, a, b)) (hk : kLook xm mem r = some (.inr (.inl (0, xs)))) (h1 : 1000 ≤ r) (hj : kInB j xs.length = true) (k : kGo xm sm dfl fty G d mi (pc + 1) lv st (mem.set (r - 1000) (.inr (.inl (0, xs.set j.toNatClampNeg x)))) P) : kGo xm sm dfl fty G d mi pc lv (.int x :: .int j :: .ref r :: st) mem P := by
  refine wp_step hG ?_ k
  show kStep xm sm dfl fty _ _ .iastore a b pc lv (.int x :: .int j :: .ref r :: st) mem = _
  simp [kStep, kTopA, kTopI, hk, hj, h1, kNx]
theorem wp_aal {t : Nat} {xs : List (Option Nat)} {j : Int32} (hG : G.1 mi pc = some (.aaload, a, b)) (hk : kLook xm mem r = some (.inr (.inr (t, xs)))) (ht : t = 2 ∨ t = 3 ∨ (t = 4 ∧ r < 1000)) (hj : kInB j xs.length = true) (k : kGo xm sm dfl fty G d mi (pc + 1) lv (kRf (xs.getD j.toNatClampNeg none) :: st) mem P) : kGo xm sm dfl fty G d mi pc lv (.int j :: .ref r :: st) mem P := by
  refine wp_step hG ?_ k
  show kStep xm sm dfl fty _ _ .aaload a b pc lv (.int j :: .ref r :: st) mem = _
  rcases ht with rfl | rfl | ⟨rfl, h⟩ <;> simp [kStep, kTopA, kTopI, hk, hj, kNx, *]
theorem kTopQ_rf (v : Option Nat) (st : List Value) (k : Option Nat → List Value → Option kR) : kTopQ (kRf v :: st) k = k v st := by cases v <;> rfl
theorem wp_aas {t : Nat} {xs : List (Option Nat)} {j : Int32} {v : Option Nat} (hG : G.1 mi pc = some (.aastore, a, b)) (hk : kLook xm mem r = some (.inr (.inr (t, xs)))) (h1 : 1000 ≤ r) (ht : t = 2 ∨ t = 3) (hj : kInB j xs.length = true) (hv : kStOk xm mem t v = true) (k : kGo xm sm dfl fty G d mi (pc + 1) lv st (mem.set (r - 1000) (.inr (.inr (t, xs.set j.toNatClampNeg v)))) P) : kGo xm sm dfl fty G d mi pc lv (kRf v :: .int j :: .ref r :: st) mem P := by
  refine wp_step hG ?_ k
  show kStep xm sm dfl fty _ _ .aastore a b pc lv (kRf v :: .int j :: .ref r :: st) mem = _
  rcases ht with rfl | rfl <;> simp [kStep, kTopQ_rf, kTopA, kTopI, hk, hj, h1, hv, kNx]
end KRULES
/-! ===== what a store changes ===== -/
theorem kLook_set {xm : Nat → Option kE} {mem : kM} {r q : Nat} {e : kE} : kLook xm (mem.set (r - 1000) e) q = if 1000 ≤ q ∧ q - 1000 = r - 1000 ∧ q - 1000 < mem.length then some e else kLook xm mem q := by
  unfold kLook
  by_cases hq : q < 1000
  · rw [if_pos hq, if_pos hq, if_neg (by omega)]
  · rw [if_neg hq, if_neg hq, List.getElem?_set]
    by_cases h : r - 1000 = q - 1000
    · rw [if_pos h]
      by_cases h2 : q - 1000 < mem.length
      · rw [if_pos (by rw [h]; exact h2), if_pos ⟨by omega, h.symm, h2⟩]
      · rw [if_neg (by rw [h]; exact h2), if_neg (fun z => h2 z.2.2), List.getElem?_eq_none (by omega)]
    · rw [if_neg h, if_neg (fun z => h z.2.1.symm)]
/-! ===== the balls of the class: a try ===== -/
theorem kc_has {xm : Nat → Option kE} {r q : Nat} {cnt j x : Int32} {ys : List Int32} {mem : kM} (h0 : kLook xm mem r = some (.inl (5, [.ref q, .int cnt, .int j]))) (h1 : kLook xm mem q = some (.inr (.inl (0, ys)))) :
    kCa xm kSm kDfl kFty kG 1 2 [.ref r, .int x] mem (fun o m1 => m1 = mem ∧ o = .inl (some (.int (if 0 ≤ x ∧ x < cnt ∧ x < Int32.ofNat ys.length then 1 else 0)))) := by
  refine ca_of (show 2 ≤ 2 from Nat.le_refl 2) ?_
  refine wp_run 1 (pc' := 1) (lv' := [(0, .ref r), (1, .int x)]) (st' := [.int x]) (mem' := mem) rfl ?_
  have no : ¬ (0 ≤ x ∧ x < cnt ∧ x < Int32.ofNat ys.length) → kGo xm kSm kDfl kFty kG 0 2 25 [(0, .ref r), (1, .int x)] [] mem (fun o m1 => m1 = mem ∧ o = .inl (some (.int (if 0 ≤ x ∧ x < cnt ∧ x < Int32.ofNat ys.length then 1 else 0)))) := by
    intro h
    refine wp_run 1 (pc' := 26) (lv' := [(0, .ref r), (1, .int x)]) (st' := [.int 0]) (mem' := mem) rfl ?_
    exact wp_end (o := .inl (some (.int 0))) (m1 := mem) rfl rfl ⟨rfl, by rw [if_neg h]⟩
  refine wp_ifc (a := 25) rfl (fun g0 => no ?_) (fun g0 => ?_)
  · intro h
    have g0 : x < 0 := by simpa [kIf] using g0
    exact absurd h.1 (Int32.not_le.mpr g0)
  have g0 : 0 ≤ x := by simpa [kIf] using g0
  refine wp_run 2 (pc' := 6) (lv' := [(0, .ref r), (1, .int x)]) (st' := [.ref r, .int x]) (mem' := mem) rfl ?_
  refine wp_gf rfl h0 rfl ?_
  refine wp_icmp (a := 25) rfl (fun g1 => no ?_) (fun g1 => ?_)
  · intro h
    have g1 : cnt ≤ x := by simpa [kIf] using g1
    exact absurd h.2.1 (Int32.not_lt.mpr g1)
  have g1 : x < cnt := by simpa [kIf] using g1
  refine wp_run 2 (pc' := 14) (lv' := [(0, .ref r), (1, .int x)]) (st' := [.ref r, .int x]) (mem' := mem) rfl ?_
  refine wp_gf rfl h0 rfl ?_
  refine wp_len rfl h1 (by decide) ?_
  refine wp_icmp (a := 25) rfl (fun g2 => no ?_) (fun g2 => ?_)
  · intro h
    have g2 : Int32.ofNat ys.length ≤ x := by simpa [kIf] using g2
    exact absurd h.2.2 (Int32.not_lt.mpr g2)
  have g2 : x < Int32.ofNat ys.length := by simpa [kIf] using g2
  refine wp_run 2 (pc' := 26) (lv' := [(0, .ref r), (1, .int x)]) (st' := [.int 1]) (mem' := mem) rfl ?_
  exact wp_end (o := .inl (some (.int 1))) (m1 := mem) rfl rfl ⟨rfl, by rw [if_pos ⟨g0, g1, g2⟩]⟩
