/-! ===== rules of walks, one for each kind of instruction that reads or writes memory, or branches ===== -/
section KRULES
variable {xm : Nat → Option kE} {sm : Nat → Option Value} {dfl : Nat → Option (List Value)} {fty : Nat → Nat → FieldType} {G : kT} {d mi pc : Nat} {lv : kL} {st : List Value} {mem : kM} {P : kO → kM → Prop}
variable {a b i r : Nat}
theorem wp_ifc {c : Jvm.ClassFile.Cond} {o : Int} {x : Int32} (hG : G.1 mi pc = some (.ifCond c o, a, b)) (h1 : kIf c x 0 = true → kGo xm sm dfl fty G d mi a lv st mem P) (h2 : kIf c x 0 = false → kGo xm sm dfl fty G d mi (pc + 3) lv st mem P) : kGo xm sm dfl fty G d mi pc lv (.int x :: st) mem P := by
  refine wp_step hG (pc' := if kIf c x 0 = true then a else pc + 3) (lv' := lv) (st' := st) (mem' := mem) rfl ?_
  by_cases h : kIf c x 0 = true
  · rw [if_pos h]; exact h1 h
  · rw [if_neg h]; exact h2 (by simpa using h)
theorem wp_icmp {c : Jvm.ClassFile.Cond} {o : Int} {x y : Int32} (hG : G.1 mi pc = some (.if_icmp c o, a, b)) (h1 : kIf c x y = true → kGo xm sm dfl fty G d mi a lv st mem P) (h2 : kIf c x y = false → kGo xm sm dfl fty G d mi (pc + 3) lv st mem P) : kGo xm sm dfl fty G d mi pc lv (.int y :: .int x :: st) mem P := by
  refine wp_step hG (pc' := if kIf c x y = true then a else pc + 3) (lv' := lv) (st' := st) (mem' := mem) rfl ?_
  by_cases h : kIf c x y = true
  · rw [if_pos h]; exact h1 h
  · rw [if_neg h]; exact h2 (by simpa using h)
theorem wp_gf {fs : List Value} {v : Value} (hG : G.1 mi pc = some (.getfield i, a, b)) (hk : kLook xm mem r = some (.inl (a, fs))) (hv : fs[b]? = some v) (k : kGo xm sm dfl fty G d mi (pc + 3) lv (v :: st) mem P) : kGo xm sm dfl fty G d mi pc lv (.ref r :: st) mem P := by
  refine wp_step hG ?_ k
  show kStep xm sm dfl fty _ _ (.getfield i) a b pc lv (.ref r :: st) mem = _
  simp [kStep, kTopA, hk, hv, kNx]
theorem wp_pf {fs : List Value} {v : Value} (hG : G.1 mi pc = some (.putfield i, a, b)) (hk : kLook xm mem r = some (.inl (a, fs))) (h1 : 1000 ≤ r) (hb : b < fs.length) (hf : kFits (fty a b) v = true) (k : kGo xm sm dfl fty G d mi (pc + 3) lv st (mem.set (r - 1000) (.inl (a, fs.set b v))) P) : kGo xm sm dfl fty G d mi pc lv (v :: .ref r :: st) mem P := by
  refine wp_step hG ?_ k
  show kStep xm sm dfl fty _ _ (.putfield i) a b pc lv (v :: .ref r :: st) mem = _
  simp [kStep, hk, h1, hb, hf, kNx]
theorem wp_len {t : Nat} {xs : List Int32} (hG : G.1 mi pc = some (.arraylength, a, b)) (hk : kLook xm mem r = some (.inr (.inl (t, xs)))) (ht : t < 2) (k : kGo xm sm dfl fty G d mi (pc + 1) lv (.int (Int32.ofNat xs.length) :: st) mem P) : kGo xm sm dfl fty G d mi pc lv (.ref r :: st) mem P := by
  refine wp_step hG ?_ k
  show kStep xm sm dfl fty _ _ .arraylength a b pc lv (.ref r :: st) mem = _
  simp [kStep, kTopA, hk, ht, kNx]
theorem wp_lenQ {t : Nat} {xs : List (Option Nat)} (hG : G.1 mi pc = some (.arraylength, a, b)) (hk : kLook xm mem r = some (.inr (.inr (t, xs)))) (ht : t = 2 ∨ t = 3) (k : kGo xm sm dfl fty G d mi (pc + 1) lv (.int (Int32.ofNat xs.length) :: st) mem P) : kGo xm sm dfl fty G d mi pc lv (.ref r :: st) mem P := by
  refine wp_step hG ?_ k
  show kStep xm sm dfl fty _ _ .arraylength a b pc lv (.ref r :: st) mem = _
  simp [kStep, kTopA, hk, ht, kNx]
theorem wp_ial {xs : List Int32} {j : Int32} (hG : G.1 mi pc = some (.iaload, a, b)) (hk : kLook xm mem r = some (.inr (.inl (0, xs)))) (hj : kInB j xs.length = true) (k : kGo xm sm dfl fty G d mi (pc + 1) lv (.int (xs.getD j.toNatClampNeg 0) :: st) mem P) : kGo xm sm dfl fty G d mi pc lv (.int j :: .ref r :: st) mem P := by
  refine wp_step hG ?_ k
  show kStep xm sm dfl fty _ _ .iaload a b pc lv (.int j :: .ref r :: st) mem = _
  simp [kStep, kTopA, kTopI, hk, hj, kNx]
theorem wp_ias {xs : List Int32} {j x : Int32} (hG : G.1 mi pc = some (.iastore, a, b)) (hk : kLook xm mem r = some (.inr (.inl (0, xs)))) (h1 : 1000 ≤ r) (hj : kInB j xs.length = true) (k : kGo xm sm dfl fty G d mi (pc + 1) lv st (mem.set (r - 1000) (.inr (.inl (0, xs.set j.toNatClampNeg x)))) P) : kGo xm sm dfl fty G d mi pc lv (.int x :: .int j :: .ref r :: st) mem P := by
  refine wp_step hG ?_ k
  show kStep xm sm dfl fty _ _ .iastore a b pc lv (.int x :: .int j :: .ref r :: st) mem = _
  simp [kStep, kTopA, kTopI, hk, hj, h1, kNx]
theorem wp_aal {t : Nat} {xs : List (Option Nat)} {j : Int32} (hG : G.1 mi pc = some (.aaload, a, b)) (hk : kLook xm mem r = some (.inr (.inr (t, xs)))) (ht : t = 2 ∨ t = 3 ∨ (t = 4 ∧ r < 1000)) (hj : kInB j xs.length = true) (k : kGo xm sm dfl fty G d mi (pc + 1) lv (kRf (xs.getD j.toNatClampNeg none) :: st) mem P) : kGo xm sm dfl fty G d mi pc lv (.int j :: .ref r :: st) mem P := by
  refine wp_step hG ?_ k
  show kStep xm sm dfl fty _ _ .aaload a b pc lv (.int j :: .ref r :: st) mem = _
  rcases ht with rfl | rfl | ⟨rfl, h⟩ <;> simp [kStep, kTopA, kTopI, hk, hj, kNx, *]
theorem kTopQ_rf (v : Option Nat) (st : List Value) (k : Option Nat → List Value → Option kR) : kTopQ (kRf v :: st) k = k v st := by cases v <;> rfl
theorem wp_aas {t : Nat} {xs : List (Option Nat)} {j : Int32} {v : Option Nat} (hG : G.1 mi pc = some (.aastore, a, b)) (hk : kLook xm mem r = some (.inr (.inr (t, xs)))) (h1 : 1000 ≤ r) (ht : t = 2 ∨ t = 3) (hj : kInB j xs.length = true) (hv : kStOk xm mem t v = true) (k : kGo xm sm dfl fty G d mi (pc + 1) lv st (mem.set (r - 1000) (.inr (.inr (t, xs.set j.toNatClampNeg v)))) P) : kGo xm sm dfl fty G d mi pc lv (kRf v :: .int j :: .ref r :: st) mem P := by
  refine wp_step hG ?_ k
  show kStep xm sm dfl fty _ _ .aastore a b pc lv (kRf v :: .int j :: .ref r :: st) mem = _
  rcases ht with rfl | rfl <;> simp [kStep, kTopQ_rf, kTopA, kTopI, hk, hj, h1, hv, kNx]
theorem wp_ana {n : Int32} (hG : G.1 mi pc = some (.anewarray i, a, b)) (hn : 0 ≤ n) (hN : n.toNatClampNeg ≤ 16777216) (k : kGo xm sm dfl fty G d mi (pc + 3) lv (.ref (kNew mem) :: st) (mem ++ [.inr (.inr (a, List.replicate n.toNatClampNeg none))]) P) : kGo xm sm dfl fty G d mi pc lv (.int n :: st) mem P := by
  refine wp_step hG ?_ k
  show kStep xm sm dfl fty _ _ (.anewarray i) a b pc lv (.int n :: st) mem = _
  have h0 : ¬ n < 0 := Int32.not_lt.mpr hn
  simp [kStep, kTopI, h0, hN, kNx]
theorem wp_na {n : Int32} (hG : G.1 mi pc = some (.newarray .int, a, b)) (hn : 0 ≤ n) (hN : n.toNatClampNeg ≤ 16777216) (k : kGo xm sm dfl fty G d mi (pc + 2) lv (.ref (kNew mem) :: st) (mem ++ [.inr (.inl (0, List.replicate n.toNatClampNeg 0))]) P) : kGo xm sm dfl fty G d mi pc lv (.int n :: st) mem P := by
  refine wp_step hG ?_ k
  show kStep xm sm dfl fty _ _ (.newarray .int) a b pc lv (.int n :: st) mem = _
  have h0 : ¬ n < 0 := Int32.not_lt.mpr hn
  simp [kStep, kTopI, kTag, h0, hN, kNx]
theorem wp_cpyQ {s0 d0 t0 t1 : Nat} {xs ys : List (Option Nat)} {sp dp n : Int32} (hG : G.1 mi pc = some (.invokestatic i, 9001, b)) (hs : kLook xm mem s0 = some (.inr (.inr (t0, xs)))) (hd : kLook xm mem d0 = some (.inr (.inr (t1, ys)))) (h0 : t0 = 2 ∨ t0 = 3) (h1 : t1 = 2 ∨ t1 = 3) (hs1 : 1000 ≤ s0 ∨ n = 0) (hd1 : 1000 ≤ d0) (hr : kOkR sp dp n xs.length ys.length = true)
    (he : ∀ x ∈ (xs.drop sp.toNatClampNeg).take n.toNatClampNeg, kStOk xm mem t1 x = true) (hcat : (st.map fun v => v.category).sum ≤ 90)
    (k : kGo xm sm dfl fty G d mi (pc + 3) lv st (mem.set (d0 - 1000) (.inr (.inr (t1, kCpy xs ys sp.toNatClampNeg dp.toNatClampNeg n.toNatClampNeg)))) P) : kGo xm sm dfl fty G d mi pc lv (.int n :: .int dp :: .ref d0 :: .int sp :: .ref s0 :: st) mem P := by
  refine wp_step hG ?_ k
  show kCall xm 9001 b 3 pc lv (.int n :: .int dp :: .ref d0 :: .int sp :: .ref s0 :: st) mem = _
  have hc : (((.int n :: .int dp :: .ref d0 :: .int sp :: .ref s0 :: st : List Value)).map fun v => v.category).sum ≤ 100 := by
    show 1 + (1 + (1 + (1 + (1 + (st.map fun v => v.category).sum)))) ≤ 100
    omega
  unfold kCall
  rw [if_pos (by decide), if_pos hc]
  have he' : ((xs.drop sp.toNatClampNeg).take n.toNatClampNeg).all (fun x => kStOk xm mem t1 x) = true := List.all_eq_true.mpr he
  have hb0 : (t0 == 2 || t0 == 3) = true := by rcases h0 with rfl | rfl <;> rfl
  have hb1 : (t1 == 2 || t1 == 3) = true := by rcases h1 with rfl | rfl <;> rfl
  have hb2 : (decide (1000 ≤ s0) || n == 0) = true := by rcases hs1 with h | h <;> simp [h]
  simp only [kSpec, hs, hd, hb0, hb1, hb2, hr, he', hd1, decide_true, Bool.and_self, if_true, kNx]
/-- a call: as the arguments behind the receiver; goal first: the stack, the receiver, the callee, then what follows -/
theorem wp_iv {x : kI} {y len ci : Nat} {as rest : List Value} {fs : List Value} {Pc : kO → kM → Prop} (hG : G.1 mi pc = some x) (h0 : kStep xm sm dfl fty (G.2.1 mi) (G.2.2.1 mi) x.1 x.2.1 x.2.2 pc lv st mem = kCall xm y b len pc lv st mem) (hst : st = as.reverse ++ .ref r :: rest) (hy : y < 9000 ∧ b % 100 = as.length + 1 ∧ b / 100 = ci + 1 ∧ ci < 1000)
    (hcat : (rest.map fun v => v.category).sum ≤ 8) (hk : kLook xm mem r = some (.inl (ci, fs))) (hc : kCa xm sm dfl fty G d y (.ref r :: as) mem Pc)
    (k : ∀ v m1, Pc (.inl v) m1 → kGo xm sm dfl fty G d mi (pc + len) lv (v.toList ++ rest) m1 P)
    (kX : ∀ E m1, Pc (.inr E) m1 → ∃ h i, G.2.2.2 mi pc E = some (h, i) ∧ kGo xm sm dfl fty G d mi h (lv.filter (fun q => !(q.1 == i) && !(q.1 + 1 == i && q.2.category == 2))) [] m1 P) : kGo xm sm dfl fty G d mi pc lv st mem P := by
  refine wp_call hG (h0.trans ?_) hc k kX
  obtain ⟨hy, hn, hb, hci⟩ := hy
  have e1 : st = (as.reverse ++ [.ref r]) ++ rest := by rw [hst]; simp
  have l1 : (as.reverse ++ [Value.ref r]).length = b % 100 := by simp [hn]
  unfold kCall
  rw [if_neg (by omega), e1, ← l1, List.take_left, List.drop_left]
  have e2 : (as.reverse ++ [Value.ref r]).reverse = .ref r :: as := by simp
  rw [e2]
  have e3 : kRcOk xm mem (b / 100) (.ref r :: as) = true := by simp [kRcOk, hk, hb, hci]
  rw [e3]
  simp [hcat]
/-- a static call -/
theorem wp_is {x : kI} {y len : Nat} {as rest : List Value} {Pc : kO → kM → Prop} (hG : G.1 mi pc = some x) (h0 : kStep xm sm dfl fty (G.2.1 mi) (G.2.2.1 mi) x.1 x.2.1 x.2.2 pc lv st mem = kCall xm y b len pc lv st mem) (hst : st = as.reverse ++ rest) (hy : y < 9000 ∧ b % 100 = as.length ∧ b / 100 = 0)
    (hcat : (rest.map fun v => v.category).sum ≤ 8) (hc : kCa xm sm dfl fty G d y as mem Pc)
    (k : ∀ v m1, Pc (.inl v) m1 → kGo xm sm dfl fty G d mi (pc + len) lv (v.toList ++ rest) m1 P)
    (kX : ∀ E m1, Pc (.inr E) m1 → ∃ h i, G.2.2.2 mi pc E = some (h, i) ∧ kGo xm sm dfl fty G d mi h (lv.filter (fun q => !(q.1 == i) && !(q.1 + 1 == i && q.2.category == 2))) [] m1 P) : kGo xm sm dfl fty G d mi pc lv st mem P := by
  refine wp_call hG (h0.trans ?_) hc k kX
  obtain ⟨hy, hn, hb⟩ := hy
  have l1 : (as.reverse : List Value).length = b % 100 := by simp [hn]
  unfold kCall
  rw [if_neg (by omega), hst, ← l1, List.take_left, List.drop_left, List.reverse_reverse]
  have e3 : kRcOk xm mem (b / 100) as = true := by
    rw [hb]
    unfold kRcOk
    split <;> simp
  rw [e3]
  simp [hcat]
/-- a constructor's call -/
theorem wp_in {x : kI} {y len : Nat} {as rest : List Value} {Pc : kO → kM → Prop} (hG : G.1 mi pc = some x) (h0 : kStep xm sm dfl fty (G.2.1 mi) (G.2.2.1 mi) x.1 x.2.1 x.2.2 pc lv st mem = kCall xm y b len pc lv st mem) (hst : st = as.reverse ++ .ref r :: rest) (hy : y < 9000 ∧ b % 100 = as.length + 1 ∧ b / 100 = 50)
    (hcat : (rest.map fun v => v.category).sum ≤ 8) (hc : kCa xm sm dfl fty G d y (.ref r :: as) mem Pc)
    (k : ∀ v m1, Pc (.inl v) m1 → kGo xm sm dfl fty G d mi (pc + len) lv (v.toList ++ rest) m1 P)
    (kX : ∀ E m1, Pc (.inr E) m1 → ∃ h i, G.2.2.2 mi pc E = some (h, i) ∧ kGo xm sm dfl fty G d mi h (lv.filter (fun q => !(q.1 == i) && !(q.1 + 1 == i && q.2.category == 2))) [] m1 P) : kGo xm sm dfl fty G d mi pc lv st mem P := by
  refine wp_call hG (h0.trans ?_) hc k kX
  obtain ⟨hy, hn, hb⟩ := hy
  have e1 : st = (as.reverse ++ [.ref r]) ++ rest := by rw [hst]; simp
  have l1 : (as.reverse ++ [Value.ref r]).length = b % 100 := by simp [hn]
  unfold kCall
  rw [if_neg (by omega), e1, ← l1, List.take_left, List.drop_left]
  have e2 : (as.reverse ++ [Value.ref r]).reverse = .ref r :: as := by simp
  rw [e2]
  have e3 : kRcOk xm mem (b / 100) (.ref r :: as) = true := by simp [kRcOk, hb]
  rw [e3]
  simp [hcat]
end KRULES
/-! ===== what a store changes ===== -/
theorem kLook_set {xm : Nat → Option kE} {mem : kM} {r q : Nat} {e : kE} : kLook xm (mem.set (r - 1000) e) q = if 1000 ≤ q ∧ q - 1000 = r - 1000 ∧ q - 1000 < mem.length then some e else kLook xm mem q := by
  unfold kLook
  by_cases hq : q < 1000
  · rw [if_pos hq, if_pos hq, if_neg (by omega)]
  · rw [if_neg hq, if_neg hq, List.getElem?_set]
    by_cases h : r - 1000 = q - 1000
    · rw [if_pos h]
      by_cases h2 : q - 1000 < mem.length
      · rw [if_pos (by rw [h]; exact h2), if_pos ⟨by omega, h.symm, h2⟩]
      · rw [if_neg (by rw [h]; exact h2), if_neg (fun z => h2 z.2.2), List.getElem?_eq_none (by omega)]
    · rw [if_neg h, if_neg (fun z => h z.2.1.symm)]
/-! ===== the balls of the class: a try ===== -/
theorem kc_has {xm : Nat → Option kE} {r q : Nat} {cnt j x : Int32} {ys : List Int32} {mem : kM} (h0 : kLook xm mem r = some (.inl (5, [.ref q, .int cnt, .int j]))) (h1 : kLook xm mem q = some (.inr (.inl (0, ys)))) :
    kCa xm kSm kDfl kFty kG 1 2 [.ref r, .int x] mem (fun o m1 => m1 = mem ∧ o = .inl (some (.int (if 0 ≤ x ∧ x < cnt ∧ x < Int32.ofNat ys.length then 1 else 0)))) := by
  refine ca_of (show 2 ≤ 2 from Nat.le_refl 2) ?_
  refine wp_run 1 (pc' := 1) (lv' := [(0, .ref r), (1, .int x)]) (st' := [.int x]) (mem' := mem) rfl ?_
  have no : ¬ (0 ≤ x ∧ x < cnt ∧ x < Int32.ofNat ys.length) → kGo xm kSm kDfl kFty kG 0 2 25 [(0, .ref r), (1, .int x)] [] mem (fun o m1 => m1 = mem ∧ o = .inl (some (.int (if 0 ≤ x ∧ x < cnt ∧ x < Int32.ofNat ys.length then 1 else 0)))) := by
    intro h
    refine wp_run 1 (pc' := 26) (lv' := [(0, .ref r), (1, .int x)]) (st' := [.int 0]) (mem' := mem) rfl ?_
    exact wp_end (o := .inl (some (.int 0))) (m1 := mem) rfl rfl ⟨rfl, by rw [if_neg h]⟩
  refine wp_ifc (a := 25) rfl (fun g0 => no ?_) (fun g0 => ?_)
  · intro h
    have g0 : x < 0 := by simpa [kIf] using g0
    exact absurd h.1 (Int32.not_le.mpr g0)
  have g0 : 0 ≤ x := by simpa [kIf] using g0
  refine wp_run 2 (pc' := 6) (lv' := [(0, .ref r), (1, .int x)]) (st' := [.ref r, .int x]) (mem' := mem) rfl ?_
  refine wp_gf rfl h0 rfl ?_
  refine wp_icmp (a := 25) rfl (fun g1 => no ?_) (fun g1 => ?_)
  · intro h
    have g1 : cnt ≤ x := by simpa [kIf] using g1
    exact absurd h.2.1 (Int32.not_lt.mpr g1)
  have g1 : x < cnt := by simpa [kIf] using g1
  refine wp_run 2 (pc' := 14) (lv' := [(0, .ref r), (1, .int x)]) (st' := [.ref r, .int x]) (mem' := mem) rfl ?_
  refine wp_gf rfl h0 rfl ?_
  refine wp_len rfl h1 (by decide) ?_
  refine wp_icmp (a := 25) rfl (fun g2 => no ?_) (fun g2 => ?_)
  · intro h
    have g2 : Int32.ofNat ys.length ≤ x := by simpa [kIf] using g2
    exact absurd h.2.2 (Int32.not_lt.mpr g2)
  have g2 : x < Int32.ofNat ys.length := by simpa [kIf] using g2
  refine wp_run 2 (pc' := 26) (lv' := [(0, .ref r), (1, .int x)]) (st' := [.int 1]) (mem' := mem) rfl ?_
  exact wp_end (o := .inl (some (.int 1))) (m1 := mem) rfl rfl ⟨rfl, by rw [if_pos ⟨g0, g1, g2⟩]⟩
theorem kInB_of {x : Int32} {n : Nat} (h0 : 0 ≤ x) (h : x < Int32.ofNat n) (hn : n < 2 ^ 31) : kInB x n = true := by
  unfold kInB
  have h1 : ¬ x < 0 := Int32.not_lt.mpr h0
  have h2 : x.toInt < n := by
    have := Int32.lt_iff_toInt_lt.mp h
    rwa [Int32.toInt_ofNat_of_lt hn] at this
  have h3 : (0 : Int) ≤ x.toInt := by
    have := Int32.le_iff_toInt_le.mp h0
    simpa using this
  have h4 : x.toNatClampNeg < n := by
    have : (x.toNatClampNeg : Int) = x.toInt := by
      unfold Int32.toNatClampNeg
      omega
    omega
  simp [h1, h4]
theorem kc_of {xm : Nat → Option kE} {r q : Nat} {cnt j x : Int32} {ys : List Int32} {mem : kM} (h0 : kLook xm mem r = some (.inl (5, [.ref q, .int cnt, .int j]))) (h1 : kLook xm mem q = some (.inr (.inl (0, ys)))) (hl : ys.length < 2 ^ 31) :
    kCa xm kSm kDfl kFty kG 2 4 [.ref r, .int x] mem (fun o m1 => m1 = mem ∧ o = .inl (some (.int (if 0 ≤ x ∧ x < cnt ∧ x < Int32.ofNat ys.length then ys.getD x.toNatClampNeg 0 else 0)))) := by
  refine ca_of (show 2 ≤ 2 from Nat.le_refl 2) ?_
  refine wp_run 2 (pc' := 2) (lv' := [(0, .ref r), (1, .int x)]) (st' := [.int x, .ref r]) (mem' := mem) rfl ?_
  refine wp_iv (y := 2) (b := 602) (len := 3) (as := [.int x]) (rest := []) rfl rfl rfl ⟨by decide, rfl, rfl, by decide⟩ (by decide) h0 (kc_has h0 h1) (fun v m1 hv => ?_) (fun E m1 hE => nomatch hE.2)
  obtain ⟨rfl, hv⟩ := hv
  cases hv
  refine wp_ifc (a := 17) rfl (fun g => ?_) (fun g => ?_)
  · by_cases hc : 0 ≤ x ∧ x < cnt ∧ x < Int32.ofNat ys.length
    · rw [if_pos hc] at g; cases g
    · rw [if_neg hc]
      refine wp_run 1 (pc' := 18) (lv' := [(0, .ref r), (1, .int x)]) (st' := [.int 0]) (mem' := m1) rfl ?_
      exact wp_end (o := .inl (some (.int 0))) (m1 := m1) rfl rfl ⟨rfl, rfl⟩
  · by_cases hc : 0 ≤ x ∧ x < cnt ∧ x < Int32.ofNat ys.length
    · rw [if_pos hc]
      refine wp_run 1 (pc' := 9) (lv' := [(0, .ref r), (1, .int x)]) (st' := [.ref r]) (mem' := m1) rfl ?_
      refine wp_gf rfl h0 rfl ?_
      refine wp_run 1 (pc' := 13) (lv' := [(0, .ref r), (1, .int x)]) (st' := [.int x, .ref q]) (mem' := m1) rfl ?_
      refine wp_ial rfl h1 (kInB_of hc.1 hc.2.2 hl) ?_
      refine wp_run 1 (pc' := 18) (lv' := [(0, .ref r), (1, .int x)]) (st' := [.int (ys.getD x.toNatClampNeg 0)]) (mem' := m1) rfl ?_
      exact wp_end (o := .inl (some (.int (ys.getD x.toNatClampNeg 0)))) (m1 := m1) rfl rfl ⟨rfl, rfl⟩
    · rw [if_neg hc] at g; cases g
theorem kc_add {xm : Nat → Option kE} {r q : Nat} {cnt j x : Int32} {ys : List Int32} {mem : kM} (hr : 1000 ≤ r) (hq : 1000 ≤ q) (hrq : r ≠ q) (h0 : kLook xm mem r = some (.inl (5, [.ref q, .int cnt, .int j]))) (h1 : kLook xm mem q = some (.inr (.inl (0, ys)))) (hl : ys.length < 2 ^ 31) :
    kCa xm kSm kDfl kFty kG 1 3 [.ref r, .int x] mem (fun o m1 => if 0 ≤ cnt ∧ cnt < Int32.ofNat ys.length then m1 = (mem.set (q - 1000) (.inr (.inl (0, ys.set cnt.toNatClampNeg x)))).set (r - 1000) (.inl (5, [.ref q, .int (cnt + 1), .int j])) ∧ o = .inl (some (.int cnt)) else m1 = mem ∧ o = .inl (some (.int (-1)))) := by
  refine ca_of (show 2 ≤ 3 by decide) ?_
  refine wp_run 1 (pc' := 1) (lv' := [(0, .ref r), (1, .int x)]) (st' := [.ref r]) (mem' := mem) rfl ?_
  refine wp_gf rfl h0 rfl ?_
  refine wp_run 2 (pc' := 6) (lv' := [(2, .int cnt), (0, .ref r), (1, .int x)]) (st' := [.int cnt]) (mem' := mem) rfl ?_
  refine wp_ifc (a := 18) rfl (fun g6 => ?_) (fun g6 => ?_)
  · have g6 : cnt < 0 := by simpa [kIf] using g6
    refine wp_run 1 (pc' := 19) (lv' := [(2, .int cnt), (0, .ref r), (1, .int x)]) (st' := [.int (-1)]) (mem' := mem) rfl ?_
    exact wp_end (o := .inl (some (.int (-1)))) (m1 := mem) rfl rfl (by rw [if_neg (fun h => absurd h.1 (Int32.not_le.mpr g6))]; exact ⟨rfl, rfl⟩)
  · have g6 : 0 ≤ cnt := by simpa [kIf] using g6
    refine wp_run 2 (pc' := 11) (lv' := [(2, .int cnt), (0, .ref r), (1, .int x)]) (st' := [.ref r, .int cnt]) (mem' := mem) rfl ?_
    refine wp_gf rfl h0 rfl ?_
    refine wp_len rfl h1 (by decide) ?_
    refine wp_icmp (a := 20) rfl (fun g15 => ?_) (fun g15 => ?_)
    · have g15 : cnt < Int32.ofNat ys.length := by simpa [kIf] using g15
      refine wp_run 1 (pc' := 21) (lv' := [(2, .int cnt), (0, .ref r), (1, .int x)]) (st' := [.ref r]) (mem' := mem) rfl ?_
      refine wp_gf rfl h0 rfl ?_
      refine wp_run 2 (pc' := 26) (lv' := [(2, .int cnt), (0, .ref r), (1, .int x)]) (st' := [.int x, .int cnt, .ref q]) (mem' := mem) rfl ?_
      refine wp_ias rfl h1 hq (kInB_of g6 g15 hl) ?_
      have h0' : kLook xm (mem.set (q - 1000) (.inr (.inl (0, ys.set cnt.toNatClampNeg x)))) r = some (.inl (5, [.ref q, .int cnt, .int j])) := by rw [kLook_set, if_neg (by omega)]; exact h0
      refine wp_run 2 (pc' := 29) (lv' := [(2, .int cnt), (0, .ref r), (1, .int x)]) (st' := [.ref r, .ref r]) rfl ?_
      refine wp_gf rfl h0' rfl ?_
      refine wp_run 2 (pc' := 34) (lv' := [(2, .int cnt), (0, .ref r), (1, .int x)]) (st' := [.int (cnt + 1), .ref r]) rfl ?_
      refine wp_pf rfl h0' hr (show 1 < 3 by decide) rfl ?_
      refine wp_run 1 (pc' := 38) (lv' := [(2, .int cnt), (0, .ref r), (1, .int x)]) (st' := [.int cnt]) rfl ?_
      exact wp_end (o := .inl (some (.int cnt))) rfl rfl (by rw [if_pos ⟨g6, g15⟩]; exact ⟨rfl, rfl⟩)
    · have g15 : Int32.ofNat ys.length ≤ cnt := by simpa [kIf] using g15
      refine wp_run 1 (pc' := 19) (lv' := [(2, .int cnt), (0, .ref r), (1, .int x)]) (st' := [.int (-1)]) (mem' := mem) rfl ?_
      exact wp_end (o := .inl (some (.int (-1)))) (m1 := mem) rfl rfl (by rw [if_neg (fun h => absurd h.2 (Int32.not_lt.mpr g15))]; exact ⟨rfl, rfl⟩)
