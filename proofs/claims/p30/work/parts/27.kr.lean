/-! ===== rules of walks, one for each kind of instruction that reads or writes memory, or branches ===== -/
section KRULES
variable {xm : Nat → Option kE} {sm : Nat → Option Value} {dfl : Nat → Option (List Value)} {fty : Nat → Nat → FieldType} {G : kT} {d mi pc : Nat} {lv : kL} {st : List Value} {mem : kM} {P : kO → kM → Prop}
variable {a b i r : Nat}
theorem wp_ifc {c : Jvm.ClassFile.Cond} {o : Int} {x : Int32} (hG : G.1 mi pc = some (.ifCond c o, a, b)) (h1 : kIf c x 0 = true → kGo xm sm dfl fty G d mi a lv st mem P) (h2 : kIf c x 0 = false → kGo xm sm dfl fty G d mi (pc + 3) lv st mem P) : kGo xm sm dfl fty G d mi pc lv (.int x :: st) mem P := by
  refine wp_step hG (pc' := if kIf c x 0 = true then a else pc + 3) (lv' := lv) (st' := st) (mem' := mem) rfl ?_
  by_cases h : kIf c x 0 = true
  · rw [if_pos h]; exact h1 h
  · rw [if_neg h]; exact h2 (by simpa using h)
theorem wp_icmp {c : Jvm.ClassFile.Cond} {o : Int} {x y : Int32} (hG : G.1 mi pc = some (.if_icmp c o, a, b)) (h1 : kIf c x y = true → kGo xm sm dfl fty G d mi a lv st mem P) (h2 : kIf c x y = false → kGo xm sm dfl fty G d mi (pc + 3) lv st mem P) : kGo xm sm dfl fty G d mi pc lv (.int y :: .int x :: st) mem P := by
  refine wp_step hG (pc' := if kIf c x y = true then a else pc + 3) (lv' := lv) (st' := st) (mem' := mem) rfl ?_
  by_cases h : kIf c x y = true
  · rw [if_pos h]; exact h1 h
  · rw [if_neg h]; exact h2 (by simpa using h)
theorem wp_gf {fs : List Value} {v : Value} (hG : G.1 mi pc = some (.getfield i, a, b)) (hk : kLook xm mem r = some (.inl (a, fs))) (hv : fs[b]? = some v) (k : kGo xm sm dfl fty G d mi (pc + 3) lv (v :: st) mem P) : kGo xm sm dfl fty G d mi pc lv (.ref r :: st) mem P := by
  refine wp_step hG ?_ k
  show kStep xm sm dfl fty _ _ (.getfield i) a b pc lv (.ref r :: st) mem = _
  simp [kStep, kTopA, hk, hv, kNx]
theorem wp_pf {fs : List Value} {v : Value} (hG : G.1 mi pc = some (.putfield i, a, b)) (hk : kLook xm mem r = some (.inl (a, fs))) (h1 : 1000 ≤ r) (hb : b < fs.length) (hf : kFits (fty a b) v = true) (k : kGo xm sm dfl fty G d mi (pc + 3) lv st (mem.set (r - 1000) (.inl (a, fs.set b v))) P) : kGo xm sm dfl fty G d mi pc lv (v :: .ref r :: st) mem P := by
  refine wp_step hG ?_ k
  show kStep xm sm dfl fty _ _ (.putfield i) a b pc lv (v :: .ref r :: st) mem = _
  simp [kStep, hk, h1, hb, hf, kNx]
theorem wp_len {t : Nat} {xs : List Int32} (hG : G.1 mi pc = some (.arraylength, a, b)) (hk : kLook xm mem r = some (.inr (.inl (t, xs)))) (ht : t < 2) (k : kGo xm sm dfl fty G d mi (pc + 1) lv (.int (Int32.ofNat xs.length) :: st) mem P) : kGo xm sm dfl fty G d mi pc lv (.ref r :: st) mem P := by
  refine wp_step hG ?_ k
  show kStep xm sm dfl fty _ _ .arraylength a b pc lv (.ref r :: st) mem = _
  simp [kStep, kTopA, hk, ht, kNx]
theorem wp_lenQ {t : Nat} {xs : List (Option Nat)} (hG : G.1 mi pc = some (.arraylength, a, b)) (hk : kLook xm mem r = some (.inr (.inr (t, xs)))) (ht : t = 2 ∨ t = 3) (k : kGo xm sm dfl fty G d mi (pc + 1) lv (.int (Int32.ofNat xs.length) :: st) mem P) : kGo xm sm dfl fty G d mi pc lv (.ref r :: st) mem P := by
  refine wp_step hG ?_ k
  show kStep xm sm dfl fty _ _ .arraylength a b pc lv (.ref r :: st) mem = _
  simp [kStep, kTopA, hk, ht, kNx]
theorem wp_ial {xs : List Int32} {j : Int32} (hG : G.1 mi pc = some (.iaload, a, b)) (hk : kLook xm mem r = some (.inr (.inl (0, xs)))) (hj : kInB j xs.length = true) (k : kGo xm sm dfl fty G d mi (pc + 1) lv (.int (xs.getD j.toNatClampNeg 0) :: st) mem P) : kGo xm sm dfl fty G d mi pc lv (.int j :: .ref r :: st) mem P := by
  refine wp_step hG ?_ k
  show kStep xm sm dfl fty _ _ .iaload a b pc lv (.int j :: .ref r :: st) mem = _
  simp [kStep, kTopA, kTopI, hk, hj, kNx]
theorem wp_ias {xs : List Int32} {j x : Int32} (hG : G.1 mi pc = some (.iastore, a, b)) (hk : kLook xm mem r = some (.inr (.inl (0, xs)))) (h1 : 1000 ≤ r) (hj : kInB j xs.length = true) (k : kGo xm sm dfl fty G d mi (pc + 1) lv st (mem.set (r - 1000) (.inr (.inl (0, xs.set j.toNatClampNeg x)))) P) : kGo xm sm dfl fty G d mi pc lv (.int x :: .int j :: .ref r :: st) mem P := by
  refine wp_step hG ?_ k
  show kStep xm sm dfl fty _ _ .iastore a b pc lv (.int x :: .int j :: .ref r :: st) mem = _
  simp [kStep, kTopA, kTopI, hk, hj, h1, kNx]
theorem wp_aal {t : Nat} {xs : List (Option Nat)} {j : Int32} (hG : G.1 mi pc = some (.aaload, a, b)) (hk : kLook xm mem r = some (.inr (.inr (t, xs)))) (ht : t = 2 ∨ t = 3 ∨ (t = 4 ∧ r < 1000)) (hj : kInB j xs.length = true) (k : kGo xm sm dfl fty G d mi (pc + 1) lv (kRf (xs.getD j.toNatClampNeg none) :: st) mem P) : kGo xm sm dfl fty G d mi pc lv (.int j :: .ref r :: st) mem P := by
  refine wp_step hG ?_ k
  show kStep xm sm dfl fty _ _ .aaload a b pc lv (.int j :: .ref r :: st) mem = _
  rcases ht with rfl | rfl | ⟨rfl, h⟩ <;> simp [kStep, kTopA, kTopI, hk, hj, kNx, *]
theorem kTopQ_rf (v : Option Nat) (st : List Value) (k : Option Nat → List Value → Option kR) : kTopQ (kRf v :: st) k = k v st := by cases v <;> rfl
theorem wp_aas {t : Nat} {xs : List (Option Nat)} {j : Int32} {v : Option Nat} (hG : G.1 mi pc = some (.aastore, a, b)) (hk : kLook xm mem r = some (.inr (.inr (t, xs)))) (h1 : 1000 ≤ r) (ht : t = 2 ∨ t = 3) (hj : kInB j xs.length = true) (hv : kStOk xm mem t v = true) (k : kGo xm sm dfl fty G d mi (pc + 1) lv st (mem.set (r - 1000) (.inr (.inr (t, xs.set j.toNatClampNeg v)))) P) : kGo xm sm dfl fty G d mi pc lv (kRf v :: .int j :: .ref r :: st) mem P := by
  refine wp_step hG ?_ k
  show kStep xm sm dfl fty _ _ .aastore a b pc lv (kRf v :: .int j :: .ref r :: st) mem = _
  rcases ht with rfl | rfl <;> simp [kStep, kTopQ_rf, kTopA, kTopI, hk, hj, h1, hv, kNx]
theorem wp_ana {n : Int32} (hG : G.1 mi pc = some (.anewarray i, a, b)) (hn : 0 ≤ n) (hN : n.toNatClampNeg ≤ 16777216) (k : kGo xm sm dfl fty G d mi (pc + 3) lv (.ref (kNew mem) :: st) (mem ++ [.inr (.inr (a, List.replicate n.toNatClampNeg none))]) P) : kGo xm sm dfl fty G d mi pc lv (.int n :: st) mem P := by
  refine wp_step hG ?_ k
  show kStep xm sm dfl fty _ _ (.anewarray i) a b pc lv (.int n :: st) mem = _
  have h0 : ¬ n < 0 := Int32.not_lt.mpr hn
  simp [kStep, kTopI, h0, hN, kNx]
theorem wp_na {n : Int32} (hG : G.1 mi pc = some (.newarray .int, a, b)) (hn : 0 ≤ n) (hN : n.toNatClampNeg ≤ 16777216) (k : kGo xm sm dfl fty G d mi (pc + 2) lv (.ref (kNew mem) :: st) (mem ++ [.inr (.inl (0, List.replicate n.toNatClampNeg 0))]) P) : kGo xm sm dfl fty G d mi pc lv (.int n :: st) mem P := by
  refine wp_step hG ?_ k
  show kStep xm sm dfl fty _ _ (.newarray .int) a b pc lv (.int n :: st) mem = _
  have h0 : ¬ n < 0 := Int32.not_lt.mpr hn
  simp [kStep, kTopI, kTag, h0, hN, kNx]
theorem wp_cpyQ {s0 d0 t0 t1 : Nat} {xs ys : List (Option Nat)} {sp dp n : Int32} (hG : G.1 mi pc = some (.invokestatic i, 9001, b)) (hs : kLook xm mem s0 = some (.inr (.inr (t0, xs)))) (hd : kLook xm mem d0 = some (.inr (.inr (t1, ys)))) (h0 : t0 = 2 ∨ t0 = 3) (h1 : t1 = 2 ∨ t1 = 3) (hs1 : 1000 ≤ s0 ∨ n = 0) (hd1 : 1000 ≤ d0) (hr : kOkR sp dp n xs.length ys.length = true)
    (he : ∀ x ∈ (xs.drop sp.toNatClampNeg).take n.toNatClampNeg, kStOk xm mem t1 x = true) (hcat : (st.map fun v => v.category).sum ≤ 90)
    (k : kGo xm sm dfl fty G d mi (pc + 3) lv st (mem.set (d0 - 1000) (.inr (.inr (t1, kCpy xs ys sp.toNatClampNeg dp.toNatClampNeg n.toNatClampNeg)))) P) : kGo xm sm dfl fty G d mi pc lv (.int n :: .int dp :: .ref d0 :: .int sp :: .ref s0 :: st) mem P := by
  refine wp_step hG ?_ k
  show kCall xm 9001 b 3 pc lv (.int n :: .int dp :: .ref d0 :: .int sp :: .ref s0 :: st) mem = _
  have hc : (((.int n :: .int dp :: .ref d0 :: .int sp :: .ref s0 :: st : List Value)).map fun v => v.category).sum ≤ 100 := by
    show 1 + (1 + (1 + (1 + (1 + (st.map fun v => v.category).sum)))) ≤ 100
    omega
  unfold kCall
  rw [if_pos (by decide), if_pos hc]
  have he' : ((xs.drop sp.toNatClampNeg).take n.toNatClampNeg).all (fun x => kStOk xm mem t1 x) = true := List.all_eq_true.mpr he
  have hb0 : (t0 == 2 || t0 == 3) = true := by rcases h0 with rfl | rfl <;> rfl
  have hb1 : (t1 == 2 || t1 == 3) = true := by rcases h1 with rfl | rfl <;> rfl
  have hb2 : (decide (1000 ≤ s0) || n == 0) = true := by rcases hs1 with h | h <;> simp [h]
  simp only [kSpec, hs, hd, hb0, hb1, hb2, hr, he', hd1, decide_true, Bool.and_self, if_true, kNx]
/-- a call: as the arguments behind the receiver; goal first: the stack, the receiver, the callee, then what follows -/
theorem wp_iv {x : kI} {y len ci : Nat} {as rest : List Value} {fs : List Value} {Pc : kO → kM → Prop} (hG : G.1 mi pc = some x) (h0 : kStep xm sm dfl fty (G.2.1 mi) (G.2.2.1 mi) x.1 x.2.1 x.2.2 pc lv st mem = kCall xm y b len pc lv st mem) (hst : st = as.reverse ++ .ref r :: rest) (hy : y < 9000 ∧ b % 100 = as.length + 1 ∧ b / 100 = ci + 1 ∧ ci < 1000)
    (hcat : (rest.map fun v => v.category).sum ≤ 8) (hk : kLook xm mem r = some (.inl (ci, fs))) (hc : kCa xm sm dfl fty G d y (.ref r :: as) mem Pc)
    (k : ∀ v m1, Pc (.inl v) m1 → kGo xm sm dfl fty G d mi (pc + len) lv (v.toList ++ rest) m1 P)
    (kX : ∀ E m1, Pc (.inr E) m1 → ∃ h i, G.2.2.2 mi pc E = some (h, i) ∧ kGo xm sm dfl fty G d mi h (lv.filter (fun q => !(q.1 == i) && !(q.1 + 1 == i && q.2.category == 2))) [] m1 P) : kGo xm sm dfl fty G d mi pc lv st mem P := by
  refine wp_call hG (h0.trans ?_) hc k kX
  obtain ⟨hy, hn, hb, hci⟩ := hy
  have e1 : st = (as.reverse ++ [.ref r]) ++ rest := by rw [hst]; simp
  have l1 : (as.reverse ++ [Value.ref r]).length = b % 100 := by simp [hn]
  unfold kCall
  rw [if_neg (by omega), e1, ← l1, List.take_left, List.drop_left]
  have e2 : (as.reverse ++ [Value.ref r]).reverse = .ref r :: as := by simp
  rw [e2]
  have e3 : kRcOk xm mem (b / 100) (.ref r :: as) = true := by simp [kRcOk, hk, hb, hci]
  rw [e3]
  simp [hcat]
/-- a static call -/
theorem wp_is {x : kI} {y len : Nat} {as rest : List Value} {Pc : kO → kM → Prop} (hG : G.1 mi pc = some x) (h0 : kStep xm sm dfl fty (G.2.1 mi) (G.2.2.1 mi) x.1 x.2.1 x.2.2 pc lv st mem = kCall xm y b len pc lv st mem) (hst : st = as.reverse ++ rest) (hy : y < 9000 ∧ b % 100 = as.length ∧ b / 100 = 0)
    (hcat : (rest.map fun v => v.category).sum ≤ 8) (hc : kCa xm sm dfl fty G d y as mem Pc)
    (k : ∀ v m1, Pc (.inl v) m1 → kGo xm sm dfl fty G d mi (pc + len) lv (v.toList ++ rest) m1 P)
    (kX : ∀ E m1, Pc (.inr E) m1 → ∃ h i, G.2.2.2 mi pc E = some (h, i) ∧ kGo xm sm dfl fty G d mi h (lv.filter (fun q => !(q.1 == i) && !(q.1 + 1 == i && q.2.category == 2))) [] m1 P) : kGo xm sm dfl fty G d mi pc lv st mem P := by
  refine wp_call hG (h0.trans ?_) hc k kX
  obtain ⟨hy, hn, hb⟩ := hy
  have l1 : (as.reverse : List Value).length = b % 100 := by simp [hn]
  unfold kCall
  rw [if_neg (by omega), hst, ← l1, List.take_left, List.drop_left, List.reverse_reverse]
  have e3 : kRcOk xm mem (b / 100) as = true := by
    rw [hb]
    unfold kRcOk
    split <;> simp
  rw [e3]
  simp [hcat]
/-- a constructor's call -/
theorem wp_in {x : kI} {y len : Nat} {as rest : List Value} {Pc : kO → kM → Prop} (hG : G.1 mi pc = some x) (h0 : kStep xm sm dfl fty (G.2.1 mi) (G.2.2.1 mi) x.1 x.2.1 x.2.2 pc lv st mem = kCall xm y b len pc lv st mem) (hst : st = as.reverse ++ .ref r :: rest) (hy : y < 9000 ∧ b % 100 = as.length + 1 ∧ b / 100 = 50)
    (hcat : (rest.map fun v => v.category).sum ≤ 8) (hc : kCa xm sm dfl fty G d y (.ref r :: as) mem Pc)
    (k : ∀ v m1, Pc (.inl v) m1 → kGo xm sm dfl fty G d mi (pc + len) lv (v.toList ++ rest) m1 P)
    (kX : ∀ E m1, Pc (.inr E) m1 → ∃ h i, G.2.2.2 mi pc E = some (h, i) ∧ kGo xm sm dfl fty G d mi h (lv.filter (fun q => !(q.1 == i) && !(q.1 + 1 == i && q.2.category == 2))) [] m1 P) : kGo xm sm dfl fty G d mi pc lv st mem P := by
  refine wp_call hG (h0.trans ?_) hc k kX
  obtain ⟨hy, hn, hb⟩ := hy
  have e1 : st = (as.reverse ++ [.ref r]) ++ rest := by rw [hst]; simp
  have l1 : (as.reverse ++ [Value.ref r]).length = b % 100 := by simp [hn]
  unfold kCall
  rw [if_neg (by omega), e1, ← l1, List.take_left, List.drop_left]
  have e2 : (as.reverse ++ [Value.ref r]).reverse = .ref r :: as := by simp
  rw [e2]
  have e3 : kRcOk xm mem (b / 100) (.ref r :: as) = true := by simp [kRcOk, hb]
  rw [e3]
  simp [hcat]
end KRULES
/-! ===== what a store changes ===== -/
theorem kLook_set {xm : Nat → Option kE} {mem : kM} {r q : Nat} {e : kE} : kLook xm (mem.set (r - 1000) e) q = if 1000 ≤ q ∧ q - 1000 = r - 1000 ∧ q - 1000 < mem.length then some e else kLook xm mem q := by
  unfold kLook
  by_cases hq : q < 1000
  · rw [if_pos hq, if_pos hq, if_neg (by omega)]
  · rw [if_neg hq, if_neg hq, List.getElem?_set]
    by_cases h : r - 1000 = q - 1000
    · rw [if_pos h]
      by_cases h2 : q - 1000 < mem.length
      · rw [if_pos (by rw [h]; exact h2), if_pos ⟨by omega, h.symm, h2⟩]
      · rw [if_neg (by rw [h]; exact h2), if_neg (fun z => h2 z.2.2), List.getElem?_eq_none (by omega)]
    · rw [if_neg h, if_neg (fun z => h z.2.1.symm)]
