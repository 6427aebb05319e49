/-! ===== the class's calls exactly: pattern; what a trial tells ===== -/
theorem pLenF_le : ∀ (f n : Nat), pLenF f n ≤ f := by
  intro f
  induction f with
  | zero => intro n; exact Nat.le_refl _
  | succ f ih =>
    intro n
    unfold pLenF
    split
    · have := ih (n / 10)
      omega
    · omega
theorem pLen_le {n : Nat} : pLen n ≤ 9 := pLenF_le 9 n
theorem getQ_lt {α : Type} {l : List α} {i : Nat} {x : α} (h : l[i]? = some x) : i < l.length := (List.getElem?_eq_some_iff.mp h).1
theorem pSumF_lenF (g : Int32 → Int32) : ∀ (f n : Nat) (s : Int32), pSumF g (pLenF f n) n s = pSumF g f n s := by
  intro f
  induction f with
  | zero => intro n s; rfl
  | succ f ih =>
    intro n s
    by_cases h : 0 < n
    · have e : pLenF (f + 1) n = pLenF f (n / 10) + 1 := if_pos h
      rw [e]
      unfold pSumF
      rw [if_pos h, if_pos h]
      exact ih _ _
    · have e : pLenF (f + 1) n = 0 := if_neg h
      rw [e]
      unfold pSumF
      rw [if_neg h]
theorem pSumF_len (g : Int32 → Int32) (n : Nat) (s : Int32) : pSumF g (pLen n) n s = pSumF g 9 n s := pSumF_lenF g 9 n s
theorem pInf_of {n k : Nat} (hn : n < 2 ^ 31) : pInf (Int32.ofNat n) k = if k = 0 then Int32.ofNat n else if k = 1 then Int32.ofNat (pLen n) else if k = 2 then pSumF (fAt 3) 9 n 0 else if k = 3 then pSumF (fAt 5) 9 n 0 else pSumF (fAt 4) 9 n 0 := by
  unfold pInf
  rw [i_nat hn]
theorem ptRel.add {Tp : Nat → Int32} {pa : List Int32} {n : Nat} (H : ptRel Tp pa) (hn : n < 2 ^ 31) : ptRel (kUp (kUp (kUp (kUp (kUp Tp (pa.length * 5 + 0) (Int32.ofNat n)) (pa.length * 5 + 1) (Int32.ofNat (pLen n))) (pa.length * 5 + 2) (pSumF (fAt 3) 9 n 0)) (pa.length * 5 + 3) (pSumF (fAt 5) 9 n 0)) (pa.length * 5 + 4) (pSumF (fAt 4) 9 n 0)) (pa ++ [Int32.ofNat n]) := by
  intro p v hv k hk
  by_cases g : p < pa.length
  · rw [List.getElem?_append_left g] at hv
    rw [kUp_ne (by omega), kUp_ne (by omega), kUp_ne (by omega), kUp_ne (by omega), kUp_ne (by omega)]
    exact H p v hv k hk
  · have e : p = pa.length := by
      have := getQ_lt hv
      rw [List.length_append, List.length_singleton] at this
      omega
    subst e
    rw [List.getElem?_append_right (Nat.le_refl _), Nat.sub_self] at hv
    have hv : Int32.ofNat n = v := by simpa using hv
    subst hv
    rw [pInf_of hn]
    rcases (show k = 0 ∨ k = 1 ∨ k = 2 ∨ k = 3 ∨ k = 4 by omega) with rfl | rfl | rfl | rfl | rfl
    · show _ = Int32.ofNat n
      rw [kUp_ne (by omega), kUp_ne (by omega), kUp_ne (by omega), kUp_ne (by omega), kUp_eq]
    · show _ = Int32.ofNat (pLen n)
      rw [kUp_ne (by omega), kUp_ne (by omega), kUp_ne (by omega), kUp_eq]
    · show _ = pSumF (fAt 3) 9 n 0
      rw [kUp_ne (by omega), kUp_ne (by omega), kUp_eq]
    · show _ = pSumF (fAt 5) 9 n 0
      rw [kUp_ne (by omega), kUp_eq]
    · show _ = pSumF (fAt 4) 9 n 0
      rw [kUp_eq]
theorem pdRel.add {Td Td' : Nat → Int32} {pa : List Int32} {n : Nat} (H : pdRel Td pa) (hn : n < 2 ^ 31) (h1 : ∀ i, i < pLen n → Td' (pa.length * 9 + i) = Int32.ofNat (n / 10 ^ (pLen n - 1 - i) % 10)) (h2 : ∀ c, (∀ i, i < pLen n → c ≠ pa.length * 9 + i) → Td' c = Td c) : pdRel Td' (pa ++ [Int32.ofNat n]) := by
  intro p v hv i hi
  have l9 : pLen v.toNatClampNeg ≤ 9 := pLen_le
  by_cases g : p < pa.length
  · rw [List.getElem?_append_left g] at hv
    rw [h2 _ (fun j hj => by have := pLen_le (n := n); omega)]
    exact H p v hv i hi
  · have e : p = pa.length := by
      have := getQ_lt hv
      rw [List.length_append, List.length_singleton] at this
      omega
    subst e
    rw [List.getElem?_append_right (Nat.le_refl _), Nat.sub_self] at hv
    have hv : Int32.ofNat n = v := by simpa using hv
    subst hv
    rw [i_nat hn] at hi ⊢
    exact h1 i hi
theorem pZ_nz : ∀ (f n : Nat), n < 10 ^ f → ¬ pZ f n = true → aNz n := by
  intro f
  induction f with
  | zero =>
    intro n hn _ i hi
    have e : n = 0 := by simpa using hn
    subst e
    rw [Nat.zero_div] at hi
    exact absurd hi (by decide)
  | succ f ih =>
    intro n hn hz i hi
    unfold pZ at hz
    by_cases h : 0 < n
    · rw [if_pos h] at hz
      by_cases h2 : n % 10 = 0
      · rw [if_pos h2] at hz
        exact absurd rfl hz
      · rw [if_neg h2] at hz
        cases i with
        | zero => simpa using h2
        | succ i =>
          rw [Nat.pow_succ, Nat.mul_comm, ← Nat.div_div_eq_div_mul] at hi ⊢
          exact ih (n / 10) (by rw [Nat.pow_succ] at hn; omega) hz i hi
    · have e : n = 0 := by omega
      subst e
      rw [Nat.zero_div] at hi
      exact absurd hi (by decide)
/-- the numbers of the steps -/
def aUse (s : Nat) : Nat := if s = 3 ∨ s = 7 then 0 else if s = 4 ∨ s = 5 ∨ s = 9 then 2 else if s = 8 then 3 else 1
def aGive (s : Nat) : Nat := if s = 7 then 0 else if s = 9 then 3 else 1
/-- a trial: loops on the left needle, on both, yarn, what it takes; the steps -/
abbrev aT : Type := Nat × Nat × Int32 × Int32
def zTry (v : Nat) : Nat → Nat → aT → aT × Nat
  | 0, d, w => (w, d)
  | f + 1, d, w => if w.1 = 0 then (w, d) else
      if zCan (pDg v (d % pLen v)) w.1 w.2.1 w.2.2.1 = true then zTry v f (d + 1) (w.1 - aUse (pDg v (d % pLen v)), w.2.1 + aGive (pDg v (d % pLen v)) - aUse (pDg v (d % pLen v)), w.2.2.1 - Int32.ofNat (aTake (pDg v (d % pLen v))), w.2.2.2 + Int32.ofNat (aTake (pDg v (d % pLen v)))) else (w, d)
def trE (w : aT) (t : Nat) : cTy := cO 9 [fE (Int32.ofNat w.1), fE (Int32.ofNat w.2.1), fE w.2.2.1, fE w.2.2.2, fE (Int32.ofNat t)]
theorem zCan_all {s l a : Nat} {y : Int32} (g : zCan s l a y = true) : aWant s ≤ l ∧ (aTake s = 0 ∨ ¬ y < Int32.ofNat (aTake s)) ∧ ((s = 3 ∨ s = 9) → a < 24) := by
  unfold zCan at g
  simp only [Bool.and_eq_true, Bool.or_eq_true, decide_eq_true_eq] at g
  obtain ⟨⟨a1, a2⟩, a3⟩ := g
  refine ⟨a1, a2, fun z => ?_⟩
  rcases a3 with a3 | a3
  · omega
  · exact a3
theorem aUse_le {s : Nat} (h1 : 1 ≤ s) (h9 : s ≤ 9) : aUse s ≤ aWant s ∧ aTake s ≤ 11 ∧ aUse s ≤ 3 ∧ aGive s ≤ 3 ∧ (¬ (s = 3 ∨ s = 9) → aGive s ≤ aUse s) ∧ ((s = 3 ∨ s = 9) → aGive s = aUse s + 1) := by
  rcases (show s = 1 ∨ s = 2 ∨ s = 3 ∨ s = 4 ∨ s = 5 ∨ s = 6 ∨ s = 7 ∨ s = 8 ∨ s = 9 by omega) with rfl | rfl | rfl | rfl | rfl | rfl | rfl | rfl | rfl <;> decide
theorem fAt_5 {s : Nat} (h1 : 1 ≤ s) (h9 : s ≤ 9) : fAt 5 (Int32.ofNat s) = Int32.ofNat (aGive s) := by
  rcases (show s = 1 ∨ s = 2 ∨ s = 3 ∨ s = 4 ∨ s = 5 ∨ s = 6 ∨ s = 7 ∨ s = 8 ∨ s = 9 by omega) with rfl | rfl | rfl | rfl | rfl | rfl | rfl | rfl | rfl <;> decide
theorem y_subnn {y : Int32} {k : Nat} (hy : 0 ≤ y) (hk : k ≤ 11) (h : k = 0 ∨ ¬ y < Int32.ofNat k) : 0 ≤ y - Int32.ofNat k := by
  have e0 : (0 : Int32).toInt = 0 := by decide
  have h2 := Int32.toInt_lt y
  rw [Int32.le_iff_toInt_le] at hy ⊢
  have h3 : (k : Int) ≤ y.toInt := by
    rcases h with rfl | h
    · omega
    · rw [Int32.lt_iff_toInt_lt, i_toI (by omega)] at h
      omega
  rw [Int32.toInt_sub, i_toI (by omega), Int.bmod_eq_of_le (by omega) (by omega)]
  omega
theorem pDg_ok {n i : Nat} (h1 : 1 ≤ n) (h2 : n ≤ 999999999) (nz : aNz n) : 1 ≤ pDg n (i % pLen n) ∧ pDg n (i % pLen n) ≤ 9 := by
  obtain ⟨l1, l2, -, l4⟩ := pLen_ok h1 h2
  have h3 : i % pLen n < pLen n := Nat.mod_lt _ l1
  have h5 := nz _ (l4 (pLen n - 1 - i % pLen n) (by omega))
  unfold pDg
  omega
section EP
variable {xm : Nat → Option kE} {mem m0 : kM} {F G : kSg} {S : kO × kM → Prop} {N k nb q cap c0 s0 c1 s1 cap0 n r w b i p d t1 t2 : Nat} {jo x y z v t k1 k2 k3 k4 : Int32} {lo : List kLf} {bo pa vl vr ya wl ws xs A : List Int32} {ps : List aS} {rs rs' : List (List Int32)} {sc : Nat → Int32} {st : aS} {T : Nat → Int32} {h : kHs} {sp : aR} {c : aC} {hb hy : List Int32} {hs : Nat → aS} {nx ct : Nat}
theorem q_tell (hX : kXok xm) (hN : 120 ≤ N) (hp : pa.length < 6) (h1 : 1 ≤ n) (h2 : n ≤ 999999999) (H : HpT ((cE nb jo pa st q cap T h).set 0 (1000, cO 11 [fR 1001, fR 1003, fR 1010, fR 1012, fR 1014, fR 1016, fR 1104, fE (Int32.ofNat (pa.length + 1))])) F mem) : dOk (m_K_tellPattern xm N 1000 (Int32.ofNat pa.length) (Int32.ofNat n) mem) (rV fun m => HpT (cE nb jo (pa ++ [Int32.ofNat n]) st q cap T h) F m ∧ St xm mem m 0 0) := by
  obtain ⟨-, l2, l3, l4⟩ := pLen_ok h1 h2
  have hlt : n < 10 ^ pLen n := by
    rcases Nat.div_eq_zero_iff.mp l3 with z | z
    · exact absurd z (Nat.pos_iff_ne_zero.mp (Nat.pow_pos (by decide)))
    · exact z
  unfold m_K_tellPattern
  refine ok_eI (q_digits6 9 0 N 0 n (by omega) (by omega) (by omega)) ?_
  rw [Nat.zero_add]
  obtain ⟨Tp, hTp, H1⟩ := HpT.pinG (P := fun T => ptRel T pa) H 13 rfl
  obtain ⟨Td, hTd, H2⟩ := HpT.pinG (P := fun T => pdRel T pa) H1 15 rfl
  refine ok_mono (q_tell22 (C0 := (cE nb jo pa st q cap T h).set 0 (1000, cO 11 [fR 1001, fR 1003, fR 1010, fR 1012, fR 1014, fR 1016, fR 1104, fE (Int32.ofNat (pa.length + 1))])) (nb' := 0) (k13 := fun _ => True) hX hp l2 rfl rfl rfl (pLen n) 0 N n 0 0 0 Td mem (by omega) (by simp) (by omega) (by omega) hlt l4 H2 (getQ_lt (x := (1015, cDg pa)) rfl)) ?_
  rintro w ⟨q1, Td', e1, e2, H3, S3⟩
  refine ⟨q1, ?_, S3⟩
  rw [pSumF_len, pSumF_len, pSumF_len] at H3
  have H4 := H3.wk (t' := cDg (pa ++ [Int32.ofNat n])) (getQ_lt (x := (1015, cDg pa)) rfl) (fun e he => ⟨Td', hTd.add (by omega) e1 e2, he⟩)
  rw [List.set_comm _ _ (show 13 ≠ 15 by decide)] at H4
  have H5 := H4.wk (t' := cPt (pa ++ [Int32.ofNat n])) (getQ_lt (x := (1013, cPt pa)) rfl) (fun e he => ⟨_, hTp.add (by omega), he⟩)
  have el : (pa ++ [Int32.ofNat n]).length = pa.length + 1 := by simp
  have ee : (((cE nb jo pa st q cap T h).set 0 (1000, cO 11 [fR 1001, fR 1003, fR 1010, fR 1012, fR 1014, fR 1016, fR 1104, fE (Int32.ofNat (pa.length + 1))])).set 15 (1015, cDg (pa ++ [Int32.ofNat n]))).set 13 (1013, cPt (pa ++ [Int32.ofNat n])) = cE nb jo (pa ++ [Int32.ofNat n]) st q cap T h := by
    unfold cE
    rw [el]
    rfl
  rw [ee] at H5
  exact H5
theorem q_hasZero (hN : 120 ≤ N) (hn : n < 2 ^ 31) : m_K_hasZero xm N (Int32.ofNat n) mem = some (.inl (some (.int (if pZ 9 n = true then 1 else 0))), mem) := q_hasZero4 9 0 N n (by omega) (by omega) hn
theorem q_pattern (hX : kXok xm) (hN : 120 ≤ N) (D : KS xm nb jo lo bo pa ps st F 0 0 m0 cap0 mem) : dOk (m_K_pattern xm N 1000 x mem) (eX xm 0 1 (spPattern x (nb, jo, lo, bo, pa, ps, st)) F m0 cap0) := by
  have D0 := D
  obtain ⟨T, h, I, D⟩ := D
  have h6 : pa.length ≤ 6 := I.1.2.2.2.2.1
  unfold m_K_pattern
  refine ok_if (fun g => q_ex1 (if_pos (Or.inl (Or.inl g))) D0) (fun g1 => ?_)
  refine ok_if (fun g => q_ex1 (if_pos (Or.inl (Or.inr g))) D0) (fun g2 => ?_)
  obtain ⟨n, hn1, hn2, rfl⟩ := i_rng (n := 999999999) (by decide) g1 g2
  have en : (Int32.ofNat n).toNatClampNeg = n := i_nat (by omega)
  refine ok_eI (q_hasZero hN (by omega)) ?_
  by_cases z : pZ 9 n = true
  · rw [if_pos z, if_neg (by decide)]
    exact q_ex1 (if_pos (Or.inr (by rw [en]; exact z))) D0
  · rw [if_neg z, if_pos rfl]
    have gz : ¬ ((Int32.ofNat n < 1 ∨ 999999999 < Int32.ofNat n) ∨ pZ 9 (Int32.ofNat n).toNatClampNeg = true) := fun w => w.elim (fun w => w.elim g1 g2) (fun w => z (by rw [en] at w; exact w))
    refine x_gE (x := Int32.ofNat pa.length) D 0 (fun _ _ => rfl) rfl ?_
    refine ok_if (fun g => ?_) (fun g => ?_)
    · have g : pa.length < 6 := (i_lt (b := 6) (by omega) (by decide)).mp g
      refine x_gE (x := Int32.ofNat pa.length) D 0 (fun _ _ => rfl) rfl ?_
      refine x_gE (x := Int32.ofNat pa.length) D 0 (fun _ _ => rfl) rfl ?_
      obtain ⟨q, cap, c, s, k1, k2, ⟨hz, H⟩, S1, k3, k4⟩ := D
      rw [i_add1]
      refine t_pE H 0 rfl rfl rfl fun m1 H1 S2 => ?_
      refine t_rc H1 0 rfl ?_
      refine ok_cV (q_tell hX hN g hn1 hn2 H1) fun m2 hh => ?_
      obtain ⟨H2, S3⟩ := hh
      refine q_end ((if_neg gz).trans (if_neg (by omega))) ?_
      exact ⟨T, h, I.pat g ⟨n, rfl, hn1, hn2, pZ_nz 9 n (by omega) z⟩, q, cap, c, s, k1, k2, ⟨hz, H2⟩, (S1.trans S2).trans S3, k3, k4⟩
    · have g : ¬ pa.length < 6 := fun w => g ((i_lt (b := 6) (by omega) (by decide)).mpr w)
      exact q_ex2 ((if_neg gz).trans (if_pos (by omega))) D0
/-! trials -/
theorem q_stepAt {Ts : kTyL} {x1 : fTy} {v : Nat} (g0 : Ts[0]? = some (1000, cO 11 [fR 1001, fR 1003, fR 1010, fR 1012, fR 1014, fR 1016, fR 1104, x1])) (g12 : Ts[12]? = some (1012, tT 5 6 1013)) (g13 : Ts[13]? = some (1013, cPt pa)) (g14 : Ts[14]? = some (1014, tT 9 6 1015)) (g15 : Ts[15]? = some (1015, cDg pa)) (hp : pa[p]? = some (Int32.ofNat v)) (h1 : 1 ≤ v) (h2 : v ≤ 999999999) (h6 : pa.length ≤ 6) (hd : d < 2 ^ 31) (H : HpT Ts F mem) : m_K_stepAt xm N 1000 (Int32.ofNat p) (Int32.ofNat d) mem = some (.inl (some (.int (Int32.ofNat (pDg v (d % pLen v))))), mem) := by
  have hp6 : p < 6 := by
    have := getQ_lt hp
    omega
  obtain ⟨l1, l2, l3, l4⟩ := pLen_ok h1 h2
  have hm : d % pLen v < pLen v := Nat.mod_lt _ l1
  obtain ⟨Tp, hTp, H1⟩ := HpT.pinG (P := fun T => ptRel T pa) H 13 g13
  obtain ⟨Td, hTd, H2⟩ := HpT.pinG (P := fun T => pdRel T pa) H 15 g15
  have e1 := tE_get (xm := xm) (N := N) (f := 5) (mr := 6) (r := p) (w := 1) (n := 30) (a := 1012) (b := 1013) (j := 12) (by decide) (by decide) hp6 (by decide) (by decide) (fun c h1 h2 => absurd h1 (by omega)) H1 (set_ne g12 (by decide)) (List.getElem?_set_self (getQ_lt g13))
  have e2 := tE_get (xm := xm) (N := N) (f := 9) (mr := 6) (r := p) (w := d % pLen v) (n := 54) (a := 1014) (b := 1015) (j := 14) (by decide) (by decide) hp6 (by omega) (by decide) (fun c h1 h2 => absurd h1 (by omega)) H2 (set_ne g14 (by decide)) (List.getElem?_set_self (getQ_lt g15))
  rw [hTp p _ hp 1 (by decide), pInf_of (by omega), if_neg (by decide), if_pos rfl] at e1
  rw [hTd p _ hp _ (by rw [i_nat (by omega)]; exact hm), i_nat (by omega)] at e2
  refine ok_eq ?_
  unfold m_K_stepAt
  refine t_gR H 0 g0 rfl ?_
  refine t_rc H 12 g12 ?_
  refine ok_eI e1 ?_
  rw [if_neg (fun z => by have := (i_lt1 (by omega)).mp z; omega)]
  refine t_gR H 0 g0 rfl ?_
  refine ok_nz (fun z => by have := (i_eq (b := 0) (by omega) (by decide)).mp z; omega) ?_
  refine t_rc H 14 g14 ?_
  rw [i_modL hd l1 l2]
  refine ok_eI e2 ?_
  exact ok_me
theorem q_start {Ts : kTyL} {j l a : Nat} (H : HpT Ts F mem) (hj : Ts[j]? = some (1104, tr (fB 99))) : dOk (m_Trial_start xm N 1104 (Int32.ofNat l) (Int32.ofNat a) y mem) (rV fun m => HpT (Ts.set j (1104, trE (l, a, y, 0) 0)) F m ∧ St xm mem m 0 0) := by
  have hl := getQ_lt hj
  unfold m_Trial_start
  refine t_pE H j hj rfl rfl fun m1 H1 S1 => ?_
  refine t_pE H1 j (List.getElem?_set_self hl) rfl rfl fun m2 H2 S2 => ?_
  rw [List.set_set] at H2
  refine t_pE H2 j (List.getElem?_set_self hl) rfl rfl fun m3 H3 S3 => ?_
  rw [List.set_set] at H3
  refine t_pE H3 j (List.getElem?_set_self hl) rfl rfl fun m4 H4 S4 => ?_
  rw [List.set_set] at H4
  refine t_pE H4 j (List.getElem?_set_self hl) rfl rfl fun m5 H5 S5 => ?_
  rw [List.set_set] at H5
  exact ok_V ⟨H5, S1.trans (S2.trans (S3.trans (S4.trans S5)))⟩
theorem q_takeN (hX : kXok xm) {Ts : kTyL} {j s t : Nat} {w : aT} (H : HpT Ts F mem) (hj : Ts[j]? = some (1104, trE w t)) (h1 : 1 ≤ s) (h9 : s ≤ 9) (hla : w.1 ≤ w.2.1) (ha : w.2.1 ≤ 24) (hy : 0 ≤ w.2.2.1) (hn : w.1 = 0 ∨ ¬ zCan s w.1 w.2.1 w.2.2.1 = true) : m_Trial_takesStep xm N 1104 (Int32.ofNat s) mem = some (.inl (some (.int 0)), mem) := by
  refine ok_eq ?_
  unfold m_Trial_takesStep
  refine t_gE H j hj rfl ?_
  by_cases g : w.1 = 0
  · rw [if_pos ((i_lt1 (by omega)).mpr g)]
    exact ok_me
  · rw [if_neg (fun z => g ((i_lt1 (by omega)).mp z))]
    refine t_gE H j hj rfl ?_
    refine t_gE H j hj rfl ?_
    refine t_gE H j hj rfl ?_
    refine ok_eI (k_fitsE hX h1 h9 (by omega) hla ha hy) ?_
    rw [if_neg (hn.resolve_left g), if_pos rfl]
    exact ok_me
theorem q_takeY (hX : kXok xm) {Ts : kTyL} {j s t : Nat} {w : aT} (H : HpT Ts F mem) (hj : Ts[j]? = some (1104, trE w t)) (h1 : 1 ≤ s) (h9 : s ≤ 9) (hla : w.1 ≤ w.2.1) (ha : w.2.1 ≤ 24) (hy : 0 ≤ w.2.2.1) (g : ¬ w.1 = 0) (hz : zCan s w.1 w.2.1 w.2.2.1 = true) : dOk (m_Trial_takesStep xm N 1104 (Int32.ofNat s) mem) (rI fun v m => v = 1 ∧ HpT (Ts.set j (1104, trE (w.1 - aUse s, w.2.1 + aGive s - aUse s, w.2.2.1 - Int32.ofNat (aTake s), w.2.2.2 + Int32.ofNat (aTake s)) (t + 1))) F m ∧ St xm mem m 0 0) := by
  have hl := getQ_lt hj
  obtain ⟨z1, z2, z3⟩ := zCan_all hz
  obtain ⟨u1, u2, u3, u4, u5, u6⟩ := aUse_le h1 h9
  have e3 : fAt 3 (Int32.ofNat s) = Int32.ofNat (aUse s) := fAt_3 h1 h9
  have e4 := fAt_4 h1 h9
  have e5 := fAt_5 h1 h9
  unfold m_Trial_takesStep
  refine t_gE H j hj rfl ?_
  rw [if_neg (fun z => g ((i_lt1 (by omega)).mp z))]
  refine t_gE H j hj rfl ?_
  refine t_gE H j hj rfl ?_
  refine t_gE H j hj rfl ?_
  refine ok_eI (k_fitsE hX h1 h9 (by omega) hla ha hy) ?_
  rw [if_pos hz, if_neg (by decide)]
  refine ok_eI (sfE hX (r := 3) (by decide) h9) ?_
  refine ok_eI (sfE hX (r := 4) (by decide) h9) ?_
  refine t_gE H j hj rfl ?_
  rw [e3, e4, i_sub (by omega)]
  refine t_pE H j hj rfl rfl fun m1 H1 S1 => ?_
  have g1 := List.getElem?_set_self (a := (1104, cO 9 [fE (Int32.ofNat (w.1 - aUse s)), fE (Int32.ofNat w.2.1), fE w.2.2.1, fE w.2.2.2, fE (Int32.ofNat t)])) hl
  refine t_gE H1 j g1 rfl ?_
  refine ok_eI (sfE hX (r := 5) (by decide) h9) ?_
  rw [e5, Int32.sub_eq_add_neg, ← Int32.add_assoc, ← Int32.sub_eq_add_neg, i_add, i_sub (by omega)]
  refine t_pE H1 j g1 rfl rfl fun m2 H2 S2 => ?_
  rw [List.set_set] at H2
  have g2 := List.getElem?_set_self (a := (1104, cO 9 [fE (Int32.ofNat (w.1 - aUse s)), fE (Int32.ofNat (w.2.1 + aGive s - aUse s)), fE w.2.2.1, fE w.2.2.2, fE (Int32.ofNat t)])) hl
  refine t_gE H2 j g2 rfl ?_
  refine t_pE H2 j g2 rfl rfl fun m3 H3 S3 => ?_
  rw [List.set_set] at H3
  have g3 := List.getElem?_set_self (a := (1104, cO 9 [fE (Int32.ofNat (w.1 - aUse s)), fE (Int32.ofNat (w.2.1 + aGive s - aUse s)), fE (w.2.2.1 - Int32.ofNat (aTake s)), fE w.2.2.2, fE (Int32.ofNat t)])) hl
  refine t_gE H3 j g3 rfl ?_
  refine t_pE H3 j g3 rfl rfl fun m4 H4 S4 => ?_
  rw [List.set_set] at H4
  have g4 := List.getElem?_set_self (a := (1104, cO 9 [fE (Int32.ofNat (w.1 - aUse s)), fE (Int32.ofNat (w.2.1 + aGive s - aUse s)), fE (w.2.2.1 - Int32.ofNat (aTake s)), fE (w.2.2.2 + Int32.ofNat (aTake s)), fE (Int32.ofNat t)])) hl
  refine t_gE H4 j g4 rfl ?_
  rw [i_add1]
  refine t_pE H4 j g4 rfl rfl fun m5 H5 S5 => ?_
  rw [List.set_set] at H5
  exact ok_I ⟨rfl, H5, S1.trans (S2.trans (S3.trans (S4.trans S5)))⟩
theorem q_try33 (hX : kXok xm) {v : Nat} (hp : pa[p]? = some (Int32.ofNat v)) (h1 : 1 ≤ v) (h2 : v ≤ 999999999) (nz : aNz v) (h6 : pa.length ≤ 6) : ∀ (k d f : Nat) (w : aT) (mem : kM), d + k = 99 → k < f → w.1 ≤ w.2.1 → w.2.1 ≤ 24 → 0 ≤ w.2.2.1 → HpT ((cE nb jo pa st q cap T h).set 104 (1104, trE w d)) F mem → dOk (m_K_tryOut_33 xm N f 1000 (Int32.ofNat p) (Int32.ofNat d) mem) (rV fun m => HpT ((cE nb jo pa st q cap T h).set 104 (1104, trE (zTry v k d w).1 (zTry v k d w).2)) F m ∧ St xm mem m 0 0) := by
  intro k
  induction k with
  | zero =>
    intro d f w mem hd hf hla ha hy H
    obtain ⟨f, rfl⟩ : ∃ f', f = f' + 1 := ⟨f - 1, by omega⟩
    rw [m_K_tryOut_33, if_neg (fun z => by have := (i_lt (a := d) (b := 99) (by omega) (by omega)).mp z; omega)]
    exact ok_V ⟨H, St.refl⟩
  | succ k ih =>
    intro d f w mem hd hf hla ha hy H
    obtain ⟨f, rfl⟩ : ∃ f', f = f' + 1 := ⟨f - 1, by omega⟩
    rw [m_K_tryOut_33, if_pos (show Int32.ofNat d < 99 from (i_lt (a := d) (b := 99) (by omega) (by omega)).mpr (by omega))]
    refine t_gR H 0 rfl rfl ?_
    refine t_rc H 0 rfl ?_
    refine ok_eI (q_stepAt (d := d) rfl rfl rfl rfl rfl hp h1 h2 h6 (by omega) H) ?_
    obtain ⟨d1, d9⟩ := pDg_ok (i := d) h1 h2 nz
    refine t_rc H 104 rfl ?_
    unfold zTry
    by_cases g : w.1 = 0
    · rw [if_pos g]
      refine ok_eI (q_takeN (j := 104) hX H rfl d1 d9 hla ha hy (Or.inl g)) ?_
      rw [if_pos rfl]
      exact ok_V ⟨H, St.refl⟩
    · rw [if_neg g]
      by_cases gc : zCan (pDg v (d % pLen v)) w.1 w.2.1 w.2.2.1 = true
      · rw [if_pos gc]
        refine ok_cI (q_takeY (j := 104) hX H rfl d1 d9 hla ha hy g gc) fun x m1 hh => ?_
        obtain ⟨rfl, H1, S1⟩ := hh
        rw [List.set_set] at H1
        rw [if_neg (by decide), i_add1]
        obtain ⟨z1, z2, z3⟩ := zCan_all gc
        obtain ⟨u1, u2, u3, u4, u5, u6⟩ := aUse_le d1 d9
        refine ok_mono (ih (d + 1) f _ m1 (by omega) (by omega) ?_ ?_ (y_subnn hy u2 z2) H1) ?_
        · dsimp only
          omega
        · dsimp only
          by_cases g39 : pDg v (d % pLen v) = 3 ∨ pDg v (d % pLen v) = 9
          · have := u6 g39
            have := z3 g39
            omega
          · have := u5 g39
            omega
        · rintro r ⟨q1, q2, q3⟩
          exact ⟨q1, q2, (S1.trans q3).mono (by omega) (by omega)⟩
      · rw [if_neg gc]
        refine ok_eI (q_takeN (j := 104) hX H rfl d1 d9 hla ha hy (Or.inr gc)) ?_
        rw [if_pos rfl]
        exact ok_V ⟨H, St.refl⟩
/-- the trial of a pattern -/
theorem q_tryOut (hX : kXok xm) (hN : 120 ≤ N) {v : Nat} (hp : pa[p]? = some (Int32.ofNat v)) (h1 : 1 ≤ v) (h2 : v ≤ 999999999) (nz : aNz v) (h6 : pa.length ≤ 6) (h24 : vl.length + vr.length ≤ 24) (hjj : jOk nb jo) (hn4 : nb ≤ 4) (hy4 : ya.length = 4) (hY : 0 ≤ bY jo ya) (H : HpT (cE nb jo pa (vl, vr, rs, ya, sc) q cap T h) F mem) : dOk (m_K_tryOut xm N 1000 (Int32.ofNat p) mem) (rV fun m => HpT ((cE nb jo pa (vl, vr, rs, ya, sc) q cap T h).set 104 (1104, trE (zTry v 99 0 (vl.length, vl.length + vr.length, bY jo ya, 0)).1 (zTry v 99 0 (vl.length, vl.length + vr.length, bY jo ya, 0)).2)) F m ∧ St xm mem m 0 0) := by
  unfold m_K_tryOut
  refine t_gR H 0 rfl rfl ?_
  refine t_gR H 0 rfl rfl ?_
  refine t_gR H 3 rfl rfl ?_
  refine t_gE (x := Int32.ofNat vl.length) H 4 rfl rfl ?_
  refine t_gR H 0 rfl rfl ?_
  refine t_rc H 3 rfl ?_
  refine ok_eI (wE_onBoth (i := 3) (a := 1003) (st := (vl, vr, rs, ya, sc)) (by dsimp only; omega) H isWE_now) ?_
  refine t_gR H 0 rfl rfl ?_
  refine t_rc H 1 rfl ?_
  refine ok_eI (bE_ofJoined (a := 1001) (b := 1002) (nb := nb) (j := 1) (ya := ya) hjj hn4 hy4 H rfl rfl) ?_
  refine t_rc H 104 rfl ?_
  refine ok_cV (q_start (j := 104) (l := vl.length) (a := vl.length + vr.length) H rfl) fun m1 hh => ?_
  obtain ⟨H1, S1⟩ := hh
  refine ok_mono (q_try33 (N := N) hX hp h1 h2 nz h6 99 0 N (vl.length, vl.length + vr.length, bY jo ya, 0) m1 (by omega) (by omega) (by dsimp only; omega) h24 hY H1) ?_
  rintro r ⟨q1, q2, q3⟩
  exact ⟨q1, q2, (S1.trans q3).mono (by omega) (by omega)⟩
end EP
