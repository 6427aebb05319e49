/-! ===== the class exactly: types that say what is there ===== -/
/-- an array of n numbers that begins with these -/
def cPf (n : Nat) (xs : List Int32) : cTy := fun e => ∃ zs : List Int32, xs.length + zs.length = n ∧ e = .inr (.inl (0, xs ++ zs))
/-- an array of n numbers, each as told -/
def cF (T : Nat → Int32) (n : Nat) : cTy := cX ((List.range n).map T)
section EA
variable {xm : Nat → Option kE} {mem : kM} {Ts : kTyL} {F A : kSg} {S : kO × kM → Prop} {r n j a b : Nat} {t t' : cTy} {T : Nat → Int32}
theorem HpT.wk (H : HpT (Ts.set j (r, t)) F mem) (hj : j < Ts.length) (h : ∀ e, t e → t' e) : HpT (Ts.set j (r, t')) F mem := by
  obtain ⟨A, hA, H1⟩ := H
  refine ⟨A, ?_, H1⟩
  have h0 : (Ts.set j (r, t))[j]? = some (r, t) := List.getElem?_set_self hj
  obtain ⟨e, h1, h2⟩ := hA.2 j r t h0
  have h3 := hA.set (t' := t') (e := e) h0 (h e h2)
  rw [List.set_set, set_self h1] at h3
  exact h3
theorem HpT.ex {α : Type} {P : α → cTy} (H : HpT Ts F mem) (j : Nat) (hj : Ts[j]? = some (r, t)) (h : ∀ e, t e → ∃ x, P x e) : ∃ x, HpT (Ts.set j (r, P x)) F mem := by
  obtain ⟨A, hA, H1⟩ := H
  obtain ⟨e, h1, h2⟩ := hA.2 j r t hj
  obtain ⟨x, hx⟩ := h e h2
  have h3 := hA.set (t' := P x) (e := e) hj hx
  rw [set_self h1] at h3
  exact ⟨x, A, h3, H1⟩
theorem HpT.pinP {xs : List Int32} (H : HpT Ts F mem) (j : Nat) (hj : Ts[j]? = some (r, cPf n xs)) : ∃ zs : List Int32, xs.length + zs.length = n ∧ HpT (Ts.set j (r, cX (xs ++ zs))) F mem := by
  obtain ⟨A, hA, H1⟩ := H
  obtain ⟨e, h1, zs, h2, rfl⟩ := hA.2 j r _ hj
  have h3 := hA.set (t' := cX (xs ++ zs)) (e := .inr (.inl (0, xs ++ zs))) hj rfl
  rw [set_self h1] at h3
  exact ⟨zs, h2, A, h3, H1⟩
theorem HpT.unP {xs zs : List Int32} (H : HpT (Ts.set j (r, cX (xs ++ zs))) F mem) (hj : j < Ts.length) (h : xs.length + zs.length = n) : HpT (Ts.set j (r, cPf n xs)) F mem := H.wk hj fun e he => ⟨zs, h, he⟩
theorem t_lenX {K : Int32 → dRes} {ys : List Int32} (H : HpT Ts F mem) (j : Nat) (hj : Ts[j]? = some (r, cX ys)) (h : dOk (K (Int32.ofNat ys.length)) S) : dOk (dLen xm mem r K) S := by
  obtain ⟨e, h1, h2, rfl⟩ := H.cell (xm := xm) j hj
  exact ok_lenI h1 (by decide) h
theorem t_iLX {K : Int32 → dRes} {ys : List Int32} {i : Int32} (H : HpT Ts F mem) (j : Nat) (hj : Ts[j]? = some (r, cX ys)) (hi : kInB i ys.length = true) (h : dOk (K (ys.getD i.toNatClampNeg 0)) S) : dOk (dIL xm 0 mem r i K) S := by
  obtain ⟨e, h1, h2, rfl⟩ := H.cell (xm := xm) j hj
  exact ok_iL h1 hi h
theorem t_iLn {K : Int32 → dRes} {ys : List Int32} {i : Nat} (H : HpT Ts F mem) (j : Nat) (hj : Ts[j]? = some (r, cX ys)) (hi : i < ys.length) (hl : ys.length < 2 ^ 31) (h : dOk (K (ys.getD i 0)) S) : dOk (dIL xm 0 mem r (Int32.ofNat i) K) S := by
  refine t_iLX H j hj (i_inB hi hl) ?_
  rw [i_nat (by omega)]
  exact h
theorem t_iSX {K : kM → dRes} {ys : List Int32} {i x : Int32} (H : HpT Ts F mem) (j : Nat) (hj : Ts[j]? = some (r, cX ys)) (hi : kInB i ys.length = true) (h : ∀ m, HpT (Ts.set j (r, cX (ys.set i.toNatClampNeg x))) F m → St xm mem m 0 0 → dOk (K m) S) : dOk (dIS xm mem r i x K) S := by
  obtain ⟨A, hA, h3⟩ := H
  obtain ⟨e, h4, rfl⟩ := hA.2 j r _ hj
  have hl := (List.getElem?_eq_some_iff.mp h4).1
  refine ok_iS h3 j (by rw [List.getElem?_append_left hl]; exact h4) hi fun m H1 S1 => ?_
  rw [List.set_append_left _ _ hl] at H1
  exact h m ⟨_, hA.set hj rfl, H1⟩ S1
theorem t_iSn {K : kM → dRes} {ys : List Int32} {i : Nat} {x : Int32} (H : HpT Ts F mem) (j : Nat) (hj : Ts[j]? = some (r, cX ys)) (hi : i < ys.length) (hl : ys.length < 2 ^ 31) (h : ∀ m, HpT (Ts.set j (r, cX (ys.set i x))) F m → St xm mem m 0 0 → dOk (K m) S) : dOk (dIS xm mem r (Int32.ofNat i) x K) S := by
  refine t_iSX H j hj (i_inB hi hl) fun m H1 S1 => ?_
  rw [i_nat (by omega)] at H1
  exact h m H1 S1
theorem kCpy_full {us ys : List Int32} {n : Nat} (h1 : us.length = n) (h2 : ys.length = n) : kCpy us ys 0 0 n = us := by
  unfold kCpy
  rw [List.take_zero, List.nil_append, List.drop_zero, Nat.zero_add, List.take_of_length_le (by omega), List.drop_of_length_le (by omega), List.append_nil]
/-- all of an array into another as long -/
theorem t_cpyX {K : kM → dRes} {s0 d0 : Nat} {us : List Int32} (hn : n < 2 ^ 31) (H : HpT Ts F mem) (i j : Nat) (hi : Ts[i]? = some (s0, cX us)) (hj : Ts[j]? = some (d0, cA n)) (hu : us.length = n) (h : ∀ m, HpT (Ts.set j (d0, cX us)) F m → St xm mem m 0 0 → dOk (K m) S) : dOk (dCpy xm mem s0 0 d0 0 (Int32.ofNat n) K) S := by
  obtain ⟨e, a1, a2, rfl⟩ := H.cell (xm := xm) i hi
  obtain ⟨A, hA, h3⟩ := H
  obtain ⟨e, h4, ys, h5, rfl⟩ := hA.2 j d0 _ hj
  have hl := (List.getElem?_eq_some_iff.mp h4).1
  have e0 : (0 : Int32).toNatClampNeg = 0 := by decide
  have hr' : kOkR 0 0 (Int32.ofNat n) us.length ys.length = true := by
    unfold kOkR
    rw [i_nat hn, e0, hu, h5]
    simp [i_nn hn]
  refine ok_cpyI h3 a1 a2 j (by rw [List.getElem?_append_left hl]; exact h4) hr' fun m H1 S1 => ?_
  rw [List.set_append_left _ _ hl, e0, i_nat hn, kCpy_full hu h5] at H1
  exact h m ⟨_, hA.set hj rfl, H1⟩ S1
/-- a field is written: its type tells the new value -/
theorem t_pE {K : kM → dRes} {ts : List fTy} {t : fTy} {ci k : Nat} {x : Int32} (H : HpT Ts F mem) (j : Nat) (hj : Ts[j]? = some (r, cO ci ts)) (hk : ts[k]? = some t) (hc : (!(Nat.beq ci 2) && !(Nat.beq ci 13)) = true) (h : ∀ m, HpT (Ts.set j (r, cO ci (ts.set k (fE x)))) F m → St xm mem m 0 0 → dOk (K m) S) : dOk (dP xm mem r ci k (.int x) K) S := t_pT (t' := fE x) H j hj hk hc rfl h
/-! functions as arrays -/
theorem mapR_len : ((List.range n).map T).length = n := by simp
theorem mapR_get {i : Nat} (hi : i < n) : ((List.range n).map T).getD i 0 = T i := by
  rw [List.getD_eq_getElem?_getD, List.getElem?_map, List.getElem?_range hi]
  rfl
theorem mapR_set {i : Nat} {x : Int32} : ((List.range n).map T).set i x = (List.range n).map (kUp T i x) := by
  apply List.ext_getElem?
  intro k
  rw [List.getElem?_set]
  by_cases g : i = k
  · subst g
    rw [if_pos rfl, List.getElem?_map]
    by_cases hi : i < n
    · rw [if_pos (by simpa using hi), List.getElem?_range hi]
      simp [kUp]
    · rw [if_neg (by simpa using hi), List.getElem?_eq_none (by simpa using hi)]
      rfl
  · rw [if_neg g, List.getElem?_map, List.getElem?_map]
    cases h : (List.range n)[k]? with
    | none => rfl
    | some v =>
      have hv : v = k := by
        obtain ⟨h1, h2⟩ := List.getElem?_eq_some_iff.mp h
        rw [List.getElem_range] at h2
        exact h2.symm
      subst hv
      simp [kUp, show ¬ v = i from fun z => g z.symm]
theorem mapR_congr {T' : Nat → Int32} (h : ∀ i, i < n → T i = T' i) : (List.range n).map T = (List.range n).map T' := List.map_congr_left fun i hi => h i (List.mem_range.mp hi)
end EA
/-! ===== the class exactly: needles ===== -/
section EB
variable {xm : Nat → Option kE} {mem : kM} {Ts : kTyL} {F A : kSg} {S : kO × kM → Prop} {N r n j a b p i : Nat} {x u v : Int32} {vl wl ws zs : List Int32}
/-- the loop at a place from the tip on -/
def nAt (vl : List Int32) (p : Nat) : Int32 := if p < vl.length then vl.getD (vl.length - 1 - p) 0 else -1
theorem i_subneg {c p : Nat} (hc : c ≤ 24) (hp : p < 2 ^ 31) (h : ¬ p < c) : Int32.ofNat c - 1 - Int32.ofNat p < 0 := by
  have e1 : (1 : Int32).toInt = 1 := by decide
  have e0 : (0 : Int32).toInt = 0 := by decide
  have h1 : (Int32.ofNat c - 1).toInt = c - 1 := by
    rw [Int32.toInt_sub, i_toI (by omega), e1, Int.bmod_eq_of_le (by omega) (by omega)]
  rw [Int32.lt_iff_toInt_lt, Int32.toInt_sub, h1, i_toI hp, Int.bmod_eq_of_le (by omega) (by omega), e0]
  omega
/-- a needle that holds these loops, with these cells -/
theorem nX_at {ys : List Int32} {c : Nat} (hc : c ≤ 24) (hy : ys.length = 24) (hp : p < 2 ^ 31) (H : HpT Ts F mem) (hj : Ts[j]? = some (a, nE b c)) (hb : Ts[j + 1]? = some (b, cX ys)) : m_Needle_at xm N a (Int32.ofNat p) mem = some (.inl (some (.int (if p < c then ys.getD (c - 1 - p) 0 else -1))), mem) := by
  refine ok_eq ?_
  unfold m_Needle_at
  refine t_gE H j hj rfl ?_
  rw [if_neg (i_nn hp)]
  by_cases h : p < c
  · rw [if_pos h, i_sub1 (by omega), i_sub (by omega), if_neg (i_nn (by omega))]
    refine t_gR H j hj rfl ?_
    refine t_lenX H (j + 1) hb ?_
    rw [hy, if_pos ((i_lt (by omega) (by decide)).mpr (by omega))]
    refine t_gR H j hj rfl ?_
    exact t_iLn H (j + 1) hb (by omega) (by omega) ok_me
  · rw [if_neg h, if_pos (i_subneg hc hp h)]
    exact ok_me
theorem getD_app {vl zs : List Int32} {i : Nat} (h : i < vl.length) : (vl ++ zs).getD i 0 = vl.getD i 0 := by
  rw [List.getD_eq_getElem?_getD, List.getD_eq_getElem?_getD, List.getElem?_append_left h]
theorem nE_at (hp : p < 2 ^ 31) (hc : vl.length ≤ 24) (H : HpT Ts F mem) (hj : Ts[j]? = some (a, nE b vl.length)) (hb : Ts[j + 1]? = some (b, cPf 24 vl)) : m_Needle_at xm N a (Int32.ofNat p) mem = some (.inl (some (.int (nAt vl p))), mem) := by
  obtain ⟨zs, hz, H1⟩ := H.pinP (j + 1) hb
  rw [nX_at (ys := vl ++ zs) hc (by simp; omega) hp H1 (set_ne hj (by omega)) (set_at hb)]
  unfold nAt
  by_cases h : p < vl.length
  · rw [if_pos h, if_pos h, getD_app (by omega)]
  · rw [if_neg h, if_neg h]
theorem nX_replace {ys : List Int32} {c : Nat} (hc : c ≤ 24) (hy : ys.length = 24) (hp : p < c) (H : HpT Ts F mem) (hj : Ts[j]? = some (a, nE b c)) (hb : Ts[j + 1]? = some (b, cX ys)) : dOk (m_Needle_replace xm N a (Int32.ofNat p) x mem) (rV fun m => HpT (Ts.set (j + 1) (b, cX (ys.set (c - 1 - p) x))) F m ∧ St xm mem m 0 0) := by
  unfold m_Needle_replace
  refine t_gE H j hj rfl ?_
  rw [if_neg (i_nn (by omega)), i_sub1 (by omega), i_sub (by omega), if_neg (i_nn (by omega))]
  refine t_gR H j hj rfl ?_
  refine t_lenX H (j + 1) hb ?_
  rw [hy, if_pos ((i_lt (by omega) (by decide)).mpr (by omega))]
  refine t_gR H j hj rfl ?_
  exact t_iSn H (j + 1) hb (by omega) (by omega) fun m H1 S1 => ok_V ⟨H1, S1⟩
/-- a needle's cells, its loops told anew -/
theorem nX_un {c : Nat} (hj : j + 1 < Ts.length) (hc : wl.length = c) (hz : wl.length + zs.length = 24) (H : HpT ((Ts.set j (a, nE b c)).set (j + 1) (b, cX (wl ++ zs))) F mem) : HpT ((Ts.set j (a, nE b wl.length)).set (j + 1) (b, cPf 24 wl)) F mem := by
  subst hc
  exact H.unP (by simpa using hj) hz
theorem len_of {α : Type} {l : List α} {i : Nat} {x : α} (h : l[i]? = some x) : i < l.length := (List.getElem?_eq_some_iff.mp h).1
theorem nE_put (hc : vl.length < 24) (H : HpT Ts F mem) (hj : Ts[j]? = some (a, nE b vl.length)) (hb : Ts[j + 1]? = some (b, cPf 24 vl)) : dOk (m_Needle_put xm N a x mem) (rV fun m => HpT ((Ts.set j (a, nE b (vl ++ [x]).length)).set (j + 1) (b, cPf 24 (vl ++ [x]))) F m ∧ St xm mem m 0 0) := by
  obtain ⟨zs, hz, H1⟩ := H.pinP (j + 1) hb
  have h1 := set_ne (y := (b, cX (vl ++ zs))) hj (show j + 1 ≠ j by omega)
  have h2 := set_at (y := (b, cX (vl ++ zs))) hb
  unfold m_Needle_put
  refine t_gE H1 j h1 rfl ?_
  rw [if_neg (i_nn (by omega))]
  refine t_gE H1 j h1 rfl ?_
  refine t_gR H1 j h1 rfl ?_
  refine t_lenX H1 (j + 1) h2 ?_
  have hl : (vl ++ zs).length = 24 := by simp; omega
  rw [hl, if_pos ((i_lt (by omega) (by decide)).mpr hc)]
  refine t_gR H1 j h1 rfl ?_
  refine t_gE H1 j h1 rfl ?_
  refine t_iSn H1 (j + 1) h2 (by omega) (by omega) fun m H2 S2 => ?_
  rw [List.set_set] at H2
  have h3 := set_ne (y := (b, cX ((vl ++ zs).set vl.length x))) hj (show j + 1 ≠ j by omega)
  refine t_gE H2 j h3 rfl ?_
  rw [i_add1]
  refine t_pE H2 j h3 rfl rfl fun m3 H3 S3 => ?_
  refine ok_V ⟨?_, S2.trans S3⟩
  cases zs with
  | nil => simp at hz; omega
  | cons z zs =>
    have e : (vl ++ z :: zs).set vl.length x = (vl ++ [x]) ++ zs := by
      rw [List.set_append_right _ _ (Nat.le_refl _), Nat.sub_self]
      simp
    rw [e, List.set_comm _ _ (by omega)] at H3
    have H3 : HpT ((Ts.set j (a, nE b (vl.length + 1))).set (j + 1) (b, cX ((vl ++ [x]) ++ zs))) F m3 := H3
    exact nX_un (len_of hb) (by simp) (by simp at hz ⊢; omega) H3
theorem nE_take0 (hv : v ≠ -1) (hN : 2 ≤ N) (hc : (wl ++ [v]).length ≤ 24) (H : HpT Ts F mem) (hj : Ts[j]? = some (a, nE b (wl ++ [v]).length)) (hb : Ts[j + 1]? = some (b, cPf 24 (wl ++ [v]))) : dOk (m_Needle_takeAt xm N a 0 mem) (rI fun y m => y = v ∧ HpT ((Ts.set j (a, nE b wl.length)).set (j + 1) (b, cPf 24 wl)) F m ∧ St xm mem m 0 0) := by
  have hl : (wl ++ [v]).length = wl.length + 1 := by simp
  have hA : nAt (wl ++ [v]) 0 = v := by
    unfold nAt
    rw [if_pos (by omega), hl, Nat.add_sub_cancel, Nat.sub_zero, List.getD_eq_getElem?_getD, List.getElem?_append_right (Nat.le_refl _), Nat.sub_self]
    rfl
  obtain ⟨zs, hz, H1⟩ := H.pinP (j + 1) hb
  have h1 := set_ne (y := (b, cX ((wl ++ [v]) ++ zs))) hj (show j + 1 ≠ j by omega)
  unfold m_Needle_takeAt
  refine t_rc H j hj ?_
  refine ok_eI (nE_at (p := 0) (xm := xm) (N := N) (by decide) hc H hj hb) ?_
  rw [hA, if_neg hv]
  obtain ⟨N, rfl⟩ : ∃ N', N = N' + 1 := ⟨N - 1, by omega⟩
  rw [m_Needle_takeAt_15, if_neg (show ¬ ((0 : Int32) < 0) by decide)]
  refine t_gE H1 j h1 rfl ?_
  rw [hl, i_sub1 (by omega), Nat.add_sub_cancel]
  refine t_pE H1 j h1 rfl rfl fun m3 H3 S3 => ?_
  refine ok_I ⟨rfl, ?_, S3⟩
  rw [List.set_comm _ _ (by omega), List.append_assoc] at H3
  exact nX_un (len_of hb) rfl (by simp at hz ⊢; omega) H3
theorem nE_take1 (hu : u ≠ -1) (hN : 3 ≤ N) (hc : (wl ++ [u, v]).length ≤ 24) (H : HpT Ts F mem) (hj : Ts[j]? = some (a, nE b (wl ++ [u, v]).length)) (hb : Ts[j + 1]? = some (b, cPf 24 (wl ++ [u, v]))) : dOk (m_Needle_takeAt xm N a 1 mem) (rI fun y m => y = u ∧ HpT ((Ts.set j (a, nE b (wl ++ [v]).length)).set (j + 1) (b, cPf 24 (wl ++ [v]))) F m ∧ St xm mem m 0 0) := by
  have hl : (wl ++ [u, v]).length = wl.length + 2 := by simp
  have hA : nAt (wl ++ [u, v]) 1 = u := by
    unfold nAt
    rw [if_pos (by omega), hl, show wl.length + 2 - 1 - 1 = wl.length by omega, List.getD_eq_getElem?_getD, List.getElem?_append_right (Nat.le_refl _), Nat.sub_self]
    rfl
  obtain ⟨zs, hz, H1⟩ := H.pinP (j + 1) hb
  have h1 := set_ne (y := (b, cX ((wl ++ [u, v]) ++ zs))) hj (show j + 1 ≠ j by omega)
  have h2 := set_at (y := (b, cX ((wl ++ [u, v]) ++ zs))) hb
  have hy : ((wl ++ [u, v]) ++ zs).length = 24 := by simp at hz ⊢; omega
  unfold m_Needle_takeAt
  refine t_rc H j hj ?_
  refine ok_eI (nE_at (p := 1) (xm := xm) (N := N) (by decide) hc H hj hb) ?_
  rw [hA, if_neg hu]
  obtain ⟨N, rfl⟩ : ∃ N', N = N' + 1 := ⟨N - 1, by omega⟩
  rw [m_Needle_takeAt_15, if_pos (show (0 : Int32) < 1 by decide)]
  refine t_rc H1 j h1 ?_
  refine ok_eI (nX_at (p := 0) (xm := xm) (N := N + 1) hc hy (by decide) H1 h1 h2) ?_
  rw [if_pos (by omega), hl]
  have e0 : ((wl ++ [u, v]) ++ zs).getD (wl.length + 2 - 1 - 0) 0 = v := by
    rw [show wl.length + 2 - 1 - 0 = wl.length + 1 by omega, List.append_assoc, List.getD_eq_getElem?_getD, List.getElem?_append_right (by omega), Nat.add_sub_cancel_left]
    rfl
  rw [e0]
  refine t_rc H1 j h1 ?_
  rw [hl] at h1
  refine ok_cV (nX_replace (p := 1) (by omega) hy (by omega) H1 h1 h2) fun m2 hh => ?_
  obtain ⟨H2, S2⟩ := hh
  rw [List.set_set] at H2
  obtain ⟨N, rfl⟩ : ∃ N', N = N' + 1 := ⟨N - 1, by omega⟩
  rw [m_Needle_takeAt_15, if_neg (show ¬ ((0 : Int32) < 1 + (-1)) by decide)]
  have h3 := set_ne (y := (b, cX (((wl ++ [u, v]) ++ zs).set (wl.length + 2 - 1 - 1) v))) hj (show j + 1 ≠ j by omega)
  rw [hl] at h3
  refine t_gE H2 j h3 rfl ?_
  rw [i_sub1 (by omega)]
  refine t_pE H2 j h3 rfl rfl fun m3 H3 S3 => ?_
  refine ok_I ⟨rfl, ?_, S2.trans S3⟩
  have e : ((wl ++ [u, v]) ++ zs).set (wl.length + 2 - 1 - 1) v = (wl ++ [v]) ++ (v :: zs) := by
    rw [show wl.length + 2 - 1 - 1 = wl.length by omega, List.append_assoc, List.set_append_right _ _ (Nat.le_refl _), Nat.sub_self]
    simp
  rw [e, List.set_comm _ _ (by omega)] at H3
  exact nX_un (len_of hb) (by simp) (by simp at hz ⊢; omega) H3
end EB
