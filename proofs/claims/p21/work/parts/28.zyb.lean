/-! ===== the class exactly: needles turned, copied, looked through ===== -/
section EC
variable {xm : Nat → Option kE} {mem : kM} {Ts : kTyL} {F A : kSg} {S : kO × kM → Prop} {N r n i j a b a1 b1 p : Nat} {x u v t : Int32} {vl wl ws zs vr : List Int32}
theorem nX_at' {ys : List Int32} {c : Nat} (hc : c ≤ 24) (hy : ys.length = 24) (hp : p < c) (H : HpT Ts F mem) (hj : Ts[j]? = some (a, nE b c)) (hb : Ts[j + 1]? = some (b, cX ys)) : m_Needle_at xm N a (Int32.ofNat p) mem = some (.inl (some (.int (ys.getD (c - 1 - p) 0))), mem) := by
  rw [nX_at hc hy (by omega) H hj hb, if_pos hp]
theorem snoc_last {α : Type} {l : List α} {k : Nat} (h : l.length = k + 1) : ∃ t x, l = t ++ [x] ∧ t.length = k := by
  have hn : l ≠ [] := fun e => by rw [e] at h; cases h
  exact ⟨l.dropLast, l.getLast hn, (List.dropLast_concat_getLast hn).symm, by rw [List.length_dropLast]; omega⟩
/-- the tip goes behind p others -/
theorem nX_move8 {t : Int32} {c : Nat} (hc : c ≤ 24) (hj0 : Ts[j]? = some (a, nE b c)) (hbl : j + 1 < Ts.length) : ∀ (k d f : Nat) (ws us : List Int32) (x : Int32) (mem : kM), ws.length = k → us.length = d → k < f → k + d = p → wl.length + p + 1 = c → c + zs.length = 24 → HpT (Ts.set (j + 1) (b, cX (wl ++ ws ++ [x] ++ us ++ zs))) F mem → dOk (m_Needle_moveTipBehind_8 xm N f a (Int32.ofNat p) t (Int32.ofNat d) mem) (rV fun m => HpT (Ts.set (j + 1) (b, cX (wl ++ [t] ++ (ws ++ us) ++ zs))) F m ∧ St xm mem m 0 0) := by
  intro k
  induction k with
  | zero =>
    intro d f ws us x mem hw hu hf hd hwl hzl H
    obtain ⟨f, rfl⟩ : ∃ f', f = f' + 1 := ⟨f - 1, by omega⟩
    have hw : ws = [] := List.length_eq_zero_iff.mp hw
    subst hw
    have hy : (wl ++ [] ++ [x] ++ us ++ zs).length = 24 := by simp; omega
    rw [m_Needle_moveTipBehind_8, if_neg (fun z => by have := (i_lt (by omega) (by omega)).mp z; omega)]
    refine t_rc H j (set_ne hj0 (by omega)) ?_
    refine ok_cV (nX_replace (p := p) hc hy (by omega) H (set_ne hj0 (by omega)) (List.getElem?_set_self hbl)) fun m2 hh => ?_
    obtain ⟨H2, S2⟩ := hh
    rw [List.set_set] at H2
    have e : (wl ++ [] ++ [x] ++ us ++ zs).set (c - 1 - p) t = wl ++ [t] ++ ([] ++ us) ++ zs := by
      rw [show c - 1 - p = wl.length by omega]
      simp
    rw [e] at H2
    exact ok_V ⟨H2, S2⟩
  | succ k ih =>
    intro d f ws us x mem hw hu hf hd hwl hzl H
    obtain ⟨f, rfl⟩ : ∃ f', f = f' + 1 := ⟨f - 1, by omega⟩
    obtain ⟨w1, y, rfl, hw1⟩ := snoc_last hw
    have hy : (wl ++ (w1 ++ [y]) ++ [x] ++ us ++ zs).length = 24 := by simp; omega
    rw [m_Needle_moveTipBehind_8, if_pos ((i_lt (by omega) (by omega)).mpr (by omega))]
    refine t_rc H j (set_ne hj0 (by omega)) ?_
    rw [i_add1]
    refine ok_eI (nX_at' (p := d + 1) hc hy (by omega) H (set_ne hj0 (by omega)) (List.getElem?_set_self hbl)) ?_
    have e1 : (wl ++ (w1 ++ [y]) ++ [x] ++ us ++ zs).getD (c - 1 - (d + 1)) 0 = y := by
      rw [show c - 1 - (d + 1) = wl.length + w1.length by omega]
      simp [List.getD_eq_getElem?_getD]
    rw [e1]
    refine t_rc H j (set_ne hj0 (by omega)) ?_
    refine ok_cV (nX_replace (p := d) hc hy (by omega) H (set_ne hj0 (by omega)) (List.getElem?_set_self hbl)) fun m2 hh => ?_
    obtain ⟨H2, S2⟩ := hh
    rw [List.set_set] at H2
    have e2 : (wl ++ (w1 ++ [y]) ++ [x] ++ us ++ zs).set (c - 1 - d) y = wl ++ w1 ++ [y] ++ (y :: us) ++ zs := by
      rw [show c - 1 - d = (wl ++ (w1 ++ [y])).length by simp; omega]
      simp
    rw [e2] at H2
    refine ok_mono (ih (d + 1) f w1 (y :: us) y m2 hw1 (by simp; omega) (by omega) (by omega) hwl hzl H2) ?_
    rintro r ⟨q1, q2, q3⟩
    refine ⟨q1, ?_, (S2.trans q3).mono (by omega) (by omega)⟩
    have e3 : wl ++ [t] ++ (w1 ++ y :: us) ++ zs = wl ++ [t] ++ (w1 ++ [y] ++ us) ++ zs := by simp
    rw [e3] at q2
    exact q2
theorem nE_move (hN : p < N) (hw : ws.length = p) (hc : (wl ++ ws ++ [t]).length ≤ 24) (H : HpT Ts F mem) (hj : Ts[j]? = some (a, nE b (wl ++ ws ++ [t]).length)) (hb : Ts[j + 1]? = some (b, cPf 24 (wl ++ ws ++ [t]))) : dOk (m_Needle_moveTipBehind xm N a (Int32.ofNat p) mem) (rV fun m => HpT ((Ts.set j (a, nE b (wl ++ [t] ++ ws).length)).set (j + 1) (b, cPf 24 (wl ++ [t] ++ ws))) F m ∧ St xm mem m 0 0) := by
  have hl : (wl ++ ws ++ [t]).length = wl.length + p + 1 := by simp; omega
  have hl2 : (wl ++ [t] ++ ws).length = wl.length + p + 1 := by simp; omega
  obtain ⟨zs, hz, H1⟩ := H.pinP (j + 1) hb
  unfold m_Needle_moveTipBehind
  refine t_rc H j hj ?_
  refine ok_eI (nE_at (p := 0) (xm := xm) (N := N) (by decide) hc H hj hb) ?_
  have hA : nAt (wl ++ ws ++ [t]) 0 = t := by
    unfold nAt
    rw [if_pos (by omega), hl, show wl.length + p + 1 - 1 - 0 = (wl ++ ws).length by simp; omega, List.getD_eq_getElem?_getD, List.getElem?_append_right (Nat.le_refl _), Nat.sub_self]
    rfl
  rw [hA]
  rw [hl] at hj
  have e : wl ++ ws ++ [t] ++ zs = wl ++ ws ++ [t] ++ [] ++ zs := by simp
  rw [e] at H1
  refine ok_mono (nX_move8 (t := t) (p := p) (by omega) hj (len_of hb) p 0 N ws [] t mem hw rfl hN (by omega) rfl (by omega) H1) ?_
  rintro r ⟨q1, q2, q3⟩
  refine ⟨q1, ?_, q3⟩
  have e2 : wl ++ [t] ++ (ws ++ []) ++ zs = (wl ++ [t] ++ ws) ++ zs := by simp
  rw [e2] at q2
  refine nX_un (zs := zs) (len_of hb) hl2 (by omega) ?_
  rw [set_self hj]
  exact q2
theorem nE_copyFrom (hij : i + 2 ≤ j ∨ j + 2 ≤ i) {c0 : Nat} (hj : Ts[j]? = some (a, nE b c0)) (hb : Ts[j + 1]? = some (b, cPf 24 wl)) (H : HpT Ts F mem) (hi : Ts[i]? = some (a1, nE b1 vl.length)) (hb1 : Ts[i + 1]? = some (b1, cPf 24 vl)) : dOk (m_Needle_copyFrom xm N a a1 mem) (rV fun m => HpT ((Ts.set j (a, nE b vl.length)).set (j + 1) (b, cPf 24 vl)) F m ∧ St xm mem m 0 0) := by
  obtain ⟨zs, hz, H0⟩ := H.pinP (i + 1) hb1
  have i1 := set_ne (y := (b1, cX (vl ++ zs))) hi (show i + 1 ≠ i by omega)
  have i2 := set_at (y := (b1, cX (vl ++ zs))) hb1
  have j1 := set_ne (y := (b1, cX (vl ++ zs))) hj (show i + 1 ≠ j by omega)
  have j2 := set_ne (y := (b1, cX (vl ++ zs))) hb (show i + 1 ≠ j + 1 by omega)
  unfold m_Needle_copyFrom
  refine t_gE H0 i i1 rfl ?_
  refine t_pE H0 j j1 rfl rfl fun m1 H1 S1 => ?_
  have i1 := set_ne (y := (a, nE b vl.length)) i1 (show j ≠ i by omega)
  have i2 := set_ne (y := (a, nE b vl.length)) i2 (show j ≠ i + 1 by omega)
  have j1 := set_at (y := (a, nE b vl.length)) j1
  have j2 := set_ne (y := (a, nE b vl.length)) j2 (show j ≠ j + 1 by omega)
  have H1 : HpT ((Ts.set (i + 1) (b1, cX (vl ++ zs))).set j (a, nE b vl.length)) F m1 := H1
  refine t_gR H1 i i1 rfl ?_
  refine t_gR H1 j j1 rfl ?_
  refine t_gR H1 j j1 rfl ?_
  obtain ⟨z2, hz2, H2⟩ := H1.pinP (j + 1) j2
  have H2 := H2.wk (len_of j2) (t' := cA 24) (fun e he => ⟨wl ++ z2, by rw [List.length_append]; exact hz2, he⟩)
  have i1' := set_ne (y := (b, cA 24)) i1 (show j + 1 ≠ i by omega)
  have i2' := set_ne (y := (b, cA 24)) i2 (show j + 1 ≠ i + 1 by omega)
  have j2' := set_at (y := (b, cA 24)) j2
  refine t_len H2 (j + 1) j2' ?_
  refine t_gR H2 i i1' rfl ?_
  refine t_lenX H2 (i + 1) i2' ?_
  refine ok_eI m_min ?_
  have e24 : (vl ++ zs).length = 24 := by rw [List.length_append]; exact hz
  rw [e24]
  refine t_cpyX (n := 24) (by decide) H2 (i + 1) (j + 1) i2' j2' e24 fun m3 H3 S3 => ?_
  refine ok_V ⟨?_, S1.trans S3⟩
  rw [List.set_set] at H3
  have H4 := H3.unP (n := 24) (len_of j2) hz
  -- the source's cells are told as before
  rw [List.set_comm _ _ (show j ≠ j + 1 by omega), List.set_comm _ _ (show i + 1 ≠ j + 1 by omega), List.set_comm _ _ (show i + 1 ≠ j by omega)] at H4
  have H5 := H4.unP (n := 24) (by simpa using len_of hb1) hz
  have e5 : ((Ts.set (j + 1) (b, cPf 24 vl)).set j (a, nE b vl.length)).set (i + 1) (b1, cPf 24 vl) = (Ts.set j (a, nE b vl.length)).set (j + 1) (b, cPf 24 vl) := by
    rw [List.set_comm _ _ (show j + 1 ≠ j by omega)]
    exact set_self (set_ne (set_ne hb1 (by omega)) (by omega))
  rw [e5] at H5
  exact H5
theorem swap_step {us ys : List Int32} {d : Nat} (hu : us.length = 24) (hy : ys.length = 24) (hd : d < 24) : (us.take d ++ ys.drop d).set d (us.getD d 0) = us.take (d + 1) ++ ys.drop (d + 1) := by
  rw [List.set_append_right _ _ (by rw [List.length_take]; omega), List.length_take, show d - min d us.length = 0 by omega, List.drop_eq_getElem_cons (by omega), List.set_cons_zero, List.take_succ_eq_append_getElem (show d < us.length by omega), List.getD_eq_getElem?_getD, List.getElem?_eq_getElem (show d < us.length by omega), List.append_assoc]
  rfl
theorem nX_swap20 {us ys : List Int32} (hij : i + 2 ≤ j ∨ j + 2 ≤ i) {c c1 : Nat} (hu : us.length = 24) (hy : ys.length = 24) (hj : Ts[j]? = some (a, nE b c)) (hbl : j + 1 < Ts.length) (hi : Ts[i]? = some (a1, nE b1 c1)) (hbl1 : i + 1 < Ts.length) : ∀ (k d f : Nat) (mem : kM), d + k = 24 → k < f → HpT ((Ts.set (j + 1) (b, cX (us.take d ++ ys.drop d))).set (i + 1) (b1, cX (ys.take d ++ us.drop d))) F mem → dOk (m_Needle_swapWith_20 xm N f a a1 (Int32.ofNat d) mem) (rV fun m => HpT ((Ts.set (j + 1) (b, cX us)).set (i + 1) (b1, cX ys)) F m ∧ St xm mem m 0 0) := by
  have gj : ∀ xs zs, ((Ts.set (j + 1) (b, cX xs)).set (i + 1) (b1, cX zs))[j]? = some (a, nE b c) := fun xs zs => set_ne (set_ne hj (by omega)) (by omega)
  have gi : ∀ xs zs, ((Ts.set (j + 1) (b, cX xs)).set (i + 1) (b1, cX zs))[i]? = some (a1, nE b1 c1) := fun xs zs => set_ne (set_ne hi (by omega)) (by omega)
  have gb : ∀ xs zs, ((Ts.set (j + 1) (b, cX xs)).set (i + 1) (b1, cX zs))[j + 1]? = some (b, cX xs) := fun xs zs => set_ne (List.getElem?_set_self hbl) (by omega)
  have gb1 : ∀ xs zs, ((Ts.set (j + 1) (b, cX xs)).set (i + 1) (b1, cX zs))[i + 1]? = some (b1, cX zs) := fun xs zs => List.getElem?_set_self (by simpa using hbl1)
  intro k
  induction k with
  | zero =>
    intro d f mem hd hf H
    obtain ⟨f, rfl⟩ : ∃ f', f = f' + 1 := ⟨f - 1, by omega⟩
    have hd : d = 24 := by omega
    subst hd
    rw [List.take_of_length_le (by omega), List.take_of_length_le (by omega), List.drop_of_length_le (by omega), List.drop_of_length_le (by omega), List.append_nil, List.append_nil] at H
    rw [m_Needle_swapWith_20]
    refine t_gR H j (gj _ _) rfl ?_
    refine t_lenX H (j + 1) (gb _ _) ?_
    rw [hu, if_neg (show ¬ (Int32.ofNat 24 < Int32.ofNat 24) by decide)]
    exact ok_V ⟨H, St.refl⟩
  | succ k ih =>
    intro d f mem hd hf H
    obtain ⟨f, rfl⟩ : ∃ f', f = f' + 1 := ⟨f - 1, by omega⟩
    have l1 : (us.take d ++ ys.drop d).length = 24 := by simp; omega
    have l2 : (ys.take d ++ us.drop d).length = 24 := by simp; omega
    have v1 : (us.take d ++ ys.drop d).getD d 0 = ys.getD d 0 := by
      rw [List.getD_eq_getElem?_getD, List.getElem?_append_right (by rw [List.length_take]; omega), List.length_take, show d - min d us.length = 0 by omega, List.getElem?_drop, Nat.add_zero, List.getD_eq_getElem?_getD]
    have v2 : (ys.take d ++ us.drop d).getD d 0 = us.getD d 0 := by
      rw [List.getD_eq_getElem?_getD, List.getElem?_append_right (by rw [List.length_take]; omega), List.length_take, show d - min d ys.length = 0 by omega, List.getElem?_drop, Nat.add_zero, List.getD_eq_getElem?_getD]
    rw [m_Needle_swapWith_20]
    refine t_gR H j (gj _ _) rfl ?_
    refine t_lenX H (j + 1) (gb _ _) ?_
    rw [l1, if_pos ((i_lt (by omega) (by decide)).mpr (by omega))]
    refine t_gR H i (gi _ _) rfl ?_
    refine t_lenX H (i + 1) (gb1 _ _) ?_
    rw [l2, if_pos ((i_lt (by omega) (by decide)).mpr (by omega))]
    refine t_gR H j (gj _ _) rfl ?_
    refine t_iLn H (j + 1) (gb _ _) (by omega) (by omega) ?_
    rw [v1]
    refine t_gR H j (gj _ _) rfl ?_
    refine t_gR H i (gi _ _) rfl ?_
    refine t_iLn H (i + 1) (gb1 _ _) (by omega) (by omega) ?_
    rw [v2]
    refine t_iSn H (j + 1) (gb _ _) (by omega) (by omega) fun m1 H1 S1 => ?_
    rw [swap_step hu hy (by omega), List.set_comm _ _ (show i + 1 ≠ j + 1 by omega), List.set_set] at H1
    refine t_gR H1 i (gi _ _) rfl ?_
    refine t_iSn H1 (i + 1) (gb1 _ _) (by omega) (by omega) fun m2 H2 S2 => ?_
    rw [swap_step hy hu (by omega), List.set_set] at H2
    rw [i_add1]
    refine ok_mono (ih (d + 1) f m2 (by omega) (by omega) H2) ?_
    rintro w ⟨q1, q2, q3⟩
    exact ⟨q1, q2, (S1.trans (S2.trans q3)).mono (by omega) (by omega)⟩
theorem nE_swap (hij : i + 2 ≤ j ∨ j + 2 ≤ i) (hN : 25 ≤ N) (H : HpT Ts F mem) (hj : Ts[j]? = some (a, nE b vl.length)) (hb : Ts[j + 1]? = some (b, cPf 24 vl)) (hi : Ts[i]? = some (a1, nE b1 vr.length)) (hb1 : Ts[i + 1]? = some (b1, cPf 24 vr)) : dOk (m_Needle_swapWith xm N a a1 mem) (rV fun m => HpT ((((Ts.set j (a, nE b vr.length)).set (j + 1) (b, cPf 24 vr)).set i (a1, nE b1 vl.length)).set (i + 1) (b1, cPf 24 vl)) F m ∧ St xm mem m 0 0) := by
  unfold m_Needle_swapWith
  refine t_gE H j hj rfl ?_
  refine t_gE H i hi rfl ?_
  refine t_pE H j hj rfl rfl fun m1 H1 S1 => ?_
  have H1 : HpT (Ts.set j (a, nE b vr.length)) F m1 := H1
  refine t_pE H1 i (set_ne hi (by omega)) rfl rfl fun m2 H2 S2 => ?_
  have H2 : HpT ((Ts.set j (a, nE b vr.length)).set i (a1, nE b1 vl.length)) F m2 := H2
  have b1' : ((Ts.set j (a, nE b vr.length)).set i (a1, nE b1 vl.length))[j + 1]? = some (b, cPf 24 vl) := set_ne (set_ne hb (by omega)) (by omega)
  obtain ⟨z1, hz1, H3⟩ := H2.pinP (j + 1) b1'
  have b2' : (((Ts.set j (a, nE b vr.length)).set i (a1, nE b1 vl.length)).set (j + 1) (b, cX (vl ++ z1)))[i + 1]? = some (b1, cPf 24 vr) := set_ne (set_ne (set_ne hb1 (by omega)) (by omega)) (by omega)
  obtain ⟨z2, hz2, H4⟩ := H3.pinP (i + 1) b2'
  have l1 : (vl ++ z1).length = 24 := by simp; omega
  have l2 : (vr ++ z2).length = 24 := by simp; omega
  refine ok_mono (nX_swap20 (Ts := (Ts.set j (a, nE b vr.length)).set i (a1, nE b1 vl.length)) (us := vr ++ z2) (ys := vl ++ z1) hij l2 l1 (set_ne (set_at hj) (by omega)) (len_of b1') (set_at (set_ne hi (by omega))) (by simpa using len_of hb1) 24 0 N m2 (by omega) (by omega) H4) ?_
  rintro w ⟨q1, q2, q3⟩
  refine ⟨q1, ?_, (S1.trans (S2.trans q3)).mono (by omega) (by omega)⟩
  have q4 := q2.unP (n := 24) (by simpa using len_of hb1) hz1
  rw [List.set_comm _ _ (show j + 1 ≠ i + 1 by omega)] at q4
  have q5 := q4.unP (n := 24) (by simpa using len_of hb) hz2
  have e : (((Ts.set j (a, nE b vr.length)).set i (a1, nE b1 vl.length)).set (i + 1) (b1, cPf 24 vl)).set (j + 1) (b, cPf 24 vr) = (((Ts.set j (a, nE b vr.length)).set (j + 1) (b, cPf 24 vr)).set i (a1, nE b1 vl.length)).set (i + 1) (b1, cPf 24 vl) := by
    rw [List.set_comm _ _ (show i + 1 ≠ j + 1 by omega), List.set_comm _ _ (show i ≠ j + 1 by omega)]
  rw [e] at q5
  exact q5
/-- whether a needle holds a loop -/
theorem nE_holds2 (hc : vl.length ≤ 24) (H : HpT Ts F mem) (hj : Ts[j]? = some (a, nE b vl.length)) (hb : Ts[j + 1]? = some (b, cPf 24 vl)) : ∀ (k d f : Nat), d + k = vl.length → k < f → (∀ i, i < d → nAt vl i ≠ x) → m_Needle_holds_2 xm N f a x (Int32.ofNat d) mem = some (.inl (some (.int (if x ∈ vl then 1 else 0))), mem) := by
  intro k
  induction k with
  | zero =>
    intro d f hd hf hn
    obtain ⟨f, rfl⟩ : ∃ f', f = f' + 1 := ⟨f - 1, by omega⟩
    refine ok_eq ?_
    rw [m_Needle_holds_2]
    refine t_gE H j hj rfl ?_
    rw [if_neg (fun z => by have := (i_lt (by omega) (by omega)).mp z; omega), if_neg]
    · exact ok_me
    · intro hx
      obtain ⟨q, hq⟩ := List.mem_iff_getElem?.mp hx
      have hql := len_of hq
      refine hn (vl.length - 1 - q) (by omega) ?_
      unfold nAt
      rw [if_pos (by omega), show vl.length - 1 - (vl.length - 1 - q) = q by omega, List.getD_eq_getElem?_getD, hq]
      rfl
  | succ k ih =>
    intro d f hd hf hn
    obtain ⟨f, rfl⟩ : ∃ f', f = f' + 1 := ⟨f - 1, by omega⟩
    refine ok_eq ?_
    rw [m_Needle_holds_2]
    refine t_gE H j hj rfl ?_
    rw [if_pos ((i_lt (by omega) (by omega)).mpr (by omega))]
    refine t_rc H j hj ?_
    refine ok_eI (nE_at (p := d) (by omega) hc H hj hb) ?_
    refine ok_if (fun e => ?_) (fun e => ?_)
    · have hx : x ∈ vl := by
        rw [← e]
        unfold nAt
        rw [if_pos (by omega), List.getD_eq_getElem?_getD, List.getElem?_eq_getElem (show vl.length - 1 - d < vl.length by omega)]
        exact List.getElem_mem _
      rw [if_pos hx]
      exact ok_me
    · rw [i_add1]
      rw [ih (d + 1) f (by omega) (by omega) (fun i hi => by
        by_cases g : i = d
        · rw [g]; exact e
        · exact hn i (by omega))]
      exact ok_me
theorem nE_holds (hN : 26 ≤ N) (hc : vl.length ≤ 24) (H : HpT Ts F mem) (hj : Ts[j]? = some (a, nE b vl.length)) (hb : Ts[j + 1]? = some (b, cPf 24 vl)) : m_Needle_holds xm N a x mem = some (.inl (some (.int (if x ∈ vl then 1 else 0))), mem) := by
  unfold m_Needle_holds
  exact nE_holds2 hc H hj hb vl.length 0 N (by omega) (by omega) (fun i hi => absurd hi (Nat.not_lt_zero _))
end EC
