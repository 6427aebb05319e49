/-! ===== new objects: memory that grows at its end ===== -/
section KZS
variable {xm : Nat → Option kE} {m X R B : kM} {N a i k ci : Nat} {fs : List Value} {w : Value} {K : kM → dRes} {KN : kM → Nat → dRes} {e : kE}
theorem ap_look (hX : X[i]? = some e) (ha : a = 1000 + m.length + i) : kLook xm (m ++ X) a = some e := by
  subst ha
  rw [kLook_hi (by omega), show 1000 + m.length + i - 1000 = m.length + i by omega, List.getElem?_append_right (by omega), Nat.add_sub_cancel_left]
  exact hX
theorem ap_set (hi : a = 1000 + m.length + i) : (m ++ X).set (a - 1000) e = m ++ X.set i e := by
  subst hi
  rw [show 1000 + m.length + i - 1000 = m.length + i by omega, List.set_append_right _ _ (by omega), Nat.add_sub_cancel_left]
theorem ap_p (hX : X[i]? = some (.inl (ci, fs))) (hk : Nat.ble (k + 1) fs.length = true) (ha : a = 1000 + m.length + i) : dP xm (m ++ X) a ci k w K = K (m ++ X.set i (.inl (ci, fs.set k w))) := by
  unfold dP
  simp only [ap_look (xm := xm) hX ha]
  rw [if_pos ⟨by trivial, by omega, Nat.le_of_ble_eq_true hk⟩, ap_set ha]
/-- a field of the first of the new objects -/
theorem ap_p0 (hk : Nat.ble (k + 1) fs.length = true) (ha : a = 1000 + m.length) : dP xm (m ++ ((.inl (ci, fs) :: R) ++ B)) a ci k w K = K (m ++ (.inl (ci, fs.set k w) :: (R ++ B))) := ap_p (i := 0) rfl hk ha
theorem ap_n : dN (m ++ X) e KN = KN (m ++ (X ++ [e])) (1000 + m.length + X.length) := by
  unfold dN kNew
  rw [List.append_assoc, List.length_append, Nat.add_assoc]
theorem ap_nI {t n : Nat} (hn : n ≤ 16777216) : dNI t (m ++ X) (Int32.ofNat n) KN = KN (m ++ (X ++ [.inr (.inl (t, List.replicate n 0))])) (1000 + m.length + X.length) := by
  unfold dNI kNew
  have e0 := i_nat (show n < 2 ^ 31 by omega)
  rw [if_pos ⟨Int32.not_lt.mp (i_nn (show n < 2 ^ 31 by omega)), by rw [e0]; exact hn⟩, e0, List.append_assoc, List.length_append, Nat.add_assoc]
theorem ap_nA {t n : Nat} (hn : n ≤ 16777216) : dNA t (m ++ X) (Int32.ofNat n) KN = KN (m ++ (X ++ [.inr (.inr (t, List.replicate n none))])) (1000 + m.length + X.length) := by
  unfold dNA kNew
  have e0 := i_nat (show n < 2 ^ 31 by omega)
  rw [if_pos ⟨Int32.not_lt.mp (i_nn (show n < 2 ^ 31 by omega)), by rw [e0]; exact hn⟩, e0, List.append_assoc, List.length_append, Nat.add_assoc]
theorem ap_gI {K : Int32 → dRes} {v : Int32} (hX : X[i]? = some (.inl (ci, fs))) (hk : fs[k]? = some (.int v)) (ha : a = 1000 + m.length + i) : dGI xm (m ++ X) a ci k K = K v := by
  unfold dGI dG
  simp only [ap_look (xm := xm) hX ha, hk, if_true]
theorem ap_gR {K : Nat → dRes} {v : Nat} (hX : X[i]? = some (.inl (ci, fs))) (hk : fs[k]? = some (.ref v)) (ha : a = 1000 + m.length + i) : dGR xm (m ++ X) a ci k K = K v := by
  unfold dGR dG
  simp only [ap_look (xm := xm) hX ha, hk, if_true]
theorem ap_lenQ {K : Int32 → dRes} {t : Nat} {qs : List (Option Nat)} (hX : X[i]? = some (.inr (.inr (t, qs)))) (ht : t = 2 ∨ t = 3) (ha : a = 1000 + m.length + i) : dLen xm (m ++ X) a K = K (Int32.ofNat qs.length) := by
  unfold dLen
  simp only [ap_look (xm := xm) hX ha]
  rw [if_pos ht]
theorem ap_aS {t : Nat} {qs : List (Option Nat)} {j : Int32} {v : Option Nat} (hX : X[i]? = some (.inr (.inr (t, qs)))) (ht : t = 2 ∨ t = 3) (hj : kInB j qs.length = true) (hv : kStOk xm (m ++ X) t v = true) (ha : a = 1000 + m.length + i) : dAS xm (m ++ X) a j v K = K (m ++ X.set i (.inr (.inr (t, qs.set j.toNatClampNeg v)))) := by
  unfold dAS
  simp only [ap_look (xm := xm) hX ha]
  rw [if_pos ⟨ht, hj, by omega, hv⟩, ap_set ha]
theorem cv_eq {Y : dRes} {m1 : kM} (h : Y = some (.inl none, m1)) : dCV Y K = K m1 := by rw [h]; rfl
theorem ci_eq {Y : dRes} {m1 : kM} {v : Int32} {K : Int32 → kM → dRes} (h : Y = some (.inl (some (.int v)), m1)) : dCI Y K = K v m1 := by rw [h]; rfl
/-- a constructor's contract, at the end of any memory -/
def cNew (f : Nat → kM → dRes) (o : kE) (M : Nat → kM) : Prop := ∀ m : kM, f (1000 + m.length) (m ++ [o]) = some (.inl none, m ++ M (1000 + m.length))
theorem cNew.at {f : Nat → kM → dRes} {o : kE} {M : Nat → kM} (h : cNew f o M) (ha : a = 1000 + m.length + X.length) : f a (m ++ (X ++ [o])) = some (.inl none, m ++ (X ++ M a)) := by
  have h1 := h (m ++ X)
  rw [List.append_assoc, List.append_assoc, List.length_append, ← Nat.add_assoc, ← ha] at h1
  exact h1
def oNd : kE := .inl (7, [.null, .int 0])
def mNd (a : Nat) : kM := [.inl (7, [.ref (a + 1), .int 0]), kAr (List.replicate 24 0)]
theorem nw_Nd : cNew (m_Needle_new xm N) oNd mNd := by
  intro m
  unfold m_Needle_new
  refine (ap_nI (n := 24) (X := [oNd]) (by decide)).trans ?_
  refine (ap_p0 (R := []) rfl rfl).trans ?_
  rfl
def oTb : kE := .inl (8, [.int 0, .int 0, .null])
def mTb (f mr : Int32) (n a : Nat) : kM := [.inl (8, [.int f, .int mr, .ref (a + 1)]), kAr (List.replicate n 0)]
theorem nw_Tb {f r mr : Int32} {n : Nat} (hn : n ≤ 16777216) (h1 : (if (1 : Int32) < f then f else 1) = f) (h2 : (if (0 : Int32) < mr then mr else 0) = mr) (h3 : (if (0 : Int32) < f * r then f * r else 0) = Int32.ofNat n) : cNew (fun a => m_Table_new xm N a f r mr) oTb (mTb f mr n) := by
  intro m
  unfold m_Table_new
  refine (ci_eq m_max).trans ?_
  rw [h1]
  refine (ap_p (X := [oTb]) (i := 0) rfl rfl rfl).trans ?_
  refine (ci_eq m_max).trans ?_
  rw [h2]
  refine (ap_p (i := 0) rfl rfl rfl).trans ?_
  refine (ap_gI (i := 0) rfl rfl rfl).trans ?_
  refine (ci_eq m_max).trans ?_
  rw [h3]
  refine (ap_nI hn).trans ?_
  refine (ap_p (i := 0) rfl rfl rfl).trans ?_
  rfl
def oBl : kE := .inl (5, [.null, .int 0, .int 0])
def mBl (a : Nat) : kM := [.inl (5, [.ref (a + 1), .int 0, .int (-1)]), kAr (List.replicate 4 0)]
theorem nw_Bl : cNew (m_Balls_new xm N) oBl mBl := by
  intro m
  unfold m_Balls_new
  refine (ap_nI (n := 4) (X := [oBl]) (by decide)).trans ?_
  refine (ap_p (i := 0) rfl rfl rfl).trans ?_
  refine (ap_p (i := 0) rfl rfl rfl).trans ?_
  rfl
def oWk : kE := .inl (10, [.null, .null, .null, .int 0, .int 0, .int 0, .int 0, .int 0, .int 0, .int 0])
def mWk (a : Nat) : kM := .inl (10, [.ref (a + 1), .ref (a + 3), .ref (a + 5), .int 0, .int 0, .int 0, .int 0, .int 0, .int 0, .int 0]) :: (mNd (a + 1) ++ (mNd (a + 3) ++ mTb 4 9 36 (a + 5)))
theorem nw_Wk : cNew (m_Work_new xm N) oWk mWk := by
  intro m
  unfold m_Work_new
  refine (ap_n (X := [oWk])).trans ?_
  refine (cv_eq (nw_Nd.at rfl)).trans ?_
  refine (ap_p0 (R := []) rfl rfl).trans ?_
  refine ap_n.trans ?_
  refine (cv_eq (nw_Nd.at rfl)).trans ?_
  refine (ap_p0 rfl rfl).trans ?_
  refine ap_n.trans ?_
  refine (cv_eq ((nw_Tb (f := 4) (r := 9) (mr := 9) (n := 36) (by decide) (by decide) (by decide) (by decide)).at rfl)).trans ?_
  refine (ap_p0 rfl rfl).trans ?_
  rfl
def hW (a : Nat) : Nat → kM
  | 0 => []
  | k + 1 => hW a k ++ mWk (a + 7 * k)
def hQf (a k j : Nat) : Option Nat := if j < k then some (a + 4 + 7 * j) else none
def hQ (a k : Nat) : List (Option Nat) := (List.range 12).map (hQf a k)
def oHi : kE := .inl (6, [.null, .null, .null, .int 0, .int 0])
def hH (a : Nat) : kE := .inl (6, [.ref (a + 1), .ref (a + 2), .ref (a + 3), .int 0, .int 0])
def z12 : kE := kAr (List.replicate 12 0)
def mHi (a : Nat) : kM := [hH a, .inr (.inr (3, hQ a 12)), z12, z12] ++ hW (a + 4) 12
theorem hW_len : ∀ (a k : Nat), (hW a k).length = 7 * k := by
  intro a k
  induction k with
  | zero => rfl
  | succ k ih =>
    rw [hW, List.length_append, ih]
    rfl
theorem hQ_set {a k : Nat} (hk : k < 12) : (hQ a k).set k (some (a + 4 + 7 * k)) = hQ a (k + 1) := by
  unfold hQ
  apply List.ext_getElem?
  intro j
  rw [List.getElem?_set]
  by_cases g : k = j
  · subst g
    rw [if_pos rfl, if_pos (by simpa using hk), List.getElem?_map, List.getElem?_range hk]
    simp [hQf]
  · rw [if_neg g, List.getElem?_map, List.getElem?_map]
    cases h : (List.range 12)[j]? with
    | none => rfl
    | some v =>
      have hv : v = j := by
        rw [List.getElem?_eq_some_iff] at h
        obtain ⟨h1, h2⟩ := h
        rw [List.getElem_range] at h2
        exact h2.symm
      subst hv
      simp only [Option.map_some, hQf]
      congr 1
      by_cases g2 : v < k
      · rw [if_pos g2, if_pos (by omega)]
      · rw [if_neg g2, if_neg (by omega)]
theorem nw_hist31 : ∀ (j k f : Nat), k + j = 12 → j < f → m_History_new_31 xm N f (1000 + m.length) (Int32.ofNat k) (m ++ ([hH (1000 + m.length), .inr (.inr (3, hQ (1000 + m.length) k)), z12, z12] ++ hW (1000 + m.length + 4) k)) = some (.inl none, m ++ mHi (1000 + m.length)) := by
  intro j
  induction j with
  | zero =>
    intro k f hk hf
    obtain ⟨f, rfl⟩ : ∃ f', f = f' + 1 := ⟨f - 1, by omega⟩
    have : k = 12 := by omega
    subst this
    rw [m_History_new_31]
    refine (ap_gR (i := 0) rfl rfl rfl).trans ?_
    refine (ap_lenQ (i := 1) rfl (by decide) rfl).trans ?_
    have e : (hQ (1000 + m.length) 12).length = 12 := by unfold hQ; simp
    rw [e, if_neg (show ¬ (Int32.ofNat 12 < Int32.ofNat 12) by decide)]
    rfl
  | succ j ih =>
    intro k f hk hf
    obtain ⟨f, rfl⟩ : ∃ f', f = f' + 1 := ⟨f - 1, by omega⟩
    rw [m_History_new_31]
    refine (ap_gR (i := 0) rfl rfl rfl).trans ?_
    refine (ap_lenQ (i := 1) rfl (by decide) rfl).trans ?_
    have e : (hQ (1000 + m.length) k).length = 12 := by unfold hQ; simp
    rw [e, if_pos ((i_lt (by omega) (by decide)).mpr (by omega))]
    refine (ap_gR (i := 0) rfl rfl rfl).trans ?_
    refine ap_n.trans ?_
    refine (cv_eq (nw_Wk.at rfl)).trans ?_
    have hp : 1000 + m.length + ([hH (1000 + m.length), .inr (.inr (3, hQ (1000 + m.length) k)), z12, z12] ++ hW (1000 + m.length + 4) k).length = 1000 + m.length + 4 + 7 * k := by
      rw [List.length_append, hW_len]
      show _ + (4 + 7 * k) = _
      omega
    rw [hp]
    have hv : kStOk xm (m ++ ([hH (1000 + m.length), .inr (.inr (3, hQ (1000 + m.length) k)), z12, z12] ++ hW (1000 + m.length + 4) k ++ mWk (1000 + m.length + 4 + 7 * k))) 3 (some (1000 + m.length + 4 + 7 * k)) = true := by
      have h1 : ([hH (1000 + m.length), .inr (.inr (3, hQ (1000 + m.length) k)), z12, z12] ++ hW (1000 + m.length + 4) k ++ mWk (1000 + m.length + 4 + 7 * k))[([hH (1000 + m.length), .inr (.inr (3, hQ (1000 + m.length) k)), z12, z12] ++ hW (1000 + m.length + 4) k).length]? = (mWk (1000 + m.length + 4 + 7 * k))[0]? := by
        rw [List.getElem?_append_right (Nat.le_refl _), Nat.sub_self]
      have h2 := ap_look (xm := xm) (m := m) (a := 1000 + m.length + 4 + 7 * k) h1 hp.symm
      unfold kStOk
      simp only [h2]
      rfl
    refine (ap_aS (i := 1) rfl (by decide) (by rw [e]; exact i_inB (by omega) (by decide)) hv rfl).trans ?_
    rw [i_nat (by omega), hQ_set (by omega), i_add1]
    refine Eq.trans ?_ (ih (k + 1) f (by omega) (by omega))
    congr 2
theorem nw_Hi (hN : 13 ≤ N) : cNew (m_History_new xm N) oHi mHi := by
  intro m
  unfold m_History_new
  refine (ap_nA (n := 12) (X := [oHi]) (by decide)).trans ?_
  refine (ap_p (i := 0) rfl rfl rfl).trans ?_
  refine (ap_nI (n := 12) (by decide)).trans ?_
  refine (ap_p (i := 0) rfl rfl rfl).trans ?_
  refine (ap_nI (n := 12) (by decide)).trans ?_
  refine (ap_p (i := 0) rfl rfl rfl).trans ?_
  exact nw_hist31 12 0 N rfl (by omega)
def oK : kE := .inl (11, [.null, .null, .null, .null, .null, .null, .null, .int 0])
def oTr : kE := .inl (9, [.int 0, .int 0, .int 0, .int 0, .int 0])
def mKr (a : Nat) : kM := mBl (a + 1) ++ mWk (a + 3) ++ mTb 6 19998 384 (a + 10) ++ mTb 5 6 30 (a + 12) ++ mTb 9 6 54 (a + 14) ++ mHi (a + 16) ++ [oTr]
def mK (a : Nat) : kM := .inl (11, [.ref (a + 1), .ref (a + 3), .ref (a + 10), .ref (a + 12), .ref (a + 14), .ref (a + 16), .ref (a + 104), .int 0]) :: mKr a
theorem nw_K (hN : 13 ≤ N) : cNew (m_K_new xm N) oK mK := by
  intro m
  unfold m_K_new
  refine (ap_n (X := [oK])).trans ?_
  refine (cv_eq (nw_Bl.at rfl)).trans ?_
  refine (ap_p0 (R := []) rfl rfl).trans ?_
  refine ap_n.trans ?_
  refine (cv_eq (nw_Wk.at rfl)).trans ?_
  refine (ap_p0 rfl rfl).trans ?_
  refine ap_n.trans ?_
  refine (cv_eq ((nw_Tb (f := 6) (r := 64) (mr := 19998) (n := 384) (by decide) (by decide) (by decide) (by decide)).at rfl)).trans ?_
  refine (ap_p0 rfl rfl).trans ?_
  refine ap_n.trans ?_
  refine (cv_eq ((nw_Tb (f := 5) (r := 6) (mr := 6) (n := 30) (by decide) (by decide) (by decide) (by decide)).at rfl)).trans ?_
  refine (ap_p0 rfl rfl).trans ?_
  refine ap_n.trans ?_
  refine (cv_eq ((nw_Tb (f := 9) (r := 6) (mr := 6) (n := 54) (by decide) (by decide) (by decide) (by decide)).at rfl)).trans ?_
  refine (ap_p0 rfl rfl).trans ?_
  refine ap_n.trans ?_
  refine (cv_eq ((nw_Hi hN).at rfl)).trans ?_
  refine (ap_p0 rfl rfl).trans ?_
  refine ap_n.trans ?_
  refine (cv_eq (show m_Trial_new xm N _ _ = some (.inl none, _) from rfl)).trans ?_
  refine (ap_p0 rfl rfl).trans ?_
  rfl
/-! the reference -/
def oAL : kE := .inl (4, [.int 0, .null, .int 0])
def mAL (_ : Nat) : kM := [.inl (4, [.int 0, .ref 1, .int 0])]
theorem nw_AL : cNew (m_AL_new xm N) oAL mAL := by
  intro m
  unfold m_AL_new m_ALs_new
  refine (cv_eq ((cv_eq (show m_AC_new xm N _ _ = some (.inl none, _) from rfl)).trans ((ap_p (X := [oAL]) (i := 0) rfl rfl rfl).trans rfl))).trans ?_
  refine (ap_p (i := 0) rfl rfl rfl).trans ?_
  rfl
def oMS : kE := .inl (14, [.null, .null, .null, .null, .int 0, .int 0, .int 0, .int 0, .int 0, .int 0, .int 0])
def mMS (a : Nat) : kM := .inl (14, [.ref (a + 1), .ref (a + 2), .ref (a + 3), .ref (a + 4), .int 0, .int 0, .int 0, .int 0, .int 0, .int 0, .int 0]) :: (mAL 0 ++ mAL 0 ++ mAL 0 ++ [kAr (List.replicate 4 0)])
theorem nw_MS : cNew (m_MS_new xm N) oMS mMS := by
  intro m
  unfold m_MS_new
  refine (ap_n (X := [oMS])).trans ?_
  refine (cv_eq (nw_AL.at rfl)).trans ?_
  refine (ap_p0 (R := []) rfl rfl).trans ?_
  refine ap_n.trans ?_
  refine (cv_eq (nw_AL.at rfl)).trans ?_
  refine (ap_p0 rfl rfl).trans ?_
  refine ap_n.trans ?_
  refine (cv_eq (nw_AL.at rfl)).trans ?_
  refine (ap_p0 rfl rfl).trans ?_
  refine (ap_nI (n := 4) (by decide)).trans ?_
  refine (ap_p0 rfl rfl).trans ?_
  rfl
def oM : kE := .inl (15, [.int 0, .null, .null, .null, .null, .null, .int 0, .int 0, .long 0])
def mM (a : Nat) : kM := .inl (15, [.int 0, .ref (a + 1), .ref (a + 2), .ref (a + 3), .ref (a + 4), .ref (a + 5), .int 0, .int (-1), .long 0]) :: (mAL 0 ++ mAL 0 ++ mAL 0 ++ mAL 0 ++ mMS (a + 5))
theorem nw_M : cNew (m_M_new xm N) oM mM := by
  intro m
  unfold m_M_new
  refine (ap_n (X := [oM])).trans ?_
  refine (cv_eq (nw_AL.at rfl)).trans ?_
  refine (ap_p0 (R := []) rfl rfl).trans ?_
  refine ap_n.trans ?_
  refine (cv_eq (nw_AL.at rfl)).trans ?_
  refine (ap_p0 rfl rfl).trans ?_
  refine ap_n.trans ?_
  refine (cv_eq (nw_AL.at rfl)).trans ?_
  refine (ap_p0 rfl rfl).trans ?_
  refine ap_n.trans ?_
  refine (cv_eq (nw_AL.at rfl)).trans ?_
  refine (ap_p0 rfl rfl).trans ?_
  refine ap_n.trans ?_
  refine (cv_eq (nw_MS.at rfl)).trans ?_
  refine (ap_p0 rfl rfl).trans ?_
  refine (ap_p (i := 0) rfl rfl rfl).trans ?_
  rfl
end KZS
