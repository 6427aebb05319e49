/-! ===== a property of its own: all is as it should be ===== -/
section PE
variable {xm : Nat → Option kE} {mem m0 : kM} {F G A : kSg} {S : kO × kM → Prop} {X : dRes} {N k n cap nb i j r t1 t2 t z B R p M s v : Nat} {c c2 : aC} {x y jo : Int32} {lo : List kLf} {bo pa vl vr ya ys vs : List Int32} {ps : List aS} {rs : List (List Int32)} {sc : Nat → Int32} {st : aS} {f : kLf}
/-! loop by loop -/
theorem so_96 {K : Nat → Nat → Int32 → Int32 → kM → dRes} {a2 a3 : Int32} {a0 a1 k h w : Nat} (k5 : k ≤ 5) (h1 : 1 ≤ h) (hh : h < 2 ^ 31) (w3 : w ≤ 3) (e1 : (k = 1 ∨ k = 2) ↔ 1 < h) (e2 : (k = 1 ∨ k = 2) ↔ w = 1) (e3 : 3 < k → 2 ≤ w) (g : dOk (K a0 a1 a2 (a3 + 1) mem) S) : dOk (m_law_isSo_96 xm N K a0 a1 a2 a3 (Int32.ofNat k) (Int32.ofNat w) (Int32.ofNat h) mem) S := by
  unfold m_law_isSo_96 m_law_isSo_108 m_law_isSo_113 m_law_isSo_124 m_law_isSo_139 m_law_isSo_144 m_law_isSo_155 m_law_isSo_172
  have big : 1 < h → (1 : Int32) < Int32.ofNat h := fun q => (i_lt (a := 1) (by decide) hh).mpr q
  rcases (show k = 0 ∨ k = 1 ∨ k = 2 ∨ k = 3 ∨ k = 4 ∨ k = 5 by omega) with rfl | rfl | rfl | rfl | rfl | rfl
  · have h0 : h = 1 := by
      have := (not_congr e1).mp (by omega)
      omega
    subst h0
    have hw : w ≠ 1 := (not_congr e2).mp (by omega)
    simp only [eq_false (show ¬ Int32.ofNat 0 = 1 by decide), eq_false (show ¬ Int32.ofNat 0 = 2 by decide), eq_false (show ¬ (1 : Int32) < Int32.ofNat 1 by decide), eq_false (show ¬ Int32.ofNat w = 1 from fun q => hw ((i_eq (b := 1) (by omega) (by decide)).mp q)), eq_false (show ¬ (3 : Int32) < Int32.ofNat 0 by decide), if_true, if_false]
    exact g
  · have h0 := big (e1.mp (Or.inl rfl))
    have hw : w = 1 := e2.mp (Or.inl rfl)
    subst hw
    rw [if_pos (show Int32.ofNat 1 = 1 from rfl), if_pos h0, if_pos rfl, if_neg (show ¬ (3 : Int32) < Int32.ofNat 1 by decide)]
    simp only [if_true]
    exact g
  · have h0 := big (e1.mp (Or.inr rfl))
    have hw : w = 1 := e2.mp (Or.inr rfl)
    subst hw
    rw [if_neg (show ¬ Int32.ofNat 2 = 1 by decide), if_pos (show Int32.ofNat 2 = 2 from rfl), if_pos h0, if_pos rfl, if_pos (show Int32.ofNat 1 = 1 from rfl), if_neg (show ¬ (3 : Int32) < Int32.ofNat 2 by decide)]
    simp only [if_true]
    exact g
  · have h0 : h = 1 := by
      have := (not_congr e1).mp (by omega)
      omega
    subst h0
    have hw : w ≠ 1 := (not_congr e2).mp (by omega)
    simp only [eq_false (show ¬ Int32.ofNat 3 = 1 by decide), eq_false (show ¬ Int32.ofNat 3 = 2 by decide), eq_false (show ¬ (1 : Int32) < Int32.ofNat 1 by decide), eq_false (show ¬ Int32.ofNat w = 1 from fun q => hw ((i_eq (b := 1) (by omega) (by decide)).mp q)), eq_false (show ¬ (3 : Int32) < Int32.ofNat 3 by decide), if_true, if_false]
    exact g
  · have h0 : h = 1 := by
      have := (not_congr e1).mp (by omega)
      omega
    subst h0
    have hw : w ≠ 1 := (not_congr e2).mp (by omega)
    have h2 := e3 (by decide)
    simp only [eq_false (show ¬ Int32.ofNat 4 = 1 by decide), eq_false (show ¬ Int32.ofNat 4 = 2 by decide), eq_false (show ¬ (1 : Int32) < Int32.ofNat 1 by decide), eq_false (show ¬ Int32.ofNat w = 1 from fun q => hw ((i_eq (b := 1) (by omega) (by decide)).mp q)), eq_true (show (3 : Int32) < Int32.ofNat 4 by decide), eq_false (show ¬ Int32.ofNat w < 2 from fun q => by have := (i_lt (b := 2) (by omega) (by decide)).mp q; omega), if_true, if_false]
    exact g
  · have h0 : h = 1 := by
      have := (not_congr e1).mp (by omega)
      omega
    subst h0
    have hw : w ≠ 1 := (not_congr e2).mp (by omega)
    have h2 := e3 (by decide)
    simp only [eq_false (show ¬ Int32.ofNat 5 = 1 by decide), eq_false (show ¬ Int32.ofNat 5 = 2 by decide), eq_false (show ¬ (1 : Int32) < Int32.ofNat 1 by decide), eq_false (show ¬ Int32.ofNat w = 1 from fun q => hw ((i_eq (b := 1) (by omega) (by decide)).mp q)), eq_true (show (3 : Int32) < Int32.ofNat 5 by decide), eq_false (show ¬ Int32.ofNat w < 2 from fun q => by have := (i_lt (b := 2) (by omega) (by decide)).mp q; omega), if_true, if_false]
    exact g
theorem so_13 (hN : 120 ≤ N) (Q : QC B R (nb, jo, lo, bo, pa, ps, (vl, vr, rs, ya, sc))) (hB : B ≤ 700) (hR : R ≤ 20000) (nx : ∀ m n', n' ≤ M → LwP xm (nb, jo, lo, bo, pa, ps, (vl, vr, rs, ya, sc)) ((p, .inr (.inl (0, (List.range 5).map (zCw vl vr rs bo lo.length)))) :: G) n' m → dOk (m_law_isSo_183 xm N N 1000 p 0 0 m) S) : ∀ (d i f n : Nat) (mem : kM), i + d = lo.length → d < f → n + 8 * d ≤ M → LwP xm (nb, jo, lo, bo, pa, ps, (vl, vr, rs, ya, sc)) ((p, .inr (.inl (0, (List.range 5).map (zCw vl vr rs bo i)))) :: G) n mem → dOk (m_law_isSo_13 xm N f 1000 p (Int32.ofNat lo.length) (Int32.ofNat i) mem) S := by
  intro d
  induction d with
  | zero =>
    intro i f n mem hd hf hn I
    obtain ⟨f, rfl⟩ : ∃ f', f = f' + 1 := ⟨f - 1, by omega⟩
    obtain ⟨T, h', I1⟩ := I.inv2
    obtain ⟨l1, l2⟩ := Q.len I1 hB
    have e : i = lo.length := by omega
    subst e
    rw [m_law_isSo_13, if_neg (fun q => Nat.lt_irrefl _ ((i_lt (by omega) (by omega)).mp q))]
    exact nx mem n (by omega) I
  | succ d ih =>
    intro i f n mem hd hf hn I
    obtain ⟨f, rfl⟩ : ∃ f', f = f' + 1 := ⟨f - 1, by omega⟩
    obtain ⟨T, h', I1⟩ := I.inv2
    obtain ⟨l1, l2⟩ := Q.len I1 hB
    have hi : i < lo.length := by omega
    have ha : aId lo.length (Int32.ofNat i) := ⟨i, rfl, hi⟩
    obtain ⟨q1, -, -, -, -, -, J⟩ := Q
    obtain ⟨k, h, w, ek, eh, ew, k5, h1, h2, w3, f1, f2, f3, f4⟩ := J.1 i lo[i] (List.getElem?_eq_getElem hi)
    obtain ⟨a, b, n0, r, g1, g2, g3, g4, g5, g6, g7, g8⟩ := J.now
    dsimp only at g2 g3 g7
    have en : n0 = lo.length := (i_eq (by omega) (by omega)).mp (g2.symm.trans I1.made)
    obtain ⟨q, eq, hq⟩ := g7 i lo[i] (by omega) (List.getElem?_eq_getElem hi)
    have ez : zLoop lo (Int32.ofNat i) = lo[i] := zLoop_at hi (by omega)
    rw [m_law_isSo_13, if_pos ((i_lt (by omega) (by omega)).mpr hi)]
    refine lp_ofLoop hN (by omega) (by omega) 5 (by decide) (Int32.ofNat (zW vl vr rs bo (Int32.ofNat i))) ha zWhere_n rfl I fun m I => ?_
    have w5 := zW_lt (vl := vl) (vr := vr) (rs := rs) (bo := bo) (x := Int32.ofNat i)
    have hin : kInB (Int32.ofNat (zW vl vr rs bo (Int32.ofNat i))) ((List.range 5).map (zCw vl vr rs bo i)).length = true := by
      rw [mapR_len]
      exact i_inB w5 (by decide)
    refine lp_iL I 0 rfl hin ?_
    rw [i_nat (show zW vl vr rs bo (Int32.ofNat i) < 2 ^ 31 by omega), mapR_get w5]
    refine lp_iS I 0 rfl hin fun m I => ?_
    have I2 : LwP xm (nb, jo, lo, bo, pa, ps, (vl, vr, rs, ya, sc)) ((p, .inr (.inl (0, (List.range 5).map (zCw vl vr rs bo (i + 1))))) :: G) (n + 1) m := by
      rw [i_nat (show zW vl vr rs bo (Int32.ofNat i) < 2 ^ 31 by omega), mapR_set, zCw_succ] at I
      exact I
    refine lp_ofLoop hN (by omega) (by omega) 0 (by decide) (Int32.ofNat k) ha (by rw [ez]; exact ek) rfl I2 fun m I => ?_
    refine lp_ofLoop hN (by omega) (by omega) 4 (by decide) (Int32.ofNat w) ha (by rw [ez]; exact ew) rfl I fun m I => ?_
    refine lp_ofLoop hN (by omega) (by omega) 3 (by decide) (Int32.ofNat h) ha (by rw [ez]; exact eh) rfl I fun m I => ?_
    rw [if_neg (i_nn (by omega)), if_neg (show ¬ (5 : Int32) < Int32.ofNat k from fun z => by have := (i_lt (a := 5) (by decide) (by omega)).mp z; omega)]
    refine lp_ofLoop hN (by omega) (by omega) 2 (by decide) (Int32.ofNat q) ha (by rw [ez]; exact eq) rfl I fun m I => ?_
    refine lp_many hN q1 6 (by decide) (Int32.ofNat r) g3 rfl I fun m I => ?_
    rw [if_neg (fun z => by have := (i_lt (by omega) (by omega)).mp z; omega)]
    have fin : dOk (m_law_isSo_96 xm N (fun a0 a1 a2 a3 mem => m_law_isSo_13 xm N f a0 a1 a2 a3 mem) 1000 p (Int32.ofNat lo.length) (Int32.ofNat i) (Int32.ofNat k) (Int32.ofNat w) (Int32.ofNat h) m) S := by
      refine so_96 k5 h1 (by omega) w3 f1 f2 f3 ?_
      rw [i_add1]
      exact ih (i + 1) f _ m (by omega) (by omega) (by omega) I
    refine ok_if (fun _ => fin) (fun w0 => ?_)
    have hk : k ≠ 0 ∧ k ≠ 3 := by
      by_cases g : k = 0 ∨ k = 3
      · rw [f4 g] at w0
        exact absurd rfl w0
      · omega
    rw [if_neg (i_ne0 (by omega) hk.1), if_neg (show ¬ Int32.ofNat k = 3 from fun z => hk.2 ((i_eq (b := 3) (by omega) (by decide)).mp z))]
    exact fin
/-! run by run -/
theorem so_183 (hN : 120 ≤ N) (Q : QC B R (nb, jo, lo, bo, pa, ps, (vl, vr, rs, ya, sc))) (hB : B ≤ 700) (nx : ∀ m n', n' ≤ M → LwP xm (nb, jo, lo, bo, pa, ps, (vl, vr, rs, ya, sc)) F n' m → dOk (m_law_isSo_269 xm N N 1000 p (Int32.ofNat (openL rs).length) 0 m) S) : ∀ (d k f n : Nat) (mem : kM), k + d = rs.length → d < f → n + 8 * d + 1 ≤ M → LwP xm (nb, jo, lo, bo, pa, ps, (vl, vr, rs, ya, sc)) F n mem → dOk (m_law_isSo_183 xm N f 1000 p (Int32.ofNat (openL (rs.take k)).length) (Int32.ofNat k) mem) S := by
  intro d
  induction d with
  | zero =>
    intro k f n mem hd hf hn I
    obtain ⟨f, rfl⟩ : ∃ f', f = f' + 1 := ⟨f - 1, by omega⟩
    have e : k = rs.length := by omega
    subst e
    rw [m_law_isSo_183, List.take_of_length_le (Nat.le_refl _)]
    refine lp_many hN Q.1 12 (by decide) (Int32.ofNat rs.length) rfl rfl I fun m I => ?_
    rw [if_neg (fun q => by rw [Int32.lt_iff_toInt_lt] at q; omega)]
    exact nx m _ (by omega) I
  | succ d ih =>
    intro k f n mem hd hf hn I
    obtain ⟨f, rfl⟩ : ∃ f', f = f' + 1 := ⟨f - 1, by omega⟩
    obtain ⟨T, h', I1⟩ := I.inv2
    obtain ⟨l1, l2⟩ := Q.len I1 hB
    have h9 : rs.length ≤ 9 := I1.sw.2.2.1
    have hk : k < rs.length := by omega
    obtain ⟨q1, -, -, -, -, -, J⟩ := Q
    have ez : rs.getD k [] = rs[k] := by rw [List.getD_eq_getElem?_getD, List.getElem?_eq_getElem hk]; rfl
    have hm : rs[k] ∈ rs := List.getElem_mem hk
    obtain ⟨a, b, n0, r, g1, g2, g3, g4, g5, g6, g7, g8⟩ := J.now
    obtain ⟨h4, d0, e0, ed, ee, h1, h2⟩ := g8 rs[k] hm
    have h01 := q1.1.2 rs[k] hm
    rw [m_law_isSo_183]
    refine lp_many hN q1 12 (by decide) (Int32.ofNat rs.length) rfl rfl I fun m I => ?_
    rw [if_pos ((i_lt (by omega) (by omega)).mpr hk)]
    refine lp_ofRun k 3 hk (by decide) (rs[k].getD 3 0) (by rw [ez]) rfl rfl I fun m I => ?_
    refine lp_ofRun k 2 hk (by decide) (Int32.ofNat e0) (by rw [ez]; exact ee) rfl rfl I fun m I => ?_
    rw [if_neg (i_nn (by omega))]
    refine lp_ofRun k 2 hk (by decide) (Int32.ofNat e0) (by rw [ez]; exact ee) rfl rfl I fun m I => ?_
    refine lp_ofRun k 1 hk (by decide) (Int32.ofNat d0) (by rw [ez]; exact ed) rfl rfl I fun m I => ?_
    rw [if_neg (fun z => by have := (i_lt (by omega) (by omega)).mp z; omega)]
    refine lp_ofRun k 3 hk (by decide) (rs[k].getD 3 0) (by rw [ez]) rfl rfl I fun m I => ?_
    have et : rs.take (k + 1) = rs.take k ++ [rs[k]] := by rw [List.take_succ, List.getElem?_eq_getElem hk]; rfl
    rcases h01 with h01 | h01
    · rw [h01, if_neg (by decide), Int32.add_zero]
      unfold m_law_isSo_260
      have e2 : (openL (rs.take (k + 1))).length = (openL (rs.take k)).length := by
        rw [et, openL_snoc, h01, if_neg (by decide), List.append_nil]
      rw [i_add1, ← e2]
      exact ih (k + 1) f _ m (by omega) (by omega) (by omega) I
    · rw [h01, if_pos rfl]
      have hv : rs[k].getD 0 0 ∈ openL rs := List.mem_map.mpr ⟨rs[k], List.mem_filter.mpr ⟨hm, decide_eq_true h01⟩, rfl⟩
      refine lp_ofRun k 0 hk (by decide) (rs[k].getD 0 0) (by rw [ez]) rfl rfl I fun m I => ?_
      refine lp_ofLoop hN (by omega) (by omega) 5 (by decide) 4 (I1.1.2.1.openId hv) ?_ rfl I fun m I => ?_
      · show zWhere vl vr rs bo (rs[k].getD 0 0) = 4
        rw [zWhere_n, (zW_iff I1 (by omega)).1.mpr hv]
        rfl
      · rw [if_pos rfl]
        unfold m_law_isSo_260
        have e2 : (openL (rs.take (k + 1))).length = (openL (rs.take k)).length + 1 := by
          rw [et, openL_snoc, h01, if_pos rfl, List.length_append]
          rfl
        rw [i_add1, i_add1, ← e2]
        exact ih (k + 1) f _ m (by omega) (by omega) (by omega) I
/-! texts -/
theorem q_strLen {v z : Nat} {ys : List Int32} (h0 : kLook xm mem v = some (.inl (0, [.ref z, .int 0, .int 0, .int 0]))) (h1 : kLook xm mem z = some (.inr (.inl (1, ys)))) (hl : ys.length ≤ 24) : m_Str_length xm N v mem = some (.inl (some (.int (Int32.ofNat ys.length))), mem) := by
  have hC : m_Str_coder xm N v mem = some (.inl (some (.int 0)), mem) := by
    refine ok_eq ?_
    unfold m_Str_coder
    rw [if_neg (by decide)]
    refine ok_gI h0 rfl ?_
    unfold dRt
    rw [if_pos (by decide)]
    exact ok_me
  have hs : ∀ n, n < 25 → Int32.ofNat n >>> ((0 : Int32) &&& 31) = Int32.ofNat n := by decide
  refine ok_eq ?_
  unfold m_Str_length
  refine ok_gR h0 rfl ?_
  refine ok_lenI h1 (by decide) ?_
  refine ok_rc h0 ?_
  refine ok_eI hC ?_
  rw [hs _ (by omega)]
  exact ok_me
theorem q_charAt {v z i : Nat} {ys : List Int32} (h0 : kLook xm mem v = some (.inl (0, [.ref z, .int 0, .int 0, .int 0]))) (h1 : kLook xm mem z = some (.inr (.inl (1, ys)))) (hi : i < ys.length) (hl : ys.length ≤ 24) (hs : aSg (ys.getD i 0)) : m_Str_charAt xm N v (Int32.ofNat i) mem = some (.inl (some (.int (ys.getD i 0))), mem) := by
  have hL : m_Str_isLatin1 xm N v mem = some (.inl (some (.int 1)), mem) := by
    refine ok_eq ?_
    unfold m_Str_isLatin1
    rw [if_neg (by decide)]
    refine ok_gI h0 rfl ?_
    rw [if_pos rfl]
    exact ok_me
  have hr : kRetI (some .char) (ys.getD i 0) = true := by
    rcases hs with e | e | e | e | e <;> rw [e] <;> decide
  have he : UInt32.toInt32 (Int32.toUInt32 (ys.getD i 0 &&& 255) % 65536) = ys.getD i 0 := by
    rcases hs with e | e | e | e | e <;> rw [e] <;> decide
  have hK : m_Str_checkIndex xm N (Int32.ofNat i) (Int32.ofNat ys.length) mem = some (.inl none, mem) := by
    refine ok_eq ?_
    unfold m_Str_checkIndex m_Pre_checkIndex
    rw [if_neg (i_nn (by omega)), if_pos ((i_lt (by omega) (by omega)).mpr hi)]
    exact ok_me
  have hC : m_Lat_charAt xm N z (Int32.ofNat i) mem = some (.inl (some (.int (ys.getD i 0))), mem) := by
    refine ok_eq ?_
    unfold m_Lat_charAt
    refine ok_lenI h1 (by decide) ?_
    refine ok_eV hK ?_
    refine ok_iL h1 (i_inB hi (by omega)) ?_
    rw [i_nat (show i < 2 ^ 31 by omega), he]
    unfold dRt
    rw [if_pos hr]
    exact ok_me
  refine ok_eq ?_
  unfold m_Str_charAt
  refine ok_rc h0 ?_
  refine ok_eI hL ?_
  rw [if_neg (by decide)]
  refine ok_gR h0 rfl ?_
  refine ok_eI hC ?_
  unfold dRt
  rw [if_pos hr]
  exact ok_me
theorem zSn_len (g : Nat → Int32) : ∀ k d, (zSn g k d).length = k := by
  intro k
  induction k with
  | zero => intro d; rfl
  | succ k ih =>
    intro d
    show (zSn g k (d + 1)).length + 1 = _
    rw [ih]
theorem zSn_get (g : Nat → Int32) : ∀ k d i, i < k → (zSn g k d).getD i 0 = g (d + i) := by
  intro k
  induction k with
  | zero => intro d i h; exact absurd h (Nat.not_lt_zero _)
  | succ k ih =>
    intro d i h
    cases i with
    | zero => rfl
    | succ i =>
      show (zSn g k (d + 1)).getD i 0 = _
      rw [ih (d + 1) i (by omega)]
      congr 1
      omega
theorem nAt_mem {i : Nat} (h : i < vs.length) : nAt vs i ∈ vs := by
  unfold nAt
  rw [if_pos h, List.getD_eq_getElem?_getD, List.getElem?_eq_getElem (show vs.length - 1 - i < vs.length by omega)]
  exact List.getElem_mem _
/-! side by side -/
theorem so_441 {K : Nat → Nat → Int32 → Int32 → Int32 → Nat → Int32 → kM → dRes} {a3 a4 a5 a9 g0 x : Int32} {a0 a1 a8 k : Nat} {f : kLf} (ek : f.1 = Int32.ofNat k) (k5 : k ≤ 5) (eg : g0 = if f.1 = 3 then 1 else 0) (g : dOk (K a0 a1 a3 a4 a5 a8 (a9 + 1) mem) S) : dOk (m_law_isSo_441 xm N K a0 a1 a3 a4 a5 a8 a9 (zSg f x) (Int32.ofNat k) g0 mem) S := by
  subst eg
  unfold m_law_isSo_441 m_law_isSo_453 m_law_isSo_467 m_law_isSo_481 m_law_isSo_486 zSg
  rw [ek]
  rcases (show k = 0 ∨ k = 1 ∨ k = 2 ∨ k = 3 ∨ k = 4 ∨ k = 5 by omega) with rfl | rfl | rfl | rfl | rfl | rfl
  · by_cases h : zSm f x = true
    · simp only [if_pos h]
      exact g
    · simp only [if_neg h]
      exact g
  · by_cases h : zSm f x = true
    · simp only [if_pos h]
      exact g
    · simp only [if_neg h]
      exact g
  · by_cases h : zSm f x = true
    · simp only [if_pos h]
      exact g
    · simp only [if_neg h]
      exact g
  · exact g
  · by_cases h : x = f.2.2.2.2.1
    · simp only [if_pos h]
      exact g
    · simp only [if_neg h]
      exact g
  · by_cases h : x = f.2.2.2.2.1
    · simp only [if_pos h]
      exact g
    · simp only [if_neg h]
      exact g
theorem so_374 {K : Nat → Nat → Int32 → Int32 → kM → dRes} {a3 a4 : Int32} {v z : Nat} (hN : 120 ≤ N) (Q : QC B R (nb, jo, lo, bo, pa, ps, (vl, vr, rs, ya, sc))) (hB : B ≤ 700) (hs : s = 0 ∧ x = 0 ∧ vs = vl ∨ s = 1 ∧ x = 1 ∧ vs = vr) (h4 : a4 = Int32.ofNat s) (nx : ∀ m n', n' ≤ M → LwP xm (nb, jo, lo, bo, pa, ps, (vl, vr, rs, ya, sc)) F n' m → dOk (K 1000 p a3 (a4 + 1) m) S) : ∀ (d i f n : Nat) (mem : kM), i + d = vs.length → d < f → n + 3 * d + 1 ≤ M → LwP xm (nb, jo, lo, bo, pa, ps, (vl, vr, rs, ya, sc)) ((v, .inl (0, [.ref z, .int 0, .int 0, .int 0])) :: (z, .inr (.inl (1, zSeen lo (sc 4) vs))) :: F) n mem → dOk (m_law_isSo_374 xm N K f 1000 p a3 a4 (Int32.ofNat vs.length) v (Int32.ofNat i) mem) S := by
  have hx : (if x = 0 then vl else vr) = vs := by
    rcases hs with ⟨-, rfl, rfl⟩ | ⟨-, rfl, rfl⟩
    · rfl
    · rfl
  have sel : ∀ (Y : Int32 → dRes), dOk (Y x) S → dOk (if a4 = 1 then Y 1 else Y 0) S := by
    intro Y h
    rcases hs with ⟨rfl, rfl, -⟩ | ⟨rfl, rfl, -⟩
    · rw [h4, if_neg (by decide)]
      exact h
    · rw [h4, if_pos (by decide)]
      exact h
  intro d
  induction d with
  | zero =>
    intro i f n mem hd hf hn I
    obtain ⟨f, rfl⟩ : ∃ f', f = f' + 1 := ⟨f - 1, by omega⟩
    have e : i = vs.length := by omega
    subst e
    rw [m_law_isSo_374, if_neg (fun q => by rw [Int32.lt_iff_toInt_lt] at q; omega)]
    refine ok_if (fun h24 => ?_) (fun _ => ?_)
    · refine sel (fun y => m_law_isSo_516 xm N K 1000 p a3 a4 (Int32.ofNat vs.length) 1000 y mem) ?_
      unfold m_law_isSo_516
      have l24 : vs.length ≤ 24 := by
        obtain ⟨T, h', I1⟩ := I.inv2
        rcases hs with ⟨-, -, rfl⟩ | ⟨-, -, rfl⟩
        · exact I1.sw.1
        · exact I1.sw.2.1
      refine lp_on vs.length ((i_lt (b := 24) (by omega) (by decide)).mp h24) (-1) ?_ rfl I fun m I => ?_
      · rw [hx]
        unfold nAt
        rw [if_neg (by omega)]
      · rw [if_pos rfl]
        unfold m_law_isSo_527
        exact nx m _ (by omega) I.drop1.drop1
    · unfold m_law_isSo_527
      exact nx mem _ (by omega) I.drop1.drop1
  | succ d ih =>
    intro i f n mem hd hf hn I
    obtain ⟨f, rfl⟩ : ∃ f', f = f' + 1 := ⟨f - 1, by omega⟩
    obtain ⟨T, h', I1⟩ := I.inv2
    obtain ⟨l1, l2⟩ := Q.len I1 hB
    have Q0 := Q
    obtain ⟨q1, -, -, -, -, -, J⟩ := Q0
    have hi : i < vs.length := by omega
    have l24 : vs.length ≤ 24 := by
      rcases hs with ⟨-, -, rfl⟩ | ⟨-, -, rfl⟩
      · exact I1.sw.1
      · exact I1.sw.2.1
    have hm := nAt_mem hi
    have hid : aId lo.length (nAt vs i) := by
      rcases hs with ⟨-, -, rfl⟩ | ⟨-, -, rfl⟩
      · exact I1.1.2.1.2.2.1 _ hm
      · exact I1.1.2.1.2.2.2.1 _ hm
    have hw : zW vl vr rs bo (nAt vs i) = s := by
      rcases hs with ⟨rfl, -, rfl⟩ | ⟨rfl, -, rfl⟩
      · exact (zW_iff I1 (by omega)).2.1.mpr hm
      · exact (zW_iff I1 (by omega)).2.2.1.mpr hm
    obtain ⟨j, ej, hj⟩ := hid
    obtain ⟨k, h, w, ek, eh, ew, k5, -⟩ := J.1 j lo[j] (List.getElem?_eq_getElem hj)
    have ez : zLoop lo (nAt vs i) = lo[j] := by rw [ej]; exact zLoop_at hj (by omega)
    rw [m_law_isSo_374, if_pos ((i_lt (by omega) (by omega)).mpr hi)]
    refine sel (fun y => m_law_isSo_393 xm N (fun a0 a1 a3 a4 a5 a8 a9 mem => m_law_isSo_374 xm N K f a0 a1 a3 a4 a5 a8 a9 mem) 1000 p a3 a4 (Int32.ofNat vs.length) v (Int32.ofNat i) 1000 y mem) ?_
    unfold m_law_isSo_393
    refine lp_on i (by omega) (nAt vs i) (by rw [hx]) rfl I fun m I => ?_
    have hl : (zSeen lo (sc 4) vs).length = vs.length := zSn_len _ _ _
    have hg : (zSeen lo (sc 4) vs).getD i 0 = zSg lo[j] (sc 4) := by
      unfold zSeen
      rw [zSn_get _ _ _ _ hi, Nat.zero_add, ez]
    refine ok_rc (I.look 0 rfl) ?_
    refine ok_eI (q_charAt (I.look 0 rfl) (I.look 1 rfl) (by rw [hl]; exact hi) (by rw [hl]; exact l24) (by rw [hg]; exact zSg_ok)) ?_
    rw [hg]
    refine lp_ofLoop hN (by omega) (by omega) 0 (by decide) (Int32.ofNat k) ⟨j, ej, hj⟩ (by rw [ez]; exact ek) rfl I fun m I => ?_
    refine lp_ofLoop hN (by omega) (by omega) 5 (by decide) a4 ⟨j, ej, hj⟩ ?_ rfl I fun m I => ?_
    · show zWhere vl vr rs bo (nAt vs i) = a4
      rw [zWhere_n, hw, h4]
    · rw [if_pos rfl]
      have fin : dOk (m_law_isSo_374 xm N K f 1000 p a3 a4 (Int32.ofNat vs.length) v (Int32.ofNat i + 1) m) S := by
        rw [i_add1]
        exact ih (i + 1) f _ m (by omega) (by omega) (by omega) I
      refine ok_if (fun g => ?_) (fun g => ?_)
      · exact so_441 ek k5 (by rw [ek, g]; rfl) fin
      · exact so_441 ek k5 (by rw [ek, if_neg g]) fin
theorem okF {x : UInt64} {K : UInt64 → dRes} (h : kFin64 x = true) (g : dOk (K x) S) : dOk (dF64 x K) S := by
  unfold dF64
  rw [if_pos h]
  exact g
/-- widths that are as they should be -/
def wChk (n d : Nat) : Bool := kFin64 (FP.dmul 4602678819172646912 (FP.i2d (Int32.ofNat n))) && !(decide (0 < Op.cmpValue (FP.dcmp (FP.f2d (wf (4 * n - d))) (FP.dmul 4602678819172646912 (FP.i2d (Int32.ofNat n)))) .l)) && kFin64 (FP.dmul 4593671619917905920 (FP.i2d (Int32.ofNat (n - 1)))) && kFin64 (FP.dsub (FP.dmul 4602678819172646912 (FP.i2d (Int32.ofNat n))) (FP.dmul 4593671619917905920 (FP.i2d (Int32.ofNat (n - 1))))) && !(decide (Op.cmpValue (FP.dcmp (FP.f2d (wf (4 * n - d))) (FP.dsub (FP.dmul 4602678819172646912 (FP.i2d (Int32.ofNat n))) (FP.dmul 4593671619917905920 (FP.i2d (Int32.ofNat (n - 1)))))) .g < 0))
theorem wChk_ok {n d : Nat} (hn : n ≤ 24) (hd : d ≤ n - 1) : wChk n d = true := by
  have h : (List.range 25).all (fun n => (List.range 24).all fun d => !(decide (d ≤ n - 1)) || wChk n d) = true := by decide +kernel
  have h1 := List.all_eq_true.mp (List.all_eq_true.mp h n (List.mem_range.mpr (by omega))) d (List.mem_range.mpr (by omega))
  rw [decide_eq_true hd] at h1
  exact h1
theorem q_max0 {n : Nat} (hn : n ≤ 24) : m_Math_max xm N 0 (Int32.ofNat n - 1) mem = some (.inl (some (.int (Int32.ofNat (n - 1)))), mem) := by
  refine ok_eq ?_
  unfold m_Math_max
  by_cases h : n ≤ 1
  · rcases (show n = 0 ∨ n = 1 by omega) with rfl | rfl
    · exact ok_me
    · exact ok_me
  · rw [i_sub1 (by omega), if_pos (show (0 : Int32) < Int32.ofNat (n - 1) from (i_lt (a := 0) (b := n - 1) (by decide) (by omega)).mpr (by omega))]
    exact ok_me
theorem so_297 {K : Nat → Nat → Int32 → Int32 → kM → dRes} {a3 a4 : Int32} (hN : 120 ≤ N) (Q : QC B R (nb, jo, lo, bo, pa, ps, (vl, vr, rs, ya, sc))) (hB : B ≤ 700) (hs : s = 0 ∧ x = 0 ∧ vs = vl ∨ s = 1 ∧ x = 1 ∧ vs = vr) (h4 : a4 = Int32.ofNat s) (nx : ∀ m n', n' ≤ M → LwP xm (nb, jo, lo, bo, pa, ps, (vl, vr, rs, ya, sc)) F n' m → dOk (K 1000 p a3 (a4 + 1) m) S) (hM : n + 230 ≤ M) (I : LwP xm (nb, jo, lo, bo, pa, ps, (vl, vr, rs, ya, sc)) F n mem) : dOk (m_law_isSo_297 xm N K 1000 p a3 a4 (Int32.ofNat vs.length) 1000 x mem) S := by
  have hx : (if x = 0 then vl else vr) = vs := by
    rcases hs with ⟨-, rfl, rfl⟩ | ⟨-, rfl, rfl⟩
    · rfl
    · rfl
  have sel : ∀ (Y : Int32 → dRes), dOk (Y x) S → dOk (if a4 = 1 then Y 1 else Y 0) S := by
    intro Y h
    rcases hs with ⟨rfl, rfl, -⟩ | ⟨rfl, rfl, -⟩
    · rw [h4, if_neg (by decide)]
      exact h
    · rw [h4, if_pos (by decide)]
      exact h
  obtain ⟨T, h', I1⟩ := I.inv2
  obtain ⟨l1, l2⟩ := Q.len I1 hB
  have l24 : vs.length ≤ 24 := by
    rcases hs with ⟨-, -, rfl⟩ | ⟨-, -, rfl⟩
    · exact I1.sw.1
    · exact I1.sw.2.1
  unfold m_law_isSo_297
  refine lp_width hN (by omega) I fun m I => ?_
  rw [hx]
  refine sel (fun y => m_law_isSo_314 xm N K 1000 p a3 a4 (Int32.ofNat vs.length) (FP.f2d (wf (zWd lo (sc 4) vs))) 1000 y m) ?_
  unfold m_law_isSo_314
  refine lp_seen hN (by omega) I fun v z m I => ?_
  rw [hx] at I
  have hl : (zSeen lo (sc 4) vs).length = vs.length := zSn_len _ _ _
  have hL := q_strLen (N := N) (I.look 0 rfl) (I.look 1 rfl) (by rw [hl]; exact l24)
  rw [hl] at hL
  refine ok_rc (I.look 0 rfl) ?_
  refine ok_eI hL ?_
  rw [if_pos rfl]
  have hc := wChk_ok (d := zDf (zB lo (sc 4) vs) (vs.length - 1)) l24 (zDf_le _)
  unfold wChk at hc
  simp only [Bool.and_eq_true, Bool.not_eq_true', decide_eq_false_iff_not] at hc
  obtain ⟨⟨⟨⟨c1, c2⟩, c3⟩, c4⟩, c5⟩ := hc
  unfold zWd
  refine okF c1 ?_
  rw [if_neg c2]
  refine okF c1 ?_
  refine ok_eI (q_max0 l24) ?_
  refine okF c3 ?_
  refine okF c4 ?_
  rw [if_neg c5]
  exact so_374 hN Q hB hs h4 nx vs.length 0 N _ m (by omega) (by omega) (by omega) I
end PE
