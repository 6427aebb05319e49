/-! ===== the class exactly: tables, balls ===== -/
section ED
variable {xm : Nat → Option kE} {mem : kM} {Ts : kTyL} {F A : kSg} {S : kO × kM → Prop} {N r n i j a b a1 b1 p f mr w nb : Nat} {x y z jo : Int32} {T : Nat → Int32} {ya : List Int32}
theorem cell_lt (hf : f ≤ 9) (hm : mr ≤ 19998) (hr : r < mr) (hw : w < f) : r * f + w < f * mr ∧ f * mr < 2 ^ 31 := by
  have h5 : (r + 1) * f ≤ mr * f := Nat.mul_le_mul_right f hr
  rw [Nat.add_mul, Nat.mul_comm mr f] at h5
  have : f * mr ≤ 9 * 19998 := Nat.mul_le_mul hf hm
  omega
theorem tE_cellOf (hf : f ≤ 9) (hm : mr ≤ 19998) (hr : r < mr) (hw : w < f) (H : HpT Ts F mem) (hj : Ts[j]? = some (a, tT f mr b)) : m_Table_cellOf xm N a (Int32.ofNat r) (Int32.ofNat w) mem = some (.inl (some (.int (Int32.ofNat (r * f + w)))), mem) := by
  refine ok_eq ?_
  unfold m_Table_cellOf
  rw [if_neg (i_nn (by omega))]
  refine t_gE H j hj rfl ?_
  rw [if_pos ((i_lt (by omega) (by omega)).mpr hr), if_neg (i_nn (by omega))]
  refine t_gE H j hj rfl ?_
  rw [if_pos ((i_lt (by omega) (by omega)).mpr hw)]
  unfold m_Table_cellOf_29
  rw [if_neg (show ¬ ((1 : Int32) = 0) by decide)]
  refine t_gE H j hj rfl ?_
  rw [i_mul, i_add]
  exact ok_me
/-- what a table tells; its cells are T's, behind them is 0 -/
theorem tE_get (hf : f ≤ 9) (hm : mr ≤ 19998) (hr : r < mr) (hw : w < f) (hn : n < 2 ^ 31) (hz : ∀ c, n ≤ c → c < f * mr → T c = 0) (H : HpT Ts F mem) (hj : Ts[j]? = some (a, tT f mr b)) (hb : Ts[j + 1]? = some (b, cF T n)) : m_Table_get xm N a (Int32.ofNat r) (Int32.ofNat w) mem = some (.inl (some (.int (T (r * f + w)))), mem) := by
  obtain ⟨c1, c2⟩ := cell_lt hf hm hr hw
  refine ok_eq ?_
  unfold m_Table_get
  refine t_rc H j hj ?_
  refine ok_eI (tE_cellOf hf hm hr hw H hj) ?_
  rw [if_neg (i_nn (by omega))]
  refine t_gR H j hj rfl ?_
  refine t_lenX H (j + 1) hb ?_
  rw [mapR_len]
  by_cases g : r * f + w < n
  · rw [if_pos ((i_lt (by omega) (by omega)).mpr g)]
    refine t_gR H j hj rfl ?_
    refine t_iLn H (j + 1) hb (by rw [mapR_len]; exact g) (by rw [mapR_len]; exact hn) ?_
    rw [mapR_get g]
    exact ok_me
  · rw [if_neg (fun z => g ((i_lt (by omega) (by omega)).mp z)), hz _ (by omega) c1]
    exact ok_me
/-- into a table that is as roomy as it can be -/
theorem tE_set (hf : f ≤ 9) (hm : mr ≤ 19998) (hr : r < mr) (hw : w < f) (H : HpT Ts F mem) (hj : Ts[j]? = some (a, tT f mr b)) (hb : Ts[j + 1]? = some (b, cF T (f * mr))) : dOk (m_Table_set xm N a (Int32.ofNat r) (Int32.ofNat w) z mem) (rV fun m => HpT (Ts.set (j + 1) (b, cF (kUp T (r * f + w) z) (f * mr))) F m ∧ St xm mem m 0 0) := by
  obtain ⟨c1, c2⟩ := cell_lt hf hm hr hw
  unfold m_Table_set
  refine t_rc H j hj ?_
  refine ok_eI (tE_cellOf hf hm hr hw H hj) ?_
  refine t_rc H j hj ?_
  have key : m_Table_growTo xm N a (Int32.ofNat (r * f + w) + 1) mem = some (.inl none, mem) := by
    refine ok_eq ?_
    unfold m_Table_growTo
    refine t_gR H j hj rfl ?_
    refine t_lenX H (j + 1) hb ?_
    rw [mapR_len, i_add1, if_neg (fun z => by have := (i_lt (by omega) (by omega)).mp z; omega)]
    exact ok_me
  refine ok_eV key ?_
  rw [if_neg (i_nn (by omega))]
  refine t_gR H j hj rfl ?_
  refine t_lenX H (j + 1) hb ?_
  rw [mapR_len, if_pos ((i_lt (by omega) (by omega)).mpr c1)]
  refine t_gR H j hj rfl ?_
  refine t_iSn H (j + 1) hb (by rw [mapR_len]; exact c1) (by rw [mapR_len]; omega) fun m H1 S1 => ?_
  rw [mapR_set] at H1
  exact ok_V ⟨H1, S1⟩
theorem tE_copyFrom (hij : i + 2 ≤ j ∨ j + 2 ≤ i) (hn : n < 2 ^ 31) {us ys : List Int32} (hu : us.length = n) (hy : ys.length = n) {f1 mr1 : Nat} (H : HpT Ts F mem) (hj : Ts[j]? = some (a, tT f mr b)) (hb : Ts[j + 1]? = some (b, cX ys)) (hi : Ts[i]? = some (a1, tT f1 mr1 b1)) (hb1 : Ts[i + 1]? = some (b1, cX us)) : dOk (m_Table_copyFrom xm N a a1 mem) (rV fun m => HpT (Ts.set (j + 1) (b, cX us)) F m ∧ St xm mem m 0 0) := by
  unfold m_Table_copyFrom
  refine t_gR H j hj rfl ?_
  refine t_lenX H (j + 1) hb ?_
  refine t_gR H i hi rfl ?_
  refine t_lenX H (i + 1) hb1 ?_
  refine ok_eI m_min ?_
  refine t_gR H i hi rfl ?_
  refine t_gR H j hj rfl ?_
  have e1 : (if Int32.ofNat us.length < Int32.ofNat ys.length then Int32.ofNat us.length else Int32.ofNat ys.length) = Int32.ofNat n := by
    rw [hu, hy]
    split <;> rfl
  rw [e1]
  have H1 : HpT (Ts.set (j + 1) (b, cX ys)) F mem := by rw [set_self hb]; exact H
  have H2 : HpT (Ts.set (j + 1) (b, cA n)) F mem := H1.wk (len_of hb) (fun e he => ⟨ys, hy, he⟩)
  refine t_cpyX hn H2 (i + 1) (j + 1) (set_ne hb1 (by omega)) (set_at hb) hu fun m2 H3 S2 => ?_
  rw [List.set_set] at H3
  exact ok_V ⟨H3, S2⟩
/-! balls -/
/-- the yarn of the joined ball, 0 without one -/
def bY (jo : Int32) (ya : List Int32) : Int32 := if jo = -1 then 0 else ya.getD jo.toNatClampNeg 0
def jOk (nb : Nat) (jo : Int32) : Prop := jo = -1 ∨ ∃ b : Nat, jo = Int32.ofNat b ∧ b < nb
/-- the balls' type: the yarn, how many, which is joined -/
abbrev bE (b nb : Nat) (jo : Int32) : cTy := cO 5 [fR b, fE (Int32.ofNat nb), fE jo]
theorem bE_has (hn : nb ≤ 4) (hy : ya.length = 4) (H : HpT Ts F mem) (hj : Ts[j]? = some (a, bE b nb jo)) (hb : Ts[j + 1]? = some (b, cX ya)) : m_Balls_has xm N a x mem = some (.inl (some (.int (if x < 0 then 0 else if x < Int32.ofNat nb then 1 else 0))), mem) := by
  refine ok_eq ?_
  unfold m_Balls_has
  by_cases g1 : x < 0
  · rw [if_pos g1, if_pos g1]; exact ok_me
  · rw [if_neg g1, if_neg g1]
    refine t_gE H j hj rfl ?_
    by_cases g2 : x < Int32.ofNat nb
    · rw [if_pos g2, if_pos g2]
      refine t_gR H j hj rfl ?_
      refine t_lenX H (j + 1) hb ?_
      obtain ⟨e1, l1⟩ := i_of (Int32.not_lt.mp g1)
      rw [hy, if_pos]
      · exact ok_me
      · rw [e1] at g2 ⊢
        have := (i_lt l1 (by omega)).mp g2
        exact (i_lt l1 (by decide)).mpr (by omega)
    · rw [if_neg g2, if_neg g2]; exact ok_me
theorem bE_hasN {c : Nat} (hc : c < nb) (hn : nb ≤ 4) (hy : ya.length = 4) (H : HpT Ts F mem) (hj : Ts[j]? = some (a, bE b nb jo)) (hb : Ts[j + 1]? = some (b, cX ya)) : m_Balls_has xm N a (Int32.ofNat c) mem = some (.inl (some (.int 1)), mem) := by
  rw [bE_has hn hy H hj hb, if_neg (i_nn (by omega)), if_pos ((i_lt (by omega) (by omega)).mpr hc)]
theorem bE_hasM (hn : nb ≤ 4) (hy : ya.length = 4) (H : HpT Ts F mem) (hj : Ts[j]? = some (a, bE b nb jo)) (hb : Ts[j + 1]? = some (b, cX ya)) : m_Balls_has xm N a (-1) mem = some (.inl (some (.int 0)), mem) := by
  rw [bE_has hn hy H hj hb, if_pos (by decide)]
theorem bE_of {c : Nat} (hc : c < nb) (hn : nb ≤ 4) (hy : ya.length = 4) (H : HpT Ts F mem) (hj : Ts[j]? = some (a, bE b nb jo)) (hb : Ts[j + 1]? = some (b, cX ya)) : m_Balls_of xm N a (Int32.ofNat c) mem = some (.inl (some (.int (ya.getD c 0))), mem) := by
  refine ok_eq ?_
  unfold m_Balls_of
  refine t_rc H j hj ?_
  refine ok_eI (bE_hasN hc hn hy H hj hb) ?_
  rw [if_neg (by decide)]
  refine t_gR H j hj rfl ?_
  exact t_iLn H (j + 1) hb (by omega) (by omega) ok_me
theorem bE_ofJo (hjo : jOk nb x) (hn : nb ≤ 4) (hy : ya.length = 4) (H : HpT Ts F mem) (hj : Ts[j]? = some (a, bE b nb jo)) (hb : Ts[j + 1]? = some (b, cX ya)) : m_Balls_of xm N a x mem = some (.inl (some (.int (bY x ya))), mem) := by
  rcases hjo with rfl | ⟨c, rfl, hc⟩
  · refine ok_eq ?_
    unfold m_Balls_of
    refine t_rc H j hj ?_
    refine ok_eI (bE_hasM hn hy H hj hb) ?_
    rw [if_pos rfl]
    exact ok_me
  · rw [bE_of hc hn hy H hj hb]
    unfold bY
    rw [if_neg (fun e => by
      have h1 := congrArg Int32.toInt e
      rw [i_toI (by omega)] at h1
      have e1 : (-1 : Int32).toInt = -1 := by decide
      omega), i_nat (by omega)]
theorem bE_ofJoined (hjo : jOk nb jo) (hn : nb ≤ 4) (hy : ya.length = 4) (H : HpT Ts F mem) (hj : Ts[j]? = some (a, bE b nb jo)) (hb : Ts[j + 1]? = some (b, cX ya)) : m_Balls_ofJoined xm N a mem = some (.inl (some (.int (bY jo ya))), mem) := by
  refine ok_eq ?_
  unfold m_Balls_ofJoined
  refine t_gE H j hj rfl ?_
  refine t_rc H j hj ?_
  exact ok_eI (bE_ofJo hjo hn hy H hj hb) ok_me
/-- yarn is put: of a ball that there is, or of none -/
def yUp (x : Int32) (v : Int32) (ya : List Int32) : List Int32 := if x = -1 then ya else ya.set x.toNatClampNeg v
theorem bE_set (hjo : jOk nb x) (hn : nb ≤ 4) (hy : ya.length = 4) (H : HpT Ts F mem) (hj : Ts[j]? = some (a, bE b nb jo)) (hb : Ts[j + 1]? = some (b, cX ya)) : dOk (m_Balls_set xm N a x y mem) (rV fun m => HpT (Ts.set (j + 1) (b, cX (yUp x y ya))) F m ∧ St xm mem m 0 0) := by
  unfold m_Balls_set yUp
  refine t_rc H j hj ?_
  rcases hjo with rfl | ⟨c, rfl, hc⟩
  · refine ok_eI (bE_hasM hn hy H hj hb) ?_
    rw [if_pos rfl, if_pos rfl, set_self hb]
    exact ok_V ⟨H, St.refl⟩
  · refine ok_eI (bE_hasN hc hn hy H hj hb) ?_
    rw [if_neg (by decide)]
    refine t_gR H j hj rfl ?_
    refine t_iSn H (j + 1) hb (by omega) (by omega) fun m H1 S1 => ?_
    rw [if_neg (fun e => by
      have h1 := congrArg Int32.toInt e
      rw [i_toI (by omega)] at h1
      have e1 : (-1 : Int32).toInt = -1 := by decide
      omega), i_nat (by omega)]
    exact ok_V ⟨H1, S1⟩
theorem bE_spend {c : Nat} (hjo : jo = Int32.ofNat c) (hc : c < nb) (hn : nb ≤ 4) (hy : ya.length = 4) (H : HpT Ts F mem) (hj : Ts[j]? = some (a, bE b nb jo)) (hb : Ts[j + 1]? = some (b, cX ya)) : dOk (m_Balls_spend xm N a x mem) (rV fun m => HpT (Ts.set (j + 1) (b, cX (ya.set c (ya.getD c 0 - x)))) F m ∧ St xm mem m 0 0) := by
  subst hjo
  unfold m_Balls_spend
  refine t_gE H j hj rfl ?_
  refine t_gE H j hj rfl ?_
  refine t_rc H j hj ?_
  refine ok_eI (bE_of hc hn hy H hj hb) ?_
  refine t_rc H j hj ?_
  refine ok_cV (bE_set (x := Int32.ofNat c) (Or.inr ⟨c, rfl, hc⟩) hn hy H hj hb) fun m hh => ?_
  unfold yUp at hh
  rw [if_neg (fun e => by
      have h1 := congrArg Int32.toInt e
      rw [i_toI (by omega)] at h1
      have e1 : (-1 : Int32).toInt = -1 := by decide
      omega), i_nat (by omega)] at hh
  exact ok_V hh
/-- all yarn of the balls that there are -/
def bSum (ya : List Int32) (nb d : Nat) (s : Int32) : Int32 := ((ya.take nb).drop d).foldl (· + ·) s
theorem bE_ofAll4 (hn : nb ≤ 4) (hy : ya.length = 4) (H : HpT Ts F mem) (hj : Ts[j]? = some (a, bE b nb jo)) (hb : Ts[j + 1]? = some (b, cX ya)) : ∀ (k d f : Nat) (s : Int32), d + k = nb → k < f → m_Balls_ofAll_4 xm N f a s (Int32.ofNat d) mem = some (.inl (some (.int (bSum ya nb d s))), mem) := by
  intro k
  induction k with
  | zero =>
    intro d f s hd hf
    obtain ⟨f, rfl⟩ : ∃ f', f = f' + 1 := ⟨f - 1, by omega⟩
    refine ok_eq ?_
    rw [m_Balls_ofAll_4]
    refine t_gE H j hj rfl ?_
    rw [if_neg (fun z => by have := (i_lt (by omega) (by omega)).mp z; omega)]
    have e : bSum ya nb d s = s := by
      unfold bSum
      rw [List.drop_of_length_le (by rw [List.length_take]; omega)]
      rfl
    rw [e]
    exact ok_me
  | succ k ih =>
    intro d f s hd hf
    obtain ⟨f, rfl⟩ : ∃ f', f = f' + 1 := ⟨f - 1, by omega⟩
    refine ok_eq ?_
    rw [m_Balls_ofAll_4]
    refine t_gE H j hj rfl ?_
    rw [if_pos ((i_lt (by omega) (by omega)).mpr (by omega))]
    refine t_rc H j hj ?_
    refine ok_eI (bE_of (c := d) (by omega) hn hy H hj hb) ?_
    rw [i_add1, ih (d + 1) f _ (by omega) (by omega)]
    have e : bSum ya nb d s = bSum ya nb (d + 1) (s + ya.getD d 0) := by
      unfold bSum
      rw [List.drop_eq_getElem_cons (by rw [List.length_take]; omega), List.foldl_cons, List.getElem_take, List.getD_eq_getElem?_getD, List.getElem?_eq_getElem (by omega)]
      rfl
    rw [e]
    exact ok_me
theorem bE_ofAll (hN : 5 ≤ N) (hn : nb ≤ 4) (hy : ya.length = 4) (H : HpT Ts F mem) (hj : Ts[j]? = some (a, bE b nb jo)) (hb : Ts[j + 1]? = some (b, cX ya)) : m_Balls_ofAll xm N a mem = some (.inl (some (.int (bSum ya nb 0 0))), mem) := bE_ofAll4 hn hy H hj hb nb 0 N 0 (by omega) (by omega)
theorem bE_add (hnb : nb < 4) (hy : ya.length = 4) (H : HpT Ts F mem) (hj : Ts[j]? = some (a, bE b nb jo)) (hb : Ts[j + 1]? = some (b, cX ya)) : dOk (m_Balls_add xm N a x mem) (rI fun v m => v = Int32.ofNat nb ∧ HpT ((Ts.set j (a, bE b (nb + 1) jo)).set (j + 1) (b, cX (ya.set nb x))) F m ∧ St xm mem m 0 0) := by
  unfold m_Balls_add
  refine t_gE H j hj rfl ?_
  rw [if_neg (i_nn (by omega))]
  refine t_gR H j hj rfl ?_
  refine t_lenX H (j + 1) hb ?_
  rw [hy, if_pos ((i_lt (by omega) (by decide)).mpr hnb)]
  refine t_gR H j hj rfl ?_
  refine t_iSn H (j + 1) hb (by omega) (by omega) fun m1 H1 S1 => ?_
  have h3 := set_ne (y := (b, cX (ya.set nb x))) hj (show j + 1 ≠ j by omega)
  refine t_gE H1 j h3 rfl ?_
  rw [i_add1]
  refine t_pE H1 j h3 rfl rfl fun m2 H2 S2 => ?_
  rw [List.set_comm _ _ (show j + 1 ≠ j by omega)] at H2
  exact ok_I ⟨rfl, H2, S1.trans S2⟩
end ED
