/-! ===== the class exactly: works ===== -/
/-- runs in their cells -/
def rRel (T : Nat → Int32) (rs : List (List Int32)) : Prop := rs.length ≤ 9 ∧ ∀ (i : Nat) (z : List Int32), rs[i]? = some z → ∀ k < 4, T (i * 4 + k) = z.getD k 0
def cRn (rs : List (List Int32)) : cTy := fun e => ∃ T, rRel T rs ∧ cF T 36 e
/-- a work: itself, two needles with their rows, the runs with their cells -/
abbrev wO (a : Nat) (st : aS) : cTy := cO 10 [fR (a + 1), fR (a + 3), fR (a + 5), fE (Int32.ofNat st.2.2.1.length), fE (st.2.2.2.2 6), fE (st.2.2.2.2 5), fE (st.2.2.2.2 8), fE (st.2.2.2.2 9), fE (st.2.2.2.2 10), fE (st.2.2.2.2 7)]
def wE (a : Nat) (st : aS) : kTyL := [(a, wO a st), (a + 1, nE (a + 2) st.1.length), (a + 2, cPf 24 st.1), (a + 3, nE (a + 4) st.2.1.length), (a + 4, cPf 24 st.2.1), (a + 5, tT 4 9 (a + 6)), (a + 6, cRn st.2.2.1)]
def setW (Ts : kTyL) (j a : Nat) (st : aS) : kTyL := (((((Ts.set (j + 1) (a + 1, nE (a + 2) st.1.length)).set (j + 2) (a + 2, cPf 24 st.1)).set (j + 3) (a + 3, nE (a + 4) st.2.1.length)).set (j + 4) (a + 4, cPf 24 st.2.1)).set (j + 6) (a + 6, cRn st.2.2.1)).set j (a, wO a st)
def isWE (Ts : kTyL) (i a : Nat) (st : aS) : Prop := ∀ d < 7, Ts[i + d]? = (wE a st)[d]?
section EE
variable {xm : Nat → Option kE} {mem : kM} {Ts : kTyL} {F A : kSg} {S : kO × kM → Prop} {N i j a b a1 r w n : Nat} {x y z : Int32} {st s1 : aS} {vl vr ya : List Int32} {rs : List (List Int32)} {sc : Nat → Int32}
theorem getD_set_ne {l : List Int32} {i k : Nat} {z : Int32} (h : i ≠ k) : (l.set i z).getD k 0 = l.getD k 0 := by
  rw [List.getD_eq_getElem?_getD, List.getElem?_set_ne h, ← List.getD_eq_getElem?_getD]
theorem HpT.pinR {rs : List (List Int32)} (H : HpT Ts F mem) (j : Nat) (hj : Ts[j]? = some (r, cRn rs)) : ∃ T, rRel T rs ∧ HpT (Ts.set j (r, cF T 36)) F mem := by
  obtain ⟨A, hA, H1⟩ := H
  obtain ⟨e, h1, T, h2, h3⟩ := hA.2 j r _ hj
  have h4 := hA.set (t' := cF T 36) (e := e) hj h3
  rw [set_self h1] at h4
  exact ⟨T, h2, A, h4, H1⟩
theorem HpT.unR {T : Nat → Int32} {rs : List (List Int32)} (H : HpT (Ts.set j (r, cF T 36)) F mem) (hj : j < Ts.length) (h : rRel T rs) : HpT (Ts.set j (r, cRn rs)) F mem := H.wk hj fun e he => ⟨T, h, he⟩
theorem wE_onBoth (h : st.1.length + st.2.1.length ≤ 48) (H : HpT Ts F mem) (W : isWE Ts i a st) : m_Work_onBoth xm N a mem = some (.inl (some (.int (Int32.ofNat (st.1.length + st.2.1.length)))), mem) := by
  refine ok_eq ?_
  unfold m_Work_onBoth
  refine t_gR H i (W 0 (by decide)) rfl ?_
  refine t_gE H (i + 1) (W 1 (by decide)) rfl ?_
  refine t_gR H i (W 0 (by decide)) rfl ?_
  refine t_gE H (i + 3) (W 3 (by decide)) rfl ?_
  rw [i_add]
  exact ok_me
theorem wE_runGet (hr : r < st.2.2.1.length) (h9 : st.2.2.1.length ≤ 9) (hw : w < 4) (H : HpT Ts F mem) (W : isWE Ts i a st) : m_Table_get xm N (a + 5) (Int32.ofNat r) (Int32.ofNat w) mem = some (.inl (some (.int ((st.2.2.1.getD r []).getD w 0))), mem) := by
  obtain ⟨T, hT, H1⟩ := H.pinR (i + 6) (W 6 (by decide))
  rw [tE_get (f := 4) (mr := 9) (n := 36) (by decide) (by decide) (by omega) hw (by decide) (fun c h1 h2 => absurd h2 (by omega)) H1 (set_ne (W 5 (by decide)) (by omega)) (set_at (W 6 (by decide)))]
  have h2 : st.2.2.1[r]? = some (st.2.2.1.getD r []) := by
    rw [List.getD_eq_getElem?_getD, List.getElem?_eq_getElem hr]
    rfl
  rw [hT.2 r _ h2 w hw]
/-- a number of a run is put -/
theorem wE_runSet (hr : r < st.2.2.1.length) (h9 : st.2.2.1.length ≤ 9) (hw : w < 4) (h4 : ∀ z ∈ st.2.2.1, z.length = 4) (H : HpT Ts F mem) (W : isWE Ts i a st) : dOk (m_Table_set xm N (a + 5) (Int32.ofNat r) (Int32.ofNat w) z mem) (rV fun m => HpT (Ts.set (i + 6) (a + 6, cRn (st.2.2.1.set r ((st.2.2.1.getD r []).set w z)))) F m ∧ St xm mem m 0 0) := by
  obtain ⟨T, hT, H1⟩ := H.pinR (i + 6) (W 6 (by decide))
  refine ok_mono (tE_set (f := 4) (mr := 9) (by decide) (by decide) (by omega) hw H1 (set_ne (W 5 (by decide)) (by omega)) (set_at (W 6 (by decide)))) ?_
  rintro u ⟨q1, q2, q3⟩
  refine ⟨q1, ?_, q3⟩
  rw [List.set_set] at q2
  refine q2.unR (len_of (W 6 (by decide))) ⟨by rw [List.length_set]; exact h9, ?_⟩
  intro i' z' hz' k hk
  rw [List.getElem?_set] at hz'
  unfold kUp
  by_cases g : r = i'
  · subst g
    rw [if_pos rfl, if_pos hr] at hz'
    cases hz'
    have hl : (st.2.2.1.getD r []).length = 4 := by
      rw [List.getD_eq_getElem?_getD, List.getElem?_eq_getElem hr]
      exact h4 _ (List.getElem_mem hr)
    by_cases g2 : k = w
    · subst g2
      rw [if_pos rfl, List.getD_eq_getElem?_getD, List.getElem?_set_self (by omega)]
      rfl
    · have h2 : st.2.2.1[r]? = some (st.2.2.1.getD r []) := by
        rw [List.getD_eq_getElem?_getD, List.getElem?_eq_getElem hr]
        rfl
      rw [if_neg (by omega), hT.2 r _ h2 k hk, getD_set_ne (fun z => g2 z.symm)]
  · rw [if_neg g] at hz'
    rw [if_neg (by omega)]
    exact hT.2 i' z' hz' k hk
theorem wE_isOpen (hr : r < st.2.2.1.length) (h9 : st.2.2.1.length ≤ 9) (H : HpT Ts F mem) (W : isWE Ts i a st) : m_Work_isOpen xm N a (Int32.ofNat r) mem = some (.inl (some (.int (if (st.2.2.1.getD r []).getD 3 0 = 1 then 1 else 0))), mem) := by
  refine ok_eq ?_
  unfold m_Work_isOpen
  refine t_gR H i (W 0 (by decide)) rfl ?_
  refine t_rc H (i + 5) (W 5 (by decide)) ?_
  refine ok_eI (wE_runGet (w := 3) hr h9 (by decide) H W) ?_
  by_cases g : (st.2.2.1.getD r []).getD 3 0 = 1
  · rw [if_pos g, if_pos g]; exact ok_me
  · rw [if_neg g, if_neg g]; exact ok_me
/-- how many runs are open -/
def nOpen (rs : List (List Int32)) : Nat := (rs.filter fun z => decide (z.getD 3 0 = 1)).length
theorem drop_cons' {α : Type} {l : List α} {d : Nat} {x : α} (h : d < l.length) : l.drop d = l.getD d x :: l.drop (d + 1) := by
  rw [List.drop_eq_getElem_cons h, List.getD_eq_getElem?_getD, List.getElem?_eq_getElem h]
  rfl
theorem wE_openRuns4 (h9 : st.2.2.1.length ≤ 9) (H : HpT Ts F mem) (W : isWE Ts i a st) : ∀ (k d f s : Nat), d + k = st.2.2.1.length → k < f → m_Work_openRuns_4 xm N f a (Int32.ofNat s) (Int32.ofNat d) mem = some (.inl (some (.int (Int32.ofNat (s + nOpen (st.2.2.1.drop d))))), mem) := by
  intro k
  induction k with
  | zero =>
    intro d f s hd hf
    obtain ⟨f, rfl⟩ : ∃ f', f = f' + 1 := ⟨f - 1, by omega⟩
    refine ok_eq ?_
    rw [m_Work_openRuns_4]
    refine t_gE H i (W 0 (by decide)) rfl ?_
    rw [if_neg (fun z => by have := (i_lt (by omega) (by omega)).mp z; omega), List.drop_of_length_le (by omega)]
    exact ok_me
  | succ k ih =>
    intro d f s hd hf
    obtain ⟨f, rfl⟩ : ∃ f', f = f' + 1 := ⟨f - 1, by omega⟩
    refine ok_eq ?_
    rw [m_Work_openRuns_4]
    refine t_gE H i (W 0 (by decide)) rfl ?_
    rw [if_pos ((i_lt (by omega) (by omega)).mpr (by omega))]
    refine t_rc H i (W 0 (by decide)) ?_
    refine ok_eI (wE_isOpen (r := d) (by omega) h9 H W) ?_
    unfold m_Work_openRuns_23
    rw [i_add1, i_add1, drop_cons' (x := []) (show d < st.2.2.1.length by omega)]
    unfold nOpen
    by_cases g : (st.2.2.1.getD d []).getD 3 0 = 1
    · rw [if_pos g, if_neg (by decide), List.filter_cons_of_pos (by simpa using g), List.length_cons]
      refine ⟨_, ih (d + 1) f (s + 1) (by omega) (by omega), ?_⟩
      simp only [nOpen, Nat.add_assoc, Nat.add_comm 1]
    · rw [if_neg g, if_pos rfl, List.filter_cons_of_neg (by simpa using g)]
      exact ⟨_, ih (d + 1) f s (by omega) (by omega), rfl⟩
theorem wE_openRuns (hN : 11 ≤ N) (h9 : st.2.2.1.length ≤ 9) (H : HpT Ts F mem) (W : isWE Ts i a st) : m_Work_openRuns xm N a mem = some (.inl (some (.int (Int32.ofNat (nOpen st.2.2.1)))), mem) := by
  have h := wE_openRuns4 (xm := xm) (N := N) h9 H W st.2.2.1.length 0 N 0 (by omega) (by omega)
  rw [List.drop_zero, Nat.zero_add] at h
  exact h
/-- whether a loop is that of an open run -/
def inOpen (rs : List (List Int32)) (x : Int32) : Prop := ∃ z ∈ rs, z.getD 3 0 = 1 ∧ z.getD 0 0 = x
theorem inOpen_cons {z : List Int32} : inOpen (z :: rs) x ↔ (z.getD 3 0 = 1 ∧ z.getD 0 0 = x) ∨ inOpen rs x := by
  unfold inOpen
  simp
theorem wE_hasIn2 (h9 : st.2.2.1.length ≤ 9) (H : HpT Ts F mem) (W : isWE Ts i a st) : ∀ (k d f : Nat), d + k = st.2.2.1.length → k < f → ∃ v : Int32, (v ≠ 0 ↔ inOpen (st.2.2.1.drop d) x) ∧ m_Work_hasInOpenRun_2 xm N f a x (Int32.ofNat d) mem = some (.inl (some (.int v)), mem) := by
  intro k
  induction k with
  | zero =>
    intro d f hd hf
    obtain ⟨f, rfl⟩ : ∃ f', f = f' + 1 := ⟨f - 1, by omega⟩
    refine ⟨0, ?_, ok_eq ?_⟩
    · rw [List.drop_of_length_le (by omega)]
      refine ⟨fun h => absurd rfl h, ?_⟩
      rintro ⟨z, hz, -⟩
      cases hz
    · rw [m_Work_hasInOpenRun_2]
      refine t_gE H i (W 0 (by decide)) rfl ?_
      rw [if_neg (fun z => by have := (i_lt (by omega) (by omega)).mp z; omega)]
      exact ok_me
  | succ k ih =>
    intro d f hd hf
    obtain ⟨f, rfl⟩ : ∃ f', f = f' + 1 := ⟨f - 1, by omega⟩
    obtain ⟨v, hv, hv'⟩ := ih (d + 1) f (by omega) (by omega)
    rw [drop_cons' (x := []) (show d < st.2.2.1.length by omega)]
    by_cases g : (st.2.2.1.getD d []).getD 3 0 = 1
    · by_cases g2 : (st.2.2.1.getD d []).getD 0 0 = x
      · refine ⟨1, ⟨fun _ => inOpen_cons.mpr (Or.inl ⟨g, g2⟩), fun _ => by decide⟩, ok_eq ?_⟩
        rw [m_Work_hasInOpenRun_2]
        refine t_gE H i (W 0 (by decide)) rfl ?_
        rw [if_pos ((i_lt (by omega) (by omega)).mpr (by omega))]
        refine t_rc H i (W 0 (by decide)) ?_
        refine ok_eI (wE_isOpen (r := d) (by omega) h9 H W) ?_
        rw [if_pos g, if_neg (by decide)]
        refine t_gR H i (W 0 (by decide)) rfl ?_
        refine t_rc H (i + 5) (W 5 (by decide)) ?_
        refine ok_eI (wE_runGet (r := d) (w := 0) (by omega) h9 (by decide) H W) ?_
        rw [if_pos g2]
        exact ok_me
      · refine ⟨v, ?_, ok_eq ?_⟩
        · rw [hv, inOpen_cons]
          exact ⟨Or.inr, fun h => h.resolve_left fun z => g2 z.2⟩
        · rw [m_Work_hasInOpenRun_2]
          refine t_gE H i (W 0 (by decide)) rfl ?_
          rw [if_pos ((i_lt (by omega) (by omega)).mpr (by omega))]
          refine t_rc H i (W 0 (by decide)) ?_
          refine ok_eI (wE_isOpen (r := d) (by omega) h9 H W) ?_
          rw [if_pos g, if_neg (by decide)]
          refine t_gR H i (W 0 (by decide)) rfl ?_
          refine t_rc H (i + 5) (W 5 (by decide)) ?_
          refine ok_eI (wE_runGet (r := d) (w := 0) (by omega) h9 (by decide) H W) ?_
          rw [if_neg g2]
          unfold m_Work_hasInOpenRun_33
          rw [i_add1]
          exact ⟨_, hv', rfl⟩
    · refine ⟨v, ?_, ok_eq ?_⟩
      · rw [hv, inOpen_cons]
        exact ⟨Or.inr, fun h => h.resolve_left fun z => g z.1⟩
      · rw [m_Work_hasInOpenRun_2]
        refine t_gE H i (W 0 (by decide)) rfl ?_
        rw [if_pos ((i_lt (by omega) (by omega)).mpr (by omega))]
        refine t_rc H i (W 0 (by decide)) ?_
        refine ok_eI (wE_isOpen (r := d) (by omega) h9 H W) ?_
        rw [if_neg g, if_pos rfl]
        unfold m_Work_hasInOpenRun_33
        rw [i_add1]
        exact ⟨_, hv', rfl⟩
theorem wE_hasIn (hN : 11 ≤ N) (h9 : st.2.2.1.length ≤ 9) (H : HpT Ts F mem) (W : isWE Ts i a st) : ∃ v : Int32, (v ≠ 0 ↔ inOpen st.2.2.1 x) ∧ m_Work_hasInOpenRun xm N a x mem = some (.inl (some (.int v)), mem) := by
  have h := wE_hasIn2 (xm := xm) (N := N) (x := x) h9 H W st.2.2.1.length 0 N (by omega) (by omega)
  rw [List.drop_zero] at h
  exact h
theorem isWE.runs {rs' : List (List Int32)} (W : isWE Ts i a st) (h : rs'.length = st.2.2.1.length) : isWE (Ts.set (i + 6) (a + 6, cRn rs')) i a (st.1, st.2.1, rs', st.2.2.2.1, st.2.2.2.2) := by
  intro d hd
  match d, hd with
  | 0, _ =>
    have h0 := W 0 (by decide)
    have h1 : (wE a (st.1, st.2.1, rs', st.2.2.2.1, st.2.2.2.2))[0]? = (wE a st)[0]? := by
      show some (a, wO a (st.1, st.2.1, rs', st.2.2.2.1, st.2.2.2.2)) = some (a, wO a st)
      unfold wO
      dsimp only
      rw [h]
    rw [h1]
    exact set_ne h0 (by omega)
  | 1, _ => exact set_ne (W 1 (by decide)) (by omega)
  | 2, _ => exact set_ne (W 2 (by decide)) (by omega)
  | 3, _ => exact set_ne (W 3 (by decide)) (by omega)
  | 4, _ => exact set_ne (W 4 (by decide)) (by omega)
  | 5, _ => exact set_ne (W 5 (by decide)) (by omega)
  | 6, _ => exact set_at (W 6 (by decide))
theorem fall_one {z : List Int32} (h : z.length = 4) (h1 : z.getD 3 0 = 1) : kFall z = z.set 2 (if z.getD 2 0 + 1 < z.getD 1 0 then z.getD 2 0 + 1 else z.getD 1 0) := by
  unfold kFall
  rw [if_pos h1]
theorem fall_len {z : List Int32} (h : z.length = 4) : (kFall z).length = 4 := by
  unfold kFall
  split
  · simpa using h
  · exact h
/-- all open runs fall -/
theorem wE_fall2 : ∀ (k d f : Nat) (mem : kM) (Ts : kTyL) (st : aS), st.2.2.1.length ≤ 9 → (∀ z ∈ st.2.2.1, z.length = 4) → d + k = st.2.2.1.length → k < f → HpT Ts F mem → isWE Ts i a st → dOk (m_Work_letRunsFall_2 xm N f a (Int32.ofNat d) mem) (rV fun m => HpT (Ts.set (i + 6) (a + 6, cRn (st.2.2.1.take d ++ (st.2.2.1.drop d).map kFall))) F m ∧ St xm mem m 0 0) := by
  intro k
  induction k with
  | zero =>
    intro d f mem Ts st h9 h4 hd hf H W
    obtain ⟨f, rfl⟩ : ∃ f', f = f' + 1 := ⟨f - 1, by omega⟩
    rw [m_Work_letRunsFall_2]
    refine t_gE H i (W 0 (by decide)) rfl ?_
    rw [if_neg (fun z => by have := (i_lt (by omega) (by omega)).mp z; omega), List.drop_of_length_le (by omega), List.take_of_length_le (by omega), List.map_nil, List.append_nil, set_self (W 6 (by decide))]
    exact ok_V ⟨H, St.refl⟩
  | succ k ih =>
    intro d f mem Ts st h9 h4 hd hf H W
    obtain ⟨f, rfl⟩ : ∃ f', f = f' + 1 := ⟨f - 1, by omega⟩
    have hdl : d < st.2.2.1.length := by omega
    have hz : st.2.2.1[d]? = some (st.2.2.1.getD d []) := by
      rw [List.getD_eq_getElem?_getD, List.getElem?_eq_getElem hdl]
      rfl
    have hz4 : (st.2.2.1.getD d []).length = 4 := h4 _ (List.mem_of_getElem? hz)
    rw [m_Work_letRunsFall_2]
    refine t_gE H i (W 0 (by decide)) rfl ?_
    rw [if_pos ((i_lt (by omega) (by omega)).mpr (by omega))]
    refine t_rc H i (W 0 (by decide)) ?_
    refine ok_eI (wE_isOpen (r := d) hdl h9 H W) ?_
    unfold m_Work_letRunsFall_52
    rw [i_add1]
    have ek : ∀ rs' : List (List Int32), st.2.2.1.take d ++ (kFall (st.2.2.1.getD d []) :: rs') = st.2.2.1.take d ++ [kFall (st.2.2.1.getD d [])] ++ rs' := fun rs' => by simp
    rw [drop_cons' (x := []) hdl, List.map_cons, ek]
    by_cases g : (st.2.2.1.getD d []).getD 3 0 = 1
    · rw [if_pos g, if_neg (by decide)]
      refine t_gR H i (W 0 (by decide)) rfl ?_
      refine t_rc H (i + 5) (W 5 (by decide)) ?_
      refine ok_eI (wE_runGet (r := d) (w := 2) hdl h9 (by decide) H W) ?_
      refine t_gR H i (W 0 (by decide)) rfl ?_
      refine t_gR H i (W 0 (by decide)) rfl ?_
      refine t_rc H (i + 5) (W 5 (by decide)) ?_
      refine ok_eI (wE_runGet (r := d) (w := 1) hdl h9 (by decide) H W) ?_
      refine ok_eI m_min ?_
      refine t_rc H (i + 5) (W 5 (by decide)) ?_
      refine ok_cV (wE_runSet (r := d) (w := 2) hdl h9 (by decide) h4 H W) fun m2 hh => ?_
      obtain ⟨H2, S2⟩ := hh
      have em : (if (st.2.2.1.getD d []).getD 1 0 < (st.2.2.1.getD d []).getD 2 0 + 1 then (st.2.2.1.getD d []).getD 1 0 else (st.2.2.1.getD d []).getD 2 0 + 1) = (if (st.2.2.1.getD d []).getD 2 0 + 1 < (st.2.2.1.getD d []).getD 1 0 then (st.2.2.1.getD d []).getD 2 0 + 1 else (st.2.2.1.getD d []).getD 1 0) := by
        by_cases h1 : (st.2.2.1.getD d []).getD 1 0 < (st.2.2.1.getD d []).getD 2 0 + 1
        · rw [if_pos h1, if_neg (fun h2 => Int32.lt_irrefl (Int32.lt_trans h1 h2))]
        · rw [if_neg h1]
          by_cases h2 : (st.2.2.1.getD d []).getD 2 0 + 1 < (st.2.2.1.getD d []).getD 1 0
          · rw [if_pos h2]
          · rw [if_neg h2]
            exact (Int32.le_antisymm (Int32.not_lt.mp h2) (Int32.not_lt.mp h1)).symm
      rw [em, ← fall_one hz4 g] at H2
      have W2 := W.runs (rs' := st.2.2.1.set d (kFall (st.2.2.1.getD d []))) (by simp)
      refine ok_mono (ih (d + 1) f m2 _ _ (by simpa using h9) ?_ (by simp; omega) (by omega) H2 W2) ?_
      · intro z hz
        rcases List.mem_or_eq_of_mem_set hz with h | h
        · exact h4 z h
        · rw [h]; exact fall_len hz4
      · rintro w ⟨q1, q2, q3⟩
        refine ⟨q1, ?_, (S2.trans q3).mono (by omega) (by omega)⟩
        rw [List.set_set] at q2
        have e2 : (st.2.2.1.set d (kFall (st.2.2.1.getD d []))).take (d + 1) = st.2.2.1.take d ++ [kFall (st.2.2.1.getD d [])] := by
          rw [List.take_succ_eq_append_getElem (by simpa using hdl), List.take_set_of_le (by omega)]
          simp
        have e3 : (st.2.2.1.set d (kFall (st.2.2.1.getD d []))).drop (d + 1) = st.2.2.1.drop (d + 1) := List.drop_set_of_lt (by omega)
        dsimp only at q2
        rw [e2, e3] at q2
        exact q2
    · rw [if_neg g, if_pos rfl]
      refine ok_mono (ih (d + 1) f mem Ts st h9 h4 (by omega) (by omega) H W) ?_
      rintro w ⟨q1, q2, q3⟩
      refine ⟨q1, ?_, q3⟩
      have e1 : kFall (st.2.2.1.getD d []) = st.2.2.1.getD d [] := by
        unfold kFall
        rw [if_neg g]
      rw [e1]
      rw [List.take_succ_eq_append_getElem hdl] at q2
      have e2 : st.2.2.1[d] = st.2.2.1.getD d [] := by
        rw [List.getD_eq_getElem?_getD, List.getElem?_eq_getElem hdl]
        rfl
      rw [e2] at q2
      exact q2
theorem wE_fall (hN : 11 ≤ N) (h9 : st.2.2.1.length ≤ 9) (h4 : ∀ z ∈ st.2.2.1, z.length = 4) (H : HpT Ts F mem) (W : isWE Ts i a st) : dOk (m_Work_letRunsFall xm N a mem) (rV fun m => HpT (Ts.set (i + 6) (a + 6, cRn (st.2.2.1.map kFall))) F m ∧ St xm mem m 0 0) := by
  have h := wE_fall2 (xm := xm) (N := N) (F := F) (i := i) (a := a) st.2.2.1.length 0 N mem Ts st h9 h4 (by omega) (by omega) H W
  rw [List.take_zero, List.drop_zero, List.nil_append] at h
  exact h
theorem wE_openRun (h9 : st.2.2.1.length < 9) (H : HpT Ts F mem) (W : isWE Ts i a st) : dOk (m_Work_openRun xm N a x y mem) (rI fun v m => v = Int32.ofNat st.2.2.1.length ∧ HpT ((Ts.set i (a, wO a (st.1, st.2.1, st.2.2.1 ++ [[x, y, 0, 1]], st.2.2.2.1, st.2.2.2.2))).set (i + 6) (a + 6, cRn (st.2.2.1 ++ [[x, y, 0, 1]]))) F m ∧ St xm mem m 0 0) := by
  unfold m_Work_openRun
  refine t_gE H i (W 0 (by decide)) rfl ?_
  refine t_gE H i (W 0 (by decide)) rfl ?_
  rw [i_add1]
  refine t_pE H i (W 0 (by decide)) rfl rfl fun m1 H1 S1 => ?_
  have el : (st.2.2.1 ++ [[x, y, 0, 1]]).length = st.2.2.1.length + 1 := by simp
  have H1 : HpT (Ts.set i (a, wO a (st.1, st.2.1, st.2.2.1 ++ [[x, y, 0, 1]], st.2.2.2.1, st.2.2.2.2))) F m1 := by
    unfold wO
    rw [el]
    exact H1
  have g0 := set_at (y := (a, wO a (st.1, st.2.1, st.2.2.1 ++ [[x, y, 0, 1]], st.2.2.2.1, st.2.2.2.2))) (W 0 (by decide))
  have g5 := set_ne (y := (a, wO a (st.1, st.2.1, st.2.2.1 ++ [[x, y, 0, 1]], st.2.2.2.1, st.2.2.2.2))) (W 5 (by decide)) (show i + 0 ≠ i + 5 by omega)
  have g6 := set_ne (y := (a, wO a (st.1, st.2.1, st.2.2.1 ++ [[x, y, 0, 1]], st.2.2.2.1, st.2.2.2.2))) (W 6 (by decide)) (show i + 0 ≠ i + 6 by omega)
  obtain ⟨T, hT, H2⟩ := H1.pinR (i + 6) g6
  have s0 : ∀ t, ((Ts.set i (a, wO a (st.1, st.2.1, st.2.2.1 ++ [[x, y, 0, 1]], st.2.2.2.1, st.2.2.2.2))).set (i + 6) t)[i]? = some (a, wO a (st.1, st.2.1, st.2.2.1 ++ [[x, y, 0, 1]], st.2.2.2.1, st.2.2.2.2)) := fun t => set_ne g0 (by omega)
  have s5 : ∀ t, ((Ts.set i (a, wO a (st.1, st.2.1, st.2.2.1 ++ [[x, y, 0, 1]], st.2.2.2.1, st.2.2.2.2))).set (i + 6) t)[i + 5]? = some (a + 5, tT 4 9 (a + 6)) := fun t => set_ne g5 (by omega)
  have s6 : ∀ t, ((Ts.set i (a, wO a (st.1, st.2.1, st.2.2.1 ++ [[x, y, 0, 1]], st.2.2.2.1, st.2.2.2.2))).set (i + 6) t)[i + 6]? = some t := fun t => set_at g6
  refine t_gR H2 i (s0 _) rfl ?_
  refine t_rc H2 (i + 5) (s5 _) ?_
  refine ok_cV (tE_set (f := 4) (mr := 9) (r := st.2.2.1.length) (w := 0) (by decide) (by decide) h9 (by decide) H2 (s5 _) (s6 _)) fun m2 hh => ?_
  obtain ⟨H3, S3⟩ := hh
  rw [List.set_set] at H3
  refine t_gR H3 i (s0 _) rfl ?_
  refine t_rc H3 (i + 5) (s5 _) ?_
  refine ok_cV (tE_set (f := 4) (mr := 9) (r := st.2.2.1.length) (w := 1) (by decide) (by decide) h9 (by decide) H3 (s5 _) (s6 _)) fun m3 hh => ?_
  obtain ⟨H4, S4⟩ := hh
  rw [List.set_set] at H4
  refine t_gR H4 i (s0 _) rfl ?_
  refine t_rc H4 (i + 5) (s5 _) ?_
  refine ok_cV (tE_set (f := 4) (mr := 9) (r := st.2.2.1.length) (w := 2) (by decide) (by decide) h9 (by decide) H4 (s5 _) (s6 _)) fun m4 hh => ?_
  obtain ⟨H5, S5⟩ := hh
  rw [List.set_set] at H5
  refine t_gR H5 i (s0 _) rfl ?_
  refine t_rc H5 (i + 5) (s5 _) ?_
  refine ok_cV (tE_set (f := 4) (mr := 9) (r := st.2.2.1.length) (w := 3) (by decide) (by decide) h9 (by decide) H5 (s5 _) (s6 _)) fun m5 hh => ?_
  obtain ⟨H6, S6⟩ := hh
  rw [List.set_set] at H6
  refine ok_I ⟨rfl, H6.unR (len_of g6) ⟨by rw [el]; omega, ?_⟩, S1.trans (S3.trans (S4.trans (S5.trans S6)))⟩
  intro i' z hz k hk
  unfold kUp
  by_cases g : i' < st.2.2.1.length
  · rw [List.getElem?_append_left g] at hz
    rw [if_neg (by omega), if_neg (by omega), if_neg (by omega), if_neg (by omega)]
    exact hT.2 i' z hz k hk
  · have e : i' = st.2.2.1.length := by
      have := len_of hz
      rw [el] at this
      omega
    subst e
    rw [List.getElem?_append_right (Nat.le_refl _), Nat.sub_self] at hz
    cases hz
    match k, hk with
    | 0, _ => rw [if_neg (by omega), if_neg (by omega), if_neg (by omega), if_pos (by omega)]; rfl
    | 1, _ => rw [if_neg (by omega), if_neg (by omega), if_pos (by omega)]; rfl
    | 2, _ => rw [if_neg (by omega), if_pos (by omega)]; rfl
    | 3, _ => rw [if_pos (by omega)]; rfl
/-- a work is told what another holds -/
theorem wE_copyFrom (hij : i + 7 ≤ j ∨ j + 7 ≤ i) (H : HpT Ts F mem) (W : isWE Ts j a s1) (V : isWE Ts i a1 st) : dOk (m_Work_copyFrom xm N a a1 mem) (rV fun m => HpT (setW Ts j a st) F m ∧ St xm mem m 0 0) := by
  unfold m_Work_copyFrom
  refine t_gR H j (W 0 (by decide)) rfl ?_
  refine t_gR H i (V 0 (by decide)) rfl ?_
  refine t_rc H (j + 1) (W 1 (by decide)) ?_
  refine ok_cV (nE_copyFrom (i := i + 1) (j := j + 1) (by omega) (W 1 (by decide)) (W 2 (by decide)) H (V 1 (by decide)) (V 2 (by decide))) fun m1 h1 => ?_
  obtain ⟨H1, S1⟩ := h1
  refine t_gR H1 j (set_ne (set_ne (W 0 (by decide)) (by omega)) (by omega)) rfl ?_
  refine t_gR H1 i (set_ne (set_ne (V 0 (by decide)) (by omega)) (by omega)) rfl ?_
  refine t_rc H1 (j + 3) (set_ne (set_ne (W 3 (by decide)) (by omega)) (by omega)) ?_
  refine ok_cV (nE_copyFrom (i := i + 3) (j := j + 3) (by omega) (set_ne (set_ne (W 3 (by decide)) (by omega)) (by omega)) (set_ne (set_ne (W 4 (by decide)) (by omega)) (by omega)) H1 (set_ne (set_ne (V 3 (by decide)) (by omega)) (by omega)) (set_ne (set_ne (V 4 (by decide)) (by omega)) (by omega))) fun m2 h2 => ?_
  obtain ⟨H2, S2⟩ := h2
  refine t_gR H2 j (set_ne (set_ne (set_ne (set_ne (W 0 (by decide)) (by omega)) (by omega)) (by omega)) (by omega)) rfl ?_
  refine t_gR H2 i (set_ne (set_ne (set_ne (set_ne (V 0 (by decide)) (by omega)) (by omega)) (by omega)) (by omega)) rfl ?_
  refine t_rc H2 (j + 5) (set_ne (set_ne (set_ne (set_ne (W 5 (by decide)) (by omega)) (by omega)) (by omega)) (by omega)) ?_
  obtain ⟨T1, hT1, H3⟩ := H2.pinR (j + 6) (set_ne (set_ne (set_ne (set_ne (W 6 (by decide)) (by omega)) (by omega)) (by omega)) (by omega))
  obtain ⟨T, hT, H4⟩ := H3.pinR (i + 6) (set_ne (set_ne (set_ne (set_ne (set_ne (V 6 (by decide)) (by omega)) (by omega)) (by omega)) (by omega)) (by omega))
  have l2 : j + 6 < Ts.length := len_of (W 6 (by decide))
  have l3 : i + 6 < Ts.length := len_of (V 6 (by decide))
  refine ok_cV (tE_copyFrom (n := 36) (i := i + 5) (j := j + 5) (f := 4) (mr := 9) (f1 := 4) (mr1 := 9) (b := a + 6) (b1 := a1 + 6) (by omega) (by decide) mapR_len mapR_len H4 (set_ne (set_ne (set_ne (set_ne (set_ne (set_ne (W 5 (by decide)) (by omega)) (by omega)) (by omega)) (by omega)) (by omega)) (by omega)) (set_ne (List.getElem?_set_self (by simpa using l2)) (by omega)) (set_ne (set_ne (set_ne (set_ne (set_ne (set_ne (V 5 (by decide)) (by omega)) (by omega)) (by omega)) (by omega)) (by omega)) (by omega)) (List.getElem?_set_self (by simpa using l3))) fun m3 h3 => ?_
  obtain ⟨H5, S3⟩ := h3
  have H6 := H5.unR (by simpa using l2) hT
  rw [List.set_comm _ _ (show i + 6 ≠ j + 6 by omega), List.set_set] at H6
  have H7 := H6.unR (by simpa using l3) hT
  rw [List.set_comm _ _ (show j + 6 ≠ i + 6 by omega), set_self (set_ne (set_ne (set_ne (set_ne (V 6 (by decide)) (by omega)) (by omega)) (by omega)) (by omega))] at H7
  have s0 : ∀ t, (((((((Ts.set (j + 1) (a + 1, nE (a + 2) st.1.length)).set (j + 1 + 1) (a + 2, cPf 24 st.1)).set (j + 3) (a + 3, nE (a + 4) st.2.1.length)).set (j + 3 + 1) (a + 4, cPf 24 st.2.1)).set (j + 6) (a + 6, cRn st.2.2.1)).set j t))[j]? = some t := fun t => List.getElem?_set_self (by simp; omega)
  have v0 : ∀ t, (((((((Ts.set (j + 1) (a + 1, nE (a + 2) st.1.length)).set (j + 1 + 1) (a + 2, cPf 24 st.1)).set (j + 3) (a + 3, nE (a + 4) st.2.1.length)).set (j + 3 + 1) (a + 4, cPf 24 st.2.1)).set (j + 6) (a + 6, cRn st.2.2.1)).set j t))[i]? = some (a1, wO a1 st) := fun t => set_ne (set_ne (set_ne (set_ne (set_ne (set_ne (V 0 (by decide)) (by omega)) (by omega)) (by omega)) (by omega)) (by omega)) (by omega)
  have w0 : (((((Ts.set (j + 1) (a + 1, nE (a + 2) st.1.length)).set (j + 1 + 1) (a + 2, cPf 24 st.1)).set (j + 3) (a + 3, nE (a + 4) st.2.1.length)).set (j + 3 + 1) (a + 4, cPf 24 st.2.1)).set (j + 6) (a + 6, cRn st.2.2.1))[j]? = some (a, wO a s1) := set_ne (set_ne (set_ne (set_ne (set_ne (W 0 (by decide)) (by omega)) (by omega)) (by omega)) (by omega)) (by omega)
  have u0 : (((((Ts.set (j + 1) (a + 1, nE (a + 2) st.1.length)).set (j + 1 + 1) (a + 2, cPf 24 st.1)).set (j + 3) (a + 3, nE (a + 4) st.2.1.length)).set (j + 3 + 1) (a + 4, cPf 24 st.2.1)).set (j + 6) (a + 6, cRn st.2.2.1))[i]? = some (a1, wO a1 st) := set_ne (set_ne (set_ne (set_ne (set_ne (V 0 (by decide)) (by omega)) (by omega)) (by omega)) (by omega)) (by omega)
  refine t_gE H7 i u0 rfl ?_
  refine t_pE H7 j w0 rfl rfl fun m4 H8 S4 => ?_
  refine t_gE H8 i (v0 _) rfl ?_
  refine t_pE H8 j (s0 _) rfl rfl fun m5 H9 S5 => ?_
  rw [List.set_set] at H9
  refine t_gE H9 i (v0 _) rfl ?_
  refine t_pE H9 j (s0 _) rfl rfl fun m6 H10 S6 => ?_
  rw [List.set_set] at H10
  refine t_gE H10 i (v0 _) rfl ?_
  refine t_pE H10 j (s0 _) rfl rfl fun m7 H11 S7 => ?_
  rw [List.set_set] at H11
  refine t_gE H11 i (v0 _) rfl ?_
  refine t_pE H11 j (s0 _) rfl rfl fun m8 H12 S8 => ?_
  rw [List.set_set] at H12
  refine t_gE H12 i (v0 _) rfl ?_
  refine t_pE H12 j (s0 _) rfl rfl fun m9 H13 S9 => ?_
  rw [List.set_set] at H13
  refine t_gE H13 i (v0 _) rfl ?_
  refine t_pE H13 j (s0 _) rfl rfl fun m10 H14 S10 => ?_
  rw [List.set_set] at H14
  exact ok_V ⟨H14, S1.trans (S2.trans (S3.trans (S4.trans (S5.trans (S6.trans (S7.trans (S8.trans (S9.trans S10))))))))⟩
end EE
