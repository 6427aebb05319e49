/-! ===== the class exactly: rules over what a call leaves; the loops' table grows ===== -/
/-- how often the loops' table grew, up to a number that is the same for all -/
def kPsi (cap : Nat) : Nat := Nat.log2 cap + (if cap = 119988 then 1 else 0)
/-- cells and slots beside those of the loops' table -/
def eQ (xm : Nat → Option kE) (Q : Nat → Nat → kM → Prop) (c0 s0 : Nat) (mem : kM) (cap : Nat) (m : kM) : Prop := ∃ q' cap' c s, 384 ≤ cap' ∧ cap' ≤ 119988 ∧ Q q' cap' m ∧ St xm mem m c s ∧ c + kPsi cap ≤ c0 + kPsi cap' ∧ s + kPhi cap ≤ s0 + kPhi cap'
def eS (nb : Nat) (jo : Int32) (pa : List Int32) (st : aS) (T : Nat → Int32) (h : kHs) (F : kSg) (q cap : Nat) (m : kM) : Prop := (∀ i, cap ≤ i → i < 119988 → T i = 0) ∧ HpT (cE nb jo pa st q cap T h) F m
section EG
variable {xm : Nat → Option kE} {mem m0 : kM} {F G : kSg} {S : kO × kM → Prop} {N k nb q cap nx ct c0 s0 c1 s1 c2 s2 cap0 n r w ci : Nat} {jo x y z : Int32} {pa hb hy vl vr ya : List Int32} {rs : List (List Int32)} {sc : Nat → Int32} {st st1 : aS} {T T1 : Nat → Int32} {h : kHs} {hs : Nat → aS} {X : dRes} {Q Q' : Nat → Nat → kM → Prop} {ts : List fTy}
theorem eQ.refl (h1 : 384 ≤ cap) (h2 : cap ≤ 119988) (H : Q q cap mem) : eQ xm Q 0 0 mem cap mem := ⟨q, cap, 0, 0, h1, h2, H, St.refl, by omega, by omega⟩
theorem eQ.trans {m : kM} (S1 : St xm m0 mem c0 s0) (h1 : c0 + kPsi cap0 ≤ c1 + kPsi cap) (h2 : s0 + kPhi cap0 ≤ s1 + kPhi cap) (D : eQ xm Q c2 s2 mem cap m) : eQ xm Q (c1 + c2) (s1 + s2) m0 cap0 m := by
  obtain ⟨q', cap', c, s, k1, k2, H, S2, k3, k4⟩ := D
  exact ⟨q', cap', c0 + c, s0 + s, k1, k2, H, S1.trans S2, by omega, by omega⟩
theorem eQ.mono {m : kM} (D : eQ xm Q c1 s1 mem cap m) (h1 : c1 ≤ c2) (h2 : s1 ≤ s2) : eQ xm Q c2 s2 mem cap m := by
  obtain ⟨q', cap', c, s, k1, k2, H, S1, k3, k4⟩ := D
  exact ⟨q', cap', c, s, k1, k2, H, S1, by omega, by omega⟩
theorem eQ.map {m : kM} (D : eQ xm Q c1 s1 mem cap m) (f : ∀ q cap, Q q cap m → Q' q cap m) : eQ xm Q' c1 s1 mem cap m := by
  obtain ⟨q', cap', c, s, k1, k2, H, S1, k3, k4⟩ := D
  exact ⟨q', cap', c, s, k1, k2, f _ _ H, S1, k3, k4⟩
theorem x_V {K : kM → dRes} (D : eQ xm Q c1 s1 m0 cap0 mem) (h : ∀ q cap, 384 ≤ cap → cap ≤ 119988 → Q q cap mem → dOk X (rV fun m => eQ xm Q' c2 s2 mem cap m)) (k : ∀ m, eQ xm Q' (c1 + c2) (s1 + s2) m0 cap0 m → dOk (K m) S) : dOk (dCV X K) S := by
  obtain ⟨q, cap, c, s, k1, k2, H, S1, k3, k4⟩ := D
  exact ok_cV (h q cap k1 k2 H) fun m hh => k m (eQ.trans S1 k3 k4 hh)
theorem x_I {K : Int32 → kM → dRes} {P : Int32 → Prop} (D : eQ xm Q c1 s1 m0 cap0 mem) (h : ∀ q cap, 384 ≤ cap → cap ≤ 119988 → Q q cap mem → dOk X (rI fun v m => P v ∧ eQ xm Q' c2 s2 mem cap m)) (k : ∀ v m, P v → eQ xm Q' (c1 + c2) (s1 + s2) m0 cap0 m → dOk (K v m) S) : dOk (dCI X K) S := by
  obtain ⟨q, cap, c, s, k1, k2, H, S1, k3, k4⟩ := D
  exact ok_cI (h q cap k1 k2 H) fun v m hh => k v m hh.1 (eQ.trans S1 k3 k4 hh.2)
/-- a call that keeps the loops' table where it is -/
theorem x_VT {K : kM → dRes} (D : eQ xm (eS nb jo pa st T h F) c1 s1 m0 cap0 mem) {nb' : Nat} {jo' : Int32} {pa' : List Int32} {st' : aS} {h' : kHs} (g : ∀ q cap, HpT (cE nb jo pa st q cap T h) F mem → dOk X (rV fun m => HpT (cE nb' jo' pa' st' q cap T h') F m ∧ St xm mem m 0 0)) (k : ∀ m, eQ xm (eS nb' jo' pa' st' T h' F) c1 s1 m0 cap0 m → dOk (K m) S) : dOk (dCV X K) S := by
  obtain ⟨q, cap, c, s, k1, k2, ⟨hz, H⟩, S1, k3, k4⟩ := D
  exact ok_cV (g q cap H) fun m hh => k m ⟨q, cap, c, s, k1, k2, ⟨hz, hh.1⟩, S1.trans hh.2, k3, k4⟩
theorem x_IT {K : Int32 → kM → dRes} {P : Int32 → Prop} (D : eQ xm (eS nb jo pa st T h F) c1 s1 m0 cap0 mem) {nb' : Nat} {jo' : Int32} {pa' : List Int32} {st' : aS} {h' : kHs} (g : ∀ q cap, HpT (cE nb jo pa st q cap T h) F mem → dOk X (rI fun v m => P v ∧ HpT (cE nb' jo' pa' st' q cap T h') F m ∧ St xm mem m 0 0)) (k : ∀ v m, P v → eQ xm (eS nb' jo' pa' st' T h' F) c1 s1 m0 cap0 m → dOk (K v m) S) : dOk (dCI X K) S := by
  obtain ⟨q, cap, c, s, k1, k2, ⟨hz, H⟩, S1, k3, k4⟩ := D
  exact ok_cI (g q cap H) fun v m hh => k v m hh.1 ⟨q, cap, c, s, k1, k2, ⟨hz, hh.2.1⟩, S1.trans hh.2.2, k3, k4⟩
/-- a call that only reads -/
theorem x_ro {K : Int32 → kM → dRes} {v : Int32} (D : eQ xm (eS nb jo pa st T h F) c1 s1 m0 cap0 mem) (g : ∀ q cap, cap ≤ 119988 → (∀ i, cap ≤ i → i < 119988 → T i = 0) → HpT (cE nb jo pa st q cap T h) F mem → X = some (.inl (some (.int v)), mem)) (k : dOk (K v mem) S) : dOk (dCI X K) S := by
  obtain ⟨q, cap, c, s, k1, k2, ⟨hz, H⟩, -⟩ := D
  exact ok_eI (g q cap k2 hz H) k
theorem x_gE {K : Int32 → dRes} (D : eQ xm (eS nb jo pa st T h F) c1 s1 m0 cap0 mem) (j : Nat) (hj : ∀ q cap, (cE nb jo pa st q cap T h)[j]? = some (r, cO ci ts)) (hk : ts[k]? = some (fE x)) (g : dOk (K x) S) : dOk (dGI xm mem r ci k K) S := by
  obtain ⟨q, cap, c, s, k1, k2, ⟨hz, H⟩, -⟩ := D
  exact t_gE H j (hj q cap) hk g
theorem x_gR {K : Nat → dRes} {x : Nat} (D : eQ xm (eS nb jo pa st T h F) c1 s1 m0 cap0 mem) (j : Nat) (hj : ∀ q cap, (cE nb jo pa st q cap T h)[j]? = some (r, cO ci ts)) (hk : ts[k]? = some (fR x)) (g : dOk (K x) S) : dOk (dGR xm mem r ci k K) S := by
  obtain ⟨q, cap, c, s, k1, k2, ⟨hz, H⟩, -⟩ := D
  exact t_gR H j (hj q cap) hk g
theorem x_rc {K : dRes} (D : eQ xm (eS nb jo pa st T h F) c1 s1 m0 cap0 mem) (j : Nat) (hj : ∀ q cap, ∃ ts, (cE nb jo pa st q cap T h)[j]? = some (r, cO ci ts)) (g : dOk K S) : dOk (dRc xm mem r ci K) S := by
  obtain ⟨q, cap, c, s, k1, k2, ⟨hz, H⟩, -⟩ := D
  obtain ⟨ts, hj⟩ := hj q cap
  exact t_rc H j hj g
/-- a number is put -/
theorem x_p {K : kM → dRes} {t : fTy} (D : eQ xm (eS nb jo pa st T h F) c1 s1 m0 cap0 mem) (nb' : Nat) (jo' : Int32) (pa' : List Int32) (st' : aS) (h' : kHs) (j : Nat) (hj : ∀ q cap, (cE nb jo pa st q cap T h)[j]? = some (r, cO ci ts)) (hk : ts[k]? = some t) (hc : (!(Nat.beq ci 2) && !(Nat.beq ci 13)) = true) (he : ∀ q cap, (cE nb jo pa st q cap T h).set j (r, cO ci (ts.set k (fE x))) = cE nb' jo' pa' st' q cap T h') (g : ∀ m, eQ xm (eS nb' jo' pa' st' T h' F) c1 s1 m0 cap0 m → dOk (K m) S) : dOk (dP xm mem r ci k (.int x) K) S := by
  obtain ⟨q, cap, c, s, k1, k2, ⟨hz, H⟩, S1, k3, k4⟩ := D
  refine t_pE H j (hj q cap) hk hc fun m H1 S2 => ?_
  rw [he q cap] at H1
  exact g m ⟨q, cap, c, s, k1, k2, ⟨hz, H1⟩, S1.trans S2, k3, k4⟩
/-! the loops' table -/
theorem kPsi_up {a b : Nat} (h0 : 1 ≤ a) (h1 : a < b) (h2 : b = 119988 ∨ 2 * a ≤ b) (h3 : b ≤ 119988) : 1 + kPsi a ≤ kPsi b := by
  unfold kPsi
  rw [if_neg (show ¬ a = 119988 by omega)]
  have ha : 2 ^ a.log2 ≤ a := (Nat.le_log2 (by omega)).mp (Nat.le_refl _)
  rcases h2 with rfl | h2
  · rw [if_pos rfl]
    have : a.log2 ≤ Nat.log2 119988 := (Nat.le_log2 (by decide)).mpr (by omega)
    omega
  · have : a.log2 + 1 ≤ b.log2 := (Nat.le_log2 (by omega)).mpr (by rw [Nat.pow_succ]; omega)
    omega
theorem lE_growTo {c : Nat} (h1 : 384 ≤ cap) (h2 : cap ≤ 119988) (hc : c < 119988) (hz : ∀ i, cap ≤ i → i < 119988 → T i = 0) (H : HpT (cE nb jo pa st q cap T h) F mem) : dOk (m_Table_growTo xm N 1010 (Int32.ofNat c + 1) mem) (rV fun m => eQ xm (fun q cap m => c < cap ∧ eS nb jo pa st T h F q cap m) 0 0 mem cap m) := by
  unfold m_Table_growTo
  refine t_gR H 10 rfl rfl ?_
  refine t_lenX H 11 rfl ?_
  rw [mapR_len, i_add1]
  refine ok_if (fun g => ?_) (fun g => ?_)
  · have g := (i_lt (by omega) (by omega)).mp g
    refine t_gR H 10 rfl rfl ?_
    refine t_lenX H 11 rfl ?_
    rw [mapR_len]
    refine ok_eI m_max ?_
    refine t_gE H 10 rfl rfl ?_
    refine t_gE H 10 rfl rfl ?_
    refine ok_eI m_min ?_
    have e2 : Int32.ofNat cap * 2 = Int32.ofNat (cap * 2) := i_mul (b := 2)
    have e3 : Int32.ofNat 19998 * Int32.ofNat 6 = Int32.ofNat 119988 := by decide
    have hR : ∃ R : Nat, (R = 119988 ∨ 2 * cap ≤ R) ∧ R ≤ 119988 ∧ c < R ∧ (if Int32.ofNat 19998 * Int32.ofNat 6 < (if Int32.ofNat (c + 1) < Int32.ofNat cap * 2 then Int32.ofNat cap * 2 else Int32.ofNat (c + 1)) then Int32.ofNat 19998 * Int32.ofNat 6 else (if Int32.ofNat (c + 1) < Int32.ofNat cap * 2 then Int32.ofNat cap * 2 else Int32.ofNat (c + 1))) = Int32.ofNat R := by
      rw [e2, e3]
      by_cases g1 : c + 1 < cap * 2
      · rw [if_pos ((i_lt (by omega) (by omega)).mpr g1)]
        by_cases g2 : 119988 < cap * 2
        · rw [if_pos ((i_lt (by omega) (by omega)).mpr g2)]
          exact ⟨_, Or.inl rfl, by omega, by omega, rfl⟩
        · rw [if_neg (fun z => g2 ((i_lt (by omega) (by omega)).mp z))]
          exact ⟨_, Or.inr (by omega), by omega, by omega, rfl⟩
      · rw [if_neg (fun z => g1 ((i_lt (by omega) (by omega)).mp z))]
        rw [if_neg (fun z => by have := (i_lt (by omega) (by omega)).mp z; omega)]
        exact ⟨_, Or.inr (by omega), by omega, by omega, rfl⟩
    obtain ⟨R, r1, r2, r4, r3⟩ := hR
    rw [r3]
    refine t_gR H 10 rfl rfl ?_
    refine t_lenX H 11 rfl ?_
    rw [mapR_len, if_pos ((i_lt (by omega) (by omega)).mpr (by omega))]
    refine t_gR H 10 rfl rfl ?_
    have key : dOk (m_Ars_copyOf_1 xm N q (Int32.ofNat R) mem) (rR fun p m => HpT ((p, cF T R) :: cE nb jo pa st q cap T h) F m ∧ St xm mem m 1 R) := by
      unfold m_Ars_copyOf_1
      refine t_lenX H 11 rfl ?_
      rw [mapR_len, if_neg (fun z => by have := (i_eq (by omega) (by omega)).mp z; omega)]
      obtain ⟨A, ⟨a1, a2⟩, a3⟩ := H
      refine ok_nI xm a3 (by omega) fun m p H1 S1 => ?_
      have H2 : HpT ((p, cX (List.replicate R 0)) :: cE nb jo pa st q cap T h) F m := by
        refine ⟨(p, .inr (.inl (0, List.replicate R 0))) :: A, ⟨by simp [a1], fun j r t hj => ?_⟩, H1⟩
        cases j with
        | zero =>
          cases hj
          exact ⟨_, rfl, rfl⟩
        | succ j => exact a2 j r t hj
      refine t_lenX H2 12 rfl ?_
      rw [mapR_len]
      refine ok_eI m_min ?_
      rw [if_neg (fun z => by have := (i_lt (by omega) (by omega)).mp z; omega)]
      obtain ⟨e, b1, b2, rfl⟩ := H2.cell (xm := xm) 12 rfl
      obtain ⟨B, hB, b3⟩ := H2
      obtain ⟨e, b4, rfl⟩ := hB.2 0 p _ rfl
      have hl := (List.getElem?_eq_some_iff.mp b4).1
      have e0 : (0 : Int32).toNatClampNeg = 0 := by decide
      have hr' : kOkR 0 0 (Int32.ofNat cap) ((List.range cap).map T).length (List.replicate R (0 : Int32)).length = true := by
        unfold kOkR
        rw [i_nat (by omega), e0, mapR_len, List.length_replicate]
        simp [i_nn (show cap < 2 ^ 31 by omega)]
        omega
      refine ok_cpyI b3 b1 b2 0 (by rw [List.getElem?_append_left hl]; exact b4) hr' fun m3 H3 S3 => ?_
      rw [List.set_append_left _ _ hl, e0, i_nat (by omega)] at H3
      have e4 : kCpy ((List.range cap).map T) (List.replicate R (0 : Int32)) 0 0 cap = (List.range R).map T := by
        unfold kCpy
        rw [List.take_zero, List.nil_append, List.drop_zero, Nat.zero_add, List.take_of_length_le (by rw [mapR_len]; exact Nat.le_refl _), List.drop_replicate]
        apply List.ext_getElem?
        intro i
        by_cases g1 : i < cap
        · rw [List.getElem?_append_left (by rw [mapR_len]; exact g1), List.getElem?_map, List.getElem?_map, List.getElem?_range g1, List.getElem?_range (by omega)]
        · rw [List.getElem?_append_right (by rw [mapR_len]; omega), mapR_len, List.getElem?_map]
          by_cases g2 : i < R
          · rw [List.getElem?_range g2, List.getElem?_replicate, if_pos (by omega)]
            simp [hz i (by omega) (by omega)]
          · rw [List.getElem?_eq_none (by rw [List.length_replicate]; omega), List.getElem?_eq_none (by rw [List.length_range]; omega)]
            rfl
      rw [e4] at H3
      refine ok_R ⟨⟨_, hB.set (j := 0) (r := p) (t := cX (List.replicate R 0)) (t' := cF T R) rfl rfl, H3⟩, (S1.trans S3).mono (by omega) (by omega)⟩
    refine ok_cR key fun p m hh => ?_
    obtain ⟨H1, S1⟩ := hh
    refine t_pT (t' := fR p) H1 11 rfl rfl rfl rfl fun m2 H2 S2 => ?_
    have H2 : HpT ((p, cF T R) :: (cE nb jo pa st q cap T h).set 10 (1010, tT 6 19998 p)) F m2 := H2
    have H3 := H2.move 11 (r := q) (t' := cF T cap) rfl
    have H3 : HpT (cE nb jo pa st p R T h) F m2 := H3
    have hps := kPsi_up (a := cap) (b := R) (by omega) (by omega) r1 r2
    refine ok_V ⟨p, R, 1, R, by omega, r2, ⟨r4, fun i k1 k2 => hz i (by omega) k2, H3⟩, (S1.trans S2).mono (by omega) (by omega), by omega, ?_⟩
    have e1 : kPhi cap = 2 * cap := by
      unfold kPhi
      rw [if_neg (by omega)]
      exact Nat.add_zero _
    rw [e1]
    unfold kPhi
    by_cases g : R = 119988
    · rw [if_pos g]
      omega
    · rw [if_neg g]
      omega
  · have g : ¬ cap < c + 1 := fun z => g ((i_lt (by omega) (by omega)).mpr z)
    exact ok_V ⟨q, cap, 0, 0, h1, h2, ⟨by omega, hz, H⟩, St.refl, by omega, by omega⟩
/-- into the loops' table -/
theorem lE_set (h1 : 384 ≤ cap) (h2 : cap ≤ 119988) (hr : r < 19998) (hw : w < 6) (H : eS nb jo pa st T h F q cap mem) : dOk (m_Table_set xm N 1010 (Int32.ofNat r) (Int32.ofNat w) z mem) (rV fun m => eQ xm (eS nb jo pa st (kUp T (r * 6 + w) z) h F) 0 0 mem cap m) := by
  obtain ⟨hz, H⟩ := H
  obtain ⟨g1, g2⟩ := cell_lt (f := 6) (mr := 19998) (r := r) (w := w) (by decide) (by decide) hr hw
  unfold m_Table_set
  refine t_rc H 10 rfl ?_
  refine ok_eI (tE_cellOf (f := 6) (mr := 19998) (j := 10) (a := 1010) (b := q) (by decide) (by decide) hr hw H rfl) ?_
  refine t_rc H 10 rfl ?_
  refine ok_cV (lE_growTo h1 h2 g1 hz H) fun m hh => ?_
  obtain ⟨q', cap', c, s, k1, k2, ⟨k5, hz1, H1⟩, S1, k3, k4⟩ := hh
  rw [if_neg (i_nn (by omega))]
  refine t_gR H1 10 rfl rfl ?_
  refine t_lenX H1 11 rfl ?_
  rw [mapR_len, if_pos ((i_lt (by omega) (by omega)).mpr k5)]
  refine t_gR H1 10 rfl rfl ?_
  refine t_iSn H1 11 rfl (by rw [mapR_len]; exact k5) (by rw [mapR_len]; omega) fun m2 H2 S2 => ?_
  rw [mapR_set] at H2
  have H2 : HpT (cE nb jo pa st q' cap' (kUp T (r * 6 + w) z) h) F m2 := H2
  refine ok_V ⟨q', cap', c, s, k1, k2, ⟨fun i i1 i2 => ?_, H2⟩, S1.trans S2, k3, k4⟩
  unfold kUp
  rw [if_neg (by omega)]
  exact hz1 i i1 i2
theorem lE_get (h2 : cap ≤ 119988) (hr : r < 19998) (hw : w < 6) (hz : ∀ i, cap ≤ i → i < 119988 → T i = 0) (H : HpT (cE nb jo pa st q cap T h) F mem) : m_Table_get xm N 1010 (Int32.ofNat r) (Int32.ofNat w) mem = some (.inl (some (.int (T (r * 6 + w)))), mem) := tE_get (f := 6) (mr := 19998) (n := cap) (j := 10) (b := q) (by decide) (by decide) hr hw (by omega) hz H rfl rfl
end EG
