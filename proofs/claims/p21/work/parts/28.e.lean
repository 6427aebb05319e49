/-! ===== numbers, loops: objects that never change; iterators; insertion ahead ===== -/
section KE2
variable {xm : Nat → Option kE} {mem : kM} {L F : List (Nat × kE)} {N a q cap x p : Nat} {mc : Int32} {es : List Nat}
theorem app_set {e e' : kE} : (mem ++ [e]).set (kNew mem - 1000) e' = mem ++ [e'] := by
  unfold kNew
  simp
theorem app_look {e : kE} : kLook xm (mem ++ [e]) (kNew mem) = some e := by
  unfold kLook kNew
  rw [if_neg (by omega)]
  simp
theorem Hp.app {e : kE} (H : Hp L mem) : Hp L (mem ++ [e]) := (H.new e).sub (List.sublist_cons_self _ _)
theorem dP_app {ci k : Nat} {fs : List Value} {w : Value} {K : kM → dRes} (hk : Nat.ble (k + 1) fs.length = true) : dP xm (mem ++ [.inl (ci, fs)]) (kNew mem) ci k w K = K (mem ++ [.inl (ci, fs.set k w)]) := by
  unfold dP
  simp only [app_look]
  rw [if_pos ⟨by trivial, by unfold kNew; omega, Nat.le_of_ble_eq_true hk⟩, app_set]
def kIv (xm : Nat → Option kE) (m : kM) (e : Nat) (z : Int32) : Prop := kLook xm m e = some (.inl (2, [.int z]))
theorem kIv.st {m m1 : kM} {c s e : Nat} {z : Int32} (h : kIv xm m e z) (S : St xm m m1 c s) : kIv xm m1 e z := S.2.2.2.1 _ _ _ (Or.inl rfl) h
theorem kIv.ok {m : kM} {e : Nat} {z : Int32} (h : kIv xm m e z) : kStOk xm m 2 (some e) = true := by
  unfold kStOk
  unfold kIv at h
  simp only [h]
  rfl
theorem int_new {v : Value} {z : Int32} : m_Int_new xm N (kNew mem) z (mem ++ [.inl (2, [v])]) = some (.inl none, mem ++ [.inl (2, [.int z])]) := by
  refine ok_eq ?_
  unfold m_Int_new m_Num_new
  refine ok_eV rfl ?_
  rw [dP_app rfl]
  exact ok_me
theorem int_valueOf (hX : kXok xm) (H : Hp L mem) (z : Int32) : dOk (m_Int_valueOf xm N z mem) (rR fun e m => kIv xm m e z ∧ Hp L m ∧ St xm mem m 1 1) := by
  have mk : dOk (m_Int_valueOf_23 xm N z mem) (rR fun e m => kIv xm m e z ∧ Hp L m ∧ St xm mem m 1 1) := by
    unfold m_Int_valueOf_23 dN
    refine ok_eV int_new ?_
    exact ok_R ⟨app_look, H.app, St.new _⟩
  unfold m_Int_valueOf
  refine ok_if (fun _ => mk) (fun g1 => ok_if (fun _ => mk) (fun g2 => ?_))
  obtain ⟨qs, h9, hl, hq⟩ := hX.2.1
  have k9 : kLook xm mem 9 = some (.inr (.inr (4, qs))) := by
    unfold kLook
    rw [if_pos (by decide)]
    exact h9
  have z1 : -128 ≤ z.toInt := by
    rw [Int32.lt_iff_toInt_lt] at g1
    have e : (-128 : Int32).toInt = -128 := by decide
    omega
  have z2 : z.toInt ≤ 127 := by
    rw [Int32.lt_iff_toInt_lt] at g2
    have e : (127 : Int32).toInt = 127 := by decide
    omega
  obtain ⟨j, hj, rfl⟩ : ∃ j : Nat, j < 256 ∧ z = vb_c j := by
    refine ⟨(z.toInt + 128).toNat, by omega, ?_⟩
    unfold vb_c
    have : z + 128 = Int32.ofNat (z.toInt + 128).toNat := by
      rw [← Int32.toInt_inj, i_toI (by omega), Int32.toInt_add]
      have e : (128 : Int32).toInt = 128 := by decide
      rw [e, Int.bmod_eq_of_le (by omega) (by omega)]
      omega
    rw [← this, Int32.add_sub_cancel]
  have e1 : vb_c j + 128 = Int32.ofNat j := by unfold vb_c; exact Int32.sub_add_cancel _ _
  rw [e1]
  refine ok_aL k9 (Or.inr (Or.inr ⟨rfl, by decide⟩)) (by rw [hl]; exact i_inB hj (by decide)) (q := 100 + j) (by rw [i_nat (by omega)]; exact hq j hj) ?_
  refine ok_R ⟨?_, H, St.refl.mono (by omega) (by omega)⟩
  unfold kIv kLook
  rw [if_pos (by omega)]
  exact hX.2.2.1 j hj
theorem int_val {e : Nat} {z : Int32} (h : kIv xm mem e z) : m_Int_intValue xm N e mem = some (.inl (some (.int z)), mem) := by
  refine ok_eq ?_
  unfold m_Int_intValue
  exact ok_gI h rfl ok_me
/-- a loop's facts: kind, ball, row, height, side, worked -/
abbrev kLf : Type := Int32 × Int32 × Int32 × Int32 × Int32 × Int32
def kLc (f : kLf) : kE := .inl (13, [.int f.1, .int f.2.1, .int f.2.2.1, .int f.2.2.2.1, .int f.2.2.2.2.1, .int f.2.2.2.2.2])
def kLo (xm : Nat → Option kE) (m : kM) (e : Nat) (f : kLf) : Prop := kLook xm m e = some (kLc f)
theorem kLo.st {m m1 : kM} {c s e : Nat} {f : kLf} (h : kLo xm m e f) (S : St xm m m1 c s) : kLo xm m1 e f := S.2.2.2.1 _ _ _ (Or.inr rfl) h
theorem kLo.ok {m : kM} {e : Nat} {f : kLf} (h : kLo xm m e f) : kStOk xm m 2 (some e) = true := by
  unfold kStOk
  unfold kLo at h
  simp only [h]
  rfl
theorem loop_new {v1 v2 v3 v4 v5 v6 : Value} {f : kLf} : m_ML_new xm N (kNew mem) f.1 f.2.1 f.2.2.1 f.2.2.2.1 f.2.2.2.2.1 f.2.2.2.2.2 (mem ++ [.inl (13, [v1, v2, v3, v4, v5, v6])]) = some (.inl none, mem ++ [kLc f]) := by
  refine ok_eq ?_
  unfold m_ML_new
  rw [dP_app rfl, dP_app rfl, dP_app rfl, dP_app rfl, dP_app rfl, dP_app rfl]
  exact ok_me
/-! an iterator -/
def sIt (p c : Nat) (l mc : Int32) (a : Nat) : Nat × kE := (p, .inl (3, [.int (Int32.ofNat c), .int l, .int mc, .ref a]))
theorem al_iterator (H : Hp (sAL a q mc cap es ++ F) mem) : dOk (m_AL_iterator xm N a mem) (rR fun p m => Hp (sIt p 0 (-1) mc a :: (sAL a q mc cap es ++ F)) m ∧ St xm mem m 1 4) := by
  unfold m_AL_iterator
  refine ok_n xm H fun m p H1 S1 _ => ?_
  have key : dOk (m_Itr_new xm N p a m) (rV fun m2 => Hp (sIt p 0 (-1) mc a :: (sAL a q mc cap es ++ F)) m2 ∧ St xm m m2 0 0) := by
    unfold m_Itr_new
    refine ok_p H1 0 rfl rfl rfl fun m2 H2 S2 => ?_
    refine ok_p H2 0 rfl rfl rfl fun m3 H3 S3 => ?_
    refine ok_gR (H3.look 0 rfl) rfl ?_
    refine ok_gI (H3.look 1 rfl) rfl ?_
    refine ok_p H3 0 rfl rfl rfl fun m4 H4 S4 => ?_
    exact ok_V ⟨H4, S2.trans (S3.trans S4)⟩
  refine ok_cV key fun m2 h => ?_
  exact ok_R ⟨h.1, (S1.trans h.2).mono (by omega) (by show 4 + 0 ≤ 4; omega)⟩
theorem itr_has {c n : Nat} {l : Int32} {v2 v3 : Value} (h0 : kLook xm mem p = some (.inl (3, [.int (Int32.ofNat c), v2, v3, .ref a]))) (h1 : kLook xm mem a = some (.inl (4, [.int mc, .ref q, .int (Int32.ofNat n)]))) (hc : c < 2 ^ 31) (hn : n < 2 ^ 31) : m_Itr_hasNext xm N p mem = some (.inl (some (.int (if c = n then 0 else 1))), mem) := by
  refine ok_eq ?_
  unfold m_Itr_hasNext
  refine ok_gI h0 rfl ?_
  refine ok_gR h0 rfl ?_
  refine ok_gI h1 rfl ?_
  refine ok_if (fun g => ?_) (fun g => ?_)
  · rw [if_pos ((i_eq hc hn).mp g)]; exact ok_me
  · rw [if_neg (fun z => g ((i_eq hc hn).mpr z))]; exact ok_me
theorem itr_next {c : Nat} {l : Int32} (H : Hp L mem) (i j k : Nat) (hi : L[i]? = some (sIt p c l mc a)) (hj : L[j]? = some (sHd a q mc es.length)) (hk : L[k]? = some (q, sAr cap es)) (hij : i ≠ j) (hik : i ≠ k) (hl : es.length ≤ cap) (hc2 : cap ≤ 1000000) (hc : c < es.length) :
    dOk (m_Itr_next xm N p mem) (rR fun e m => e = es[c] ∧ Hp (L.set i (sIt p (c + 1) (Int32.ofNat c) mc a)) m ∧ St xm mem m 0 0) := by
  have h0 := H.look (xm := xm) i hi
  have h1 := H.look (xm := xm) j hj
  have h2 := H.look (xm := xm) k hk
  have hil : i < L.length := (List.getElem?_eq_some_iff.mp hi).1
  unfold m_Itr_next
  refine ok_rc h0 ?_
  have hcm : m_Itr_checkForComodification xm N p mem = some (.inl none, mem) := by
    refine ok_eq ?_
    unfold m_Itr_checkForComodification
    refine ok_gR h0 rfl ?_
    refine ok_gI h1 rfl ?_
    refine ok_gI h0 rfl ?_
    rw [if_pos rfl]
    exact ok_me
  refine ok_eV hcm ?_
  refine ok_gI h0 rfl ?_
  refine ok_gR h0 rfl ?_
  refine ok_gI h1 rfl ?_
  rw [if_pos ((i_lt (by omega) (by omega)).mpr hc)]
  refine ok_gR h0 rfl ?_
  refine ok_gR h1 rfl ?_
  refine ok_lenQ h2 (Or.inl rfl) ?_
  rw [sAr_len hl, if_pos ((i_lt (by omega) (by omega)).mpr (by omega))]
  refine ok_p H i hi rfl rfl fun m1 H1 S1 => ?_
  refine ok_p H1 i (List.getElem?_set_self hil) rfl rfl fun m2 H2 S2 => ?_
  rw [List.set_set] at H2
  have h3 : kLook xm m2 q = some (sAr cap es) := H2.look k (by rw [List.getElem?_set_ne hik]; exact hk)
  refine ok_aL h3 (Or.inl rfl) (by rw [sAr_len hl]; exact i_inB (by omega) (by omega)) (q := es[c]) (by rw [i_nat (by omega)]; exact sAr_get hc) ?_
  refine ok_R ⟨rfl, ?_, S1.trans S2⟩
  rw [i_add1] at H2
  exact H2
/-! insertion ahead of all -/
theorem al_add0 (hX : kXok xm) (hw : sWf q cap es) (hc : cap ≤ 300000) (H : Hp (sAL a q mc cap es ++ F) mem) (hE : ∀ e ∈ es, kStOk xm mem 2 (some e) = true) (hx : kStOk xm mem 2 (some x) = true) :
    dOk (m_AL_add_0 xm N a 0 x mem) (rV fun m => ∃ q', Hp (sAL a q' (mc + 1) (kAc cap es.length) (x :: es) ++ F) m ∧ sWf q' (kAc cap es.length) (x :: es) ∧ St xm mem m 1 (kAs cap es.length)) := by
  have hl := hw.1
  have e1 : (x :: es).length = es.length + 1 := by simp
  unfold m_AL_add_0
  refine ok_rc (sAL_hd H) ?_
  have hr : m_AL_rangeCheckForAdd xm N a 0 mem = some (.inl none, mem) := by
    refine ok_eq ?_
    unfold m_AL_rangeCheckForAdd
    refine ok_gI (sAL_hd H) rfl ?_
    rw [if_neg (i_nn (by omega)), if_neg (by decide)]
    exact ok_me
  refine ok_eV hr ?_
  refine ok_gI (sAL_hd H) rfl ?_
  refine ok_p H 0 rfl rfl rfl fun m H1 S1 => ?_
  have H1 : Hp (sAL a q (mc + 1) cap es ++ F) m := H1
  refine ok_gI (sAL_hd H1) rfl ?_
  refine ok_gR (sAL_hd H1) rfl ?_
  refine ok_lenQ (sAL_ar hX hw H1) (Or.inl rfl) ?_
  rw [sAr_len hl]
  have fin : ∀ m3 q3 c3, Hp (sHd a q3 (mc + 1) es.length :: (q3, sAr c3 es) :: F) m3 → es.length < c3 → c3 ≤ 1000000 → (∀ e ∈ es, kStOk xm m3 2 (some e) = true) → kStOk xm m3 2 (some x) = true → dOk (m_AL_add_0_38 xm N a 0 x (Int32.ofNat es.length) q3 m3) (rV fun m => Hp (sAL a q3 (mc + 1) c3 (x :: es) ++ F) m ∧ St xm m3 m 0 0) := by
    intro m3 q3 c3 H5 h1 h2 h3 h4
    unfold m_AL_add_0_38
    have e0 : (0 : Int32).toNatClampNeg = 0 := by decide
    have e01 : ((0 : Int32) + 1).toNatClampNeg = 1 := by decide
    rw [Int32.sub_zero]
    refine ok_cpyQ H5 (H5.look 1 rfl) (Or.inl (H5.ge 1 rfl)) 1 rfl (Or.inl rfl) (Or.inl rfl) ?_ ?_ fun m4 H6 S6 => ?_
    · unfold kOkR
      rw [i_nat (by omega), sAr_len (by omega), e0, e01]
      simp only [i_nn (show es.length < 2 ^ 31 by omega)]
      have d0 : decide ((0 : Int32) < 0) = false := by decide
      have d1 : decide ((0 : Int32) + 1 < 0) = false := by decide
      rw [d0, d1]
      simp only [decide_false, Bool.not_false, Bool.true_and, Bool.and_eq_true, decide_eq_true_eq]
      omega
    · intro z hz
      exact sAr_ok h3 z (List.mem_of_mem_drop (List.mem_of_mem_take hz))
    · rw [i_nat (by omega), e0, e01] at H6
      refine ok_aS H6 1 rfl (Or.inl rfl) ?_ (S6.ok h4) fun m5 H7 S7 => ?_
      · rw [kCpy_len _ _ (by rw [sAr_len (by omega)]; omega) (by rw [sAr_len (by omega)]; omega), sAr_len (by omega)]
        exact i_inB (i := 0) (by omega) (by omega)
      · refine ok_p H7 0 rfl rfl rfl fun m6 H8 S8 => ?_
        refine ok_V ⟨?_, S6.trans (S7.trans S8)⟩
        rw [i_add1] at H8
        rw [sAL_pos (by omega), e1]
        have e5 : (kCpy (es.map some ++ List.replicate (c3 - es.length) none : List (Option Nat)) (es.map some ++ List.replicate (c3 - es.length) none) 0 1 es.length).set (0 : Int32).toNatClampNeg (some x) = (x :: es).map some ++ List.replicate (c3 - (x :: es).length) none := by
          rw [e0]
          unfold kCpy
          obtain ⟨k, hk⟩ : ∃ k, c3 - es.length = k + 1 := ⟨c3 - es.length - 1, by omega⟩
          rw [List.drop_zero, e1, hk, show c3 - (es.length + 1) = k by omega]
          have a2 : (es.map some ++ List.replicate (k + 1) none : List (Option Nat)).drop (1 + es.length) = List.replicate k none := by
            rw [List.drop_append, List.drop_eq_nil_of_le (by simp)]
            simp
          have a3 : (es.map some ++ List.replicate (k + 1) none : List (Option Nat)).take es.length = es.map some := List.take_left' (by simp)
          obtain ⟨z, hz⟩ : ∃ z, (es.map some ++ List.replicate (k + 1) none : List (Option Nat)).take 1 = [z] := List.length_eq_one_iff.mp (by rw [List.length_take, List.length_append, List.length_replicate]; omega)
          rw [a2, a3, hz]
          rfl
        have H9 : Hp (sHd a q3 (mc + 1) (es.length + 1) :: (q3, .inr (.inr (2, (kCpy (es.map some ++ List.replicate (c3 - es.length) none : List (Option Nat)) (es.map some ++ List.replicate (c3 - es.length) none) 0 1 es.length).set (0 : Int32).toNatClampNeg (some x)))) :: F) m6 := H8
        rw [e5] at H9
        exact H9
  refine ok_if (fun g => ?_) (fun g => ?_)
  · have g := (i_eq (by omega) (by omega)).mp g
    refine ok_rc (sAL_hd H1) ?_
    have hg := kGr_pos (show cap < es.length + 1 by omega)
    have hg2 := kGr_le (cap := cap) (k := es.length + 1) (by omega) (by omega)
    have key2 : dOk (m_AL_grow_0 xm N a m) (rR fun p m2 => Hp (sHd a p (mc + 1) es.length :: (p, sAr (kGr cap (es.length + 1)) es) :: F) m2 ∧ St xm m m2 1 (kGr cap (es.length + 1))) := by
      unfold m_AL_grow_0
      refine ok_gI (sAL_hd H1) rfl ?_
      refine ok_rc (sAL_hd H1) ?_
      rw [i_add1]
      refine ok_cR (al_grow1 hX hw H1 (by omega) (by omega) (fun e he => S1.ok (hE e he))) fun p m2 h => ok_R h
    refine ok_cR key2 fun p m2 h => ?_
    obtain ⟨H2, S2⟩ := h
    refine ok_mono (fin m2 p _ H2 (by omega) (by omega) (fun e he => S2.ok (S1.ok (hE e he))) (S2.ok (S1.ok hx))) ?_
    rintro r ⟨h1, H3, S3⟩
    refine ⟨h1, p, ?_, ?_, ?_⟩
    · unfold kAc
      rw [if_pos g]
      exact H3
    · unfold kAc
      rw [if_pos g]
      exact ⟨by omega, by omega, fun z => by omega⟩
    · unfold kAs
      rw [if_pos g]
      exact (S1.trans (S2.trans S3)).mono (by omega) (by omega)
  · have g : es.length ≠ cap := fun z => g ((i_eq (by omega) (by omega)).mpr z)
    have H2 := H1
    rw [sAL_pos (by omega)] at H2
    refine ok_mono (fin m q cap H2 (by omega) (by have := hw.2.1; omega) (fun e he => S1.ok (hE e he)) (S1.ok hx)) ?_
    rintro r ⟨h1, H3, S3⟩
    refine ⟨h1, q, ?_, ?_, ?_⟩
    · unfold kAc
      rw [if_neg g]
      exact H3
    · unfold kAc
      rw [if_neg g]
      exact ⟨by omega, hw.2.1, hw.2.2⟩
    · unfold kAs
      rw [if_neg g]
      exact (S1.trans S3).mono (by omega) (by omega)
end KE2
