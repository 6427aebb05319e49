/-! ===== texts: StringBuilder, toString ===== -/
/-- a builder of texts: its object, its array of bytes -/
def sSB (p b : Nat) (xs : List Int32) (n : Nat) : kSg := [(p, .inl (1, [.ref b, .int 0, .int 0, .int (Int32.ofNat n)])), (b, .inr (.inl (1, xs)))]
def sBy (xs : List Int32) (n : Nat) : Prop := (xs.length = 16 ∨ xs.length = 34) ∧ n ≤ xs.length ∧ ∀ z ∈ xs, fits .byte (.int z) = true
def aSg (x : Int32) : Prop := x = 45 ∨ x = 60 ∨ x = 62 ∨ x = 111 ∨ x = 118
section KX
variable {xm : Nat → Option kE} {mem : kM} {N : Nat} {Ls : List kSg} {T : kO × kM → Prop}
theorem ok_cpyB {s0 d0 : Nat} {sp dp n : Int32} {us ys : List Int32} {K : kM → dRes} {A : kSg} (H : HpS Ls mem) (hs : kLook xm mem s0 = some (.inr (.inl (1, us)))) (hs1 : 1000 ≤ s0) (i j : Nat) (hi : Ls[i]? = some A) (hj : A[j]? = some (d0, .inr (.inl (1, ys)))) (hr : kOkR sp dp n us.length ys.length = true) (hb : ∀ z ∈ us, fits .byte (.int z) = true) (h : ∀ m, HpS (Ls.set i (A.set j (d0, .inr (.inl (1, kCpy us ys sp.toNatClampNeg dp.toNatClampNeg n.toNatClampNeg))))) m → St xm mem m 0 0 → dOk (K m) T) : dOk (dCpy xm mem s0 sp d0 dp n K) T := by
  have hl : j < A.length := (List.getElem?_eq_some_iff.mp hj).1
  have hd := H.look (xm := xm) i j hi hj
  have hd1 := H.ge i j hi hj
  have hall : ((us.drop sp.toNatClampNeg).take n.toNatClampNeg).all (fun x => fits .byte (.int x)) = true := List.all_eq_true.mpr fun z hz => hb z (List.mem_of_mem_drop (List.mem_of_mem_take hz))
  have e : kSpec xm 9001 0 [] [.int n, .int dp, .ref d0, .int sp, .ref s0] mem = some (.inl (0 + 3, [], [], mem.set (d0 - 1000) (.inr (.inl (1, kCpy us ys sp.toNatClampNeg dp.toNatClampNeg n.toNatClampNeg))))) := by
    simp only [kSpec, hs, hd, hs1, hd1, hr, hall, kNx, decide_true, Bool.and_self, Bool.true_and, beq_self_eq_true, Bool.or_true, if_true]
  unfold dCpy
  simp only [e]
  have H0 := H.foc i hi
  have h0 : (A ++ (Ls.eraseIdx i).flatten)[j]? = some (d0, .inr (.inl (1, ys))) := by rw [List.getElem?_append_left hl]; exact hj
  have H1 := H0.set (e' := .inr (.inl (1, kCpy us ys sp.toNatClampNeg dp.toNatClampNeg n.toNatClampNeg))) j h0
  rw [List.set_append_left _ _ hl] at H1
  refine h _ (HpS.un i hi H1) (St.set hd1 (H0.get j h0) ?_ rfl ?_)
  · simp only [kSz]
    unfold kOkR at hr
    simp only [Bool.and_eq_true, decide_eq_true_eq] at hr
    exact kCpy_len us ys hr.1.2 hr.2
  · intro c f g e
    cases e
theorem ok_sp9004 {a : Nat} {ys : List Int32} {K : kM → Nat → dRes} (xm : Nat → Option kE) (H : HpS Ls mem) (hk : kLook xm mem a = some (.inr (.inl (1, ys)))) (ha : 1000 ≤ a) (hb : ∀ z ∈ ys, fits .byte (.int z) = true) (h : ∀ m p, HpS ([(p, .inr (.inl (1, ys)))] :: Ls) m → St xm mem m 1 ys.length → dOk (K m p) T) : dOk (dSp xm 9004 mem a K) T := by
  have hall : ys.all (fun x => fits .byte (.int x)) = true := List.all_eq_true.mpr fun z hz => hb z hz
  have e : kSpec xm 9004 0 [] [.ref a] mem = some (.inl (0 + 3, [], [.ref (kNew mem)], mem ++ [.inr (.inl (1, ys))])) := by
    simp only [kSpec, kTopA, hk, ha, hall, kNx, decide_true, Bool.and_self, if_true]
  unfold dSp
  simp only [e]
  exact h _ _ (Hp.new _ H) (St.new _)
theorem os_bS {xs : List Int32} {r : Nat} {j x : Int32} {K : kM → dRes} {A : kSg} (H : HpS Ls mem) (i n : Nat) (hi : Ls[i]? = some A) (hn : A[n]? = some (r, .inr (.inl (1, xs)))) (hj : kInB j xs.length = true) (h : ∀ m, HpS (Ls.set i (A.set n (r, .inr (.inl (1, xs.set j.toNatClampNeg (Int8.toInt32 (Int32.toInt8 x))))))) m → St xm mem m 0 0 → dOk (K m) T) : dOk (dBS xm mem r j x K) T := by
  have hl : n < A.length := (List.getElem?_eq_some_iff.mp hn).1
  have hb := H.look (xm := xm) i n hi hn
  have hb1 := H.ge i n hi hn
  unfold dBS
  simp only [hb]
  rw [if_pos ⟨by trivial, hj, hb1⟩]
  have H0 := H.foc i hi
  have h0 : (A ++ (Ls.eraseIdx i).flatten)[n]? = some (r, .inr (.inl (1, xs))) := by rw [List.getElem?_append_left hl]; exact hn
  have H1 := H0.set (e' := .inr (.inl (1, xs.set j.toNatClampNeg (Int8.toInt32 (Int32.toInt8 x))))) n h0
  rw [List.set_append_left _ _ hl] at H1
  refine h _ (HpS.un i hi H1) (St.set hb1 (H0.get n h0) ?_ rfl ?_)
  · simp [kSz]
  · intro c f g e
    cases e
theorem sb_new {p : Nat} {v0 : Value} (H : HpS ([(p, .inl (1, [v0, .int 0, .int 0, .int 0]))] :: Ls) mem) : dOk (m_SB_new xm N p mem) (rV fun m => ∃ b, HpS (sSB p b (List.replicate 16 0) 0 :: Ls) m ∧ St xm mem m 1 16) := by
  unfold m_SB_new
  have key : dOk (m_ASB_new xm N p 16 mem) (rV fun m => ∃ b, HpS (sSB p b (List.replicate 16 0) 0 :: Ls) m ∧ St xm mem m 1 16) := by
    unfold m_ASB_new
    rw [if_neg (by decide)]
    refine os_nI (n := 16) xm H (by decide) fun m1 b H1 S1 => ?_
    refine os_p H1 1 0 rfl rfl rfl rfl fun m2 H2 S2 => ?_
    refine os_p H2 1 0 rfl rfl rfl rfl fun m3 H3 S3 => ?_
    refine ok_V ⟨b, ?_, (S1.trans (S2.trans S3)).mono (by omega) (by omega)⟩
    refine Hp.perm H3 ?_
    exact List.Perm.swap _ _ _
  exact ok_cV key fun m h => ok_V h
theorem sBy0 : sBy (List.replicate 16 0) 0 := by
  refine ⟨Or.inl (by simp), by simp, fun z hz => ?_⟩
  rw [(List.mem_replicate.mp hz).2]
  decide
theorem asb_latin {p b : Nat} {xs : List Int32} {n : Nat} (h : kLook xm mem p = some (.inl (1, [.ref b, .int 0, .int 0, .int (Int32.ofNat n)]))) : m_ASB_isLatin1 xm N p mem = some (.inl (some (.int 1)), mem) := by
  refine ok_eq ?_
  unfold m_ASB_isLatin1
  rw [if_neg (by decide)]
  refine ok_gI h rfl ?_
  rw [if_pos rfl]
  exact ok_me
theorem asb_ensure {p b : Nat} {xs : List Int32} {n : Nat} (hn : n < 24) (hB : sBy xs n) (H : HpS (sSB p b xs n :: Ls) mem) : dOk (m_ASB_ensureCapacityInternal xm N p (Int32.ofNat (n + 1)) mem) (rV fun m => ∃ b' xs', HpS (sSB p b' xs' n :: Ls) m ∧ sBy xs' (n + 1) ∧ St xm mem m 1 34) := by
  obtain ⟨hl, hle, hf⟩ := hB
  have h0 : kLook xm mem p = some (.inl (1, [.ref b, .int 0, .int 0, .int (Int32.ofNat n)])) := H.look 0 0 rfl rfl
  have h1 : kLook xm mem b = some (.inr (.inl (1, xs))) := H.look 0 1 rfl rfl
  have e0 : ∀ x : Int32, x >>> ((0 : Int32) &&& 31) = x := by
    intro x
    have : ((0 : Int32) &&& 31) = 0 := by decide
    rw [this, Int32.shiftRight_zero]
  have e1 : ∀ x : Int32, x <<< ((0 : Int32) &&& 31) = x := by
    intro x
    have : ((0 : Int32) &&& 31) = 0 := by decide
    rw [this, Int32.shiftLeft_zero]
  unfold m_ASB_ensureCapacityInternal
  refine ok_gR h0 rfl ?_
  refine ok_lenI h1 (by decide) ?_
  refine ok_gI h0 rfl ?_
  rw [e0]
  by_cases hc : n + 1 ≤ xs.length
  · have : ¬ 0 < Int32.ofNat (n + 1) - Int32.ofNat xs.length := by
      intro z
      rw [Int32.lt_iff_toInt_lt, Int32.toInt_sub, i_toI (by omega), i_toI (by omega)] at z
      have e : (0 : Int32).toInt = 0 := by decide
      rw [Int.bmod_eq_of_le (by omega) (by omega)] at z
      omega
    rw [if_neg this]
    exact ok_V ⟨b, xs, H, ⟨hl, hc, hf⟩, St.refl.mono (by omega) (by omega)⟩
  · have hx : xs.length = 16 := by omega
    have hn16 : n = 16 := by omega
    subst hn16
    rw [hx, if_pos (by decide)]
    refine ok_gR h0 rfl ?_
    refine ok_rc h0 ?_
    have hcap : m_ASB_newCapacity xm N p (Int32.ofNat (16 + 1)) mem = some (.inl (some (.int 34)), mem) := by
      refine ok_eq ?_
      unfold m_ASB_newCapacity
      refine ok_gR h0 rfl ?_
      refine ok_lenI h1 (by decide) ?_
      refine ok_gI h0 rfl ?_
      refine ok_gI h0 rfl ?_
      rw [hx]
      have hnl := as_len (xm := xm) (N := N) (mem := mem) (c := 16) (g := 1) (h := 18) (by decide) (by decide)
      refine ok_eI (show m_AS_newLength xm N (Int32.ofNat 16) ((Int32.ofNat (16 + 1) <<< ((0 : Int32) &&& 31)) - Int32.ofNat 16) (Int32.ofNat 16 + ((2 : Int32) <<< ((0 : Int32) &&& 31))) mem = some (.inl (some (.int (Int32.ofNat (16 + max 1 18)))), mem) from hnl) ?_
      rw [if_neg (by decide)]
      refine ok_gI h0 rfl ?_
      exact ok_me
    refine ok_eI hcap ?_
    refine ok_gI h0 rfl ?_
    rw [e1]
    have hcp : dOk (m_Ars_copyOf_0 xm N b 34 mem) (rR fun q m => HpS ([(q, .inr (.inl (1, xs ++ List.replicate 18 0)))] :: sSB p b xs 16 :: Ls) m ∧ St xm mem m 1 34) := by
      unfold m_Ars_copyOf_0
      refine ok_lenI h1 (by decide) ?_
      rw [hx, if_neg (by decide)]
      refine os_nI (n := 34) xm H (by decide) fun m1 q H1 S1 => ?_
      refine ok_lenI (H1.look 1 1 rfl rfl) (by decide) ?_
      refine ok_eI m_min ?_
      rw [hx, if_neg (by decide)]
      refine ok_cpyB H1 (H1.look 1 1 rfl rfl) (H1.ge 1 1 rfl rfl) 0 0 rfl rfl (by rw [hx]; decide) hf fun m2 H2 S2 => ?_
      refine ok_R ⟨?_, (S1.trans S2).mono (by omega) (by omega)⟩
      have e3 : kCpy xs (List.replicate 34 0) (0 : Int32).toNatClampNeg (0 : Int32).toNatClampNeg (Int32.ofNat 16).toNatClampNeg = xs ++ List.replicate 18 0 := by
        have d0 : (0 : Int32).toNatClampNeg = 0 := by decide
        have d16 : (Int32.ofNat 16).toNatClampNeg = 16 := by decide
        rw [d0, d16]
        unfold kCpy
        rw [List.take_zero, List.nil_append, List.drop_zero, List.take_of_length_le (by omega), List.drop_replicate]
      rw [e3] at H2
      exact H2
    refine ok_cR hcp fun q m1 hh => ?_
    obtain ⟨H1, S1⟩ := hh
    refine os_p H1 1 0 rfl rfl rfl rfl fun m2 H2 S2 => ?_
    refine ok_V ⟨q, xs ++ List.replicate 18 0, ?_, ⟨Or.inr (by simp [hx]), by simp [hx], ?_⟩, (S1.trans S2).mono (by omega) (by omega)⟩
    · have H3 : Hp ((q, .inr (.inl (1, xs ++ List.replicate 18 0))) :: (p, .inl (1, [.ref q, .int 0, .int 0, .int (Int32.ofNat 16)])) :: (b, .inr (.inl (1, xs))) :: Ls.flatten) m2 := H2
      have H4 := H3.perm (List.Perm.swap _ _ _)
      exact H4.sub (List.Sublist.cons_cons _ (List.Sublist.cons_cons _ (List.sublist_cons_self _ _)))
    · intro z hz
      rcases List.mem_append.mp hz with h | h
      · exact hf z h
      · rw [(List.mem_replicate.mp h).2]
        decide
theorem aSg_byte {x : Int32} (h : aSg x) : fits .byte (.int (Int8.toInt32 (Int32.toInt8 (Int8.toInt32 (Int32.toInt8 x))))) = true ∧ ¬ 255 < x := by
  rcases h with rfl | rfl | rfl | rfl | rfl <;> decide
theorem sb_append {p b : Nat} {xs : List Int32} {n : Nat} {x : Int32} (hn : n < 24) (hx : aSg x) (hB : sBy xs n) (H : HpS (sSB p b xs n :: Ls) mem) : dOk (m_SB_append_0 xm N p x mem) (rR fun q m => q = p ∧ ∃ b' xs', HpS (sSB p b' xs' (n + 1) :: Ls) m ∧ sBy xs' (n + 1) ∧ St xm mem m 1 34) := by
  unfold m_SB_append_0
  refine ok_rc (H.look 0 0 rfl rfl) ?_
  have key : dOk (m_ASB_append_0 xm N p x mem) (rR fun q m => q = p ∧ ∃ b' xs', HpS (sSB p b' xs' (n + 1) :: Ls) m ∧ sBy xs' (n + 1) ∧ St xm mem m 1 34) := by
    unfold m_ASB_append_0
    refine ok_gI (H.look 0 0 rfl rfl) rfl ?_
    refine ok_rc (H.look 0 0 rfl rfl) ?_
    rw [i_add1]
    refine ok_cV (asb_ensure hn hB H) fun m1 hh => ?_
    obtain ⟨b', xs', H1, hB', S1⟩ := hh
    refine ok_rc (H1.look 0 0 rfl rfl) ?_
    refine ok_eI (asb_latin (xs := xs') (H1.look 0 0 rfl rfl)) ?_
    rw [if_neg (show ¬ ((1 : Int32) = 0) by decide)]
    have hc : m_Lat_canEncode xm N x m1 = some (.inl (some (.int 1)), m1) := by
      unfold m_Lat_canEncode
      rw [if_neg (aSg_byte hx).2]
    refine ok_eI hc ?_
    rw [if_neg (show ¬ ((1 : Int32) = 0) by decide)]
    refine ok_gR (H1.look 0 0 rfl rfl) rfl ?_
    refine ok_gI (H1.look 0 0 rfl rfl) rfl ?_
    refine os_p H1 0 0 rfl rfl rfl rfl fun m2 H2 S2 => ?_
    rw [i_add1] at H2
    have hin : kInB (Int32.ofNat n) xs'.length = true := i_inB (by have := hB'.2.1; omega) (by rcases hB'.1 with h | h <;> omega)
    refine os_bS H2 0 1 rfl rfl hin fun m3 H3 S3 => ?_
    rw [i_nat (by omega)] at H3
    refine ok_R ⟨rfl, b', _, H3, ⟨by simpa using hB'.1, by simpa using hB'.2.1, ?_⟩, (S1.trans (S2.trans S3)).mono (by omega) (by omega)⟩
    intro z hz
    rcases List.mem_or_eq_of_mem_set hz with h | h
    · exact hB'.2.2 z h
    · rw [h]
      exact (aSg_byte hx).1
  refine ok_cR key fun q m hh => ?_
  obtain ⟨-, h⟩ := hh
  exact ok_R ⟨rfl, h⟩
theorem sb_toString {p b : Nat} {xs : List Int32} {n : Nat} (hn : n ≤ 24) (hB : sBy xs n) (H : HpS (sSB p b xs n :: Ls) mem) : dOk (m_SB_toString xm N p mem) (rR fun q m => HpS Ls m ∧ St xm mem m 2 38) := by
  obtain ⟨hl, hle, hf⟩ := hB
  have hl34 : xs.length ≤ 34 := by rcases hl with h | h <;> omega
  unfold m_SB_toString
  refine os_n xm H fun m1 q H1 S1 => ?_
  have key : dOk (m_Str_new_1 xm N q p m1) (rV fun m => HpS Ls m ∧ St xm m1 m 1 34) := by
    unfold m_Str_new_1
    have key2 : dOk (m_Str_new_0 xm N q p m1) (rV fun m => HpS Ls m ∧ St xm m1 m 1 34) := by
      unfold m_Str_new_0
      refine ok_rc (H1.look 1 0 rfl rfl) ?_
      have hgv : m_ASB_getValue xm N p m1 = some (.inl (some (.ref b)), m1) := by
        refine ok_eq ?_
        unfold m_ASB_getValue
        exact ok_gR (H1.look 1 0 rfl rfl) rfl ok_me
      refine ok_eR hgv ?_
      refine ok_rc (H1.look 1 0 rfl rfl) ?_
      have hln : m_SB_length xm N p m1 = some (.inl (some (.int (Int32.ofNat n))), m1) := by
        refine ok_eq ?_
        unfold m_SB_length
        refine ok_rc (H1.look 1 0 rfl rfl) ?_
        refine ok_eI (x := Int32.ofNat n) (m := m1) ?_ ok_me
        refine ok_eq ?_
        unfold m_ASB_length
        exact ok_gI (H1.look 1 0 rfl rfl) rfl ok_me
      refine ok_eI hln ?_
      refine ok_rc (H1.look 1 0 rfl rfl) ?_
      refine ok_eI (asb_latin (xs := xs) (H1.look 1 0 rfl rfl)) ?_
      rw [if_neg (show ¬ ((1 : Int32) = 0) by decide)]
      refine os_p H1 0 0 rfl rfl rfl rfl fun m2 H2 S2 => ?_
      have h1 : kLook xm m2 b = some (.inr (.inl (1, xs))) := H2.look 1 1 rfl rfl
      have h2 : 1000 ≤ b := H2.ge (e := .inr (.inl (1, xs))) 1 1 rfl rfl
      have hcr : dOk (m_Ars_copyOfRange xm N b 0 (Int32.ofNat n) m2) (rR fun z m => (∃ zs, HpS ([(z, .inr (.inl (1, zs)))] :: [(q, .inl (0, [.null, .int 0, .int 0, .int 0]))] :: sSB p b xs n :: Ls) m) ∧ St xm m2 m 1 34) := by
        unfold m_Ars_copyOfRange
        rw [if_pos rfl]
        refine ok_lenI h1 (by decide) ?_
        refine ok_if (fun e => ?_) (fun e => ?_)
        · refine ok_sp9004 xm H2 h1 h2 hf fun m3 z H3 S3 => ?_
          refine ok_ccA (H3.look 0 0 rfl rfl) (H3.ge 0 0 rfl rfl) ?_
          exact ok_R ⟨⟨xs, H3⟩, S3.mono (by omega) (by omega)⟩
        · unfold m_Ars_copyOfRange_10
          have hcb : dOk (m_Ars_copyOfRangeByte xm N b 0 (Int32.ofNat n) m2) (rR fun z m => (∃ zs, HpS ([(z, .inr (.inl (1, zs)))] :: [(q, .inl (0, [.null, .int 0, .int 0, .int 0]))] :: sSB p b xs n :: Ls) m) ∧ St xm m2 m 1 34) := by
            unfold m_Ars_copyOfRangeByte
            have hck : m_Ars_checkLength xm N 0 (Int32.ofNat n) m2 = some (.inl none, m2) := by
              unfold m_Ars_checkLength
              rw [if_neg (i_nn (by omega))]
            refine ok_eV hck ?_
            rw [Int32.sub_zero]
            refine os_nI (n := n) xm H2 (by omega) fun m3 z H3 S3 => ?_
            refine ok_lenI (H3.look 2 1 rfl rfl) (by decide) ?_
            refine ok_eI m_min ?_
            rw [Int32.sub_zero]
            have em : (if Int32.ofNat n < Int32.ofNat xs.length then Int32.ofNat n else Int32.ofNat xs.length) = Int32.ofNat n := by
              by_cases h : n < xs.length
              · rw [if_pos ((i_lt (by omega) (by omega)).mpr h)]
              · rw [if_neg (fun w => h ((i_lt (by omega) (by omega)).mp w)), show xs.length = n by omega]
            rw [em]
            refine ok_cpyB H3 (H3.look 2 1 rfl rfl) (H3.ge 2 1 rfl rfl) 0 0 rfl rfl ?_ hf fun m4 H4 S4 => ?_
            · unfold kOkR
              have d0 : (0 : Int32).toNatClampNeg = 0 := by decide
              rw [d0, i_nat (by omega)]
              simp [i_nn (show n < 2 ^ 31 by omega), hle]
            · exact ok_R ⟨⟨_, H4⟩, (S3.trans S4).mono (by omega) (by omega)⟩
          exact ok_cR hcb fun z m hh => ok_R hh
      refine ok_cR hcr fun z m3 hh => ?_
      obtain ⟨⟨zs, H3⟩, S3⟩ := hh
      refine os_p H3 1 0 rfl rfl rfl rfl fun m4 H4 S4 => ?_
      exact ok_V ⟨H4.drop.drop.drop, (S2.trans (S3.trans S4)).mono (by omega) (by omega)⟩
    exact ok_cV key2 fun m hh => ok_V hh
  refine ok_cV key fun m2 hh => ?_
  refine ok_R ⟨hh.1, (S1.trans hh.2).mono (by omega) ?_⟩
  show 4 + 34 ≤ 38
  decide
end KX
