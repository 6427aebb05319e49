/-! ===== texts, exactly; seen ===== -/
theorem take_setN {l : List Int32} {n : Nat} {y : Int32} (h : n < l.length) : (l.set n y).take (n + 1) = l.take n ++ [y] := by
  apply List.ext_getElem?
  intro i
  rw [List.getElem?_take]
  rcases Nat.lt_trichotomy i n with h1 | h1 | h1
  · rw [if_pos (by omega), List.getElem?_set_ne (by omega), List.getElem?_append_left (by rw [List.length_take]; omega), List.getElem?_take, if_pos h1]
  · subst h1
    rw [if_pos (by omega), List.getElem?_set_self h, List.getElem?_append_right (by rw [List.length_take]; omega), List.length_take, show i - min i l.length = 0 by omega]
    rfl
  · rw [if_neg (by omega), List.getElem?_eq_none (by rw [List.length_append, List.length_take, List.length_singleton]; omega)]
theorem aSg_id {x : Int32} (h : aSg x) : Int8.toInt32 (Int32.toInt8 (Int8.toInt32 (Int32.toInt8 x))) = x := by
  rcases h with rfl | rfl | rfl | rfl | rfl <;> decide
section GH
variable {xm : Nat → Option kE} {mem : kM} {N : Nat} {Ls : List kSg} {T : kO × kM → Prop}
theorem asb_ensureE {p b : Nat} {xs : List Int32} {n : Nat} (hn : n < 24) (hB : sBy xs n) (H : HpS (sSB p b xs n :: Ls) mem) : dOk (m_ASB_ensureCapacityInternal xm N p (Int32.ofNat (n + 1)) mem) (rV fun m => ∃ b' xs', HpS (sSB p b' xs' n :: Ls) m ∧ sBy xs' (n + 1) ∧ xs'.take n = xs.take n ∧ St xm mem m 1 34) := by
  obtain ⟨hl, hle, hf⟩ := hB
  have h0 : kLook xm mem p = some (.inl (1, [.ref b, .int 0, .int 0, .int (Int32.ofNat n)])) := H.look 0 0 rfl rfl
  have h1 : kLook xm mem b = some (.inr (.inl (1, xs))) := H.look 0 1 rfl rfl
  have e0 : ∀ x : Int32, x >>> ((0 : Int32) &&& 31) = x := by
    intro x
    have : ((0 : Int32) &&& 31) = 0 := by decide
    rw [this, Int32.shiftRight_zero]
  have e1 : ∀ x : Int32, x <<< ((0 : Int32) &&& 31) = x := by
    intro x
    have : ((0 : Int32) &&& 31) = 0 := by decide
    rw [this, Int32.shiftLeft_zero]
  unfold m_ASB_ensureCapacityInternal
  refine ok_gR h0 rfl ?_
  refine ok_lenI h1 (by decide) ?_
  refine ok_gI h0 rfl ?_
  rw [e0]
  by_cases hc : n + 1 ≤ xs.length
  · have : ¬ 0 < Int32.ofNat (n + 1) - Int32.ofNat xs.length := by
      intro z
      rw [Int32.lt_iff_toInt_lt, Int32.toInt_sub, i_toI (by omega), i_toI (by omega)] at z
      have e : (0 : Int32).toInt = 0 := by decide
      rw [Int.bmod_eq_of_le (by omega) (by omega)] at z
      omega
    rw [if_neg this]
    exact ok_V ⟨b, xs, H, ⟨hl, hc, hf⟩, rfl, St.refl.mono (by omega) (by omega)⟩
  · have hx : xs.length = 16 := by omega
    have hn16 : n = 16 := by omega
    subst hn16
    rw [hx, if_pos (by decide)]
    refine ok_gR h0 rfl ?_
    refine ok_rc h0 ?_
    have hcap : m_ASB_newCapacity xm N p (Int32.ofNat (16 + 1)) mem = some (.inl (some (.int 34)), mem) := by
      refine ok_eq ?_
      unfold m_ASB_newCapacity
      refine ok_gR h0 rfl ?_
      refine ok_lenI h1 (by decide) ?_
      refine ok_gI h0 rfl ?_
      refine ok_gI h0 rfl ?_
      rw [hx]
      have hnl := as_len (xm := xm) (N := N) (mem := mem) (c := 16) (g := 1) (h := 18) (by decide) (by decide)
      refine ok_eI (show m_AS_newLength xm N (Int32.ofNat 16) ((Int32.ofNat (16 + 1) <<< ((0 : Int32) &&& 31)) - Int32.ofNat 16) (Int32.ofNat 16 + ((2 : Int32) <<< ((0 : Int32) &&& 31))) mem = some (.inl (some (.int (Int32.ofNat (16 + max 1 18)))), mem) from hnl) ?_
      rw [if_neg (by decide)]
      refine ok_gI h0 rfl ?_
      exact ok_me
    refine ok_eI hcap ?_
    refine ok_gI h0 rfl ?_
    rw [e1]
    have hcp : dOk (m_Ars_copyOf_0 xm N b 34 mem) (rR fun q m => HpS ([(q, .inr (.inl (1, xs ++ List.replicate 18 0)))] :: sSB p b xs 16 :: Ls) m ∧ St xm mem m 1 34) := by
      unfold m_Ars_copyOf_0
      refine ok_lenI h1 (by decide) ?_
      rw [hx, if_neg (by decide)]
      refine os_nI (n := 34) xm H (by decide) fun m1 q H1 S1 => ?_
      refine ok_lenI (H1.look 1 1 rfl rfl) (by decide) ?_
      refine ok_eI m_min ?_
      rw [hx, if_neg (by decide)]
      refine ok_cpyB H1 (H1.look 1 1 rfl rfl) (H1.ge 1 1 rfl rfl) 0 0 rfl rfl (by rw [hx]; decide) hf fun m2 H2 S2 => ?_
      refine ok_R ⟨?_, (S1.trans S2).mono (by omega) (by omega)⟩
      have e3 : kCpy xs (List.replicate 34 0) (0 : Int32).toNatClampNeg (0 : Int32).toNatClampNeg (Int32.ofNat 16).toNatClampNeg = xs ++ List.replicate 18 0 := by
        have d0 : (0 : Int32).toNatClampNeg = 0 := by decide
        have d16 : (Int32.ofNat 16).toNatClampNeg = 16 := by decide
        rw [d0, d16]
        unfold kCpy
        rw [List.take_zero, List.nil_append, List.drop_zero, List.take_of_length_le (by omega), List.drop_replicate]
      rw [e3] at H2
      exact H2
    refine ok_cR hcp fun q m1 hh => ?_
    obtain ⟨H1, S1⟩ := hh
    refine os_p H1 1 0 rfl rfl rfl rfl fun m2 H2 S2 => ?_
    refine ok_V ⟨q, xs ++ List.replicate 18 0, ?_, ⟨Or.inr (by simp [hx]), by simp [hx], ?_⟩, List.take_append_of_le_length (by omega), (S1.trans S2).mono (by omega) (by omega)⟩
    · have H3 : Hp ((q, .inr (.inl (1, xs ++ List.replicate 18 0))) :: (p, .inl (1, [.ref q, .int 0, .int 0, .int (Int32.ofNat 16)])) :: (b, .inr (.inl (1, xs))) :: Ls.flatten) m2 := H2
      have H4 := H3.perm (List.Perm.swap _ _ _)
      exact H4.sub (List.Sublist.cons_cons _ (List.Sublist.cons_cons _ (List.sublist_cons_self _ _)))
    · intro z hz
      rcases List.mem_append.mp hz with h | h
      · exact hf z h
      · rw [(List.mem_replicate.mp h).2]
        decide
theorem sb_appendE {p b : Nat} {xs : List Int32} {n : Nat} {x : Int32} (hn : n < 24) (hx : aSg x) (hB : sBy xs n) (H : HpS (sSB p b xs n :: Ls) mem) : dOk (m_SB_append xm N p x mem) (rR fun q m => q = p ∧ ∃ b' xs', HpS (sSB p b' xs' (n + 1) :: Ls) m ∧ sBy xs' (n + 1) ∧ xs'.take (n + 1) = xs.take n ++ [x] ∧ St xm mem m 1 34) := by
  unfold m_SB_append
  refine ok_rc (H.look 0 0 rfl rfl) ?_
  have key : dOk (m_ASB_append xm N p x mem) (rR fun q m => q = p ∧ ∃ b' xs', HpS (sSB p b' xs' (n + 1) :: Ls) m ∧ sBy xs' (n + 1) ∧ xs'.take (n + 1) = xs.take n ++ [x] ∧ St xm mem m 1 34) := by
    unfold m_ASB_append
    refine ok_gI (H.look 0 0 rfl rfl) rfl ?_
    refine ok_rc (H.look 0 0 rfl rfl) ?_
    rw [i_add1]
    refine ok_cV (asb_ensureE hn hB H) fun m1 hh => ?_
    obtain ⟨b', xs', H1, hB', hT, S1⟩ := hh
    refine ok_rc (H1.look 0 0 rfl rfl) ?_
    refine ok_eI (asb_latin (xs := xs') (H1.look 0 0 rfl rfl)) ?_
    rw [if_neg (show ¬ ((1 : Int32) = 0) by decide)]
    have hc : m_Lat_canEncode xm N x m1 = some (.inl (some (.int 1)), m1) := by
      unfold m_Lat_canEncode
      rw [if_neg (aSg_byte hx).2]
    refine ok_eI hc ?_
    rw [if_neg (show ¬ ((1 : Int32) = 0) by decide)]
    refine ok_gR (H1.look 0 0 rfl rfl) rfl ?_
    refine ok_gI (H1.look 0 0 rfl rfl) rfl ?_
    refine os_p H1 0 0 rfl rfl rfl rfl fun m2 H2 S2 => ?_
    rw [i_add1] at H2
    have hin : kInB (Int32.ofNat n) xs'.length = true := i_inB (by have := hB'.2.1; omega) (by rcases hB'.1 with h | h <;> omega)
    refine os_bS H2 0 1 rfl rfl hin fun m3 H3 S3 => ?_
    rw [i_nat (by omega)] at H3
    refine ok_R ⟨rfl, b', _, H3, ⟨by simpa using hB'.1, by simpa using hB'.2.1, ?_⟩, (by rw [take_setN (by have := hB'.2.1; omega), hT, aSg_id hx]), (S1.trans (S2.trans S3)).mono (by omega) (by omega)⟩
    intro z hz
    rcases List.mem_or_eq_of_mem_set hz with h | h
    · exact hB'.2.2 z h
    · rw [h]
      exact (aSg_byte hx).1
  refine ok_cR key fun q m hh => ?_
  obtain ⟨-, h⟩ := hh
  exact ok_R ⟨rfl, h⟩
theorem sb_toStringE {p b : Nat} {xs : List Int32} {n : Nat} (hn : n ≤ 24) (hB : sBy xs n) (H : HpS (sSB p b xs n :: Ls) mem) : dOk (m_SB_toString xm N p mem) (rR fun q m => ∃ z, HpS ([(q, .inl (0, [.ref z, .int 0, .int 0, .int 0])), (z, .inr (.inl (1, xs.take n)))] :: Ls) m ∧ St xm mem m 2 38) := by
  obtain ⟨hl, hle, hf⟩ := hB
  have hl34 : xs.length ≤ 34 := by rcases hl with h | h <;> omega
  unfold m_SB_toString
  refine os_n xm H fun m1 q H1 S1 => ?_
  have key : dOk (m_Str_new_1 xm N q p m1) (rV fun m => ∃ z, HpS ([(q, .inl (0, [.ref z, .int 0, .int 0, .int 0])), (z, .inr (.inl (1, xs.take n)))] :: Ls) m ∧ St xm m1 m 1 34) := by
    unfold m_Str_new_1
    have key2 : dOk (m_Str_new_0 xm N q p m1) (rV fun m => ∃ z, HpS ([(q, .inl (0, [.ref z, .int 0, .int 0, .int 0])), (z, .inr (.inl (1, xs.take n)))] :: Ls) m ∧ St xm m1 m 1 34) := by
      unfold m_Str_new_0
      refine ok_rc (H1.look 1 0 rfl rfl) ?_
      have hgv : m_ASB_getValue xm N p m1 = some (.inl (some (.ref b)), m1) := by
        refine ok_eq ?_
        unfold m_ASB_getValue
        exact ok_gR (H1.look 1 0 rfl rfl) rfl ok_me
      refine ok_eR hgv ?_
      refine ok_rc (H1.look 1 0 rfl rfl) ?_
      have hln : m_SB_length xm N p m1 = some (.inl (some (.int (Int32.ofNat n))), m1) := by
        refine ok_eq ?_
        unfold m_SB_length
        refine ok_rc (H1.look 1 0 rfl rfl) ?_
        refine ok_eI (x := Int32.ofNat n) (m := m1) ?_ ok_me
        refine ok_eq ?_
        unfold m_ASB_length
        exact ok_gI (H1.look 1 0 rfl rfl) rfl ok_me
      refine ok_eI hln ?_
      refine ok_rc (H1.look 1 0 rfl rfl) ?_
      refine ok_eI (asb_latin (xs := xs) (H1.look 1 0 rfl rfl)) ?_
      rw [if_neg (show ¬ ((1 : Int32) = 0) by decide)]
      refine os_p H1 0 0 rfl rfl rfl rfl fun m2 H2 S2 => ?_
      have h1 : kLook xm m2 b = some (.inr (.inl (1, xs))) := H2.look 1 1 rfl rfl
      have h2 : 1000 ≤ b := H2.ge (e := .inr (.inl (1, xs))) 1 1 rfl rfl
      have hcr : dOk (m_Ars_copyOfRange xm N b 0 (Int32.ofNat n) m2) (rR fun z m => (HpS ([(z, .inr (.inl (1, xs.take n)))] :: [(q, .inl (0, [.null, .int 0, .int 0, .int 0]))] :: sSB p b xs n :: Ls) m) ∧ St xm m2 m 1 34) := by
        unfold m_Ars_copyOfRange
        rw [if_pos rfl]
        refine ok_lenI h1 (by decide) ?_
        refine ok_if (fun e => ?_) (fun e => ?_)
        · refine ok_sp9004 xm H2 h1 h2 hf fun m3 z H3 S3 => ?_
          refine ok_ccA (H3.look 0 0 rfl rfl) (H3.ge 0 0 rfl rfl) ?_
          have e' : n = xs.length := (i_eq (by omega) (by omega)).mp e
          exact ok_R ⟨by rw [List.take_of_length_le (by omega)]; exact H3, S3.mono (by omega) (by omega)⟩
        · unfold m_Ars_copyOfRange_10
          have hcb : dOk (m_Ars_copyOfRangeByte xm N b 0 (Int32.ofNat n) m2) (rR fun z m => (HpS ([(z, .inr (.inl (1, xs.take n)))] :: [(q, .inl (0, [.null, .int 0, .int 0, .int 0]))] :: sSB p b xs n :: Ls) m) ∧ St xm m2 m 1 34) := by
            unfold m_Ars_copyOfRangeByte
            have hck : m_Ars_checkLength xm N 0 (Int32.ofNat n) m2 = some (.inl none, m2) := by
              unfold m_Ars_checkLength
              rw [if_neg (i_nn (by omega))]
            refine ok_eV hck ?_
            rw [Int32.sub_zero]
            refine os_nI (n := n) xm H2 (by omega) fun m3 z H3 S3 => ?_
            refine ok_lenI (H3.look 2 1 rfl rfl) (by decide) ?_
            refine ok_eI m_min ?_
            rw [Int32.sub_zero]
            have em : (if Int32.ofNat n < Int32.ofNat xs.length then Int32.ofNat n else Int32.ofNat xs.length) = Int32.ofNat n := by
              by_cases h : n < xs.length
              · rw [if_pos ((i_lt (by omega) (by omega)).mpr h)]
              · rw [if_neg (fun w => h ((i_lt (by omega) (by omega)).mp w)), show xs.length = n by omega]
            rw [em]
            refine ok_cpyB H3 (H3.look 2 1 rfl rfl) (H3.ge 2 1 rfl rfl) 0 0 rfl rfl ?_ hf fun m4 H4 S4 => ?_
            · unfold kOkR
              have d0 : (0 : Int32).toNatClampNeg = 0 := by decide
              rw [d0, i_nat (by omega)]
              simp [i_nn (show n < 2 ^ 31 by omega), hle]
            · refine ok_R ⟨?_, (S3.trans S4).mono (by omega) (by omega)⟩
              have e3 : kCpy xs (List.replicate n 0) (0 : Int32).toNatClampNeg (0 : Int32).toNatClampNeg (Int32.ofNat n).toNatClampNeg = xs.take n := by
                have d0 : (0 : Int32).toNatClampNeg = 0 := by decide
                rw [d0, i_nat (by omega)]
                unfold kCpy
                rw [List.take_zero, List.nil_append, List.drop_zero, Nat.zero_add, List.drop_of_length_le (by simp), List.append_nil]
              rw [e3] at H4
              exact H4
          exact ok_cR hcb fun z m hh => ok_R hh
      refine ok_cR hcr fun z m3 hh => ?_
      obtain ⟨H3, S3⟩ := hh
      refine os_p H3 1 0 rfl rfl rfl rfl fun m4 H4 S4 => ?_
      refine ok_V ⟨z, ?_, (S2.trans (S3.trans S4)).mono (by omega) (by omega)⟩
      have H5 : Hp ((z, .inr (.inl (1, xs.take n))) :: (q, .inl (0, [.ref z, .int 0, .int 0, .int 0])) :: (p, .inl (1, [.ref b, .int 0, .int 0, .int (Int32.ofNat n)])) :: (b, .inr (.inl (1, xs))) :: Ls.flatten) m4 := H4
      exact (H5.perm (List.Perm.swap _ _ _)).sub (List.Sublist.cons_cons _ (List.Sublist.cons_cons _ ((List.sublist_cons_self _ _).trans (List.sublist_cons_self _ _))))
    exact ok_cV key2 fun m hh => ok_V hh
  refine ok_cV key fun m2 hh => ?_
  obtain ⟨z, hh1, hh2⟩ := hh
  refine ok_R ⟨z, hh1, (S1.trans hh2).mono (by omega) ?_⟩
  show 4 + 34 ≤ 38
  decide
end GH
/-- the sign of a loop, seen from this side -/
def zSg (f : kLf) (x : Int32) : Int32 := if f.1 = 3 then 111 else if f.1 = 4 then (if x = f.2.2.2.2.1 then 60 else 62) else if f.1 = 5 then (if x = f.2.2.2.2.1 then 62 else 60) else if zSm f x = true then 118 else 45
def zSn (G : Nat → Int32) : Nat → Nat → List Int32
  | 0, _ => []
  | k + 1, d => G d :: zSn G k (d + 1)
def zSeen (lo : List kLf) (x : Int32) (vs : List Int32) : List Int32 := zSn (fun p => zSg (zLoop lo (nAt vs p)) x) vs.length 0
theorem zSg_ok {f : kLf} {x : Int32} : aSg (zSg f x) := by
  unfold zSg aSg
  split
  · decide
  · split
    · split <;> decide
    · split
      · split <;> decide
      · split <;> decide
section GI
variable {xm : Nat → Option kE} {mem m0 : kM} {F A : kSg} {N k nb c0 s0 c1 s1 cap0 n M0 C S q cap i a j p : Nat} {jo x y z t v : Int32} {lo : List kLf} {bo pa vl vr ya vs : List Int32} {ps : List aS} {rs : List (List Int32)} {sc : Nat → Int32} {st : aS} {T : Nat → Int32} {h : kHs}
theorem q_signOf (I : INV nb jo lo bo pa ps (vl, vr, rs, ya, sc) T h) (hlo : lo.length < 19998) (hv : aId lo.length v) (h2 : cap ≤ 119988) (hz : ∀ i, cap ≤ i → i < 119988 → T i = 0) (H : HpT (cE nb jo pa (vl, vr, rs, ya, sc) q cap T h) F mem) : m_K_signOf xm N 1000 v mem = some (.inl (some (.int (zSg (zLoop lo v) (sc 4)))), mem) := by
  have hsm := q_smooth (xm := xm) (N := N) I hlo hv h2 hz H
  obtain ⟨i, rfl, hi⟩ := hv
  rw [zLoop_at hi (by omega)] at hsm ⊢
  obtain ⟨f0, -, -, -, -, -⟩ := I.2.1 i lo[i] (List.getElem?_eq_getElem hi)
  refine ok_eq ?_
  unfold m_K_signOf m_K_signOf_28 m_K_signOf_38
  refine t_gR H 0 rfl rfl ?_
  refine t_rc H 10 rfl ?_
  refine ok_eI (lE_get (r := i) (w := 0) h2 (by omega) (by decide) hz H) ?_
  rw [f0]
  unfold zSg
  by_cases g3 : lo[i].1 = 3
  · rw [if_pos g3, if_pos g3]
    exact ok_me
  · rw [if_neg g3, if_neg g3]
    by_cases g4 : lo[i].1 = 4
    · rw [if_pos g4, if_pos g4, if_pos g4]
      refine t_rc H 0 rfl ?_
      refine ok_eI (q_asMade I hlo hi h2 hz H) ?_
      by_cases g : sc 4 = lo[i].2.2.2.2.1
      · rw [if_pos g, if_pos rfl, if_pos g]
        exact ok_me
      · rw [if_neg g, if_neg (show ¬ ((1 : Int32) = 0) by decide), if_neg g]
        exact ok_me
    · rw [if_neg g4, if_neg g4]
      by_cases g5 : lo[i].1 = 5
      · rw [if_pos g5, if_pos g5, if_neg g4]
        refine t_rc H 0 rfl ?_
        refine ok_eI (q_asMade I hlo hi h2 hz H) ?_
        by_cases g : sc 4 = lo[i].2.2.2.2.1
        · rw [if_pos g, if_neg (show ¬ ((0 : Int32) = 1) by decide), if_pos g]
          exact ok_me
        · rw [if_neg g, if_pos rfl, if_neg g]
          exact ok_me
      · rw [if_neg g5, if_neg g5, if_neg g4]
        refine t_rc H 0 rfl ?_
        refine ok_eI hsm ?_
        by_cases g : zSm lo[i] (sc 4) = true
        · rw [if_pos g, if_neg (show ¬ ((1 : Int32) = 0) by decide), if_pos g]
          exact ok_me
        · rw [if_neg g, if_pos rfl, if_neg g]
          exact ok_me
theorem q_seen17 (hN : 120 ≤ N) (I : INV nb jo lo bo pa ps (vl, vr, rs, ya, sc) T h) (hlo : lo.length < 19998) (h2 : cap ≤ 119988) (hz : ∀ i, cap ≤ i → i < 119988 → T i = 0) (tA : tOk (cE nb jo pa (vl, vr, rs, ya, sc) q cap T h) A) (hj : (cE nb jo pa (vl, vr, rs, ya, sc) q cap T h)[j]? = some (a, nE (a + 1) vs.length)) (hb : (cE nb jo pa (vl, vr, rs, ya, sc) q cap T h)[j + 1]? = some (a + 1, cPf 24 vs)) (h24 : vs.length ≤ 24) (hid : ∀ v ∈ vs, aId lo.length v) : ∀ (k d f b : Nat) (xs : List Int32) (mem : kM), d + k = vs.length → k < f → sBy xs d → HpS (sSB p b xs d :: [A ++ F]) mem → dOk (m_K_seen_17 xm N f 1000 a p (Int32.ofNat d) mem) (rR fun v m => ∃ z, HpS ([(v, .inl (0, [.ref z, .int 0, .int 0, .int 0])), (z, .inr (.inl (1, xs.take d ++ zSn (fun p => zSg (zLoop lo (nAt vs p)) (sc 4)) k d)))] :: [A ++ F]) m ∧ St xm mem m (k + 2) (34 * k + 38)) := by
  have un : ∀ {b : Nat} {xs : List Int32} {n : Nat} {mem : kM}, HpS (sSB p b xs n :: [A ++ F]) mem → HpT (cE nb jo pa (vl, vr, rs, ya, sc) q cap T h) F mem := by
    intro b xs n mem H
    refine ⟨A, tA, Hp.sub H ?_⟩
    simp only [List.flatten_cons, List.flatten_nil, List.append_nil]
    exact List.sublist_append_right _ _
  intro k
  induction k with
  | zero =>
    intro d f b xs mem hd hf hB H
    obtain ⟨f, rfl⟩ : ∃ f', f = f' + 1 := ⟨f - 1, by omega⟩
    rw [m_K_seen_17]
    refine t_gE (un H) j hj rfl ?_
    rw [if_neg (fun z => by have := (i_lt (by omega) (by omega)).mp z; omega)]
    refine ok_rc (H.look 0 0 rfl rfl) ?_
    refine ok_cR (sb_toStringE (by omega) hB H) fun v m hh => ?_
    obtain ⟨z, H1, S1⟩ := hh
    refine ok_R ⟨z, ?_, S1.mono (by omega) (by omega)⟩
    show HpS ([(v, .inl (0, [.ref z, .int 0, .int 0, .int 0])), (z, .inr (.inl (1, xs.take d ++ [])))] :: [A ++ F]) m
    rw [List.append_nil]
    exact H1
  | succ k ih =>
    intro d f b xs mem hd hf hB H
    obtain ⟨f, rfl⟩ : ∃ f', f = f' + 1 := ⟨f - 1, by omega⟩
    have hm : nAt vs d ∈ vs := by
      unfold nAt
      rw [if_pos (by omega), List.getD_eq_getElem?_getD, List.getElem?_eq_getElem (show vs.length - 1 - d < vs.length by omega)]
      exact List.getElem_mem _
    rw [m_K_seen_17]
    have H1 := un H
    refine t_gE H1 j hj rfl ?_
    rw [if_pos ((i_lt (by omega) (by omega)).mpr (by omega))]
    refine t_rc H1 j hj ?_
    refine ok_eI (nE_at (p := d) (by omega) h24 H1 hj hb) ?_
    refine t_rc H1 0 rfl ?_
    refine ok_eI (q_signOf I hlo (hid _ hm) h2 hz H1) ?_
    refine ok_rc (H.look 0 0 rfl rfl) ?_
    refine ok_cR (sb_appendE (by omega) zSg_ok hB H) fun u m hh => ?_
    obtain ⟨-, b', xs', H2, hB', hT, S2⟩ := hh
    rw [i_add1]
    refine ok_mono (ih (d + 1) f b' xs' m (by omega) (by omega) hB' H2) ?_
    rintro w ⟨v, q1, z, q2, q3⟩
    refine ⟨v, q1, z, ?_, (S2.trans q3).mono (by omega) (by omega)⟩
    rw [hT, List.append_assoc] at q2
    exact q2
theorem q_seen (hN : 120 ≤ N) (hlo : lo.length ≤ 12300) (D : KS xm nb jo lo bo pa ps (vl, vr, rs, ya, sc) F 0 0 m0 cap0 mem) : dOk (m_K_seen xm N 1000 x mem) (rR fun v m => ∃ z, KC xm (nb, jo, lo, bo, pa, ps, (vl, vr, rs, ya, sc)) ((v, .inl (0, [.ref z, .int 0, .int 0, .int 0])) :: (z, .inr (.inl (1, zSeen lo (sc 4) (if x = 0 then vl else vr)))) :: F) 30 900 m0 cap0 m) := by
  obtain ⟨T, h, I, D⟩ := D
  have D0 := D
  have hl : vl.length ≤ 24 := I.sw.1
  have hr : vr.length ≤ 24 := I.sw.2.1
  have il := I.1.2.1.2.2.1
  have ir := I.1.2.1.2.2.2.1
  dsimp only at il ir
  unfold m_K_seen
  refine x_rc D 0 (fun _ _ => ⟨_, rfl⟩) ?_
  refine ok_eR (q_needle D) ?_
  obtain ⟨q, cap, c, s, k1, k2, ⟨hz, A, tA, HA⟩, S0, k3, k4⟩ := D
  have HS : HpS [A ++ F] mem := by
    unfold HpS
    simpa using HA
  have fin : ∀ (a j : Nat) (vs : List Int32), (cE nb jo pa (vl, vr, rs, ya, sc) q cap T h)[j]? = some (a, nE (a + 1) vs.length) → (cE nb jo pa (vl, vr, rs, ya, sc) q cap T h)[j + 1]? = some (a + 1, cPf 24 vs) → vs.length ≤ 24 → (∀ v ∈ vs, aId lo.length v) → dOk (dN mem (.inl (1, [.null, .int 0, .int 0, .int 0])) fun m6 p6 => dCV (m_SB_new xm N p6 m6) fun m10 => m_K_seen_17 xm N N 1000 a p6 0 m10) (rR fun v m => ∃ z, KC xm (nb, jo, lo, bo, pa, ps, (vl, vr, rs, ya, sc)) ((v, .inl (0, [.ref z, .int 0, .int 0, .int 0])) :: (z, .inr (.inl (1, zSeen lo (sc 4) vs))) :: F) 30 900 m0 cap0 m) := by
    intro a j vs hj hb h24 hid
    refine os_n xm HS fun m1 p H1 S1 => ?_
    refine ok_cV (sb_new H1) fun m2 hh => ?_
    obtain ⟨b, H2, S2⟩ := hh
    refine ok_mono (show dOk (m_K_seen_17 xm N N 1000 a p 0 m2) _ from q_seen17 (xm := xm) hN I (by omega) k2 hz tA hj hb h24 hid vs.length 0 N b _ m2 (by omega) (by omega) sBy0 H2) ?_
    rintro w ⟨v, q1, z, q2, q3⟩
    refine ⟨v, q1, z, T, h, I, q, cap, c + (1 + (1 + (vs.length + 2))), s + (4 + (16 + (34 * vs.length + 38))), k1, k2, ⟨hz, A, tA, ?_⟩, S0.trans (S1.trans (S2.trans q3)), by omega, by omega⟩
    have H5 : Hp ([(v, .inl (0, [.ref z, .int 0, .int 0, .int 0])), (z, .inr (.inl (1, zSeen lo (sc 4) vs)))] ++ (A ++ F)) w.2 := by
      have H6 : Hp ([[(v, .inl (0, [.ref z, .int 0, .int 0, .int 0])), (z, .inr (.inl (1, zSeen lo (sc 4) vs)))], A ++ F].flatten) w.2 := q2
      simpa using H6
    refine H5.perm ?_
    rw [← List.append_assoc]
    exact (List.Perm.append_right F List.perm_append_comm).trans (by rw [List.append_assoc]; exact List.Perm.refl _)
  by_cases g : x = 0
  · rw [if_pos g, if_pos g]
    exact fin 1004 4 vl rfl rfl hl il
  · rw [if_neg g, if_neg g]
    exact fin 1006 6 vr rfl rfl hr ir
end GI
