/-! ===== lists of the JDK: what changes them ===== -/
/-- an array's length, and what was taken for it, when one more is put into a list -/
def kAc (cap n : Nat) : Nat := if n = cap then kGr cap (n + 1) else cap
def kAs (cap n : Nat) : Nat := if n = cap then kGr cap (n + 1) else 0
section KC
variable {xm : Nat → Option kE} {mem : kM} {F : List (Nat × kE)} {N a q cap x : Nat} {mc : Int32} {es : List Nat}
theorem sAL_pos (h : cap ≠ 0) : sAL a q mc cap es ++ F = sHd a q mc es.length :: (q, sAr cap es) :: F := by
  unfold sAL
  rw [if_neg h]
  rfl
theorem sAL_nil : sAL a q mc 0 es ++ F = sHd a q mc es.length :: F := rfl
theorem sAr_push (h : es.length < cap) : (es.map some ++ List.replicate (cap - es.length) none : List (Option Nat)).set es.length (some x) = (es ++ [x]).map some ++ List.replicate (cap - (es ++ [x]).length) none := by
  obtain ⟨k, hk⟩ : ∃ k, cap - es.length = k + 1 := ⟨cap - es.length - 1, by omega⟩
  rw [List.set_append_right _ _ (by simp), hk]
  simp only [List.length_map, Nat.sub_self, List.replicate_succ, List.set_cons_zero, List.map_append, List.map_cons, List.map_nil, List.length_append, List.length_cons, List.length_nil, List.append_assoc, List.cons_append, List.nil_append]
  rw [show cap - (es.length + (0 + 1)) = k by omega]
theorem al_add11 (H : Hp (sHd a q mc es.length :: (q, sAr cap es) :: F) mem) (h : es.length < cap) (hc : cap ≤ 1000000) (hx : kStOk xm mem 2 (some x) = true) :
    dOk (m_AL_add_2_11 xm N a x q (Int32.ofNat es.length) mem) (rV fun m => Hp (sHd a q mc (es ++ [x]).length :: (q, sAr cap (es ++ [x])) :: F) m ∧ St xm mem m 0 0) := by
  unfold m_AL_add_2_11
  refine ok_aS H 1 rfl (Or.inl rfl) ?_ hx fun m H1 S1 => ?_
  · rw [sAr_len (by omega)]
    exact i_inB h (by omega)
  rw [i_nat (by omega), sAr_push h] at H1
  refine ok_p H1 0 rfl rfl rfl fun m2 H2 S2 => ?_
  refine ok_V ⟨?_, S1.trans S2⟩
  rw [i_add1] at H2
  have e : (es ++ [x]).length = es.length + 1 := by simp
  rw [e]
  exact H2
theorem al_add (hX : kXok xm) (hw : sWf q cap es) (hc : cap ≤ 300000) (H : Hp (sAL a q mc cap es ++ F) mem) (hE : ∀ e ∈ es, kStOk xm mem 2 (some e) = true) (hx : kStOk xm mem 2 (some x) = true) :
    dOk (m_AL_add_1 xm N a x mem) (rI fun v m => v = 1 ∧ ∃ q', Hp (sAL a q' (mc + 1) (kAc cap es.length) (es ++ [x]) ++ F) m ∧ sWf q' (kAc cap es.length) (es ++ [x]) ∧ St xm mem m 1 (kAs cap es.length)) := by
  have hl := hw.1
  have e1 : (es ++ [x]).length = es.length + 1 := by simp
  unfold m_AL_add_1
  refine ok_gI (sAL_hd H) rfl ?_
  refine ok_p H 0 rfl rfl rfl fun m H1 S1 => ?_
  have H1 : Hp (sAL a q (mc + 1) cap es ++ F) m := H1
  refine ok_gR (sAL_hd H1) rfl ?_
  refine ok_gI (sAL_hd H1) rfl ?_
  refine ok_rc (sAL_hd H1) ?_
  have key : dOk (m_AL_add_2 xm N a x q (Int32.ofNat es.length) m) (rV fun m2 => ∃ q', Hp (sAL a q' (mc + 1) (kAc cap es.length) (es ++ [x]) ++ F) m2 ∧ sWf q' (kAc cap es.length) (es ++ [x]) ∧ St xm m m2 1 (kAs cap es.length)) := by
    unfold m_AL_add_2
    refine ok_lenQ (sAL_ar hX hw H1) (Or.inl rfl) ?_
    rw [sAr_len hl]
    refine ok_if (fun g => ?_) (fun g => ?_)
    · have g := (i_eq (by omega) (by omega)).mp g
      refine ok_rc (sAL_hd H1) ?_
      have hg := kGr_pos (show cap < es.length + 1 by omega)
      have hg2 := kGr_le (cap := cap) (k := es.length + 1) (by omega) (by omega)
      have key2 : dOk (m_AL_grow_0 xm N a m) (rR fun p m2 => Hp (sHd a p (mc + 1) es.length :: (p, sAr (kGr cap (es.length + 1)) es) :: F) m2 ∧ St xm m m2 1 (kGr cap (es.length + 1))) := by
        unfold m_AL_grow_0
        refine ok_gI (sAL_hd H1) rfl ?_
        refine ok_rc (sAL_hd H1) ?_
        rw [i_add1]
        refine ok_cR (al_grow1 hX hw H1 (by omega) (by omega) (fun e he => S1.ok (hE e he))) fun p m2 h => ok_R h
      refine ok_cR key2 fun p m2 h => ?_
      obtain ⟨H2, S2⟩ := h
      refine ok_mono (al_add11 H2 (by omega) (by omega) (S2.ok (S1.ok hx))) ?_
      rintro r ⟨h1, H3, S3⟩
      refine ⟨h1, p, ?_, ?_, ?_⟩
      · unfold kAc
        rw [if_pos g, sAL_pos (by omega)]
        exact H3
      · unfold kAc
        rw [if_pos g]
        exact ⟨by omega, by omega, fun z => by omega⟩
      · unfold kAs
        rw [if_pos g]
        exact (S2.trans S3).mono (by omega) (by omega)
    · have g : es.length ≠ cap := fun z => g ((i_eq (by omega) (by omega)).mpr z)
      have H2 := H1
      rw [sAL_pos (by omega)] at H2
      refine ok_mono (al_add11 H2 (by omega) (by have := hw.2.1; omega) (S1.ok hx)) ?_
      rintro r ⟨h1, H3, S3⟩
      refine ⟨h1, q, ?_, ?_, ?_⟩
      · unfold kAc
        rw [if_neg g, sAL_pos (by omega)]
        exact H3
      · unfold kAc
        rw [if_neg g]
        exact ⟨by omega, hw.2.1, hw.2.2⟩
      · unfold kAs
        rw [if_neg g]
        exact S3.mono (by omega) (by omega)
  refine ok_cV key fun m2 h => ?_
  obtain ⟨q', h1, h2, h3⟩ := h
  exact ok_I ⟨rfl, q', h1, h2, (S1.trans h3).mono (by omega) (by omega)⟩
theorem al_remove (hc : cap ≤ 1000000) (hl : es.length ≤ cap) (H : Hp (sHd a q mc es.length :: (q, sAr cap es) :: F) mem) (hE : ∀ e ∈ es, kStOk xm mem 2 (some e) = true) {i : Nat} (hi : i < es.length) :
    dOk (m_AL_remove xm N a (Int32.ofNat i) mem) (rR fun p m => p = es[i] ∧ Hp (sHd a q (mc + 1) (es.eraseIdx i).length :: (q, sAr cap (es.eraseIdx i)) :: F) m ∧ St xm mem m 0 0) := by
  have hd : kLook xm mem a = some (.inl (4, [.int mc, .ref q, .int (Int32.ofNat es.length)])) := H.look 0 rfl
  unfold m_AL_remove
  refine ok_gI hd rfl ?_
  refine ok_eI (ob_chk hi (by omega)) ?_
  refine ok_gR hd rfl ?_
  refine ok_aL (H.look 1 rfl) (Or.inl rfl) (by rw [sAr_len hl]; exact i_inB (by omega) (by omega)) (q := es[i]) (by rw [i_nat (by omega)]; exact sAr_get hi) ?_
  refine ok_rc hd ?_
  have el : (es.eraseIdx i).length = es.length - 1 := by rw [List.length_eraseIdx, if_pos hi]
  have key : dOk (m_AL_fastRemove xm N a q (Int32.ofNat i) mem) (rV fun m => Hp (sHd a q (mc + 1) (es.eraseIdx i).length :: (q, sAr cap (es.eraseIdx i)) :: F) m ∧ St xm mem m 0 0) := by
    unfold m_AL_fastRemove
    refine ok_gI hd rfl ?_
    refine ok_p H 0 rfl rfl rfl fun m H1 S1 => ?_
    have H1 : Hp (sHd a q (mc + 1) es.length :: (q, sAr cap es) :: F) m := H1
    refine ok_gI (H1.look 0 rfl) rfl ?_
    have tail : ∀ m2 (qs : List (Option Nat)), Hp (sHd a q (mc + 1) es.length :: (q, .inr (.inr (2, qs))) :: F) m2 → qs.length = cap → qs.set (es.length - 1) none = (es.eraseIdx i).map some ++ List.replicate (cap - (es.eraseIdx i).length) none → St xm m m2 0 0 → dOk (m_AL_fastRemove_34 xm N a q (Int32.ofNat es.length - 1) m2) (rV fun m => Hp (sHd a q (mc + 1) (es.eraseIdx i).length :: (q, sAr cap (es.eraseIdx i)) :: F) m ∧ St xm mem m 0 0) := by
      intro m2 qs H2 hq hs S2
      unfold m_AL_fastRemove_34
      rw [i_sub1 (by omega)]
      refine ok_p H2 0 rfl rfl rfl fun m3 H3 S3 => ?_
      refine ok_aS H3 1 rfl (Or.inl rfl) (by rw [hq]; exact i_inB (by omega) (by omega)) rfl fun m4 H4 S4 => ?_
      rw [i_nat (by omega), hs] at H4
      refine ok_V ⟨?_, (S1.trans (S2.trans (S3.trans S4))).mono (by omega) (by omega)⟩
      rw [el]
      rw [show sAr cap (es.eraseIdx i) = .inr (.inr (2, (es.eraseIdx i).map some ++ List.replicate (cap - (es.eraseIdx i).length) none)) from rfl]
      exact H4
    obtain ⟨A, e, B, rfl, rfl⟩ : ∃ A e B, es = A ++ e :: B ∧ i = A.length := ⟨es.take i, es[i], es.drop (i + 1), by rw [List.getElem_cons_drop, List.take_append_drop], by rw [List.length_take]; omega⟩
    have er : (A ++ e :: B).eraseIdx A.length = A ++ B := by rw [List.eraseIdx_append_of_length_le (Nat.le_refl _)]; simp
    have l1 : (A ++ e :: B).length = A.length + (B.length + 1) := by simp
    rw [er] at tail el ⊢
    have hl' := hl
    rw [l1] at hl' hi
    rw [i_sub1 (by omega)]
    refine ok_if (fun g => ?_) (fun g => ?_)
    · have g := (i_lt (by omega) (by omega)).mp g
      rw [i_add1, i_sub (by omega)]
      refine ok_cpyQ H1 (H1.look 1 rfl) (Or.inl (H1.ge 1 rfl)) 1 rfl (Or.inl rfl) (Or.inl rfl) ?_ ?_ fun m2 H2 S2 => ?_
      · unfold kOkR
        rw [i_nat (by omega), i_nat (by omega), i_nat (by omega), sAr_len hl]
        simp only [i_nn (show A.length + 1 < 2 ^ 31 by omega), i_nn (show A.length < 2 ^ 31 by omega), i_nn (show (A ++ e :: B).length - 1 - A.length < 2 ^ 31 by omega)]
        simp only [decide_false, Bool.not_false, Bool.true_and, Bool.and_eq_true, decide_eq_true_eq]
        omega
      · intro z hz
        have hz := List.mem_of_mem_drop (List.mem_of_mem_take hz)
        exact S1.ok (sAr_ok hE z hz)
      · rw [i_nat (by omega), i_nat (by omega), i_nat (by omega)] at H2
        rw [← i_sub1 (show 1 ≤ (A ++ e :: B).length by omega)]
        refine tail m2 _ H2 ?_ ?_ S2
        · rw [kCpy_len _ _ (by rw [sAr_len hl]; omega) (by rw [sAr_len hl]; omega), sAr_len hl]
        · unfold kCpy
          obtain ⟨k, hk⟩ : ∃ k, cap = A.length + (B.length + 1) + k := ⟨cap - (A.length + (B.length + 1)), by omega⟩
          have e1 : cap - (A ++ e :: B).length = k := by omega
          have e2 : cap - (A ++ B).length = k + 1 := by simp only [List.length_append]; omega
          rw [e1, e2, l1]
          rw [show A.length + (B.length + 1) - 1 - A.length = B.length by omega, show A.length + (B.length + 1) - 1 = A.length + B.length by omega]
          have a1 : ((A ++ e :: B).map some ++ List.replicate k none : List (Option Nat)) = A.map some ++ (some e :: (B.map some ++ List.replicate k none)) := by simp
          rw [a1, List.take_left' (by simp), List.drop_append, List.drop_append]
          simp only [List.length_map]
          rw [show A.length + 1 - A.length = 1 by omega, show A.length + B.length - A.length = B.length by omega, List.drop_eq_nil_of_le (as := A.map some) (by simp), List.drop_eq_nil_of_le (as := A.map some) (by simp)]
          simp only [List.nil_append, List.drop_succ_cons, List.drop_zero]
          rw [List.take_left' (by simp), ← List.append_assoc, List.set_append_right _ _ (by simp)]
          simp only [List.length_append, List.length_map, Nat.sub_self]
          rw [List.map_append]
          congr 1
          have hd2 : (some e :: (B.map some ++ List.replicate k none) : List (Option Nat)).drop B.length = ((some e :: B.map some).drop B.length) ++ List.replicate k none := by
            rw [← List.cons_append, List.drop_append_of_le_length (by simp)]
          rw [hd2]
          obtain ⟨z, hz⟩ : ∃ z, (some e :: B.map some : List (Option Nat)).drop B.length = [z] := List.length_eq_one_iff.mp (by simp)
          rw [hz]
          rfl
    · have g : ¬ A.length < (A ++ e :: B).length - 1 := fun z => g ((i_lt (by omega) (by omega)).mpr z)
      have hB : B = [] := List.length_eq_zero_iff.mp (by omega)
      rw [← i_sub1 (show 1 ≤ (A ++ e :: B).length by omega)]
      refine tail m _ H1 (sAr_len hl) ?_ St.refl
      subst hB
      obtain ⟨k, hk⟩ : ∃ k, cap = A.length + 1 + k := ⟨cap - (A.length + 1), by simp at l1; omega⟩
      have e1 : cap - (A ++ [e]).length = k := by simp; omega
      have e2 : cap - (A ++ ([] : List Nat)).length = k + 1 := by simp; omega
      rw [e1, e2]
      simp only [List.length_append, List.length_cons, List.length_nil, List.append_nil, List.map_append, List.map_cons, List.map_nil, List.append_assoc]
      rw [show A.length + (0 + 1) - 1 = A.length by omega, List.set_append_right _ _ (by simp)]
      simp [List.replicate_succ]
  refine ok_cV key fun m2 h => ?_
  exact ok_R ⟨rfl, h⟩
end KC
