/-! ===== lists of the JDK: addAll, insert, iterators; numbers ===== -/
section KD2
variable {xm : Nat → Option kE} {mem : kM} {F : List (Nat × kE)} {N a q cap x : Nat} {mc : Int32} {es : List Nat}
/-- a copy that is no longer than the original -/
theorem ars_copyT {c : Nat} {qs : List (Option Nat)} {L : List (Nat × kE)} (hX : kXok xm) (H : Hp L mem) (hq : q = 1 ∧ qs = [] ∨ ∃ i : Nat, L[i]? = some (q, .inr (.inr (2, qs)))) (hc : c ≤ qs.length) (hc2 : qs.length ≤ 1000000) (hE : ∀ e ∈ qs, kStOk xm mem 2 e = true) :
    dOk (m_Ars_copyOf_2 xm N q (Int32.ofNat c) mem) (rR fun p m => Hp ((p, .inr (.inr (2, qs.take c))) :: L) m ∧ St xm mem m 1 c) := by
  have hl : ∀ m, (∃ z, Hp (z :: L) m) ∨ m = mem → kLook xm m q = some (.inr (.inr (2, qs))) := by
    intro m hm
    rcases hq with ⟨rfl, rfl⟩ | ⟨i, hi⟩
    · unfold kLook
      rw [if_pos (by decide)]
      exact hX.1
    · rcases hm with ⟨z, hz⟩ | rfl
      · exact hz.look (i + 1) hi
      · exact H.look i hi
  have hq1 : 1000 ≤ q ∨ qs = [] := by
    rcases hq with ⟨rfl, rfl⟩ | ⟨i, hi⟩
    · exact Or.inr rfl
    · exact Or.inl (H.ge i hi)
  unfold m_Ars_copyOf_2
  have e3 : kSpec xm 9003 0 [] [.ref q] mem = some (.inl (0 + 3, [], [.ref 2], mem)) := by simp [kSpec, kTopA, hl mem (Or.inr rfl), kNx]
  unfold dSp
  simp only [e3]
  refine ok_cR (P := fun p m => Hp ((p, .inr (.inr (2, qs.take c))) :: L) m ∧ St xm mem m 1 c) ?_ (fun p m h => ok_R h)
  unfold m_Ars_copyOf_3 dAc
  rw [if_pos rfl]
  refine ok_nA xm H (by omega) fun m p H1 S1 => ?_
  have hq2 := hl m (Or.inl ⟨_, H1⟩)
  refine ok_lenQ hq2 (Or.inl rfl) ?_
  refine ok_eI m_min ?_
  have e1 : (if Int32.ofNat c < Int32.ofNat qs.length then Int32.ofNat c else Int32.ofNat qs.length) = Int32.ofNat c := by
    by_cases h : c < qs.length
    · rw [if_pos ((i_lt (by omega) (by omega)).mpr h)]
    · rw [if_neg (fun z => h ((i_lt (by omega) (by omega)).mp z)), show qs.length = c by omega]
  rw [e1]
  have e0 : (0 : Int32).toNatClampNeg = 0 := by decide
  have en := i_nat (show c < 2 ^ 31 by omega)
  refine ok_cpyQ H1 hq2 ?_ 0 rfl (Or.inl rfl) (Or.inl rfl) ?_ ?_ fun m2 H2 S2 => ?_
  · rcases hq1 with h | h
    · exact Or.inl h
    · refine Or.inr ?_
      have : c = 0 := by rw [h] at hc; simpa using hc
      rw [this]
      rfl
  · unfold kOkR
    rw [e0, en]
    simp [i_nn (show c < 2 ^ 31 by omega), hc]
  · intro z hz
    rw [e0, en] at hz
    exact S1.ok (hE z (List.mem_of_mem_take (by simpa using hz)))
  · rw [e0, en] at H2
    have e4 : kCpy qs (List.replicate c none) 0 0 c = qs.take c := by
      unfold kCpy
      simp
    rw [e4] at H2
    exact ok_R ⟨H2, (S1.trans S2).mono (by omega) (by omega)⟩
theorem sAr_take : (es.map some ++ List.replicate (cap - es.length) none : List (Option Nat)).take es.length = es.map some := List.take_left' (by simp)
/-- how long the array is, behind adding k more; what was taken for it -/
def kBc (cap n k : Nat) : Nat := if k = 0 then cap else if cap - n < k then kGr cap (n + k) else cap
theorem sAL_perm {A : List (Nat × kE)} {z : Nat × kE} : (z :: (sAL a q mc cap es ++ A)).Perm (sAL a q mc cap es ++ z :: A) := (List.perm_middle (a := z) (l₁ := sAL a q mc cap es) (l₂ := A)).symm
theorem al_toArray {L : List (Nat × kE)} (hX : kXok xm) (H : Hp L mem) (i : Nat) (hi : L[i]? = some (sHd a q mc es.length)) (hw : sWf q cap es) (hq : cap = 0 ∨ ∃ j : Nat, L[j]? = some (q, sAr cap es)) (hE : ∀ e ∈ es, kStOk xm mem 2 (some e) = true) :
    dOk (m_AL_toArray xm N a mem) (rR fun p m => Hp ((p, .inr (.inr (2, es.map some))) :: L) m ∧ St xm mem m 1 es.length) := by
  have hd : kLook xm mem a = some (.inl (4, [.int mc, .ref q, .int (Int32.ofNat es.length)])) := H.look i hi
  unfold m_AL_toArray
  refine ok_gR hd rfl ?_
  refine ok_gI hd rfl ?_
  have hl := hw.1
  have key : dOk (m_Ars_copyOf_2 xm N q (Int32.ofNat es.length) mem) (rR fun p m => Hp ((p, .inr (.inr (2, (es.map some ++ List.replicate (cap - es.length) none).take es.length))) :: L) m ∧ St xm mem m 1 es.length) := by
    refine ars_copyT hX H ?_ (by rw [sAr_len hl]; exact hl) (by rw [sAr_len hl]; exact hw.2.1) (sAr_ok hE)
    rcases hq with h | ⟨j, hj⟩
    · refine Or.inl ⟨hw.2.2 h, ?_⟩
      have : es = [] := List.length_eq_zero_iff.mp (by omega)
      rw [this, h]
      rfl
    · exact Or.inr ⟨j, hj⟩
  rw [sAr_take] at key
  exact ok_cR key fun p m h => ok_R h
theorem al_addAll {b q2 cap2 : Nat} {mc2 : Int32} {fs : List Nat} (hX : kXok xm) (hw : sWf q cap es) (hw2 : sWf q2 cap2 fs) (hc : cap ≤ 100000) (hc2 : cap2 ≤ 100000) (H : Hp (sAL a q mc cap es ++ (sAL b q2 mc2 cap2 fs ++ F)) mem) (hE : ∀ e ∈ es, kStOk xm mem 2 (some e) = true) (hE2 : ∀ e ∈ fs, kStOk xm mem 2 (some e) = true) :
    dOk (m_AL_addAll xm N a b mem) (rI fun v m => ∃ q', Hp (sAL a q' (mc + 1) (kBc cap es.length fs.length) (es ++ fs) ++ (sAL b q2 mc2 cap2 fs ++ F)) m ∧ sWf q' (kBc cap es.length fs.length) (es ++ fs) ∧ St xm mem m 2 (fs.length + (if cap - es.length < fs.length then kGr cap (es.length + fs.length) else 0))) := by
  have hl := hw.1
  have hl2 := hw2.1
  have hb : ∀ m z mc, Hp (z ++ (sAL a q mc cap es ++ (sAL b q2 mc2 cap2 fs ++ F))) m → kLook xm m b = some (.inl (4, [.int mc2, .ref q2, .int (Int32.ofNat fs.length)])) := by
    intro m z mc h
    refine h.look (z.length + (sAL a q mc cap es).length) ?_
    rw [List.getElem?_append_right (by omega), List.getElem?_append_right (by omega)]
    rw [show z.length + (sAL a q mc cap es).length - z.length - (sAL a q mc cap es).length = 0 by omega]
    rfl
  unfold m_AL_addAll
  refine ok_rc (hb mem [] mc H) ?_
  have key := al_toArray (N := N) hX H (sAL a q mc cap es).length (by rw [List.getElem?_append_right (Nat.le_refl _), Nat.sub_self]; rfl) hw2 (by
    by_cases h : cap2 = 0
    · exact Or.inl h
    · refine Or.inr ⟨(sAL a q mc cap es).length + 1, ?_⟩
      rw [List.getElem?_append_right (by omega), sAL_pos h, show (sAL a q mc cap es).length + 1 - (sAL a q mc cap es).length = 1 by omega]
      rfl) hE2
  refine ok_cR key fun p m h => ?_
  obtain ⟨H1, S1⟩ := h
  have H2 := H1.perm sAL_perm
  refine ok_gI (sAL_hd H2) rfl ?_
  refine ok_p H2 0 rfl rfl rfl fun m2 H3 S2 => ?_
  have H3 : Hp (sAL a q (mc + 1) cap es ++ (p, .inr (.inr (2, fs.map some))) :: (sAL b q2 mc2 cap2 fs ++ F)) m2 := H3
  have H4 := H3.perm sAL_perm.symm
  refine ok_lenQ (H4.look 0 rfl) (Or.inl rfl) ?_
  rw [List.length_map]
  have drop : ∀ m3, Hp ((p, .inr (.inr (2, fs.map some))) :: (sAL a q (mc + 1) cap es ++ (sAL b q2 mc2 cap2 fs ++ F))) m3 → Hp (sAL a q (mc + 1) cap es ++ (sAL b q2 mc2 cap2 fs ++ F)) m3 := fun m3 h => h.sub (List.sublist_cons_self _ _)
  refine ok_if (fun g => ?_) (fun g => ?_)
  · have g : fs.length = 0 := (i_eq (b := 0) (by omega) (by decide)).mp g
    have hf : fs = [] := List.length_eq_zero_iff.mp g
    refine ok_I ⟨q, ?_, ?_, (S1.trans S2).mono (by omega) (by omega)⟩
    · unfold kBc
      rw [if_pos g, hf, List.append_nil]
      rw [hf] at H4
      exact H4.sub (List.sublist_cons_self _ _)
    · unfold kBc
      rw [if_pos g, hf, List.append_nil]
      exact hw
  · have g : fs.length ≠ 0 := fun z => g ((i_eq (b := 0) (by omega) (by decide)).mpr z)
    have hB : kBc cap es.length fs.length = if cap - es.length < fs.length then kGr cap (es.length + fs.length) else cap := by
      unfold kBc
      rw [if_neg g]
    refine ok_gR (sAL_hd H3) rfl ?_
    refine ok_lenQ (sAL_ar hX hw H3) (Or.inl rfl) ?_
    refine ok_gI (sAL_hd H3) rfl ?_
    rw [sAr_len hl, i_sub hl, i_add]
    have ef : (es ++ fs).length = es.length + fs.length := by simp
    have fin : ∀ m3 q3 c3, Hp (sHd a q3 (mc + 1) es.length :: (q3, sAr c3 es) :: (p, .inr (.inr (2, fs.map some))) :: (sAL b q2 mc2 cap2 fs ++ F)) m3 → es.length + fs.length ≤ c3 → c3 ≤ 1000000 → (∀ e ∈ fs, kStOk xm m3 2 (some e) = true) → dOk (m_AL_addAll_56 xm N a p (Int32.ofNat fs.length) q3 (Int32.ofNat es.length) m3) (rI fun v m => Hp (sAL a q3 (mc + 1) c3 (es ++ fs) ++ (sAL b q2 mc2 cap2 fs ++ F)) m ∧ St xm m3 m 0 0) := by
      intro m3 q3 c3 H5 h1 h2 h3
      unfold m_AL_addAll_56
      refine ok_cpyQ H5 (H5.look 2 rfl) (Or.inl (H5.ge 2 rfl)) 1 rfl (Or.inl rfl) (Or.inl rfl) ?_ ?_ fun m4 H6 S6 => ?_
      · unfold kOkR
        rw [i_nat (by omega), i_nat (by omega), sAr_len (by omega), List.length_map]
        simp only [i_nn (show fs.length < 2 ^ 31 by omega), i_nn (show es.length < 2 ^ 31 by omega)]
        have e0 : (0 : Int32).toNatClampNeg = 0 := by decide
        rw [e0]
        simp [h1]
      · intro z hz
        have hz := List.mem_of_mem_drop (List.mem_of_mem_take hz)
        obtain ⟨w, hw, rfl⟩ := List.mem_map.mp hz
        exact h3 w hw
      · have e0 : (0 : Int32).toNatClampNeg = 0 := by decide
        rw [i_nat (by omega), i_nat (by omega), e0] at H6
        have e5 : kCpy (fs.map some) (es.map some ++ List.replicate (c3 - es.length) none) 0 es.length fs.length = (es ++ fs).map some ++ List.replicate (c3 - (es ++ fs).length) none := by
          unfold kCpy
          rw [List.take_left' (by simp), List.drop_zero, List.take_of_length_le (by simp), List.drop_append, List.drop_eq_nil_of_le (as := es.map some) (by simp), List.map_append, List.append_assoc]
          simp only [List.length_map, List.nil_append, List.drop_replicate, List.length_append]
          rw [show c3 - es.length - (es.length + fs.length - es.length) = c3 - (es.length + fs.length) by omega]
        rw [e5] at H6
        refine ok_p H6 0 rfl rfl rfl fun m5 H7 S7 => ?_
        refine ok_I ⟨?_, S6.trans S7⟩
        rw [i_add] at H7
        have H8 : Hp (sHd a q3 (mc + 1) (es.length + fs.length) :: (q3, sAr c3 (es ++ fs)) :: (p, .inr (.inr (2, fs.map some))) :: (sAL b q2 mc2 cap2 fs ++ F)) m5 := H7
        rw [sAL_pos (by omega), ef]
        exact H8.sub (List.Sublist.cons_cons _ (List.Sublist.cons_cons _ (List.sublist_cons_self _ _)))
    refine ok_if (fun g2 => ?_) (fun g2 => ?_)
    · have g2 := (i_lt (by omega) (by omega)).mp g2
      have hg := kGr_pos (show cap < es.length + fs.length by omega)
      have hg2 := kGr_le (cap := cap) (k := es.length + fs.length) (by omega) (by omega)
      refine ok_rc (sAL_hd H3) ?_
      refine ok_cR (al_grow1 hX hw H3 (by omega) (by omega) (fun e he => (S1.trans S2).ok (hE e he))) fun q3 m3 h => ?_
      obtain ⟨H5, S5⟩ := h
      refine ok_mono (fin m3 q3 _ H5 (by omega) (by omega) (fun e he => S5.ok ((S1.trans S2).ok (hE2 e he)))) ?_
      rintro r ⟨v, h1, h2, h3⟩
      refine ⟨v, h1, q3, ?_, ?_, ?_⟩
      · rw [hB, if_pos g2]; exact h2
      · rw [hB, if_pos g2]; exact ⟨by omega, by omega, fun z => by omega⟩
      · rw [if_pos g2]
        exact (S1.trans (S2.trans (S5.trans h3))).mono (by omega) (by omega)
    · have g2 : ¬ cap - es.length < fs.length := fun z => g2 ((i_lt (by omega) (by omega)).mpr z)
      have H5 := H3
      rw [sAL_pos (by omega)] at H5
      refine ok_mono (fin m2 q _ H5 (by omega) (by have := hw.2.1; omega) (fun e he => (S1.trans S2).ok (hE2 e he))) ?_
      rintro r ⟨v, h1, h2, h3⟩
      refine ⟨v, h1, q, ?_, ?_, ?_⟩
      · rw [hB, if_neg g2]; exact h2
      · rw [hB, if_neg g2]; exact ⟨by omega, hw.2.1, hw.2.2⟩
      · rw [if_neg g2]
        exact (S1.trans (S2.trans h3)).mono (by omega) (by omega)
end KD2
