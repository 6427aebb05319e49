/-! ===== lists of the JDK: contracts over owned memory ===== -/
/-- the outer cells that methods look at -/
def kXok (xm : Nat → Option kE) : Prop := xm 1 = some (.inr (.inr (2, []))) ∧ (∃ qs : List (Option Nat), xm 9 = some (.inr (.inr (4, qs))) ∧ qs.length = 256 ∧ ∀ j, j < 256 → qs.getD j none = some (100 + j)) ∧ (∀ j, j < 256 → xm (100 + j) = some (.inl (2, [.int (vb_c j)]))) ∧ xm 3 = some (.inr (.inl (0, kAr_3))) ∧ xm 4 = some (.inr (.inl (0, kAr_4))) ∧ xm 5 = some (.inr (.inl (0, kAr_5))) ∧ xm 6 = some (.inr (.inl (0, kAr_6)))
/-- a list: its address, its array's, how often it was changed, the array's length, its elements -/
def sHd (a q : Nat) (mc : Int32) (n : Nat) : Nat × kE := (a, .inl (4, [.int mc, .ref q, .int (Int32.ofNat n)]))
def sAr (cap : Nat) (es : List Nat) : kE := .inr (.inr (2, es.map some ++ List.replicate (cap - es.length) none))
/-- the array is owned by its list, if it is not the empty one that all share -/
def sAL (a q : Nat) (mc : Int32) (cap : Nat) (es : List Nat) : List (Nat × kE) := sHd a q mc es.length :: (if cap = 0 then [] else [(q, sAr cap es)])
def sWf (q cap : Nat) (es : List Nat) : Prop := es.length ≤ cap ∧ cap ≤ 1000000 ∧ (cap = 0 → q = 1)
section KB
variable {xm : Nat → Option kE} {mem : kM} {F : List (Nat × kE)} {N a q cap : Nat} {mc : Int32} {es : List Nat}
theorem sAr_len (h : es.length ≤ cap) : (es.map some ++ List.replicate (cap - es.length) none : List (Option Nat)).length = cap := by simp; omega
theorem sAr_get {i : Nat} (h : i < es.length) : (es.map some ++ List.replicate (cap - es.length) none : List (Option Nat)).getD i none = some es[i] := by
  rw [List.getD_eq_getElem?_getD, List.getElem?_append_left (by simpa using h)]
  simp [h]
theorem sAL_hd (H : Hp (sAL a q mc cap es ++ F) mem) : kLook xm mem a = some (.inl (4, [.int mc, .ref q, .int (Int32.ofNat es.length)])) := H.look 0 rfl
theorem sAL_ar (hX : kXok xm) (hw : sWf q cap es) (H : Hp (sAL a q mc cap es ++ F) mem) : kLook xm mem q = some (sAr cap es) := by
  by_cases hc : cap = 0
  · have hq := hw.2.2 hc
    have hl : es = [] := by
      have := hw.1
      rw [hc] at this
      exact List.length_eq_zero_iff.mp (by omega)
    subst hq hl hc
    show kLook xm mem 1 = some (.inr (.inr (2, [])))
    unfold kLook
    rw [if_pos (by decide)]
    exact hX.1
  · unfold sAL at H
    rw [if_neg hc] at H
    exact H.look 1 rfl
theorem al_size (H : Hp (sAL a q mc cap es ++ F) mem) : m_AL_size xm N a mem = some (.inl (some (.int (Int32.ofNat es.length))), mem) := by
  unfold m_AL_size dGI dG
  simp only [sAL_hd H]
  rfl
theorem al_isEmpty (H : Hp (sAL a q mc cap es ++ F) mem) (hl : es.length < 2 ^ 31) : m_AL_isEmpty xm N a mem = some (.inl (some (.int (if es = [] then 1 else 0))), mem) := by
  unfold m_AL_isEmpty dGI dG
  simp only [sAL_hd H]
  show (if Int32.ofNat es.length = 0 then _ else _) = _
  by_cases h : es = []
  · rw [if_pos h, h]; rfl
  · rw [if_neg h, if_neg]
    intro g
    have := (i_eq (b := 0) hl (by decide)).mp g
    exact h (List.length_eq_zero_iff.mp this)
theorem ob_chk {i n : Nat} (h : i < n) (hn : n < 2 ^ 31) : m_Obs_checkIndex xm N (Int32.ofNat i) (Int32.ofNat n) mem = some (.inl (some (.int (Int32.ofNat i))), mem) := by
  unfold m_Obs_checkIndex m_Pre_checkIndex
  rw [if_neg (i_nn (by omega)), if_pos ((i_lt (by omega) hn).mpr h)]
  rfl
theorem sWf.lt (hw : sWf q cap es) : es.length < 2 ^ 31 := by have := hw.1; have := hw.2.1; omega
theorem ok_eq {X : dRes} {R : kO × kM} (h : dOk X (fun r => r = R)) : X = some R := by
  obtain ⟨r, h1, rfl⟩ := h
  exact h1
theorem ok_me {R : kO × kM} : dOk (some R) (fun r => r = R) := ⟨_, rfl, rfl⟩
theorem al_elem (hX : kXok xm) (hw : sWf q cap es) (H : Hp (sAL a q mc cap es ++ F) mem) {i : Nat} (hi : i < es.length) : m_AL_elementData xm N a (Int32.ofNat i) mem = some (.inl (some (.ref es[i])), mem) := by
  have hl := hw.lt
  refine ok_eq ?_
  unfold m_AL_elementData
  refine ok_gR (sAL_hd H) rfl ?_
  refine ok_aL (sAL_ar hX hw H) (Or.inl rfl) ?_ (q := es[i]) ?_ ok_me
  · rw [sAr_len hw.1]
    exact i_inB (by have := hw.1; omega) (by have := hw.2.1; omega)
  · rw [i_nat (by omega)]
    exact sAr_get hi
theorem al_get (hX : kXok xm) (hw : sWf q cap es) (H : Hp (sAL a q mc cap es ++ F) mem) {i : Nat} (hi : i < es.length) : m_AL_get xm N a (Int32.ofNat i) mem = some (.inl (some (.ref es[i])), mem) := by
  refine ok_eq ?_
  unfold m_AL_get
  refine ok_gI (sAL_hd H) rfl ?_
  refine ok_eI (ob_chk hi hw.lt) ?_
  refine ok_rc (sAL_hd H) ?_
  refine ok_eR (al_elem hX hw H hi) ok_me
theorem m_max {x y : Int32} : m_Math_max xm N x y mem = some (.inl (some (.int (if x < y then y else x))), mem) := by
  refine ok_eq ?_
  unfold m_Math_max
  refine ok_if (fun h => ?_) (fun h => ?_)
  · rw [if_pos h]; exact ok_me
  · rw [if_neg h]; exact ok_me
theorem m_min {x y : Int32} : m_Math_min xm N x y mem = some (.inl (some (.int (if y < x then y else x))), mem) := by
  refine ok_eq ?_
  unfold m_Math_min
  refine ok_if (fun h => ?_) (fun h => ?_)
  · rw [if_pos h]; exact ok_me
  · rw [if_neg h]; exact ok_me
/-- how far a list's array grows -/
def kGr (cap k : Nat) : Nat := if cap = 0 then max 10 k else cap + max (k - cap) (cap / 2)
theorem i_half {c : Nat} (h : c < 2 ^ 31) : Int32.ofNat c >>> (1 &&& 31) = Int32.ofNat (c / 2) := by
  have e : (Int32.ofNat c >>> (1 &&& 31)).toInt = (Int32.ofNat c).toInt >>> 1 := by
    show (BitVec.sshiftRight' (Int32.ofNat c).toBitVec (((1 : Int32) &&& 31).toBitVec.smod 32)).toInt = _
    rw [BitVec.toInt_sshiftRight']
    rfl
  rw [← Int32.toInt_inj, i_toI (show c / 2 < 2 ^ 31 by omega), e, i_toI h, Int.shiftRight_eq_div_pow]
  show (c : Int) / 2 = _
  omega
theorem as_len {c g h : Nat} (hs : c + max g h ≤ 1000000) (h1 : 1 ≤ c + max g h) : m_AS_newLength xm N (Int32.ofNat c) (Int32.ofNat g) (Int32.ofNat h) mem = some (.inl (some (.int (Int32.ofNat (c + max g h)))), mem) := by
  have e0 : (if Int32.ofNat g < Int32.ofNat h then Int32.ofNat h else Int32.ofNat g) = Int32.ofNat (max g h) := by
    by_cases e : g < h
    · rw [if_pos ((i_lt (by omega) (by omega)).mpr e), Nat.max_eq_right (by omega)]
    · rw [if_neg (fun z => e ((i_lt (by omega) (by omega)).mp z)), Nat.max_eq_left (by omega)]
  refine ok_eq ?_
  unfold m_AS_newLength
  refine ok_eI m_max ?_
  rw [e0, i_add]
  refine ok_if (fun _ => ?_) (fun h2 => ?_)
  · refine ok_if (fun h3 => ?_) (fun _ => ok_me)
    exfalso
    have := (i_lt (a := 2147483639) (by decide) (by omega)).mp h3
    omega
  · exact absurd ((i_lt (a := 0) (by decide) (by omega)).mpr (by omega)) h2
theorem kCpy_0 {α : Type} (us : List α) (z : α) {c : Nat} : kCpy us (List.replicate c z) 0 0 us.length = us ++ List.replicate (c - us.length) z := by
  unfold kCpy
  simp
theorem ars_copy {c : Nat} {qs : List (Option Nat)} {L : List (Nat × kE)} (hX : kXok xm) (H : Hp L mem) (hq : q = 1 ∧ qs = [] ∨ ∃ i : Nat, L[i]? = some (q, .inr (.inr (2, qs)))) (hc : qs.length ≤ c) (hc2 : c ≤ 1000000) (hE : ∀ e ∈ qs, kStOk xm mem 2 e = true) :
    dOk (m_Ars_copyOf_2 xm N q (Int32.ofNat c) mem) (rR fun p m => Hp ((p, .inr (.inr (2, qs ++ List.replicate (c - qs.length) none))) :: L) m ∧ St xm mem m 1 c) := by
  have hl : ∀ m, (∃ z, Hp (z :: L) m) ∨ m = mem → kLook xm m q = some (.inr (.inr (2, qs))) := by
    intro m hm
    rcases hq with ⟨rfl, rfl⟩ | ⟨i, hi⟩
    · unfold kLook
      rw [if_pos (by decide)]
      exact hX.1
    · rcases hm with ⟨z, hz⟩ | rfl
      · exact hz.look (i + 1) hi
      · exact H.look i hi
  have hq1 : 1000 ≤ q ∨ qs = [] := by
    rcases hq with ⟨rfl, rfl⟩ | ⟨i, hi⟩
    · exact Or.inr rfl
    · exact Or.inl (H.ge i hi)
  unfold m_Ars_copyOf_2
  have e3 : kSpec xm 9003 0 [] [.ref q] mem = some (.inl (0 + 3, [], [.ref 2], mem)) := by simp [kSpec, kTopA, hl mem (Or.inr rfl), kNx]
  unfold dSp
  simp only [e3]
  refine ok_cR (P := fun p m => Hp ((p, .inr (.inr (2, qs ++ List.replicate (c - qs.length) none))) :: L) m ∧ St xm mem m 1 c) ?_ (fun p m h => ok_R h)
  unfold m_Ars_copyOf_3 dAc
  rw [if_pos rfl]
  refine ok_nA xm H (by omega) fun m p H1 S1 => ?_
  have hq2 := hl m (Or.inl ⟨_, H1⟩)
  refine ok_lenQ hq2 (Or.inl rfl) ?_
  refine ok_eI m_min ?_
  have e1 : (if Int32.ofNat c < Int32.ofNat qs.length then Int32.ofNat c else Int32.ofNat qs.length) = Int32.ofNat qs.length := by
    rw [if_neg]
    intro h
    have := (i_lt (by omega) (by omega)).mp h
    omega
  rw [e1]
  have e0 : (0 : Int32).toNatClampNeg = 0 := by decide
  have en := i_nat (show qs.length < 2 ^ 31 by omega)
  refine ok_cpyQ H1 hq2 ?_ 0 rfl (Or.inl rfl) (Or.inl rfl) ?_ ?_ fun m2 H2 S2 => ?_
  · rcases hq1 with h | h
    · exact Or.inl h
    · exact Or.inr (by rw [h]; rfl)
  · unfold kOkR
    rw [e0, en]
    simp [i_nn (show qs.length < 2 ^ 31 by omega), hc]
  · intro z hz
    rw [e0, en] at hz
    exact S1.ok (hE z (by simpa using hz))
  · rw [e0, en, kCpy_0] at H2
    exact ok_R ⟨H2, (S1.trans S2).mono (by omega) (by omega)⟩
theorem sAr_grow {cap c2 : Nat} (h : es.length ≤ cap) (h2 : cap ≤ c2) : (es.map some ++ List.replicate (cap - es.length) none : List (Option Nat)) ++ List.replicate (c2 - cap) none = es.map some ++ List.replicate (c2 - es.length) none := by
  rw [List.append_assoc, List.replicate_append_replicate]
  congr 2
  omega
theorem sAr_ok {m : kM} {cap : Nat} (hE : ∀ e ∈ es, kStOk xm m 2 (some e) = true) : ∀ e ∈ (es.map some ++ List.replicate (cap - es.length) none : List (Option Nat)), kStOk xm m 2 e = true := by
  intro e he
  rcases List.mem_append.mp he with h | h
  · obtain ⟨z, hz, rfl⟩ := List.mem_map.mp h
    exact hE z hz
  · rw [(List.mem_replicate.mp h).2]
    rfl
theorem kGr_pos {cap k : Nat} (h : cap < k) : k ≤ kGr cap k ∧ cap ≤ kGr cap k := by
  unfold kGr
  split <;> omega
theorem kGr_le {cap k : Nat} (h : cap ≤ 400000) (h2 : k ≤ 400000) : kGr cap k ≤ 1000000 := by
  unfold kGr
  split <;> omega
theorem al_grow1 (hX : kXok xm) (hw : sWf q cap es) (H : Hp (sAL a q mc cap es ++ F) mem) {k : Nat} (hk : cap < k) (hk2 : k ≤ 400000) (hE : ∀ e ∈ es, kStOk xm mem 2 (some e) = true) :
    dOk (m_AL_grow_1 xm N a (Int32.ofNat k) mem) (rR fun p m => Hp (sHd a p mc es.length :: (p, sAr (kGr cap k) es) :: F) m ∧ St xm mem m 1 (kGr cap k)) := by
  have hl := hw.1
  have hg := kGr_pos hk
  have hg2 : kGr cap k ≤ 1000000 := kGr_le (by omega) hk2
  unfold m_AL_grow_1
  refine ok_gR (sAL_hd H) rfl ?_
  refine ok_lenQ (sAL_ar hX hw H) (Or.inl rfl) ?_
  rw [sAr_len hw.1]
  by_cases hc : cap = 0
  · have hq := hw.2.2 hc
    rw [if_neg (by rw [hc]; decide)]
    refine ok_gR (sAL_hd H) rfl ?_
    unfold dAc
    rw [if_pos hq]
    refine ok_eI m_max ?_
    have e1 : (if (10 : Int32) < Int32.ofNat k then Int32.ofNat k else 10) = Int32.ofNat (kGr cap k) := by
      unfold kGr
      rw [if_pos hc]
      rw [show (10 : Int32) = Int32.ofNat 10 from rfl]
      by_cases e : 10 < k
      · rw [if_pos ((i_lt (a := 10) (by decide) (by omega)).mpr e), Nat.max_eq_right (by omega)]
      · rw [if_neg (fun z => e ((i_lt (a := 10) (by decide) (by omega)).mp z)), Nat.max_eq_left (by omega)]
    rw [e1]
    have H0 : Hp (sHd a q mc es.length :: F) mem := by
      unfold sAL at H
      rw [if_pos hc] at H
      exact H
    refine ok_nA xm H0 (by omega) fun m p H1 S1 => ?_
    refine ok_p H1 1 rfl rfl rfl fun m2 H2 S2 => ?_
    have he : es = [] := List.length_eq_zero_iff.mp (by omega)
    refine ok_R ⟨?_, (S1.trans S2).mono (by omega) (by omega)⟩
    have H3 := H2.perm (List.Perm.swap _ _ _)
    subst he
    exact H3
  · rw [if_pos (show (0 : Int32) < Int32.ofNat cap from (i_lt (a := 0) (by decide) (by omega)).mpr (by omega))]
    have H0 : Hp (sHd a q mc es.length :: (q, sAr cap es) :: F) mem := by
      unfold sAL at H
      rw [if_neg hc] at H
      exact H
    have eg : kGr cap k = cap + max (k - cap) (cap / 2) := by unfold kGr; rw [if_neg hc]
    unfold m_AL_grow_1_20
    rw [i_sub (by omega), i_half (by omega)]
    refine ok_eI (as_len (by omega) (by omega)) ?_
    rw [← eg]
    refine ok_gR (sAL_hd H) rfl ?_
    refine ok_cR (ars_copy hX H0 (Or.inr ⟨1, rfl⟩) (by rw [sAr_len hw.1]; omega) hg2 (sAr_ok hE)) fun p m h => ?_
    obtain ⟨H1, S1⟩ := h
    refine ok_p H1 1 rfl rfl rfl fun m2 H2 S2 => ?_
    refine ok_R ⟨?_, (S1.trans S2).mono (by omega) (by omega)⟩
    have H3 := H2.perm (List.Perm.swap _ _ _)
    have H4 := H3.sub (List.Sublist.cons_cons _ (List.Sublist.cons_cons _ (List.sublist_cons_self _ _)))
    rw [sAr_len hw.1, sAr_grow hw.1 hg.2] at H4
    exact H4
end KB
