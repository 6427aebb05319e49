/-! ===== lists of the JDK: contracts over owned memory ===== -/
/-- the outer cells that methods look at -/
def kXok (xm : Nat → Option kE) : Prop := True ∧ True ∧ True ∧ xm 3 = some (.inr (.inl (0, kAr_3))) ∧ xm 4 = some (.inr (.inl (0, kAr_4))) ∧ xm 5 = some (.inr (.inl (0, kAr_5))) ∧ xm 6 = some (.inr (.inl (0, kAr_6)))
/-- a list: its address, its array's, how often it was changed, the array's length, its elements -/
def sHd (a q : Nat) (mc : Int32) (n : Nat) : Nat × kE := (a, .inl (4, [.int mc, .ref q, .int (Int32.ofNat n)]))
def sAr (cap : Nat) (es : List Nat) : kE := .inr (.inr (2, es.map some ++ List.replicate (cap - es.length) none))
/-- the array is owned by its list, if it is not the empty one that all share -/
def sAL (a q : Nat) (mc : Int32) (cap : Nat) (es : List Nat) : List (Nat × kE) := sHd a q mc es.length :: (if cap = 0 then [] else [(q, sAr cap es)])
def sWf (q cap : Nat) (es : List Nat) : Prop := es.length ≤ cap ∧ cap ≤ 1000000 ∧ (cap = 0 → q = 1)
section KB
variable {xm : Nat → Option kE} {mem : kM} {F : List (Nat × kE)} {N a q cap : Nat} {mc : Int32} {es : List Nat}
theorem sAr_len (h : es.length ≤ cap) : (es.map some ++ List.replicate (cap - es.length) none : List (Option Nat)).length = cap := by simp; omega
theorem sAr_get {i : Nat} (h : i < es.length) : (es.map some ++ List.replicate (cap - es.length) none : List (Option Nat)).getD i none = some es[i] := by
  rw [List.getD_eq_getElem?_getD, List.getElem?_append_left (by simpa using h)]
  simp [h]
theorem sAL_hd (H : Hp (sAL a q mc cap es ++ F) mem) : kLook xm mem a = some (.inl (4, [.int mc, .ref q, .int (Int32.ofNat es.length)])) := H.look 0 rfl
theorem sWf.lt (hw : sWf q cap es) : es.length < 2 ^ 31 := by have := hw.1; have := hw.2.1; omega
theorem ok_eq {X : dRes} {R : kO × kM} (h : dOk X (fun r => r = R)) : X = some R := by
  obtain ⟨r, h1, rfl⟩ := h
  exact h1
theorem ok_me {R : kO × kM} : dOk (some R) (fun r => r = R) := ⟨_, rfl, rfl⟩
theorem m_max {x y : Int32} : m_Math_max xm N x y mem = some (.inl (some (.int (if x < y then y else x))), mem) := by
  refine ok_eq ?_
  unfold m_Math_max
  refine ok_if (fun h => ?_) (fun h => ?_)
  · rw [if_pos h]; exact ok_me
  · rw [if_neg h]; exact ok_me
theorem m_min {x y : Int32} : m_Math_min xm N x y mem = some (.inl (some (.int (if y < x then y else x))), mem) := by
  refine ok_eq ?_
  unfold m_Math_min
  refine ok_if (fun h => ?_) (fun h => ?_)
  · rw [if_pos h]; exact ok_me
  · rw [if_neg h]; exact ok_me
/-- how far a list's array grows -/
def kGr (cap k : Nat) : Nat := if cap = 0 then max 10 k else cap + max (k - cap) (cap / 2)
theorem i_half {c : Nat} (h : c < 2 ^ 31) : Int32.ofNat c >>> (1 &&& 31) = Int32.ofNat (c / 2) := by
  have e : (Int32.ofNat c >>> (1 &&& 31)).toInt = (Int32.ofNat c).toInt >>> 1 := by
    show (BitVec.sshiftRight' (Int32.ofNat c).toBitVec (((1 : Int32) &&& 31).toBitVec.smod 32)).toInt = _
    rw [BitVec.toInt_sshiftRight']
    rfl
  rw [← Int32.toInt_inj, i_toI (show c / 2 < 2 ^ 31 by omega), e, i_toI h, Int.shiftRight_eq_div_pow]
  show (c : Int) / 2 = _
  omega
theorem as_len {c g h : Nat} (hs : c + max g h ≤ 1000000) (h1 : 1 ≤ c + max g h) : m_AS_newLength xm N (Int32.ofNat c) (Int32.ofNat g) (Int32.ofNat h) mem = some (.inl (some (.int (Int32.ofNat (c + max g h)))), mem) := by
  have e0 : (if Int32.ofNat g < Int32.ofNat h then Int32.ofNat h else Int32.ofNat g) = Int32.ofNat (max g h) := by
    by_cases e : g < h
    · rw [if_pos ((i_lt (by omega) (by omega)).mpr e), Nat.max_eq_right (by omega)]
    · rw [if_neg (fun z => e ((i_lt (by omega) (by omega)).mp z)), Nat.max_eq_left (by omega)]
  refine ok_eq ?_
  unfold m_AS_newLength
  refine ok_eI m_max ?_
  rw [e0, i_add]
  refine ok_if (fun _ => ?_) (fun h2 => ?_)
  · refine ok_if (fun h3 => ?_) (fun _ => ok_me)
    exfalso
    have := (i_lt (a := 2147483639) (by decide) (by omega)).mp h3
    omega
  · exact absurd ((i_lt (a := 0) (by decide) (by omega)).mpr (by omega)) h2
theorem kCpy_0 {α : Type} (us : List α) (z : α) {c : Nat} : kCpy us (List.replicate c z) 0 0 us.length = us ++ List.replicate (c - us.length) z := by
  unfold kCpy
  simp
theorem sAr_grow {cap c2 : Nat} (h : es.length ≤ cap) (h2 : cap ≤ c2) : (es.map some ++ List.replicate (cap - es.length) none : List (Option Nat)) ++ List.replicate (c2 - cap) none = es.map some ++ List.replicate (c2 - es.length) none := by
  rw [List.append_assoc, List.replicate_append_replicate]
  congr 2
  omega
theorem sAr_ok {m : kM} {cap : Nat} (hE : ∀ e ∈ es, kStOk xm m 2 (some e) = true) : ∀ e ∈ (es.map some ++ List.replicate (cap - es.length) none : List (Option Nat)), kStOk xm m 2 e = true := by
  intro e he
  rcases List.mem_append.mp he with h | h
  · obtain ⟨z, hz, rfl⟩ := List.mem_map.mp h
    exact hE z hz
  · rw [(List.mem_replicate.mp h).2]
    rfl
theorem kGr_pos {cap k : Nat} (h : cap < k) : k ≤ kGr cap k ∧ cap ≤ kGr cap k := by
  unfold kGr
  split <;> omega
theorem kGr_le {cap k : Nat} (h : cap ≤ 400000) (h2 : k ≤ 400000) : kGr cap k ≤ 1000000 := by
  unfold kGr
  split <;> omega
end KB
