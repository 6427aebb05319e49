/-! ===== owned memory in segments; the lists' contracts by a segment's place ===== -/
abbrev kSg : Type := List (Nat × kE)
def HpS (Ls : List kSg) (mem : kM) : Prop := Hp Ls.flatten mem
theorem fl_perm : ∀ (Ls : List kSg) (i : Nat) (A : kSg), Ls[i]? = some A → Ls.flatten.Perm (A ++ (Ls.eraseIdx i).flatten) := by
  intro Ls
  induction Ls with
  | nil => intro i A h; cases h
  | cons B Ls ih =>
    intro i A h
    cases i with
    | zero => cases h; rw [List.flatten_cons]; exact List.Perm.refl _
    | succ i =>
      have h1 := ih i A h
      show (B :: Ls).flatten.Perm (A ++ (B :: Ls.eraseIdx i).flatten)
      rw [List.flatten_cons, List.flatten_cons]
      refine (List.Perm.append_left B h1).trans ?_
      rw [← List.append_assoc, ← List.append_assoc]
      exact List.Perm.append_right _ List.perm_append_comm
theorem set_erase : ∀ (Ls : List kSg) (i : Nat) (A : kSg), (Ls.set i A).eraseIdx i = Ls.eraseIdx i := by
  intro Ls
  induction Ls with
  | nil => intro i A; rfl
  | cons B Ls ih =>
    intro i A
    cases i with
    | zero => rfl
    | succ i =>
      show B :: (Ls.set i A).eraseIdx i = B :: Ls.eraseIdx i
      rw [ih]
section KFS
variable {xm : Nat → Option kE} {mem : kM} {Ls : List kSg} {A B : kSg} {N a q cap x : Nat} {mc : Int32} {es : List Nat} {S : kO × kM → Prop} {r ci k : Nat} {fs : List Value}
theorem HpS.foc (H : HpS Ls mem) (i : Nat) (hi : Ls[i]? = some A) : Hp (A ++ (Ls.eraseIdx i).flatten) mem := Hp.perm H (fl_perm Ls i A hi)
theorem HpS.un {m : kM} (i : Nat) (hi : Ls[i]? = some A) (H : Hp (B ++ (Ls.eraseIdx i).flatten) m) : HpS (Ls.set i B) m := by
  have h1 := fl_perm (Ls.set i B) i B (List.getElem?_set_self (List.getElem?_eq_some_iff.mp hi).1)
  rw [set_erase] at h1
  exact Hp.perm H h1.symm
theorem HpS.look (H : HpS Ls mem) (i j : Nat) {e : kE} (hi : Ls[i]? = some A) (hj : A[j]? = some (a, e)) : kLook xm mem a = some e := by
  refine (H.foc i hi).look j ?_
  rw [List.getElem?_append_left (List.getElem?_eq_some_iff.mp hj).1]
  exact hj
theorem HpS.ge (H : HpS Ls mem) (i j : Nat) {e : kE} (hi : Ls[i]? = some A) (hj : A[j]? = some (a, e)) : 1000 ≤ a := by
  refine (H.foc i hi).ge (e := e) j ?_
  rw [List.getElem?_append_left (List.getElem?_eq_some_iff.mp hj).1]
  exact hj
theorem HpS.push (H : HpS Ls mem) {z : Nat × kE} (h : Hp (z :: Ls.flatten) mem) : HpS ([z] :: Ls) mem := h
theorem HpS.drop (H : HpS (A :: Ls) mem) : HpS Ls mem := Hp.sub H (by rw [List.flatten_cons]; exact List.sublist_append_right _ _)
theorem HpS.era (H : HpS Ls mem) (i : Nat) (hi : Ls[i]? = some A) : HpS (Ls.eraseIdx i) mem := Hp.sub (H.foc i hi) (List.sublist_append_right _ _)
theorem os_p {w : Value} {K : kM → dRes} (H : HpS Ls mem) (i j : Nat) (hi : Ls[i]? = some A) (hj : A[j]? = some (r, .inl (ci, fs))) (hb : Nat.ble (k + 1) fs.length = true) (hc : (!(Nat.beq ci 2) && !(Nat.beq ci 13)) = true) (h : ∀ m, HpS (Ls.set i (A.set j (r, .inl (ci, fs.set k w)))) m → St xm mem m 0 0 → dOk (K m) S) : dOk (dP xm mem r ci k w K) S := by
  have hl : j < A.length := (List.getElem?_eq_some_iff.mp hj).1
  refine ok_p (H.foc i hi) j (by rw [List.getElem?_append_left hl]; exact hj) hb hc fun m H1 S1 => ?_
  rw [List.set_append_left _ _ hl] at H1
  exact h m (HpS.un i hi H1) S1
theorem os_iS {xs : List Int32} {j x : Int32} {K : kM → dRes} (H : HpS Ls mem) (i n : Nat) (hi : Ls[i]? = some A) (hn : A[n]? = some (r, .inr (.inl (0, xs)))) (hj : kInB j xs.length = true) (h : ∀ m, HpS (Ls.set i (A.set n (r, .inr (.inl (0, xs.set j.toNatClampNeg x))))) m → St xm mem m 0 0 → dOk (K m) S) : dOk (dIS xm mem r j x K) S := by
  have hl : n < A.length := (List.getElem?_eq_some_iff.mp hn).1
  refine ok_iS (H.foc i hi) n (by rw [List.getElem?_append_left hl]; exact hn) hj fun m H1 S1 => ?_
  rw [List.set_append_left _ _ hl] at H1
  exact h m (HpS.un i hi H1) S1
theorem os_n {e : kE} {K : kM → Nat → dRes} (xm : Nat → Option kE) (H : HpS Ls mem) (h : ∀ m p, HpS ([(p, e)] :: Ls) m → St xm mem m 1 (kSz e) → dOk (K m p) S) : dOk (dN mem e K) S := ok_n xm H fun m p H1 S1 _ => h m p H1 S1
theorem os_nI {t n : Nat} {K : kM → Nat → dRes} (xm : Nat → Option kE) (H : HpS Ls mem) (hn : n ≤ 16777216) (h : ∀ m p, HpS ([(p, .inr (.inl (t, List.replicate n 0)))] :: Ls) m → St xm mem m 1 n → dOk (K m p) S) : dOk (dNI t mem (Int32.ofNat n) K) S := ok_nI xm H hn fun m p H1 S1 => h m p H1 S1
/-- a list as a whole: address, array, changes, room, elements -/
abbrev kLi : Type := Nat × Nat × Int32 × Nat × List Nat
def sL (l : kLi) : kSg := sAL l.1 l.2.1 l.2.2.1 l.2.2.2.1 l.2.2.2.2
def sLw (l : kLi) : Prop := sWf l.2.1 l.2.2.2.1 l.2.2.2.2
theorem ls_hd (H : HpS Ls mem) (i : Nat) (hi : Ls[i]? = some (sAL a q mc cap es)) : kLook xm mem a = some (.inl (4, [.int mc, .ref q, .int (Int32.ofNat es.length)])) := H.look i 0 hi rfl
theorem ls_size (H : HpS Ls mem) (i : Nat) (hi : Ls[i]? = some (sAL a q mc cap es)) : m_AL_size xm N a mem = some (.inl (some (.int (Int32.ofNat es.length))), mem) := al_size (H.foc i hi)
theorem ls_isEmpty (H : HpS Ls mem) (i : Nat) (hi : Ls[i]? = some (sAL a q mc cap es)) (hl : es.length < 2 ^ 31) : m_AL_isEmpty xm N a mem = some (.inl (some (.int (if es = [] then 1 else 0))), mem) := al_isEmpty (H.foc i hi) hl
theorem ls_get (hX : kXok xm) (hw : sWf q cap es) (H : HpS Ls mem) (i : Nat) (hi : Ls[i]? = some (sAL a q mc cap es)) {j : Nat} (hj : j < es.length) : m_AL_get xm N a (Int32.ofNat j) mem = some (.inl (some (.ref es[j])), mem) := al_get hX hw (H.foc i hi) hj
theorem ls_add (hX : kXok xm) (hw : sWf q cap es) (hc : cap ≤ 300000) (H : HpS Ls mem) (i : Nat) (hi : Ls[i]? = some (sAL a q mc cap es)) (hE : ∀ e ∈ es, kStOk xm mem 2 (some e) = true) (hx : kStOk xm mem 2 (some x) = true) :
    dOk (m_AL_add_1 xm N a x mem) (rI fun v m => v = 1 ∧ ∃ q', HpS (Ls.set i (sAL a q' (mc + 1) (kAc cap es.length) (es ++ [x]))) m ∧ sWf q' (kAc cap es.length) (es ++ [x]) ∧ St xm mem m 1 (kAs cap es.length)) := by
  refine ok_mono (al_add hX hw hc (H.foc i hi) hE hx) ?_
  rintro r ⟨v, h1, h2, q', h3, h4, h5⟩
  exact ⟨v, h1, h2, q', HpS.un i hi h3, h4, h5⟩
theorem ls_remove (hw : sWf q cap es) (H : HpS Ls mem) (i : Nat) (hi : Ls[i]? = some (sAL a q mc cap es)) (hE : ∀ e ∈ es, kStOk xm mem 2 (some e) = true) {j : Nat} (hj : j < es.length) :
    dOk (m_AL_remove xm N a (Int32.ofNat j) mem) (rR fun p m => p = es[j] ∧ HpS (Ls.set i (sAL a q (mc + 1) cap (es.eraseIdx j))) m ∧ sWf q cap (es.eraseIdx j) ∧ St xm mem m 0 0) := by
  have hl := hw.1
  have hc : cap ≠ 0 := by omega
  have H1 := H.foc i hi
  rw [sAL_pos hc] at H1
  refine ok_mono (al_remove hw.2.1 hl H1 hE hj) ?_
  rintro r ⟨v, h1, h2, h3, h4⟩
  refine ⟨v, h1, h2, HpS.un i hi ?_, ⟨?_, hw.2⟩, h4⟩
  · rw [sAL_pos hc]
    exact h3
  · rw [List.length_eraseIdx, if_pos hj]
    omega
theorem ls_iterator (H : HpS Ls mem) (i : Nat) (hi : Ls[i]? = some (sAL a q mc cap es)) : dOk (m_AL_iterator xm N a mem) (rR fun p m => HpS ([sIt p 0 (-1) mc a] :: Ls) m ∧ St xm mem m 1 4) := by
  refine ok_mono (al_iterator (H.foc i hi)) ?_
  rintro r ⟨v, h1, h2, h3⟩
  refine ⟨v, h1, ?_, h3⟩
  have h4 := fl_perm Ls i _ hi
  exact Hp.perm h2 (List.Perm.cons _ h4.symm)
theorem ls_next {p c : Nat} {l : Int32} (hw : sWf q cap es) (H : HpS ([sIt p c l mc a] :: Ls) mem) (i : Nat) (hi : Ls[i]? = some (sAL a q mc cap es)) (hc : c < es.length) :
    dOk (m_Itr_next xm N p mem) (rR fun e m => e = es[c] ∧ HpS ([sIt p (c + 1) (Int32.ofNat c) mc a] :: Ls) m ∧ St xm mem m 0 0) := by
  have hl := hw.1
  have h4 := fl_perm Ls i _ hi
  have hcap : cap ≠ 0 := by omega
  have H1 : Hp (sIt p c l mc a :: (sAL a q mc cap es ++ (Ls.eraseIdx i).flatten)) mem := Hp.perm H (List.Perm.cons _ h4)
  rw [sAL_pos hcap] at H1
  refine ok_mono (itr_next (l := l) H1 0 1 2 rfl rfl rfl (by decide) (by decide) hl hw.2.1 hc) ?_
  rintro r ⟨v, h1, h2, h3, h5⟩
  refine ⟨v, h1, h2, ?_, h5⟩
  have h6 : Hp (sIt p (c + 1) (Int32.ofNat c) mc a :: (sAL a q mc cap es ++ (Ls.eraseIdx i).flatten)) r.2 := by
    rw [sAL_pos hcap]
    exact h3
  exact Hp.perm h6 (List.Perm.cons _ h4.symm)
theorem ls_addAll {b q2 cap2 : Nat} {mc2 : Int32} {fs : List Nat} (hX : kXok xm) (hw : sWf q cap es) (hw2 : sWf q2 cap2 fs) (hc : cap ≤ 100000) (hc2 : cap2 ≤ 100000) (H : HpS Ls mem) (i j : Nat) (hij : i ≠ j) (hi : Ls[i]? = some (sAL a q mc cap es)) (hj : Ls[j]? = some (sAL b q2 mc2 cap2 fs)) (hE : ∀ e ∈ es, kStOk xm mem 2 (some e) = true) (hE2 : ∀ e ∈ fs, kStOk xm mem 2 (some e) = true) :
    dOk (m_AL_addAll xm N a b mem) (rI fun v m => ∃ q', HpS (Ls.set i (sAL a q' (mc + 1) (kBc cap es.length fs.length) (es ++ fs))) m ∧ sWf q' (kBc cap es.length fs.length) (es ++ fs) ∧ St xm mem m 2 (fs.length + (if cap - es.length < fs.length then kGr cap (es.length + fs.length) else 0))) := by
  have hj2 : (Ls.eraseIdx i)[if j < i then j else j - 1]? = some (sAL b q2 mc2 cap2 fs) := by
    split
    · rename_i g
      rw [List.getElem?_eraseIdx_of_lt g]
      exact hj
    · rename_i g
      rw [List.getElem?_eraseIdx_of_ge (by omega), show j - 1 + 1 = j by omega]
      exact hj
  have p1 := fl_perm _ _ _ hj2
  have H1 := Hp.perm (H.foc i hi) (List.Perm.append_left _ p1)
  refine ok_mono (al_addAll hX hw hw2 hc hc2 H1 hE hE2) ?_
  rintro r ⟨v, h1, q', h3, h4, h5⟩
  refine ⟨v, h1, q', HpS.un i hi ?_, h4, h5⟩
  exact Hp.perm h3 (List.Perm.append_left _ p1.symm)
theorem ls_add0 (hX : kXok xm) (hw : sWf q cap es) (hc : cap ≤ 300000) (H : HpS Ls mem) (i : Nat) (hi : Ls[i]? = some (sAL a q mc cap es)) (hE : ∀ e ∈ es, kStOk xm mem 2 (some e) = true) (hx : kStOk xm mem 2 (some x) = true) :
    dOk (m_AL_add_0 xm N a 0 x mem) (rV fun m => ∃ q', HpS (Ls.set i (sAL a q' (mc + 1) (kAc cap es.length) (x :: es))) m ∧ sWf q' (kAc cap es.length) (x :: es) ∧ St xm mem m 1 (kAs cap es.length)) := by
  refine ok_mono (al_add0 hX hw hc (H.foc i hi) hE hx) ?_
  rintro r ⟨h1, q', h3, h4, h5⟩
  exact ⟨h1, q', HpS.un i hi h3, h4, h5⟩
theorem ls_new {v0 v1 : Value} (H : HpS Ls mem) (i : Nat) (hi : Ls[i]? = some [(a, .inl (4, [v0, v1, .int 0]))]) : dOk (m_AL_new xm N a mem) (rV fun m => HpS (Ls.set i (sAL a 1 0 0 [])) m ∧ St xm mem m 0 0) := by
  unfold m_AL_new
  have key : dOk (m_ALs_new xm N a mem) (rV fun m => HpS (Ls.set i [(a, .inl (4, [.int 0, v1, .int 0]))]) m ∧ St xm mem m 0 0) := by
    unfold m_ALs_new m_AC_new
    refine ok_eV rfl ?_
    refine os_p H i 0 hi rfl rfl rfl fun m H1 S1 => ?_
    exact ok_V ⟨H1, S1⟩
  refine ok_cV key fun m h => ?_
  obtain ⟨H1, S1⟩ := h
  refine os_p H1 i 0 (List.getElem?_set_self (List.getElem?_eq_some_iff.mp hi).1) rfl rfl rfl fun m2 H2 S2 => ?_
  rw [List.set_set] at H2
  exact ok_V ⟨H2, S1.trans S2⟩
end KFS
