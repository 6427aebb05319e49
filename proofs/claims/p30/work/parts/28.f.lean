/-! ===== owned memory in segments; the lists' contracts by a segment's place ===== -/
abbrev kSg : Type := List (Nat × kE)
def HpS (Ls : List kSg) (mem : kM) : Prop := Hp Ls.flatten mem
theorem fl_perm : ∀ (Ls : List kSg) (i : Nat) (A : kSg), Ls[i]? = some A → Ls.flatten.Perm (A ++ (Ls.eraseIdx i).flatten) := by
  intro Ls
  induction Ls with
  | nil => intro i A h; cases h
  | cons B Ls ih =>
    intro i A h
    cases i with
    | zero => cases h; rw [List.flatten_cons]; exact List.Perm.refl _
    | succ i =>
      have h1 := ih i A h
      show (B :: Ls).flatten.Perm (A ++ (B :: Ls.eraseIdx i).flatten)
      rw [List.flatten_cons, List.flatten_cons]
      refine (List.Perm.append_left B h1).trans ?_
      rw [← List.append_assoc, ← List.append_assoc]
      exact List.Perm.append_right _ List.perm_append_comm
theorem set_erase : ∀ (Ls : List kSg) (i : Nat) (A : kSg), (Ls.set i A).eraseIdx i = Ls.eraseIdx i := by
  intro Ls
  induction Ls with
  | nil => intro i A; rfl
  | cons B Ls ih =>
    intro i A
    cases i with
    | zero => rfl
    | succ i =>
      show B :: (Ls.set i A).eraseIdx i = B :: Ls.eraseIdx i
      rw [ih]
section KFS
variable {xm : Nat → Option kE} {mem : kM} {Ls : List kSg} {A B : kSg} {N a q cap x : Nat} {mc : Int32} {es : List Nat} {S : kO × kM → Prop} {r ci k : Nat} {fs : List Value}
theorem HpS.foc (H : HpS Ls mem) (i : Nat) (hi : Ls[i]? = some A) : Hp (A ++ (Ls.eraseIdx i).flatten) mem := Hp.perm H (fl_perm Ls i A hi)
theorem HpS.un {m : kM} (i : Nat) (hi : Ls[i]? = some A) (H : Hp (B ++ (Ls.eraseIdx i).flatten) m) : HpS (Ls.set i B) m := by
  have h1 := fl_perm (Ls.set i B) i B (List.getElem?_set_self (List.getElem?_eq_some_iff.mp hi).1)
  rw [set_erase] at h1
  exact Hp.perm H h1.symm
theorem HpS.look (H : HpS Ls mem) (i j : Nat) {e : kE} (hi : Ls[i]? = some A) (hj : A[j]? = some (a, e)) : kLook xm mem a = some e := by
  refine (H.foc i hi).look j ?_
  rw [List.getElem?_append_left (List.getElem?_eq_some_iff.mp hj).1]
  exact hj
theorem HpS.ge (H : HpS Ls mem) (i j : Nat) {e : kE} (hi : Ls[i]? = some A) (hj : A[j]? = some (a, e)) : 1000 ≤ a := by
  refine (H.foc i hi).ge (e := e) j ?_
  rw [List.getElem?_append_left (List.getElem?_eq_some_iff.mp hj).1]
  exact hj
theorem HpS.push (H : HpS Ls mem) {z : Nat × kE} (h : Hp (z :: Ls.flatten) mem) : HpS ([z] :: Ls) mem := h
theorem HpS.drop (H : HpS (A :: Ls) mem) : HpS Ls mem := Hp.sub H (by rw [List.flatten_cons]; exact List.sublist_append_right _ _)
theorem HpS.era (H : HpS Ls mem) (i : Nat) (hi : Ls[i]? = some A) : HpS (Ls.eraseIdx i) mem := Hp.sub (H.foc i hi) (List.sublist_append_right _ _)
theorem os_p {w : Value} {K : kM → dRes} (H : HpS Ls mem) (i j : Nat) (hi : Ls[i]? = some A) (hj : A[j]? = some (r, .inl (ci, fs))) (hb : Nat.ble (k + 1) fs.length = true) (hc : (!(Nat.beq ci 2) && !(Nat.beq ci 13)) = true) (h : ∀ m, HpS (Ls.set i (A.set j (r, .inl (ci, fs.set k w)))) m → St xm mem m 0 0 → dOk (K m) S) : dOk (dP xm mem r ci k w K) S := by
  have hl : j < A.length := (List.getElem?_eq_some_iff.mp hj).1
  refine ok_p (H.foc i hi) j (by rw [List.getElem?_append_left hl]; exact hj) hb hc fun m H1 S1 => ?_
  rw [List.set_append_left _ _ hl] at H1
  exact h m (HpS.un i hi H1) S1
theorem os_iS {xs : List Int32} {j x : Int32} {K : kM → dRes} (H : HpS Ls mem) (i n : Nat) (hi : Ls[i]? = some A) (hn : A[n]? = some (r, .inr (.inl (0, xs)))) (hj : kInB j xs.length = true) (h : ∀ m, HpS (Ls.set i (A.set n (r, .inr (.inl (0, xs.set j.toNatClampNeg x))))) m → St xm mem m 0 0 → dOk (K m) S) : dOk (dIS xm mem r j x K) S := by
  have hl : n < A.length := (List.getElem?_eq_some_iff.mp hn).1
  refine ok_iS (H.foc i hi) n (by rw [List.getElem?_append_left hl]; exact hn) hj fun m H1 S1 => ?_
  rw [List.set_append_left _ _ hl] at H1
  exact h m (HpS.un i hi H1) S1
theorem os_n {e : kE} {K : kM → Nat → dRes} (xm : Nat → Option kE) (H : HpS Ls mem) (h : ∀ m p, HpS ([(p, e)] :: Ls) m → St xm mem m 1 (kSz e) → dOk (K m p) S) : dOk (dN mem e K) S := ok_n xm H fun m p H1 S1 _ => h m p H1 S1
theorem os_nI {t n : Nat} {K : kM → Nat → dRes} (xm : Nat → Option kE) (H : HpS Ls mem) (hn : n ≤ 16777216) (h : ∀ m p, HpS ([(p, .inr (.inl (t, List.replicate n 0)))] :: Ls) m → St xm mem m 1 n → dOk (K m p) S) : dOk (dNI t mem (Int32.ofNat n) K) S := ok_nI xm H hn fun m p H1 S1 => h m p H1 S1
/-- a list as a whole: address, array, changes, room, elements -/
abbrev kLi : Type := Nat × Nat × Int32 × Nat × List Nat
def sL (l : kLi) : kSg := sAL l.1 l.2.1 l.2.2.1 l.2.2.2.1 l.2.2.2.2
def sLw (l : kLi) : Prop := sWf l.2.1 l.2.2.2.1 l.2.2.2.2
theorem ls_hd (H : HpS Ls mem) (i : Nat) (hi : Ls[i]? = some (sAL a q mc cap es)) : kLook xm mem a = some (.inl (4, [.int mc, .ref q, .int (Int32.ofNat es.length)])) := H.look i 0 hi rfl
end KFS
