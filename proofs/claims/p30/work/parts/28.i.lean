/-! ===== the reference as a whole: how it lies in memory, and what its parts do ===== -/
def mE (g : Nat → Int32) (sum : Int64) (L B P Q s : Nat) : kE := .inl (15, [.int (g 0), .ref L, .ref B, .ref P, .ref Q, .ref s, .int (g 6), .int (g 7), .long sum])
def pOwn (cs : List kCs) (ps : List aS) : kSg := ((cs.zip ps).map fun q => sOwn q.1 q.2).flatten
def wSg (M0 : Nat) (L B P Q : kLi) (c : kCs) (cs : List kCs) (g : Nat → Int32) (sum : Int64) (ps : List aS) (st : aS) (F : kSg) : List kSg := [[(M0, mE g sum L.1 B.1 P.1 Q.1 c.1)], sL L, sL B, sL P, sL Q, [(c.1, stE c.2.1.1 c.2.2.1.1 c.2.2.2.1.1 c.2.2.2.2 st.2.2.2.2)], sL c.2.1, sL c.2.2.1, sL c.2.2.2.1, sRu c.2.2.2.1.2.2.2.2 st.2.2.1, [(c.2.2.2.2, kAr st.2.2.2.1)], pOwn cs ps, F]
def kCapL (l : kLi) : Nat := l.2.2.2.1
def wRl (xm : Nat → Option kE) (m : kM) (L B P Q : kLi) (c : kCs) (cs : List kCs) (lo : List kLf) (bo pa : List Int32) (ps : List aS) (st : aS) : Prop :=
  (sLw L ∧ sLw B ∧ sLw P ∧ sLw Q) ∧ (kCapL L ≤ 20000 ∧ kCapL B ≤ 20000 ∧ kCapL P ≤ 20 ∧ kCapL Q ≤ 40) ∧ LVs xm m L.2.2.2.2 lo ∧ IVs xm m B.2.2.2.2 bo ∧ IVs xm m P.2.2.2.2 pa ∧ (Q.2.2.2.2 = cs.map (fun c => c.1) ∧ cs.length = ps.length) ∧ sRl xm m c st ∧ ∀ (i : Nat) (c : kCs) (s : aS), cs[i]? = some c → ps[i]? = some s → sRl xm m c s
/-- the reference lies in memory: numbers, loops, bound, patterns, past, now; the room of its two long lists; the frame -/
def WR (xm : Nat → Option kE) (M0 : Nat) (g : Nat → Int32) (sum : Int64) (lo : List kLf) (bo pa : List Int32) (ps : List aS) (st : aS) (ck : Nat) (F : kSg) (mem : kM) : Prop :=
  ∃ (L B P Q : kLi) (c : kCs) (cs : List kCs), HpS (wSg M0 L B P Q c cs g sum ps st F) mem ∧ wRl xm mem L B P Q c cs lo bo pa ps st ∧ kCapL L + kCapL B = ck ∧ L.1 = M0 + 1 ∧ B.1 = M0 + 2 ∧ P.1 = M0 + 3 ∧ Q.1 = M0 + 4
section KI
variable {xm : Nat → Option kE} {mem : kM} {Ls : List kSg} {N : Nat} {S : kO × kM → Prop}
theorem sRl.st {m m1 : kM} {c s : Nat} {k : kCs} {st : aS} (h : sRl xm m k st) (S : St xm m m1 c s) : sRl xm m1 k st := by
  obtain ⟨h1, h2, h3, h4, h5, h6, h7⟩ := h
  exact ⟨h1, h2, h3, h4, h5.st S, h6.st S, h7⟩
theorem wRl.st {m m1 : kM} {c0 s0 : Nat} {L B P Q : kLi} {c : kCs} {cs : List kCs} {lo : List kLf} {bo pa : List Int32} {ps : List aS} {st : aS} (h : wRl xm m L B P Q c cs lo bo pa ps st) (S : St xm m m1 c0 s0) : wRl xm m1 L B P Q c cs lo bo pa ps st := by
  obtain ⟨h1, h2, h3, h4, h5, h6, h7, h8⟩ := h
  exact ⟨h1, h2, h3.st S, h4.st S, h5.st S, h6, h7.st S, fun i c s a b => (h8 i c s a b).st S⟩
theorem HpS.shrink {A B : kSg} (H : HpS Ls mem) (i : Nat) (hi : Ls[i]? = some A) (h : B.Sublist A) : HpS (Ls.set i B) mem := HpS.un i hi ((H.foc i hi).sub (h.append (List.Sublist.refl _)))
theorem HpS.into {A X : kSg} (H : HpS (X :: Ls) mem) (i : Nat) (hi : Ls[i]? = some A) : HpS (Ls.set i (A ++ X)) mem := by
  refine HpS.un i hi (Hp.perm H ?_)
  rw [List.flatten_cons]
  refine (List.Perm.append_left X (fl_perm Ls i A hi)).trans ?_
  rw [← List.append_assoc]
  exact List.Perm.append_right _ List.perm_append_comm
theorem pOwn_snoc {cs : List kCs} {ps : List aS} {c : kCs} {s : aS} (h : cs.length = ps.length) : pOwn (cs ++ [c]) (ps ++ [s]) = pOwn cs ps ++ sOwn c s := by
  unfold pOwn
  rw [List.zip_append h]
  simp
theorem pOwn_cons {cs : List kCs} {ps : List aS} {c : kCs} {s : aS} : pOwn (c :: cs) (s :: ps) = sOwn c s ++ pOwn cs ps := by
  unfold pOwn
  simp
theorem kAs_pot {cap n : Nat} (h : n ≤ cap) : cap ≤ kAc cap n ∧ kAs cap n ≤ 4 * (kAc cap n - cap) := by
  unfold kAc kAs kGr
  split
  · split <;> omega
  · omega
theorem kAc_big {cap n : Nat} (h : n ≤ 12500) (hc : cap ≤ 20000) : kAc cap n ≤ 20000 := by
  unfold kAc kGr
  split
  · split <;> omega
  · omega
theorem kAc_small {cap n : Nat} (h : n ≤ 24) (hc : cap ≤ 40) : kAc cap n ≤ 40 ∧ kAs cap n ≤ 40 := by
  unfold kAc kAs kGr
  split
  · split <;> omega
  · omega
theorem dropLast_idx {α : Type} (l : List α) : l.eraseIdx (l.length - 1) = l.dropLast := List.eraseIdx_length_sub_one
/-- a run falls by a loop that is made -/
def kFall (z : List Int32) : List Int32 := if z.getD 3 0 = 1 then z.set 2 (if z.getD 2 0 + 1 < z.getD 1 0 then z.getD 2 0 + 1 else z.getD 1 0) else z
theorem kFall_len (z : List Int32) : (kFall z).length = z.length := by
  unfold kFall
  split <;> simp
theorem sRu_set {es : List Nat} {rs : List (List Int32)} {k e : Nat} {z : List Int32} (h : es[k]? = some e) (hl : es.length = rs.length) : (sRu es rs).set k (e, kAr z) = sRu es (rs.set k z) := by
  unfold sRu
  apply List.ext_getElem?
  intro j
  have hk := (List.getElem?_eq_some_iff.mp h).1
  rw [List.getElem?_set, List.getElem?_map]
  by_cases hj : k = j
  · subst hj
    have h3 : (es.zip (rs.set k z))[k]? = some (e, z) := (List.getElem?_zip_eq_some (z := (e, z))).mpr ⟨h, List.getElem?_set_self (by omega)⟩
    rw [if_pos rfl, if_pos (by simp; omega), List.getElem?_map, h3]
    rfl
  · rw [if_neg hj]
    have : (es.zip (rs.set k z))[j]? = (es.zip rs)[j]? := by
      simp only [List.zip, List.getElem?_zipWith]
      rw [List.getElem?_set_ne hj]
    rw [List.getElem?_map, this]
theorem set_same {α : Type} {l : List α} {u : Nat} {A : α} (h : l[u]? = some A) : l.set u A = l := by
  have h1 := (List.getElem?_eq_some_iff.mp h).1
  have h2 : l[u] = A := (List.getElem?_eq_some_iff.mp h).2
  subst h2
  exact List.set_getElem_self h1
end KI
