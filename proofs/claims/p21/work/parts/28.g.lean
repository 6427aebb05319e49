/-! ===== the reference: its states ===== -/
/-- a state's contents: left, right, runs, yarn; its numbers by their fields (4 side, 5 row, 6 made, 7 bound, 8 holes, 9 cables, 10 gaps) -/
abbrev aS : Type := List Int32 × List Int32 × List (List Int32) × List Int32 × (Nat → Int32)
/-- where it lies: the object, the lists left, right, runs, the array of yarn -/
abbrev kCs : Type := Nat × kLi × kLi × kLi × Nat
def kAr (xs : List Int32) : kE := .inr (.inl (0, xs))
def stE (la ra ua y : Nat) (sc : Nat → Int32) : kE := .inl (14, [.ref la, .ref ra, .ref ua, .ref y, .int (sc 4), .int (sc 5), .int (sc 6), .int (sc 7), .int (sc 8), .int (sc 9), .int (sc 10)])
def sRu (es : List Nat) (rs : List (List Int32)) : kSg := (es.zip rs).map fun q => (q.1, kAr q.2)
def cSg (c : kCs) (st : aS) : List kSg := [[(c.1, stE c.2.1.1 c.2.2.1.1 c.2.2.2.1.1 c.2.2.2.2 st.2.2.2.2)], sL c.2.1, sL c.2.2.1, sL c.2.2.2.1, sRu c.2.2.2.1.2.2.2.2 st.2.2.1, [(c.2.2.2.2, kAr st.2.2.2.1)]]
def sOwn (c : kCs) (st : aS) : kSg := (cSg c st).flatten
def IVs (xm : Nat → Option kE) (m : kM) (es : List Nat) (vs : List Int32) : Prop := es.length = vs.length ∧ ∀ (i : Nat) (e : Nat) (v : Int32), es[i]? = some e → vs[i]? = some v → kIv xm m e v
def LVs (xm : Nat → Option kE) (m : kM) (es : List Nat) (vs : List kLf) : Prop := es.length = vs.length ∧ ∀ (i : Nat) (e : Nat) (v : kLf), es[i]? = some e → vs[i]? = some v → kLo xm m e v
def sRl (xm : Nat → Option kE) (m : kM) (c : kCs) (st : aS) : Prop := sLw c.2.1 ∧ sLw c.2.2.1 ∧ sLw c.2.2.2.1 ∧ (c.2.1.2.2.2.1 ≤ 40 ∧ c.2.2.1.2.2.2.1 ≤ 40 ∧ c.2.2.2.1.2.2.2.1 ≤ 20) ∧ IVs xm m c.2.1.2.2.2.2 st.1 ∧ IVs xm m c.2.2.1.2.2.2.2 st.2.1 ∧ c.2.2.2.1.2.2.2.2.length = st.2.2.1.length
/-- what holds of a state's contents alone -/
def aSw (st : aS) : Prop := st.1.length ≤ 24 ∧ st.2.1.length ≤ 24 ∧ st.2.2.1.length ≤ 9 ∧ (∀ z ∈ st.2.2.1, z.length = 4) ∧ st.2.2.2.1.length = 4
section KG
variable {xm : Nat → Option kE} {mem : kM} {Ls : List kSg} {N : Nat} {S : kO × kM → Prop}
theorem IVs.st {m m1 : kM} {c s : Nat} {es : List Nat} {vs : List Int32} (h : IVs xm m es vs) (k : St xm m m1 c s) : IVs xm m1 es vs := ⟨h.1, fun i e v h1 h2 => (h.2 i e v h1 h2).st k⟩
theorem LVs.st {m m1 : kM} {c s : Nat} {es : List Nat} {vs : List kLf} (h : LVs xm m es vs) (k : St xm m m1 c s) : LVs xm m1 es vs := ⟨h.1, fun i e v h1 h2 => (h.2 i e v h1 h2).st k⟩
theorem IVs.ok {m : kM} {es : List Nat} {vs : List Int32} (h : IVs xm m es vs) : ∀ e ∈ es, kStOk xm m 2 (some e) = true := by
  intro e he
  obtain ⟨i, hi⟩ := List.mem_iff_getElem?.mp he
  have h1 := (List.getElem?_eq_some_iff.mp hi).1
  exact (h.2 i e _ hi (List.getElem?_eq_getElem (by rw [← h.1]; exact h1))).ok
theorem LVs.ok {m : kM} {es : List Nat} {vs : List kLf} (h : LVs xm m es vs) : ∀ e ∈ es, kStOk xm m 2 (some e) = true := by
  intro e he
  obtain ⟨i, hi⟩ := List.mem_iff_getElem?.mp he
  have h1 := (List.getElem?_eq_some_iff.mp hi).1
  exact (h.2 i e _ hi (List.getElem?_eq_getElem (by rw [← h.1]; exact h1))).ok
theorem IVs.app {m : kM} {es es' : List Nat} {vs vs' : List Int32} (h : IVs xm m es vs) (k : IVs xm m es' vs') : IVs xm m (es ++ es') (vs ++ vs') := by
  refine ⟨by simp [h.1, k.1], fun i e v h1 h2 => ?_⟩
  by_cases hi : i < es.length
  · rw [List.getElem?_append_left hi] at h1
    rw [List.getElem?_append_left (by rw [← h.1]; exact hi)] at h2
    exact h.2 i e v h1 h2
  · rw [List.getElem?_append_right (by omega)] at h1
    rw [List.getElem?_append_right (by rw [← h.1]; omega), ← h.1] at h2
    exact k.2 _ e v h1 h2
theorem IVs.nil {m : kM} : IVs xm m [] [] := ⟨rfl, fun i e v h => by cases h⟩
theorem IVs.one {m : kM} {e : Nat} {v : Int32} (h : kIv xm m e v) : IVs xm m [e] [v] := by
  refine ⟨rfl, fun i e' v' h1 h2 => ?_⟩
  cases i with
  | zero => cases h1; cases h2; exact h
  | succ i => cases h1
theorem LVs.snoc {m : kM} {es : List Nat} {vs : List kLf} {e : Nat} {v : kLf} (h : LVs xm m es vs) (k : kLo xm m e v) : LVs xm m (es ++ [e]) (vs ++ [v]) := by
  refine ⟨by simp [h.1], fun i e' v' h1 h2 => ?_⟩
  by_cases hi : i < es.length
  · rw [List.getElem?_append_left hi] at h1
    rw [List.getElem?_append_left (by rw [← h.1]; exact hi)] at h2
    exact h.2 i e' v' h1 h2
  · rw [List.getElem?_append_right (by omega)] at h1
    rw [List.getElem?_append_right (by rw [← h.1]; omega), ← h.1] at h2
    cases hz : i - es.length with
    | zero => rw [hz] at h1 h2; cases h1; cases h2; exact k
    | succ z => rw [hz] at h1; cases h1
theorem IVs.erase {m : kM} {es : List Nat} {vs : List Int32} (h : IVs xm m es vs) (j : Nat) : IVs xm m (es.eraseIdx j) (vs.eraseIdx j) := by
  refine ⟨by rw [List.length_eraseIdx, List.length_eraseIdx, h.1], fun i e v h1 h2 => ?_⟩
  by_cases hi : i < j
  · rw [List.getElem?_eraseIdx_of_lt hi] at h1 h2
    exact h.2 i e v h1 h2
  · rw [List.getElem?_eraseIdx_of_ge (by omega)] at h1 h2
    exact h.2 _ e v h1 h2
theorem IVs.at {m : kM} {es : List Nat} {vs : List Int32} (h : IVs xm m es vs) {i : Nat} (h1 : i < es.length) (h2 : i < vs.length) : kIv xm m es[i] vs[i] := h.2 i _ _ (List.getElem?_eq_getElem h1) (List.getElem?_eq_getElem h2)
theorem LVs.at {m : kM} {es : List Nat} {vs : List kLf} (h : LVs xm m es vs) {i : Nat} (h1 : i < es.length) (h2 : i < vs.length) : kLo xm m es[i] vs[i] := h.2 i _ _ (List.getElem?_eq_getElem h1) (List.getElem?_eq_getElem h2)
theorem ok_sp9002 {a : Nat} {ys : List Int32} {K : kM → Nat → dRes} (xm : Nat → Option kE) (H : HpS Ls mem) (hk : kLook xm mem a = some (kAr ys)) (ha : 1000 ≤ a) (h : ∀ m p, HpS ([(p, kAr ys)] :: Ls) m → St xm mem m 1 ys.length → dOk (K m p) S) : dOk (dSp xm 9002 mem a K) S := by
  have e : kSpec xm 9002 0 [] [.ref a] mem = some (.inl (0 + 3, [], [.ref (kNew mem)], mem ++ [kAr ys])) := by
    unfold kAr at hk
    simp [kSpec, kTopA, hk, ha, kNx, kAr]
  unfold dSp
  simp only [e]
  exact h _ _ (Hp.new _ H) (St.new _)
theorem os_cpyI {s0 d0 : Nat} {sp dp n : Int32} {us ys : List Int32} {K : kM → dRes} {A : kSg} (H : HpS Ls mem) (hs : kLook xm mem s0 = some (kAr us)) (hs1 : 1000 ≤ s0) (i j : Nat) (hi : Ls[i]? = some A) (hj : A[j]? = some (d0, kAr ys)) (hr : kOkR sp dp n us.length ys.length = true) (h : ∀ m, HpS (Ls.set i (A.set j (d0, kAr (kCpy us ys sp.toNatClampNeg dp.toNatClampNeg n.toNatClampNeg)))) m → St xm mem m 0 0 → dOk (K m) S) : dOk (dCpy xm mem s0 sp d0 dp n K) S := by
  have hl : j < A.length := (List.getElem?_eq_some_iff.mp hj).1
  refine ok_cpyI (H.foc i hi) hs hs1 j (by rw [List.getElem?_append_left hl]; exact hj) hr fun m H1 S1 => ?_
  rw [List.set_append_left _ _ hl] at H1
  exact h m (HpS.un i hi H1) S1
theorem ms_new {s : Nat} {v0 v1 v2 v3 : Value} {sc : Nat → Int32} (H : HpS ([(s, .inl (14, [v0, v1, v2, v3, .int (sc 4), .int (sc 5), .int (sc 6), .int (sc 7), .int (sc 8), .int (sc 9), .int (sc 10)]))] :: Ls) mem) :
    dOk (m_MS_new xm N s mem) (rV fun m => ∃ la ra ua y, HpS ([(y, kAr [0, 0, 0, 0])] :: sAL ua 1 0 0 [] :: sAL ra 1 0 0 [] :: sAL la 1 0 0 [] :: [(s, stE la ra ua y sc)] :: Ls) m ∧ St xm mem m 4 13) := by
  unfold m_MS_new
  refine os_n xm H fun m1 la H1 S1 => ?_
  refine ok_cV (ls_new H1 0 rfl) fun m2 h => ?_
  obtain ⟨H2, S2⟩ := h
  refine os_p H2 1 0 rfl rfl rfl rfl fun m3 H3 S3 => ?_
  refine os_n xm H3 fun m4 ra H4 S4 => ?_
  refine ok_cV (ls_new H4 0 rfl) fun m5 h => ?_
  obtain ⟨H5, S5⟩ := h
  refine os_p H5 2 0 rfl rfl rfl rfl fun m6 H6 S6 => ?_
  refine os_n xm H6 fun m7 ua H7 S7 => ?_
  refine ok_cV (ls_new H7 0 rfl) fun m8 h => ?_
  obtain ⟨H8, S8⟩ := h
  refine os_p H8 3 0 rfl rfl rfl rfl fun m9 H9 S9 => ?_
  refine os_nI (n := 4) xm H9 (by decide) fun m10 y H10 S10 => ?_
  refine os_p H10 4 0 rfl rfl rfl rfl fun m11 H11 S11 => ?_
  refine ok_V ⟨la, ra, ua, y, H11, ?_⟩
  exact (S1.trans (S2.trans (S3.trans (S4.trans (S5.trans (S6.trans (S7.trans (S8.trans (S9.trans (S10.trans S11)))))))))).mono (by decide) (by show (3 + (0 + (0 + (3 + (0 + (0 + (3 + (0 + (0 + (4 + 0)))))))))) ≤ 13; decide)
theorem HpS.swap {A B : kSg} (H : HpS (A :: B :: Ls) mem) : HpS (B :: A :: Ls) mem := by
  refine Hp.perm H ?_
  simp only [List.flatten_cons]
  rw [← List.append_assoc, ← List.append_assoc]
  exact List.Perm.append_right _ List.perm_append_comm
theorem HpS.join {z : Nat × kE} {I A : kSg} (H : HpS ([z] :: I :: A :: Ls) mem) : HpS (I :: (A ++ [z]) :: Ls) mem := by
  refine Hp.perm H ?_
  simp only [List.flatten_cons]
  rw [← List.append_assoc, ← List.append_assoc, ← List.append_assoc]
  refine List.Perm.append_right _ ?_
  rw [List.append_assoc]
  refine List.perm_append_comm.trans ?_
  rw [List.append_assoc]
theorem HpS.nil {I : kSg} (H : HpS (I :: Ls) mem) : HpS (I :: [] :: Ls) mem := H
theorem sRu_snoc {es : List Nat} {rs : List (List Int32)} {e : Nat} {r : List Int32} (h : es.length = rs.length) : sRu (es ++ [e]) (rs ++ [r]) = sRu es rs ++ [(e, kAr r)] := by
  unfold sRu
  rw [List.zip_append h]
  simp
theorem sRu_at {es : List Nat} {rs : List (List Int32)} {k e : Nat} {r : List Int32} (h1 : es[k]? = some e) (h2 : rs[k]? = some r) : (sRu es rs)[k]? = some (e, kAr r) := by
  unfold sRu
  rw [List.getElem?_map, (List.getElem?_zip_eq_some (z := (e, r))).mpr ⟨h1, h2⟩]
  rfl
theorem sRu_ok (H : HpS Ls mem) {i : Nat} {es : List Nat} {rs : List (List Int32)} (hi : Ls[i]? = some (sRu es rs)) (hl : es.length = rs.length) : ∀ e ∈ es, kStOk xm mem 2 (some e) = true := by
  intro e he
  obtain ⟨k, hk⟩ := List.mem_iff_getElem?.mp he
  have h1 := (List.getElem?_eq_some_iff.mp hk).1
  have h2 : rs[k]? = some rs[k] := List.getElem?_eq_getElem (by omega)
  have h3 := H.look (xm := xm) i k hi (sRu_at hk h2)
  have h4 := H.ge i k hi (sRu_at hk h2)
  unfold kStOk
  simp only [h3]
  simp [kAr, h4]
end KG
