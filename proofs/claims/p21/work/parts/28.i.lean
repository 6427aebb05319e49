/-! ===== the reference as a whole: how it lies in memory, and what its parts do ===== -/
def mE (g : Nat → Int32) (sum : Int64) (L B P Q s : Nat) : kE := .inl (15, [.int (g 0), .ref L, .ref B, .ref P, .ref Q, .ref s, .int (g 6), .int (g 7), .long sum])
def pOwn (cs : List kCs) (ps : List aS) : kSg := ((cs.zip ps).map fun q => sOwn q.1 q.2).flatten
def wSg (M0 : Nat) (L B P Q : kLi) (c : kCs) (cs : List kCs) (g : Nat → Int32) (sum : Int64) (ps : List aS) (st : aS) (F : kSg) : List kSg := [[(M0, mE g sum L.1 B.1 P.1 Q.1 c.1)], sL L, sL B, sL P, sL Q, [(c.1, stE c.2.1.1 c.2.2.1.1 c.2.2.2.1.1 c.2.2.2.2 st.2.2.2.2)], sL c.2.1, sL c.2.2.1, sL c.2.2.2.1, sRu c.2.2.2.1.2.2.2.2 st.2.2.1, [(c.2.2.2.2, kAr st.2.2.2.1)], pOwn cs ps, F]
def kCapL (l : kLi) : Nat := l.2.2.2.1
def wRl (xm : Nat → Option kE) (m : kM) (L B P Q : kLi) (c : kCs) (cs : List kCs) (lo : List kLf) (bo pa : List Int32) (ps : List aS) (st : aS) : Prop :=
  (sLw L ∧ sLw B ∧ sLw P ∧ sLw Q) ∧ (kCapL L ≤ 20000 ∧ kCapL B ≤ 20000 ∧ kCapL P ≤ 20 ∧ kCapL Q ≤ 40) ∧ LVs xm m L.2.2.2.2 lo ∧ IVs xm m B.2.2.2.2 bo ∧ IVs xm m P.2.2.2.2 pa ∧ (Q.2.2.2.2 = cs.map (fun c => c.1) ∧ cs.length = ps.length) ∧ sRl xm m c st ∧ ∀ (i : Nat) (c : kCs) (s : aS), cs[i]? = some c → ps[i]? = some s → sRl xm m c s
/-- the reference lies in memory: numbers, loops, bound, patterns, past, now; the room of its two long lists; the frame -/
def WR (xm : Nat → Option kE) (M0 : Nat) (g : Nat → Int32) (sum : Int64) (lo : List kLf) (bo pa : List Int32) (ps : List aS) (st : aS) (ck : Nat) (F : kSg) (mem : kM) : Prop :=
  ∃ (L B P Q : kLi) (c : kCs) (cs : List kCs), HpS (wSg M0 L B P Q c cs g sum ps st F) mem ∧ wRl xm mem L B P Q c cs lo bo pa ps st ∧ kCapL L + kCapL B = ck ∧ L.1 = M0 + 1 ∧ B.1 = M0 + 2 ∧ P.1 = M0 + 3 ∧ Q.1 = M0 + 4
section KI
variable {xm : Nat → Option kE} {mem : kM} {Ls : List kSg} {N : Nat} {S : kO × kM → Prop}
theorem sRl.st {m m1 : kM} {c s : Nat} {k : kCs} {st : aS} (h : sRl xm m k st) (S : St xm m m1 c s) : sRl xm m1 k st := by
  obtain ⟨h1, h2, h3, h4, h5, h6, h7⟩ := h
  exact ⟨h1, h2, h3, h4, h5.st S, h6.st S, h7⟩
theorem wRl.st {m m1 : kM} {c0 s0 : Nat} {L B P Q : kLi} {c : kCs} {cs : List kCs} {lo : List kLf} {bo pa : List Int32} {ps : List aS} {st : aS} (h : wRl xm m L B P Q c cs lo bo pa ps st) (S : St xm m m1 c0 s0) : wRl xm m1 L B P Q c cs lo bo pa ps st := by
  obtain ⟨h1, h2, h3, h4, h5, h6, h7, h8⟩ := h
  exact ⟨h1, h2, h3.st S, h4.st S, h5.st S, h6, h7.st S, fun i c s a b => (h8 i c s a b).st S⟩
theorem HpS.shrink {A B : kSg} (H : HpS Ls mem) (i : Nat) (hi : Ls[i]? = some A) (h : B.Sublist A) : HpS (Ls.set i B) mem := HpS.un i hi ((H.foc i hi).sub (h.append (List.Sublist.refl _)))
theorem HpS.into {A X : kSg} (H : HpS (X :: Ls) mem) (i : Nat) (hi : Ls[i]? = some A) : HpS (Ls.set i (A ++ X)) mem := by
  refine HpS.un i hi (Hp.perm H ?_)
  rw [List.flatten_cons]
  refine (List.Perm.append_left X (fl_perm Ls i A hi)).trans ?_
  rw [← List.append_assoc]
  exact List.Perm.append_right _ List.perm_append_comm
theorem pOwn_snoc {cs : List kCs} {ps : List aS} {c : kCs} {s : aS} (h : cs.length = ps.length) : pOwn (cs ++ [c]) (ps ++ [s]) = pOwn cs ps ++ sOwn c s := by
  unfold pOwn
  rw [List.zip_append h]
  simp
theorem pOwn_cons {cs : List kCs} {ps : List aS} {c : kCs} {s : aS} : pOwn (c :: cs) (s :: ps) = sOwn c s ++ pOwn cs ps := by
  unfold pOwn
  simp
theorem pOwn_ok (H : HpS Ls mem) {i : Nat} {cs : List kCs} {ps : List aS} (hi : Ls[i]? = some (pOwn cs ps)) (hl : cs.length = ps.length) : ∀ e ∈ cs.map (fun c => c.1), kStOk xm mem 2 (some e) = true := by
  intro e he
  obtain ⟨c, hc, rfl⟩ := List.mem_map.mp he
  obtain ⟨k, hk⟩ := List.mem_iff_getElem?.mp hc
  have h1 := (List.getElem?_eq_some_iff.mp hk).1
  have h2 : ps[k]? = some ps[k] := List.getElem?_eq_getElem (by omega)
  have h3 : (c, ps[k]) ∈ cs.zip ps := List.mem_of_getElem? ((List.getElem?_zip_eq_some (z := (c, ps[k]))).mpr ⟨hk, h2⟩)
  have h4 : (c.1, stE c.2.1.1 c.2.2.1.1 c.2.2.2.1.1 c.2.2.2.2 ps[k].2.2.2.2) ∈ pOwn cs ps := by
    unfold pOwn
    refine List.mem_flatten.mpr ⟨sOwn c ps[k], List.mem_map.mpr ⟨_, h3, rfl⟩, ?_⟩
    exact List.mem_append_left _ (List.mem_singleton.mpr rfl)
  obtain ⟨j, hj⟩ := List.mem_iff_getElem?.mp h4
  have h5 := H.look (xm := xm) i j hi hj
  unfold kStOk
  simp only [h5]
  rfl
theorem kAs_pot {cap n : Nat} (h : n ≤ cap) : cap ≤ kAc cap n ∧ kAs cap n ≤ 4 * (kAc cap n - cap) := by
  unfold kAc kAs kGr
  split
  · split <;> omega
  · omega
theorem kAc_big {cap n : Nat} (h : n ≤ 12500) (hc : cap ≤ 20000) : kAc cap n ≤ 20000 := by
  unfold kAc kGr
  split
  · split <;> omega
  · omega
theorem kAc_small {cap n : Nat} (h : n ≤ 24) (hc : cap ≤ 40) : kAc cap n ≤ 40 ∧ kAs cap n ≤ 40 := by
  unfold kAc kAs kGr
  split
  · split <;> omega
  · omega
theorem m_is {x lo hi : Int32} : m_M_is xm N x lo hi mem = some (.inl (some (.int (if x < lo then 0 else if hi < x then 0 else 1))), mem) := by
  refine ok_eq ?_
  unfold m_M_is
  refine ok_if (fun h => ?_) (fun h => ?_)
  · rw [if_pos h]; exact ok_me
  · rw [if_neg h]
    refine ok_if (fun h2 => ?_) (fun h2 => ?_)
    · rw [if_pos h2]; exact ok_me
    · rw [if_neg h2]; exact ok_me
theorem dropLast_idx {α : Type} (l : List α) : l.eraseIdx (l.length - 1) = l.dropLast := List.eraseIdx_length_sub_one
theorem m_pull {a q cap i : Nat} {mc : Int32} {es : List Nat} {vs : List Int32} {v : Int32} (hw : sWf q cap es) (H : HpS Ls mem) (hi : Ls[i]? = some (sAL a q mc cap es)) (hv : IVs xm mem es (vs ++ [v])) :
    dOk (m_M_pull xm N a mem) (rI fun x m => x = v ∧ HpS (Ls.set i (sAL a q (mc + 1) cap es.dropLast)) m ∧ sWf q cap es.dropLast ∧ IVs xm m es.dropLast vs ∧ St xm mem m 0 0) := by
  have hl : es.length = vs.length + 1 := by rw [hv.1]; simp
  have hlt := hw.lt
  unfold m_M_pull
  refine ok_rc (ls_hd H i hi) ?_
  refine ok_eI (ls_size H i hi) ?_
  refine ok_rc (ls_hd H i hi) ?_
  rw [i_sub1 (by omega)]
  refine ok_cR (ls_remove hw H i hi hv.ok (by omega)) fun e m h => ?_
  obtain ⟨rfl, H1, w1, S1⟩ := h
  have hk : kIv xm m es[es.length - 1] v := by
    refine (hv.2 (es.length - 1) _ v (List.getElem?_eq_getElem (by omega)) ?_).st S1
    rw [hl, List.getElem?_append_right (by omega), show vs.length + 1 - 1 - vs.length = 0 by omega]
    rfl
  refine ok_ccO hk ?_
  refine ok_rc hk ?_
  refine ok_eI (int_val hk) ?_
  rw [dropLast_idx] at H1 w1
  refine ok_I ⟨rfl, H1, w1, ?_, S1⟩
  have h2 := (hv.st S1).erase (es.length - 1)
  rw [dropLast_idx] at h2
  have e2 : (vs ++ [v]).eraseIdx (es.length - 1) = vs := by
    rw [hl, List.eraseIdx_append_of_length_le (by omega), show vs.length + 1 - 1 - vs.length = 0 by omega]
    simp
  rw [e2] at h2
  exact h2
/-- a run falls by a loop that is made -/
def kFall (z : List Int32) : List Int32 := if z.getD 3 0 = 1 then z.set 2 (if z.getD 2 0 + 1 < z.getD 1 0 then z.getD 2 0 + 1 else z.getD 1 0) else z
theorem kFall_len (z : List Int32) : (kFall z).length = z.length := by
  unfold kFall
  split <;> simp
theorem sRu_set {es : List Nat} {rs : List (List Int32)} {k e : Nat} {z : List Int32} (h : es[k]? = some e) (hl : es.length = rs.length) : (sRu es rs).set k (e, kAr z) = sRu es (rs.set k z) := by
  unfold sRu
  apply List.ext_getElem?
  intro j
  have hk := (List.getElem?_eq_some_iff.mp h).1
  rw [List.getElem?_set, List.getElem?_map]
  by_cases hj : k = j
  · subst hj
    have h3 : (es.zip (rs.set k z))[k]? = some (e, z) := (List.getElem?_zip_eq_some (z := (e, z))).mpr ⟨h, List.getElem?_set_self (by omega)⟩
    rw [if_pos rfl, if_pos (by simp; omega), List.getElem?_map, h3]
    rfl
  · rw [if_neg hj]
    have : (es.zip (rs.set k z))[j]? = (es.zip rs)[j]? := by
      simp only [List.zip, List.getElem?_zipWith]
      rw [List.getElem?_set_ne hj]
    rw [List.getElem?_map, this]
theorem set_same {α : Type} {l : List α} {u : Nat} {A : α} (h : l[u]? = some A) : l.set u A = l := by
  have h1 := (List.getElem?_eq_some_iff.mp h).1
  have h2 : l[u] = A := (List.getElem?_eq_some_iff.mp h).2
  subst h2
  exact List.set_getElem_self h1
theorem fall_loop {i j0 u it M0 s ua uq ucap : Nat} {um : Int32} {ue : List Nat} {g : Nat → Int32} {sum : Int64} {lA bA pA qA l1 r1 y1 : Nat} {sc : Nat → Int32} (hw : sWf uq ucap ue) (hij : u ≠ i) (hir : u ≠ j0) (hiu : u ≠ 0) :
    ∀ (j k n : Nat) (l : Int32) (mem : kM) (Ls : List kSg) (rs : List (List Int32)), rs.length = k + j → j < n → Ls[i]? = some (sAL ua uq um ucap ue) → Ls[u]? = some (sRu ue rs) → Ls[0]? = some [(M0, mE g sum lA bA pA qA s)] → Ls[j0]? = some [(s, stE l1 r1 ua y1 sc)] → ue.length = rs.length → rs.length ≤ 9 → (∀ z ∈ rs, z.length = 4) → HpS ([sIt it k l um ua] :: Ls) mem →
      dOk (m_M_make_99 xm N n M0 it mem) (rI fun v m => v = sc 6 - 1 ∧ HpS (Ls.set u (sRu ue (rs.take k ++ (rs.drop k).map kFall))) m ∧ St xm mem m 0 0) := by
  intro j
  induction j with
  | zero =>
    intro k n l mem Ls rs hk hn h1 h2 h3 h4 hur h9 hr4 H
    obtain ⟨n, rfl⟩ : ∃ n', n = n' + 1 := ⟨n - 1, by omega⟩
    rw [m_M_make_99]
    refine ok_rc (H.look 0 0 rfl rfl) ?_
    refine ok_eI (itr_has (l := 0) (n := ue.length) (H.look 0 0 rfl rfl) (H.look (i + 1) 0 h1 rfl) (by omega) (by omega)) ?_
    have e1 : (if k = ue.length then (0 : Int32) else 1) = 0 := if_pos (by omega)
    rw [e1, if_pos rfl]
    refine ok_gR (H.look 1 0 h3 rfl) rfl ?_
    refine ok_gI (H.look (j0 + 1) 0 h4 rfl) rfl ?_
    refine ok_I ⟨rfl, ?_, St.refl⟩
    rw [List.take_of_length_le (by omega), List.drop_eq_nil_of_le (by omega), List.map_nil, List.append_nil]
    have e2 : Ls.set u (sRu ue rs) = Ls := set_same h2
    rw [e2]
    exact H.drop
  | succ j ih =>
    intro k n l mem Ls rs hk hn h1 h2 h3 h4 hur h9 hr4 H
    obtain ⟨n, rfl⟩ : ∃ n', n = n' + 1 := ⟨n - 1, by omega⟩
    have hku : k < ue.length := by omega
    have hkr : k < rs.length := by omega
    rw [m_M_make_99]
    refine ok_rc (H.look 0 0 rfl rfl) ?_
    refine ok_eI (itr_has (l := 0) (n := ue.length) (H.look 0 0 rfl rfl) (H.look (i + 1) 0 h1 rfl) (by omega) (by omega)) ?_
    have e1 : (if k = ue.length then (0 : Int32) else 1) = 1 := if_neg (by omega)
    rw [e1, if_neg (show ¬ ((1 : Int32) = 0) by decide)]
    refine ok_rc (H.look 0 0 rfl rfl) ?_
    refine ok_cR (ls_next hw H i h1 hku) fun e m1 h => ?_
    obtain ⟨rfl, H1, S1⟩ := h
    have hat : (sRu ue rs)[k]? = some (ue[k], kAr rs[k]) := sRu_at (List.getElem?_eq_getElem hku) (List.getElem?_eq_getElem hkr)
    have hl : kLook xm m1 ue[k] = some (kAr rs[k]) := H1.look (u + 1) k h2 hat
    have hg : 1000 ≤ ue[k] := H1.ge (u + 1) k h2 hat
    have hz : rs[k].length = 4 := hr4 _ (List.getElem_mem hkr)
    have hul : u < Ls.length := (List.getElem?_eq_some_iff.mp h2).1
    refine ok_ccA hl hg ?_
    refine ok_iL hl (by rw [hz]; decide) ?_
    have step : ∀ m2 (z : List Int32), z.length = 4 → HpS ([sIt it (k + 1) (Int32.ofNat k) um ua] :: Ls.set u (sRu ue (rs.set k z))) m2 → z = kFall rs[k] → St xm m1 m2 0 0 → dOk (m_M_make_99 xm N n M0 it m2) (rI fun v m => v = sc 6 - 1 ∧ HpS (Ls.set u (sRu ue (rs.take k ++ (rs.drop k).map kFall))) m ∧ St xm mem m 0 0) := by
      intro m2 z hz4 H2 hz2 S2
      have e0 : (Ls.set u (sRu ue (rs.set k z)))[0]? = some [(M0, mE g sum lA bA pA qA s)] := by
        rw [List.getElem?_set_ne hiu]
        exact h3
      refine ok_mono (ih (k + 1) n _ m2 _ (rs.set k z) (by rw [List.length_set]; omega) (by omega) (by rw [List.getElem?_set_ne hij]; exact h1) (List.getElem?_set_self hul) e0 (by rw [List.getElem?_set_ne hir]; exact h4) (by rw [List.length_set]; exact hur) (by rw [List.length_set]; exact h9) ?_ H2) ?_
      · intro w hw'
        obtain ⟨t, ht⟩ := List.mem_iff_getElem?.mp hw'
        rw [List.getElem?_set] at ht
        split at ht
        · cases ht; exact hz4
        · exact hr4 w (List.mem_of_getElem? ht)
      · rintro r ⟨v, g1, g2, g3, S3⟩
        refine ⟨v, g1, g2, ?_, (S1.trans (S2.trans S3)).mono (by omega) (by omega)⟩
        rw [List.set_set] at g3
        have e2 : (rs.set k z).take (k + 1) ++ ((rs.set k z).drop (k + 1)).map kFall = rs.take k ++ (rs.drop k).map kFall := by
          rw [List.drop_set_of_lt (by omega), ← List.getElem_cons_drop (h := hkr), List.map_cons, ← hz2, List.take_set, List.take_succ, List.getElem?_eq_getElem hkr]
          rw [List.set_append_right _ _ (by rw [List.length_take]; omega), List.length_take, show k - min k rs.length = 0 by omega]
          simp
        rw [e2] at g3
        exact g3
    have d3 : ((3 : Int32).toNatClampNeg) = 3 := by decide
    have d2 : ((2 : Int32).toNatClampNeg) = 2 := by decide
    have d1 : ((1 : Int32).toNatClampNeg) = 1 := by decide
    rw [d3]
    refine ok_if (fun g1 => ?_) (fun g1 => ?_)
    · refine ok_iL hl (by rw [hz]; decide) ?_
      refine ok_iL hl (by rw [hz]; decide) ?_
      refine ok_eI m_min ?_
      rw [d1, d2]
      refine os_iS H1 (u + 1) k h2 hat (by rw [hz]; decide) fun m2 H2 S2 => ?_
      have H3 : HpS ([sIt it (k + 1) (Int32.ofNat k) um ua] :: Ls.set u ((sRu ue rs).set k (ue[k], kAr (rs[k].set (2 : Int32).toNatClampNeg (if rs[k].getD 2 0 + 1 < rs[k].getD 1 0 then rs[k].getD 2 0 + 1 else rs[k].getD 1 0))))) m2 := H2
      rw [sRu_set (List.getElem?_eq_getElem hku) hur, d2] at H3
      unfold m_M_make_146
      refine step m2 _ (by rw [List.length_set]; exact hz) H3 ?_ S2
      unfold kFall
      rw [if_pos g1]
    · unfold m_M_make_146
      refine step m1 rs[k] hz ?_ ?_ St.refl
      · have e3 : rs.set k rs[k] = rs := List.set_getElem_self hkr
        rw [e3]
        have e2 : Ls.set u (sRu ue rs) = Ls := set_same h2
        rw [e2]
        exact H1
      · unfold kFall
        rw [if_neg g1]
end KI
