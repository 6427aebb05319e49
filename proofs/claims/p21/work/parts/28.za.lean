/-! ===== the reference: digest ===== -/
/-- the reference with some sum, so much dearer than at m0 -/
def WD (xm : Nat → Option kE) (M0 : Nat) (L B P Q : kLi) (c : kCs) (cs : List kCs) (g : Nat → Int32) (lo : List kLf) (bo pa : List Int32) (ps : List aS) (st : aS) (F : kSg) (m0 : kM) (cc ss : Nat) (m : kM) : Prop :=
  ∃ sum, WC xm M0 L B P Q c cs g sum lo bo pa ps st F m ∧ St xm m0 m cc ss
section KZ1
variable {xm : Nat → Option kE} {mem m0 : kM} {N M0 nb k C S ck c0 s0 : Nat} {F X : kSg} {g : Nat → Int32} {sum : Int64} {lo : List kLf} {bo pa : List Int32} {ps : List aS} {T : kO × kM → Prop} {L B P Q : kLi} {s y : Nat} {l r u : kLi} {cs : List kCs} {vl vr ya : List Int32} {rs : List (List Int32)} {sc : Nat → Int32} {st : aS} {c : kCs}
theorem add_front {x : Int32} (H : HpS (X :: wSg M0 L B P Q c cs g sum ps st F) mem) : dOk (m_M_add xm N M0 x mem) (rV fun m => ∃ sum', HpS (X :: wSg M0 L B P Q c cs g sum' ps st F) m ∧ St xm mem m 0 0) := by
  unfold m_M_add
  refine ok_gJ (H.look 1 0 rfl rfl) rfl ?_
  refine os_p H 1 0 rfl rfl rfl rfl fun m H1 S1 => ?_
  exact ok_V ⟨_, H1, S1⟩
theorem d_add' {x : Int32} {K : kM → dRes} {c1 s1 : Nat} (V : WC xm M0 L B P Q c cs g sum lo bo pa ps st F mem) (S0 : St xm m0 mem c1 s1) (h : ∀ m, WD xm M0 L B P Q c cs g lo bo pa ps st F m0 c1 s1 m → dOk (K m) T) : dOk (dRc xm mem M0 15 <| dCV (m_M_add xm N M0 x mem) K) T := by
  refine w_rc V.wr ?_
  have key : dOk (m_M_add xm N M0 x mem) (rV fun m => ∃ sum', WC xm M0 L B P Q c cs g sum' lo bo pa ps st F m ∧ St xm mem m 0 0) := by
    unfold m_M_add
    refine ok_gJ (V.1.look 0 0 rfl rfl) rfl ?_
    refine os_p V.1 0 0 rfl rfl rfl rfl fun m H1 S1 => ?_
    exact ok_V ⟨_, ⟨H1, V.2.1.st S1, V.2.2⟩, S1⟩
  refine ok_cV key fun m hh => ?_
  obtain ⟨sum', V1, S1⟩ := hh
  exact h m ⟨sum', V1, (S0.trans S1).mono (by omega) (by omega)⟩
theorem d_add {Y : dRes} {K : kM → dRes} {c1 s1 : Nat} (D : dOk Y (rI fun v m => WC xm M0 L B P Q c cs g sum lo bo pa ps st F m ∧ St xm mem m c1 s1)) (S0 : St xm m0 mem c0 s0) (h : ∀ m, WD xm M0 L B P Q c cs g lo bo pa ps st F m0 (c0 + c1) (s0 + s1) m → dOk (K m) T) : dOk (dCI Y fun v m => dRc xm m M0 15 <| dCV (m_M_add xm N M0 v m) K) T := by
  refine ok_cI D fun v m hh => ?_
  exact d_add' hh.1 (S0.trans hh.2) h
theorem d_pure {Y : dRes} (V : WC xm M0 L B P Q c cs g sum lo bo pa ps st F mem) (h : ∃ v, Y = some (.inl (some (.int v)), mem)) : dOk Y (rI fun v m => WC xm M0 L B P Q c cs g sum lo bo pa ps st F m ∧ St xm mem m 0 0) := by
  obtain ⟨v, rfl⟩ := h
  exact ok_I ⟨V, St.refl⟩
theorem WD.mono {c1 s1 c2 s2 : Nat} (D : WD xm M0 L B P Q c cs g lo bo pa ps st F m0 c1 s1 mem) (h1 : c1 ≤ c2) (h2 : s1 ≤ s2) : WD xm M0 L B P Q c cs g lo bo pa ps st F m0 c2 s2 mem := by
  obtain ⟨sum, V, S1⟩ := D
  exact ⟨sum, V, S1.mono h1 h2⟩
/-- one of the two needles, whatever the sum -/
theorem c_ndA (V : WC xm M0 L B P Q (s, l, r, u, y) cs g sum lo bo pa ps (vl, vr, rs, ya, sc) F mem) (x : Int32) : ∃ (i a q cap : Nat) (mc : Int32) (es : List Nat) (vs : List Int32), (if x = 0 then l.1 else r.1) = a ∧ (∀ sum, (wSg M0 L B P Q (s, l, r, u, y) cs g sum ps (vl, vr, rs, ya, sc) F)[i]? = some (sAL a q mc cap es)) ∧ sWf q cap es ∧ IVs xm mem es vs ∧ vs = (if x = 0 then vl else vr) := by
  obtain ⟨H, R, -⟩ := V
  obtain ⟨-, -, -, -, -, -, ⟨t1, t2, -, -, t7, t8, -⟩, -⟩ := R
  by_cases e : x = 0
  · rw [if_pos e, if_pos e]
    exact ⟨6, _, l.2.1, l.2.2.2.1, l.2.2.1, l.2.2.2.2, vl, rfl, fun _ => rfl, t1, t7, rfl⟩
  · rw [if_neg e, if_neg e]
    exact ⟨7, _, r.2.1, r.2.2.2.1, r.2.2.1, r.2.2.2.2, vr, rfl, fun _ => rfl, t2, t8, rfl⟩
theorem add_35 {a q cap i t : Nat} {mc : Int32} {es : List Nat} {vs : List Int32} {K13 : Nat → Nat → Int32 → kM → dRes} (hX : kXok xm) (hN : 20001 ≤ N) (hi : aInv nb g lo bo pa ps (vl, vr, rs, ya, sc)) (hb : bo.length ≤ 20000) (hlo : lo.length ≤ 20000) (hs : ∀ sum, (wSg M0 L B P Q (s, l, r, u, y) cs g sum ps (vl, vr, rs, ya, sc) F)[i]? = some (sAL a q mc cap es)) (hw : sWf q cap es) (hv : IVs xm m0 es vs) (hid : ∀ v ∈ vs, aId lo.length v) (ht : t < es.length) : ∀ (j d f c1 s1 : Nat) (mem : kM), d + j = 6 → j < f → WD xm M0 L B P Q (s, l, r, u, y) cs g lo bo pa ps (vl, vr, rs, ya, sc) F m0 c1 s1 mem → (∀ m, WD xm M0 L B P Q (s, l, r, u, y) cs g lo bo pa ps (vl, vr, rs, ya, sc) F m0 (c1 + 5 * j) (s1 + 22 * j) m → dOk (K13 M0 a (Int32.ofNat t + (-1)) m) T) → dOk (m_M_addNeedle_35 xm N K13 f M0 a (Int32.ofNat t) (Int32.ofNat d) mem) T := by
  intro j
  induction j with
  | zero =>
    intro d f c1 s1 mem hd hf D h
    obtain ⟨f, rfl⟩ : ∃ f', f = f' + 1 := ⟨f - 1, by omega⟩
    rw [m_M_addNeedle_35, if_neg (fun z => by have := (i_lt (a := d) (b := 6) (by omega) (by omega)).mp z; omega)]
    exact h mem (D.mono (by omega) (by omega))
  | succ j ih =>
    intro d f c1 s1 mem hd hf D h
    obtain ⟨f, rfl⟩ : ∃ f', f = f' + 1 := ⟨f - 1, by omega⟩
    obtain ⟨sum, V, S0⟩ := D
    rw [m_M_addNeedle_35, if_pos (show Int32.ofNat d < 6 from (i_lt (a := d) (b := 6) (by omega) (by omega)).mpr (by omega))]
    refine ok_rc (ls_hd V.1 i (hs sum)) ?_
    refine ok_eR (ls_get (j := t) hX hw V.1 i (hs sum) ht) ?_
    have hv1 := hv.st S0
    have hl := hv.1
    have hk : kIv xm mem es[t] (vs[t]'(by omega)) := hv1.at ht (by omega)
    refine ok_ccO hk ?_
    refine ok_rc hk ?_
    refine ok_eI (int_val hk) ?_
    refine w_rc V.wr ?_
    obtain ⟨id, hid1, hid2⟩ := hid _ (List.getElem_mem (show t < vs.length by omega))
    rw [hid1]
    refine d_add (m_ofLoopNow hX hN V hi hb hid2 hlo (by omega)) S0 fun m D1 => ?_
    rw [i_add1]
    exact ih (d + 1) f _ _ m (by omega) (by omega) D1 fun m2 D2 => h m2 (D2.mono (by omega) (by omega))
theorem add_13 {a q cap i : Nat} {mc : Int32} {es : List Nat} {vs : List Int32} (hX : kXok xm) (hN : 20001 ≤ N) (hi : aInv nb g lo bo pa ps (vl, vr, rs, ya, sc)) (hb : bo.length ≤ 20000) (hlo : lo.length ≤ 20000) (hs : ∀ sum, (wSg M0 L B P Q (s, l, r, u, y) cs g sum ps (vl, vr, rs, ya, sc) F)[i]? = some (sAL a q mc cap es)) (hw : sWf q cap es) (hv : IVs xm m0 es vs) (hid : ∀ v ∈ vs, aId lo.length v) (h24 : es.length ≤ 24) : ∀ (j f c1 s1 : Nat) (mem : kM), j ≤ es.length → j < f → WD xm M0 L B P Q (s, l, r, u, y) cs g lo bo pa ps (vl, vr, rs, ya, sc) F m0 c1 s1 mem → dOk (m_M_addNeedle_13 xm N f M0 a (Int32.ofNat j - 1) mem) (rV fun m => WD xm M0 L B P Q (s, l, r, u, y) cs g lo bo pa ps (vl, vr, rs, ya, sc) F m0 (c1 + 30 * j) (s1 + 132 * j) m) := by
  intro j
  induction j with
  | zero =>
    intro f c1 s1 mem hj hf D
    obtain ⟨f, rfl⟩ : ∃ f', f = f' + 1 := ⟨f - 1, by omega⟩
    rw [m_M_addNeedle_13, if_pos (by decide)]
    exact ok_V (D.mono (by omega) (by omega))
  | succ j ih =>
    intro f c1 s1 mem hj hf D
    obtain ⟨f, rfl⟩ : ∃ f', f = f' + 1 := ⟨f - 1, by omega⟩
    obtain ⟨sum, V, S0⟩ := D
    rw [m_M_addNeedle_13, i_sub1 (by omega), if_neg (i_nn (by omega))]
    rw [show j + 1 - 1 = j by omega]
    have ht : j < es.length := by omega
    refine ok_rc (ls_hd V.1 i (hs sum)) ?_
    refine ok_eR (ls_get (j := j) hX hw V.1 i (hs sum) ht) ?_
    have hv1 := hv.st S0
    have hl := hv.1
    have hk : kIv xm mem es[j] (vs[j]'(by omega)) := hv1.at ht (by omega)
    refine ok_ccO hk ?_
    refine ok_rc hk ?_
    refine ok_eI (int_val hk) ?_
    refine d_add' V S0 fun m D1 => ?_
    refine add_35 hX hN hi hb hlo hs hw hv hid ht 6 0 N c1 s1 m (by omega) (by omega) D1 fun m2 D2 => ?_
    have e1 : Int32.ofNat j + (-1) = Int32.ofNat j - 1 := (Int32.sub_eq_add_neg _ _).symm
    rw [e1]
    refine ok_mono (ih f _ _ m2 (by omega) (by omega) D2) ?_
    rintro w ⟨q1, q2⟩
    exact ⟨q1, WD.mono q2 (by omega) (by omega)⟩
theorem m_addNeedle {x : Int32} {c1 s1 : Nat} {vs : List Int32} (hX : kXok xm) (hN : 20001 ≤ N) (hi : aInv nb g lo bo pa ps (vl, vr, rs, ya, sc)) (hb : bo.length ≤ 20000) (hlo : lo.length ≤ 20000) (hvs : vs = (if x = 0 then vl else vr)) (V : WC xm M0 L B P Q (s, l, r, u, y) cs g sum lo bo pa ps (vl, vr, rs, ya, sc) F mem) (S0 : St xm m0 mem c1 s1) : dOk (m_M_addNeedle xm N M0 x mem) (rV fun m => WD xm M0 L B P Q (s, l, r, u, y) cs g lo bo pa ps (vl, vr, rs, ya, sc) F m0 (c1 + 30 * vs.length) (s1 + 132 * vs.length) m) := by
  unfold m_M_addNeedle
  refine w_rc V.wr ?_
  refine ok_eR (m_needle V) ?_
  obtain ⟨i, a, q, cap, mc, es, vs', ha, hs, hw, hv, hvs'⟩ := c_ndA V x
  have e0 : vs' = vs := hvs'.trans hvs.symm
  subst e0
  rw [ha]
  have h24 : es.length ≤ 24 := by
    rw [hv.1, hvs']
    split
    · exact hi.sw.1
    · exact hi.sw.2.1
  have hid : ∀ v ∈ vs', aId lo.length v := by
    rw [hvs']
    split
    · exact hi.2.1.2.2.1
    · exact hi.2.1.2.2.2.1
  refine ok_rc (ls_hd V.1 i (hs sum)) ?_
  refine ok_eI (ls_size V.1 i (hs sum)) ?_
  rw [← hv.1]
  refine ok_mono (add_13 hX hN hi hb hlo hs hw hv hid h24 es.length N 0 0 mem (Nat.le_refl _) (by omega) ⟨sum, V, St.refl⟩) ?_
  rintro w ⟨q1, sum', q2, q3⟩
  exact ⟨q1, sum', q2, (S0.trans q3).mono (by omega) (by omega)⟩
theorem dig_131 {it t : Nat} {z : Int32} {K103 : Nat → Nat → kM → dRes} (hx : L.1 = M0 + 1 ∧ B.1 = M0 + 2 ∧ P.1 = M0 + 3 ∧ Q.1 = M0 + 4) (ht : t < rs.length) (htu : t < u.2.2.2.2.length) (hz : rs[t].length = 4) : ∀ (j d f : Nat) (sum : Int64) (mem : kM), d + j = 4 → j < f → wRl xm mem L B P Q (s, l, r, u, y) cs lo bo pa ps (vl, vr, rs, ya, sc) → HpS ([sIt it (t + 1) z u.2.2.1 u.1] :: wSg M0 L B P Q (s, l, r, u, y) cs g sum ps (vl, vr, rs, ya, sc) F) mem → (∀ sum' m, wRl xm m L B P Q (s, l, r, u, y) cs lo bo pa ps (vl, vr, rs, ya, sc) → HpS ([sIt it (t + 1) z u.2.2.1 u.1] :: wSg M0 L B P Q (s, l, r, u, y) cs g sum' ps (vl, vr, rs, ya, sc) F) m → St xm mem m 0 0 → dOk (K103 M0 it m) T) → dOk (m_M_digest_131 xm N K103 f M0 it u.2.2.2.2[t] 4 (Int32.ofNat d) mem) T := by
  intro j
  induction j with
  | zero =>
    intro d f sum mem hd hf R H h
    obtain ⟨f, rfl⟩ : ∃ f', f = f' + 1 := ⟨f - 1, by omega⟩
    rw [m_M_digest_131, if_neg (fun z => by have := (i_lt (a := d) (b := 4) (by omega) (by omega)).mp z; omega)]
    exact h sum mem R H St.refl
  | succ j ih =>
    intro d f sum mem hd hf R H h
    obtain ⟨f, rfl⟩ : ∃ f', f = f' + 1 := ⟨f - 1, by omega⟩
    have hat : (sRu u.2.2.2.2 rs)[t]? = some (u.2.2.2.2[t], kAr rs[t]) := sRu_at (List.getElem?_eq_getElem htu) (List.getElem?_eq_getElem ht)
    have hl := H.look (xm := xm) 10 t rfl hat
    rw [m_M_digest_131, if_pos (show Int32.ofNat d < 4 from (i_lt (a := d) (b := 4) (by omega) (by omega)).mpr (by omega))]
    refine ok_iL hl (by rw [hz]; exact i_inB (by omega) (by decide)) ?_
    refine ok_rc (H.look 1 0 rfl rfl) ?_
    refine ok_cV (add_front H) fun m hh => ?_
    obtain ⟨sum', H1, S1⟩ := hh
    rw [i_add1]
    refine ih (d + 1) f sum' m (by omega) (by omega) (R.st S1) H1 fun sum2 m2 R2 H2 S2 => ?_
    exact h sum2 m2 R2 H2 ((S1.trans S2).mono (by omega) (by omega))
end KZ1
