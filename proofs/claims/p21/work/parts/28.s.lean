/-! ===== the reference's calls: buy ===== -/
/-- what was thrown by the call, too -/
def RIt (xm : Nat → Option kE) (M0 nb : Nat) (t : Int32) (k C S : Nat) (F : kSg) (mem : kM) : Prop :=
  ∃ g sum lo bo pa ps st ck, WR xm M0 g sum lo bo pa ps st ck F mem ∧ aInv nb g lo bo pa ps st ∧ lo.length ≤ 24 * k ∧ bo.length ≤ 24 * k ∧ mem.length ≤ C ∧ kSl mem ≤ S + 4 * ck ∧ g 0 = t
def aSetY (b : Nat) (x : Int32) (s : aS) : aS := (s.1, s.2.1, s.2.2.1, s.2.2.2.1.set b x, s.2.2.2.2)
section KS2
variable {xm : Nat → Option kE} {mem : kM} {N M0 nb k C S ck : Nat} {F : kSg} {g : Nat → Int32} {sum : Int64} {lo : List kLf} {bo pa : List Int32} {ps : List aS} {st : aS} {T : kO × kM → Prop}
theorem RIt.ri {t : Int32} (I : RIt xm M0 nb t k C S F mem) : RI xm M0 nb k C S F mem := by
  obtain ⟨g, sum, lo, bo, pa, ps, st, ck, W, h, hl, hb, h1, h2, -⟩ := I
  exact ⟨g, sum, lo, bo, pa, ps, st, ck, W, h, hl, hb, h1, h2⟩
theorem m_thrown {t : Int32} (I : RIt xm M0 nb t k C S F mem) : m_M_thrown xm N M0 mem = some (.inl (some (.int t)), mem) := by
  obtain ⟨g, sum, lo, bo, pa, ps, st, ck, W, h, hl, hb, h1, h2, rfl⟩ := I
  refine ok_eq ?_
  unfold m_M_thrown
  exact w_g W (by decide) ok_me
theorem RI.hd (I : RI xm M0 nb k C S F mem) : ∃ fs, kLook xm mem M0 = some (.inl (15, fs)) := by
  obtain ⟨g, sum, lo, bo, pa, ps, st, ck, W, -⟩ := I
  exact W.hd
theorem sOwn_eq (c : kCs) (s : aS) : sOwn c s = (c.1, stE c.2.1.1 c.2.2.1.1 c.2.2.2.1.1 c.2.2.2.2 s.2.2.2.2) :: ((sL c.2.1 ++ (sL c.2.2.1 ++ (sL c.2.2.2.1 ++ sRu c.2.2.2.1.2.2.2.2 s.2.2.1))) ++ [(c.2.2.2.2, kAr s.2.2.2.1)]) := by
  unfold sOwn cSg
  simp [List.append_assoc]
theorem pOwn_y : ∀ (cs : List kCs) (ps : List aS) (i : Nat) (c : kCs) (s : aS), cs[i]? = some c → ps[i]? = some s → ∃ j0 j : Nat, (pOwn cs ps)[j0]? = some (c.1, stE c.2.1.1 c.2.2.1.1 c.2.2.2.1.1 c.2.2.2.2 s.2.2.2.2) ∧ (pOwn cs ps)[j]? = some (c.2.2.2.2, kAr s.2.2.2.1) ∧ ∀ b x, (pOwn cs ps).set j (c.2.2.2.2, kAr (s.2.2.2.1.set b x)) = pOwn cs (ps.set i (aSetY b x s)) := by
  intro cs
  induction cs with
  | nil => intro ps i c s h; cases h
  | cons c0 cs ih =>
    intro ps i c s h1 h2
    cases ps with
    | nil => cases h2
    | cons s0 ps =>
      cases i with
      | zero =>
        have hc : c = c0 := (Option.some.inj h1).symm
        have hs : s = s0 := (Option.some.inj h2).symm
        rw [← hc, ← hs]
        refine ⟨0, (sL c.2.1 ++ (sL c.2.2.1 ++ (sL c.2.2.2.1 ++ sRu c.2.2.2.1.2.2.2.2 s.2.2.1))).length + 1, ?_, ?_, ?_⟩
        · rw [pOwn_cons, sOwn_eq]
          rfl
        · rw [pOwn_cons, sOwn_eq, List.cons_append, List.getElem?_cons_succ, List.append_assoc, List.getElem?_append_right (Nat.le_refl _), Nat.sub_self]
          rfl
        · intro b x
          rw [List.set_cons_zero, pOwn_cons, pOwn_cons, sOwn_eq, sOwn_eq, List.cons_append, List.set_cons_succ, List.append_assoc, List.set_append_right _ _ (Nat.le_refl _), Nat.sub_self]
          simp [aSetY]
      | succ i =>
        obtain ⟨j0, j, g1, g2, g3⟩ := ih ps i c s h1 h2
        refine ⟨(sOwn c0 s0).length + j0, (sOwn c0 s0).length + j, ?_, ?_, ?_⟩
        · rw [pOwn_cons, List.getElem?_append_right (by omega), show (sOwn c0 s0).length + j0 - (sOwn c0 s0).length = j0 by omega]
          exact g1
        · rw [pOwn_cons, List.getElem?_append_right (by omega), show (sOwn c0 s0).length + j - (sOwn c0 s0).length = j by omega]
          exact g2
        · intro b x
          rw [pOwn_cons, List.set_append_right _ _ (by omega), show (sOwn c0 s0).length + j - (sOwn c0 s0).length = j by omega, g3, List.set_cons_succ, pOwn_cons]
theorem buy_loop {L B P : kLi} {Qa Qq Qc it : Nat} {Qm x : Int32} {c : kCs} {cs : List kCs} (hb4 : nb < 4) (hg : g 6 = Int32.ofNat nb) (hw : sWf Qq Qc (cs.map (fun c : kCs => c.1))) (hc12 : cs.length ≤ 12) (hst : st.2.2.2.1.length = 4) :
    ∀ (j i n : Nat) (l : Int32) (mem : kM) (ps : List aS), cs.length = ps.length → ps.length = i + j → j < n → (∀ s ∈ ps, s.2.2.2.1.length = 4) → HpS ([sIt it i l Qm Qa] :: wSg M0 L B P (Qa, Qq, Qm, Qc, cs.map (fun c : kCs => c.1)) c cs g sum ps st F) mem →
      dOk (m_M_buy_44 xm N n M0 x it mem) (rI fun v m => v = Int32.ofNat nb ∧ HpS (wSg M0 L B P (Qa, Qq, Qm, Qc, cs.map (fun c : kCs => c.1)) c cs (kUp g 6 (Int32.ofNat (nb + 1))) sum (ps.take i ++ (ps.drop i).map (aSetY nb x)) (aSetY nb x st) F) m ∧ St xm mem m 0 0) := by
  intro j
  induction j with
  | zero =>
    intro i n l mem ps hcp hi hn hy H
    obtain ⟨n, rfl⟩ : ∃ n', n = n' + 1 := ⟨n - 1, by omega⟩
    rw [m_M_buy_44]
    refine ok_rc (H.look 0 0 rfl rfl) ?_
    refine ok_eI (itr_has (l := 0) (n := (cs.map (fun c : kCs => c.1)).length) (H.look 0 0 rfl rfl) (H.look 5 0 rfl rfl) (by omega) (by simp; omega)) ?_
    have e1 : (if i = (cs.map (fun c : kCs => c.1)).length then (0 : Int32) else 1) = 0 := if_pos (by simp; omega)
    rw [e1, if_pos rfl]
    have hnt : (g 6).toNatClampNeg = nb := by rw [hg]; exact i_nat (by omega)
    refine ok_gR (H.look 1 0 rfl rfl) rfl ?_
    refine ok_gR (H.look 6 0 rfl rfl) rfl ?_
    refine ok_gI (H.look 1 0 rfl rfl) rfl ?_
    refine os_iS H 11 0 rfl rfl (by rw [hst, hg]; exact i_inB hb4 (by decide)) fun m1 H1 S1 => ?_
    rw [hnt] at H1
    refine ok_gI (H1.look 1 0 rfl rfl) rfl ?_
    refine os_p H1 1 0 rfl rfl rfl rfl fun m2 H2 S2 => ?_
    refine ok_gI (H2.look 1 0 rfl rfl) rfl ?_
    refine ok_I ⟨?_, ?_, S1.trans S2⟩
    · rw [Int32.add_sub_cancel, hg]
    · rw [hg, i_add1] at H2
      rw [List.take_of_length_le (by omega), List.drop_eq_nil_of_le (by omega), List.map_nil, List.append_nil]
      exact HpS.drop H2
  | succ j ih =>
    intro i n l mem ps hcp hi hn hy H
    obtain ⟨n, rfl⟩ : ∃ n', n = n' + 1 := ⟨n - 1, by omega⟩
    have hic : i < cs.length := by omega
    have hip : i < ps.length := by omega
    rw [m_M_buy_44]
    refine ok_rc (H.look 0 0 rfl rfl) ?_
    refine ok_eI (itr_has (l := 0) (n := (cs.map (fun c : kCs => c.1)).length) (H.look 0 0 rfl rfl) (H.look 5 0 rfl rfl) (by omega) (by simp; omega)) ?_
    have e1 : (if i = (cs.map (fun c : kCs => c.1)).length then (0 : Int32) else 1) = 1 := if_neg (by simp; omega)
    rw [e1, if_neg (show ¬ ((1 : Int32) = 0) by decide)]
    refine ok_rc (H.look 0 0 rfl rfl) ?_
    refine ok_cR (ls_next (a := Qa) (q := Qq) (mc := Qm) (cap := Qc) (es := cs.map (fun c : kCs => c.1)) hw H 4 rfl (by simp; omega)) fun e m1 h => ?_
    obtain ⟨he, H1, S1⟩ := h
    have he : e = cs[i].1 := by rw [he]; simp
    subst he
    obtain ⟨j0, jy, g1, g2, g3⟩ := pOwn_y cs ps i cs[i] ps[i] (List.getElem?_eq_getElem hic) (List.getElem?_eq_getElem hip)
    have hst0 := H1.look (xm := xm) 12 j0 rfl g1
    refine ok_ccO hst0 ?_
    refine ok_gR hst0 rfl ?_
    refine ok_gI (H1.look 1 0 rfl rfl) rfl ?_
    have hyl : ps[i].2.2.2.1.length = 4 := hy _ (List.getElem_mem hip)
    refine os_iS H1 12 jy rfl g2 (by rw [hyl, hg]; exact i_inB hb4 (by decide)) fun m2 H2 S2 => ?_
    have hnt : (g 6).toNatClampNeg = nb := by rw [hg]; exact i_nat (by omega)
    rw [hnt] at H2
    have H3 : HpS ([sIt it (i + 1) (Int32.ofNat i) Qm Qa] :: wSg M0 L B P (Qa, Qq, Qm, Qc, cs.map (fun c : kCs => c.1)) c cs g sum (ps.set i (aSetY nb x ps[i])) st F) m2 := by
      unfold wSg
      rw [← g3 nb x]
      exact H2
    have hse : (ps.set i (aSetY nb x ps[i])).length = ps.length := List.length_set ..
    refine ok_mono (ih (i + 1) n _ m2 _ (by omega) (by omega) (by omega) ?_ H3) ?_
    · intro s hs
      obtain ⟨t, ht⟩ := List.mem_iff_getElem?.mp hs
      rw [List.getElem?_set] at ht
      split at ht
      · cases ht
        show (ps[i].2.2.2.1.set nb x).length = 4
        rw [List.length_set]
        exact hyl
      · exact hy s (List.mem_of_getElem? ht)
    · rintro r ⟨v, q1, q2, q3, q4⟩
      refine ⟨v, q1, q2, ?_, (S1.trans (S2.trans q4)).mono (by omega) (by omega)⟩
      have e2 : (ps.set i (aSetY nb x ps[i])).take (i + 1) ++ ((ps.set i (aSetY nb x ps[i])).drop (i + 1)).map (aSetY nb x) = ps.take i ++ (ps.drop i).map (aSetY nb x) := by
        rw [List.drop_set_of_lt (by omega), ← List.getElem_cons_drop (h := hip), List.map_cons, List.take_set, List.take_succ, List.getElem?_eq_getElem hip]
        rw [List.set_append_right _ _ (by rw [List.length_take]; omega), List.length_take, show i - min i ps.length = 0 by omega]
        simp
      rw [e2] at q3
      exact q3
theorem aSt.setY {n b j : Nat} {x : Int32} {s : aS} (h : aSt n b s) : aSt n b (aSetY j x s) := by
  obtain ⟨⟨b1, b2, b3, b4, b5⟩, b6⟩ := h
  exact ⟨⟨b1, b2, b3, b4, by show (s.2.2.2.1.set j x).length = 4; rw [List.length_set]; exact b5⟩, b6⟩
theorem aCh_setY {j : Nat} {x : Int32} : ∀ {l : List aS} {n b : Nat}, aCh n b l → aCh n b (l.map (aSetY j x)) := by
  intro l
  induction l with
  | nil => intro n b _; trivial
  | cons s r ih =>
    intro n b h
    obtain ⟨n', b', h1, h2, h3, h4⟩ := h
    exact ⟨n', b', h1, h2, h3.setY, ih h4⟩
theorem aCh_mem : ∀ {l : List aS} {n b : Nat}, aCh n b l → ∀ s ∈ l, ∃ n' b', aSt n' b' s := by
  intro l
  induction l with
  | nil => intro n b _ s hs; cases hs
  | cons s0 r ih =>
    intro n b h s hs
    obtain ⟨n', b', h1, h2, h3, h4⟩ := h
    rcases List.mem_cons.mp hs with rfl | hs
    · exact ⟨n', b', h3⟩
    · exact ih h4 s hs
/-- buy: what it throws and answers depends on the length and on how many balls there are -/
theorem r_buy (hX : kXok xm) (hN : 20 ≤ N) (I : RI xm M0 nb k C S F mem) (x : Int32) : dOk (m_M_buy xm N M0 x mem) (rI fun v m =>
    if (if x < 1 then (0 : Int32) else if 9999 < x then 0 else 1) = 0 then RIt xm M0 nb 1 (k + 1) (C + 1) (S + 4) F m else if nb = 4 then RIt xm M0 nb 2 (k + 1) (C + 1) (S + 4) F m else v = Int32.ofNat nb ∧ RIt xm M0 (nb + 1) 0 (k + 1) (C + 1) (S + 4) F m) := by
  obtain ⟨g, sum, lo, bo, pa, ps, st, ck, W, hi, hl, hb, h1, h2⟩ := I
  have mkt : ∀ {nb' : Nat} {g' : Nat → Int32} {ps' : List aS} {st' : aS} {m : kM}, WR xm M0 g' sum lo bo pa ps' st' ck F m → aInv nb' g' lo bo pa ps' st' → St xm mem m 1 4 → RIt xm M0 nb' (g' 0) (k + 1) (C + 1) (S + 4) F m := by
    intro nb' g' ps' st' m W' h' S'
    exact ⟨g', sum, lo, bo, pa, ps', st', ck, W', h', by omega, by omega, by have := S'.2.1; omega, by have := S'.2.2.1; omega, rfl⟩
  have hnb := hi.1.2.1
  unfold m_M_buy
  refine m_start W fun m1 W1 S1 => ?_
  have hi1 : aInv nb (kUp g 0 0) lo bo pa ps st := hi
  refine ok_eI m_is ?_
  refine ok_if (fun e => ?_) (fun e => ?_)
  · refine w_rc W1 ?_
    refine ok_cI (m_refuse W1) fun v m hh => ?_
    obtain ⟨-, W2, S2⟩ := hh
    refine ok_I ?_
    rw [if_pos e]
    exact mkt W2 hi ((S1.trans S2).mono (by omega) (by omega))
  · refine w_g W1 (by decide) ?_
    have hg6 : kUp g 0 0 6 = Int32.ofNat nb := hi.1.1
    rw [hg6]
    refine ok_if (fun e2 => ?_) (fun e2 => ?_)
    · have e2 := (i_eq (b := 4) (by omega) (by decide)).mp e2
      refine w_rc W1 ?_
      refine ok_cI (m_refuse W1) fun v m hh => ?_
      obtain ⟨-, W2, S2⟩ := hh
      refine ok_I ?_
      rw [if_neg e, if_pos e2]
      exact mkt W2 hi ((S1.trans S2).mono (by omega) (by omega))
    · have e2 : nb ≠ 4 := fun z => e2 ((i_eq (b := 4) (by omega) (by decide)).mpr z)
      refine w_gQ W1 ?_
      obtain ⟨L, B, P, ⟨Qa, Qq, Qm, Qc, Qe⟩, c, cs, H, R, hck, hL, hB, hP, hQ⟩ := W1
      obtain ⟨⟨w1, w2, w3, w4⟩, cc, r3, r4, r5, ⟨r6, r6'⟩, r7, r8⟩ := R
      dsimp only at hQ r6
      subst hQ
      subst r6
      refine ok_rc (ls_hd H 4 rfl) ?_
      refine ok_cR (ls_iterator (a := M0 + 4) (q := Qq) (mc := Qm) (cap := Qc) (es := cs.map (fun c : kCs => c.1)) H 4 rfl) fun it m2 h => ?_
      obtain ⟨H2, S2⟩ := h
      have hps : ∀ s ∈ ps, s.2.2.2.1.length = 4 := by
        intro s hs
        obtain ⟨n', b', h⟩ := aCh_mem hi.2.2.1 s (List.mem_reverse.mpr hs)
        exact h.1.2.2.2.2
      refine ok_mono (buy_loop (st := st) (x := x) (by omega) hg6 w4 (by have := hi.2.2.2.1; omega) hi.2.1.1.2.2.2.2 ps.length 0 N (-1) m2 ps r6' (by omega) (by have := hi.2.2.2.1; omega) hps H2) ?_
      rintro r ⟨v, q1, q2, q3, q4⟩
      rw [List.take_zero, List.nil_append, List.drop_zero] at q3
      have ST := S2.trans q4
      refine ⟨v, q1, ?_⟩
      dsimp only
      rw [if_neg e, if_neg e2]
      refine ⟨q2, ?_⟩
      have W3 : WR xm M0 (kUp (kUp g 0 0) 6 (Int32.ofNat (nb + 1))) sum lo bo pa (ps.map (aSetY nb x)) (aSetY nb x st) ck F r.2 := ⟨L, B, P, (M0 + 4, Qq, Qm, Qc, cs.map (fun c : kCs => c.1)), c, cs, q3, ⟨⟨w1, w2, w3, w4⟩, cc, r3.st ST, r4.st ST, r5.st ST, ⟨rfl, by simpa using r6'⟩, r7.st ST, ?_⟩, hck, hL, hB, hP, rfl⟩
      · refine mkt W3 ?_ ((S1.trans ST).mono (by omega) (by omega))
        obtain ⟨⟨a1, a2, a3⟩, a4, a5, a6, a7⟩ := hi
        refine ⟨⟨rfl, by omega, ?_⟩, a4.setY, ?_, by simpa using a6, a7⟩
        · rcases a3 with h | ⟨b, q, q'⟩
          · exact Or.inl h
          · exact Or.inr ⟨b, q, by omega⟩
        · rw [← List.map_reverse]
          exact aCh_setY a5
      · intro i c z p1 p2
        rw [List.getElem?_map] at p2
        cases hz : ps[i]? with
        | none => rw [hz] at p2; cases p2
        | some z' =>
          rw [hz] at p2
          cases p2
          exact (r8 i c z' p1 hz).st ST
end KS2
