/-! ===== what is asked of the reference, exactly: would, needs ===== -/
/-- the reference's yarn within a trial beside the class's: the yarn at first, the yarn then -/
def tRel (Y y : Int32) (w : aT) : Prop := y = w.2.2.1 ∧ Y = w.2.2.1 + w.2.2.2 ∨ y = -1 ∧ w.2.2.1 = 0 ∧ w.2.2.2 = 0 ∧ Y = -1
theorem tRel_can {Y y : Int32} {w : aT} {s : Nat} (h1 : 1 ≤ s) (h9 : s ≤ 9) (h : tRel Y y w) : zCan s w.1 w.2.1 y = zCan s w.1 w.2.1 w.2.2.1 := by
  rcases h with ⟨rfl, -⟩ | ⟨rfl, e, -, -⟩
  · rfl
  · rw [e]
    have h := zCan_y (nb := 0) (ya := []) (l := w.1) (a := w.2.1) (Or.inl rfl : jOk 0 (-1)) h1 h9
    exact h
theorem tRel_step {Y y : Int32} {w : aT} {s : Nat} {l a : Nat} (hz : zCan s w.1 w.2.1 w.2.2.1 = true) (h : tRel Y y w) (h1 : 1 ≤ s) (h9 : s ≤ 9) : tRel Y (y - Int32.ofNat (aTake s)) (l, a, w.2.2.1 - Int32.ofNat (aTake s), w.2.2.2 + Int32.ofNat (aTake s)) := by
  rcases h with ⟨rfl, e⟩ | ⟨rfl, e1, e2, e3⟩
  · refine Or.inl ⟨rfl, ?_⟩
    dsimp only
    rw [e, Int32.add_comm w.2.2.2 (Int32.ofNat (aTake s)), ← Int32.add_assoc, Int32.sub_add_cancel]
  · obtain ⟨z1, z2, z3⟩ := zCan_all hz
    have e0 : aTake s = 0 := by
      rcases z2 with z2 | z2
      · exact z2
      · apply Classical.byContradiction
        intro g
        have := (aUse_le h1 h9).2.1
        rw [e1] at z2
        exact z2 ((i_lt (a := 0) (by decide) (by omega)).mpr (by omega))
    rw [e0]
    refine Or.inr ⟨rfl, ?_, ?_, e3⟩
    · dsimp only
      rw [e1]
      rfl
    · dsimp only
      rw [e2]
      rfl
theorem tRel_needs {Y y : Int32} {w : aT} (h : tRel Y y w) : Y - y = w.2.2.2 := by
  rcases h with ⟨rfl, rfl⟩ | ⟨rfl, -, e, rfl⟩
  · rw [Int32.add_comm, Int32.add_sub_cancel]
  · rw [e]
    rfl
section FC
variable {xm : Nat → Option kE} {mem : kM} {N M0 nb k C S ck : Nat} {F : kSg} {g : Nat → Int32} {sum : Int64} {jo t Y : Int32} {lo : List kLf} {bo pa vl vr ya : List Int32} {ps : List aS} {rs : List (List Int32)} {sc : Nat → Int32} {T : kO × kM → Prop}
theorem m_eatsE {s : Nat} (h1 : 1 ≤ s) (h9 : s ≤ 9) : m_M_eats xm N (Int32.ofNat s) mem = some (.inl (some (.int (Int32.ofNat (aUse s)))), mem) := by
  rcases (show s = 1 ∨ s = 2 ∨ s = 3 ∨ s = 4 ∨ s = 5 ∨ s = 6 ∨ s = 7 ∨ s = 8 ∨ s = 9 by omega) with rfl | rfl | rfl | rfl | rfl | rfl | rfl | rfl | rfl <;> rfl
theorem m_makesE {s : Nat} (h1 : 1 ≤ s) (h9 : s ≤ 9) : m_M_makes xm N (Int32.ofNat s) mem = some (.inl (some (.int (Int32.ofNat (aGive s)))), mem) := by
  rcases (show s = 1 ∨ s = 2 ∨ s = 3 ∨ s = 4 ∨ s = 5 ∨ s = 6 ∨ s = 7 ∨ s = 8 ∨ s = 9 by omega) with rfl | rfl | rfl | rfl | rfl | rfl | rfl | rfl | rfl <;> rfl
theorem m_takesE {s : Nat} (h1 : 1 ≤ s) (h9 : s ≤ 9) : m_M_takes xm N (Int32.ofNat s) mem = some (.inl (some (.int (Int32.ofNat (aTake s)))), mem) := by
  rcases (show s = 1 ∨ s = 2 ∨ s = 3 ∨ s = 4 ∨ s = 5 ∨ s = 6 ∨ s = 7 ∨ s = 8 ∨ s = 9 by omega) with rfl | rfl | rfl | rfl | rfl | rfl | rfl | rfl | rfl <;> rfl
theorem would_45E {n0 : Nat} {a2 : Int32} (hN : 20 ≤ N) (p1 : 1 ≤ n0) (p2 : n0 ≤ 999999999) (pz : aNz n0) : ∀ (j d f : Nat) (w : aT) (y : Int32), d + j = 99 → j < f → w.1 ≤ w.2.1 → w.2.1 ≤ 24 → tRel Y y w → (∀ y', tRel Y y' (zTry n0 j d w).1 → dOk (m_M_wouldNow_129 xm N M0 a2 (Int32.ofNat n0) (Int32.ofNat (zTry n0 j d w).1.1) (Int32.ofNat (zTry n0 j d w).1.2.1) y' (Int32.ofNat (zTry n0 j d w).2) mem) T) → dOk (m_M_wouldNow_45 xm N f M0 a2 (Int32.ofNat n0) (Int32.ofNat w.1) (Int32.ofNat w.2.1) y (Int32.ofNat d) mem) T := by
  intro j
  induction j with
  | zero =>
    intro d f w y hd hf hla ha hr h
    obtain ⟨f, rfl⟩ : ∃ f', f = f' + 1 := ⟨f - 1, by omega⟩
    rw [m_M_wouldNow_45, if_neg (fun z => by have := (i_lt (b := 99) (by omega) (by decide)).mp z; omega)]
    exact h y hr
  | succ j ih =>
    intro d f w y hd hf hla ha hr h
    obtain ⟨f, rfl⟩ : ∃ f', f = f' + 1 := ⟨f - 1, by omega⟩
    obtain ⟨d1, d9⟩ := pDg_ok (i := d) p1 p2 pz
    obtain ⟨l1, l2, -, -⟩ := pLen_ok p1 p2
    have hdl : d % pLen n0 < pLen n0 := Nat.mod_lt _ l1
    rw [m_M_wouldNow_45, if_pos (show Int32.ofNat d < 99 from (i_lt (b := 99) (by omega) (by decide)).mpr (by omega))]
    unfold zTry at h
    by_cases g0 : w.1 = 0
    · rw [if_neg (fun z => by have := (i_pos (by omega)).mp z; omega)]
      rw [if_pos g0] at h
      exact h y hr
    · rw [if_pos ((i_pos (by omega)).mpr (by omega))]
      rw [if_neg g0] at h
      refine ok_eI (m_lengthE (by omega) p1 p2) ?_
      refine ok_nz (fun z => by have := (i_eq (b := 0) (by omega) (by decide)).mp z; omega) ?_
      rw [i_modL (by omega) l1 l2]
      refine ok_eI (m_step (by omega) p2 (m_lengthE (by omega) p1 p2) l2 hdl) ?_
      rw [show n0 / 10 ^ (pLen n0 - 1 - d % pLen n0) % 10 = pDg n0 (d % pLen n0) from rfl]
      refine ok_eI (m_canE (l := w.1) (a := w.2.1) d1 d9 (by omega) (by omega)) ?_
      rw [tRel_can d1 d9 hr]
      by_cases gc : zCan (pDg n0 (d % pLen n0)) w.1 w.2.1 w.2.2.1 = true
      · rw [if_pos gc, if_neg (by decide)]
        rw [if_pos gc] at h
        obtain ⟨z1, z2, z3⟩ := zCan_all gc
        obtain ⟨u1, u2, u3, u4, u5, u6⟩ := aUse_le d1 d9
        refine ok_eI (m_eatsE d1 d9) ?_
        refine ok_eI (m_makesE d1 d9) ?_
        refine ok_eI (m_eatsE d1 d9) ?_
        refine ok_eI (m_takesE d1 d9) ?_
        rw [i_add1, i_sub (by omega), Int32.sub_eq_add_neg (Int32.ofNat (aGive (pDg n0 (d % pLen n0)))), ← Int32.add_assoc, ← Int32.sub_eq_add_neg, i_add, i_sub (by omega)]
        refine ih (d + 1) f (w.1 - aUse (pDg n0 (d % pLen n0)), w.2.1 + aGive (pDg n0 (d % pLen n0)) - aUse (pDg n0 (d % pLen n0)), w.2.2.1 - Int32.ofNat (aTake (pDg n0 (d % pLen n0))), w.2.2.2 + Int32.ofNat (aTake (pDg n0 (d % pLen n0)))) _ (by omega) (by omega) ?_ ?_ (tRel_step gc hr d1 d9) h
        · dsimp only
          omega
        · dsimp only
          by_cases g39 : pDg n0 (d % pLen n0) = 3 ∨ pDg n0 (d % pLen n0) = 9
          · have := u6 g39
            have := z3 g39
            omega
          · have := u5 g39
            omega
      · rw [if_neg gc, if_pos rfl]
        rw [if_neg gc] at h
        exact h y hr
theorem tRel_0 (h7 : g 7 = jo) {l a : Nat} : tRel (aYarn g ya) (aYarn g ya) (l, a, bY jo ya, 0) := by
  unfold aYarn bY
  rw [h7]
  by_cases e : jo = -1
  · rw [if_pos e, if_pos e]
    exact Or.inr ⟨rfl, rfl, rfl, rfl⟩
  · rw [if_neg e, if_neg e]
    exact Or.inl ⟨rfl, by dsimp only; rw [Int32.add_zero]⟩
theorem m_wouldNowE {i n0 : Nat} {a2 : Int32} (hX : kXok xm) (hN : 120 ≤ N) (hil : i < pa.length) (V : WR xm M0 g sum lo bo pa ps (vl, vr, rs, ya, sc) ck F mem) (hi : aInv nb g lo bo pa ps (vl, vr, rs, ya, sc)) (h7 : g 7 = jo) (hn0 : pa[i] = Int32.ofNat n0) (p1 : 1 ≤ n0) (p2 : n0 ≤ 999999999) (pz : aNz n0) (h : ∀ y', tRel (aYarn g ya) y' (zTry n0 99 0 (vl.length, vl.length + vr.length, bY jo ya, 0)).1 → dOk (m_M_wouldNow_129 xm N M0 a2 (Int32.ofNat n0) (Int32.ofNat (zTry n0 99 0 (vl.length, vl.length + vr.length, bY jo ya, 0)).1.1) (Int32.ofNat (zTry n0 99 0 (vl.length, vl.length + vr.length, bY jo ya, 0)).1.2.1) y' (Int32.ofNat (zTry n0 99 0 (vl.length, vl.length + vr.length, bY jo ya, 0)).2) mem) T) : dOk (m_M_wouldNow xm N M0 (Int32.ofNat i) a2 mem) T := by
  unfold m_M_wouldNow
  refine w_gP V ?_
  refine w_pat hX V hil ?_
  rw [hn0]
  refine w_leftSize V ?_
  refine w_all V ?_
  refine w_rc V ?_
  refine ok_eI (m_yarn V hi.sw.2.2.2.2 hi.jn) ?_
  exact would_45E (Y := aYarn g ya) (by omega) p1 p2 pz 99 0 N (vl.length, vl.length + vr.length, bY jo ya, 0) (aYarn g ya) (by omega) (by omega) (Nat.le_add_right _ _) hi.2.1.2.1 (tRel_0 h7) h
theorem v_would (hX : kXok xm) (hN : 120 ≤ N) (I : RJ xm M0 t (nb, jo, lo, bo, pa, ps, (vl, vr, rs, ya, sc)) k C S F mem) (x : Int32) : dOk (m_M_would xm N M0 x mem) (eR xm M0 (spWould x (nb, jo, lo, bo, pa, ps, (vl, vr, rs, ya, sc))) k C S 0 0 F) := by
  have hsp : (spWould x (nb, jo, lo, bo, pa, ps, (vl, vr, rs, ya, sc))).2.2 = (nb, jo, lo, bo, pa, ps, (vl, vr, rs, ya, sc)) := by
    unfold spWould
    dsimp only
    split <;> rfl
  unfold m_M_would
  refine RJ.askE hsp I fun L B P Q s y l r u cs g sum m V hi h0 h7 hl hb => ?_
  have h6 := hi.2.2.2.2.1
  refine w_rc V.wr ?_
  refine ok_eI (m_isPattern V.wr x) ?_
  refine ok_if (fun e => ?_) (fun e => ?_)
  · exact e_ref V (congrArg (fun r : aR => r.1) (if_pos ((is_n (by omega)).mp (is_z.mp e)))) (by decide)
  · have e' : ¬ (x < 0 ∨ ¬ x < Int32.ofNat pa.length) := fun w => e (is_z.mpr ((is_n (by omega)).mpr w))
    obtain ⟨i, rfl, hil⟩ := in_nat (by omega) e
    have en : (Int32.ofNat i).toNatClampNeg = i := i_nat (by omega)
    obtain ⟨n0, hn0, p1, p2, pz⟩ := hi.2.2.2.2.2 _ (List.getElem_mem hil)
    have hpd : (pa.getD (Int32.ofNat i).toNatClampNeg 0).toNatClampNeg = n0 := by
      rw [en, List.getD_eq_getElem?_getD, List.getElem?_eq_getElem hil, hn0]
      exact i_nat (by omega)
    have es : spWould (Int32.ofNat i) (nb, jo, lo, bo, pa, ps, (vl, vr, rs, ya, sc)) = (0, Int32.ofNat (zTry n0 99 0 (vl.length, vl.length + vr.length, bY jo ya, 0)).1.2.1, (nb, jo, lo, bo, pa, ps, (vl, vr, rs, ya, sc))) := (if_neg e').trans (by rw [hpd])
    have ew : m_M_wouldNow xm N M0 (Int32.ofNat i) 0 m = some (.inl (some (.int (Int32.ofNat (zTry n0 99 0 (vl.length, vl.length + vr.length, bY jo ya, 0)).1.2.1))), m) := by
      refine ok_eq (m_wouldNowE hX hN hil V.wr hi h7 hn0 p1 p2 pz fun y' hr => ?_)
      unfold m_M_wouldNow_129
      rw [if_pos rfl]
      exact ok_me
    refine w_rc V.wr ?_
    refine ok_eI ew (e_same V h0 ?_)
    rw [es]
    exact ⟨rfl, rfl⟩
theorem v_needs (hX : kXok xm) (hN : 120 ≤ N) (I : RJ xm M0 t (nb, jo, lo, bo, pa, ps, (vl, vr, rs, ya, sc)) k C S F mem) (x : Int32) : dOk (m_M_needs xm N M0 x mem) (eR xm M0 (spNeeds x (nb, jo, lo, bo, pa, ps, (vl, vr, rs, ya, sc))) k C S 0 0 F) := by
  have hsp : (spNeeds x (nb, jo, lo, bo, pa, ps, (vl, vr, rs, ya, sc))).2.2 = (nb, jo, lo, bo, pa, ps, (vl, vr, rs, ya, sc)) := by
    unfold spNeeds
    dsimp only
    split <;> rfl
  unfold m_M_needs
  refine RJ.askE hsp I fun L B P Q s y l r u cs g sum m V hi h0 h7 hl hb => ?_
  have h6 := hi.2.2.2.2.1
  refine w_rc V.wr ?_
  refine ok_eI (m_isPattern V.wr x) ?_
  refine ok_if (fun e => ?_) (fun e => ?_)
  · exact e_ref V (congrArg (fun r : aR => r.1) (if_pos ((is_n (by omega)).mp (is_z.mp e)))) (by decide)
  · have e' : ¬ (x < 0 ∨ ¬ x < Int32.ofNat pa.length) := fun w => e (is_z.mpr ((is_n (by omega)).mpr w))
    obtain ⟨i, rfl, hil⟩ := in_nat (by omega) e
    have en : (Int32.ofNat i).toNatClampNeg = i := i_nat (by omega)
    obtain ⟨n0, hn0, p1, p2, pz⟩ := hi.2.2.2.2.2 _ (List.getElem_mem hil)
    have hpd : (pa.getD (Int32.ofNat i).toNatClampNeg 0).toNatClampNeg = n0 := by
      rw [en, List.getD_eq_getElem?_getD, List.getElem?_eq_getElem hil, hn0]
      exact i_nat (by omega)
    have es : spNeeds (Int32.ofNat i) (nb, jo, lo, bo, pa, ps, (vl, vr, rs, ya, sc)) = (0, (zTry n0 99 0 (vl.length, vl.length + vr.length, bY jo ya, 0)).1.2.2.2, (nb, jo, lo, bo, pa, ps, (vl, vr, rs, ya, sc))) := (if_neg e').trans (by rw [hpd])
    have ew : m_M_wouldNow xm N M0 (Int32.ofNat i) 1 m = some (.inl (some (.int (zTry n0 99 0 (vl.length, vl.length + vr.length, bY jo ya, 0)).1.2.2.2)), m) := by
      refine ok_eq (m_wouldNowE hX hN hil V.wr hi h7 hn0 p1 p2 pz fun y' hr => ?_)
      unfold m_M_wouldNow_129
      rw [if_neg (by decide), if_pos rfl]
      refine w_rc V.wr ?_
      refine ok_eI (m_yarn V.wr hi.sw.2.2.2.2 hi.jn) ?_
      rw [tRel_needs hr]
      exact ok_me
    refine w_rc V.wr ?_
    refine ok_eI ew (e_same V h0 ?_)
    rw [es]
    exact ⟨rfl, rfl⟩
end FC
