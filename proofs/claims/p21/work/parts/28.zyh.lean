/-! ===== class and reference: runs, what is kept and brought back, balls, patterns ===== -/
section EI
variable {nb : Nat} {jo : Int32} {lo lo' : List kLf} {bo bo' pa hb hy : List Int32} {ps : List aS} {st st' s p : aS} {T T' : Nat → Int32} {h : kHs} {vl vr ya : List Int32} {rs : List (List Int32)} {sc : Nat → Int32} {i j nx ct : Nat} {hs : Nat → aS}
theorem openL_snoc {z : List Int32} : openL (rs ++ [z]) = openL rs ++ (if z.getD 3 0 = 1 then [z.getD 0 0] else []) := by
  unfold openL
  rw [List.filter_append, List.map_append]
  congr 1
  by_cases g : z.getD 3 0 = 1
  · rw [if_pos g, List.filter_cons_of_pos (by simpa using g)]
    rfl
  · rw [if_neg g, List.filter_cons_of_neg (by simpa using g)]
    rfl
theorem openL_split {A B : List (List Int32)} {z : List Int32} : openL (A ++ z :: B) = openL A ++ ((if z.getD 3 0 = 1 then [z.getD 0 0] else []) ++ openL B) := by
  have e : A ++ z :: B = (A ++ [z]) ++ B := by simp
  rw [e]
  unfold openL
  rw [List.filter_append, List.map_append]
  have := openL_snoc (rs := A) (z := z)
  unfold openL at this
  rw [this, List.append_assoc]
/-- runs and needles change so that no loop comes or goes -/
theorem INV.runs {vl' vr' : List Int32} {rs' : List (List Int32)} (I : INV nb jo lo bo pa ps (vl, vr, rs, ya, sc) T h) (hbo : bo.length < 2 ^ 31) (a : aInv nb (gJ nb jo) lo bo pa ps (vl', vr', rs', ya, sc)) (hp : (vl' ++ vr' ++ openL rs').Perm (vl ++ vr ++ openL rs)) : INV nb jo lo bo pa ps (vl', vr', rs', ya, sc) T h := by
  have ok := I.2.2.2.1 _ (List.mem_append_right _ (List.mem_singleton.mpr rfl))
  obtain ⟨o1, o2, o3, o4⟩ := ok
  dsimp only at o1 o2
  have gi : ∀ j, gone (vl', vr', rs', ya, sc) j ↔ gone (vl, vr, rs, ya, sc) j := by
    intro j
    have := hp.mem_iff (a := Int32.ofNat j)
    simp only [List.mem_append] at this
    unfold gone
    dsimp only
    constructor
    · rintro ⟨g1, g2, g3, g4⟩
      refine ⟨g1, fun z => ?_, fun z => ?_, fun z => ?_⟩
      · exact (this.mpr (Or.inl (Or.inl z))).elim (fun w => w.elim g2 g3) g4
      · exact (this.mpr (Or.inl (Or.inr z))).elim (fun w => w.elim g2 g3) g4
      · exact (this.mpr (Or.inr z)).elim (fun w => w.elim g2 g3) g4
    · rintro ⟨g1, g2, g3, g4⟩
      refine ⟨g1, fun z => ?_, fun z => ?_, fun z => ?_⟩
      · exact (this.mp (Or.inl (Or.inl z))).elim (fun w => w.elim g2 g3) g4
      · exact (this.mp (Or.inl (Or.inr z))).elim (fun w => w.elim g2 g3) g4
      · exact (this.mp (Or.inr z)).elim (fun w => w.elim g2 g3) g4
  refine I.step hbo a I.2.1 (List.append_nil bo).symm (fun j hj => (gi j).mpr hj) (fun _ _ => rfl) ⟨o1, ?_, ?_, ?_⟩ yC.refl I.2.2.2.2
  · exact hp.nodup_iff.mpr o2
  · intro i hi
    exact o3 i ((gi i).mp hi)
  · intro v hv
    obtain ⟨i, e, hg⟩ := o4 v hv
    exact ⟨i, e, (gi i).mpr hg⟩
theorem aInv.drop {g : Nat → Int32} {wl : List Int32} {v d : Int32} (hi2 : aInv nb g lo bo pa ps (wl ++ [v], vr, rs, ya, sc)) (h9 : rs.length < 9) : aInv nb g lo bo pa ps (wl, vr, rs ++ [[v, d, 0, 1]], ya, sc) := by
  obtain ⟨a1, ⟨⟨b1, b2, b3, b4, b5⟩, b6, b7, b8, b9, b10, b11⟩, a3⟩ := hi2
  dsimp only at b1 b2 b3 b6
  rw [List.length_append, List.length_singleton] at b1 b6
  refine ⟨a1, ⟨⟨by dsimp only; omega, b2, by simp; omega, ?_, b5⟩, by dsimp only; omega, fun w hw => b7 w (List.mem_append_left _ hw), b8, ?_, b10, b11⟩, a3⟩
  · intro z hz
    rcases List.mem_append.mp hz with h | h
    · exact b4 z h
    · rw [List.mem_singleton.mp h]; rfl
  · intro z hz
    rcases List.mem_append.mp hz with h | h
    · exact b9 z h
    · rw [List.mem_singleton.mp h]
      exact b7 v (List.mem_append_right _ (List.mem_singleton.mpr rfl))
theorem INV.drop {wl : List Int32} {v d : Int32} (I : INV nb jo lo bo pa ps (wl ++ [v], vr, rs, ya, sc) T h) (hbo : bo.length < 2 ^ 31) (h9 : rs.length < 9) : INV nb jo lo bo pa ps (wl, vr, rs ++ [[v, d, 0, 1]], ya, sc) T h := by
  refine I.runs hbo (I.1.drop h9) ?_
  rw [openL_snoc, if_pos (show [v, d, 0, 1].getD 3 0 = 1 from rfl)]
  show (wl ++ vr ++ (openL rs ++ [v])).Perm (wl ++ [v] ++ vr ++ openL rs)
  have p1 : (wl ++ [v] ++ vr ++ openL rs).Perm (v :: (wl ++ vr ++ openL rs)) := by
    have e : wl ++ [v] ++ vr ++ openL rs = wl ++ v :: (vr ++ openL rs) := by simp
    rw [e, List.append_assoc]
    exact List.perm_middle
  have p2 : (wl ++ vr ++ (openL rs ++ [v])).Perm (v :: (wl ++ vr ++ openL rs)) := by
    rw [← List.append_assoc]
    exact (List.perm_append_comm).trans (List.Perm.refl _)
  exact p2.trans p1.symm
theorem aInv.latch {g : Nat → Int32} {r : Nat} (hi2 : aInv nb g lo bo pa ps (vl, vr, rs, ya, sc)) (hr : r < rs.length) (h24 : vl.length + vr.length < 24) : aInv nb g lo bo pa ps (vl ++ [(rs.getD r []).getD 0 0], vr, rs.set r ((rs.getD r []).set 3 0), ya, sc) := by
  obtain ⟨a1, ⟨⟨b1, b2, b3, b4, b5⟩, b6, b7, b8, b9, b10, b11⟩, a3⟩ := hi2
  dsimp only at b1 b2 b3 b6
  have er : rs.getD r [] = rs[r] := by
    rw [List.getD_eq_getElem?_getD, List.getElem?_eq_getElem hr]
    rfl
  rw [er]
  have hz : rs[r].length = 4 := b4 _ (List.getElem_mem hr)
  refine ⟨a1, ⟨⟨by simp; omega, b2, by simp; omega, ?_, b5⟩, by simp; omega, ?_, b8, ?_, b10, b11⟩, a3⟩
  · intro z hz'
    obtain ⟨t, ht⟩ := List.mem_iff_getElem?.mp hz'
    rw [List.getElem?_set] at ht
    split at ht
    · cases ht
      rw [List.length_set]
      exact hz
    · exact b4 z (List.mem_of_getElem? ht)
  · intro z hz'
    rcases List.mem_append.mp hz' with h | h
    · exact b7 z h
    · rw [List.mem_singleton.mp h]
      exact b9 _ (List.getElem_mem hr)
  · intro z hz'
    obtain ⟨t, ht⟩ := List.mem_iff_getElem?.mp hz'
    rw [List.getElem?_set] at ht
    split at ht
    · cases ht
      have e6 : (rs[r].set 3 0).getD 0 0 = rs[r].getD 0 0 := by
        rw [List.getD_eq_getElem?_getD, List.getElem?_set_ne (by decide), ← List.getD_eq_getElem?_getD]
      rw [e6]
      exact b9 _ (List.getElem_mem hr)
    · exact b9 z (List.mem_of_getElem? ht)
theorem INV.latch {r : Nat} (I : INV nb jo lo bo pa ps (vl, vr, rs, ya, sc) T h) (hbo : bo.length < 2 ^ 31) (hr : r < rs.length) (ho : (rs.getD r []).getD 3 0 = 1) (h24 : vl.length + vr.length < 24) : INV nb jo lo bo pa ps (vl ++ [(rs.getD r []).getD 0 0], vr, rs.set r ((rs.getD r []).set 3 0), ya, sc) T h := by
  refine I.runs hbo (I.1.latch hr h24) ?_
  have er : rs[r]? = some (rs.getD r []) := by
    rw [List.getD_eq_getElem?_getD, List.getElem?_eq_getElem hr]
    rfl
  have h4 : (rs.getD r []).length = 4 := I.sw.2.2.2.1 _ (List.mem_of_getElem? er)
  obtain ⟨A, B, e1, e2, -⟩ := eraseIdx_split er
  generalize rs.getD r [] = z at *
  have e3 : rs.set r (z.set 3 0) = A ++ z.set 3 0 :: B := by
    rw [e1, List.set_append_right _ _ (by omega), e2, Nat.sub_self]
    rfl
  have e4 : (z.set 3 0).getD 3 0 = 0 := by
    rw [List.getD_eq_getElem?_getD, List.getElem?_set_self (by omega)]
    rfl
  rw [e3, e1, openL_split, openL_split, if_pos ho, e4, if_neg (by decide), List.nil_append]
  generalize z.getD 0 0 = v
  have p1 : (vl ++ [v] ++ vr ++ (openL A ++ openL B)).Perm (v :: (vl ++ vr ++ (openL A ++ openL B))) := by
    have e : vl ++ [v] ++ vr ++ (openL A ++ openL B) = vl ++ v :: (vr ++ (openL A ++ openL B)) := by simp
    rw [e, List.append_assoc]
    exact List.perm_middle
  have p2 : (vl ++ vr ++ (openL A ++ ([v] ++ openL B))).Perm (v :: (vl ++ vr ++ (openL A ++ openL B))) := by
    have e : vl ++ vr ++ (openL A ++ ([v] ++ openL B)) = (vl ++ vr ++ openL A) ++ v :: openL B := by simp
    have e' : vl ++ vr ++ (openL A ++ openL B) = (vl ++ vr ++ openL A) ++ openL B := by simp
    rw [e, e']
    exact List.perm_middle
  exact p1.trans p2.symm
/-! what is kept -/
def pKeep (ps : List aS) (st : aS) : List aS := (if ps.length = 12 then ps.drop 1 else ps) ++ [st]
theorem bY_up (hn : nb ≤ 4) (h4 : ya.length = 4) (hj : jOk nb jo) : yUp jo (bY jo ya) ya = ya := by
  rcases hj with rfl | ⟨b, rfl, hb⟩
  · exact if_pos rfl
  · have ne : Int32.ofNat b ≠ -1 := fun e => by
      have h1 := congrArg Int32.toInt e
      rw [i_toI (by omega)] at h1
      have e1 : (-1 : Int32).toInt = -1 := by decide
      omega
    unfold yUp bY
    rw [if_neg ne, if_neg ne, i_nat (by omega), List.getD_eq_getElem?_getD, List.getElem?_eq_getElem (by omega)]
    exact List.set_getElem_self _
theorem INV.keep (I : INV nb jo lo bo pa ps st T (nx, ct, hb, hy, hs)) : INV nb jo lo bo pa (pKeep ps st) st T (if nx + 1 < 12 then nx + 1 else 0, if ct < 12 then ct + 1 else 12, hb.set nx jo, hy.set nx (bY jo st.2.2.2.1), kUp hs nx st) ∧ kept jo (pKeep ps st) (if nx + 1 < 12 then nx + 1 else 0, if ct < 12 then ct + 1 else 12, hb.set nx jo, hy.set nx (bY jo st.2.2.2.1), kUp hs nx st) := by
  have I0 := I
  obtain ⟨a, l, ⟨h1, h2, h3, h4, H⟩, ok, z⟩ := I
  dsimp only at h1 h2 h3 h4 H
  have hp12 : ps.length ≤ 12 := a.2.2.2.1
  have hk : ∀ x : Nat, x < 12 → ((if nx + 1 < 12 then nx + 1 else 0) + 12 - (x + 1) + x) % 12 = nx := by
    intro x hx
    split <;> omega
  have len : (pKeep ps st).length = if ps.length = 12 then 12 else ps.length + 1 := by
    unfold pKeep
    split
    · rename_i e
      rw [List.length_append, List.length_drop, List.length_singleton, e]
    · rw [List.length_append, List.length_singleton]
  refine ⟨⟨a.keep, l, ⟨by dsimp only; split <;> omega, ?_, by simpa using h3, by simpa using h4, fun i p s hp hs' => ?_⟩, fun s hs' => ?_, z⟩, by unfold pKeep; simp, ?_⟩
  · dsimp only
    rw [len, h2]
    split <;> split <;> omega
  · -- the pairs of the new row: those of the old one, and the new one with the state as it is
    have hlen := (List.getElem?_eq_some_iff.mp hs').1
    rw [List.length_append, List.length_singleton, len] at hlen
    dsimp only
    rw [len]
    have old : ∀ i', i' < ps.length → hSlot nx ps.length i' ≠ nx → (ps ++ [st])[i']? = some p → (ps ++ [st])[i' + 1]? = some s → ∀ k, k = hSlot nx ps.length i' → kUp hs nx st k = p ∧ jOk nb ((hb.set nx jo).getD k 0) ∧ p.2.2.2.1 = yUp ((hb.set nx jo).getD k 0) ((hy.set nx (bY jo st.2.2.2.1)).getD k 0) s.2.2.2.1 ∧ ∀ j, gone p j → gone s j := by
      rintro i' hi' hne g1 g2 k rfl
      rw [kUp_ne hne, List.getD_eq_getElem?_getD, List.getD_eq_getElem?_getD, List.getElem?_set_ne (fun e => hne e.symm), List.getElem?_set_ne (fun e => hne e.symm), ← List.getD_eq_getElem?_getD, ← List.getD_eq_getElem?_getD]
      exact H i' p s g1 g2
    have new : p = st → s = st → ∀ k, k = nx → kUp hs nx st k = p ∧ jOk nb ((hb.set nx jo).getD k 0) ∧ p.2.2.2.1 = yUp ((hb.set nx jo).getD k 0) ((hy.set nx (bY jo st.2.2.2.1)).getD k 0) s.2.2.2.1 ∧ ∀ j, gone p j → gone s j := by
      rintro rfl rfl k rfl
      rw [kUp_eq, List.getD_eq_getElem?_getD, List.getD_eq_getElem?_getD, List.getElem?_set_self (by omega), List.getElem?_set_self (by omega)]
      exact ⟨rfl, I0.jj, (bY_up I0.nb4 I0.sw.2.2.2.2 I0.jj).symm, fun j hj => hj⟩
    by_cases g : ps.length = 12
    · rw [if_pos g] at hlen ⊢
      unfold pKeep at hp hs'
      rw [if_pos g] at hp hs'
      by_cases gi : i = 11
      · subst gi
        have l11 : (ps.drop 1).length = 11 := by rw [List.length_drop]; omega
        rw [List.append_assoc, List.getElem?_append_right (by omega), l11] at hp hs'
        cases hp
        cases hs'
        refine new rfl rfl _ ?_
        unfold hSlot
        exact hk 11 (by decide)
      · have l11 : (ps.drop 1).length = 11 := by rw [List.length_drop]; omega
        have hi : i < 11 := by omega
        rw [List.append_assoc, List.getElem?_append_left (by omega), List.getElem?_drop] at hp
        have hp2 : (ps ++ [st])[i + 1]? = some p := by
          rw [List.getElem?_append_left (by omega), Nat.add_comm]
          exact hp
        have hs2 : (ps ++ [st])[i + 1 + 1]? = some s := by
          by_cases g2 : i + 1 < 11
          · rw [List.append_assoc, List.getElem?_append_left (by omega), List.getElem?_drop] at hs'
            rw [List.getElem?_append_left (by omega), show i + 1 + 1 = 1 + (i + 1) by omega]
            exact hs'
          · rw [List.append_assoc, List.getElem?_append_right (by omega), l11, show i + 1 - 11 = 0 by omega] at hs'
            cases hs'
            rw [List.getElem?_append_right (by omega), show i + 1 + 1 - ps.length = 0 by omega]
            rfl
        refine old (i + 1) (by omega) (by unfold hSlot; omega) hp2 hs2 _ ?_
        unfold hSlot
        split <;> omega
    · rw [if_neg g] at hlen ⊢
      unfold pKeep at hp hs'
      rw [if_neg g] at hp hs'
      by_cases gi : i = ps.length
      · subst gi
        rw [List.append_assoc, List.getElem?_append_right (by omega), Nat.sub_self] at hp
        rw [List.append_assoc, List.getElem?_append_right (by omega), Nat.add_sub_cancel_left] at hs'
        cases hp
        cases hs'
        refine new rfl rfl _ ?_
        unfold hSlot
        exact hk ps.length (by omega)
      · have hi : i < ps.length := by omega
        rw [List.append_assoc, List.getElem?_append_left hi] at hp
        have hp2 : (ps ++ [st])[i]? = some p := by
          rw [List.getElem?_append_left hi]
          exact hp
        have hs2 : (ps ++ [st])[i + 1]? = some s := by
          by_cases g2 : i + 1 < ps.length
          · rw [List.append_assoc, List.getElem?_append_left g2] at hs'
            rw [List.getElem?_append_left g2]
            exact hs'
          · rw [List.append_assoc, List.getElem?_append_right (by omega), show i + 1 - ps.length = 0 by omega] at hs'
            cases hs'
            rw [List.getElem?_append_right (by omega), show i + 1 - ps.length = 0 by omega]
            rfl
        refine old i hi (by unfold hSlot; omega) hp2 hs2 _ ?_
        unfold hSlot
        split <;> omega
  · refine ok s ?_
    unfold pKeep at hs'
    rw [List.append_assoc] at hs'
    rcases List.mem_append.mp hs' with h | h
    · split at h
      · exact List.mem_append_left _ (List.mem_of_mem_drop h)
      · exact List.mem_append_left _ h
    · refine List.mem_append_right _ ?_
      simp at h ⊢
      exact h
  · dsimp only
    have e : ((if nx + 1 < 12 then nx + 1 else 0) + 11) % 12 = nx := by split <;> omega
    rw [e, List.getD_eq_getElem?_getD, List.getElem?_set_self (by omega)]
    rfl
/-- the latest kept one is brought back -/
theorem INV.back (I : INV nb jo lo bo pa (ps ++ [s]) st T (nx, ct, hb, hy, hs)) (hlo : lo.length < 2 ^ 31) (hbo : bo.length < 2 ^ 31) : hs (hLat nx) = s ∧ jOk nb (hb.getD (hLat nx) 0) ∧ s.2.2.2.1 = yUp (hb.getD (hLat nx) 0) (hy.getD (hLat nx) 0) st.2.2.2.1 ∧ INV nb jo (lo.take (s.2.2.2.2 6).toNatClampNeg) (bo.take (s.2.2.2.2 7).toNatClampNeg) pa ps s T (hLat nx, ct - 1, hb, hy, hs) := by
  have I0 := I
  obtain ⟨a, l, ⟨h1, h2, h3, h4, H⟩, ok, z⟩ := I
  dsimp only at h1 h2 h3 h4 H
  have hp12 : ps.length + 1 ≤ 12 := by have := a.2.2.2.1; simpa using this
  have el : (ps ++ [s]).length = ps.length + 1 := by simp
  rw [el] at H h2
  have eL : hLat nx = hSlot nx (ps.length + 1) ps.length := by
    unfold hLat hSlot
    split <;> omega
  have g0 := H ps.length s st (by rw [List.append_assoc, List.getElem?_append_right (Nat.le_refl _), Nat.sub_self]; rfl) (by rw [List.append_assoc, List.getElem?_append_right (by omega), Nat.add_sub_cancel_left]; rfl)
  rw [← eL] at g0
  obtain ⟨q1, q2, q3, q4⟩ := g0
  obtain ⟨a1, a2, a3, a4, a5, a6⟩ := a
  rw [List.reverse_append] at a3
  obtain ⟨n', b', w1, w2, w3, w4⟩ := a3
  have e6 : (s.2.2.2.2 6).toNatClampNeg = n' := by rw [w3.2.2.2.2.2.1, i_nat (by omega)]
  have e7 : (s.2.2.2.2 7).toNatClampNeg = b' := by rw [w3.2.2.2.2.2.2, i_nat (by omega)]
  have l5 : (lo.take n').length = n' := by rw [List.length_take]; omega
  have l6 : (bo.take b').length = b' := by rw [List.length_take]; omega
  refine ⟨q1, q2, q3, ?_⟩
  rw [e6, e7]
  refine ⟨⟨a1, by rw [l5, l6]; exact w3, by rw [l5, l6]; exact w4, by omega, a5, a6⟩, ?_, ⟨by unfold hLat; dsimp only; split <;> omega, by dsimp only; omega, h3, h4, fun i p s' hp hs' => ?_⟩, fun s' hs' => ?_, ?_⟩
  · intro i f hf
    rw [List.getElem?_take] at hf
    split at hf
    · exact l i f hf
    · cases hf
  · have hlen := (List.getElem?_eq_some_iff.mp hs').1
    rw [el] at hlen
    have r := H i p s' (by rw [List.getElem?_append_left (by rw [el]; omega)]; exact hp) (by rw [List.getElem?_append_left (by rw [el]; omega)]; exact hs')
    have e : hSlot (hLat nx) ps.length i = hSlot nx (ps.length + 1) i := by
      unfold hLat hSlot
      split <;> omega
    dsimp only
    rw [e]
    exact r
  · obtain ⟨k1, k2, k3, k4⟩ := ok s' (List.mem_append_left _ hs')
    have hle : (s'.2.2.2.2 7).toNatClampNeg ≤ b' := by
      rcases List.mem_append.mp hs' with h | h
      · obtain ⟨n2, b2, -, w6, w7⟩ := aCh_le w4 s' (List.mem_reverse.mpr h)
        rw [w7.2.2.2.2.2.2, i_nat (by omega)]
        exact w6
      · rw [List.mem_singleton.mp h, e7]
        exact Nat.le_refl _
    refine ⟨k1, k2, fun i hi => ?_, fun v hv => ?_⟩
    · rw [bAt_take hle]
      exact k3 i hi
    · rw [List.take_take, Nat.min_eq_left hle] at hv
      exact k4 v hv
  · intro i hi
    rw [q3]
    unfold yUp
    split
    · exact z i hi
    · rcases q2 with e | ⟨c, e, hc⟩
      · exact absurd e (by assumption)
      · have hnb : nb ≤ 4 := a1.2.1
        rw [e, i_nat (by omega)]
        exact yz_set hc z i hi
theorem jOk.mono {nb' : Nat} (hj : jOk nb jo) (hn : nb ≤ nb') : jOk nb' jo := by
  rcases hj with h | ⟨b, h, hb⟩
  · exact Or.inl h
  · exact Or.inr ⟨b, h, by omega⟩
theorem INV.join {jo' : Int32} (I : INV nb jo lo bo pa ps st T h) (hj : jOk nb jo') : INV nb jo' lo bo pa ps st T h := by
  obtain ⟨⟨⟨a1, a2, a3⟩, a4⟩, l⟩ := I
  exact ⟨⟨⟨a1, a2, hj⟩, a4⟩, l⟩
theorem INV.pat {v : Int32} (I : INV nb jo lo bo pa ps st T h) (hl : pa.length < 6) (hv : aPat v) : INV nb jo lo bo (pa ++ [v]) ps st T h := by
  obtain ⟨⟨a1, a2, a3, a4, a5, a6⟩, l⟩ := I
  refine ⟨⟨a1, a2, a3, a4, by simp; omega, fun w hw => ?_⟩, l⟩
  rcases List.mem_append.mp hw with h | h
  · exact a6 w h
  · rw [List.mem_singleton.mp h]
    exact hv
theorem INV.buy {x : Int32} (I : INV nb jo lo bo pa ps st T (nx, ct, hb, hy, hs)) (hn : nb < 4) : INV (nb + 1) jo lo bo pa (ps.map (aSetY nb x)) (aSetY nb x st) T (nx, ct, hb, hy, fun k => aSetY nb x (hs k)) := by
  obtain ⟨⟨⟨a1, a2, a3⟩, a4, a5, a6, a7⟩, l, ⟨h1, h2, h3, h4, H⟩, ok, z⟩ := I
  have em : ps.map (aSetY nb x) ++ [aSetY nb x st] = (ps ++ [st]).map (aSetY nb x) := by simp
  refine ⟨⟨⟨rfl, by omega, jOk.mono (jo := jo) a3 (by omega)⟩, a4.setY, ?_, by simpa using a6, a7⟩, l, ⟨h1, by simpa using h2, h3, h4, fun i p s hp hs' => ?_⟩, fun s hs' => ?_, ?_⟩
  · rw [← List.map_reverse]
    exact aCh_setY a5
  · rw [em, List.getElem?_map] at hp hs'
    cases e1 : (ps ++ [st])[i]? with
    | none => rw [e1] at hp; cases hp
    | some p0 =>
      cases e2 : (ps ++ [st])[i + 1]? with
      | none => rw [e2] at hs'; cases hs'
      | some s0 =>
        rw [e1] at hp
        rw [e2] at hs'
        cases hp
        cases hs'
        obtain ⟨q1, q2, q3, q4⟩ := H i p0 s0 e1 e2
        rw [List.length_map]
        dsimp only at q1 q2 q3 ⊢
        refine ⟨by rw [q1], q2.mono (by omega), ?_, q4⟩
        show p0.2.2.2.1.set nb x = yUp _ _ (s0.2.2.2.1.set nb x)
        rw [q3]
        unfold yUp
        split
        · rfl
        · rename_i ne
          rcases q2 with e | ⟨c, e, hc⟩
          · exact absurd e ne
          · rw [e, i_nat (by omega)]
            exact List.set_comm _ _ (by omega)
  · rw [em] at hs'
    obtain ⟨s0, hs0, rfl⟩ := List.mem_map.mp hs'
    exact ok s0 hs0
  · intro i hi
    show (st.2.2.2.1.set nb x).getD i 0 = 0
    rw [List.getD_eq_getElem?_getD, List.getElem?_set_ne (by omega), ← List.getD_eq_getElem?_getD]
    exact z i (by omega)
end EI
