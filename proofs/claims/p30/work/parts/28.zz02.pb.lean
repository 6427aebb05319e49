/-! ===== a property of its own: the contents from call to call ===== -/
section PB
variable {B R n k j i s m b : Nat} {nb : Nat} {jo x : Int32} {lo lo' : List kLf} {bo bo' pa vl vr ya vl' vr' : List Int32} {ps : List aS} {rs rs' : List (List Int32)} {sc sc' : Nat → Int32} {st st' p s0 : aS} {w w' : aW} {T : Nat → Int32} {h : kHs}
theorem PJ.up {R' : Nat} (J : PJ B R lo bo ps st) (hR : R ≤ R') : PJ B R' lo bo ps st := by
  obtain ⟨j1, j2, j3, j4⟩ := J
  exact ⟨j1, j2, fun s hs => (j3 s hs).up hR, j4⟩
theorem PJ.now (J : PJ B R lo bo ps st) : pSt B R lo st := J.2.2.1 st (List.mem_append_right _ (List.mem_singleton.mpr rfl))
theorem PJ.step (J : PJ B R lo bo ps st) (hl : pLo lo') (hs : pSt B R lo' st') (pre : ∃ t, lo' = lo ++ t) (nd : bo'.Nodup) (hy : yOf st' ≤ yOf st) : PJ B R lo' bo' (pKeep ps st) st' := by
  obtain ⟨j1, j2, j3, j4, j5⟩ := J
  obtain ⟨t, rfl⟩ := pre
  have old : ∀ s ∈ (if ps.length = 12 then ps.drop 1 else ps), s ∈ ps := by
    intro s hs
    split at hs
    · exact List.mem_of_mem_drop hs
    · exact hs
  have sub : (if ps.length = 12 then ps.drop 1 else ps).Pairwise (fun p s => yOf s ≤ yOf p) := by
    split
    · exact List.Pairwise.sublist (List.drop_sublist 1 ps) j4
    · exact j4
  refine ⟨hl, nd, fun s hs' => ?_, ?_, fun p hp => ?_⟩
  · rcases List.mem_append.mp hs' with h | h
    · rcases List.mem_append.mp h with h | h
      · exact (j3 s (List.mem_append_left _ (old s h))).app
      · rw [List.mem_singleton.mp h]
        exact (j3 st (List.mem_append_right _ (List.mem_singleton.mpr rfl))).app
    · rw [List.mem_singleton.mp h]
      exact hs
  · refine List.pairwise_append.mpr ⟨sub, List.pairwise_singleton _ _, fun a ha c hc => ?_⟩
    rw [List.mem_singleton.mp hc]
    exact j5 a (old a ha)
  · rcases List.mem_append.mp hp with h | h
    · exact Nat.le_trans hy (j5 p (old p h))
    · rw [List.mem_singleton.mp h]
      exact hy
theorem PJ.undo (J : PJ B R lo bo (ps ++ [s0]) st) (hB : B ≤ 20000) (hn : ∀ p ∈ ps ++ [s0], ∃ n' : Nat, p.2.2.2.2 6 = Int32.ofNat n' ∧ n' ≤ (lo.take m).length ∧ n' < 2 ^ 31) : PJ B R (lo.take m) (bo.take b) ps s0 := by
  obtain ⟨j1, j2, j3, j4, j5⟩ := J
  obtain ⟨q1, q2, q3⟩ := List.pairwise_append.mp j4
  refine ⟨fun i f hf => ?_, List.Nodup.sublist (List.take_sublist _ _) j2, fun s hs => ?_, q1, fun p hp => q3 p hp s0 (List.mem_singleton.mpr rfl)⟩
  · rw [List.getElem?_take] at hf
    split at hf
    · exact j1 i f hf
    · cases hf
  · obtain ⟨n', e1, e2, e3⟩ := hn s hs
    obtain ⟨a, b, n, r, h1, h2, h3, h4, h5, h6, h7, h8⟩ := j3 s (List.mem_append_left _ hs)
    have en : n = n' := (i_eq (by omega) e3).mp (h2.symm.trans e1)
    refine ⟨a, b, n, r, h1, h2, h3, h4, h5, by omega, fun i f hi hf => ?_, h8⟩
    rw [List.getElem?_take] at hf
    split at hf
    · exact h7 i f hi hf
    · cases hf
theorem pSt.turn {y10 y4 : Int32} (h : pSt B R lo (vl, vr, rs, ya, sc)) : pSt B (R + 1) lo (vl', vr', rs, ya, kUp (kUp (kUp sc 10 y10) 4 y4) 5 (sc 5 + 1)) := by
  obtain ⟨a, b, n, r, h1, h2, h3, h4, h5, h6, h7, h8⟩ := h
  dsimp only at h1 h2 h3 h7 h8
  refine ⟨a, b, n, r + 1, h1, ?_, ?_, h4, by omega, h6, fun i f hi hf => ?_, h8⟩
  · show kUp (kUp (kUp sc 10 y10) 4 y4) 5 (sc 5 + 1) 6 = _
    rw [kUp_ne (by decide), kUp_ne (by decide), kUp_ne (by decide)]
    exact h2
  · show kUp (kUp (kUp sc 10 y10) 4 y4) 5 (sc 5 + 1) 5 = _
    rw [kUp_eq, h3, i_add1]
  · obtain ⟨q, e1, e2⟩ := h7 i f hi hf
    exact ⟨q, e1, by omega⟩
theorem PJ.turn {y10 y4 : Int32} (J : PJ B R lo bo ps (vl, vr, rs, ya, sc)) : PJ B (R + 1) lo bo (pKeep ps (vl, vr, rs, ya, sc)) (vl', vr', rs, ya, kUp (kUp (kUp sc 10 y10) 4 y4) 5 (sc 5 + 1)) := (J.up (Nat.le_succ R)).step J.1 J.now.turn ⟨[], (List.append_nil _).symm⟩ J.2.1 (Nat.le_refl _)
theorem pW.of (J : PJ B R lo bo ps (vl, vr, rs, ya, sc)) (I : INV nb jo lo bo pa ps (vl, vr, rs, ya, sc) T h) : pW B R (lo, bo, (vl, vr, rs, ya, sc)) := ⟨J.1, J.now, I.made, I.1.2.1.2.2.1⟩
/-- a call that makes loops -/
theorem PJ.made (J : PJ B R lo bo ps st) (W : pW B R w') (Rr : pR (lo, bo, st) w') (hb : w'.2.1 = bo) : PJ B R w'.1 w'.2.1 (pKeep ps st) w'.2.2 := J.step W.1 W.2.1 Rr.1 (by rw [hb]; exact J.2.1) Rr.2
/-! binding off -/
theorem zBind1_eq {wl : List Int32} {u t : Int32} : zBind1 (lo, bo, (vl, wl ++ [u, t], rs, ya, sc)) = (lo, bo ++ [u], (vl, wl ++ [t], rs, ya, kUp sc 7 (sc 7 + 1))) := by
  unfold zBind1
  have hl : (wl ++ [u, t]).length = wl.length + 2 := by simp
  dsimp only
  rw [hl, if_neg (by omega), show wl.length + 2 - 2 = wl.length by omega]
  have e1 : (wl ++ [u, t]).getD wl.length 0 = u := by
    rw [List.getD_eq_getElem?_getD, List.getElem?_append_right (Nat.le_refl _), Nat.sub_self]
    rfl
  have e2 : (wl ++ [u, t]).eraseIdx wl.length = wl ++ [t] := by
    rw [List.eraseIdx_append_of_length_le (Nat.le_refl _), Nat.sub_self]
    rfl
  rw [e1, e2]
/-- so many loops behind the tip are bound off, the one next to it first -/
theorem zBindN : ∀ (us wl bo : List Int32) (t : Int32) (sc : Nat → Int32), ∃ sc' : Nat → Int32, zIter zBind1 us.length (lo, bo, (vl, wl ++ us.reverse ++ [t], rs, ya, sc)) = (lo, bo ++ us, (vl, wl ++ [t], rs, ya, sc')) ∧ sc' 7 = sc 7 + Int32.ofNat us.length ∧ ∀ k, k ≠ 7 → sc' k = sc k := by
  intro us
  induction us with
  | nil =>
    intro wl bo t sc
    refine ⟨sc, ?_, ?_, fun _ _ => rfl⟩
    · show (lo, bo, (vl, wl ++ [] ++ [t], rs, ya, sc)) = _
      rw [List.append_nil, List.append_nil]
    · exact (Int32.add_zero _).symm
  | cons u us ih =>
    intro wl bo t sc
    obtain ⟨sc', e1, e2, e3⟩ := ih wl (bo ++ [u]) t (kUp sc 7 (sc 7 + 1))
    refine ⟨sc', ?_, ?_, fun k hk => ?_⟩
    · have ee : wl ++ (u :: us).reverse ++ [t] = (wl ++ us.reverse) ++ [u, t] := by simp
      show zIter zBind1 us.length (zBind1 (lo, bo, (vl, wl ++ (u :: us).reverse ++ [t], rs, ya, sc))) = _
      rw [ee, zBind1_eq, e1, List.append_assoc]
      rfl
    · rw [e2, kUp_eq, List.length_cons, Int32.add_assoc, show (1 : Int32) = Int32.ofNat 1 from rfl, i_add, Nat.add_comm]
    · rw [e3 k hk, kUp_ne hk]
/-- what is bound off is on no needle, nor of an open run -/
theorem INV.apart (I : INV nb jo lo bo pa ps (vl, vr, rs, ya, sc) T h) (hbo : bo.length < 2 ^ 31) : ∀ v ∈ bo, v ∉ vl ∧ v ∉ vr ∧ v ∉ openL rs := by
  obtain ⟨o1, o2, o3, o4⟩ := I.2.2.2.1 _ (List.mem_append_right _ (List.mem_singleton.mpr rfl))
  have hb : sc 7 = Int32.ofNat bo.length := I.bnd
  dsimp only at o4
  rw [hb, i_nat hbo, List.take_of_length_le (Nat.le_refl _)] at o4
  intro v hv
  obtain ⟨i, rfl, g1, g2, g3, g4⟩ := o4 v hv
  exact ⟨g2, g3, g4⟩
theorem INV.nd (I : INV nb jo lo bo pa ps (vl, vr, rs, ya, sc) T h) : (vl ++ vr ++ openL rs).Nodup := (I.2.2.2.1 _ (List.mem_append_right _ (List.mem_singleton.mpr rfl))).2.1
end PB
