/-! ===== the reference's calls: buy ===== -/
/-- what was thrown by the call, too -/
def RIt (xm : Nat → Option kE) (M0 nb : Nat) (t : Int32) (k C S : Nat) (F : kSg) (mem : kM) : Prop :=
  ∃ g sum lo bo pa ps st ck, WR xm M0 g sum lo bo pa ps st ck F mem ∧ aInv nb g lo bo pa ps st ∧ lo.length ≤ 24 * k ∧ bo.length ≤ 24 * k ∧ mem.length ≤ C ∧ kSl mem ≤ S + 4 * ck ∧ g 0 = t
def aSetY (b : Nat) (x : Int32) (s : aS) : aS := (s.1, s.2.1, s.2.2.1, s.2.2.2.1.set b x, s.2.2.2.2)
section KS2
variable {xm : Nat → Option kE} {mem : kM} {N M0 nb k C S ck : Nat} {F : kSg} {g : Nat → Int32} {sum : Int64} {lo : List kLf} {bo pa : List Int32} {ps : List aS} {st : aS} {T : kO × kM → Prop}
theorem RIt.ri {t : Int32} (I : RIt xm M0 nb t k C S F mem) : RI xm M0 nb k C S F mem := by
  obtain ⟨g, sum, lo, bo, pa, ps, st, ck, W, h, hl, hb, h1, h2, -⟩ := I
  exact ⟨g, sum, lo, bo, pa, ps, st, ck, W, h, hl, hb, h1, h2⟩
theorem RI.hd (I : RI xm M0 nb k C S F mem) : ∃ fs, kLook xm mem M0 = some (.inl (15, fs)) := by
  obtain ⟨g, sum, lo, bo, pa, ps, st, ck, W, -⟩ := I
  exact W.hd
theorem sOwn_eq (c : kCs) (s : aS) : sOwn c s = (c.1, stE c.2.1.1 c.2.2.1.1 c.2.2.2.1.1 c.2.2.2.2 s.2.2.2.2) :: ((sL c.2.1 ++ (sL c.2.2.1 ++ (sL c.2.2.2.1 ++ sRu c.2.2.2.1.2.2.2.2 s.2.2.1))) ++ [(c.2.2.2.2, kAr s.2.2.2.1)]) := by
  unfold sOwn cSg
  simp [List.append_assoc]
theorem pOwn_y : ∀ (cs : List kCs) (ps : List aS) (i : Nat) (c : kCs) (s : aS), cs[i]? = some c → ps[i]? = some s → ∃ j0 j : Nat, (pOwn cs ps)[j0]? = some (c.1, stE c.2.1.1 c.2.2.1.1 c.2.2.2.1.1 c.2.2.2.2 s.2.2.2.2) ∧ (pOwn cs ps)[j]? = some (c.2.2.2.2, kAr s.2.2.2.1) ∧ ∀ b x, (pOwn cs ps).set j (c.2.2.2.2, kAr (s.2.2.2.1.set b x)) = pOwn cs (ps.set i (aSetY b x s)) := by
  intro cs
  induction cs with
  | nil => intro ps i c s h; cases h
  | cons c0 cs ih =>
    intro ps i c s h1 h2
    cases ps with
    | nil => cases h2
    | cons s0 ps =>
      cases i with
      | zero =>
        have hc : c = c0 := (Option.some.inj h1).symm
        have hs : s = s0 := (Option.some.inj h2).symm
        rw [← hc, ← hs]
        refine ⟨0, (sL c.2.1 ++ (sL c.2.2.1 ++ (sL c.2.2.2.1 ++ sRu c.2.2.2.1.2.2.2.2 s.2.2.1))).length + 1, ?_, ?_, ?_⟩
        · rw [pOwn_cons, sOwn_eq]
          rfl
        · rw [pOwn_cons, sOwn_eq, List.cons_append, List.getElem?_cons_succ, List.append_assoc, List.getElem?_append_right (Nat.le_refl _), Nat.sub_self]
          rfl
        · intro b x
          rw [List.set_cons_zero, pOwn_cons, pOwn_cons, sOwn_eq, sOwn_eq, List.cons_append, List.set_cons_succ, List.append_assoc, List.set_append_right _ _ (Nat.le_refl _), Nat.sub_self]
          simp [aSetY]
      | succ i =>
        obtain ⟨j0, j, g1, g2, g3⟩ := ih ps i c s h1 h2
        refine ⟨(sOwn c0 s0).length + j0, (sOwn c0 s0).length + j, ?_, ?_, ?_⟩
        · rw [pOwn_cons, List.getElem?_append_right (by omega), show (sOwn c0 s0).length + j0 - (sOwn c0 s0).length = j0 by omega]
          exact g1
        · rw [pOwn_cons, List.getElem?_append_right (by omega), show (sOwn c0 s0).length + j - (sOwn c0 s0).length = j by omega]
          exact g2
        · intro b x
          rw [pOwn_cons, List.set_append_right _ _ (by omega), show (sOwn c0 s0).length + j - (sOwn c0 s0).length = j by omega, g3, List.set_cons_succ, pOwn_cons]
theorem aSt.setY {n b j : Nat} {x : Int32} {s : aS} (h : aSt n b s) : aSt n b (aSetY j x s) := by
  obtain ⟨⟨b1, b2, b3, b4, b5⟩, b6⟩ := h
  exact ⟨⟨b1, b2, b3, b4, by show (s.2.2.2.1.set j x).length = 4; rw [List.length_set]; exact b5⟩, b6⟩
theorem aCh_setY {j : Nat} {x : Int32} : ∀ {l : List aS} {n b : Nat}, aCh n b l → aCh n b (l.map (aSetY j x)) := by
  intro l
  induction l with
  | nil => intro n b _; trivial
  | cons s r ih =>
    intro n b h
    obtain ⟨n', b', h1, h2, h3, h4⟩ := h
    exact ⟨n', b', h1, h2, h3.setY, ih h4⟩
theorem aCh_mem : ∀ {l : List aS} {n b : Nat}, aCh n b l → ∀ s ∈ l, ∃ n' b', aSt n' b' s := by
  intro l
  induction l with
  | nil => intro n b _ s hs; cases hs
  | cons s0 r ih =>
    intro n b h s hs
    obtain ⟨n', b', h1, h2, h3, h4⟩ := h
    rcases List.mem_cons.mp hs with rfl | hs
    · exact ⟨n', b', h3⟩
    · exact ih h4 s hs
end KS2
