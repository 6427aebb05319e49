/-! ===== class and reference: what the class's cells tell of the reference's contents ===== -/
def openL (rs : List (List Int32)) : List Int32 := (rs.filter fun z => decide (z.getD 3 0 = 1)).map fun z => z.getD 0 0
/-- a loop that there is, on no needle and of no open run -/
def gone (s : aS) (i : Nat) : Prop := i < (s.2.2.2.2 6).toNatClampNeg ∧ Int32.ofNat i ∉ s.1 ∧ Int32.ofNat i ∉ s.2.1 ∧ Int32.ofNat i ∉ openL s.2.2.1
/-- where one is that is gone: bound off, or in the work -/
def bAt (bo : List Int32) (n : Nat) (x : Int32) : Int32 := if x ∈ bo.take n then 3 else 2
def sOk (bo : List Int32) (T : Nat → Int32) (s : aS) : Prop :=
  s.2.2.2.2 4 = s.2.2.2.2 5 &&& 1 ∧ (s.1 ++ s.2.1 ++ openL s.2.2.1).Nodup ∧ (∀ i, gone s i → T (i * 6 + 5) = bAt bo (s.2.2.2.2 7).toNatClampNeg (Int32.ofNat i)) ∧ ∀ v ∈ bo.take (s.2.2.2.2 7).toNatClampNeg, ∃ i : Nat, v = Int32.ofNat i ∧ gone s i
def lRel (T : Nat → Int32) (lo : List kLf) : Prop := ∀ (i : Nat) (f : kLf), lo[i]? = some f → T (i * 6 + 0) = f.1 ∧ T (i * 6 + 1) = f.2.1 ∧ T (i * 6 + 2) = f.2.2.1 ∧ T (i * 6 + 3) = f.2.2.2.1 ∧ T (i * 6 + 4) = f.2.2.2.2.2 ∧ f.2.2.2.2.1 = f.2.2.1 &&& 1
def hSlot (nx n i : Nat) : Nat := (nx + 12 - n + i) % 12
/-- the history's slots: each kept state, and what leads from the next one back to it -/
def hRel (nb : Nat) (ps : List aS) (st : aS) (h : kHs) : Prop :=
  h.1 < 12 ∧ h.2.1 = ps.length ∧ h.2.2.1.length = 12 ∧ h.2.2.2.1.length = 12 ∧ ∀ (i : Nat) (p s : aS), (ps ++ [st])[i]? = some p → (ps ++ [st])[i + 1]? = some s → h.2.2.2.2 (hSlot h.1 ps.length i) = p ∧ jOk nb (h.2.2.1.getD (hSlot h.1 ps.length i) 0) ∧ p.2.2.2.1 = yUp (h.2.2.1.getD (hSlot h.1 ps.length i) 0) (h.2.2.2.1.getD (hSlot h.1 ps.length i) 0) s.2.2.2.1 ∧ ∀ j, gone p j → gone s j
def gJ (nb : Nat) (jo : Int32) : Nat → Int32 := fun k => if k = 6 then Int32.ofNat nb else jo
def INV (nb : Nat) (jo : Int32) (lo : List kLf) (bo pa : List Int32) (ps : List aS) (st : aS) (T : Nat → Int32) (h : kHs) : Prop :=
  aInv nb (gJ nb jo) lo bo pa ps st ∧ lRel T lo ∧ hRel nb ps st h ∧ (∀ s ∈ ps ++ [st], sOk bo T s) ∧ ∀ i, nb ≤ i → st.2.2.2.1.getD i 0 = 0
section EH
variable {nb : Nat} {jo : Int32} {lo lo' : List kLf} {bo bo' pa : List Int32} {ps : List aS} {st st' s p : aS} {T T' : Nat → Int32} {h : kHs} {vl vr ya : List Int32} {rs : List (List Int32)} {sc : Nat → Int32} {i j : Nat}
theorem bAt_app {n : Nat} {tb : List Int32} {x : Int32} (h : n ≤ bo.length) : bAt (bo ++ tb) n x = bAt bo n x := by
  simp only [bAt, List.take_append_of_le_length h]
theorem bAt_take {n m : Nat} {x : Int32} (h : n ≤ m) : bAt (bo.take m) n x = bAt bo n x := by
  simp only [bAt, List.take_take, Nat.min_eq_left h]
theorem bAt_pos {n : Nat} {x : Int32} (h : x ∈ bo.take n) : bAt bo n x = 3 := if_pos h
theorem bAt_neg {n : Nat} {x : Int32} (h : x ∉ bo.take n) : bAt bo n x = 2 := if_neg h
theorem aInv.g {g g' : Nat → Int32} (a : aInv nb g lo bo pa ps st) (h6 : g' 6 = g 6) (h7 : g' 7 = g 7) : aInv nb g' lo bo pa ps st := by
  obtain ⟨⟨a1, a2, a3⟩, a4⟩ := a
  exact ⟨⟨h6.trans a1, a2, by rw [h7]; exact a3⟩, a4⟩
theorem INV.jj (I : INV nb jo lo bo pa ps st T h) : jOk nb jo := I.1.1.2.2
theorem INV.nb4 (I : INV nb jo lo bo pa ps st T h) : nb ≤ 4 := I.1.1.2.1
theorem INV.sw (I : INV nb jo lo bo pa ps st T h) : aSw st := I.1.2.1.1
theorem INV.made (I : INV nb jo lo bo pa ps st T h) : st.2.2.2.2 6 = Int32.ofNat lo.length := I.1.2.1.2.2.2.2.2.1
theorem INV.bnd (I : INV nb jo lo bo pa ps st T h) : st.2.2.2.2 7 = Int32.ofNat bo.length := I.1.2.1.2.2.2.2.2.2
theorem INV.all (I : INV nb jo lo bo pa ps st T h) (hs : s ∈ ps) (hj : gone s j) : gone st j := by
  obtain ⟨-, -, ⟨-, -, -, -, H⟩, -⟩ := I
  have go : ∀ (d i : Nat), i + d = ps.length → ∀ p, (ps ++ [st])[i]? = some p → gone p j → gone st j := by
    intro d
    induction d with
    | zero =>
      intro i hi p hp hg
      have : i = ps.length := by omega
      subst this
      rw [List.getElem?_append_right (Nat.le_refl _), Nat.sub_self] at hp
      cases hp
      exact hg
    | succ d ih =>
      intro i hi p hp hg
      have hl : i + 1 < (ps ++ [st]).length := by simp; omega
      have h2 : (ps ++ [st])[i + 1]? = some (ps ++ [st])[i + 1] := List.getElem?_eq_getElem hl
      exact ih (i + 1) (by omega) _ h2 ((H i p _ hp h2).2.2.2 j hg)
  obtain ⟨i, hi⟩ := List.mem_iff_getElem?.mp hs
  have hl := (List.getElem?_eq_some_iff.mp hi).1
  exact go (ps.length - i) i (by omega) s (by rw [List.getElem?_append_left hl]; exact hi) hj
theorem aCh_le : ∀ {l : List aS} {n b : Nat}, aCh n b l → ∀ s ∈ l, ∃ n' b', n' ≤ n ∧ b' ≤ b ∧ aSt n' b' s := by
  intro l
  induction l with
  | nil => intro n b _ s hs; cases hs
  | cons s0 r ih =>
    intro n b h s hs
    obtain ⟨n', b', h1, h2, h3, h4⟩ := h
    rcases List.mem_cons.mp hs with rfl | hs
    · exact ⟨n', b', h1, h2, h3⟩
    · obtain ⟨n2, b2, g1, g2, g3⟩ := ih h4 s hs
      exact ⟨n2, b2, by omega, by omega, g3⟩
/-- a kept state's bound off ones, of those that there are -/
theorem INV.le (I : INV nb jo lo bo pa ps st T h) (hl : bo.length < 2 ^ 31) (hs : s ∈ ps) : (s.2.2.2.2 7).toNatClampNeg ≤ bo.length := by
  obtain ⟨n', b', -, h2, h3⟩ := aCh_le I.1.2.2.1 s (List.mem_reverse.mpr hs)
  rw [h3.2.2.2.2.2.2, i_nat (by omega)]
  exact h2
/-- the newest kept one is of the ball that is joined -/
def kept (jo : Int32) (ps : List aS) (h : kHs) : Prop := ps ≠ [] ∧ h.2.2.1.getD ((h.1 + 11) % 12) 0 = jo
def yC (ps : List aS) (h : kHs) (ya ya' : List Int32) : Prop := ps ≠ [] → yUp (h.2.2.1.getD ((h.1 + 11) % 12) 0) (h.2.2.2.1.getD ((h.1 + 11) % 12) 0) ya' = yUp (h.2.2.1.getD ((h.1 + 11) % 12) 0) (h.2.2.2.1.getD ((h.1 + 11) % 12) 0) ya
theorem INV.step (I : INV nb jo lo bo pa ps st T h) (hl : bo.length < 2 ^ 31) (a : aInv nb (gJ nb jo) lo' bo' pa ps st') (lr : lRel T' lo') {tb : List Int32} (hb : bo' = bo ++ tb) (hg : ∀ j, gone st j → gone st' j) (hT : ∀ j, gone st j → T' (j * 6 + 5) = T (j * 6 + 5)) (ok : sOk bo' T' st') (hy : yC ps h st.2.2.2.1 st'.2.2.2.1) (hz : ∀ i, nb ≤ i → st'.2.2.2.1.getD i 0 = 0) : INV nb jo lo' bo' pa ps st' T' h := by
  have I0 := I
  obtain ⟨a0, l0, ⟨h1, h2, h3, h4, H⟩, ok0, z0⟩ := I
  refine ⟨a, lr, ⟨h1, h2, h3, h4, fun i p s hp hs => ?_⟩, fun s hs => ?_, hz⟩
  · by_cases g : i + 1 < ps.length
    · rw [List.getElem?_append_left (by omega)] at hp
      rw [List.getElem?_append_left g] at hs
      exact H i p s (by rw [List.getElem?_append_left (by omega)]; exact hp) (by rw [List.getElem?_append_left g]; exact hs)
    · have hlen := (List.getElem?_eq_some_iff.mp hs).1
      rw [List.length_append, List.length_singleton] at hlen
      have e : i + 1 = ps.length := by omega
      have e2 : s = st' := by
        rw [e, List.getElem?_append_right (Nat.le_refl _), Nat.sub_self] at hs
        exact (Option.some.inj hs).symm
      subst e2
      have hp' : (ps ++ [st])[i]? = some p := by
        rw [List.getElem?_append_left (by omega)] at hp ⊢
        exact hp
      obtain ⟨q1, q2, q3, q4⟩ := H i p st hp' (by rw [e, List.getElem?_append_right (Nat.le_refl _), Nat.sub_self]; rfl)
      refine ⟨q1, q2, ?_, fun j hj => hg j (q4 j hj)⟩
      have e3 : hSlot h.1 ps.length i = (h.1 + 11) % 12 := by unfold hSlot; congr 1; have := a0.2.2.2.1; omega
      rw [e3] at q3 ⊢
      rw [q3]
      exact (hy (fun z => by rw [z] at e; simp at e)).symm
  · rcases List.mem_append.mp hs with hs | hs
    · obtain ⟨k1, k2, k3, k4⟩ := ok0 s (List.mem_append_left _ hs)
      have hle := I0.le hl hs
      rw [hb]
      refine ⟨k1, k2, fun i hi => ?_, fun v hv => ?_⟩
      · rw [hT i (I0.all hs hi), bAt_app hle]
        exact k3 i hi
      · rw [List.take_append_of_le_length hle] at hv
        exact k4 v hv
    · rw [List.mem_singleton.mp hs]
      exact ok
theorem yC.refl : yC ps h ya ya := fun _ => rfl
theorem yUp_set {b : Nat} (hj : jo = Int32.ofNat b) (hb : b < 2 ^ 31) {x v : Int32} : yUp jo v (ya.set b x) = yUp jo v ya := by
  subst hj
  unfold yUp
  split
  · rename_i e
    exfalso
    have h1 := congrArg Int32.toInt e
    rw [i_toI hb] at h1
    have e1 : (-1 : Int32).toInt = -1 := by decide
    omega
  · rw [i_nat hb, List.set_set]
theorem yC.set {b : Nat} {x : Int32} (hk : kept jo ps h) (hj : jo = Int32.ofNat b) (hb : b < 2 ^ 31) : yC ps h ya (ya.set b x) := by
  intro _
  rw [hk.2]
  exact yUp_set hj hb
theorem yz_set {b nb : Nat} {x : Int32} (hb : b < nb) (hz : ∀ i, nb ≤ i → ya.getD i 0 = 0) : ∀ i, nb ≤ i → (ya.set b x).getD i 0 = 0 := by
  intro i hi
  rw [List.getD_eq_getElem?_getD, List.getElem?_set_ne (by omega), ← List.getD_eq_getElem?_getD]
  exact hz i hi
/-! the primitives -/
theorem ofNat_ne {a b : Nat} (ha : a < 2 ^ 31) (hb : b < 2 ^ 31) (h : a ≠ b) : Int32.ofNat a ≠ Int32.ofNat b := fun e => h ((i_eq ha hb).mp e)
theorem kFall_3 {z : List Int32} : (kFall z).getD 3 0 = z.getD 3 0 := by
  unfold kFall
  split
  · rw [List.getD_eq_getElem?_getD, List.getElem?_set_ne (by decide), ← List.getD_eq_getElem?_getD]
  · rfl
theorem openL_fall : openL (rs.map kFall) = openL rs := by
  unfold openL
  induction rs with
  | nil => rfl
  | cons z rs ih =>
    rw [List.map_cons, List.filter_cons, List.filter_cons, kFall_3]
    split
    · rw [List.map_cons, List.map_cons, ih, kFall_0]
    · exact ih
theorem openL_mem {v : Int32} (hv : v ∈ openL rs) : ∃ z ∈ rs, z.getD 0 0 = v := by
  unfold openL at hv
  obtain ⟨z, hz, e⟩ := List.mem_map.mp hv
  exact ⟨z, (List.mem_filter.mp hz).1, e⟩
theorem aSt.openId {n b : Nat} {s : aS} (a : aSt n b s) {v : Int32} (hv : v ∈ openL s.2.2.1) : aId n v := by
  obtain ⟨z, hz, rfl⟩ := openL_mem hv
  exact a.2.2.2.2.1 z hz
def tMake (T : Nat → Int32) (n : Nat) (k1 jo row k2 k3 : Int32) : Nat → Int32 := kUp (kUp (kUp (kUp (kUp T (n * 6 + 0) k1) (n * 6 + 1) jo) (n * 6 + 2) row) (n * 6 + 3) k2) (n * 6 + 4) k3
theorem tMake_5 {n : Nat} {k1 row k2 k3 : Int32} : tMake T n k1 jo row k2 k3 (j * 6 + 5) = T (j * 6 + 5) := by
  unfold tMake kUp
  rw [if_neg (by omega), if_neg (by omega), if_neg (by omega), if_neg (by omega), if_neg (by omega)]
theorem lRel_make {k1 row k2 k3 side : Int32} (l : lRel T lo) (hs : side = row &&& 1) : lRel (tMake T lo.length k1 jo row k2 k3) (lo ++ [(k1, jo, row, k2, side, k3)]) := by
  intro i f hf
  by_cases g : i < lo.length
  · rw [List.getElem?_append_left g] at hf
    have := l i f hf
    unfold tMake kUp
    rw [if_neg (by omega), if_neg (by omega), if_neg (by omega), if_neg (by omega), if_neg (by omega), if_neg (by omega), if_neg (by omega), if_neg (by omega), if_neg (by omega), if_neg (by omega), if_neg (by omega), if_neg (by omega), if_neg (by omega), if_neg (by omega), if_neg (by omega), if_neg (by omega), if_neg (by omega), if_neg (by omega), if_neg (by omega), if_neg (by omega), if_neg (by omega), if_neg (by omega), if_neg (by omega), if_neg (by omega), if_neg (by omega)]
    exact this
  · have hlen := (List.getElem?_eq_some_iff.mp hf).1
    rw [List.length_append, List.length_singleton] at hlen
    have e : i = lo.length := by omega
    subst e
    rw [List.getElem?_append_right (Nat.le_refl _), Nat.sub_self] at hf
    cases hf
    unfold tMake kUp
    refine ⟨?_, ?_, ?_, ?_, ?_, hs⟩
    · rw [if_neg (by omega), if_neg (by omega), if_neg (by omega), if_neg (by omega), if_pos rfl]
    · rw [if_neg (by omega), if_neg (by omega), if_neg (by omega), if_pos rfl]
    · rw [if_neg (by omega), if_neg (by omega), if_pos rfl]
    · rw [if_neg (by omega), if_pos rfl]
    · rw [if_pos rfl]
theorem kUp_ne {α : Type} {f : Nat → α} {k k' : Nat} {v : α} (h : k' ≠ k) : kUp f k v k' = f k' := if_neg h
theorem kUp_eq {α : Type} {f : Nat → α} {k : Nat} {v : α} : kUp f k v k = v := if_pos rfl
theorem INV.make {b : Nat} {k1 k2 k3 k4 : Int32} (I : INV nb jo lo bo pa ps (vl, vr, rs, ya, sc) T h) (hk : kept jo ps h) (hlo : lo.length < 19998) (hbo : bo.length < 2 ^ 31) (hj : jo = Int32.ofNat b) (hb : b < nb) (h24 : vl.length + vr.length < 24) : INV nb jo (lo ++ [(k1, jo, sc 5, k2, sc 4, k3)]) bo pa ps (vl, vr ++ [sc 6], rs.map kFall, ya.set b (ya.getD b 0 - k4), kUp sc 6 (sc 6 + 1)) (tMake T lo.length k1 jo (sc 5) k2 k3) h := by
  have hm : sc 6 = Int32.ofNat lo.length := I.made
  have a := I.1
  have ok := I.2.2.2.1 _ (List.mem_append_right _ (List.mem_singleton.mpr rfl))
  obtain ⟨o1, o2, o3, o4⟩ := ok
  dsimp only at o1 o2
  have st := a.2.1
  obtain ⟨-, -, il, ir, -, -, ib⟩ := st
  have io : ∀ v ∈ openL rs, aId lo.length v := fun v hv => aSt.openId a.2.1 hv
  dsimp only at il ir ib
  have fresh : ∀ v, aId lo.length v → v ≠ sc 6 := by
    rintro v ⟨i, rfl, hi⟩ e
    rw [hm] at e
    exact ofNat_ne (by omega) (by omega) (by omega) e
  have e1 : (sc 6 + 1).toNatClampNeg = lo.length + 1 := by rw [hm, i_add1, i_nat (by omega)]
  have e0 : (sc 6).toNatClampNeg = lo.length := by rw [hm, i_nat (by omega)]
  have hnb := I.nb4
  have gg : ∀ j, gone (vl, vr, rs, ya, sc) j → gone (vl, vr ++ [sc 6], rs.map kFall, ya.set b (ya.getD b 0 - k4), kUp sc 6 (sc 6 + 1)) j := by
    rintro j ⟨g1, g2, g3, g4⟩
    dsimp only at g1 g2 g3 g4
    rw [e0] at g1
    refine ⟨by dsimp only; rw [kUp_eq, e1]; omega, g2, ?_, by dsimp only; rw [openL_fall]; exact g4⟩
    intro hm2
    rcases List.mem_append.mp hm2 with h | h
    · exact g3 h
    · exact fresh _ ⟨j, rfl, g1⟩ (List.mem_singleton.mp h)
  refine I.step hbo (a.make (fun v hv => hv) h24 kUp_eq (kUp_ne (by decide))) (lRel_make I.2.1 o1) (List.append_nil bo).symm gg (fun j _ => tMake_5) ⟨?_, ?_, ?_, ?_⟩ (yC.set hk hj (by omega)) (yz_set hb I.2.2.2.2)
  · dsimp only
    rw [kUp_ne (by decide), kUp_ne (by decide)]
    exact o1
  · dsimp only
    rw [openL_fall]
    have p : (vl ++ (vr ++ [sc 6]) ++ openL rs).Perm (sc 6 :: (vl ++ vr ++ openL rs)) := by
      rw [← List.append_assoc, List.append_assoc (vl ++ vr), List.singleton_append]
      exact List.perm_middle
    refine p.nodup_iff.mpr (List.nodup_cons.mpr ⟨fun hm2 => ?_, o2⟩)
    rcases List.mem_append.mp hm2 with h | h
    · rcases List.mem_append.mp h with h | h
      · exact fresh _ (il _ h) rfl
      · exact fresh _ (ir _ h) rfl
    · exact fresh _ (io _ h) rfl
  · rintro i ⟨g1, g2, g3, g4⟩
    dsimp only at g1 g2 g3 g4
    rw [kUp_eq, e1] at g1
    rw [openL_fall] at g4
    have hi : i ≠ lo.length := by
      intro e
      apply g3
      rw [e, ← hm]
      exact List.mem_append_right _ (List.mem_singleton.mpr rfl)
    rw [tMake_5]
    dsimp only
    rw [kUp_ne (by decide)]
    exact o3 i ⟨by dsimp only; rw [e0]; omega, g2, fun h => g3 (List.mem_append_left _ h), g4⟩
  · dsimp only
    rw [kUp_ne (by decide)]
    intro v hv
    obtain ⟨i, e, hg⟩ := o4 v hv
    exact ⟨i, e, gg i hg⟩
/-- a loop is taken off the left needle, into the work -/
theorem INV.pop {wl : List Int32} {i : Nat} (hil : i < lo.length) (I : INV nb jo lo bo pa ps (wl ++ [Int32.ofNat i], vr, rs, ya, sc) T h) (hlo : lo.length < 19998) (hbo : bo.length < 2 ^ 31) : INV nb jo lo bo pa ps (wl, vr, rs, ya, sc) (kUp T (i * 6 + 5) 2) h := by
  have hm : sc 6 = Int32.ofNat lo.length := I.made
  have a := I.1
  have ok := I.2.2.2.1 _ (List.mem_append_right _ (List.mem_singleton.mpr rfl))
  obtain ⟨o1, o2, o3, o4⟩ := ok
  dsimp only at o1 o2
  have e0 : (sc 6).toNatClampNeg = lo.length := by rw [hm, i_nat (by omega)]
  have st := a.2.1
  obtain ⟨s0, h24, il, ir, -, -, ib⟩ := st
  dsimp only at il h24
  have gj : ∀ j, gone (wl ++ [Int32.ofNat i], vr, rs, ya, sc) j → j ≠ i := by
    rintro j ⟨g1, g2, -, -⟩ rfl
    exact g2 (List.mem_append_right _ (List.mem_singleton.mpr rfl))
  refine I.step hbo (a.move (fun v hv => Or.inl (List.mem_append_left _ hv)) (fun v hv => Or.inr hv) (by simp at h24; omega) rfl rfl) ?_ (List.append_nil bo).symm ?_ ?_ ⟨o1, ?_, ?_, ?_⟩ yC.refl I.2.2.2.2
  · intro k f hf
    have := I.2.1 k f hf
    rw [kUp_ne (by omega), kUp_ne (by omega), kUp_ne (by omega), kUp_ne (by omega), kUp_ne (by omega)]
    exact this
  · rintro j ⟨g1, g2, g3, g4⟩
    exact ⟨g1, fun h => g2 (List.mem_append_left _ h), g3, g4⟩
  · intro j hg
    exact kUp_ne (by have := gj j hg; omega)
  · refine List.Nodup.sublist ?_ o2
    dsimp only
    rw [List.append_assoc, List.append_assoc]
    exact List.Sublist.append (List.sublist_append_left _ _) (List.Sublist.refl _)
  · rintro j ⟨g1, g2, g3, g4⟩
    dsimp only at g1 g2 g3 g4 ⊢
    by_cases e : j = i
    · subst e
      rw [kUp_eq, bAt_neg]
      intro hv
      obtain ⟨k, e, hk⟩ := o4 _ hv
      have hkk : k < 2 ^ 31 := by have := hk.1; dsimp only at this; omega
      have := (i_eq (show j < 2 ^ 31 by omega) hkk).mp e
      exact gj k hk this.symm
    · rw [kUp_ne (by omega)]
      refine o3 j ⟨g1, ?_, g3, g4⟩
      intro hm2
      rcases List.mem_append.mp hm2 with h | h
      · exact g2 h
      · exact ofNat_ne (by omega) (by omega) e (List.mem_singleton.mp h)
  · intro v hv
    obtain ⟨k, e, hg⟩ := o4 v hv
    obtain ⟨g1, g2, g3, g4⟩ := hg
    exact ⟨k, e, g1, fun h => g2 (List.mem_append_left _ h), g3, g4⟩
/-- loops change places on the needles, the needles too; of a row and side that fit -/
theorem INV.perm {vl' vr' : List Int32} {sc' : Nat → Int32} (I : INV nb jo lo bo pa ps (vl, vr, rs, ya, sc) T h) (hbo : bo.length < 2 ^ 31) (hp : (vl' ++ vr').Perm (vl ++ vr)) (h45 : sc' 4 = sc' 5 &&& 1) (h6 : sc' 6 = sc 6) (h7 : sc' 7 = sc 7) : INV nb jo lo bo pa ps (vl', vr', rs, ya, sc') T h := by
  have a := I.1
  have ok := I.2.2.2.1 _ (List.mem_append_right _ (List.mem_singleton.mpr rfl))
  obtain ⟨o1, o2, o3, o4⟩ := ok
  dsimp only at o1 o2
  have h24 := a.2.1.2.1
  dsimp only at h24
  have hl := hp.length_eq
  rw [List.length_append, List.length_append] at hl
  have mem : ∀ v, v ∈ vl' ∨ v ∈ vr' ↔ v ∈ vl ∨ v ∈ vr := by
    intro v
    rw [← List.mem_append, ← List.mem_append]
    exact hp.mem_iff
  have gi : ∀ j, gone (vl', vr', rs, ya, sc') j ↔ gone (vl, vr, rs, ya, sc) j := by
    intro j
    unfold gone
    dsimp only
    rw [h6]
    have := mem (Int32.ofNat j)
    constructor
    · rintro ⟨g1, g2, g3, g4⟩
      exact ⟨g1, fun z => (this.mpr (Or.inl z)).elim g2 g3, fun z => (this.mpr (Or.inr z)).elim g2 g3, g4⟩
    · rintro ⟨g1, g2, g3, g4⟩
      exact ⟨g1, fun z => (this.mp (Or.inl z)).elim g2 g3, fun z => (this.mp (Or.inr z)).elim g2 g3, g4⟩
  refine I.step hbo (a.move (fun v hv => (mem v).mp (Or.inl hv)) (fun v hv => (mem v).mp (Or.inr hv)) (by omega) h6 h7) I.2.1 (List.append_nil bo).symm (fun j hj => (gi j).mpr hj) (fun _ _ => rfl) ⟨h45, ?_, ?_, ?_⟩ yC.refl I.2.2.2.2
  · exact (List.Perm.append_right _ hp).nodup_iff.mpr o2
  · intro i hi
    dsimp only
    rw [h7]
    exact o3 i ((gi i).mp hi)
  · dsimp only
    rw [h7]
    intro v hv
    obtain ⟨i, e, hg⟩ := o4 v hv
    exact ⟨i, e, (gi i).mpr hg⟩
/-- a number of the state changes that nothing here speaks of -/
theorem INV.num {k : Nat} {x : Int32} (I : INV nb jo lo bo pa ps (vl, vr, rs, ya, sc) T h) (hbo : bo.length < 2 ^ 31) (hk : k = 8 ∨ k = 9 ∨ k = 10) : INV nb jo lo bo pa ps (vl, vr, rs, ya, kUp sc k x) T h := by
  have o1 := (I.2.2.2.1 _ (List.mem_append_right _ (List.mem_singleton.mpr rfl))).1
  refine I.perm hbo (List.Perm.refl _) ?_ (kUp_ne (by omega)) (kUp_ne (by omega))
  rw [kUp_ne (by omega), kUp_ne (by omega)]
  exact o1
/-- yarn alone is spent -/
theorem INV.spend {b : Nat} {x : Int32} (I : INV nb jo lo bo pa ps (vl, vr, rs, ya, sc) T h) (hk : kept jo ps h) (hbo : bo.length < 2 ^ 31) (hj : jo = Int32.ofNat b) (hb : b < nb) : INV nb jo lo bo pa ps (vl, vr, rs, ya.set b x, sc) T h := by
  have hnb := I.nb4
  exact I.step hbo I.1.yarn I.2.1 (List.append_nil bo).symm (fun j hj => hj) (fun _ _ => rfl) (I.2.2.2.1 (vl, vr, rs, ya, sc) (List.mem_append_right _ (List.mem_singleton.mpr rfl))) (yC.set hk hj (by omega)) (yz_set hb I.2.2.2.2)
theorem eraseIdx_split {α : Type} {l : List α} {p : Nat} {x : α} (hp : l[p]? = some x) : ∃ A B, l = A ++ x :: B ∧ A.length = p ∧ l.eraseIdx p = A ++ B := by
  obtain ⟨h1, h2⟩ := List.getElem?_eq_some_iff.mp hp
  refine ⟨l.take p, l.drop (p + 1), ?_, by rw [List.length_take]; omega, List.eraseIdx_eq_take_drop_succ ..⟩
  rw [← h2, ← List.drop_eq_getElem_cons h1, List.take_append_drop]
/-- a loop of the right needle is bound off -/
theorem INV.bind {p i : Nat} (I : INV nb jo lo bo pa ps (vl, vr, rs, ya, sc) T h) (hlo : lo.length < 19998) (hbo : bo.length + 1 < 2 ^ 31) (hil : i < lo.length) (hp : vr[p]? = some (Int32.ofNat i)) : INV nb jo lo (bo ++ [Int32.ofNat i]) pa ps (vl, vr.eraseIdx p, rs, ya, kUp sc 7 (sc 7 + 1)) (kUp T (i * 6 + 5) 3) h := by
  have hm : sc 6 = Int32.ofNat lo.length := I.made
  have hbn : sc 7 = Int32.ofNat bo.length := I.bnd
  have a := I.1
  have ok := I.2.2.2.1 _ (List.mem_append_right _ (List.mem_singleton.mpr rfl))
  obtain ⟨o1, o2, o3, o4⟩ := ok
  dsimp only at o1 o2
  have e0 : (sc 6).toNatClampNeg = lo.length := by rw [hm, i_nat (by omega)]
  have e7 : (sc 7).toNatClampNeg = bo.length := by rw [hbn, i_nat (by omega)]
  have e8 : (sc 7 + 1).toNatClampNeg = bo.length + 1 := by rw [hbn, i_add1, i_nat (by omega)]
  obtain ⟨A, B, rfl, -, eAB⟩ := eraseIdx_split hp
  have ab : aInv nb (gJ nb jo) lo (bo ++ [Int32.ofNat i]) pa ps (vl, (A ++ Int32.ofNat i :: B).eraseIdx p, rs, ya, kUp sc 7 (sc 7 + 1)) := a.bind
  rw [eAB] at ab ⊢
  have memv : Int32.ofNat i ∈ A ++ Int32.ofNat i :: B := List.mem_append_right _ List.mem_cons_self
  have gj : ∀ j, gone (vl, A ++ Int32.ofNat i :: B, rs, ya, sc) j → j ≠ i := by
    rintro j ⟨-, -, g3, -⟩ rfl
    exact g3 memv
  have pm : (vl ++ (A ++ Int32.ofNat i :: B) ++ openL rs).Perm (Int32.ofNat i :: (vl ++ (A ++ B) ++ openL rs)) := by
    have p1 : (A ++ Int32.ofNat i :: B).Perm (Int32.ofNat i :: (A ++ B)) := List.perm_middle
    have p2 := (List.Perm.append_left vl p1).trans List.perm_middle
    exact List.Perm.append_right _ p2
  have nd := List.nodup_cons.mp (pm.nodup_iff.mp o2)
  have gg : ∀ j, gone (vl, A ++ Int32.ofNat i :: B, rs, ya, sc) j → gone (vl, A ++ B, rs, ya, kUp sc 7 (sc 7 + 1)) j := by
    rintro j ⟨g1, g2, g3, g4⟩
    refine ⟨by dsimp only; rw [kUp_ne (by decide)]; exact g1, g2, fun hm2 => g3 ?_, g4⟩
    rcases List.mem_append.mp hm2 with h | h
    · exact List.mem_append_left _ h
    · exact List.mem_append_right _ (List.mem_cons_of_mem _ h)
  have gi : gone (vl, A ++ B, rs, ya, kUp sc 7 (sc 7 + 1)) i := by
    refine ⟨by dsimp only; rw [kUp_ne (by decide), e0]; exact hil, fun z => nd.1 (List.mem_append_left _ (List.mem_append_left _ z)), fun z => nd.1 (List.mem_append_left _ (List.mem_append_right _ z)), fun z => nd.1 (List.mem_append_right _ z)⟩
  have et : (bo ++ [Int32.ofNat i]).take (bo.length + 1) = bo ++ [Int32.ofNat i] := List.take_of_length_le (by simp)
  have eb : bo.take bo.length = bo := List.take_of_length_le (Nat.le_refl _)
  rw [e7] at o3 o4
  rw [eb] at o4
  refine I.step (by omega) ab ?_ rfl gg (fun j hg => kUp_ne (by have := gj j hg; omega)) ⟨?_, nd.2, ?_, ?_⟩ yC.refl I.2.2.2.2
  · intro k f hf
    have := I.2.1 k f hf
    rw [kUp_ne (by omega), kUp_ne (by omega), kUp_ne (by omega), kUp_ne (by omega), kUp_ne (by omega)]
    exact this
  · dsimp only
    rw [kUp_ne (by decide), kUp_ne (by decide)]
    exact o1
  · intro j hg
    dsimp only
    rw [kUp_eq (f := sc), e8]
    by_cases e : j = i
    · subst e
      rw [kUp_eq, bAt_pos (by rw [et]; exact List.mem_append_right _ (List.mem_singleton.mpr rfl))]
    · obtain ⟨g1, g2, g3, g4⟩ := hg
      dsimp only at g1 g2 g3 g4
      rw [kUp_ne (by decide)] at g1
      have hjl : j < lo.length := by rw [e0] at g1; exact g1
      have hne : Int32.ofNat j ≠ Int32.ofNat i := ofNat_ne (by omega) (by omega) e
      rw [kUp_ne (by omega), o3 j ⟨g1, g2, ?_, g4⟩]
      · by_cases hm2 : Int32.ofNat j ∈ bo
        · rw [bAt_pos (by rw [eb]; exact hm2), bAt_pos (by rw [et]; exact List.mem_append_left _ hm2)]
        · rw [bAt_neg (by rw [eb]; exact hm2), bAt_neg]
          rw [et]
          intro z
          rcases List.mem_append.mp z with h | h
          · exact hm2 h
          · exact hne (List.mem_singleton.mp h)
      · intro z
        rcases List.mem_append.mp z with h | h
        · exact g3 (List.mem_append_left _ h)
        · rcases List.mem_cons.mp h with h | h
          · exact hne h
          · exact g3 (List.mem_append_right _ h)
  · dsimp only
    rw [kUp_eq, e8, et]
    intro v hv
    rcases List.mem_append.mp hv with h | h
    · obtain ⟨k, e, hg⟩ := o4 v h
      exact ⟨k, e, gg k hg⟩
    · exact ⟨i, List.mem_singleton.mp h, gi⟩
end EH
