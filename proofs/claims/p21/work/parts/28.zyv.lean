/-! ===== the contents: yarn is never less than nothing; a run is open or not ===== -/
def wOk (s : aS) : Prop := yNN s.2.2.2.1 ∧ ∀ z ∈ s.2.2.1, z.getD 3 0 = 0 ∨ z.getD 3 0 = 1
def cOk (c : aC) : Prop := wOk c.2.2.2.2.2.2 ∧ ∀ s ∈ c.2.2.2.2.2.1, wOk s
section EW
variable {nb b n i : Nat} {jo x y v k : Int32} {lo : List kLf} {bo pa vl vr ya : List Int32} {ps : List aS} {rs : List (List Int32)} {sc : Nat → Int32} {st : aS} {w : aW}
theorem yNN_set (h : yNN ya) (hv : 0 ≤ v) : yNN (ya.set i v) := by
  intro j
  rw [List.getD_eq_getElem?_getD, List.getElem?_set]
  split
  · split
    · exact hv
    · exact Int32.le_refl 0
  · have := h j
    rw [List.getD_eq_getElem?_getD] at this
    exact this
theorem y_ge0 (hk : 0 ≤ k) (h : ¬ y < k) : 0 ≤ y - k := by
  have e0 : (0 : Int32).toInt = 0 := by decide
  have h1 := Int32.toInt_lt y
  rw [Int32.le_iff_toInt_le] at hk ⊢
  rw [Int32.lt_iff_toInt_lt] at h
  rw [Int32.toInt_sub, Int.bmod_eq_of_le (by omega) (by omega)]
  omega
theorem y_geS {a c : Nat} (ha : a + c < 2 ^ 31) (h : ¬ y < Int32.ofNat (a + c)) : ¬ (y - Int32.ofNat a) < Int32.ofNat c := by
  have h1 := Int32.toInt_lt y
  rw [Int32.lt_iff_toInt_lt, i_toI ha] at h
  rw [Int32.lt_iff_toInt_lt, Int32.toInt_sub, i_toI (by omega), i_toI (by omega), Int.bmod_eq_of_le (by omega) (by omega)]
  omega
theorem y_geL {a c : Nat} (ha : a + c < 2 ^ 31) (h : ¬ y < Int32.ofNat (a + c)) : ¬ y < Int32.ofNat a := by
  rw [Int32.lt_iff_toInt_lt, i_toI ha] at h
  rw [Int32.lt_iff_toInt_lt, i_toI (by omega)]
  omega
theorem bY_get (hj : jo = Int32.ofNat b) (hb : b < 4) : bY jo ya = ya.getD jo.toNatClampNeg 0 := by
  unfold bY
  rw [if_neg (by rw [hj]; exact id_ne hb (by decide))]
theorem fall_ok (h : ∀ z ∈ rs, z.getD 3 0 = 0 ∨ z.getD 3 0 = 1) : ∀ z ∈ rs.map kFall, z.getD 3 0 = 0 ∨ z.getD 3 0 = 1 := by
  intro z hz
  obtain ⟨u, hu, rfl⟩ := List.mem_map.mp hz
  rw [kFall_3]
  exact h u hu
theorem zMake_ok {k1 k2 k3 k4 : Int32} (hj : jo = Int32.ofNat b) (hb : b < 4) (h : wOk (vl, vr, rs, ya, sc)) (hk : 0 ≤ k4) (hy : ¬ bY jo ya < k4) : wOk (zMake jo k1 k2 k3 k4 (lo, bo, (vl, vr, rs, ya, sc))).2.2 := by
  rw [bY_get hj hb] at hy
  exact ⟨yNN_set h.1 (y_ge0 hk hy), fall_ok h.2⟩
theorem zWork_ok {kk : Int32} (hj : jo = Int32.ofNat b) (hb : b < 4) (h : wOk w.2.2) (hy : ¬ bY jo w.2.2.2.2.2.1 < 4) : wOk (zWork jo kk w).2.2 := by
  obtain ⟨lo, bo, vl, vr, rs, ya, sc⟩ := w
  exact zMake_ok (vl := vl.dropLast) hj hb h (by decide) hy
theorem zOver_ok (hj : jo = Int32.ofNat b) (hb : b < 4) (h : wOk w.2.2) (hy : ¬ bY jo w.2.2.2.2.2.1 < 3) : wOk (zOver jo w).2.2 := by
  obtain ⟨lo, bo, vl, vr, rs, ya, sc⟩ := w
  exact zMake_ok (vl := vl) (sc := kUp sc 8 (sc 8 + 1)) hj hb h (by decide) hy
theorem zTog_ok {kk : Int32} (hj : jo = Int32.ofNat b) (hb : b < 4) (h : wOk w.2.2) (hy : ¬ bY jo w.2.2.2.2.2.1 < 5) : wOk (zTog jo n kk w).2.2 := by
  obtain ⟨lo, bo, vl, vr, rs, ya, sc⟩ := w
  exact zMake_ok (vl := vl.take (vl.length - n)) hj hb h (by decide) hy
theorem cast_ok (hj : jo = Int32.ofNat b) (hb : b < 4) : ∀ (j : Nat) (w : aW), j ≤ 24 → w.2.2.2.2.2.1.length = 4 → wOk w.2.2 → ¬ bY jo w.2.2.2.2.2.1 < Int32.ofNat (2 * j) → wOk (zIter (zMake jo 0 1 0 2) j w).2.2 := by
  intro j
  induction j with
  | zero => intro w _ _ h _; exact h
  | succ j ih =>
    intro w hj24 h4 h hy
    obtain ⟨lo, bo, vl, vr, rs, ya, sc⟩ := w
    have e2 : Int32.ofNat 2 = 2 := rfl
    have hy' : ¬ bY jo ya < Int32.ofNat (2 + 2 * j) := by rw [show 2 + 2 * j = 2 * (j + 1) by omega]; exact hy
    have h1 := zMake_ok (lo := lo) (bo := bo) (k1 := 0) (k2 := 1) (k3 := 0) (k4 := 2) hj hb h (by decide) (y_geL (a := 2) (c := 2 * j) (by omega) hy')
    refine ih (zMake jo 0 1 0 2 (lo, bo, (vl, vr, rs, ya, sc))) (by omega) ?_ h1 ?_
    · show (ya.set _ _).length = 4
      rw [List.length_set]
      exact h4
    · show ¬ bY jo (ya.set jo.toNatClampNeg (ya.getD jo.toNatClampNeg 0 - 2)) < Int32.ofNat (2 * j)
      rw [bY_set hj hb h4]
      exact y_geS (a := 2) (by omega) hy'
theorem zStep_ok {s : Nat} (h1 : 1 ≤ s) (h9 : s ≤ 9) (h4 : w.2.2.2.2.2.1.length = 4) (hw : aWant s ≤ w.2.2.1.length) (hb : aTake s = 0 ∨ ∃ b : Nat, jo = Int32.ofNat b ∧ b < 4) (hy : aTake s = 0 ∨ ¬ bY jo w.2.2.2.2.2.1 < Int32.ofNat (aTake s)) (h : wOk w.2.2) : wOk (zStep jo s w).2.2 := by
  rcases (show s = 1 ∨ s = 2 ∨ s = 3 ∨ s = 4 ∨ s = 5 ∨ s = 6 ∨ s = 7 ∨ s = 8 ∨ s = 9 by omega) with rfl | rfl | rfl | rfl | rfl | rfl | rfl | rfl | rfl
  · obtain ⟨b, hj, hb⟩ := hb.resolve_left (by decide)
    exact zWork_ok (kk := 1) hj hb h (hy.resolve_left (by decide))
  · obtain ⟨b, hj, hb⟩ := hb.resolve_left (by decide)
    exact zWork_ok (kk := 2) hj hb h (hy.resolve_left (by decide))
  · obtain ⟨b, hj, hb⟩ := hb.resolve_left (by decide)
    exact zOver_ok hj hb h (hy.resolve_left (by decide))
  · obtain ⟨b, hj, hb⟩ := hb.resolve_left (by decide)
    exact zTog_ok (n := 2) (kk := 4) hj hb h (hy.resolve_left (by decide))
  · obtain ⟨b, hj, hb⟩ := hb.resolve_left (by decide)
    exact zTog_ok (n := 2) (kk := 5) hj hb h (hy.resolve_left (by decide))
  · obtain ⟨lo, bo, vl, vr, rs, ya, sc⟩ := w
    exact h
  · obtain ⟨lo, bo, vl, vr, rs, ya, sc⟩ := w
    exact h
  · obtain ⟨b, hj, hb⟩ := hb.resolve_left (by decide)
    exact zTog_ok (n := 3) (kk := 4) hj hb h (hy.resolve_left (by decide))
  · obtain ⟨b, hj, hb⟩ := hb.resolve_left (by decide)
    have hw : 2 ≤ w.2.2.1.length := hw
    have hy : ¬ bY jo w.2.2.2.2.2.1 < Int32.ofNat (4 + (3 + 4)) := hy.resolve_left (by decide)
    obtain ⟨a1, a2, a3, a4, a5, a6⟩ := zNum_work (kk := 1) (w := w) hj hb h4 (by omega)
    obtain ⟨b1, b2, b3, b4, b5, b6⟩ := zNum_over (w := zWork jo 1 w) hj hb a5
    have y1 := y_geL (by decide) hy
    have y2 := y_geS (by decide) hy
    have y3 := y_geL (by decide) y2
    have y4 := y_geS (by decide) y2
    have o1 := zWork_ok (kk := 1) hj hb h y1
    have o2 := zOver_ok (w := zWork jo 1 w) hj hb o1 (by rw [a6]; exact y3)
    exact zWork_ok (kk := 1) (w := zOver jo (zWork jo 1 w)) hj hb o2 (by rw [b6, a6]; exact y4)
theorem follow_ok {m : Nat} (hj : jOk nb jo) (hn4 : nb ≤ 4) (h1 : 1 ≤ m) (h2 : m ≤ 999999999) (nz : aNz m) (hx : x.toNatClampNeg = m) : ∀ (j d : Nat) (w : aW), w.2.2.2.2.2.1.length = 4 → wOk w.2.2 → wOk (zFollow jo x j d w).2.2.2 := by
  intro j
  induction j with
  | zero => intro d w _ h; exact h
  | succ j ih =>
    intro d w h4 h
    obtain ⟨d1, d9⟩ := pDg_ok (i := d) h1 h2 nz
    unfold zFollow
    rw [hx, zCan_y hj d1 d9]
    split
    · exact h
    · split
      · rename_i g gc
        obtain ⟨z1, z2, z3⟩ := zCan_all gc
        have hb : aTake (pDg m (d % pLen m)) = 0 ∨ ∃ b : Nat, jo = Int32.ofNat b ∧ b < 4 := by
          rcases zBall (y := 0) hj hn4 d1 d9 z2 with h | ⟨b, h, hb⟩
          · exact Or.inl h
          · exact Or.inr ⟨b, h, by omega⟩
        obtain ⟨n1, n2, n3, n4, n5, n6⟩ := zStep_num (w := w) d1 d9 z1 hb h4
        exact ih (d + 1) _ (by omega) (zStep_ok d1 d9 h4 z1 hb z2 h)
      · exact h
theorem bind_ok : ∀ (j : Nat) (w : aW), wOk w.2.2 → wOk (zIter zBind1 j w).2.2 := by
  intro j
  induction j with
  | zero => intro w h; exact h
  | succ j ih =>
    intro w h
    obtain ⟨lo, bo, vl, vr, rs, ya, sc⟩ := w
    exact ih (zBind1 (lo, bo, (vl, vr, rs, ya, sc))) h
theorem keep_ok (h : cOk (nb, jo, lo, bo, pa, ps, st)) : ∀ s ∈ pKeep ps st, wOk s := by
  intro s hs
  unfold pKeep at hs
  rcases List.mem_append.mp hs with hs | hs
  · split at hs
    · exact h.2 s (List.mem_of_mem_drop hs)
    · exact h.2 s hs
  · rw [List.mem_singleton.mp hs]
    exact h.1
/-! by calls -/
theorem ok_buy (h : cOk (nb, jo, lo, bo, pa, ps, st)) : cOk (spBuy x (nb, jo, lo, bo, pa, ps, st)).2.2 := by
  unfold spBuy
  dsimp only
  split
  · exact h
  · rename_i g
    split
    · exact h
    · have hx : 0 ≤ x := Int32.not_lt.mp fun z => g (Or.inl (Int32.lt_trans z (by decide)))
      have one : ∀ s : aS, wOk s → wOk (aSetY nb x s) := fun s hs => ⟨yNN_set hs.1 hx, hs.2⟩
      refine ⟨one _ h.1, fun s hs => ?_⟩
      obtain ⟨u, hu, rfl⟩ := List.mem_map.mp hs
      exact one u (h.2 u hu)
theorem ok_join (h : cOk (nb, jo, lo, bo, pa, ps, st)) : cOk (spJoin x (nb, jo, lo, bo, pa, ps, st)).2.2 := by
  unfold spJoin
  dsimp only
  split
  · exact h
  · exact h
theorem ok_cast (hj : jOk nb jo) (hn4 : nb ≤ 4) (h4 : ya.length = 4) (h : cOk (nb, jo, lo, bo, pa, ps, (vl, vr, rs, ya, sc))) : cOk (spCast x (nb, jo, lo, bo, pa, ps, (vl, vr, rs, ya, sc))).2.2 := by
  unfold spCast
  dsimp only
  split
  · exact h
  · rename_i g1
    split
    · exact h
    · rename_i g2
      refine ⟨?_, keep_ok h⟩
      obtain ⟨m, hm1, hm2, rfl⟩ := i_rng (n := 24) (by decide) (fun z => g1 (Or.inl z)) (fun z => g1 (Or.inr z))
      have e2 : (2 : Int32) * Int32.ofNat m = Int32.ofNat (2 * m) := i_mul (a := 2)
      have gy : ¬ aYn jo ya < Int32.ofNat (2 * m) := fun z => g2 (Or.inl (by rw [e2]; exact z))
      have p : 0 < Int32.ofNat (2 * m) := (i_lt (a := 0) (by decide) (by omega)).mpr (by omega)
      obtain ⟨b, hjb, hb⟩ := some_ball hj (Int32.le_of_lt p) gy
      have en : (Int32.ofNat m).toNatClampNeg = m := i_nat (by omega)
      rw [en]
      exact cast_ok hjb (by omega) m _ hm2 h4 h.1 (fun z => gy ((bY_lt hj p).mp z))
theorem ok_work (hj : jOk nb jo) (hn4 : nb ≤ 4) (h : cOk (nb, jo, lo, bo, pa, ps, (vl, vr, rs, ya, sc))) : cOk (spWork x (nb, jo, lo, bo, pa, ps, (vl, vr, rs, ya, sc))).2.2 := by
  unfold spWork
  dsimp only
  split
  · exact h
  · rename_i g
    have gy : ¬ aYn jo ya < 4 := fun z => g (Or.inr z)
    obtain ⟨b, hjb, hb⟩ := some_ball hj (by decide) gy
    have o := zWork_ok (w := (lo, bo, (vl, vr, rs, ya, sc))) (kk := if x = 0 then 1 else 2) hjb (by omega) h.1 (fun z => gy ((bY_lt hj (by decide)).mp z))
    exact ⟨o, keep_ok h⟩
theorem ok_over (hj : jOk nb jo) (hn4 : nb ≤ 4) (h : cOk (nb, jo, lo, bo, pa, ps, (vl, vr, rs, ya, sc))) : cOk (spOver (nb, jo, lo, bo, pa, ps, (vl, vr, rs, ya, sc))).2.2 := by
  unfold spOver
  dsimp only
  split
  · exact h
  · rename_i g
    have gy : ¬ aYn jo ya < 3 := fun z => g (Or.inr z)
    obtain ⟨b, hjb, hb⟩ := some_ball hj (by decide) gy
    have o := zOver_ok (w := (lo, bo, (vl, vr, rs, ya, sc))) hjb (by omega) h.1 (fun z => gy ((bY_lt hj (by decide)).mp z))
    exact ⟨o, keep_ok h⟩
theorem ok_together (hj : jOk nb jo) (hn4 : nb ≤ 4) (h : cOk (nb, jo, lo, bo, pa, ps, (vl, vr, rs, ya, sc))) : cOk (spTog x y (nb, jo, lo, bo, pa, ps, (vl, vr, rs, ya, sc))).2.2 := by
  unfold spTog
  dsimp only
  split
  · exact h
  · split
    · exact h
    · rename_i g
      have gy : ¬ aYn jo ya < 5 := fun z => g (Or.inr z)
      obtain ⟨b, hjb, hb⟩ := some_ball hj (by decide) gy
      have o := zTog_ok (w := (lo, bo, (vl, vr, rs, ya, sc))) (n := x.toNatClampNeg) (kk := if y = 0 then 4 else 5) hjb (by omega) h.1 (fun z => gy ((bY_lt hj (by decide)).mp z))
      exact ⟨o, keep_ok h⟩
theorem ok_slip (h : cOk (nb, jo, lo, bo, pa, ps, (vl, vr, rs, ya, sc))) : cOk (spSlip (nb, jo, lo, bo, pa, ps, (vl, vr, rs, ya, sc))).2.2 := by
  unfold spSlip
  dsimp only
  split
  · exact h
  · exact ⟨h.1, keep_ok h⟩
theorem ok_cross (h : cOk (nb, jo, lo, bo, pa, ps, (vl, vr, rs, ya, sc))) : cOk (spCross x y (nb, jo, lo, bo, pa, ps, (vl, vr, rs, ya, sc))).2.2 := by
  unfold spCross
  dsimp only
  split
  · exact h
  · split
    · exact h
    · exact ⟨h.1, keep_ok h⟩
theorem ok_turn (h : cOk (nb, jo, lo, bo, pa, ps, (vl, vr, rs, ya, sc))) : cOk (spTurn (nb, jo, lo, bo, pa, ps, (vl, vr, rs, ya, sc))).2.2 := by
  unfold spTurn
  dsimp only
  split
  · exact h
  · exact ⟨h.1, keep_ok h⟩
theorem ok_bind (hj : jOk nb jo) (hn4 : nb ≤ 4) (h : cOk (nb, jo, lo, bo, pa, ps, (vl, vr, rs, ya, sc))) : cOk (spBind x (nb, jo, lo, bo, pa, ps, (vl, vr, rs, ya, sc))).2.2 := by
  unfold spBind
  dsimp only
  split
  · exact h
  · split
    · split
      · exact h
      · rename_i g
        obtain ⟨b, hjb, hb⟩ := some_ball hj (by decide) g
        have gy : ¬ bY jo ya < 6 := fun z => g ((bY_lt hj (by decide)).mp z)
        rw [bY_get hjb (by omega)] at gy
        exact ⟨bind_ok _ _ ⟨yNN_set h.1.1 (y_ge0 (by decide) gy), h.1.2⟩, keep_ok h⟩
    · split
      · exact h
      · exact ⟨bind_ok _ _ h.1, keep_ok h⟩
theorem ok_drop (h : cOk (nb, jo, lo, bo, pa, ps, (vl, vr, rs, ya, sc))) : cOk (spDrop (nb, jo, lo, bo, pa, ps, (vl, vr, rs, ya, sc))).2.2 := by
  unfold spDrop
  dsimp only
  split
  · exact h
  · refine ⟨⟨h.1.1, fun z hz => ?_⟩, keep_ok h⟩
    rcases List.mem_append.mp hz with hz | hz
    · exact h.1.2 z hz
    · rw [List.mem_singleton.mp hz]
      exact Or.inr rfl
theorem ok_latch (h : cOk (nb, jo, lo, bo, pa, ps, (vl, vr, rs, ya, sc))) : cOk (spLatch x (nb, jo, lo, bo, pa, ps, (vl, vr, rs, ya, sc))).2.2 := by
  unfold spLatch
  dsimp only
  split
  · exact h
  · split
    · exact h
    · refine ⟨⟨h.1.1, fun z hz => ?_⟩, keep_ok h⟩
      rcases List.mem_or_eq_of_mem_set hz with hz | rfl
      · exact h.1.2 z hz
      · refine Or.inl ?_
        rw [List.getD_eq_getElem?_getD, List.getElem?_set, if_pos rfl]
        split
        · rfl
        · rfl
theorem ok_pattern (h : cOk (nb, jo, lo, bo, pa, ps, st)) : cOk (spPattern x (nb, jo, lo, bo, pa, ps, st)).2.2 := by
  unfold spPattern
  dsimp only
  split
  · exact h
  · split
    · exact h
    · exact h
theorem ok_follow (hj : jOk nb jo) (hn4 : nb ≤ 4) (h4 : ya.length = 4) (hp : ∀ v ∈ pa, aPat v) (hl : pa.length < 2 ^ 31) (h : cOk (nb, jo, lo, bo, pa, ps, (vl, vr, rs, ya, sc))) : cOk (spFollow x (nb, jo, lo, bo, pa, ps, (vl, vr, rs, ya, sc))).2.2 := by
  unfold spFollow
  dsimp only
  split
  · exact h
  · rename_i g
    split
    · exact h
    · refine ⟨?_, keep_ok h⟩
      have g1 : ¬ x < 0 := fun z => g (Or.inl z)
      have g2 : x < Int32.ofNat pa.length := Classical.byContradiction fun z => g (Or.inr z)
      obtain ⟨ex, lx⟩ := i_of (Int32.not_lt.mp g1)
      rw [ex] at g2
      have hpl := (i_lt lx hl).mp g2
      obtain ⟨m, em, h1, h2, nz⟩ := hp _ (List.getElem_mem hpl)
      have hpd : pa.getD x.toNatClampNeg 0 = Int32.ofNat m := by rw [List.getD_eq_getElem?_getD, List.getElem?_eq_getElem hpl, em]; rfl
      rw [hpd]
      exact follow_ok hj hn4 h1 h2 nz (i_nat (by omega)) 99 0 _ h4 h.1
theorem ok_undo (h : cOk (nb, jo, lo, bo, pa, ps, st)) : cOk (spUndo (nb, jo, lo, bo, pa, ps, st)).2.2 := by
  unfold spUndo
  dsimp only
  split
  · exact h
  · rename_i g
    obtain ⟨qs, s, rfl⟩ := snoc_of g
    rw [List.getLastD_concat, List.dropLast_concat]
    exact ⟨h.2 s (List.mem_append_right _ (List.mem_singleton.mpr rfl)), fun u hu => h.2 u (List.mem_append_left _ hu)⟩
end EW
