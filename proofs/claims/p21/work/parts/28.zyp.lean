/-! ===== the class's calls exactly: a step, follow ===== -/
theorem zTry_le {v : Nat} : ∀ (k d : Nat) (w : aT), (zTry v k d w).2 ≤ d + k := by
  intro k
  induction k with
  | zero => intro d w; exact Nat.le_refl _
  | succ k ih =>
    intro d w
    unfold zTry
    split
    · show d ≤ _
      omega
    · split
      · exact Nat.le_trans (ih _ _) (by omega)
      · show d ≤ _
        omega
theorem trE_weak {w : aT} {t : Nat} {e : kE} (ht99 : t ≤ 99) (h : trE w t e) : tr (fB 99) e := by
  obtain ⟨fs, h1, h2, h3⟩ := h
  refine ⟨fs, h1, h2, fun k t ht => ?_⟩
  match k, ht with
  | 0, ht =>
    cases ht
    obtain ⟨v, a1, a2⟩ := h3 0 _ rfl
    exact ⟨v, a1, _, a2⟩
  | 1, ht =>
    cases ht
    obtain ⟨v, a1, a2⟩ := h3 1 _ rfl
    exact ⟨v, a1, _, a2⟩
  | 2, ht =>
    cases ht
    obtain ⟨v, a1, a2⟩ := h3 2 _ rfl
    exact ⟨v, a1, _, a2⟩
  | 3, ht =>
    cases ht
    obtain ⟨v, a1, a2⟩ := h3 3 _ rfl
    exact ⟨v, a1, _, a2⟩
  | 4, ht =>
    cases ht
    obtain ⟨v, a1, a2⟩ := h3 4 _ rfl
    exact ⟨v, a1, t, ht99, a2⟩
theorem zMake_all (jo k1 k2 k3 k4 : Int32) (w : aW) : (zMake jo k1 k2 k3 k4 w).1.length = w.1.length + 1 ∧ (zMake jo k1 k2 k3 k4 w).2.1 = w.2.1 ∧ (zMake jo k1 k2 k3 k4 w).2.2.1 = w.2.2.1 ∧ (zMake jo k1 k2 k3 k4 w).2.2.2.1.length = w.2.2.2.1.length + 1 ∧ (zMake jo k1 k2 k3 k4 w).2.2.2.2.2.1 = w.2.2.2.2.2.1.set jo.toNatClampNeg (w.2.2.2.2.2.1.getD jo.toNatClampNeg 0 - k4) := by
  obtain ⟨lo, bo, vl, vr, rs, ya, sc⟩ := w
  refine ⟨?_, rfl, rfl, ?_, rfl⟩
  · show (lo ++ [_]).length = lo.length + 1
    rw [List.length_append, List.length_singleton]
  · show (vr ++ [_]).length = vr.length + 1
    rw [List.length_append, List.length_singleton]
/-- what a step does to the numbers: loops made, bound off, both needles, yarn -/
def zNum (jo : Int32) (u g : Nat) (t : Int32) (w w' : aW) : Prop := w'.1.length ≤ w.1.length + 3 ∧ w'.2.1 = w.2.1 ∧ w'.2.2.1.length = w.2.2.1.length - u ∧ w'.2.2.1.length + w'.2.2.2.1.length = w.2.2.1.length + w.2.2.2.1.length + g - u ∧ w'.2.2.2.2.2.1.length = w.2.2.2.2.2.1.length ∧ bY jo w'.2.2.2.2.2.1 = bY jo w.2.2.2.2.2.1 - t
theorem bY_set {jo x : Int32} {ya : List Int32} {b : Nat} (hj : jo = Int32.ofNat b) (hb : b < 4) (h4 : ya.length = 4) : bY jo (ya.set jo.toNatClampNeg (ya.getD jo.toNatClampNeg 0 - x)) = bY jo ya - x := by
  have e : jo.toNatClampNeg = b := zMake_b hj (by omega)
  have ne : ¬ jo = -1 := by
    rw [hj]
    exact id_ne hb (by omega)
  unfold bY
  rw [if_neg ne, if_neg ne, e, List.getD_eq_getElem?_getD, List.getElem?_set_self (by omega)]
  rfl
theorem zNum_work {jo kk : Int32} {w : aW} {b : Nat} (hj : jo = Int32.ofNat b) (hb : b < 4) (h4 : w.2.2.2.2.2.1.length = 4) (h1 : 1 ≤ w.2.2.1.length) : (zWork jo kk w).1.length = w.1.length + 1 ∧ (zWork jo kk w).2.1 = w.2.1 ∧ (zWork jo kk w).2.2.1.length = w.2.2.1.length - 1 ∧ (zWork jo kk w).2.2.2.1.length = w.2.2.2.1.length + 1 ∧ (zWork jo kk w).2.2.2.2.2.1.length = 4 ∧ bY jo (zWork jo kk w).2.2.2.2.2.1 = bY jo w.2.2.2.2.2.1 - 4 := by
  obtain ⟨lo, bo, vl, vr, rs, ya, sc⟩ := w
  obtain ⟨a1, a2, a3, a4, a5⟩ := zMake_all jo kk (zHeight lo (vl.getLastD 0) + 1) 1 4 (lo, bo, (vl.dropLast, vr, rs, ya, sc))
  refine ⟨a1, a2, ?_, a4, ?_, ?_⟩
  · refine (congrArg List.length a3).trans ?_
    exact List.length_dropLast
  · refine (congrArg List.length a5).trans ?_
    rw [List.length_set]
    exact h4
  · refine (congrArg (bY jo) a5).trans ?_
    exact bY_set hj hb h4
theorem zNum_over {jo : Int32} {w : aW} {b : Nat} (hj : jo = Int32.ofNat b) (hb : b < 4) (h4 : w.2.2.2.2.2.1.length = 4) : (zOver jo w).1.length = w.1.length + 1 ∧ (zOver jo w).2.1 = w.2.1 ∧ (zOver jo w).2.2.1.length = w.2.2.1.length ∧ (zOver jo w).2.2.2.1.length = w.2.2.2.1.length + 1 ∧ (zOver jo w).2.2.2.2.2.1.length = 4 ∧ bY jo (zOver jo w).2.2.2.2.2.1 = bY jo w.2.2.2.2.2.1 - 3 := by
  obtain ⟨lo, bo, vl, vr, rs, ya, sc⟩ := w
  obtain ⟨a1, a2, a3, a4, a5⟩ := zMake_all jo 3 1 0 3 (lo, bo, (vl, vr, rs, ya, kUp sc 8 (sc 8 + 1)))
  refine ⟨a1, a2, congrArg List.length a3, a4, ?_, ?_⟩
  · refine (congrArg List.length a5).trans ?_
    rw [List.length_set]
    exact h4
  · refine (congrArg (bY jo) a5).trans ?_
    exact bY_set hj hb h4
theorem zNum_tog {jo kk : Int32} {n : Nat} {w : aW} {b : Nat} (hj : jo = Int32.ofNat b) (hb : b < 4) (h4 : w.2.2.2.2.2.1.length = 4) (h1 : n ≤ w.2.2.1.length) : (zTog jo n kk w).1.length = w.1.length + 1 ∧ (zTog jo n kk w).2.1 = w.2.1 ∧ (zTog jo n kk w).2.2.1.length = w.2.2.1.length - n ∧ (zTog jo n kk w).2.2.2.1.length = w.2.2.2.1.length + 1 ∧ (zTog jo n kk w).2.2.2.2.2.1.length = 4 ∧ bY jo (zTog jo n kk w).2.2.2.2.2.1 = bY jo w.2.2.2.2.2.1 - 5 := by
  obtain ⟨lo, bo, vl, vr, rs, ya, sc⟩ := w
  obtain ⟨a1, a2, a3, a4, a5⟩ := zMake_all jo kk 1 (Int32.ofNat n) 5 (lo, bo, (vl.take (vl.length - n), vr, rs, ya, sc))
  refine ⟨a1, a2, ?_, a4, ?_, ?_⟩
  · refine (congrArg List.length a3).trans ?_
    show (vl.take (vl.length - n)).length = vl.length - n
    rw [List.length_take]
    omega
  · refine (congrArg List.length a5).trans ?_
    rw [List.length_set]
    exact h4
  · refine (congrArg (bY jo) a5).trans ?_
    exact bY_set hj hb h4
theorem zStep_num {jo : Int32} {s : Nat} {w : aW} (h1 : 1 ≤ s) (h9 : s ≤ 9) (hw : aWant s ≤ w.2.2.1.length) (hb : aTake s = 0 ∨ ∃ b : Nat, jo = Int32.ofNat b ∧ b < 4) (h4 : w.2.2.2.2.2.1.length = 4) : zNum jo (aUse s) (aGive s) (Int32.ofNat (aTake s)) w (zStep jo s w) := by
  rcases (show s = 1 ∨ s = 2 ∨ s = 3 ∨ s = 4 ∨ s = 5 ∨ s = 6 ∨ s = 7 ∨ s = 8 ∨ s = 9 by omega) with rfl | rfl | rfl | rfl | rfl | rfl | rfl | rfl | rfl
  · obtain ⟨b, hj, hb⟩ := hb.resolve_left (by decide)
    have hw : 1 ≤ w.2.2.1.length := hw
    obtain ⟨a1, a2, a3, a4, a5, a6⟩ := zNum_work (kk := 1) hj hb h4 hw
    show zNum jo 1 1 4 w (zWork jo 1 w)
    exact ⟨by omega, a2, a3, by omega, by omega, a6⟩
  · obtain ⟨b, hj, hb⟩ := hb.resolve_left (by decide)
    have hw : 1 ≤ w.2.2.1.length := hw
    obtain ⟨a1, a2, a3, a4, a5, a6⟩ := zNum_work (kk := 2) hj hb h4 hw
    show zNum jo 1 1 4 w (zWork jo 2 w)
    exact ⟨by omega, a2, a3, by omega, by omega, a6⟩
  · obtain ⟨b, hj, hb⟩ := hb.resolve_left (by decide)
    obtain ⟨a1, a2, a3, a4, a5, a6⟩ := zNum_over (w := w) hj hb h4
    show zNum jo 0 1 3 w (zOver jo w)
    exact ⟨by omega, a2, by omega, by omega, by omega, a6⟩
  · obtain ⟨b, hj, hb⟩ := hb.resolve_left (by decide)
    have hw : 2 ≤ w.2.2.1.length := hw
    obtain ⟨a1, a2, a3, a4, a5, a6⟩ := zNum_tog (kk := 4) (n := 2) hj hb h4 hw
    show zNum jo 2 1 5 w (zTog jo 2 4 w)
    exact ⟨by omega, a2, a3, by omega, by omega, a6⟩
  · obtain ⟨b, hj, hb⟩ := hb.resolve_left (by decide)
    have hw : 2 ≤ w.2.2.1.length := hw
    obtain ⟨a1, a2, a3, a4, a5, a6⟩ := zNum_tog (kk := 5) (n := 2) hj hb h4 hw
    show zNum jo 2 1 5 w (zTog jo 2 5 w)
    exact ⟨by omega, a2, a3, by omega, by omega, a6⟩
  · obtain ⟨lo, bo, vl, vr, rs, ya, sc⟩ := w
    have hw : 1 ≤ vl.length := hw
    show zNum jo 1 1 0 (lo, bo, (vl, vr, rs, ya, sc)) (lo, bo, (vl.dropLast, vr ++ [vl.getLastD 0], rs, ya, sc))
    refine ⟨by dsimp only; omega, rfl, List.length_dropLast, ?_, rfl, by dsimp only; rw [Int32.sub_zero]⟩
    dsimp only
    rw [List.length_dropLast, List.length_append, List.length_singleton]
    omega
  · obtain ⟨lo, bo, vl, vr, rs, ya, sc⟩ := w
    have hw : 2 ≤ vl.length := hw
    have e : (zCrossL 1 1 vl).length = vl.length := by
      unfold zCrossL
      simp only [List.length_append, List.length_take, List.length_drop]
      omega
    show zNum jo 0 0 0 (lo, bo, (vl, vr, rs, ya, sc)) (lo, bo, (zCrossL 1 1 vl, vr, rs, ya, kUp sc 9 (sc 9 + 1)))
    refine ⟨by dsimp only; omega, rfl, by dsimp only; omega, by dsimp only; omega, rfl, by dsimp only; rw [Int32.sub_zero]⟩
  · obtain ⟨b, hj, hb⟩ := hb.resolve_left (by decide)
    have hw : 3 ≤ w.2.2.1.length := hw
    obtain ⟨a1, a2, a3, a4, a5, a6⟩ := zNum_tog (kk := 4) (n := 3) hj hb h4 hw
    show zNum jo 3 1 5 w (zTog jo 3 4 w)
    exact ⟨by omega, a2, a3, by omega, by omega, a6⟩
  · obtain ⟨b, hj, hb⟩ := hb.resolve_left (by decide)
    have hw : 2 ≤ w.2.2.1.length := hw
    obtain ⟨a1, a2, a3, a4, a5, a6⟩ := zNum_work (kk := 1) hj hb h4 (by omega)
    obtain ⟨b1, b2, b3, b4, b5, b6⟩ := zNum_over (w := zWork jo 1 w) hj hb a5
    obtain ⟨c1, c2, c3, c4, c5, c6⟩ := zNum_work (kk := 1) (w := zOver jo (zWork jo 1 w)) hj hb b5 (by omega)
    show zNum jo 2 3 11 w (zWork jo 1 (zOver jo (zWork jo 1 w)))
    refine ⟨by omega, c2.trans (b2.trans a2), by omega, by omega, by omega, ?_⟩
    rw [c6, b6, a6, Int32.sub_eq_add_neg, Int32.sub_eq_add_neg, Int32.sub_eq_add_neg, Int32.sub_eq_add_neg, Int32.add_assoc, Int32.add_assoc]
    rfl
theorem zCan_y {nb s l a : Nat} {jo : Int32} {ya : List Int32} (hj : jOk nb jo) (h1 : 1 ≤ s) (h9 : s ≤ 9) : zCan s l a (aYn jo ya) = zCan s l a (bY jo ya) := by
  unfold zCan
  by_cases g : aTake s = 0
  · rw [decide_eq_true g, Bool.true_or, Bool.true_or]
  · have e := (aUse_le h1 h9).2.1
    have p : 0 < Int32.ofNat (aTake s) := (i_lt (a := 0) (by decide) (by omega)).mpr (by omega)
    have h2 := bY_lt (ya := ya) hj p
    by_cases z : bY jo ya < Int32.ofNat (aTake s)
    · rw [decide_eq_false (show ¬ ¬ bY jo ya < Int32.ofNat (aTake s) from fun w => w z), decide_eq_false (show ¬ ¬ aYn jo ya < Int32.ofNat (aTake s) from fun w => w (h2.mp z))]
    · rw [decide_eq_true z, decide_eq_true (show ¬ aYn jo ya < Int32.ofNat (aTake s) from fun w => z (h2.mpr w))]
theorem zBall {nb s : Nat} {jo y : Int32} {ya : List Int32} (hj : jOk nb jo) (hn4 : nb ≤ 4) (h1 : 1 ≤ s) (h9 : s ≤ 9) (h : aTake s = 0 ∨ ¬ bY jo ya < Int32.ofNat (aTake s)) : aTake s = 0 ∨ ∃ b : Nat, jo = Int32.ofNat b ∧ b < nb := by
  rcases h with h | h
  · exact Or.inl h
  · by_cases g : aTake s = 0
    · exact Or.inl g
    · have e := (aUse_le h1 h9).2.1
      have p : 0 < Int32.ofNat (aTake s) := (i_lt (a := 0) (by decide) (by omega)).mpr (by omega)
      exact Or.inr (some_ball hj (Int32.le_of_lt p) (fun w => h ((bY_lt hj p).mpr w)))
/-- the trial tells how many steps there will be -/
theorem zTry_follow {nb v : Nat} {jo x : Int32} (hj : jOk nb jo) (hn4 : nb ≤ 4) (hx : x.toNatClampNeg = v) (h1 : 1 ≤ v) (h2 : v ≤ 999999999) (nz : aNz v) : ∀ (k d : Nat) (w : aW) (e : Int32), w.2.2.2.2.2.1.length = 4 → (zTry v k d (w.2.2.1.length, w.2.2.1.length + w.2.2.2.1.length, bY jo w.2.2.2.2.2.1, e)).2 = (zFollow jo x k d w).1 := by
  intro k
  induction k with
  | zero => intro d w e h4; rfl
  | succ k ih =>
    intro d w e h4
    obtain ⟨d1, d9⟩ := pDg_ok (i := d) h1 h2 nz
    unfold zTry zFollow
    rw [hx, zCan_y hj d1 d9]
    by_cases g : w.2.2.1.length = 0
    · rw [if_pos g, if_pos g]
    · rw [if_neg g, if_neg g]
      by_cases gc : zCan (pDg v (d % pLen v)) w.2.2.1.length (w.2.2.1.length + w.2.2.2.1.length) (bY jo w.2.2.2.2.2.1) = true
      · rw [if_pos gc, if_pos gc]
        obtain ⟨z1, z2, z3⟩ := zCan_all gc
        have hb : aTake (pDg v (d % pLen v)) = 0 ∨ ∃ b : Nat, jo = Int32.ofNat b ∧ b < 4 := by
          rcases zBall (y := 0) hj hn4 d1 d9 z2 with h | ⟨b, h, hb⟩
          · exact Or.inl h
          · exact Or.inr ⟨b, h, by omega⟩
        obtain ⟨n1, n2, n3, n4, n5, n6⟩ := zStep_num (w := w) d1 d9 z1 hb h4
        rw [← ih (d + 1) (zStep jo (pDg v (d % pLen v)) w) (e + Int32.ofNat (aTake (pDg v (d % pLen v)))) (by omega), n3, n6]
        have e4 : w.2.2.1.length - aUse (pDg v (d % pLen v)) + (zStep jo (pDg v (d % pLen v)) w).2.2.2.1.length = w.2.2.1.length + w.2.2.2.1.length + aGive (pDg v (d % pLen v)) - aUse (pDg v (d % pLen v)) := by omega
        rw [e4]
      · rw [if_neg gc, if_neg gc]
theorem zFollow_ge {jo x : Int32} : ∀ (k d : Nat) (w : aW), d ≤ (zFollow jo x k d w).1 ∧ (zFollow jo x k d w).1 ≤ d + k := by
  intro k
  induction k with
  | zero => intro d w; exact ⟨Nat.le_refl _, Nat.le_refl _⟩
  | succ k ih =>
    intro d w
    unfold zFollow
    split
    · exact ⟨Nat.le_refl _, by omega⟩
    · split
      · have := ih (d + 1) (zStep jo (pDg x.toNatClampNeg (d % pLen x.toNatClampNeg)) w)
        omega
      · exact ⟨Nat.le_refl _, by omega⟩
section EQ
variable {xm : Nat → Option kE} {mem m0 : kM} {F G : kSg} {S : kO × kM → Prop} {N k nb q cap c0 s0 c1 s1 cap0 n r b i p d t1 t2 : Nat} {jo x y z t k1 k2 k3 k4 : Int32} {lo : List kLf} {bo pa vl vr ya wl ws xs A : List Int32} {ps : List aS} {rs rs' : List (List Int32)} {sc : Nat → Int32} {st : aS} {T : Nat → Int32} {h : kHs} {sp : aR} {c : aC} {hb hy : List Int32} {hs : Nat → aS} {nx ct : Nat} {w : aW}
theorem KW.inv (D : KW xm nb jo pa ps F c0 s0 m0 cap0 w mem) : ∃ T h, INV nb jo w.1 w.2.1 pa ps w.2.2 T h := by
  obtain ⟨T, h, I, -⟩ := D
  exact ⟨T, h, I⟩
theorem w_work (hN : 120 ≤ N) (D : KW xm nb jo pa ps F c0 s0 m0 cap0 w mem) (hj : jo = Int32.ofNat b) (hb : b < nb) (h1 : 1 ≤ w.2.2.1.length) (hlo : w.1.length ≤ 12700) (hbo : w.2.1.length ≤ 12400) : dOk (m_K_workNext xm N 1000 k1 mem) (rI fun _ m => KW xm nb jo pa ps F c0 s0 m0 cap0 (zWork jo k1 w) m) := by
  obtain ⟨lo, bo, vl, vr, rs, ya, sc⟩ := w
  have D : KK xm nb jo lo bo pa ps (vl, vr, rs, ya, sc) F c0 s0 m0 cap0 mem := D
  obtain ⟨T, h, I, -⟩ := id D
  have h24 : vl.length + vr.length ≤ 24 := I.1.2.1.2.1
  have hn4 := I.nb4
  dsimp only at h1 hlo hbo
  have ne : ¬ vl = [] := fun z => by rw [z] at h1; exact absurd h1 (by decide)
  obtain ⟨wl, v, rfl⟩ := len_ne ne
  obtain ⟨i, rfl, hi⟩ := I.1.2.1.2.2.1 v (List.mem_append_right _ (List.mem_singleton.mpr rfl))
  rw [List.length_append, List.length_singleton] at h24
  rw [zWork_eq hi (by omega) hj (by omega)]
  refine ok_mono (p_work (k1 := k1) (by omega) D hi hj hb (by omega) (by omega) (by omega)) ?_
  rintro r ⟨v, q1, q2, q3⟩
  exact ⟨v, q1, q3⟩
theorem w_over (hN : 120 ≤ N) (D : KW xm nb jo pa ps F c0 s0 m0 cap0 w mem) (hj : jo = Int32.ofNat b) (hb : b < nb) (h24 : w.2.2.1.length + w.2.2.2.1.length < 24) (hlo : w.1.length ≤ 12700) (hbo : w.2.1.length ≤ 12400) : dOk (m_K_makeOver xm N 1000 mem) (rI fun _ m => KW xm nb jo pa ps F c0 s0 m0 cap0 (zOver jo w) m) := by
  obtain ⟨lo, bo, vl, vr, rs, ya, sc⟩ := w
  have D : KK xm nb jo lo bo pa ps (vl, vr, rs, ya, sc) F c0 s0 m0 cap0 mem := D
  obtain ⟨T, h, I, -⟩ := id D
  have hn4 := I.nb4
  dsimp only at h24 hlo hbo
  refine ok_mono (p_over (by omega) D hj hb h24 (by omega) (by omega)) ?_
  rintro r ⟨v, q1, q2, q3⟩
  refine ⟨v, q1, ?_⟩
  have e : zOver jo (lo, bo, (vl, vr, rs, ya, sc)) = (lo ++ [(3, jo, sc 5, 1, sc 4, 0)], bo, (vl, vr ++ [sc 6], rs.map kFall, ya.set b (ya.getD b 0 - 3), kUp (kUp sc 8 (sc 8 + 1)) 6 (sc 6 + 1))) := by
    unfold zOver zMake
    rw [zMake_b hj (by omega)]
    rfl
  rw [e]
  exact q3
theorem w_tog (hN : 120 ≤ N) (D : KW xm nb jo pa ps F c0 s0 m0 cap0 w mem) (hj : jo = Int32.ofNat b) (hb : b < nb) (hn1 : 1 ≤ n) (hn : n ≤ 3) (h1 : n ≤ w.2.2.1.length) (hlo : w.1.length ≤ 12700) (hbo : w.2.1.length ≤ 12400) : dOk (m_K_takeTogether xm N 1000 (Int32.ofNat n) k1 mem) (rI fun _ m => KW xm nb jo pa ps F c0 s0 m0 cap0 (zTog jo n k1 w) m) := by
  obtain ⟨lo, bo, vl, vr, rs, ya, sc⟩ := w
  have D : KK xm nb jo lo bo pa ps (vl, vr, rs, ya, sc) F c0 s0 m0 cap0 mem := D
  obtain ⟨T, h, I, -⟩ := id D
  have h24 : vl.length + vr.length ≤ 24 := I.1.2.1.2.1
  have hn4 := I.nb4
  dsimp only at h1 hlo hbo
  have ew : vl = vl.take (vl.length - n) ++ vl.drop (vl.length - n) := (List.take_append_drop _ _).symm
  have lw : (vl.drop (vl.length - n)).length = n := by rw [List.length_drop]; omega
  have D1 : KK xm nb jo lo bo pa ps (vl.take (vl.length - n) ++ vl.drop (vl.length - n), vr, rs, ya, sc) F c0 s0 m0 cap0 mem := by
    rw [← ew]
    exact D
  refine ok_mono (p_tog (n := n) (k1 := k1) (by omega) hn lw D1 hj hb (by rw [List.length_take]; omega) (by omega) (by omega)) ?_
  rintro r ⟨v, q1, q2, q3⟩
  refine ⟨v, q1, ?_⟩
  have e : zTog jo n k1 (lo, bo, (vl, vr, rs, ya, sc)) = (lo ++ [(k1, jo, sc 5, 1, sc 4, Int32.ofNat n)], bo, (vl.take (vl.length - n), vr ++ [sc 6], rs.map kFall, ya.set b (ya.getD b 0 - 5), kUp sc 6 (sc 6 + 1))) := by
    unfold zTog zMake
    rw [zMake_b hj (by omega)]
  rw [e]
  exact q3
theorem w_slip (hN : 120 ≤ N) (D : KW xm nb jo pa ps F c0 s0 m0 cap0 w mem) (h1 : 1 ≤ w.2.2.1.length) (hlo : w.1.length ≤ 12700) (hbo : w.2.1.length ≤ 12400) : dOk (m_K_slipNext xm N 1000 mem) (rI fun _ m => KW xm nb jo pa ps F c0 s0 m0 cap0 (zSlip w) m) := by
  obtain ⟨lo, bo, vl, vr, rs, ya, sc⟩ := w
  have D : KK xm nb jo lo bo pa ps (vl, vr, rs, ya, sc) F c0 s0 m0 cap0 mem := D
  obtain ⟨T, h, I, -⟩ := id D
  dsimp only at h1 hlo hbo
  have ne : ¬ vl = [] := fun z => by rw [z] at h1; exact absurd h1 (by decide)
  obtain ⟨wl, v, rfl⟩ := len_ne ne
  obtain ⟨i, rfl, hi⟩ := I.1.2.1.2.2.1 v (List.mem_append_right _ (List.mem_singleton.mpr rfl))
  refine ok_mono (p_slip (by omega) D hi (by omega) (by omega)) ?_
  rintro r ⟨v, q1, q2, q3⟩
  refine ⟨v, q1, ?_⟩
  have e : zSlip (lo, bo, (wl ++ [Int32.ofNat i], vr, rs, ya, sc)) = (lo, bo, (wl, vr ++ [Int32.ofNat i], rs, ya, sc)) := by
    show (lo, bo, ((wl ++ [Int32.ofNat i]).dropLast, vr ++ [(wl ++ [Int32.ofNat i]).getLastD 0], rs, ya, sc)) = _
    rw [List.getLastD_concat, List.dropLast_concat]
  rw [e]
  exact q3
theorem w_cross (hN : 120 ≤ N) (D : KW xm nb jo pa ps F c0 s0 m0 cap0 w mem) (h1 : 2 ≤ w.2.2.1.length) (hbo : w.2.1.length ≤ 12400) : dOk (m_K_crossNext xm N 1000 1 1 mem) (rI fun _ m => KW xm nb jo pa ps F c0 s0 m0 cap0 (zCross 1 1 w) m) := by
  obtain ⟨lo, bo, vl, vr, rs, ya, sc⟩ := w
  have D : KK xm nb jo lo bo pa ps (vl, vr, rs, ya, sc) F c0 s0 m0 cap0 mem := D
  dsimp only at h1 hbo
  obtain ⟨A, xs, ws, rfl, hx, hw⟩ := split3 (l := vl) (n1 := 1) (n2 := 1) (by omega)
  refine ok_mono (p_cross (n := 1) (n2 := 1) (by omega) (by decide) (by decide) (by decide) hx hw (by omega) D) ?_
  rintro r ⟨v, q1, q2, q3⟩
  refine ⟨v, q1, ?_⟩
  show KK xm nb jo lo bo pa ps (zCrossL 1 1 (A ++ xs ++ ws), vr, rs, ya, kUp sc 9 (sc 9 + 1)) F c0 s0 m0 cap0 _
  rw [zCrossL_eq hw hx]
  exact q3
theorem kw_rc {K : dRes} (D : KW xm nb jo pa ps F c0 s0 m0 cap0 w mem) (g : dOk K S) : dOk (dRc xm mem 1000 11 K) S := by
  obtain ⟨T, h, I, kp, D⟩ := D
  exact x_rc D 0 (fun _ _ => ⟨_, rfl⟩) g
/-- a step that can be done -/
theorem p_step {s : Nat} (hN : 120 ≤ N) (h1 : 1 ≤ s) (h9 : s ≤ 9) (D : KW xm nb jo pa ps F c0 s0 m0 cap0 w mem) (hz : zCan s w.2.2.1.length (w.2.2.1.length + w.2.2.2.1.length) (bY jo w.2.2.2.2.2.1) = true) (hlo : w.1.length ≤ 12690) (hbo : w.2.1.length ≤ 12400) : dOk (m_K_doStep xm N 1000 (Int32.ofNat s) mem) (rV fun m => KW xm nb jo pa ps F c0 s0 m0 cap0 (zStep jo s w) m) := by
  obtain ⟨T, h, I⟩ := D.inv
  have hn4 := I.nb4
  have h4 : w.2.2.2.2.2.1.length = 4 := I.sw.2.2.2.2
  have h24 : w.2.2.1.length + w.2.2.2.1.length ≤ 24 := I.1.2.1.2.1
  obtain ⟨z1, z2, z3⟩ := zCan_all hz
  have hb := zBall (y := 0) I.jj hn4 h1 h9 z2
  have one : ∀ (Y : dRes) (w' : aW), dOk Y (rI fun _ m => KW xm nb jo pa ps F c0 s0 m0 cap0 w' m) → dOk (dRc xm mem 1000 11 <| dCI Y fun _ m => some (.inl none, m)) (rV fun m => KW xm nb jo pa ps F c0 s0 m0 cap0 w' m) := by
    intro Y w' hY
    exact kw_rc D (ok_cI hY fun v m D2 => ok_V D2)
  unfold m_K_doStep
  rcases (show s = 1 ∨ s = 2 ∨ s = 3 ∨ s = 4 ∨ s = 5 ∨ s = 6 ∨ s = 7 ∨ s = 8 ∨ s = 9 by omega) with rfl | rfl | rfl | rfl | rfl | rfl | rfl | rfl | rfl
  · obtain ⟨b, hj, hb⟩ := hb.resolve_left (by decide)
    refine sw_in (by decide) rfl (one _ _ ?_)
    exact w_work (k1 := 1) hN D hj hb z1 (by omega) hbo
  · obtain ⟨b, hj, hb⟩ := hb.resolve_left (by decide)
    refine sw_in (by decide) rfl (one _ _ ?_)
    exact w_work (k1 := 2) hN D hj hb z1 (by omega) hbo
  · obtain ⟨b, hj, hb⟩ := hb.resolve_left (by decide)
    refine sw_in (by decide) rfl (one _ _ ?_)
    exact w_over hN D hj hb (z3 (Or.inl rfl)) (by omega) hbo
  · obtain ⟨b, hj, hb⟩ := hb.resolve_left (by decide)
    refine sw_in (by decide) rfl (one _ _ ?_)
    exact w_tog (n := 2) (k1 := 4) hN D hj hb (by decide) (by decide) z1 (by omega) hbo
  · obtain ⟨b, hj, hb⟩ := hb.resolve_left (by decide)
    refine sw_in (by decide) rfl (one _ _ ?_)
    exact w_tog (n := 2) (k1 := 5) hN D hj hb (by decide) (by decide) z1 (by omega) hbo
  · refine sw_in (by decide) rfl (one _ _ ?_)
    exact w_slip hN D z1 (by omega) hbo
  · refine sw_in (by decide) rfl (one _ _ ?_)
    exact w_cross hN D z1 hbo
  · obtain ⟨b, hj, hb⟩ := hb.resolve_left (by decide)
    refine sw_in (by decide) rfl (one _ _ ?_)
    exact w_tog (n := 3) (k1 := 4) hN D hj hb (by decide) (by decide) z1 (by omega) hbo
  · obtain ⟨b, hj, hb⟩ := hb.resolve_left (by decide)
    have z1 : 2 ≤ w.2.2.1.length := z1
    have z3 := z3 (Or.inr rfl)
    obtain ⟨a1, a2, a3, a4, a5, a6⟩ := zNum_work (kk := 1) (w := w) hj (by omega) h4 (by omega)
    obtain ⟨b1, b2, b3, b4, b5, b6⟩ := zNum_over (w := zWork jo 1 w) hj (by omega) a5
    refine sw_in (by decide) rfl (kw_rc D ?_)
    refine ok_cI (w_work (k1 := 1) hN D hj hb (by omega) (by omega) hbo) fun v m2 D2 => ?_
    refine kw_rc D2 (ok_cI (w_over hN D2 hj hb (by omega) (by omega) (by rw [a2]; exact hbo)) fun v m3 D3 => ?_)
    refine kw_rc D3 (ok_cI (w_work (k1 := 1) hN D3 hj hb (by omega) (by omega) (by rw [b2, a2]; exact hbo)) fun v m4 D4 => ok_V D4)
theorem q_follow72 (hN : 120 ≤ N) {v : Nat} (hp : pa[p]? = some (Int32.ofNat v)) (h1 : 1 ≤ v) (h2 : v ≤ 999999999) (nz : aNz v) (h6 : pa.length ≤ 6) : ∀ (k d f : Nat) (w : aW) (mem : kM), d + k = 99 → k < f → w.1.length + 3 * k ≤ 12690 → w.2.1.length ≤ 12400 → KW xm nb jo pa ps F c0 s0 m0 cap0 w mem → dOk (m_K_follow_72 xm N f 1000 (Int32.ofNat p) (Int32.ofNat (zFollow jo (Int32.ofNat v) k d w).1) (Int32.ofNat d) mem) (rI fun y m => y = Int32.ofNat (zFollow jo (Int32.ofNat v) k d w).1 ∧ KW xm nb jo pa ps F c0 s0 m0 cap0 (zFollow jo (Int32.ofNat v) k d w).2 m) := by
  have ev : (Int32.ofNat v).toNatClampNeg = v := i_nat (by omega)
  have stop : ∀ (d f : Nat) (w : aW) (mem : kM), d ≤ 99 → 0 < f → KW xm nb jo pa ps F c0 s0 m0 cap0 w mem → dOk (m_K_follow_72 xm N f 1000 (Int32.ofNat p) (Int32.ofNat d) (Int32.ofNat d) mem) (rI fun y m => y = Int32.ofNat d ∧ KW xm nb jo pa ps F c0 s0 m0 cap0 w m) := by
    intro d f w mem hd hf D
    obtain ⟨f, rfl⟩ : ∃ f', f = f' + 1 := ⟨f - 1, by omega⟩
    rw [m_K_follow_72, if_neg (fun z => by have := (i_lt (a := d) (b := d) (by omega) (by omega)).mp z; omega)]
    exact ok_I ⟨rfl, D⟩
  intro k
  induction k with
  | zero =>
    intro d f w mem hd hf hlo hbo D
    exact stop d f w mem (by omega) hf D
  | succ k ih =>
    intro d f w mem hd hf hlo hbo D
    obtain ⟨T, h, I⟩ := D.inv
    obtain ⟨d1, d9⟩ := pDg_ok (i := d) h1 h2 nz
    unfold zFollow
    rw [ev]
    by_cases g : w.2.2.1.length = 0
    · rw [if_pos g]
      exact stop d f w mem (by omega) (by omega) D
    · rw [if_neg g]
      by_cases gc : zCan (pDg v (d % pLen v)) w.2.2.1.length (w.2.2.1.length + w.2.2.2.1.length) (aYn jo w.2.2.2.2.2.1) = true
      · rw [if_pos gc]
        rw [zCan_y I.jj d1 d9] at gc
        have ge := zFollow_ge (jo := jo) (x := Int32.ofNat v) k (d + 1) (zStep jo (pDg v (d % pLen v)) w)
        obtain ⟨z1, z2, z3⟩ := zCan_all gc
        have hn4 := I.nb4
        have hb : aTake (pDg v (d % pLen v)) = 0 ∨ ∃ b : Nat, jo = Int32.ofNat b ∧ b < 4 := by
          rcases zBall (y := 0) I.jj hn4 d1 d9 z2 with h | ⟨b, h, hb⟩
          · exact Or.inl h
          · exact Or.inr ⟨b, h, by omega⟩
        obtain ⟨n1, n2, n3, n4, n5, n6⟩ := zStep_num (w := w) d1 d9 z1 hb I.sw.2.2.2.2
        obtain ⟨f, rfl⟩ : ∃ f', f = f' + 1 := ⟨f - 1, by omega⟩
        rw [m_K_follow_72, if_pos ((i_lt (by omega) (by omega)).mpr (by omega))]
        refine kw_rc D ?_
        have D' := D
        obtain ⟨T', h', I', kp, D'⟩ := D'
        refine x_ro D' (fun q cap k2 hz H => q_stepAt (d := d) rfl rfl rfl rfl rfl hp h1 h2 h6 (by omega) H) ?_
        refine kw_rc D ?_
        refine ok_cV (p_step hN d1 d9 D gc (by omega) hbo) fun m2 D2 => ?_
        rw [i_add1]
        exact ih (d + 1) f _ m2 (by omega) (by omega) (by omega) (by rw [n2]; exact hbo) D2
      · rw [if_neg gc]
        exact stop d f w mem (by omega) (by omega) D
theorem q_hasPattern {Ts : kTyL} {a1 a2 a3 a4 a5 a6 a7 : fTy} (h6 : pa.length ≤ 6) (g0 : Ts[0]? = some (1000, cO 11 [a1, a2, a3, a4, a5, a6, a7, fE (Int32.ofNat pa.length)])) (H : HpT Ts F mem) : m_K_hasPattern xm N 1000 x mem = some (.inl (some (.int (if x < 0 then 0 else if x < Int32.ofNat pa.length then 1 else 0))), mem) := by
  refine ok_eq ?_
  unfold m_K_hasPattern
  by_cases g : x < 0
  · rw [if_pos g, if_pos g]
    exact ok_me
  · rw [if_neg g, if_neg g]
    refine t_gE H 0 g0 rfl ?_
    by_cases g2 : x < Int32.ofNat pa.length
    · rw [if_pos g2, if_pos g2]
      exact ok_me
    · rw [if_neg g2, if_neg g2]
      exact ok_me
theorem q_follow (hX : kXok xm) (hN : 120 ≤ N) (hY : yNN ya) (hlo : lo.length ≤ 12300) (hbo : bo.length ≤ 12300) (D : KS xm nb jo lo bo pa ps (vl, vr, rs, ya, sc) F 0 0 m0 cap0 mem) : dOk (m_K_follow xm N 1000 x mem) (eX xm 2 1 (spFollow x (nb, jo, lo, bo, pa, ps, (vl, vr, rs, ya, sc))) F m0 cap0) := by
  have D0 := D
  obtain ⟨T, h, I, D⟩ := D
  have h6 : pa.length ≤ 6 := I.1.2.2.2.2.1
  have h24 : vl.length + vr.length ≤ 24 := I.1.2.1.2.1
  unfold m_K_follow
  refine x_rc D 0 (fun _ _ => ⟨_, rfl⟩) ?_
  refine x_ro D (fun q cap k2 hz H => q_hasPattern h6 rfl H) ?_
  by_cases g1 : x < 0
  · rw [if_pos g1, if_pos rfl]
    exact q_ex1 (if_pos (Or.inl g1)) D0
  · rw [if_neg g1]
    by_cases g2 : x < Int32.ofNat pa.length
    · rw [if_pos g2, if_neg (by decide)]
      have g12 : ¬ (x < 0 ∨ ¬ x < Int32.ofNat pa.length) := fun z => z.elim g1 (fun z => z g2)
      refine x_gR D 0 (fun _ _ => rfl) rfl ?_
      refine x_gR D 3 (fun _ _ => rfl) rfl ?_
      refine x_gE (x := Int32.ofNat vl.length) D 4 (fun _ _ => rfl) rfl ?_
      obtain ⟨ex, lx⟩ := i_of (Int32.not_lt.mp g1)
      generalize hpx : x.toNatClampNeg = p at ex lx
      subst ex
      have hpl : p < pa.length := (i_lt lx (by omega)).mp g2
      obtain ⟨v, ev, h1, h2, nz⟩ := I.1.2.2.2.2.2 _ (List.getElem_mem hpl)
      have hp : pa[p]? = some (Int32.ofNat v) := by rw [List.getElem?_eq_getElem hpl, ev]
      have hpd : pa.getD p 0 = Int32.ofNat v := by rw [List.getD_eq_getElem?_getD, hp]; rfl
      by_cases ne : vl = []
      · rw [if_pos ((i_lt1 (by omega)).mpr (by rw [ne]; rfl))]
        exact q_ex2 ((if_neg g12).trans (if_pos ne)) D0
      · have hl0 : ¬ vl.length = 0 := fun z => ne (List.length_eq_zero_iff.mp z)
        rw [if_neg (fun z => hl0 ((i_lt1 (by omega)).mp z))]
        have hsp : spFollow (Int32.ofNat p) (nb, jo, lo, bo, pa, ps, (vl, vr, rs, ya, sc)) = (0, Int32.ofNat (zFollow jo (Int32.ofNat v) 99 0 (lo, bo, (vl, vr, rs, ya, sc))).1, wC nb jo pa (pKeep ps (vl, vr, rs, ya, sc)) (zFollow jo (Int32.ofNat v) 99 0 (lo, bo, (vl, vr, rs, ya, sc))).2) := by
          refine (if_neg g12).trans ((if_neg ne).trans ?_)
          rw [hpx, hpd]
        rw [hsp]
        refine p_keep D0 fun m1 D1 => ?_
        obtain ⟨T1, h1', I1, kp1, q, cap, c, s, k1, k2, ⟨hz, H⟩, S1, k3, k4⟩ := D1
        refine t_rc H 0 rfl ?_
        refine ok_cV (q_tryOut hX hN hp h1 h2 nz h6 h24 I.jj I.nb4 I.sw.2.2.2.2 (bY_nn hY) H) fun m2 hh => ?_
        obtain ⟨H2, S2⟩ := hh
        refine t_gR H2 0 rfl rfl ?_
        refine t_gE H2 104 rfl rfl ?_
        have H3 := H2.wk (t' := tr (fB 99)) (getQ_lt (x := (1104, tr (fB 99))) rfl) (fun e he => trE_weak (zTry_le 99 0 _) he)
        rw [set_self rfl] at H3
        have D2 : KW xm nb jo pa (pKeep ps (vl, vr, rs, ya, sc)) F 0 0 m0 cap0 (lo, bo, (vl, vr, rs, ya, sc)) m2 := ⟨T1, h1', I1, kp1, q, cap, c, s, k1, k2, ⟨hz, H3⟩, S1.trans S2, k3, k4⟩
        have et := zTry_follow (v := v) (x := Int32.ofNat v) I.jj I.nb4 (i_nat (by omega)) h1 h2 nz 99 0 (lo, bo, (vl, vr, rs, ya, sc)) 0 I.sw.2.2.2.2
        dsimp only at et
        rw [et]
        refine ok_mono (q_follow72 hN hp h1 h2 nz h6 99 0 N (lo, bo, (vl, vr, rs, ya, sc)) m2 (by omega) (by omega) (by dsimp only; omega) (by dsimp only; omega) D2) ?_
        rintro r ⟨y, q1, q2, q3⟩
        exact Or.inl ⟨y, q1, rfl, q2, (show KS xm nb jo _ _ pa _ _ F 0 0 m0 cap0 _ from q3.ks).mono (by omega) (by omega)⟩
    · rw [if_neg g2, if_pos rfl]
      exact q_ex1 (if_pos (Or.inr g2)) D0
end EQ
