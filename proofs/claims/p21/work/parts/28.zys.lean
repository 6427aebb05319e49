/-! ===== the reference exactly: follow ===== -/
theorem zAcc (jo : Int32) (s : Nat) (w : aW) : w.1.length ≤ (zStep jo s w).1.length ∧ (zStep jo s w).1.length + w.2.2.2.1.length ≤ w.1.length + (zStep jo s w).2.2.2.1.length ∧ (zStep jo s w).1.length ≤ w.1.length + 3 ∧ (zStep jo s w).2.1 = w.2.1 := by
  have wk : ∀ (k : Int32) (w : aW), (zWork jo k w).1.length = w.1.length + 1 ∧ (zWork jo k w).2.1 = w.2.1 ∧ (zWork jo k w).2.2.2.1.length = w.2.2.2.1.length + 1 := by
    intro k w
    obtain ⟨lo, bo, vl, vr, rs, ya, sc⟩ := w
    obtain ⟨a1, a2, a3, a4, a5⟩ := zMake_all jo k (zHeight lo (vl.getLastD 0) + 1) 1 4 (lo, bo, (vl.dropLast, vr, rs, ya, sc))
    exact ⟨a1, a2, a4⟩
  have ov : ∀ (w : aW), (zOver jo w).1.length = w.1.length + 1 ∧ (zOver jo w).2.1 = w.2.1 ∧ (zOver jo w).2.2.2.1.length = w.2.2.2.1.length + 1 := by
    intro w
    obtain ⟨lo, bo, vl, vr, rs, ya, sc⟩ := w
    obtain ⟨a1, a2, a3, a4, a5⟩ := zMake_all jo 3 1 0 3 (lo, bo, (vl, vr, rs, ya, kUp sc 8 (sc 8 + 1)))
    exact ⟨a1, a2, a4⟩
  have tg : ∀ (n : Nat) (k : Int32) (w : aW), (zTog jo n k w).1.length = w.1.length + 1 ∧ (zTog jo n k w).2.1 = w.2.1 ∧ (zTog jo n k w).2.2.2.1.length = w.2.2.2.1.length + 1 := by
    intro n k w
    obtain ⟨lo, bo, vl, vr, rs, ya, sc⟩ := w
    obtain ⟨a1, a2, a3, a4, a5⟩ := zMake_all jo k 1 (Int32.ofNat n) 5 (lo, bo, (vl.take (vl.length - n), vr, rs, ya, sc))
    exact ⟨a1, a2, a4⟩
  unfold zStep
  split
  · have := wk 1 w; exact ⟨by omega, by omega, by omega, this.2.1⟩
  split
  · have := wk 2 w; exact ⟨by omega, by omega, by omega, this.2.1⟩
  split
  · have := ov w; exact ⟨by omega, by omega, by omega, this.2.1⟩
  split
  · have := tg 2 4 w; exact ⟨by omega, by omega, by omega, this.2.1⟩
  split
  · have := tg 2 5 w; exact ⟨by omega, by omega, by omega, this.2.1⟩
  split
  · obtain ⟨lo, bo, vl, vr, rs, ya, sc⟩ := w
    refine ⟨Nat.le_refl _, ?_, by show lo.length ≤ lo.length + 3; omega, rfl⟩
    show lo.length + vr.length ≤ lo.length + (vr ++ [vl.getLastD 0]).length
    rw [List.length_append]
    omega
  split
  · obtain ⟨lo, bo, vl, vr, rs, ya, sc⟩ := w
    exact ⟨Nat.le_refl _, Nat.le_refl _, by show lo.length ≤ lo.length + 3; omega, rfl⟩
  split
  · have := tg 3 4 w; exact ⟨by omega, by omega, by omega, this.2.1⟩
  · have a := wk 1 w
    have b := ov (zWork jo 1 w)
    have c := wk 1 (zOver jo (zWork jo 1 w))
    exact ⟨by omega, by omega, by omega, c.2.1.trans (b.2.1.trans a.2.1)⟩
section ET
variable {xm : Nat → Option kE} {mem : kM} {N M0 nb k C S ck b n : Nat} {F : kSg} {g : Nat → Int32} {sum : Int64} {t jo x y : Int32} {lo : List kLf} {bo pa vl vr ya : List Int32} {ps : List aS} {rs : List (List Int32)} {sc : Nat → Int32} {st : aS} {T : kO × kM → Prop} {sp : aR} {w : aW}
theorem m_lengthE {n0 : Nat} (hN : 12 ≤ N) (h1 : 1 ≤ n0) (h2 : n0 ≤ 999999999) : m_M_length xm N (Int32.ofNat n0) mem = some (.inl (some (.int (Int32.ofNat (pLen n0)))), mem) := by
  obtain ⟨N', rfl⟩ : ∃ N', N = N' + 1 := ⟨N - 1, by omega⟩
  have hp : n0 < 10 ^ N' := by
    calc n0 < 10 ^ 9 := by omega
      _ ≤ 10 ^ N' := Nat.pow_le_pow_right (by decide) (by omega)
  obtain ⟨L, g1, g2, g3, g4⟩ := len_loop (xm := xm) (N := N' + 1) (mem := mem) (n0 := n0) N' 0 n0 (by simp) hp (by omega)
  have e := pLen_uniq h1 h2 g3 (fun j hj => g4 j (by omega) hj)
  subst e
  unfold m_M_length
  exact g1
theorem m_canE {s l a : Nat} {y : Int32} (h1 : 1 ≤ s) (h9 : s ≤ 9) (hl : l < 2 ^ 31) (ha : a < 2 ^ 31) : m_M_can xm N (Int32.ofNat s) (Int32.ofNat l) (Int32.ofNat a) y mem = some (.inl (some (.int (if zCan s l a y = true then 1 else 0))), mem) := by
  have c46 : m_M_can_46 xm N (Int32.ofNat a) mem = some (.inl (some (.int (if a < 24 then 1 else 0))), mem) := by
    unfold m_M_can_46 m_M_can_52
    by_cases h : a < 24
    · rw [if_pos h, if_pos (show Int32.ofNat a < 24 from (i_lt (b := 24) ha (by decide)).mpr h)]
    · rw [if_neg h, if_neg (show ¬ Int32.ofNat a < 24 from fun z => h ((i_lt (b := 24) ha (by decide)).mp z))]
  have key : ∀ (wn tk : Nat) (ov : Bool), tk < 100 → wn < 100 → aTake s = tk → aWant s = wn → decide (s ≠ 3 ∧ s ≠ 9) = !ov → (m_M_can_35 xm N (Int32.ofNat s) (Int32.ofNat a) mem = if ov = true then m_M_can_46 xm N (Int32.ofNat a) mem else some (.inl (some (.int 1)), mem)) → m_M_can xm N (Int32.ofNat s) (Int32.ofNat l) (Int32.ofNat a) y mem = m_M_can_21 xm N (Int32.ofNat s) (Int32.ofNat a) y (Int32.ofNat tk) (Int32.ofNat l) (Int32.ofNat wn) mem → m_M_can xm N (Int32.ofNat s) (Int32.ofNat l) (Int32.ofNat a) y mem = some (.inl (some (.int (if zCan s l a y = true then 1 else 0))), mem) := by
    intro wn tk ov b1 b2 e1 e2 e3 e4 e5
    have e35 : m_M_can_35 xm N (Int32.ofNat s) (Int32.ofNat a) mem = some (.inl (some (.int (if (!ov || decide (a < 24)) = true then 1 else 0))), mem) := by
      rw [e4, c46]
      cases ov with
      | false => rfl
      | true => simp
    rw [e5]
    unfold m_M_can_21 zCan
    rw [e1, e2, e3, e35]
    by_cases g1 : wn ≤ l
    · rw [if_neg (fun z => by have := (i_lt hl (by omega)).mp z; omega)]
      by_cases g2 : tk = 0
      · rw [if_pos (show Int32.ofNat tk = 0 by rw [g2]; rfl)]
        simp [g1, g2]
      · rw [if_neg (show ¬ Int32.ofNat tk = 0 from fun z => g2 ((i_eq (b := 0) (by omega) (by decide)).mp z))]
        by_cases g3 : y < Int32.ofNat tk
        · rw [if_pos g3]
          simp [g1, g2, g3]
        · rw [if_neg g3]
          simp [g1, g3]
    · rw [if_pos ((i_lt hl (by omega)).mpr (by omega))]
      simp [g1]
  rcases (show s = 1 ∨ s = 2 ∨ s = 3 ∨ s = 4 ∨ s = 5 ∨ s = 6 ∨ s = 7 ∨ s = 8 ∨ s = 9 by omega) with rfl | rfl | rfl | rfl | rfl | rfl | rfl | rfl | rfl
  · exact key 1 4 false (by decide) (by decide) rfl rfl (by decide) rfl rfl
  · exact key 1 4 false (by decide) (by decide) rfl rfl (by decide) rfl rfl
  · exact key 0 3 true (by decide) (by decide) rfl rfl (by decide) rfl rfl
  · exact key 2 5 false (by decide) (by decide) rfl rfl (by decide) rfl rfl
  · exact key 2 5 false (by decide) (by decide) rfl rfl (by decide) rfl rfl
  · exact key 1 0 false (by decide) (by decide) rfl rfl (by decide) rfl rfl
  · exact key 2 0 false (by decide) (by decide) rfl rfl (by decide) rfl rfl
  · exact key 3 5 false (by decide) (by decide) rfl rfl (by decide) rfl rfl
  · exact key 2 11 true (by decide) (by decide) rfl rfl (by decide) rfl rfl
/-- the reference within a call -/
def VW (xm : Nat → Option kE) (M0 nb : Nat) (g : Nat → Int32) (sum : Int64) (pa : List Int32) (ps : List aS) (F : kSg) (ck : Nat) (w : aW) (m : kM) : Prop := WR xm M0 g sum w.1 w.2.1 pa ps w.2.2 ck F m ∧ aInv nb g w.1 w.2.1 pa ps w.2.2
/-- .. behind steps that made so many loops -/
def VA (xm : Nat → Option kE) (M0 nb : Nat) (g : Nat → Int32) (sum : Int64) (pa : List Int32) (ps : List aS) (F : kSg) (ck n c s : Nat) (m0 : kM) (w : aW) (m : kM) : Prop := ∃ ck', ck ≤ ck' ∧ VW xm M0 nb g sum pa ps F ck' w m ∧ St xm m0 m (c + 5 * n) (s + 60 * n + 4 * (ck' - ck))
theorem v_work {kk : Int32} (hX : kXok xm) (hN : 20 ≤ N) (D : VW xm M0 nb g sum pa ps F ck w mem) (h7 : g 7 = jo) (hj : jo = Int32.ofNat b) (hb : b < 4) (h1 : 1 ≤ w.2.2.1.length) (hlo : w.1.length ≤ 12400) : dOk (m_M_workNow xm N M0 kk mem) (rI fun _ m => VA xm M0 nb g sum pa ps F ck 1 0 0 mem (zWork jo (if kk = 0 then 1 else 2) w) m) := by
  obtain ⟨lo, bo, vl, vr, rs, ya, sc⟩ := w
  obtain ⟨W, hi⟩ := D
  dsimp only at W hi h1 hlo
  have h24 := hi.2.1.2.1
  dsimp only at h24
  obtain ⟨t, v, rfl⟩ := snoc_of (l := vl) (fun e => by rw [e] at h1; simp at h1)
  obtain ⟨i, rfl, hil⟩ := hi.2.1.2.2.1 v (List.mem_append_right _ (List.mem_singleton.mpr rfl))
  rw [List.length_append, List.length_singleton] at h24
  rw [zWork_eq hil (by omega) hj (by omega)]
  refine ok_mono (m_workNow (k := kk) hX hN W hi.sw (by omega) (by omega) (h7.trans hj) hb rfl hil) ?_
  rintro r ⟨x, q1, -, ck', hck, W1, S1⟩
  rw [h7] at W1
  exact ⟨x, q1, ck', hck, ⟨W1, hi.make (fun v hv => List.mem_append_left _ hv) (by omega) rfl rfl⟩, S1.mono (by omega) (by omega)⟩
theorem v_over (hX : kXok xm) (hN : 20 ≤ N) (D : VW xm M0 nb g sum pa ps F ck w mem) (h7 : g 7 = jo) (hj : jo = Int32.ofNat b) (hb : b < 4) (h24 : w.2.2.1.length + w.2.2.2.1.length < 24) (hlo : w.1.length ≤ 12400) : dOk (m_M_overNow xm N M0 mem) (rI fun _ m => VA xm M0 nb g sum pa ps F ck 1 0 0 mem (zOver jo w) m) := by
  obtain ⟨lo, bo, vl, vr, rs, ya, sc⟩ := w
  obtain ⟨W, hi⟩ := D
  dsimp only at W hi h24 hlo
  rw [zOver_eq hj (by omega)]
  refine ok_mono (m_overNow hX hN W hi.sw (by omega) (by omega) (h7.trans hj) hb) ?_
  rintro r ⟨x, q1, -, ck', hck, W1, S1⟩
  rw [h7] at W1
  exact ⟨x, q1, ck', hck, ⟨W1, hi.make (fun v hv => hv) (by omega) rfl rfl⟩, S1.mono (by omega) (by omega)⟩
theorem v_tog {kk : Int32} (hX : kXok xm) (hN : 20 ≤ N) (D : VW xm M0 nb g sum pa ps F ck w mem) (h7 : g 7 = jo) (hj : jo = Int32.ofNat b) (hb : b < 4) (hn1 : 1 ≤ n) (hn : n ≤ 3) (h1 : n ≤ w.2.2.1.length) (hlo : w.1.length ≤ 12400) : dOk (m_M_togetherNow xm N M0 (Int32.ofNat n) kk mem) (rI fun _ m => VA xm M0 nb g sum pa ps F ck 1 0 0 mem (zTog jo n (if kk = 0 then 4 else 5) w) m) := by
  obtain ⟨lo, bo, vl, vr, rs, ya, sc⟩ := w
  obtain ⟨W, hi⟩ := D
  dsimp only at W hi h1 hlo
  have h24 := hi.2.1.2.1
  dsimp only at h24
  obtain ⟨A, ws, ys, e, hws, hys⟩ := split3 (l := vl) (n1 := 0) (n2 := n) (by omega)
  have hys : ys = [] := List.length_eq_zero_iff.mp hys
  subst hys
  rw [List.append_nil] at e
  subst e
  rw [List.length_append] at h24
  rw [zTog_eq hws hj (by omega)]
  refine ok_mono (m_togNow (k := kk) hX hN W hws hn hi.sw (by omega) (by omega) (h7.trans hj) hb) ?_
  rintro r ⟨x, q1, -, ck', hck, W1, S1⟩
  rw [h7] at W1
  exact ⟨x, q1, ck', hck, ⟨W1, hi.make (fun v hv => List.mem_append_left _ hv) (by omega) rfl rfl⟩, S1.mono (by omega) (by omega)⟩
theorem v_rc {K : dRes} (D : VW xm M0 nb g sum pa ps F ck w mem) (h : dOk K T) : dOk (dRc xm mem M0 15 K) T := w_rc D.1 h
theorem m_doStepE {s : Nat} (hX : kXok xm) (hN : 20 ≤ N) (D : VW xm M0 nb g sum pa ps F ck w mem) (h7 : g 7 = jo) (hlo : w.1.length ≤ 12390) (h1 : 1 ≤ s) (h9 : s ≤ 9) (hw : aWant s ≤ w.2.2.1.length) (hy : aTake s = 0 ∨ ∃ b : Nat, jo = Int32.ofNat b ∧ b < 4) (ho : (s = 3 ∨ s = 9) → w.2.2.1.length + w.2.2.2.1.length < 24) :
    dOk (m_M_doStep xm N M0 (Int32.ofNat s) mem) (rV fun m => VA xm M0 nb g sum pa ps F ck ((zStep jo s w).1.length - w.1.length) 10 50 mem (zStep jo s w) m) := by
  have h4 : w.2.2.2.2.2.1.length = 4 := D.2.sw.2.2.2.2
  have h24 : w.2.2.1.length + w.2.2.2.1.length ≤ 24 := D.2.2.1.2.1
  have fin : ∀ {m : kM} {w' : aW} {d : Nat}, w'.1.length = w.1.length + d → VA xm M0 nb g sum pa ps F ck d 10 50 mem w' m → VA xm M0 nb g sum pa ps F ck (w'.1.length - w.1.length) 10 50 mem w' m := by
    intro m w' d e A
    rw [e, Nat.add_sub_cancel_left]
    exact A
  have up : ∀ {m : kM} {w' : aW}, VA xm M0 nb g sum pa ps F ck 1 0 0 mem w' m → VA xm M0 nb g sum pa ps F ck 1 10 50 mem w' m := by
    intro m w' A
    obtain ⟨ck', a1, a2, a3⟩ := A
    exact ⟨ck', a1, a2, a3.mono (by omega) (by omega)⟩
  unfold m_M_doStep
  rcases (show s = 1 ∨ s = 2 ∨ s = 3 ∨ s = 4 ∨ s = 5 ∨ s = 6 ∨ s = 7 ∨ s = 8 ∨ s = 9 by omega) with rfl | rfl | rfl | rfl | rfl | rfl | rfl | rfl | rfl
  · refine sw_in (by decide) rfl ?_
    obtain ⟨b, hb7, hb4⟩ := hy.resolve_left (by decide)
    unfold m_M_doStep_48
    rw [if_neg (by decide)]
    unfold m_M_doStep_59
    refine v_rc D ?_
    exact ok_cI (v_work (kk := 0) hX hN D h7 hb7 hb4 hw (by omega)) fun x m1 hh => ok_V (fin (zNum_work (kk := 1) hb7 hb4 h4 hw).1 (up hh))
  · refine sw_in (by decide) rfl ?_
    obtain ⟨b, hb7, hb4⟩ := hy.resolve_left (by decide)
    unfold m_M_doStep_48
    rw [if_pos (by decide)]
    unfold m_M_doStep_59
    refine v_rc D ?_
    exact ok_cI (v_work (kk := 1) hX hN D h7 hb7 hb4 hw (by omega)) fun x m1 hh => ok_V (fin (zNum_work (kk := 2) hb7 hb4 h4 hw).1 (up hh))
  · refine sw_in (by decide) rfl ?_
    obtain ⟨b, hb7, hb4⟩ := hy.resolve_left (by decide)
    refine v_rc D ?_
    exact ok_cI (v_over hX hN D h7 hb7 hb4 (ho (Or.inl rfl)) (by omega)) fun x m1 hh => ok_V (fin (zNum_over (w := w) hb7 hb4 h4).1 (up hh))
  · refine sw_in (by decide) rfl ?_
    obtain ⟨b, hb7, hb4⟩ := hy.resolve_left (by decide)
    unfold m_M_doStep_74
    rw [if_neg (by decide)]
    unfold m_M_doStep_86
    refine v_rc D ?_
    exact ok_cI (v_tog (n := 2) (kk := 0) hX hN D h7 hb7 hb4 (by decide) (by decide) hw (by omega)) fun x m1 hh => ok_V (fin (zNum_tog (n := 2) (kk := 4) hb7 hb4 h4 hw).1 (up hh))
  · refine sw_in (by decide) rfl ?_
    obtain ⟨b, hb7, hb4⟩ := hy.resolve_left (by decide)
    unfold m_M_doStep_74
    rw [if_pos (by decide)]
    unfold m_M_doStep_86
    refine v_rc D ?_
    exact ok_cI (v_tog (n := 2) (kk := 1) hX hN D h7 hb7 hb4 (by decide) (by decide) hw (by omega)) fun x m1 hh => ok_V (fin (zNum_tog (n := 2) (kk := 5) hb7 hb4 h4 hw).1 (up hh))
  · refine sw_in (by decide) rfl ?_
    refine v_rc D ?_
    obtain ⟨lo, bo, vl, vr, rs, ya, sc⟩ := w
    obtain ⟨W, hi⟩ := D
    dsimp only at W hi hlo h24
    have hw : 1 ≤ vl.length := hw
    obtain ⟨t, v, rfl⟩ := snoc_of (l := vl) (fun e => by rw [e] at hw; simp at hw)
    rw [List.length_append, List.length_singleton] at h24
    refine ok_cI (m_slipNow hX W hi.sw (by omega)) fun x m1 hh => ?_
    obtain ⟨-, W1, S1⟩ := hh
    have e : zStep jo 6 (lo, bo, (t ++ [v], vr, rs, ya, sc)) = (lo, bo, (t, vr ++ [v], rs, ya, sc)) := zSlip_eq
    rw [e]
    refine ok_V ⟨ck, Nat.le_refl _, ⟨W1, hi.move ?_ ?_ (by simp; omega) rfl rfl⟩, S1.mono (by omega) (by omega)⟩
    · exact fun v hv => Or.inl (List.mem_append_left _ hv)
    · intro w hw
      rcases List.mem_append.mp hw with h | h
      · exact Or.inr h
      · exact Or.inl (List.mem_append_right _ h)
  · refine sw_in (by decide) rfl ?_
    refine v_rc D ?_
    obtain ⟨lo, bo, vl, vr, rs, ya, sc⟩ := w
    obtain ⟨W, hi⟩ := D
    dsimp only at W hi hlo h24
    have hw : 2 ≤ vl.length := hw
    obtain ⟨A, xs, ys, rfl, hx, hys⟩ := split3 (l := vl) (n1 := 1) (n2 := 1) (by omega)
    refine ok_cI (m_crossNow (n1 := 1) (n2 := 1) hX hN W hi.sw hx hys (by decide) (by decide) (by decide)) fun x m1 hh => ?_
    obtain ⟨-, W1, S1⟩ := hh
    have e : zStep jo 7 (lo, bo, (A ++ xs ++ ys, vr, rs, ya, sc)) = (lo, bo, (A ++ ys ++ xs, vr, rs, ya, kUp sc 9 (sc 9 + 1))) := by
      show (lo, bo, (zCrossL 1 1 (A ++ xs ++ ys), vr, rs, ya, kUp sc 9 (sc 9 + 1))) = _
      rw [zCrossL_eq hys hx]
    rw [e]
    refine ok_V ⟨ck, Nat.le_refl _, ⟨W1, hi.move ?_ ?_ (by simp only [List.length_append] at h24 ⊢; omega) rfl rfl⟩, S1.mono (by omega) (by omega)⟩
    · intro w hw
      refine Or.inl ?_
      simp only [List.mem_append] at hw ⊢
      rcases hw with (h | h) | h
      · exact Or.inl (Or.inl h)
      · exact Or.inr h
      · exact Or.inl (Or.inr h)
    · exact fun v hv => Or.inr hv
  · refine sw_in (by decide) rfl ?_
    obtain ⟨b, hb7, hb4⟩ := hy.resolve_left (by decide)
    refine v_rc D ?_
    exact ok_cI (v_tog (n := 3) (kk := 0) hX hN D h7 hb7 hb4 (by decide) (by decide) hw (by omega)) fun x m1 hh => ok_V (fin (zNum_tog (n := 3) (kk := 4) hb7 hb4 h4 hw).1 (up hh))
  · refine sw_out (Or.inr (by decide)) ?_
    have hw : 2 ≤ w.2.2.1.length := hw
    have ho := ho (Or.inr rfl)
    obtain ⟨b, hb7, hb4⟩ := hy.resolve_left (by decide)
    obtain ⟨a1, a2, a3, a4, a5, a6⟩ := zNum_work (kk := 1) (w := w) hb7 hb4 h4 (by omega)
    obtain ⟨b1, b2, b3, b4, b5, b6⟩ := zNum_over (w := zWork jo 1 w) hb7 hb4 a5
    obtain ⟨c1, c2, c3, c4, c5, c6⟩ := zNum_work (kk := 1) (w := zOver jo (zWork jo 1 w)) hb7 hb4 b5 (by omega)
    refine v_rc D ?_
    refine ok_cI (v_work (kk := 0) hX hN D h7 hb7 hb4 (by omega) (by omega)) fun x m1 hh => ?_
    obtain ⟨ck1, k1, D1, S1⟩ := hh
    refine v_rc D1 ?_
    refine ok_cI (v_over hX hN D1 h7 hb7 hb4 (show (zWork jo 1 w).2.2.1.length + (zWork jo 1 w).2.2.2.1.length < 24 by omega) (show (zWork jo 1 w).1.length ≤ 12400 by omega)) fun x m2 hh => ?_
    obtain ⟨ck2, k2, D2, S2⟩ := hh
    refine v_rc D2 ?_
    refine ok_cI (v_work (kk := 0) hX hN D2 h7 hb7 hb4 (show 1 ≤ (zOver jo (zWork jo 1 w)).2.2.1.length by omega) (show (zOver jo (zWork jo 1 w)).1.length ≤ 12400 by omega)) fun x m3 hh => ?_
    obtain ⟨ck3, k3, D3, S3⟩ := hh
    refine ok_V (fin (d := 3) (w' := zWork jo 1 (zOver jo (zWork jo 1 w))) (by omega) ⟨ck3, by omega, D3, (S1.trans (S2.trans S3)).mono (by omega) (by omega)⟩)
theorem follow_loopE {n0 : Nat} (hX : kXok xm) (hN : 20 ≤ N) (h7 : g 7 = jo) (p1 : 1 ≤ n0) (p2 : n0 ≤ 999999999) (pz : aNz n0) : ∀ (j d f : Nat) (mem : kM) (w : aW) (ck : Nat), d + j = 99 → j < f → VW xm M0 nb g sum pa ps F ck w mem → w.1.length + 24 ≤ 12390 + w.2.2.2.1.length →
    dOk (m_M_follow_59 xm N f M0 (Int32.ofNat n0) (Int32.ofNat d) mem) (rI fun v m => v = Int32.ofNat (zFollow jo (Int32.ofNat n0) j d w).1 ∧ VA xm M0 nb g sum pa ps F ck ((zFollow jo (Int32.ofNat n0) j d w).2.1.length - w.1.length) (10 * j) (50 * j) mem (zFollow jo (Int32.ofNat n0) j d w).2 m ∧ w.1.length ≤ (zFollow jo (Int32.ofNat n0) j d w).2.1.length ∧ (zFollow jo (Int32.ofNat n0) j d w).2.1.length + w.2.2.2.1.length ≤ w.1.length + (zFollow jo (Int32.ofNat n0) j d w).2.2.2.2.1.length ∧ (zFollow jo (Int32.ofNat n0) j d w).2.2.1 = w.2.1) := by
  have ev : (Int32.ofNat n0).toNatClampNeg = n0 := i_nat (by omega)
  intro j
  induction j with
  | zero =>
    intro d f mem w ck hd hf D hlo
    obtain ⟨f, rfl⟩ : ∃ f', f = f' + 1 := ⟨f - 1, by omega⟩
    rw [m_M_follow_59, if_neg (fun z => by have := (i_lt (b := 99) (by omega) (by decide)).mp z; omega)]
    exact ok_I ⟨rfl, ⟨ck, Nat.le_refl _, D, St.refl.mono (by omega) (by omega)⟩, Nat.le_refl _, Nat.le_refl _, rfl⟩
  | succ j ih =>
    intro d f mem w ck hd hf D hlo
    obtain ⟨f, rfl⟩ : ∃ f', f = f' + 1 := ⟨f - 1, by omega⟩
    have D0 := D
    obtain ⟨d1, d9⟩ := pDg_ok (i := d) p1 p2 pz
    obtain ⟨l1, l2, -, -⟩ := pLen_ok p1 p2
    have hdl : d % pLen n0 < pLen n0 := Nat.mod_lt _ l1
    have stop : ∀ m : kM, m = mem → dOk (some (.inl (some (.int (Int32.ofNat d))), m)) (rI fun v m => v = Int32.ofNat d ∧ VA xm M0 nb g sum pa ps F ck (w.1.length - w.1.length) (10 * (j + 1)) (50 * (j + 1)) mem w m ∧ w.1.length ≤ w.1.length ∧ w.1.length + w.2.2.2.1.length ≤ w.1.length + w.2.2.2.1.length ∧ w.2.1 = w.2.1) := by
      intro m e
      subst e
      exact ok_I ⟨rfl, ⟨ck, Nat.le_refl _, D0, St.refl.mono (by omega) (by omega)⟩, Nat.le_refl _, Nat.le_refl _, rfl⟩
    unfold zFollow
    rw [ev]
    rw [m_M_follow_59, if_pos (show Int32.ofNat d < 99 from (i_lt (b := 99) (by omega) (by decide)).mpr (by omega))]
    obtain ⟨lo, bo, vl, vr, rs, ya, sc⟩ := w
    obtain ⟨W, hi⟩ := D
    dsimp only at W hi hlo
    have h24 := hi.2.1.2.1
    dsimp only at h24
    have ey : aYarn g ya = aYn jo ya := by rw [← h7]; rfl
    refine w_leftEmpty W ?_
    by_cases he : vl = []
    · rw [if_pos he, if_neg (show ¬ ((1 : Int32) = 0) by decide), if_pos (show vl.length = 0 by rw [he]; rfl)]
      exact stop _ rfl
    · rw [if_neg he, if_pos rfl, if_neg (show ¬ vl.length = 0 from fun z => he (List.length_eq_zero_iff.mp z))]
      refine ok_eI (m_lengthE (by omega) p1 p2) ?_
      refine ok_nz (fun z => by have := (i_eq (b := 0) (by omega) (by decide)).mp z; omega) ?_
      rw [i_modL (by omega) l1 l2]
      refine ok_eI (m_step (by omega) p2 (m_lengthE (by omega) p1 p2) l2 hdl) ?_
      rw [show n0 / 10 ^ (pLen n0 - 1 - d % pLen n0) % 10 = pDg n0 (d % pLen n0) from rfl]
      refine w_leftSize W ?_
      refine w_all W ?_
      refine w_rc W ?_
      refine ok_eI (m_yarn W hi.sw.2.2.2.2 hi.jn) ?_
      refine ok_eI (m_canE (l := vl.length) (a := vl.length + vr.length) d1 d9 (by omega) (by omega)) ?_
      rw [ey]
      by_cases gc : zCan (pDg n0 (d % pLen n0)) vl.length (vl.length + vr.length) (aYn jo ya) = true
      · rw [if_pos gc, if_neg (by decide), if_pos gc]
        obtain ⟨z1, z2, z3⟩ := zCan_all gc
        have t11 := (aUse_le d1 d9).2.1
        have hy : aTake (pDg n0 (d % pLen n0)) = 0 ∨ ∃ b : Nat, jo = Int32.ofNat b ∧ b < 4 := by
          rcases z2 with h | h
          · exact Or.inl h
          · obtain ⟨b, q1, q2⟩ := hi.some (k := Int32.ofNat (aTake (pDg n0 (d % pLen n0)))) (i_ge0 (by omega)) (by rw [ey]; exact h)
            exact Or.inr ⟨b, h7.symm.trans q1, q2⟩
        refine w_rc W ?_
        refine ok_cV (m_doStepE (w := (lo, bo, (vl, vr, rs, ya, sc))) hX hN D0 h7 (by dsimp only; omega) d1 d9 z1 hy z3) fun m1 hh => ?_
        obtain ⟨ck1, k1, D1, S1⟩ := hh
        obtain ⟨a1, a2, a3, a4⟩ := zAcc jo (pDg n0 (d % pLen n0)) (lo, bo, (vl, vr, rs, ya, sc))
        dsimp only at a1 a2 a3 a4 S1
        have h24' := D1.2.2.1.2.1
        rw [i_add1]
        refine ok_mono (ih (d + 1) f m1 (zStep jo (pDg n0 (d % pLen n0)) (lo, bo, (vl, vr, rs, ya, sc))) ck1 (by omega) (by omega) D1 (by omega)) ?_
        rintro r ⟨v, b1, b2, ⟨ck2, k2, D2, S2⟩, b3, b4, b5⟩
        exact ⟨v, b1, b2, ⟨ck2, by omega, D2, (S1.trans S2).mono (by dsimp only; omega) (by dsimp only; omega)⟩, by dsimp only; omega, by dsimp only; omega, b5.trans a4⟩
      · rw [if_neg gc, if_pos rfl, if_neg gc]
        exact stop _ rfl
theorem x_follow (hX : kXok xm) (hN : 120 ≤ N) (hk : k < 512) (I : RJ xm M0 t (nb, jo, lo, bo, pa, ps, (vl, vr, rs, ya, sc)) k C S F mem) (x : Int32) : dOk (m_M_follow xm N M0 x mem) (eR xm M0 (spFollow x (nb, jo, lo, bo, pa, ps, (vl, vr, rs, ya, sc))) k C S 1141 6690 F) := by
  obtain ⟨g, sum, ck, W, hi, ⟨-, h7⟩, hl, hb, h1, h2⟩ := I
  dsimp only at W hi h7 hl hb
  have hp6 := hi.2.2.2.2.1
  unfold m_M_follow
  refine m_start W fun m1 W1 S1 => ?_
  have hi1 : aInv nb (kUp g 0 0) lo bo pa ps (vl, vr, rs, ya, sc) := hi
  refine w_rc W1 ?_
  refine ok_eI (m_isPattern W1 x) ?_
  refine ok_if (fun e => ?_) (fun e => ?_)
  · exact x_ref (if_pos ((is_n (by omega)).mp (is_z.mp e))) (by decide) h1 h2 W1 hi1 h7 hl hb S1
  · have g1 : ¬ (x < 0 ∨ ¬ x < Int32.ofNat pa.length) := fun z => e (is_z.mpr ((is_n (by omega)).mpr z))
    obtain ⟨i, rfl, hil⟩ := in_nat (by omega) e
    have en : (Int32.ofNat i).toNatClampNeg = i := i_nat (by omega)
    refine w_leftEmpty W1 ?_
    by_cases he : vl = []
    · rw [if_pos he, if_neg (show ¬ ((1 : Int32) = 0) by decide)]
      exact x_ref ((if_neg g1).trans (if_pos he)) (by decide) h1 h2 W1 hi1 h7 hl hb S1
    · rw [if_neg he, if_pos rfl]
      refine w_rc W1 ?_
      refine ok_cV (m_keep hX (by omega) W1 hi.sw hi.2.2.2.1) fun m2 h => ?_
      obtain ⟨W2, S2⟩ := h
      have hi2 := hi1.keep
      refine w_gP W2 ?_
      refine w_pat hX W2 hil ?_
      obtain ⟨n0, hn0, p1, p2, pz⟩ := hi.2.2.2.2.2 _ (List.getElem_mem hil)
      rw [hn0]
      have hpd : pa.getD (Int32.ofNat i).toNatClampNeg 0 = Int32.ofNat n0 := by rw [en, List.getD_eq_getElem?_getD, List.getElem?_eq_getElem hil, hn0]; rfl
      have hsp : spFollow (Int32.ofNat i) (nb, jo, lo, bo, pa, ps, (vl, vr, rs, ya, sc)) = (0, Int32.ofNat (zFollow jo (Int32.ofNat n0) 99 0 (lo, bo, (vl, vr, rs, ya, sc))).1, wC nb jo pa (pKeep ps (vl, vr, rs, ya, sc)) (zFollow jo (Int32.ofNat n0) 99 0 (lo, bo, (vl, vr, rs, ya, sc))).2) := by
        refine (if_neg g1).trans ((if_neg he).trans ?_)
        rw [hpd]
      rw [hsp]
      refine ok_mono (follow_loopE (n0 := n0) (jo := jo) (g := kUp g 0 0) hX (by omega) h7 p1 p2 pz 99 0 N m2 (lo, bo, (vl, vr, rs, ya, sc)) ck (by omega) (by omega) ⟨W2, hi2⟩ (by dsimp only; omega)) ?_
      rintro r ⟨v, b1, b0, ⟨ck', b4, ⟨W3, hi3⟩, S3⟩, b2, b3, b5⟩
      have h24 := hi3.2.1.2.1
      dsimp only at b2 b3 b5 S3
      exact ⟨v, b1, fun _ => b0, RJ.mk' (c := 1141) (s := 6690) h1 h2 W3 hi3 ⟨rfl, h7⟩ (by omega) (by rw [b5]; omega) b4 ((S1.trans (S2.trans S3)).mono (by omega) (by omega))⟩
end ET
