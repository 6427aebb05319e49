/-! ===== the reference's calls: join, cast, work, over, together, slip, cross ===== -/
section KNN
variable {xm : Nat → Option kE} {mem : kM} {N M0 nb k C S : Nat} {F : kSg}
theorem kLow {z : Nat → Int32} {x : Int32} : kUp z 0 x 6 = z 6 ∧ kUp z 0 x 7 = z 7 := ⟨rfl, rfl⟩
/-- a refusal at the end -/
theorem r_ref {g : Nat → Int32} {sum : Int64} {lo : List kLf} {bo pa : List Int32} {ps : List aS} {st : aS} {ck c s : Nat} {m0 : kM} {x : Int32} (h1 : m0.length ≤ C) (h2 : kSl m0 ≤ S + 4 * ck) (W : WR xm M0 g sum lo bo pa ps st ck F mem) (h : aInv nb g lo bo pa ps st) (hl : lo.length ≤ 24 * k) (hb : bo.length ≤ 24 * k) (S1 : St xm m0 mem c s) :
    dOk (dRc xm mem M0 15 <| dCI (m_M_refuse xm N M0 x mem) fun v m => some (.inl (some (.int v)), m)) (rI fun v m => RI xm M0 nb (k + 1) (C + c) (S + s) F m) := by
  refine w_rc W ?_
  refine ok_cI (m_refuse W) fun v m hh => ?_
  obtain ⟨-, W2, S2⟩ := hh
  exact ok_I (RI.mk' h1 h2 W2 h (by omega) (by omega) (Nat.le_refl _) ((S1.trans S2).mono (by omega) (by omega)))
theorem r_join (I : RI xm M0 nb k C S F mem) (x : Int32) : dOk (m_M_join xm N M0 x mem) (rI fun v m => RI xm M0 nb (k + 1) C S F m) := by
  obtain ⟨g, sum, lo, bo, pa, ps, st, ck, W, hi, hl, hb, h1, h2⟩ := I
  unfold m_M_join
  refine m_start W fun m1 W1 S1 => ?_
  have hi1 : aInv nb (kUp g 0 0) lo bo pa ps st := hi
  refine w_g W1 (by decide) ?_
  refine ok_eI m_is ?_
  refine ok_if (fun e => ?_) (fun e => ?_)
  · exact r_ref h1 h2 W1 hi1 hl hb S1
  · refine w_g W1 (by decide) ?_
    obtain ⟨L, B, P, Q, c, cs, H, R, hck⟩ := W1
    refine os_p H 0 0 rfl rfl rfl rfl fun m2 H2 S2 => ?_
    have W2 : WR xm M0 (kUp (kUp g 0 0) 7 x) sum lo bo pa ps st ck F m2 := ⟨L, B, P, Q, c, cs, H2, R.st S2, hck⟩
    refine ok_I (RI.mk' (c := 0) (s := 0) h1 h2 W2 ?_ (by omega) (by omega) (Nat.le_refl _) ((S1.trans S2).mono (by omega) (by omega)))
    obtain ⟨⟨a1, a2, a3⟩, a4⟩ := hi1
    have e6 : kUp g 0 0 6 = g 6 := rfl
    have hx : 0 ≤ x ∧ ¬ Int32.ofNat nb - 1 < x := by
      rw [e6, show g 6 = Int32.ofNat nb from a1] at e
      by_cases g1 : x < 0
      · rw [if_pos g1] at e; exact absurd rfl e
      · rw [if_neg g1] at e
        by_cases g2 : Int32.ofNat nb - 1 < x
        · rw [if_pos g2] at e; exact absurd rfl e
        · exact ⟨Int32.not_lt.mp g1, g2⟩
    obtain ⟨hx0, hx1⟩ := hx
    obtain ⟨ex, hxl⟩ := i_of hx0
    refine ⟨⟨a1, a2, Or.inr ⟨x.toNatClampNeg, ex, ?_⟩⟩, a4⟩
    by_cases hn : nb = 0
    · exfalso
      subst hn
      apply hx1
      rw [Int32.lt_iff_toInt_lt]
      rw [Int32.le_iff_toInt_le] at hx0
      have e1 : (Int32.ofNat 0 - 1).toInt = -1 := by decide
      have e0 : (0 : Int32).toInt = 0 := by decide
      omega
    · rw [i_sub1 (by omega), ex] at hx1
      have := (not_congr (i_lt (by omega) hxl)).mp hx1
      omega
theorem r_work (hX : kXok xm) (hN : 20 ≤ N) (hk : k < 512) (I : RI xm M0 nb k C S F mem) (x : Int32) : dOk (m_M_work xm N M0 x mem) (rI fun v m => RI xm M0 nb (k + 1) (C + 36) (S + 360) F m) := by
  obtain ⟨g, sum, lo, bo, pa, ps, ⟨vl, vr, rs, ya, sc⟩, ck, W, hi, hl, hb, h1, h2⟩ := I
  have up : ∀ r, (rI fun v m => RI xm M0 nb (k + 1) (C + 0) (S + 0) F m) r → (rI fun v m => RI xm M0 nb (k + 1) (C + 36) (S + 360) F m) r := by
    rintro r ⟨v, a, b⟩
    exact ⟨v, a, b.up (Nat.le_refl _) (by omega) (by omega)⟩
  unfold m_M_work
  refine m_start W fun m1 W1 S1 => ?_
  have hi1 : aInv nb (kUp g 0 0) lo bo pa ps (vl, vr, rs, ya, sc) := hi
  refine w_leftEmpty W1 ?_
  by_cases he : vl = []
  · rw [if_pos he, if_neg (show ¬ ((1 : Int32) = 0) by decide)]
    unfold m_M_work_26
    exact ok_mono (r_ref h1 h2 W1 hi1 hl hb S1) up
  · rw [if_neg he, if_pos rfl]
    refine w_rc W1 ?_
    refine ok_eI (m_yarn W1 hi.sw.2.2.2.2 hi1.jn) ?_
    refine ok_if (fun e => ?_) (fun e => ?_)
    · unfold m_M_work_26
      exact ok_mono (r_ref h1 h2 W1 hi1 hl hb S1) up
    · refine w_rc W1 ?_
      refine ok_cV (m_keep hX (by omega) W1 hi.sw hi.2.2.2.1) fun m2 h => ?_
      obtain ⟨W2, S2⟩ := h
      have hi2 := hi1.keep
      obtain ⟨b, hb7, hb4⟩ := hi2.some (k := 4) (by decide) e
      obtain ⟨t, v, rfl⟩ := snoc_of he
      obtain ⟨i, hv, hil⟩ := hi.2.1.2.2.1 v (List.mem_append_right _ (List.mem_singleton.mpr rfl))
      have h24 := hi.2.1.2.1
      dsimp only at h24
      rw [List.length_append, List.length_singleton] at h24
      refine w_rc W2 ?_
      refine ok_cI (m_workNow hX hN W2 hi.sw (by omega) (by omega) hb7 hb4 hv hil) fun x' m3 h => ?_
      obtain ⟨-, ck', hck, W3, S3⟩ := h
      refine ok_I (RI.mk' (c := 36) (s := 360) h1 h2 W3 (hi2.make (fun v hv => List.mem_append_left _ hv) (by omega) rfl rfl) (by simp; omega) (by omega) hck ((S1.trans (S2.trans S3)).mono (by omega) (by omega)))
theorem r_over (hX : kXok xm) (hN : 20 ≤ N) (hk : k < 512) (I : RI xm M0 nb k C S F mem) : dOk (m_M_over xm N M0 mem) (rI fun v m => RI xm M0 nb (k + 1) (C + 36) (S + 360) F m) := by
  obtain ⟨g, sum, lo, bo, pa, ps, ⟨vl, vr, rs, ya, sc⟩, ck, W, hi, hl, hb, h1, h2⟩ := I
  have up : ∀ r, (rI fun v m => RI xm M0 nb (k + 1) (C + 0) (S + 0) F m) r → (rI fun v m => RI xm M0 nb (k + 1) (C + 36) (S + 360) F m) r := by
    rintro r ⟨v, a, b⟩
    exact ⟨v, a, b.up (Nat.le_refl _) (by omega) (by omega)⟩
  have h24 := hi.2.1.2.1
  dsimp only at h24
  unfold m_M_over
  refine m_start W fun m1 W1 S1 => ?_
  have hi1 : aInv nb (kUp g 0 0) lo bo pa ps (vl, vr, rs, ya, sc) := hi
  refine w_all W1 ?_
  refine ok_if (fun e => ?_) (fun e => ?_)
  · unfold m_M_over_25
    exact ok_mono (r_ref h1 h2 W1 hi1 hl hb S1) up
  · have e : vl.length + vr.length ≠ 24 := fun z => e ((i_eq (b := 24) (by omega) (by decide)).mpr z)
    refine w_rc W1 ?_
    refine ok_eI (m_yarn W1 hi.sw.2.2.2.2 hi1.jn) ?_
    refine ok_if (fun e => ?_) (fun e => ?_)
    · unfold m_M_over_25
      exact ok_mono (r_ref h1 h2 W1 hi1 hl hb S1) up
    · refine w_rc W1 ?_
      refine ok_cV (m_keep hX (by omega) W1 hi.sw hi.2.2.2.1) fun m2 h => ?_
      obtain ⟨W2, S2⟩ := h
      have hi2 := hi1.keep
      obtain ⟨b, hb7, hb4⟩ := hi2.some (k := 3) (by decide) e
      refine w_rc W2 ?_
      refine ok_cI (m_overNow hX hN W2 hi.sw (by omega) (by omega) hb7 hb4) fun x' m3 h => ?_
      obtain ⟨-, ck', hck, W3, S3⟩ := h
      refine ok_I (RI.mk' (c := 36) (s := 360) h1 h2 W3 (hi2.make (fun v hv => hv) (by omega) rfl rfl) (by simp; omega) (by omega) hck ((S1.trans (S2.trans S3)).mono (by omega) (by omega)))
theorem r_slip (hX : kXok xm) (hN : 20 ≤ N) (I : RI xm M0 nb k C S F mem) : dOk (m_M_slip xm N M0 mem) (rI fun v m => RI xm M0 nb (k + 1) (C + 33) (S + 350) F m) := by
  obtain ⟨g, sum, lo, bo, pa, ps, ⟨vl, vr, rs, ya, sc⟩, ck, W, hi, hl, hb, h1, h2⟩ := I
  have up : ∀ r, (rI fun v m => RI xm M0 nb (k + 1) (C + 0) (S + 0) F m) r → (rI fun v m => RI xm M0 nb (k + 1) (C + 33) (S + 350) F m) r := by
    rintro r ⟨v, a, b⟩
    exact ⟨v, a, b.up (Nat.le_refl _) (by omega) (by omega)⟩
  unfold m_M_slip
  refine m_start W fun m1 W1 S1 => ?_
  have hi1 : aInv nb (kUp g 0 0) lo bo pa ps (vl, vr, rs, ya, sc) := hi
  refine w_leftEmpty W1 ?_
  by_cases he : vl = []
  · rw [if_pos he, if_neg (show ¬ ((1 : Int32) = 0) by decide)]
    exact ok_mono (r_ref h1 h2 W1 hi1 hl hb S1) up
  · rw [if_neg he, if_pos rfl]
    refine w_rc W1 ?_
    refine ok_cV (m_keep hX (by omega) W1 hi.sw hi.2.2.2.1) fun m2 h => ?_
    obtain ⟨W2, S2⟩ := h
    have hi2 := hi1.keep
    obtain ⟨t, v, rfl⟩ := snoc_of he
    have h24 := hi.2.1.2.1
    dsimp only at h24
    rw [List.length_append, List.length_singleton] at h24
    refine w_rc W2 ?_
    refine ok_cI (m_slipNow hX W2 hi.sw (by omega)) fun x' m3 h => ?_
    obtain ⟨-, W3, S3⟩ := h
    refine ok_I (RI.mk' (c := 33) (s := 350) h1 h2 W3 (hi2.move ?_ ?_ (by simp; omega) rfl rfl) (by omega) (by omega) (Nat.le_refl _) ((S1.trans (S2.trans S3)).mono (by omega) (by omega)))
    · exact fun v hv => Or.inl (List.mem_append_left _ hv)
    · intro w hw
      rcases List.mem_append.mp hw with h | h
      · exact Or.inr h
      · exact Or.inl (List.mem_append_right _ h)
theorem split3 {α : Type} {l : List α} {n2 n1 : Nat} (h : n1 + n2 ≤ l.length) : ∃ A xs ys, l = A ++ xs ++ ys ∧ xs.length = n2 ∧ ys.length = n1 := by
  refine ⟨l.take (l.length - (n1 + n2)), (l.drop (l.length - (n1 + n2))).take n2, (l.drop (l.length - (n1 + n2))).drop n2, ?_, ?_, ?_⟩
  · rw [List.append_assoc, List.take_append_drop, List.take_append_drop]
  · rw [List.length_take, List.length_drop]; omega
  · rw [List.length_drop, List.length_drop]; omega
theorem is_nat {x : Int32} {a b : Nat} (ha : a < 2 ^ 31) (hb : b < 2 ^ 31) (h : ¬ (if x < Int32.ofNat a then (0 : Int32) else if Int32.ofNat b < x then 0 else 1) = 0) : ∃ n : Nat, x = Int32.ofNat n ∧ a ≤ n ∧ n ≤ b := by
  by_cases g1 : x < Int32.ofNat a
  · rw [if_pos g1] at h; exact absurd rfl h
  · rw [if_neg g1] at h
    by_cases g2 : Int32.ofNat b < x
    · rw [if_pos g2] at h; exact absurd rfl h
    · have g1' := g1
      rw [Int32.lt_iff_toInt_lt, i_toI ha] at g1
      have x0 : 0 ≤ x := by
        rw [Int32.le_iff_toInt_le]
        have e0 : (0 : Int32).toInt = 0 := by decide
        omega
      obtain ⟨ex, hxl⟩ := i_of x0
      rw [ex] at g1' g2
      refine ⟨x.toNatClampNeg, ex, ?_, ?_⟩
      · have := (not_congr (i_lt hxl ha)).mp g1'
        omega
      · have := (not_congr (i_lt hb hxl)).mp g2
        omega
theorem r_cross (hX : kXok xm) (hN : 20 ≤ N) (I : RI xm M0 nb k C S F mem) (x y : Int32) : dOk (m_M_cross xm N M0 x y mem) (rI fun v m => RI xm M0 nb (k + 1) (C + 49) (S + 378) F m) := by
  obtain ⟨g, sum, lo, bo, pa, ps, ⟨vl, vr, rs, ya, sc⟩, ck, W, hi, hl, hb, h1, h2⟩ := I
  have up : ∀ r, (rI fun v m => RI xm M0 nb (k + 1) (C + 0) (S + 0) F m) r → (rI fun v m => RI xm M0 nb (k + 1) (C + 49) (S + 378) F m) r := by
    rintro r ⟨v, a, b⟩
    exact ⟨v, a, b.up (Nat.le_refl _) (by omega) (by omega)⟩
  have h24 := hi.2.1.2.1
  dsimp only at h24
  unfold m_M_cross
  refine m_start W fun m1 W1 S1 => ?_
  have hi1 : aInv nb (kUp g 0 0) lo bo pa ps (vl, vr, rs, ya, sc) := hi
  refine ok_eI m_is ?_
  refine ok_if (fun e => ?_) (fun e => ?_)
  · unfold m_M_cross_23
    exact ok_mono (r_ref h1 h2 W1 hi1 hl hb S1) up
  · obtain ⟨n1, rfl, p1, p2⟩ := is_nat (a := 1) (b := 3) (by decide) (by decide) e
    refine ok_eI m_is ?_
    refine ok_if (fun e => ?_) (fun e => ?_)
    · unfold m_M_cross_23
      exact ok_mono (r_ref h1 h2 W1 hi1 hl hb S1) up
    · obtain ⟨n2, rfl, p3, p4⟩ := is_nat (a := 1) (b := 3) (by decide) (by decide) e
      refine w_leftSize W1 ?_
      rw [i_add]
      refine ok_if (fun e => ?_) (fun e => ?_)
      · exact ok_mono (r_ref h1 h2 W1 hi1 hl hb S1) up
      · have e := (not_congr (i_lt (by omega) (by omega))).mp e
        refine w_rc W1 ?_
        refine ok_cV (m_keep hX (by omega) W1 hi.sw hi.2.2.2.1) fun m2 h => ?_
        obtain ⟨W2, S2⟩ := h
        have hi2 := hi1.keep
        obtain ⟨A, xs, ys, rfl, hx, hy⟩ := split3 (l := vl) (n1 := n1) (n2 := n2) (by omega)
        refine w_rc W2 ?_
        refine ok_cI (m_crossNow hX hN W2 hi.sw hx hy p2 p4 p3) fun x' m3 h => ?_
        obtain ⟨-, W3, S3⟩ := h
        refine ok_I (RI.mk' (c := 49) (s := 378) h1 h2 W3 (hi2.move ?_ ?_ (by simp only [List.length_append] at h24 ⊢; omega) rfl rfl) (by omega) (by omega) (Nat.le_refl _) ((S1.trans (S2.trans S3)).mono (by omega) (by omega)))
        · intro w hw
          refine Or.inl ?_
          simp only [List.mem_append] at hw ⊢
          rcases hw with (h | h) | h
          · exact Or.inl (Or.inl h)
          · exact Or.inr h
          · exact Or.inl (Or.inr h)
        · exact fun v hv => Or.inr hv
end KNN
