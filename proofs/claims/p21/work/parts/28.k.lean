/-! ===== the reference: what holds of its contents, and what one step does ===== -/
/-- a number of a loop that there is -/
def aId (n : Nat) (v : Int32) : Prop := ∃ i : Nat, v = Int32.ofNat i ∧ i < n
def aSt (n b : Nat) (st : aS) : Prop := aSw st ∧ st.1.length + st.2.1.length ≤ 24 ∧ (∀ v ∈ st.1, aId n v) ∧ (∀ v ∈ st.2.1, aId n v) ∧ (∀ z ∈ st.2.2.1, aId n (z.getD 0 0)) ∧ st.2.2.2.2 6 = Int32.ofNat n ∧ st.2.2.2.2 7 = Int32.ofNat b
/-- the past, the newest first: each with no more loops and no more bound off than the next -/
def aCh : Nat → Nat → List aS → Prop
  | _, _, [] => True
  | n, b, s :: r => ∃ n' b', n' ≤ n ∧ b' ≤ b ∧ aSt n' b' s ∧ aCh n' b' r
/-- a pattern: a number of at most nine digits, none of them 0 -/
def aNz (n : Nat) : Prop := ∀ i : Nat, 0 < n / 10 ^ i → n / 10 ^ i % 10 ≠ 0
def aPat (v : Int32) : Prop := ∃ n : Nat, v = Int32.ofNat n ∧ 1 ≤ n ∧ n ≤ 999999999 ∧ aNz n
def aInv (nb : Nat) (g : Nat → Int32) (lo : List kLf) (bo pa : List Int32) (ps : List aS) (st : aS) : Prop :=
  (g 6 = Int32.ofNat nb ∧ nb ≤ 4 ∧ (g 7 = -1 ∨ ∃ b : Nat, g 7 = Int32.ofNat b ∧ b < nb)) ∧ aSt lo.length bo.length st ∧ aCh lo.length bo.length ps.reverse ∧ ps.length ≤ 12 ∧ pa.length ≤ 6 ∧ (∀ v ∈ pa, aPat v)
section KK
variable {xm : Nat → Option kE} {mem : kM} {N M0 ck nb : Nat} {g : Nat → Int32} {sum : Int64} {lo : List kLf} {bo pa : List Int32} {ps : List aS} {vl vr ya : List Int32} {rs : List (List Int32)} {sc : Nat → Int32} {F : kSg}
theorem aId.mono {n m : Nat} {v : Int32} (h : aId n v) (hm : n ≤ m) : aId m v := by
  obtain ⟨i, h1, h2⟩ := h
  exact ⟨i, h1, by omega⟩
theorem kFall_0 {z : List Int32} : (kFall z).getD 0 0 = z.getD 0 0 := by
  unfold kFall
  split
  · cases z with
    | nil => rfl
    | cons a t => simp [List.getD]
  · rfl
/-- pulling off the left needle -/
theorem w_pullL {v : Int32} {K : Int32 → kM → dRes} {S : kO × kM → Prop} (W : WR xm M0 g sum lo bo pa ps (vl ++ [v], vr, rs, ya, sc) ck F mem) (h : ∀ m, WR xm M0 g sum lo bo pa ps (vl, vr, rs, ya, sc) ck F m → St xm mem m 0 0 → dOk (K v m) S) :
    dOk (dGR xm mem M0 15 5 fun v8 => dGR xm mem v8 14 0 fun v11 => dCI (m_M_pull xm N v11 mem) K) S := by
  obtain ⟨L, B, P, Q, ⟨s, ⟨la, lq, lm, lc, le⟩, r, u, y⟩, cs, H, R, hck⟩ := W
  obtain ⟨w, cc, r3, r4, r5, r6, ⟨t1, t2, t3, t4, t7, t8, t9⟩, r8⟩ := R
  refine ok_gR (H.look 0 0 rfl rfl) rfl ?_
  refine ok_gR (H.look 5 0 rfl rfl) rfl ?_
  refine ok_cI (m_pull (a := la) (q := lq) (mc := lm) (cap := lc) (es := le) (vs := vl) (v := v) t1 H (i := 6) rfl t7) fun x m hh => ?_
  obtain ⟨rfl, H1, w1, i1, S1⟩ := hh
  exact h m ⟨L, B, P, Q, (s, (la, lq, lm + 1, lc, le.dropLast), r, u, y), cs, H1, ⟨w, cc, r3.st S1, r4.st S1, r5.st S1, r6, ⟨w1, t2, t3, t4, i1, t8.st S1, t9⟩, fun i c z q1 q2 => (r8 i c z q1 q2).st S1⟩, hck⟩ S1
theorem snoc_of {α : Type} {l : List α} (h : l ≠ []) : ∃ t v, l = t ++ [v] := ⟨l.dropLast, l.getLast h, (List.dropLast_concat_getLast h).symm⟩
/-- the loops' list stands at its place -/
theorem w_loop {i : Nat} {K : Nat → kM → dRes} {S : kO × kM → Prop} {st : aS} (hX : kXok xm) (W : WR xm M0 g sum lo bo pa ps st ck F mem) (hi : i < lo.length) (h : ∀ e, kLo xm mem e lo[i] → dOk (K e mem) S) : dOk (dRc xm mem (M0 + 1) 4 <| dCR (m_AL_get xm N (M0 + 1) (Int32.ofNat i) mem) K) S := by
  obtain ⟨⟨La, Lq, Lm, Lc, Le⟩, B, P, Q, c, cs, H, R, hck, hL, hB, hP, hQ⟩ := W
  dsimp only at hL
  subst hL
  obtain ⟨⟨w1, w2⟩, cc, r3, r4⟩ := R
  have hl : i < Le.length := by have := r3.1; dsimp only at this; omega
  refine ok_rc (ls_hd H 1 rfl) ?_
  refine ok_eR (ls_get (a := M0 + 1) (q := Lq) (mc := Lm) (cap := Lc) (es := Le) hX w1 H 1 rfl hl) ?_
  exact h _ (r3.at hl hi)
theorem w_gL {K : Nat → dRes} {S : kO × kM → Prop} {st : aS} (W : WR xm M0 g sum lo bo pa ps st ck F mem) (h : dOk (K (M0 + 1)) S) : dOk (dGR xm mem M0 15 1 K) S := by
  obtain ⟨L, B, P, Q, c, cs, H, R, hck, hL, hB, hP, hQ⟩ := W
  exact ok_gR (H.look 0 0 rfl rfl) (show some (Value.ref L.1) = some (.ref (M0 + 1)) by rw [hL]) h
theorem w_gB {K : Nat → dRes} {S : kO × kM → Prop} {st : aS} (W : WR xm M0 g sum lo bo pa ps st ck F mem) (h : dOk (K (M0 + 2)) S) : dOk (dGR xm mem M0 15 2 K) S := by
  obtain ⟨L, B, P, Q, c, cs, H, R, hck, hL, hB, hP, hQ⟩ := W
  exact ok_gR (H.look 0 0 rfl rfl) (show some (Value.ref B.1) = some (.ref (M0 + 2)) by rw [hB]) h
theorem w_gP {K : Nat → dRes} {S : kO × kM → Prop} {st : aS} (W : WR xm M0 g sum lo bo pa ps st ck F mem) (h : dOk (K (M0 + 3)) S) : dOk (dGR xm mem M0 15 3 K) S := by
  obtain ⟨L, B, P, Q, c, cs, H, R, hck, hL, hB, hP, hQ⟩ := W
  exact ok_gR (H.look 0 0 rfl rfl) (show some (Value.ref P.1) = some (.ref (M0 + 3)) by rw [hP]) h
theorem w_gQ {K : Nat → dRes} {S : kO × kM → Prop} {st : aS} (W : WR xm M0 g sum lo bo pa ps st ck F mem) (h : dOk (K (M0 + 4)) S) : dOk (dGR xm mem M0 15 4 K) S := by
  obtain ⟨L, B, P, Q, c, cs, H, R, hck, hL, hB, hP, hQ⟩ := W
  exact ok_gR (H.look 0 0 rfl rfl) (show some (Value.ref Q.1) = some (.ref (M0 + 4)) by rw [hQ]) h
theorem w_rc {K : dRes} {S : kO × kM → Prop} {st : aS} (W : WR xm M0 g sum lo bo pa ps st ck F mem) (h : dOk K S) : dOk (dRc xm mem M0 15 K) S := by
  obtain ⟨fs, h1⟩ := W.hd
  exact ok_rc h1 h
/-- a number of the reference -/
theorem w_g {k : Nat} {K : Int32 → dRes} {S : kO × kM → Prop} {st : aS} (W : WR xm M0 g sum lo bo pa ps st ck F mem) (hk : k = 0 ∨ k = 6 ∨ k = 7) (h : dOk (K (g k)) S) : dOk (dGI xm mem M0 15 k K) S := by
  obtain ⟨L, B, P, Q, c, cs, H, R, hck⟩ := W
  rcases hk with rfl | rfl | rfl
  · exact ok_gI (H.look 0 0 rfl rfl) rfl h
  · exact ok_gI (H.look 0 0 rfl rfl) rfl h
  · exact ok_gI (H.look 0 0 rfl rfl) rfl h
theorem aSw.pop {v : Int32} (ha : aSw (vl ++ [v], vr, rs, ya, sc)) : aSw (vl, vr, rs, ya, sc) := by
  obtain ⟨a1, a2⟩ := ha
  refine ⟨?_, a2⟩
  simp at a1
  show vl.length ≤ 24
  omega
theorem m_workNow {v : Int32} {i b : Nat} {k : Int32} (hX : kXok xm) (hN : 20 ≤ N) (W : WR xm M0 g sum lo bo pa ps (vl ++ [v], vr, rs, ya, sc) ck F mem) (ha : aSw (vl ++ [v], vr, rs, ya, sc)) (hr : vr.length < 24) (hlo : lo.length ≤ 12500) (hj : g 7 = Int32.ofNat b) (hb : b < 4) (hv : v = Int32.ofNat i) (hi : i < lo.length) :
    dOk (m_M_workNow xm N M0 k mem) (rI fun x m => x = sc 6 ∧ ∃ ck', ck ≤ ck' ∧ WR xm M0 g sum (lo ++ [(if k = 0 then 1 else 2, g 7, sc 5, lo[i].2.2.2.1 + 1, sc 4, 1)]) bo pa ps (vl, vr ++ [sc 6], rs.map kFall, ya.set b (ya.getD b 0 - 4), kUp sc 6 (sc 6 + 1)) ck' F m ∧ St xm mem m 5 (60 + 4 * (ck' - ck))) := by
  have go : ∀ k1 : Int32, dOk (m_M_workNow_10 xm N M0 M0 k1 mem) (rI fun x m => x = sc 6 ∧ ∃ ck', ck ≤ ck' ∧ WR xm M0 g sum (lo ++ [(k1, g 7, sc 5, lo[i].2.2.2.1 + 1, sc 4, 1)]) bo pa ps (vl, vr ++ [sc 6], rs.map kFall, ya.set b (ya.getD b 0 - 4), kUp sc 6 (sc 6 + 1)) ck' F m ∧ St xm mem m 5 (60 + 4 * (ck' - ck))) := by
    intro k1
    unfold m_M_workNow_10
    refine w_gL W ?_
    refine w_pullL W fun m1 W1 S1 => ?_
    rw [hv]
    refine w_loop hX W1 hi fun e he => ?_
    refine ok_ccO he ?_
    refine ok_gI he rfl ?_
    refine w_rc W1 ?_
    refine ok_cI (m_make hX hN W1 ha.pop hr hlo hj hb) fun x m2 h => ?_
    obtain ⟨rfl, ck', h1, h2, S2⟩ := h
    exact ok_I ⟨rfl, ck', h1, h2, (S1.trans S2).mono (by omega) (by omega)⟩
  unfold m_M_workNow
  refine ok_if (fun e => ?_) (fun e => ?_)
  · rw [if_pos e]; exact go 1
  · rw [if_neg e]; exact go 2
/-- a number of the state is put -/
theorem w_sP {k : Nat} {x : Int32} {K : kM → dRes} {S : kO × kM → Prop} (W : WR xm M0 g sum lo bo pa ps (vl, vr, rs, ya, sc) ck F mem) (hk : k = 4 ∨ k = 5 ∨ k = 8 ∨ k = 9 ∨ k = 10 ∨ k = 7) {s : Nat} {fs : List Value} (h0 : kLook xm mem M0 = some (.inl (15, fs))) (hs : fs[5]? = some (.ref s)) (h : ∀ m, WR xm M0 g sum lo bo pa ps (vl, vr, rs, ya, kUp sc k x) ck F m → St xm mem m 0 0 → dOk (K m) S) : dOk (dP xm mem s 14 k (.int x) K) S := by
  obtain ⟨L, B, P, Q, ⟨s', l, r, u, y⟩, cs, H, R, hck⟩ := W
  have h3 := H.look (xm := xm) 0 0 rfl rfl
  rw [h3] at h0
  cases h0
  cases hs
  have fin : ∀ m, HpS (wSg M0 L B P Q (s', l, r, u, y) cs g sum ps (vl, vr, rs, ya, kUp sc k x) F) m → St xm mem m 0 0 → dOk (K m) S := fun m H1 S1 => h m ⟨L, B, P, Q, (s', l, r, u, y), cs, H1, R.st S1, hck⟩ S1
  rcases hk with rfl | rfl | rfl | rfl | rfl | rfl
  · exact os_p H 5 0 rfl rfl rfl rfl fun m H1 S1 => fin m H1 S1
  · exact os_p H 5 0 rfl rfl rfl rfl fun m H1 S1 => fin m H1 S1
  · exact os_p H 5 0 rfl rfl rfl rfl fun m H1 S1 => fin m H1 S1
  · exact os_p H 5 0 rfl rfl rfl rfl fun m H1 S1 => fin m H1 S1
  · exact os_p H 5 0 rfl rfl rfl rfl fun m H1 S1 => fin m H1 S1
  · exact os_p H 5 0 rfl rfl rfl rfl fun m H1 S1 => fin m H1 S1
/-- the state as it is read: its object, its fields -/
theorem w_s {K : Nat → dRes} {S : kO × kM → Prop} (W : WR xm M0 g sum lo bo pa ps (vl, vr, rs, ya, sc) ck F mem) (h : ∀ s fs la ra ua y, kLook xm mem M0 = some (.inl (15, fs)) → fs[5]? = some (.ref s) → kLook xm mem s = some (stE la ra ua y sc) → dOk (K s) S) : dOk (dGR xm mem M0 15 5 K) S := by
  obtain ⟨L, B, P, Q, ⟨s', l, r, u, y⟩, cs, H, R, hck⟩ := W
  have h3 := H.look (xm := xm) 0 0 rfl rfl
  exact ok_gR h3 rfl (h s' _ _ _ _ _ h3 rfl (H.look (xm := xm) 5 0 rfl rfl))
theorem m_overNow {b : Nat} (hX : kXok xm) (hN : 20 ≤ N) (W : WR xm M0 g sum lo bo pa ps (vl, vr, rs, ya, sc) ck F mem) (ha : aSw (vl, vr, rs, ya, sc)) (hr : vr.length < 24) (hlo : lo.length ≤ 12500) (hj : g 7 = Int32.ofNat b) (hb : b < 4) :
    dOk (m_M_overNow xm N M0 mem) (rI fun x m => x = sc 6 ∧ ∃ ck', ck ≤ ck' ∧ WR xm M0 g sum (lo ++ [(3, g 7, sc 5, 1, sc 4, 0)]) bo pa ps (vl, vr ++ [sc 6], rs.map kFall, ya.set b (ya.getD b 0 - 3), kUp (kUp sc 8 (sc 8 + 1)) 6 (sc 6 + 1)) ck' F m ∧ St xm mem m 5 (60 + 4 * (ck' - ck))) := by
  unfold m_M_overNow
  refine w_s W fun s fs la ra ua y h0 hs h1 => ?_
  refine ok_gI h1 rfl ?_
  refine w_sP W (by decide) h0 hs fun m1 W1 S1 => ?_
  refine w_rc W1 ?_
  refine ok_cI (m_make hX hN W1 ha hr hlo hj hb) fun x m2 h => ?_
  obtain ⟨rfl, ck', h1, h2, S2⟩ := h
  exact ok_I ⟨rfl, ck', h1, h2, (S1.trans S2).mono (by omega) (by omega)⟩
theorem m_togNow {b : Nat} {n : Nat} {k : Int32} {ws : List Int32} (hX : kXok xm) (hN : 20 ≤ N) (W : WR xm M0 g sum lo bo pa ps (vl ++ ws, vr, rs, ya, sc) ck F mem) (hn : ws.length = n) (hn3 : n ≤ 3) (ha : aSw (vl ++ ws, vr, rs, ya, sc)) (hr : vr.length < 24) (hlo : lo.length ≤ 12500) (hj : g 7 = Int32.ofNat b) (hb : b < 4) :
    dOk (m_M_togetherNow xm N M0 (Int32.ofNat n) k mem) (rI fun x m => x = sc 6 ∧ ∃ ck', ck ≤ ck' ∧ WR xm M0 g sum (lo ++ [(if k = 0 then 4 else 5, g 7, sc 5, 1, sc 4, Int32.ofNat n)]) bo pa ps (vl, vr ++ [sc 6], rs.map kFall, ya.set b (ya.getD b 0 - 5), kUp sc 6 (sc 6 + 1)) ck' F m ∧ St xm mem m 5 (60 + 4 * (ck' - ck))) := by
  unfold m_M_togetherNow
  have loop : ∀ (j : Nat) (f : Nat) (ws : List Int32) (mem : kM) (i : Nat), i + j = n → j < f → ws.length = j → WR xm M0 g sum lo bo pa ps (vl ++ ws, vr, rs, ya, sc) ck F mem → aSw (vl ++ ws, vr, rs, ya, sc) → dOk (m_M_togetherNow_2 xm N f M0 (Int32.ofNat n) k (Int32.ofNat i) mem) (rI fun x m => x = sc 6 ∧ ∃ ck', ck ≤ ck' ∧ WR xm M0 g sum (lo ++ [(if k = 0 then 4 else 5, g 7, sc 5, 1, sc 4, Int32.ofNat n)]) bo pa ps (vl, vr ++ [sc 6], rs.map kFall, ya.set b (ya.getD b 0 - 5), kUp sc 6 (sc 6 + 1)) ck' F m ∧ St xm mem m 5 (60 + 4 * (ck' - ck))) := by
    intro j
    induction j with
    | zero =>
      intro f ws mem i hi hf hw W ha
      obtain ⟨f, rfl⟩ : ∃ f', f = f' + 1 := ⟨f - 1, by omega⟩
      have hw : ws = [] := List.length_eq_zero_iff.mp hw
      subst hw
      rw [List.append_nil] at W ha
      rw [m_M_togetherNow_2, if_neg (fun z => by have := (i_lt (by omega) (by omega)).mp z; omega)]
      have fin : ∀ k1 : Int32, dOk (m_M_togetherNow_34 xm N (Int32.ofNat n) M0 k1 mem) (rI fun x m => x = sc 6 ∧ ∃ ck', ck ≤ ck' ∧ WR xm M0 g sum (lo ++ [(k1, g 7, sc 5, 1, sc 4, Int32.ofNat n)]) bo pa ps (vl, vr ++ [sc 6], rs.map kFall, ya.set b (ya.getD b 0 - 5), kUp sc 6 (sc 6 + 1)) ck' F m ∧ St xm mem m 5 (60 + 4 * (ck' - ck))) := by
        intro k1
        unfold m_M_togetherNow_34
        refine w_rc W ?_
        exact ok_cI (m_make hX hN W ha hr hlo hj hb) fun x m2 h => ok_I h
      refine ok_if (fun e => ?_) (fun e => ?_)
      · rw [if_pos e]; exact fin 4
      · rw [if_neg e]; exact fin 5
    | succ j ih =>
      intro f ws mem i hi hf hw W ha
      obtain ⟨f, rfl⟩ : ∃ f', f = f' + 1 := ⟨f - 1, by omega⟩
      obtain ⟨t, v, rfl⟩ := snoc_of (l := ws) (fun e => by rw [e] at hw; cases hw)
      rw [m_M_togetherNow_2, if_pos ((i_lt (by omega) (by omega)).mpr (by omega))]
      rw [← List.append_assoc] at W ha
      refine w_pullL W fun m1 W1 S1 => ?_
      rw [i_add1]
      refine ok_mono (ih f t m1 (i + 1) (by omega) (by omega) (by simp at hw; omega) W1 ha.pop) ?_
      rintro r ⟨x, h1, h2, ck', h3, h4, h5⟩
      exact ⟨x, h1, h2, ck', h3, h4, (S1.trans h5).mono (by omega) (by omega)⟩
  exact loop n N ws mem 0 (by omega) (by omega) hn W ha
theorem m_slipNow {v : Int32} (hX : kXok xm) (W : WR xm M0 g sum lo bo pa ps (vl ++ [v], vr, rs, ya, sc) ck F mem) (ha : aSw (vl ++ [v], vr, rs, ya, sc)) (hr : vr.length < 24) :
    dOk (m_M_slipNow xm N M0 mem) (rI fun x m => x = v ∧ WR xm M0 g sum lo bo pa ps (vl, vr ++ [v], rs, ya, sc) ck F m ∧ St xm mem m 2 50) := by
  unfold m_M_slipNow
  refine w_pullL W fun m1 W1 S1 => ?_
  obtain ⟨L, B, P, Q, ⟨s, l, ⟨ra, rq, rm, rc, re⟩, u, y⟩, cs, H, R, hck⟩ := W1
  obtain ⟨w, cc, r3, r4, r5, r6, ⟨t1, t2, t3, ⟨t4, t5, t6⟩, t7, t8, t9⟩, r8⟩ := R
  dsimp only at t2 t5 t8
  have n8 := t8.1
  refine ok_gR (H.look 0 0 rfl rfl) rfl ?_
  refine ok_gR (H.look 5 0 rfl rfl) rfl ?_
  refine ok_cR (int_valueOf hX H v) fun e m2 h => ?_
  obtain ⟨hiv, H2, S2⟩ := h
  have H2 : HpS _ m2 := H2
  refine ok_rc (ls_hd H2 7 rfl) ?_
  refine ok_cI (ls_add (q := rq) (mc := rm) (cap := rc) (es := re) hX t2 (by omega) H2 7 rfl (t8.st S2).ok hiv.ok) fun x m3 h => ?_
  obtain ⟨-, q', H3, w3, S3⟩ := h
  have ks := kAc_small (n := re.length) (cap := rc) (by omega) t5
  have ST := S2.trans S3
  refine ok_I ⟨rfl, ⟨L, B, P, Q, (s, l, (ra, q', rm + 1, kAc rc re.length, re ++ [e]), u, y), cs, H3, ⟨w, cc, r3.st ST, r4.st ST, r5.st ST, r6, ⟨t1, w3, t3, ⟨t4, ks.1, t6⟩, t7.st ST, (t8.st ST).app (IVs.one (hiv.st S3)), t9⟩, fun i c z q1 q2 => (r8 i c z q1 q2).st ST⟩, hck⟩, (S1.trans ST).mono (by omega) (by have := ks.2; omega)⟩
end KK
