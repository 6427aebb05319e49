/-! ===== the law's loop ===== -/
/-- the end of the law: 1 is answered, within its room -/
def lwS (C0 S0 : Nat) : kO × kM → Prop := fun r => r.1 = .inl (some (.int 1)) ∧ r.2.length ≤ C0 + 719540 ∧ kSl r.2 ≤ S0 + 4406044
section KZU
variable {xm : Nat → Option kE} {mem : kM} {F G A : kSg} {S : kO × kM → Prop} {N k n nb j O M0 C C0 S0 : Nat} {xs : List Int32} {w : Int64}
theorem sc_IL {i : Int32} {K : Int32 → dRes} (hS : xm 0 = some (.inr (.inl (0, xs)))) (hi : kInB i xs.length = true) (h : dOk (K (xs.getD i.toNatClampNeg 0)) S) : dOk (dIL xm 0 mem 0 i K) S := by
  have h0 : kLook xm mem 0 = some (.inr (.inl (0, xs))) := by
    unfold kLook
    rw [if_pos (by decide)]
    exact hS
  exact ok_iL h0 hi h
theorem RI.out (I : RI xm M0 nb k C S0 (A ++ [oU O w]) mem) : kLook xm mem O = some (.inl (12, [.long w])) := by
  obtain ⟨G, H, -⟩ := I.swap
  refine H.look A.length ?_
  rw [List.append_assoc, List.getElem?_append_right (Nat.le_refl _), Nat.sub_self]
  rfl
theorem lg_cmp_self (x : Int64) : lg_cmp x x = 0 := by
  unfold lg_cmp
  simp
theorem lw_buy (hX : kXok xm) (hN : 20001 ≤ N) (hS : xm 0 = some (.inr (.inl (0, xs)))) {a : Int32} (g1 : kInB (a + 1) xs.length = true) (I : LI xm M0 O nb k C S0 w mem) {K : kM → dRes} {bad : kM → dRes} (next : ∀ (nb : Nat) (m : kM) (w : Int64), LI xm M0 O nb (k + 1) (C + 30 + 1141) (S0 + 900 + 6690) w m → dOk (K m) S) : dOk (dIL xm 0 mem 0 (a + 1) fun v170 => dCI (m_law_buy xm N 1000 v170 O mem) fun v172 m172 => dIL xm 0 m172 0 (a + 1) fun v183 => dRc xm m172 M0 15 <| dCI (m_M_buy xm N M0 v183 m172) fun v184 m184 => dRc xm m184 M0 15 <| dCI (m_M_thrown xm N M0 m184) fun v190 m190 => if v190 = v172 then (if v172 = 0 then (dGJ xm m190 O 12 0 fun v206 => if (lg_cmp v206 (Int32.toInt64 v184)) = 0 then K m190 else bad m190) else K m190) else bad m190) S := by
  refine sc_IL hS g1 ?_
  obtain ⟨q, cap, G, h1, h2, H, back⟩ := I.cls
  refine ok_cI (l_buy I.nb4 h1 h2 H) fun v m hh => ?_
  refine sc_IL hS g1 ?_
  generalize xs.getD (a + 1).toNatClampNeg 0 = x at hh ⊢
  by_cases e : (if x < 1 then (0 : Int32) else if 9999 < x then 0 else 1) = 0
  · rw [if_pos e] at hh
    obtain ⟨rfl, D⟩ := hh
    obtain ⟨q1, cap1, A1, k1, k2, tA, I1⟩ := back m nb 1 6 w (by decide) (by decide) D
    obtain ⟨fs, hfs⟩ := I1.hd
    refine ok_rc hfs ?_
    refine ok_cI (r_buy hX (by omega) I1 x) fun v2 m2 hh2 => ?_
    rw [if_pos e] at hh2
    obtain ⟨fs2, hfs2⟩ := hh2.ri.hd
    refine ok_rc hfs2 ?_
    refine ok_eI (m_thrown hh2) ?_
    rw [if_pos rfl, if_neg (show ¬ ((1 : Int32) = 0) by decide)]
    exact next nb m2 w (LI.of k1 k2 tA hh2.ri (by omega) (by omega))
  · rw [if_neg e] at hh
    by_cases e4 : nb = 4
    · rw [if_pos e4] at hh
      obtain ⟨rfl, D⟩ := hh
      obtain ⟨q1, cap1, A1, k1, k2, tA, I1⟩ := back m nb 1 6 w (by decide) (by decide) D
      obtain ⟨fs, hfs⟩ := I1.hd
      refine ok_rc hfs ?_
      refine ok_cI (r_buy hX (by omega) I1 x) fun v2 m2 hh2 => ?_
      rw [if_neg e, if_pos e4] at hh2
      obtain ⟨fs2, hfs2⟩ := hh2.ri.hd
      refine ok_rc hfs2 ?_
      refine ok_eI (m_thrown hh2) ?_
      rw [if_pos rfl, if_neg (show ¬ ((2 : Int32) = 0) by decide)]
      exact next nb m2 w (LI.of k1 k2 tA hh2.ri (by omega) (by omega))
    · rw [if_neg e4] at hh
      obtain ⟨rfl, D⟩ := hh
      obtain ⟨q1, cap1, A1, k1, k2, tA, I1⟩ := back m (nb + 1) 1 6 _ (by decide) (by decide) D
      obtain ⟨fs, hfs⟩ := I1.hd
      refine ok_rc hfs ?_
      refine ok_cI (r_buy hX (by omega) I1 x) fun v2 m2 hh2 => ?_
      rw [if_neg e, if_neg e4] at hh2
      obtain ⟨rfl, hh2⟩ := hh2
      obtain ⟨fs2, hfs2⟩ := hh2.ri.hd
      refine ok_rc hfs2 ?_
      refine ok_eI (m_thrown hh2) ?_
      rw [if_pos rfl, if_pos rfl]
      refine ok_gJ hh2.ri.out rfl ?_
      rw [if_pos (lg_cmp_self _)]
      exact next (nb + 1) m2 _ (LI.of k1 k2 tA hh2.ri (by omega) (by omega))
theorem lw_loop (hX : kXok xm) (hN : 20001 ≤ N) (hS : xm 0 = some (.inr (.inl (0, xs)))) (hL : xs.length ≤ 1536) : ∀ (d j f nb : Nat) (w : Int64) (mem : kM), j + d = 512 → d < f → LI xm M0 O nb j (C0 + 1171 * j) (S0 + 7590 * j) w mem → dOk (m_law_law_27 xm N f 0 1000 M0 O (Int32.ofNat (3 * j)) mem) (lwS C0 S0) := by
  have h0 : ∀ mem, kLook xm mem 0 = some (.inr (.inl (0, xs))) := by
    intro mem
    unfold kLook
    rw [if_pos (by decide)]
    exact hS
  have fin : ∀ {j nb : Nat} {w : Int64} {mem : kM}, j ≤ 512 → LI xm M0 O nb j (C0 + 1171 * j) (S0 + 7590 * j) w mem → dOk (some (.inl (some (.int 1)), mem)) (lwS C0 S0) := by
    intro j nb w mem hj I
    obtain ⟨q, cap, A, h1, h2, tA, I⟩ := I
    obtain ⟨r1, r2⟩ := I.room
    refine ⟨_, rfl, rfl, ?_, ?_⟩
    · show mem.length ≤ _
      omega
    · show kSl mem ≤ _
      have : kPhi cap ≤ 359964 := by
        unfold kPhi
        split <;> omega
      omega
  have cmp : ∀ j : Nat, j ≤ 512 → (Int32.ofNat xs.length - 3 < Int32.ofNat (3 * j) ↔ xs.length < 3 * j + 3) := by
    intro j hj
    have e3 : (3 : Int32) = Int32.ofNat 3 := rfl
    rw [Int32.lt_iff_toInt_lt, i_toI (show 3 * j < 2 ^ 31 by omega), Int32.toInt_sub, i_toI (show xs.length < 2 ^ 31 by omega), e3, i_toI (by decide), Int.bmod_eq_of_le (by omega) (by omega)]
    omega
  intro d
  induction d with
  | zero =>
    intro j f nb w mem hd hf I
    obtain ⟨f, rfl⟩ : ∃ f', f = f' + 1 := ⟨f - 1, by omega⟩
    rw [m_law_law_27]
    refine ok_lenI (h0 mem) (by decide) ?_
    rw [if_pos ((cmp j (by omega)).mpr (by omega))]
    exact fin (by omega) I
  | succ d ih =>
    intro j f nb w mem hd hf I
    obtain ⟨f, rfl⟩ : ∃ f', f = f' + 1 := ⟨f - 1, by omega⟩
    rw [m_law_law_27]
    refine ok_lenI (h0 mem) (by decide) ?_
    refine ok_if (fun _ => fin (by omega) I) (fun g => ?_)
    have g : 3 * j + 3 ≤ xs.length := Nat.not_lt.mp fun z => g ((cmp j (by omega)).mpr z)
    have hk : j < 512 := by omega
    have g0 : kInB (Int32.ofNat (3 * j)) xs.length = true := i_inB (by omega) (by omega)
    have g1 : kInB (Int32.ofNat (3 * j) + 1) xs.length = true := by rw [i_add1]; exact i_inB (by omega) (by omega)
    have g2 : kInB (Int32.ofNat (3 * j) + 2) xs.length = true := by rw [show (2 : Int32) = Int32.ofNat 2 from rfl, i_add]; exact i_inB (by omega) (by omega)
    have next0 : ∀ (nb : Nat) (m : kM) (w : Int64), LI xm M0 O nb (j + 1) (C0 + 1171 * (j + 1)) (S0 + 7590 * (j + 1)) w m → dOk (m_law_law_1007 xm N (fun a0 a1 a2 a3 a4 mem => m_law_law_27 xm N f a0 a1 a2 a3 a4 mem) 0 1000 M0 O (Int32.ofNat (3 * j)) m) (lwS C0 S0) := by
      intro nb m w I
      unfold m_law_law_1007
      rw [show (3 : Int32) = Int32.ofNat 3 from rfl, i_add]
      exact ih (j + 1) f nb w m (by omega) (by omega) I
    have up : ∀ {nb : Nat} {m : kM} {w : Int64} {C S : Nat}, C ≤ C0 + 1171 * (j + 1) → S ≤ S0 + 7590 * (j + 1) → LI xm M0 O nb (j + 1) C S w m → LI xm M0 O nb (j + 1) (C0 + 1171 * (j + 1)) (S0 + 7590 * (j + 1)) w m := by
      intro nb m w C S hC hS I
      obtain ⟨q, cap, A, h1, h2, tA, I⟩ := I
      exact ⟨q, cap, A, h1, h2, tA, I.up (Nat.le_refl _) (by omega) (by omega)⟩
    have next : ∀ (nb : Nat) (m : kM) (w : Int64), LI xm M0 O nb (j + 1) (C0 + 1171 * j + 30 + 1141) (S0 + 7590 * j + 900 + 6690) w m → dOk (m_law_law_1007 xm N (fun a0 a1 a2 a3 a4 mem => m_law_law_27 xm N f a0 a1 a2 a3 a4 mem) 0 1000 M0 O (Int32.ofNat (3 * j)) m) (lwS C0 S0) := fun nb m w I => next0 nb m w (up (by omega) (by omega) I)
    refine sc_IL hS g0 ?_
    refine sw_all (show (26 : Int) - 0 < ((27 : Nat) : Int) by decide) (next0 nb mem w ?_) fun t ht => ?_
    · obtain ⟨q, cap, A, h1, h2, tA, I⟩ := I
      exact ⟨q, cap, A, h1, h2, tA, I.up (by omega) (by omega) (by omega)⟩
    simp only [List.mem_cons, List.not_mem_nil, or_false] at ht
    rcases ht with rfl | rfl | rfl | rfl | rfl | rfl | rfl | rfl | rfl | rfl | rfl | rfl | rfl | rfl | rfl | rfl | rfl | rfl | rfl | rfl | rfl | rfl | rfl | rfl | rfl | rfl | rfl
    · exact lw_buy hX hN hS g1 I next
    · refine sc_IL hS g1 ?_
      refine li_cI I (fun q cap G k1 k2 H => l_join hX (by omega) I.nb4 k1 k2 H) fun v m1 w1 I1 => ?_
      refine sc_IL hS g1 ?_
      refine li_rcR I1 ?_
      exact li_rI (c := 0) (s := 0) I1 (fun C S F I => r_join I _) (by decide) (by decide) fun v m2 I2 => next _ _ _ I2
    · refine sc_IL hS g1 ?_
      refine li_cI I (fun q cap G k1 k2 H => l_cast hX (by omega) I.nb4 k1 k2 H) fun v m1 w1 I1 => ?_
      refine sc_IL hS g1 ?_
      refine li_rcR I1 ?_
      exact li_rI I1 (fun C S F I => r_cast hX (by omega) hk I _) (by decide) (by decide) fun v m2 I2 => next _ _ _ I2
    · refine sc_IL hS g1 ?_
      have go : ∀ s : Int32, dOk (m_law_law_292 xm N (fun a0 a1 a2 a3 a4 mem => m_law_law_27 xm N f a0 a1 a2 a3 a4 mem) 0 1000 M0 O (Int32.ofNat (3 * j)) 1000 s mem) (lwS C0 S0) := by
        intro s
        unfold m_law_law_292 m_law_law_313
        refine li_cI I (fun q cap G k1 k2 H => l_work hX (by omega) I.nb4 k1 k2 H) fun v m1 w1 I1 => ?_
        refine sc_IL hS g1 ?_
        refine ok_if (fun _ => ?_) (fun _ => ?_)
        · refine li_rcR I1 ?_
          exact li_rI I1 (fun C S F I => r_work hX (by omega) hk I _) (by decide) (by decide) fun v m2 I2 => next _ _ _ I2
        · refine li_rcR I1 ?_
          exact li_rI I1 (fun C S F I => r_work hX (by omega) hk I _) (by decide) (by decide) fun v m2 I2 => next _ _ _ I2
      exact ok_if (fun _ => go _) (fun _ => go _)
    · refine li_cI I (fun q cap G k1 k2 H => l_over hX (by omega) I.nb4 k1 k2 H) fun v m1 w1 I1 => ?_
      refine li_rcR I1 ?_
      exact li_rI I1 (fun C S F I => r_over hX (by omega) hk I) (by decide) (by decide) fun v m2 I2 => next _ _ _ I2
    · refine sc_IL hS g1 ?_
      refine sc_IL hS g2 ?_
      have go : ∀ s s1 : Int32, dOk (m_law_law_358 xm N (fun a0 a1 a2 a3 a4 mem => m_law_law_27 xm N f a0 a1 a2 a3 a4 mem) 0 1000 M0 O (Int32.ofNat (3 * j)) 1000 s s1 mem) (lwS C0 S0) := by
        intro s s1
        unfold m_law_law_358 m_law_law_385
        refine li_cI I (fun q cap G k1 k2 H => l_together hX (by omega) I.nb4 k1 k2 H) fun v m1 w1 I1 => ?_
        refine sc_IL hS g1 ?_
        refine sc_IL hS g2 ?_
        refine ok_if (fun _ => ?_) (fun _ => ?_)
        · refine li_rcR I1 ?_
          exact li_rI I1 (fun C S F I => r_together hX (by omega) hk I _ _) (by decide) (by decide) fun v m2 I2 => next _ _ _ I2
        · refine li_rcR I1 ?_
          exact li_rI I1 (fun C S F I => r_together hX (by omega) hk I _ _) (by decide) (by decide) fun v m2 I2 => next _ _ _ I2
      exact ok_if (fun _ => go _ _) (fun _ => go _ _)
    · refine li_cI I (fun q cap G k1 k2 H => l_slip hX (by omega) I.nb4 k1 k2 H) fun v m1 w1 I1 => ?_
      refine li_rcR I1 ?_
      exact li_rI I1 (fun C S F I => r_slip hX (by omega) I) (by decide) (by decide) fun v m2 I2 => next _ _ _ I2
    · refine sc_IL hS g1 ?_
      refine sc_IL hS g2 ?_
      refine li_cI I (fun q cap G k1 k2 H => l_cross hX (by omega) I.nb4 k1 k2 H) fun v m1 w1 I1 => ?_
      refine sc_IL hS g1 ?_
      refine sc_IL hS g2 ?_
      refine li_rcR I1 ?_
      exact li_rI I1 (fun C S F I => r_cross hX (by omega) I _ _) (by decide) (by decide) fun v m2 I2 => next _ _ _ I2
    · refine li_cI I (fun q cap G k1 k2 H => l_turn hX (by omega) I.nb4 k1 k2 H) fun v m1 w1 I1 => ?_
      refine li_rcR I1 ?_
      exact li_rI I1 (fun C S F I => r_turn hX (by omega) I) (by decide) (by decide) fun v m2 I2 => next _ _ _ I2
    · refine sc_IL hS g1 ?_
      refine li_cI I (fun q cap G k1 k2 H => l_bind hX (by omega) I.nb4 k1 k2 H) fun v m1 w1 I1 => ?_
      refine sc_IL hS g1 ?_
      refine li_rcR I1 ?_
      exact li_rI I1 (fun C S F I => r_bind hX (by omega) hk I _) (by decide) (by decide) fun v m2 I2 => next _ _ _ I2
    · refine li_cI I (fun q cap G k1 k2 H => l_drop hX (by omega) I.nb4 k1 k2 H) fun v m1 w1 I1 => ?_
      refine li_rcR I1 ?_
      exact li_rI I1 (fun C S F I => r_drop hX (by omega) I) (by decide) (by decide) fun v m2 I2 => next _ _ _ I2
    · refine sc_IL hS g1 ?_
      refine li_cI I (fun q cap G k1 k2 H => l_latch hX (by omega) I.nb4 k1 k2 H) fun v m1 w1 I1 => ?_
      refine sc_IL hS g1 ?_
      refine li_rcR I1 ?_
      exact li_rI I1 (fun C S F I => r_latch hX (by omega) I _) (by decide) (by decide) fun v m2 I2 => next _ _ _ I2
    · refine sc_IL hS g1 ?_
      refine li_cI I (fun q cap G k1 k2 H => l_pattern hX (by omega) I.nb4 k1 k2 H) fun v m1 w1 I1 => ?_
      refine sc_IL hS g1 ?_
      refine li_rcR I1 ?_
      exact li_rI I1 (fun C S F I => r_pattern hX (by omega) I _) (by decide) (by decide) fun v m2 I2 => next _ _ _ I2
    · refine sc_IL hS g1 ?_
      refine li_cI I (fun q cap G k1 k2 H => l_follow hX (by omega) I.nb4 k1 k2 H) fun v m1 w1 I1 => ?_
      refine sc_IL hS g1 ?_
      refine li_rcR I1 ?_
      exact li_rI I1 (fun C S F I => r_follow hX (by omega) hk I _) (by decide) (by decide) fun v m2 I2 => next _ _ _ I2
    · refine li_cI I (fun q cap G k1 k2 H => l_undo hX (by omega) I.nb4 k1 k2 H) fun v m1 w1 I1 => ?_
      refine li_rcR I1 ?_
      exact li_rI (c := 0) (s := 0) I1 (fun C S F I => r_undo hX hN hk I) (by decide) (by decide) fun v m2 I2 => next _ _ _ I2
    · refine sc_IL hS g1 ?_
      have go : ∀ s : Int32, dOk (m_law_law_624 xm N (fun a0 a1 a2 a3 a4 mem => m_law_law_27 xm N f a0 a1 a2 a3 a4 mem) 0 1000 M0 O (Int32.ofNat (3 * j)) 1000 s mem) (lwS C0 S0) := by
        intro s
        unfold m_law_law_624 m_law_law_651
        refine sc_IL hS g2 ?_
        refine li_cI I (fun q cap G k1 k2 H => l_on hX (by omega) I.nb4 k1 k2 H) fun v m1 w1 I1 => ?_
        refine sc_IL hS g1 ?_
        refine ok_if (fun _ => ?_) (fun _ => ?_)
        · refine sc_IL hS g2 ?_
          refine li_rcR I1 ?_
          exact li_rI I1 (fun C S F I => r_on hX I _ _) (by decide) (by decide) fun v m2 I2 => next _ _ _ I2
        · refine sc_IL hS g2 ?_
          refine li_rcR I1 ?_
          exact li_rI I1 (fun C S F I => r_on hX I _ _) (by decide) (by decide) fun v m2 I2 => next _ _ _ I2
      exact ok_if (fun _ => go _) (fun _ => go _)
    · refine sc_IL hS g1 ?_
      refine sc_IL hS g2 ?_
      refine li_cI I (fun q cap G k1 k2 H => l_ofLoop hX (by omega) I.nb4 k1 k2 H) fun v m1 w1 I1 => ?_
      refine sc_IL hS g1 ?_
      refine sc_IL hS g2 ?_
      refine li_rcR I1 ?_
      exact li_rI I1 (fun C S F I => r_ofLoop hX hN hk I _ _) (by decide) (by decide) fun v m2 I2 => next _ _ _ I2
    · refine sc_IL hS g1 ?_
      refine sc_IL hS g2 ?_
      refine li_cI I (fun q cap G k1 k2 H => l_ofRun hX (by omega) I.nb4 k1 k2 H) fun v m1 w1 I1 => ?_
      refine sc_IL hS g1 ?_
      refine sc_IL hS g2 ?_
      refine li_rcR I1 ?_
      exact li_rI I1 (fun C S F I => r_ofRun hX I _ _) (by decide) (by decide) fun v m2 I2 => next _ _ _ I2
    · refine sc_IL hS g1 ?_
      have go : ∀ s : Int32, dOk (m_law_law_760 xm N (fun a0 a1 a2 a3 a4 mem => m_law_law_27 xm N f a0 a1 a2 a3 a4 mem) 0 1000 M0 O (Int32.ofNat (3 * j)) 1000 s mem) (lwS C0 S0) := by
        intro s
        unfold m_law_law_760 m_law_law_779
        refine li_rcK I ?_
        refine li_cR I (fun q cap F k1 k2 H => c_seen (by omega) k1 k2 H) fun v m1 w1 I1 => ?_
        refine sc_IL hS g1 ?_
        refine ok_if (fun _ => ?_) (fun _ => ?_)
        · refine li_rcR I1 ?_
          exact li_rR I1 (fun C S F I => r_seen hX (by omega) I _) (by decide) (by decide) fun v m2 I2 => next _ _ _ I2
        · refine li_rcR I1 ?_
          exact li_rR I1 (fun C S F I => r_seen hX (by omega) I _) (by decide) (by decide) fun v m2 I2 => next _ _ _ I2
      exact ok_if (fun _ => go _) (fun _ => go _)
    · refine sc_IL hS g1 ?_
      have go : ∀ s : Int32, dOk (m_law_law_801 xm N (fun a0 a1 a2 a3 a4 mem => m_law_law_27 xm N f a0 a1 a2 a3 a4 mem) 0 1000 M0 O (Int32.ofNat (3 * j)) 1000 s mem) (lwS C0 S0) := by
        intro s
        unfold m_law_law_801 m_law_law_821
        refine li_rcK I ?_
        refine li_cD I (fun q cap F k1 k2 H => c_width hX (by omega) k1 k2 H) fun v m1 w1 I1 => ?_
        refine sc_IL hS g1 ?_
        refine ok_if (fun _ => ?_) (fun _ => ?_)
        · refine li_rcR I1 ?_
          exact li_rD I1 (fun C S F I => r_width hX (by omega) I _) (by decide) (by decide) fun v m2 I2 => next _ _ _ I2
        · refine li_rcR I1 ?_
          exact li_rD I1 (fun C S F I => r_width hX (by omega) I _) (by decide) (by decide) fun v m2 I2 => next _ _ _ I2
      exact ok_if (fun _ => go _) (fun _ => go _)
    · refine sc_IL hS g1 ?_
      refine li_cI I (fun q cap G k1 k2 H => l_many hX (by omega) I.nb4 k1 k2 H) fun v m1 w1 I1 => ?_
      refine sc_IL hS g1 ?_
      refine li_rcR I1 ?_
      exact li_rI I1 (fun C S F I => r_many (by omega) I _) (by decide) (by decide) fun v m2 I2 => next _ _ _ I2
    · refine sc_IL hS g1 ?_
      refine li_cI I (fun q cap G k1 k2 H => l_left hX (by omega) I.nb4 k1 k2 H) fun v m1 w1 I1 => ?_
      refine sc_IL hS g1 ?_
      refine li_rcR I1 ?_
      exact li_rI I1 (fun C S F I => r_left I _) (by decide) (by decide) fun v m2 I2 => next _ _ _ I2
    · refine sc_IL hS g1 ?_
      refine sc_IL hS g2 ?_
      refine li_cI I (fun q cap G k1 k2 H => l_ofPattern hX (by omega) I.nb4 k1 k2 H) fun v m1 w1 I1 => ?_
      refine sc_IL hS g1 ?_
      refine sc_IL hS g2 ?_
      refine li_rcR I1 ?_
      exact li_rI I1 (fun C S F I => r_ofPattern hX (by omega) I _ _) (by decide) (by decide) fun v m2 I2 => next _ _ _ I2
    · refine sc_IL hS g1 ?_
      refine li_cI I (fun q cap G k1 k2 H => l_would hX (by omega) I.nb4 k1 k2 H) fun v m1 w1 I1 => ?_
      refine sc_IL hS g1 ?_
      refine li_rcR I1 ?_
      exact li_rI I1 (fun C S F I => r_would hX (by omega) I _) (by decide) (by decide) fun v m2 I2 => next _ _ _ I2
    · refine sc_IL hS g1 ?_
      refine li_cI I (fun q cap G k1 k2 H => l_needs hX (by omega) I.nb4 k1 k2 H) fun v m1 w1 I1 => ?_
      refine sc_IL hS g1 ?_
      refine li_rcR I1 ?_
      exact li_rI I1 (fun C S F I => r_needs hX (by omega) I _) (by decide) (by decide) fun v m2 I2 => next _ _ _ I2
    · refine li_rcK I ?_
      refine li_c1 I (fun q cap F k1 k2 H => c_best hX (by omega) k1 k2 H) fun v m1 w1 I1 => ?_
      refine li_rcR I1 ?_
      exact li_rI I1 (fun C S F I => r_best hX (by omega) I) (by decide) (by decide) fun v m2 I2 => next _ _ _ I2
    · refine li_rcK I ?_
      refine li_cJ I (fun q cap F k1 k2 H => c_digest hX (by omega) I.nb4 k1 k2 H) fun v m1 w1 I1 => ?_
      refine li_rcR I1 ?_
      exact li_rJ I1 (fun C S F I => r_digest hX hN hk I) (by decide) (by decide) fun v m2 I2 => next _ _ _ I2
end KZU
