/-! ===== the reference's calls: follow ===== -/
section KT2
variable {xm : Nat → Option kE} {mem : kM} {N M0 nb k C S ck : Nat} {F : kSg} {g : Nat → Int32} {sum : Int64} {lo : List kLf} {bo pa : List Int32} {ps : List aS} {vl vr ya : List Int32} {rs : List (List Int32)} {sc : Nat → Int32} {T : kO × kM → Prop}
theorem len_loop {n0 : Nat} : ∀ (f i n : Nat), n = n0 / 10 ^ i → n < 10 ^ f → n < 2 ^ 31 → ∃ L, m_M_length_4 xm N (f + 1) (Int32.ofNat i) (Int32.ofNat n) mem = some (.inl (some (.int (Int32.ofNat L))), mem) ∧ i ≤ L ∧ n0 / 10 ^ L = 0 ∧ ∀ j, i ≤ j → j < L → 0 < n0 / 10 ^ j := by
  intro f
  induction f with
  | zero =>
    intro i n h1 h2 h3
    have hn0 : n = 0 := by simpa using h2
    refine ⟨i, ?_, Nat.le_refl _, by omega, fun j h4 h5 => by omega⟩
    rw [m_M_length_4, hn0, if_neg (by decide)]
  | succ f ih =>
    intro i n h1 h2 h3
    by_cases hn0 : n = 0
    · refine ⟨i, ?_, Nat.le_refl _, by omega, fun j h4 h5 => by omega⟩
      rw [m_M_length_4, hn0, if_neg (by decide)]
    · obtain ⟨L, g1, g2, g3, g4⟩ := ih (i + 1) (n / 10) (by rw [h1, Nat.pow_succ, Nat.div_div_eq_div_mul]) (by rw [Nat.pow_succ] at h2; omega) (by omega)
      refine ⟨L, ?_, by omega, g3, fun j h4 h5 => ?_⟩
      · rw [m_M_length_4, if_pos ((i_pos h3).mpr (by omega))]
        unfold dNz
        rw [if_neg (by decide), i_add1, i_div10 h3]
        exact g1
      · by_cases hj : j = i
        · rw [hj, ← h1]; omega
        · exact g4 j (by omega) h5
theorem m_length {n0 : Nat} (hN : 12 ≤ N) (h1 : 1 ≤ n0) (h2 : n0 ≤ 999999999) : ∃ L, m_M_length xm N (Int32.ofNat n0) mem = some (.inl (some (.int (Int32.ofNat L))), mem) ∧ 1 ≤ L ∧ L ≤ 9 ∧ ∀ j, j < L → 0 < n0 / 10 ^ j := by
  obtain ⟨N', rfl⟩ : ∃ N', N = N' + 1 := ⟨N - 1, by omega⟩
  have hp : n0 < 10 ^ N' := by
    calc n0 < 10 ^ 9 := by omega
      _ ≤ 10 ^ N' := Nat.pow_le_pow_right (by decide) (by omega)
  obtain ⟨L, g1, g2, g3, g4⟩ := len_loop (xm := xm) (N := N' + 1) (mem := mem) (n0 := n0) N' 0 n0 (by simp) hp (by omega)
  refine ⟨L, ?_, ?_, ?_, fun j hj => g4 j (by omega) hj⟩
  · unfold m_M_length
    exact g1
  · apply Classical.byContradiction
    intro hc
    have : L = 0 := by omega
    subst this
    simp at g3
    omega
  · apply Classical.byContradiction
    intro hc
    have h9 := g4 9 (by omega) (by omega)
    have : n0 / 10 ^ 9 = 0 := Nat.div_eq_of_lt (by omega)
    omega
theorem step_loop {j : Nat} : ∀ (d f n : Nat), d < f → n < 2 ^ 31 → j + d < 2 ^ 31 → m_M_step_9 xm N f (Int32.ofNat j) (Int32.ofNat n) (Int32.ofNat (j + d)) mem = some (.inl (some (.int (Int32.ofNat (n / 10 ^ d % 10)))), mem) := by
  intro d
  induction d with
  | zero =>
    intro f n hf hn hj
    obtain ⟨f, rfl⟩ : ∃ f', f = f' + 1 := ⟨f - 1, by omega⟩
    rw [m_M_step_9, if_neg (fun z => by have := (i_lt (by omega) (by omega)).mp z; omega)]
    unfold dNz
    rw [if_neg (by decide), i_mod10 hn, Nat.pow_zero, Nat.div_one]
  | succ d ih =>
    intro f n hf hn hj
    obtain ⟨f, rfl⟩ : ∃ f', f = f' + 1 := ⟨f - 1, by omega⟩
    rw [m_M_step_9, if_pos ((i_lt (by omega) (by omega)).mpr (by omega))]
    unfold dNz
    rw [if_neg (by decide), i_div10 hn]
    have e1 : Int32.ofNat (j + (d + 1)) + (-1) = Int32.ofNat (j + d) := by
      rw [show j + (d + 1) = (j + d) + 1 by omega, ← i_add1, Int32.add_assoc]
      have : (1 : Int32) + (-1) = 0 := by decide
      rw [this, Int32.add_zero]
    rw [e1, ih f (n / 10) (by omega) (by omega) (by omega), Nat.div_div_eq_div_mul, Nat.pow_succ, Nat.mul_comm]
theorem m_step {n0 L j : Nat} (hN : 12 ≤ N) (h2 : n0 ≤ 999999999) (hL : m_M_length xm N (Int32.ofNat n0) mem = some (.inl (some (.int (Int32.ofNat L))), mem)) (hL9 : L ≤ 9) (hj : j < L) : m_M_step xm N (Int32.ofNat n0) (Int32.ofNat j) mem = some (.inl (some (.int (Int32.ofNat (n0 / 10 ^ (L - 1 - j) % 10)))), mem) := by
  refine ok_eq ?_
  unfold m_M_step
  refine ok_eI hL ?_
  rw [i_sub1 (by omega)]
  have h := step_loop (xm := xm) (N := N) (mem := mem) (j := j) (L - 1 - j) N n0 (by omega) (by omega) (by omega)
  rw [show j + (L - 1 - j) = L - 1 by omega] at h
  rw [h]
  exact ok_me
theorem i_modL {d L : Nat} (hd : d < 2 ^ 31) (hL : 1 ≤ L) (hL2 : L ≤ 9) : Int32.ofNat d - Int32.ofNat d / Int32.ofNat L * Int32.ofNat L = Int32.ofNat (d % L) := by
  have hle : d / L ≤ d := Nat.div_le_self _ _
  have e : Int32.ofNat d / Int32.ofNat L = Int32.ofNat (d / L) := by
    rw [← Int32.toInt_inj, Int32.toInt_div_of_ne_right _ _ ?_, i_toI hd, i_toI (show L < 2 ^ 31 by omega), i_toI (show d / L < 2 ^ 31 by omega)]
    · rfl
    · intro z
      have h1 : (Int32.ofNat L).toInt = (-1 : Int32).toInt := by rw [z]
      rw [i_toI (show L < 2 ^ 31 by omega)] at h1
      have : (-1 : Int32).toInt = -1 := by decide
      omega
  have h0 : d / L * L ≤ d := Nat.div_mul_le_self _ _
  rw [e, ← Int32.ofNat_mul, i_sub h0]
  congr 1
  have := Nat.div_add_mod d L
  have h3 : L * (d / L) = d / L * L := Nat.mul_comm _ _
  omega
/-- what a step wants: loops on the left needle, yarn -/
def aWant (s : Nat) : Nat := match s with
  | 3 => 0
  | 4 => 2
  | 5 => 2
  | 7 => 2
  | 8 => 3
  | 9 => 2
  | _ => 1
def aTake (s : Nat) : Nat := match s with
  | 1 => 4
  | 2 => 4
  | 3 => 3
  | 6 => 0
  | 7 => 0
  | 9 => 11
  | _ => 5
theorem m_can {s : Nat} {l a y : Int32} (h1 : 1 ≤ s) (h9 : s ≤ 9) : ∃ v, m_M_can xm N (Int32.ofNat s) l a y mem = some (.inl (some (.int v)), mem) ∧ (v ≠ 0 → ¬ l < Int32.ofNat (aWant s) ∧ (aTake s = 0 ∨ ¬ y < Int32.ofNat (aTake s)) ∧ ((s = 3 ∨ s = 9) → a < 24)) := by
  have key : ∀ (s0 : Int32) (w t : Int32) (ov : Bool), m_M_takes xm N s0 mem = some (.inl (some (.int t)), mem) → (∃ X, m_M_can xm N s0 l a y mem = X ∧ X = m_M_can_21 xm N s0 a y t l w mem) → ((s0 = 3 ∨ s0 = 9) ↔ ov = true) → ∃ v, m_M_can xm N s0 l a y mem = some (.inl (some (.int v)), mem) ∧ (v ≠ 0 → ¬ l < w ∧ (t = 0 ∨ ¬ y < t) ∧ (ov = true → a < 24)) := by
    intro s0 w t ov ht hX hov
    obtain ⟨X, hX1, hX2⟩ := hX
    rw [hX1, hX2]
    have c35 : ∃ v, m_M_can_35 xm N s0 a mem = some (.inl (some (.int v)), mem) ∧ (v ≠ 0 → (ov = true → a < 24)) := by
      have c46 : ∃ v, m_M_can_46 xm N a mem = some (.inl (some (.int v)), mem) ∧ (v ≠ 0 → (ov = true → a < 24)) := by
        unfold m_M_can_46 m_M_can_52
        by_cases h : a < 24
        · rw [if_pos h]; exact ⟨1, rfl, fun _ _ => h⟩
        · rw [if_neg h]; exact ⟨0, rfl, fun z => absurd rfl z⟩
      unfold m_M_can_35
      by_cases h3 : s0 = 3
      · rw [if_pos h3]; exact c46
      · rw [if_neg h3]
        by_cases h4 : s0 = 9
        · rw [if_pos h4]; exact c46
        · rw [if_neg h4]
          unfold m_M_can_52
          refine ⟨1, rfl, fun _ ho => ?_⟩
          rcases hov.mpr ho with h | h
          · exact absurd h h3
          · exact absurd h h4
    obtain ⟨v, g1, g2⟩ := c35
    unfold m_M_can_21
    by_cases hl : l < w
    · rw [if_pos hl]; exact ⟨0, rfl, fun z => absurd rfl z⟩
    · rw [if_neg hl]
      by_cases ht0 : t = 0
      · rw [if_pos ht0, g1]; exact ⟨v, rfl, fun z => ⟨hl, Or.inl ht0, g2 z⟩⟩
      · rw [if_neg ht0]
        by_cases hy : y < t
        · rw [if_pos hy]; exact ⟨0, rfl, fun z => absurd rfl z⟩
        · rw [if_neg hy, g1]; exact ⟨v, rfl, fun z => ⟨hl, Or.inr hy, g2 z⟩⟩
  have fin : ∀ (t w : Nat) (ov : Bool), t < 100 → aTake s = t → aWant s = w → m_M_takes xm N (Int32.ofNat s) mem = some (.inl (some (.int (Int32.ofNat t))), mem) → (m_M_can xm N (Int32.ofNat s) l a y mem = m_M_can_21 xm N (Int32.ofNat s) a y (Int32.ofNat t) l (Int32.ofNat w) mem) → ((Int32.ofNat s = 3 ∨ Int32.ofNat s = 9) ↔ ov = true) → ((s = 3 ∨ s = 9) → ov = true) → ∃ v, m_M_can xm N (Int32.ofNat s) l a y mem = some (.inl (some (.int v)), mem) ∧ (v ≠ 0 → ¬ l < Int32.ofNat (aWant s) ∧ (aTake s = 0 ∨ ¬ y < Int32.ofNat (aTake s)) ∧ ((s = 3 ∨ s = 9) → a < 24)) := by
    intro t w ov ht100 e1 e2 e3 e4 e5 e6
    obtain ⟨v, q1, q2⟩ := key _ _ _ ov e3 ⟨_, rfl, e4⟩ e5
    refine ⟨v, q1, fun z => ?_⟩
    obtain ⟨p1, p2, p3⟩ := q2 z
    rw [e1, e2]
    refine ⟨p1, ?_, fun h => p3 (e6 h)⟩
    rcases p2 with h | h
    · exact Or.inl ((i_eq (b := 0) (by omega) (by decide)).mp h)
    · exact Or.inr h
  rcases (show s = 1 ∨ s = 2 ∨ s = 3 ∨ s = 4 ∨ s = 5 ∨ s = 6 ∨ s = 7 ∨ s = 8 ∨ s = 9 by omega) with rfl | rfl | rfl | rfl | rfl | rfl | rfl | rfl | rfl
  · exact fin 4 1 false (by decide) rfl rfl rfl rfl (by decide) (by decide)
  · exact fin 4 1 false (by decide) rfl rfl rfl rfl (by decide) (by decide)
  · exact fin 3 0 true (by decide) rfl rfl rfl rfl (by decide) (by decide)
  · exact fin 5 2 false (by decide) rfl rfl rfl rfl (by decide) (by decide)
  · exact fin 5 2 false (by decide) rfl rfl rfl rfl (by decide) (by decide)
  · exact fin 0 1 false (by decide) rfl rfl rfl rfl (by decide) (by decide)
  · exact fin 0 2 false (by decide) rfl rfl rfl rfl (by decide) (by decide)
  · exact fin 5 3 false (by decide) rfl rfl rfl rfl (by decide) (by decide)
  · exact fin 11 2 true (by decide) rfl rfl rfl rfl (by decide) (by decide)
theorem sw_in {x : Int32} {lo hi : Int} {D t : dRes} {L : List dRes} (h : ¬ (x.toInt < lo ∨ hi < x.toInt)) (e : L[(x.toInt - lo).toNat]? = some t) (k : dOk t T) : dOk (dSw x lo hi D L) T := by
  unfold dSw
  rw [if_neg h, e]
  exact k
theorem sw_out {x : Int32} {lo hi : Int} {D : dRes} {L : List dRes} (h : x.toInt < lo ∨ hi < x.toInt) (k : dOk D T) : dOk (dSw x lo hi D L) T := by
  unfold dSw
  rw [if_pos h]
  exact k
/-- what is left behind a step -/
def aAft (xm : Nat → Option kE) (M0 nb : Nat) (g : Nat → Int32) (sum : Int64) (lo : List kLf) (bo pa : List Int32) (ps : List aS) (nr ck : Nat) (F : kSg) (m0 m : kM) : Prop :=
  ∃ lo' vl' vr' rs' ya' sc' ck', WR xm M0 g sum lo' bo pa ps (vl', vr', rs', ya', sc') ck' F m ∧ aInv nb g lo' bo pa ps (vl', vr', rs', ya', sc') ∧ lo.length ≤ lo'.length ∧ lo'.length + nr ≤ lo.length + vr'.length ∧ ck ≤ ck' ∧ St xm m0 m (10 + 5 * (lo'.length - lo.length)) (50 + 60 * (lo'.length - lo.length) + 4 * (ck' - ck))
theorem m_doStep {s : Nat} (hX : kXok xm) (hN : 20 ≤ N) (W : WR xm M0 g sum lo bo pa ps (vl, vr, rs, ya, sc) ck F mem) (hi : aInv nb g lo bo pa ps (vl, vr, rs, ya, sc)) (hlo : lo.length ≤ 12400) (h1 : 1 ≤ s) (h9 : s ≤ 9) (hw : aWant s ≤ vl.length) (hy : aTake s = 0 ∨ ∃ b : Nat, g 7 = Int32.ofNat b ∧ b < 4) (ho : (s = 3 ∨ s = 9) → vl.length + vr.length < 24) :
    dOk (m_M_doStep xm N M0 (Int32.ofNat s) mem) (rV fun m => aAft xm M0 nb g sum lo bo pa ps vr.length ck F mem m) := by
  have h24 := hi.2.1.2.1
  dsimp only at h24
  have wk : ∀ kk : Int32, 1 ≤ vl.length → (∃ b : Nat, g 7 = Int32.ofNat b ∧ b < 4) → dOk (m_M_doStep_59 xm N M0 kk mem) (rV fun m => aAft xm M0 nb g sum lo bo pa ps vr.length ck F mem m) := by
    intro kk hv hb
    obtain ⟨b, hb7, hb4⟩ := hb
    unfold m_M_doStep_59
    refine w_rc W ?_
    obtain ⟨t, v, rfl⟩ := snoc_of (l := vl) (fun e => by rw [e] at hv; simp at hv)
    obtain ⟨i, hv', hil⟩ := hi.2.1.2.2.1 v (List.mem_append_right _ (List.mem_singleton.mpr rfl))
    rw [List.length_append, List.length_singleton] at h24
    refine ok_cI (m_workNow hX hN W hi.sw (by omega) (by omega) hb7 hb4 hv' hil) fun x m1 hh => ?_
    obtain ⟨-, ck', hck, W1, S1⟩ := hh
    refine ok_V ⟨_, _, _, _, _, _, ck', W1, hi.make (fun v hv => List.mem_append_left _ hv) (by omega) rfl rfl, by simp, by simp; omega, hck, S1.mono (by simp) (by simp)⟩
  have tg : ∀ (n : Nat) (kk : Int32), n ≤ 3 → 2 ≤ n → n ≤ vl.length → (∃ b : Nat, g 7 = Int32.ofNat b ∧ b < 4) → dOk (m_M_togetherNow xm N M0 (Int32.ofNat n) kk mem) (rI fun v m => aAft xm M0 nb g sum lo bo pa ps vr.length ck F mem m) := by
    intro n kk hn hn2 hv hb
    obtain ⟨b, hb7, hb4⟩ := hb
    obtain ⟨A, ws, ys, e, hws, hys⟩ := split3 (l := vl) (n1 := 0) (n2 := n) (by omega)
    have hys : ys = [] := List.length_eq_zero_iff.mp hys
    subst hys
    rw [List.append_nil] at e
    subst e
    rw [List.length_append] at h24
    refine ok_mono (m_togNow hX hN W hws hn hi.sw (by omega) (by omega) hb7 hb4) ?_
    rintro r ⟨x, q1, -, ck', hck, W1, S1⟩
    exact ⟨x, q1, _, _, _, _, _, _, ck', W1, hi.make (fun v hv => List.mem_append_left _ hv) (by omega) rfl rfl, by simp, by simp; omega, hck, S1.mono (by simp) (by simp)⟩
  unfold m_M_doStep
  rcases (show s = 1 ∨ s = 2 ∨ s = 3 ∨ s = 4 ∨ s = 5 ∨ s = 6 ∨ s = 7 ∨ s = 8 ∨ s = 9 by omega) with rfl | rfl | rfl | rfl | rfl | rfl | rfl | rfl | rfl
  · refine sw_in (by decide) rfl ?_
    unfold m_M_doStep_48
    rw [if_neg (by decide)]
    exact wk 0 hw (hy.resolve_left (by decide))
  · refine sw_in (by decide) rfl ?_
    unfold m_M_doStep_48
    rw [if_pos (by decide)]
    exact wk 1 hw (hy.resolve_left (by decide))
  · refine sw_in (by decide) rfl ?_
    obtain ⟨b, hb7, hb4⟩ := hy.resolve_left (by decide)
    have ho := ho (Or.inl rfl)
    refine w_rc W ?_
    refine ok_cI (m_overNow hX hN W hi.sw (by omega) (by omega) hb7 hb4) fun x m1 hh => ?_
    obtain ⟨-, ck', hck, W1, S1⟩ := hh
    exact ok_V ⟨_, _, _, _, _, _, ck', W1, hi.make (fun v hv => hv) (by omega) rfl rfl, by simp, by simp; omega, hck, S1.mono (by simp) (by simp)⟩
  · refine sw_in (by decide) rfl ?_
    unfold m_M_doStep_74
    rw [if_neg (by decide)]
    unfold m_M_doStep_86
    refine w_rc W ?_
    exact ok_cI (tg 2 0 (by decide) (by decide) hw (hy.resolve_left (by decide))) fun x m1 hh => ok_V hh
  · refine sw_in (by decide) rfl ?_
    unfold m_M_doStep_74
    rw [if_pos (by decide)]
    unfold m_M_doStep_86
    refine w_rc W ?_
    exact ok_cI (tg 2 1 (by decide) (by decide) hw (hy.resolve_left (by decide))) fun x m1 hh => ok_V hh
  · refine sw_in (by decide) rfl ?_
    refine w_rc W ?_
    have hw : 1 ≤ vl.length := hw
    obtain ⟨t, v, rfl⟩ := snoc_of (l := vl) (fun e => by rw [e] at hw; simp at hw)
    rw [List.length_append, List.length_singleton] at h24
    refine ok_cI (m_slipNow hX W hi.sw (by omega)) fun x m1 hh => ?_
    obtain ⟨-, W1, S1⟩ := hh
    refine ok_V ⟨_, _, _, _, _, _, ck, W1, hi.move ?_ ?_ (by simp; omega) rfl rfl, Nat.le_refl _, by simp, Nat.le_refl _, S1.mono (by omega) (by omega)⟩
    · exact fun v hv => Or.inl (List.mem_append_left _ hv)
    · intro w hw
      rcases List.mem_append.mp hw with h | h
      · exact Or.inr h
      · exact Or.inl (List.mem_append_right _ h)
  · refine sw_in (by decide) rfl ?_
    refine w_rc W ?_
    have hw : 2 ≤ vl.length := hw
    obtain ⟨A, xs, ys, rfl, hx, hys⟩ := split3 (l := vl) (n1 := 1) (n2 := 1) (by omega)
    refine ok_cI (m_crossNow (n1 := 1) (n2 := 1) hX hN W hi.sw hx hys (by decide) (by decide) (by decide)) fun x m1 hh => ?_
    obtain ⟨-, W1, S1⟩ := hh
    refine ok_V ⟨_, _, _, _, _, _, ck, W1, hi.move ?_ ?_ (by simp only [List.length_append] at h24 ⊢; omega) rfl rfl, Nat.le_refl _, Nat.le_refl _, Nat.le_refl _, S1.mono (by omega) (by omega)⟩
    · intro w hw
      refine Or.inl ?_
      simp only [List.mem_append] at hw ⊢
      rcases hw with (h | h) | h
      · exact Or.inl (Or.inl h)
      · exact Or.inr h
      · exact Or.inl (Or.inr h)
    · exact fun v hv => Or.inr hv
  · refine sw_in (by decide) rfl ?_
    refine w_rc W ?_
    exact ok_cI (tg 3 0 (by decide) (by decide) hw (hy.resolve_left (by decide))) fun x m1 hh => ok_V hh
  · refine sw_out (Or.inr (by decide)) ?_
    have hw : 2 ≤ vl.length := hw
    obtain ⟨b, hb7, hb4⟩ := hy.resolve_left (by decide)
    have ho := ho (Or.inr rfl)
    obtain ⟨t, v, rfl⟩ := snoc_of (l := vl) (fun e => by rw [e] at hw; simp at hw)
    rw [List.length_append, List.length_singleton] at h24 ho hw
    obtain ⟨t, v2, rfl⟩ := snoc_of (l := t) (fun e => by rw [e] at hw; simp at hw)
    rw [List.length_append, List.length_singleton] at h24 ho hw
    obtain ⟨i, hv', hil⟩ := hi.2.1.2.2.1 v (List.mem_append_right _ (List.mem_singleton.mpr rfl))
    refine w_rc W ?_
    refine ok_cI (m_workNow hX hN W hi.sw (by omega) (by omega) hb7 hb4 hv' hil) fun x m1 hh => ?_
    obtain ⟨-, ck1, hck1, W1, S1⟩ := hh
    have hi1 := hi.make (f := ((if (0 : Int32) = 0 then 1 else 2), g 7, sc 5, lo[i].2.2.2.1 + 1, sc 4, 1)) (vl' := t ++ [v2]) (b := b) (y := ya.getD b 0 - 4) (sc' := kUp sc 6 (sc 6 + 1)) (fun v hv => List.mem_append_left _ hv) (by simp; omega) rfl rfl
    refine w_rc W1 ?_
    refine ok_cI (m_overNow hX hN W1 hi1.sw (by simp; omega) (by simp; omega) hb7 hb4) fun x m2 hh => ?_
    obtain ⟨-, ck2, hck2, W2, S2⟩ := hh
    have hi2 := hi1.make (f := (3, g 7, kUp sc 6 (sc 6 + 1) 5, 1, kUp sc 6 (sc 6 + 1) 4, 0)) (vl' := t ++ [v2]) (b := b) (y := (ya.set b (ya.getD b 0 - 4)).getD b 0 - 3) (sc' := kUp (kUp (kUp sc 6 (sc 6 + 1)) 8 (kUp sc 6 (sc 6 + 1) 8 + 1)) 6 (kUp sc 6 (sc 6 + 1) 6 + 1)) (fun v hv => hv) (by simp; omega) rfl rfl
    obtain ⟨i2, hv2, hil2⟩ := hi2.2.1.2.2.1 v2 (List.mem_append_right _ (List.mem_singleton.mpr rfl))
    refine w_rc W2 ?_
    refine ok_cI (m_workNow hX hN W2 hi2.sw (by simp; omega) (by simp; omega) hb7 hb4 hv2 hil2) fun x m3 hh => ?_
    obtain ⟨-, ck3, hck3, W3, S3⟩ := hh
    refine ok_V ⟨_, _, _, _, _, _, ck3, W3, hi2.make (fun v hv => List.mem_append_left _ hv) (by simp; omega) rfl rfl, by simp, by simp; omega, by omega, (S1.trans (S2.trans S3)).mono (by simp) (by simp; omega)⟩
end KT2
