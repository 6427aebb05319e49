/-! ===== a property of its own: the work that the law begins with; the law ===== -/
/-- while patterns are told: so many of them; all yarn that was bought is there or in loops -/
def PPt (B k : Nat) (c : aC) : Prop := cOk c ∧ c.1 = 2 ∧ (∃ j : Nat, c.2.1 = Int32.ofNat j ∧ j < 2) ∧ c.2.2.2.2.1.length = k ∧ c.2.2.1.length ≤ 12000 ∧ c.2.2.2.1.length ≤ 12000 ∧ PJ B 1 c.2.2.1 c.2.2.2.1 c.2.2.2.2.2.1 c.2.2.2.2.2.2 ∧ yOf c.2.2.2.2.2.2 + 2 * c.2.2.1.length = B
/-- the end of the law: 1 is answered, within its room -/
def lw30S : kO × kM → Prop := fun r => r.1 = .inl (some (.int 1)) ∧ r.2.length ≤ 210000 ∧ kSl r.2 ≤ 1600000
section PKK
variable {xm : Nat → Option kE} {mem m0 : kM} {F G A : kSg} {S : kO × kM → Prop} {X : dRes} {N k n cap nb i j r t1 t2 z B R p M s v : Nat} {c c2 : aC} {sp : aR} {x y jo t u w a2 a3 : Int32} {lo : List kLf} {bo pa vl vr ya ys xs : List Int32} {ps : List aS} {rs : List (List Int32)} {sc : Nat → Int32} {st : aS} {D : kM → dRes}
theorem LwP0 (xm : Nat → Option kE) : LwP xm cc0 [] 0 (mK 1000) := by
  have h : (mK 1000).length ≤ 384 ∧ kSl (mK 1000) ≤ 5000 := by decide +kernel
  refine ⟨1011, 384, fun _ => 0, hs0, by decide, by decide, INV0, fun _ _ _ => rfl, ⟨adr 1000 (mK 1000), ok_KE, ?_⟩, by omega, by omega⟩
  rw [List.append_nil]
  exact adr_hp (mK 1000)
theorem spBuy_eq {a : Nat} (h1 : 1 ≤ a) (h2 : a ≤ 9999) (hn : nb ≠ 4) : spBuy (Int32.ofNat a) (nb, jo, lo, bo, pa, ps, st) = (0, Int32.ofNat nb, (nb + 1, jo, lo, bo, pa, ps.map (aSetY nb (Int32.ofNat a)), aSetY nb (Int32.ofNat a) st)) := by
  show (if _ ∨ _ then _ else if _ then _ else _) = _
  rw [if_neg (show ¬ (Int32.ofNat a < 1 ∨ (9999 : Int32) < Int32.ofNat a) from nrg1 h1 h2 (by decide)), if_neg hn]
theorem spJoin_eq (hj : j < nb) (hn : nb ≤ 4) : spJoin (Int32.ofNat j) (nb, jo, lo, bo, pa, ps, st) = (0, jo, (nb, Int32.ofNat j, lo, bo, pa, ps, st)) := by
  show (if _ ∨ _ then _ else _) = _
  rw [if_neg (nrg hj (by omega))]
theorem spPattern_eq (h1 : 1 ≤ s) (h2 : s ≤ 9999) (hz : pZ 9 s = false) (h6 : pa.length ≠ 6) : spPattern (Int32.ofNat s) (nb, jo, lo, bo, pa, ps, st) = (0, Int32.ofNat pa.length, (nb, jo, lo, bo, pa ++ [Int32.ofNat s], ps, st)) := by
  show (if _ ∨ _ then _ else if _ then _ else _) = _
  rw [if_neg, if_neg h6]
  rw [i_nat (by omega), hz]
  rintro (z | z)
  · exact nrg1 (n := 999999999) h1 (by omega) (by decide) z
  · exact absurd z (by decide)
theorem aNz_dig (h : aNz s) (hr : r ≤ 8) : aNz (10 * s + 1 + r) := by
  intro i
  cases i with
  | zero =>
    intro _
    rw [Nat.pow_zero, Nat.div_one]
    omega
  | succ i =>
    have e : (10 * s + 1 + r) / 10 ^ (i + 1) = s / 10 ^ i := by
      rw [Nat.pow_succ', ← Nat.div_div_eq_div_mul]
      congr 1
      omega
    rw [e]
    exact h i
theorem pZ_of : ∀ (f n : Nat), aNz n → pZ f n = false := by
  intro f
  induction f with
  | zero => intro n _; rfl
  | succ f ih =>
    intro n h
    unfold pZ
    by_cases g : 0 < n
    · have h0 := h 0 (by rw [Nat.pow_zero, Nat.div_one]; exact g)
      rw [Nat.pow_zero, Nat.div_one] at h0
      rw [if_pos g, if_neg h0]
      exact ih _ (aNz_div h)
    · rw [if_neg g]
theorem wk_107 {K : Nat → Int32 → Nat → Int32 → kM → dRes} {q : Nat} (er : m_law_below xm N x (Int32.ofNat 4) mem = some (.inl (some (.int (Int32.ofNat q))), mem)) (hq : q < 4) (hK : ∀ s, 1 ≤ s → s ≤ 9999 → aNz s → dOk (dRc xm mem 1000 11 <| dCI (m_K_pattern xm N 1000 (Int32.ofNat s) mem) fun _ m => K 0 1 1000 (a3 + 1) m) S) : ∀ (d i f s : Nat), i + d = q + 1 → d < f → s < 10 ^ i → aNz s → (0 < i → 1 ≤ s) → dOk (m_law_work_107 xm N K f 0 1 1000 a3 x (Int32.ofNat s) (Int32.ofNat i) mem) S := by
  have e1 : (1 : Int32) + Int32.ofNat q = Int32.ofNat (1 + q) := i_add (a := 1)
  intro d
  induction d with
  | zero =>
    intro i f s hd hf hs nz h1
    obtain ⟨f, rfl⟩ : ∃ f', f = f' + 1 := ⟨f - 1, by omega⟩
    rw [m_law_work_107]
    refine ok_eI er ?_
    rw [e1, if_neg (fun z => by have := (i_lt (by omega) (by omega)).mp z; omega)]
    have h4 : 10 ^ i ≤ 10 ^ 4 := Nat.pow_le_pow_right (by decide) (by omega)
    exact hK s (h1 (by omega)) (by omega) nz
  | succ d ih =>
    intro i f s hd hf hs nz h1
    obtain ⟨f, rfl⟩ : ∃ f', f = f' + 1 := ⟨f - 1, by omega⟩
    rw [m_law_work_107]
    refine ok_eI er ?_
    rw [e1, if_pos ((i_lt (by omega) (by omega)).mpr (by omega))]
    obtain ⟨r, hr, er2⟩ := q_below xm N mem (x >>> (((Int32.ofNat i * 3) + 2) &&& 31)) (k := 9) (by decide) (by decide)
    refine ok_eI er2 ?_
    have e2 : (10 : Int32) * Int32.ofNat s + 1 + Int32.ofNat r = Int32.ofNat (10 * s + 1 + r) := by
      rw [show (10 : Int32) = Int32.ofNat 10 from rfl, i_mul, i_add1, i_add]
    rw [e2, i_add1]
    have hp : 10 ^ (i + 1) = 10 ^ i * 10 := Nat.pow_succ _ _
    exact ih (i + 1) f (10 * s + 1 + r) (by omega) (by omega) (by omega) (aNz_dig nz (by omega)) (fun _ => by omega)
theorem wk_85 (hX : kXok xm) (hN : 400 ≤ N) (hS : xm 0 = some (.inr (.inl (0, xs)))) (hL : xs.length < 2 ^ 31) : ∀ (d k f n : Nat) (mem : kM) (c : aC), k + d = 5 → d < f → PPt B k c → n + 2 * d ≤ M → LwP xm c [] n mem → dOk (m_law_work_85 xm N f 0 1 1000 (Int32.ofNat k) mem) (rR fun v m => v = 1000 ∧ ∃ c', PPt B 5 c' ∧ LwP xm c' [] M m) := by
  intro d
  induction d with
  | zero =>
    intro k f n mem c hd hf P hM I
    obtain ⟨f, rfl⟩ : ∃ f', f = f' + 1 := ⟨f - 1, by omega⟩
    have e : k = 5 := by omega
    subst e
    rw [m_law_work_85, if_neg (by decide)]
    exact ok_R ⟨rfl, c, P, I.up (by omega)⟩
  | succ d ih =>
    intro k f n mem c hd hf P hM I
    obtain ⟨f, rfl⟩ : ∃ f', f = f' + 1 := ⟨f - 1, by omega⟩
    obtain ⟨nb, jo, lo, bo, pa, ps, vl, vr, rs, ya, sc⟩ := c
    obtain ⟨p1, p2, p3, p4, p5, p6, p7, p8⟩ := P
    dsimp only at p2 p3 p4 p5 p6 p7 p8
    subst p2
    rw [m_law_work_85, if_pos (show Int32.ofNat k < 4 + 1 from (i_lt (b := 5) (by omega) (by decide)).mpr (by omega))]
    rw [show (2 : Int32) = Int32.ofNat 2 from rfl, i_add]
    obtain ⟨x, hx⟩ := q_cell (N := N) hS hL (show 2 + k < 2 ^ 31 by omega) mem
    refine ok_eI hx ?_
    obtain ⟨q, hq, er⟩ := q_below xm N mem x (k := 4) (by decide) (by decide)
    refine wk_107 er hq (fun s s1 s2 nz => ?_) (q + 1) 0 N 0 (by omega) (by omega) (by decide) (fun i hi => absurd hi (by rw [Nat.zero_div]; decide)) (fun z => absurd z (by decide))
    have es := spPattern_eq (nb := 2) (jo := jo) (lo := lo) (bo := bo) (ps := ps) (st := (vl, vr, rs, ya, sc)) s1 s2 (pZ_of 9 s nz) (show pa.length ≠ 6 by omega)
    have ho : cOk (spPattern (Int32.ofNat s) (2, jo, lo, bo, pa, ps, (vl, vr, rs, ya, sc))).2.2 := ok_pattern p1
    rw [es] at ho
    refine lp_rc I (lp_I I (fun cap Dd => q_pattern hX (by omega) Dd) es fun m I => ?_)
    show dOk (m_law_work_85 xm N f 0 1 1000 (Int32.ofNat k + 1) m) _
    rw [i_add1]
    exact ih (k + 1) f _ m _ (by omega) (by omega) ⟨ho, rfl, p3, by show (pa ++ [Int32.ofNat s]).length = k + 1; rw [List.length_append, p4]; rfl, p5, p6, p7, p8⟩ (by omega) I
theorem zIter_lens {jo k1 k2 k3 k4 : Int32} : ∀ (k : Nat) (w : aW), (zIter (zMake jo k1 k2 k3 k4) k w).2.2.1.length + (zIter (zMake jo k1 k2 k3 k4) k w).2.2.2.1.length = w.2.2.1.length + w.2.2.2.1.length + k := by
  intro k
  induction k with
  | zero => intro w; rfl
  | succ k ih =>
    intro w
    obtain ⟨lo, bo, vl, vr, rs, ya, sc⟩ := w
    have e := ih (zMake jo k1 k2 k3 k4 (lo, bo, vl, vr, rs, ya, sc))
    have e2 : (zMake jo k1 k2 k3 k4 (lo, bo, vl, vr, rs, ya, sc)).2.2.2.1.length = vr.length + 1 := by
      show (vr ++ [sc 6]).length = _
      rw [List.length_append]
      rfl
    have e3 : (zMake jo k1 k2 k3 k4 (lo, bo, vl, vr, rs, ya, sc)).2.2.1.length = vl.length := rfl
    show (zIter (zMake jo k1 k2 k3 k4) k (zMake jo k1 k2 k3 k4 (lo, bo, vl, vr, rs, ya, sc))).2.2.1.length + (zIter (zMake jo k1 k2 k3 k4) k (zMake jo k1 k2 k3 k4 (lo, bo, vl, vr, rs, ya, sc))).2.2.2.1.length = vl.length + vr.length + (k + 1)
    omega
theorem PJ0 {a : Nat} : PJ (a + 200) 0 [] [] [] ([], [], [], [Int32.ofNat a, Int32.ofNat 200, 0, 0], fun _ => 0) := by
  refine ⟨(fun i f h => by cases h), List.nodup_nil, fun s hs => ?_, List.Pairwise.nil, (fun p hp => by cases hp)⟩
  rw [List.mem_singleton.mp hs]
  exact ⟨a, 200, 0, 0, rfl, rfl, rfl, by omega, Nat.le_refl _, Nat.le_refl _, (fun i f hi => absurd hi (Nat.not_lt_zero _)), (fun z hz => by cases hz)⟩
theorem wk_57 {a : Nat} (hX : kXok xm) (hN : 400 ≤ N) (hS : xm 0 = some (.inr (.inl (0, xs)))) (hL : xs.length < 2 ^ 31) (ha : 60 ≤ a) (ha2 : a ≤ 459) (hj : j < 2) (hx : x = Int32.ofNat j) (ho : cOk (2, -1, [], [], [], [], ([], [], [], [Int32.ofNat a, Int32.ofNat 200, 0, 0], fun _ => 0))) (I : LwP xm (2, -1, [], [], [], [], ([], [], [], [Int32.ofNat a, Int32.ofNat 200, 0, 0], fun _ => 0)) [] n mem) : dOk (m_law_work_57 xm N 0 1 1000 1000 x mem) (rR fun v m => v = 1000 ∧ ∃ c', PPt (a + 200) 5 c' ∧ LwP xm c' [] (n + 20) m) := by
  subst hx
  unfold m_law_work_57
  have es := spJoin_eq (jo := -1) (lo := []) (bo := []) (pa := []) (ps := []) (st := ([], [], [], [Int32.ofNat a, Int32.ofNat 200, 0, 0], fun _ => 0)) hj (show 2 ≤ 4 by decide)
  have ho2 : cOk (spJoin (Int32.ofNat j) (2, -1, [], [], [], [], ([], [], [], [Int32.ofNat a, Int32.ofNat 200, 0, 0], fun _ => 0))).2.2 := ok_join ho
  rw [es] at ho2
  refine lp_rc I (lp_I I (fun cap Dd => q_join Dd) es fun m I => ?_)
  obtain ⟨x, hx⟩ := q_cell (N := N) hS hL (show 1 < 2 ^ 31 by decide) m
  refine ok_eI hx ?_
  obtain ⟨r, hr, er⟩ := q_below xm N m x (k := 16) (by decide) (by decide)
  refine ok_eI er ?_
  have e3 : (3 : Int32) + Int32.ofNat r = Int32.ofNat (3 + r) := i_add (a := 3)
  rw [e3]
  obtain ⟨T, h', I1⟩ := I.inv2
  obtain ⟨q, hq, hq1, hq2⟩ : ∃ q : Nat, bY (Int32.ofNat j) [Int32.ofNat a, Int32.ofNat 200, 0, 0] = Int32.ofNat q ∧ 60 ≤ q ∧ q ≤ a + 200 := by
    rw [bY_j rfl hj]
    rcases (show j = 0 ∨ j = 1 by omega) with rfl | rfl
    · exact ⟨a, rfl, ha, by omega⟩
    · exact ⟨200, rfl, by decide, by omega⟩
  have es := spCast_eq (nb := 2) (jo := Int32.ofNat j) (lo := []) (bo := []) (pa := []) (ps := []) (vl := []) (vr := []) (rs := []) (sc := fun _ => 0) rfl hj hq (by omega) (show 1 ≤ 3 + r by omega) (by omega) (by omega) (by show 0 + 0 + (3 + r) ≤ 24; omega)
  have ho3 : cOk (spCast (Int32.ofNat (3 + r)) (2, Int32.ofNat j, [], [], [], [], ([], [], [], [Int32.ofNat a, Int32.ofNat 200, 0, 0], fun _ => 0))).2.2 := ok_cast I1.jj (by decide) rfl ho2
  rw [es] at ho3
  refine lp_rc I (lp_I I (fun cap Dd => q_cast (lo := []) (bo := []) hX (by omega) (by decide) (by decide) Dd) es fun m I => ?_)
  have W0 := pW.of (PJ0 (a := a)) I1
  obtain ⟨W', R', y', l'⟩ := pW.cast (B := a + 200) (R := 0) (j := j) (jo := Int32.ofNat j) (3 + r) ([], [], ([], [], [], [Int32.ofNat a, Int32.ofNat 200, 0, 0], fun _ => 0)) q W0 (by show 0 + (3 + r) ≤ 20000; omega) (by omega) rfl hj rfl hq hq2 (by omega)
  have eb := (zIter_pre (jo := Int32.ofNat j) (k1 := 0) (k2 := 1) (k3 := 0) (k4 := 2) (3 + r) ([], [], ([], [], [], [Int32.ofNat a, Int32.ofNat 200, 0, 0], fun _ => 0))).2
  have J' := (PJ0 (a := a)).made W' R' eb
  have n1 := zIter_lens (jo := Int32.ofNat j) (k1 := 0) (k2 := 1) (k3 := 0) (k4 := 2) (3 + r) ([], [], ([], [], [], [Int32.ofNat a, Int32.ofNat 200, 0, 0], fun _ => 0))
  generalize zIter (zMake (Int32.ofNat j) 0 1 0 2) (3 + r) ([], [], ([], [], [], [Int32.ofNat a, Int32.ofNat 200, 0, 0], fun _ => 0)) = w' at I ho3 W' R' y' l' eb J' n1
  obtain ⟨lo', bo', vl', vr', rs', ya', sc'⟩ := w'
  dsimp only at y' l' eb n1
  have hy0 : yOf ([], [], [], [Int32.ofNat a, Int32.ofNat 200, 0, 0], fun _ => 0) = a + 200 := by
    show (Int32.ofNat a).toNatClampNeg + (Int32.ofNat 200).toNatClampNeg = a + 200
    rw [i_nat (by omega), i_nat (by decide)]
  have I : LwP xm (2, Int32.ofNat j, lo', bo', [], pKeep [] ([], [], [], [Int32.ofNat a, Int32.ofNat 200, 0, 0], fun _ => 0), (vl', vr', rs', ya', sc')) [] _ m := I
  have ho3 : cOk (2, Int32.ofNat j, lo', bo', [], pKeep [] ([], [], [], [Int32.ofNat a, Int32.ofNat 200, 0, 0], fun _ => 0), (vl', vr', rs', ya', sc')) := ho3
  have J' : PJ (a + 200) 0 lo' bo' (pKeep [] ([], [], [], [Int32.ofNat a, Int32.ofNat 200, 0, 0], fun _ => 0)) (vl', vr', rs', ya', sc') := J'
  have g0 : ¬ vl'.length + vr'.length = 0 := by omega
  have l0 : lo'.length = 3 + r := by rw [l']; exact Nat.zero_add _
  have l1 : bo'.length = 0 := by rw [eb]; rfl
  generalize pKeep [] ([], [], [], [Int32.ofNat a, Int32.ofNat 200, 0, 0], fun _ => 0) = ps at I ho3 J'
  have es : spTurn (2, Int32.ofNat j, lo', bo', [], ps, (vl', vr', rs', ya', sc')) = (0, Int32.ofNat vr'.length, (2, Int32.ofNat j, lo', bo', [], pKeep ps (vl', vr', rs', ya', sc'), (vr', vl', rs', ya', kUp (kUp (kUp sc' 10 (sc' 10 + if vl' = [] then 0 else 1)) 4 (1 - sc' 4)) 5 (sc' 5 + 1)))) := by
    show (if _ then _ else _) = _
    rw [if_neg g0]
  have ho4 : cOk (spTurn (2, Int32.ofNat j, lo', bo', [], ps, (vl', vr', rs', ya', sc'))).2.2 := ok_turn ho3
  rw [es] at ho4
  refine lp_rc I (lp_I I (fun cap Dd => q_turn (lo := lo') (bo := bo') hX (by omega) (by omega) (by omega) Dd) es fun m I => ?_)
  refine wk_85 hX hN hS hL 5 0 N _ m _ (by decide) (by omega) ⟨ho4, rfl, ⟨j, rfl, hj⟩, rfl, by show lo'.length ≤ 12000; omega, by show bo'.length ≤ 12000; omega, J'.turn, ?_⟩ (by omega) I
  show yOf (vl', vr', rs', ya', sc') + 2 * lo'.length = a + 200
  omega
theorem lw_work (hX : kXok xm) (hN : 400 ≤ N) (hS : xm 0 = some (.inr (.inl (0, xs)))) (hL : xs.length < 2 ^ 31) : dOk (m_law_work xm N 0 1 []) (rR fun v m => v = 1000 ∧ ∃ B c', B ≤ 700 ∧ PPt B 5 c' ∧ LwP xm c' [] 30 m) := by
  have e1 : kNew ([] : kM) = 1000 := rfl
  have hK : m_K_new xm N 1000 [oK] = some (.inl none, mK 1000) := nw_K (by omega) []
  unfold m_law_work dN
  rw [e1]
  refine ok_eV hK ?_
  have I := LwP0 xm
  obtain ⟨x, hx⟩ := q_cell (N := N) hS hL (show 0 < 2 ^ 31 by decide) (mK 1000)
  refine ok_eI hx ?_
  obtain ⟨r, hr, er⟩ := q_below xm N (mK 1000) x (k := 400) (by decide) (by decide)
  refine ok_eI er ?_
  have e60 : (60 : Int32) + Int32.ofNat r = Int32.ofNat (60 + r) := i_add (a := 60)
  rw [e60]
  have es := spBuy_eq (nb := 0) (jo := -1) (lo := []) (bo := []) (pa := []) (ps := []) (st := st0) (show 1 ≤ 60 + r by omega) (by omega) (by decide)
  have ho : cOk (spBuy (Int32.ofNat (60 + r)) (0, -1, [], [], [], [], st0)).2.2 := ok_buy cOk0
  rw [es] at ho
  refine lp_rc I (lp_I (c := (0, -1, [], [], [], [], st0)) I (fun cap Dd => q_buy Dd) es fun m I => ?_)
  have es2 := spBuy_eq (nb := 1) (jo := -1) (lo := []) (bo := []) (pa := []) (ps := []) (st := aSetY 0 (Int32.ofNat (60 + r)) st0) (show 1 ≤ 200 by decide) (by decide) (by decide)
  have ho2 : cOk (spBuy (Int32.ofNat 200) (1, -1, [], [], [], [], aSetY 0 (Int32.ofNat (60 + r)) st0)).2.2 := ok_buy ho
  rw [es2] at ho2
  refine lp_rc I (lp_I (c := (1, -1, [], [], [], [], aSetY 0 (Int32.ofNat (60 + r)) st0)) I (fun cap Dd => q_buy Dd) es2 fun m I => ?_)
  obtain ⟨x, hx⟩ := q_cell (N := N) hS hL (show 0 < 2 ^ 31 by decide) m
  refine ok_eI hx ?_
  obtain ⟨r2, hr2, er2⟩ := q_below xm N m (x >>> (6 &&& 31)) (k := 6) (by decide) (by decide)
  refine ok_eI er2 ?_
  have I : LwP xm (2, -1, [], [], [], [], ([], [], [], [Int32.ofNat (60 + r), Int32.ofNat 200, 0, 0], fun _ => 0)) [] 2 m := I
  have ho2 : cOk (2, -1, [], [], [], [], ([], [], [], [Int32.ofNat (60 + r), Int32.ofNat 200, 0, 0], fun _ => 0)) := ho2
  have fin : ∀ (j : Nat) (x : Int32), j < 2 → x = Int32.ofNat j → dOk (m_law_work_57 xm N 0 1 1000 1000 x m) (rR fun v m => v = 1000 ∧ ∃ B c', B ≤ 700 ∧ PPt B 5 c' ∧ LwP xm c' [] 30 m) := by
    intro j x hj hx
    refine ok_mono (wk_57 hX hN hS hL (by omega) (by omega) hj hx ho2 I) fun r hr => ?_
    obtain ⟨v, h1, h2, c', h3, h4⟩ := hr
    exact ⟨v, h1, h2, _, c', by omega, h3, h4.up (by omega)⟩
  exact ok_if (fun _ => fin 1 1 (by decide) rfl) (fun _ => fin 0 0 (by decide) rfl)
theorem law_all30 (hN : 400 ≤ N) (hX : kXok xm) (hS : xm 0 = some (.inr (.inl (0, xs)))) (hL : xs.length < 2 ^ 31) : dOk (m_law_law xm N 0 []) lw30S := by
  unfold m_law_law
  refine ok_cR (lw_work hX hN hS hL) fun v m hh => ?_
  obtain ⟨rfl, B, c, hB, P, I⟩ := hh
  obtain ⟨nb, jo, lo, bo, pa, ps, vl, vr, rs, ya, sc⟩ := c
  obtain ⟨p1, p2, p3, p4, p5, p6, p7, p8⟩ := P
  dsimp only at p2 p3 p4 p5 p6 p7 p8
  subst p2
  have Q : QC B (0 + 1) (2, jo, lo, bo, pa, ps, (vl, vr, rs, ya, sc)) := ⟨p1, rfl, p3, p4, p5, p6, p7⟩
  obtain ⟨T, h', I1⟩ := I.inv2
  have hys := p7.now.sum (show B ≤ 20000 by omega)
  refine lp_many (by omega) p1 1 (by decide) (Int32.ofNat (yOf (vl, vr, rs, ya, sc))) hys.1 rfl I fun m I => ?_
  refine lp_many (by omega) p1 7 (by decide) (Int32.ofNat lo.length) I1.made rfl I fun m I => ?_
  have e2 : Int32.ofNat (yOf (vl, vr, rs, ya, sc)) + 2 * Int32.ofNat lo.length = Int32.ofNat B := by
    rw [show (2 : Int32) = Int32.ofNat 2 from rfl, i_mul, i_add, p8]
  refine ok_mono (lw_23 (M := 200000) hX hN hS hL hB e2 45 0 N _ m _ (by decide) (by omega) Q (by omega) I) fun r hr => ?_
  obtain ⟨x, h1, rfl, c', q, cap, T', h2, c1, c2, -, -, -, r1, r2⟩ := hr
  have hp := kPsi_le c2
  refine ⟨h1, by omega, ?_⟩
  have : kPhi cap ≤ 359964 := by
    unfold kPhi
    split <;> omega
  omega
end PKK
