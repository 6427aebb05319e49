/-! ===== a property of its own: the law's cases: cast, follow, undo, drop, turn ===== -/
/-- what is done behind a case -/
def kD (xm : Nat → Option kE) (B R : Nat) (F : kSg) (M : Nat) (D : kM → dRes) (S : kO × kM → Prop) : Prop := ∀ (c : aC) (m : kM) (n : Nat), QC B R c → n ≤ M → LwP xm c F n m → dOk (D m) S
section PG
variable {xm : Nat → Option kE} {mem m0 : kM} {F G A : kSg} {S : kO × kM → Prop} {X : dRes} {N k n cap nb i j r t1 t2 t z B R p M s v : Nat} {c c2 : aC} {x y jo v51 v58 v65 v73 v81 : Int32} {lo : List kLf} {bo pa vl vr ya ys vs : List Int32} {ps : List aS} {rs : List (List Int32)} {sc : Nat → Int32} {st : aS} {f : kLf} {T : Nat → Int32} {h : kHs} {D : kM → dRes} {w' : aW}
theorem QC.up (Q : QC B R c) : QC B (R + 1) c := by
  obtain ⟨q1, q2, q3, q4, q5, q6, J⟩ := Q
  exact ⟨q1, q2, q3, q4, q5, q6, J.up (Nat.le_succ R)⟩
theorem QC.made (Q : QC B R (nb, jo, lo, bo, pa, ps, st)) (W : pW B R w') (Rr : pR (lo, bo, st) w') (hb : w'.2.1 = bo) (ho : cOk (wC nb jo pa (pKeep ps st) w')) (hl : w'.1.length ≤ 12000) : QC B R (wC nb jo pa (pKeep ps st) w') := by
  obtain ⟨q1, q2, q3, q4, q5, q6, J⟩ := Q
  refine ⟨ho, q2, q3, q4, hl, ?_, J.made W Rr hb⟩
  show w'.2.1.length ≤ 12000
  rw [hb]
  exact q6
theorem i_modN {d L : Nat} (hd : d < 2 ^ 31) (hL : 1 ≤ L) (hL2 : L < 2 ^ 31) : Int32.ofNat d - Int32.ofNat d / Int32.ofNat L * Int32.ofNat L = Int32.ofNat (d % L) := by
  have hle : d / L ≤ d := Nat.div_le_self _ _
  have e : Int32.ofNat d / Int32.ofNat L = Int32.ofNat (d / L) := by
    rw [← Int32.toInt_inj, Int32.toInt_div_of_ne_right _ _ ?_, i_toI hd, i_toI (show L < 2 ^ 31 by omega), i_toI (show d / L < 2 ^ 31 by omega)]
    · rfl
    · intro z
      have h1 : (Int32.ofNat L).toInt = (-1 : Int32).toInt := by rw [z]
      rw [i_toI (show L < 2 ^ 31 by omega)] at h1
      have : (-1 : Int32).toInt = -1 := by decide
      omega
  have h0 : d / L * L ≤ d := Nat.div_mul_le_self _ _
  rw [e, ← Int32.ofNat_mul, i_sub h0]
  congr 1
  have := Nat.div_add_mod d L
  have h3 : L * (d / L) = d / L * L := Nat.mul_comm _ _
  omega
theorem i_and31 (a : Int32) : ∃ d : Nat, d < 2 ^ 31 ∧ a &&& 2147483647 = Int32.ofNat d := by
  have e : (a &&& 2147483647).toBitVec.toNat = a.toBitVec.toNat % 2 ^ 31 := by
    rw [Int32.toBitVec_and, BitVec.toNat_and]
    exact Nat.and_two_pow_sub_one_eq_mod a.toBitVec.toNat 31
  have hlt : a.toBitVec.toNat % 2 ^ 31 < 2 ^ 31 := Nat.mod_lt _ (by decide)
  refine ⟨a.toBitVec.toNat % 2 ^ 31, hlt, Int32.toBitVec_inj.mp (BitVec.eq_of_toNat_eq ?_)⟩
  rw [e]
  show _ = (BitVec.ofNat 32 _).toNat
  rw [BitVec.toNat_ofNat]
  omega
theorem q_below (xm : Nat → Option kE) (N : Nat) (mem : kM) (a : Int32) {k : Nat} (h1 : 1 ≤ k) (h2 : k < 2 ^ 31) : ∃ r : Nat, r < k ∧ m_law_below xm N a (Int32.ofNat k) mem = some (.inl (some (.int (Int32.ofNat r))), mem) := by
  obtain ⟨d, hd, e⟩ := i_and31 a
  refine ⟨d % k, Nat.mod_lt _ (by omega), ok_eq ?_⟩
  unfold m_law_below
  refine ok_nz (i_ne0 h2 (by omega)) ?_
  rw [e, i_modN hd h1 h2]
  exact ok_me
theorem aYn_j (hj : jo = Int32.ofNat j) (hj2 : j < 2) : aYn jo ya = bY jo ya := by
  unfold aYn bY
  rw [if_neg (by rw [hj]; exact id_ne hj2 (by decide)), if_neg (by rw [hj]; exact id_ne hj2 (by decide))]
theorem nrg1 {a n : Nat} (h1 : 1 ≤ a) (h2 : a ≤ n) (hn : n < 2 ^ 31) : ¬ (Int32.ofNat a < 1 ∨ Int32.ofNat n < Int32.ofNat a) := fun z => z.elim (fun z => by have := (i_lt (b := 1) (by omega) (by decide)).mp z; omega) fun z => by have := (i_lt hn (by omega)).mp z; omega
/-! cast -/
theorem zIter_pre {jo k1 k2 k3 k4 : Int32} : ∀ (k : Nat) (w : aW), (∃ t, (zIter (zMake jo k1 k2 k3 k4) k w).1 = w.1 ++ t) ∧ (zIter (zMake jo k1 k2 k3 k4) k w).2.1 = w.2.1 := by
  intro k
  induction k with
  | zero => intro w; exact ⟨⟨[], (List.append_nil _).symm⟩, rfl⟩
  | succ k ih =>
    intro w
    obtain ⟨lo, bo, vl, vr, rs, ya, sc⟩ := w
    obtain ⟨⟨t, e1⟩, e2⟩ := ih (zMake jo k1 k2 k3 k4 (lo, bo, vl, vr, rs, ya, sc))
    refine ⟨⟨(k1, jo, sc 5, k2, sc 4, k3) :: t, ?_⟩, e2⟩
    show (zIter (zMake jo k1 k2 k3 k4) k (zMake jo k1 k2 k3 k4 (lo, bo, vl, vr, rs, ya, sc))).1 = _
    rw [e1]
    show (lo ++ [_]) ++ t = lo ++ _ :: t
    rw [List.append_assoc]
    rfl
theorem cast_new {jo k1 k2 k3 k4 : Int32} (k : Nat) : ∃ t, (zIter (zMake jo k1 k2 k3 k4) (k + 1) (lo, bo, (vl, vr, rs, ya, sc))).1 = lo ++ (k1, jo, sc 5, k2, sc 4, k3) :: t := by
  obtain ⟨⟨t, e⟩, -⟩ := zIter_pre (jo := jo) (k1 := k1) (k2 := k2) (k3 := k3) (k4 := k4) k (zMake jo k1 k2 k3 k4 (lo, bo, vl, vr, rs, ya, sc))
  refine ⟨t, ?_⟩
  show (zIter (zMake jo k1 k2 k3 k4) k (zMake jo k1 k2 k3 k4 (lo, bo, vl, vr, rs, ya, sc))).1 = _
  rw [e]
  show (lo ++ [_]) ++ t = lo ++ _ :: t
  rw [List.append_assoc]
  rfl
theorem zLoop_new {lo' t : List kLf} (e : lo' = lo ++ f :: t) (hl : lo.length < 2 ^ 31) : zLoop lo' (Int32.ofNat lo.length) = f := by
  unfold zLoop
  rw [i_nat hl, e, List.getD_eq_getElem?_getD, List.getElem?_append_right (Nat.le_refl _), Nat.sub_self]
  rfl
theorem spCast_eq {q : Nat} (hj : jo = Int32.ofNat j) (hj2 : j < 2) (hq : bY jo ya = Int32.ofNat q) (hqB : q < 2 ^ 31) (h1 : 1 ≤ k) (h2 : k ≤ 24) (h3 : 2 * k ≤ q) (h4 : vl.length + vr.length + k ≤ 24) : spCast (Int32.ofNat k) (nb, jo, lo, bo, pa, ps, (vl, vr, rs, ya, sc)) = (0, Int32.ofNat (vl.length + vr.length + k), wC nb jo pa (pKeep ps (vl, vr, rs, ya, sc)) (zIter (zMake jo 0 1 0 2) k (lo, bo, (vl, vr, rs, ya, sc)))) := by
  show (if _ ∨ _ then _ else if _ ∨ _ then _ else _) = _
  have e2 : (2 : Int32) * Int32.ofNat k = Int32.ofNat (2 * k) := i_mul (a := 2)
  rw [if_neg (show ¬ (Int32.ofNat k < 1 ∨ (24 : Int32) < Int32.ofNat k) from nrg1 h1 h2 (by decide)), i_nat (by omega), if_neg]
  rw [aYn_j hj hj2, hq, e2]
  rintro (z | z)
  · have := (i_lt hqB (by omega)).mp z
    omega
  · omega
theorem lw_cast (hX : kXok xm) (hN : 400 ≤ N) (Q : QC B R (2, jo, lo, bo, pa, ps, (vl, vr, rs, ya, sc))) (hB : B ≤ 700) (hK : kD xm B (R + 1) F (n + 60) D S) (h51 : v51 = Int32.ofNat (yOf (vl, vr, rs, ya, sc))) (h58 : v58 = Int32.ofNat vl.length) (h65 : v65 = Int32.ofNat vr.length) (h73 : v73 = Int32.ofNat lo.length) (I : LwP xm (2, jo, lo, bo, pa, ps, (vl, vr, rs, ya, sc)) F n mem) : dOk (lc_cast xm N D x v51 v58 v65 v73 v81 mem) S := by
  obtain ⟨T, h', I1⟩ := I.inv2
  obtain ⟨l1, l2⟩ := Q.len I1 hB
  have Q0 := Q
  obtain ⟨q1, -, ⟨j, hj, hj2⟩, -, -, -, J⟩ := Q0
  dsimp only at hj J
  have W := pW.of J I1
  obtain ⟨q, hq, hqB⟩ := W.q (by omega) hj hj2
  dsimp only at hq
  have h4 : ya.length = 4 := I1.sw.2.2.2.2
  have l24 : vl.length + vr.length ≤ 24 := I1.1.2.1.2.1
  subst h51 h58 h65 h73
  unfold lc_cast
  obtain ⟨r, hr, er⟩ := q_below xm N mem (x >>> (4 &&& 31)) (k := 4) (by decide) (by decide)
  refine ok_eI er ?_
  have e1 : (1 : Int32) + Int32.ofNat r = Int32.ofNat (r + 1) := by rw [show (1 : Int32) = Int32.ofNat 1 from rfl, i_add, Nat.add_comm]
  have e2 : (2 : Int32) * Int32.ofNat (r + 1) = Int32.ofNat (2 * (r + 1)) := i_mul (a := 2)
  rw [e1, i_add, i_add, e2]
  refine ok_if (fun _ => hK _ _ _ Q.up (by omega) I) (fun g24 => ?_)
  have g24 : vl.length + vr.length + (r + 1) ≤ 24 := Nat.not_lt.mp fun z => g24 ((i_lt (a := 24) (by decide) (by omega)).mpr z)
  refine lp_many (by omega) q1 2 (by decide) jo rfl rfl I fun m I => ?_
  refine lp_left j hj2 (by decide) (Int32.ofNat q) ((bY_j hj hj2).symm.trans hq) hj I fun m I => ?_
  refine ok_if (fun _ => hK _ _ _ Q.up (by omega) I) (fun gq => ?_)
  have gq : 2 * (r + 1) ≤ q := Nat.not_lt.mp fun z => gq ((i_lt (by omega) (by omega)).mpr z)
  have es := spCast_eq (nb := 2) (lo := lo) (bo := bo) (pa := pa) (ps := ps) (rs := rs) (sc := sc) hj hj2 hq (by omega) (show 1 ≤ r + 1 by omega) (by omega) gq g24
  refine lp_rc I (lp_I I (fun cap Dd => q_cast (lo := lo) (bo := bo) hX (by omega) (by omega) (by omega) Dd) es fun m I => ?_)
  rw [if_pos rfl]
  have ho : cOk (spCast (Int32.ofNat (r + 1)) (2, jo, lo, bo, pa, ps, (vl, vr, rs, ya, sc))).2.2 := ok_cast I1.jj (by decide) h4 q1
  rw [es] at ho
  obtain ⟨W', R', y', l'⟩ := pW.cast (B := B) (R := R) (j := j) (jo := jo) (r + 1) (lo, bo, (vl, vr, rs, ya, sc)) q W (by dsimp only; omega) (by omega) hj hj2 h4 hq hqB gq
  have eb := (zIter_pre (jo := jo) (k1 := 0) (k2 := 1) (k3 := 0) (k4 := 2) (r + 1) (lo, bo, (vl, vr, rs, ya, sc))).2
  obtain ⟨t, et⟩ := cast_new (lo := lo) (bo := bo) (vl := vl) (vr := vr) (rs := rs) (ya := ya) (sc := sc) (jo := jo) (k1 := 0) (k2 := 1) (k3 := 0) (k4 := 2) r
  generalize zIter (zMake jo 0 1 0 2) (r + 1) (lo, bo, (vl, vr, rs, ya, sc)) = w' at I ho W' R' y' l' eb et
  have Q' := Q.made W' R' eb ho (by dsimp only at l'; omega)
  obtain ⟨lo', bo', vl', vr', rs', ya', sc'⟩ := w'
  dsimp only at y' l' et
  have I : LwP xm (2, jo, lo', bo', pa, pKeep ps (vl, vr, rs, ya, sc), (vl', vr', rs', ya', sc')) F _ m := I
  have Q' : QC B R (2, jo, lo', bo', pa, pKeep ps (vl, vr, rs, ya, sc), (vl', vr', rs', ya', sc')) := Q'
  obtain ⟨T', h2', I2⟩ := I.inv2
  obtain ⟨l3, l4⟩ := Q'.len I2 hB
  have ez := zLoop_new et (by omega)
  have hid : aId lo'.length (Int32.ofNat lo.length) := ⟨lo.length, rfl, by omega⟩
  refine lp_many (by omega) Q'.1 7 (by decide) (Int32.ofNat lo'.length) I2.made rfl I fun m I => ?_
  rw [if_pos (by rw [i_add, l'])]
  refine lp_many (by omega) Q'.1 1 (by decide) (Int32.ofNat (yOf (vl', vr', rs', ya', sc'))) (Q'.2.2.2.2.2.2.now.sum (by omega)).1 rfl I fun m I => ?_
  rw [if_pos (by rw [i_sub (by omega)]; congr 1; omega)]
  refine lp_ofLoop (by omega) (by omega) (by omega) 0 (by decide) 0 hid (by rw [ez]; rfl) rfl I fun m I => ?_
  rw [if_pos rfl]
  refine lp_ofLoop (by omega) (by omega) (by omega) 3 (by decide) 1 hid (by rw [ez]; rfl) rfl I fun m I => ?_
  rw [if_pos rfl]
  exact hK _ _ _ Q'.up (by omega) I
/-! follow -/
theorem spFollow_eq (hi : i < pa.length) (h6 : pa.length ≤ 6) (hv : vl.length ≠ 0) : spFollow (Int32.ofNat i) (nb, jo, lo, bo, pa, ps, (vl, vr, rs, ya, sc)) = (0, Int32.ofNat (zFollow jo (pa.getD i 0) 99 0 (lo, bo, (vl, vr, rs, ya, sc))).1, wC nb jo pa (pKeep ps (vl, vr, rs, ya, sc)) (zFollow jo (pa.getD i 0) 99 0 (lo, bo, (vl, vr, rs, ya, sc))).2) := by
  show (if _ ∨ _ then _ else if _ then _ else _) = _
  rw [if_neg (nrg hi (by omega)), if_neg (fun z => hv (by rw [z]; rfl)), i_nat (by omega)]
theorem zFollow_len {v : Nat} (h1 : 1 ≤ v) (h2 : v ≤ 999999999) (nz : aNz v) (hx : x.toNatClampNeg = v) (hj : jo = Int32.ofNat j) (hj2 : j < 2) : ∀ (k d : Nat) (w : aW), w.2.2.2.2.2.1.length = 4 → (zFollow jo x k d w).2.1.length ≤ w.1.length + 3 * k := by
  intro k
  induction k with
  | zero => intro d w _; exact Nat.le_refl _
  | succ k ih =>
    intro d w h4
    obtain ⟨d1, d9⟩ := pDg_ok (i := d) h1 h2 nz
    unfold zFollow
    rw [hx]
    split
    · show w.1.length ≤ _
      omega
    · split
      · rename_i g
        obtain ⟨z1, z2, z3⟩ := zCan_all g
        obtain ⟨n1, n2, n3, n4, n5, n6⟩ := zStep_num (jo := jo) (w := w) d1 d9 z1 (Or.inr ⟨j, hj, by omega⟩) h4
        have := ih (d + 1) (zStep jo (pDg v (d % pLen v)) w) (by omega)
        omega
      · show w.1.length ≤ _
        omega
theorem lw_follow (hX : kXok xm) (hN : 400 ≤ N) (Q : QC B R (2, jo, lo, bo, pa, ps, (vl, vr, rs, ya, sc))) (hB : B ≤ 700) (hK : kD xm B (R + 1) F (n + 60) D S) (h51 : v51 = Int32.ofNat (yOf (vl, vr, rs, ya, sc))) (h58 : v58 = Int32.ofNat vl.length) (I : LwP xm (2, jo, lo, bo, pa, ps, (vl, vr, rs, ya, sc)) F n mem) : dOk (lc_follow xm N D x v51 v58 v65 v73 v81 mem) S := by
  obtain ⟨T, h', I1⟩ := I.inv2
  obtain ⟨l1, l2⟩ := Q.len I1 hB
  have Q0 := Q
  obtain ⟨q1, -, ⟨j, hj, hj2⟩, q5, -, -, J⟩ := Q0
  dsimp only at hj J q5
  have h4 : ya.length = 4 := I1.sw.2.2.2.2
  have l24 : vl.length ≤ 24 := I1.sw.1
  subst h51 h58
  unfold lc_follow
  refine lp_many (by omega) q1 14 (by decide) (Int32.ofNat pa.length) rfl rfl I fun m I => ?_
  obtain ⟨r, hr, er⟩ := q_below xm N m (x >>> (4 &&& 31)) (k := pa.length) (by omega) (by omega)
  refine ok_eI er ?_
  obtain ⟨W', R', eb, ew, q, t, hq, hqB, ht, htq, y'⟩ := zT_follow Q I1 hB hr
  refine lp_would hX (by omega) q1 r hr rfl I fun m I => ?_
  refine lp_needs hX (by omega) q1 r hr rfl I fun m I => ?_
  refine ok_if (fun _ => hK _ _ _ Q.up (by omega) I) (fun g0 => ?_)
  have g0 : vl.length ≠ 0 := fun z => g0 (by rw [z]; rfl)
  have es := spFollow_eq (nb := 2) (jo := jo) (lo := lo) (bo := bo) (ps := ps) (vr := vr) (rs := rs) (ya := ya) (sc := sc) hr (by omega) g0
  refine lp_rc I (lp_I I (fun cap Dd => q_follow (lo := lo) (bo := bo) hX (by omega) q1.1.1 (by omega) (by omega) Dd) es fun m I => ?_)
  have h99 := (zFollow_ge (jo := jo) (x := pa.getD r 0) 99 0 (lo, bo, (vl, vr, rs, ya, sc))).2
  rw [if_neg (show ¬ (99 : Int32) < Int32.ofNat (zFollow jo (pa.getD r 0) 99 0 (lo, bo, (vl, vr, rs, ya, sc))).1 from fun z => by have := (i_lt (a := 99) (by decide) (by omega)).mp z; omega)]
  have ho : cOk (spFollow (Int32.ofNat r) (2, jo, lo, bo, pa, ps, (vl, vr, rs, ya, sc))).2.2 := ok_follow I1.jj (by decide) h4 I1.1.2.2.2.2.2 (by omega) q1
  rw [es] at ho
  obtain ⟨v, ev, v1, v2, nz⟩ := I1.1.2.2.2.2.2 _ (List.getElem_mem hr)
  have ex : pa.getD r 0 = Int32.ofNat v := by rw [List.getD_eq_getElem?_getD, List.getElem?_eq_getElem hr, ← ev]; rfl
  have hl := zFollow_len (jo := jo) (x := pa.getD r 0) v1 v2 nz (by rw [ex, i_nat (by omega)]) hj hj2 99 0 (lo, bo, (vl, vr, rs, ya, sc)) h4
  dsimp only at hl
  rw [ew, ht]
  generalize (zFollow jo (pa.getD r 0) 99 0 (lo, bo, (vl, vr, rs, ya, sc))).2 = w' at I ho W' R' eb y' hl
  have Q' := Q.made W' R' eb ho (by omega)
  obtain ⟨lo', bo', vl', vr', rs', ya', sc'⟩ := w'
  dsimp only at y'
  have I : LwP xm (2, jo, lo', bo', pa, pKeep ps (vl, vr, rs, ya, sc), (vl', vr', rs', ya', sc')) F _ m := I
  have Q' : QC B R (2, jo, lo', bo', pa, pKeep ps (vl, vr, rs, ya, sc), (vl', vr', rs', ya', sc')) := Q'
  refine lp_many (by omega) Q'.1 3 (by decide) (Int32.ofNat vl'.length) rfl rfl I fun m I => ?_
  refine lp_many (by omega) Q'.1 4 (by decide) (Int32.ofNat vr'.length) rfl rfl I fun m I => ?_
  rw [if_pos i_add]
  refine lp_many (by omega) Q'.1 1 (by decide) (Int32.ofNat (yOf (vl', vr', rs', ya', sc'))) (Q'.2.2.2.2.2.2.now.sum (by omega)).1 rfl I fun m I => ?_
  rw [if_pos (by rw [i_sub (by omega)]; congr 1; omega)]
  exact hK _ _ _ Q'.up (by omega) I
/-! undo -/
theorem las_ne {l : List aS} (h : ¬ l = []) : ∃ t s, l = t ++ [s] := ⟨l.dropLast, l.getLast h, (List.dropLast_concat_getLast h).symm⟩
theorem lw_undo {K : Nat → Nat → Int32 → Int32 → kM → dRes} {a2 a3 a5 a8 : Int32} {a0 : Nat} (hN : 400 ≤ N) (Q : QC B R (2, jo, lo, bo, pa, ps, (vl, vr, rs, ya, sc))) (hB : B ≤ 700) (hK : kD xm B (R + 1) F (n + 60) (fun m => m_law_law_1303 xm N K a0 1000 a2 a3 m) S) (h5 : a5 = Int32.ofNat (yOf (vl, vr, rs, ya, sc))) (h8 : a8 = Int32.ofNat lo.length) (I : LwP xm (2, jo, lo, bo, pa, ps, (vl, vr, rs, ya, sc)) F n mem) : dOk (m_law_law_724 xm N K a0 1000 a2 a3 a5 a8 mem) S := by
  obtain ⟨T, h', I1⟩ := I.inv2
  obtain ⟨l1, l2⟩ := Q.len I1 hB
  have Q0 := Q
  obtain ⟨q1, q2, q3, q5, -, -, J⟩ := Q0
  dsimp only at q2 q3 q5 J
  have h12 : ps.length ≤ 12 := I1.1.2.2.2.1
  subst h5 h8
  unfold m_law_law_724
  refine lp_many (by omega) q1 15 (by decide) (Int32.ofNat ps.length) rfl rfl I fun m I => ?_
  refine ok_if (fun _ => hK _ _ _ Q.up (by omega) I) (fun g0 => ?_)
  have g0 : ¬ ps = [] := fun z => g0 (by rw [z]; rfl)
  obtain ⟨qs, s0, rfl⟩ := las_ne g0
  have es : spUndo (2, jo, lo, bo, pa, qs ++ [s0], (vl, vr, rs, ya, sc)) = (0, Int32.ofNat qs.length, (2, jo, lo.take (s0.2.2.2.2 6).toNatClampNeg, bo.take (s0.2.2.2.2 7).toNatClampNeg, pa, qs, s0)) := by
    show (if _ then _ else _) = _
    rw [if_neg g0, List.getLastD_concat, List.dropLast_concat, List.length_append, List.length_singleton, Nat.add_sub_cancel]
  have ho : cOk (spUndo (2, jo, lo, bo, pa, qs ++ [s0], (vl, vr, rs, ya, sc))).2.2 := ok_undo q1
  rw [es] at ho
  have e1 : Int32.ofNat (qs ++ [s0]).length - 1 = Int32.ofNat qs.length := by
    rw [List.length_append, List.length_singleton, i_sub1 (by omega), Nat.add_sub_cancel]
  refine lp_many (by omega) q1 15 (by decide) (Int32.ofNat (qs ++ [s0]).length) rfl rfl I fun m I => ?_
  refine lp_rc I (lp_I I (fun cap Dd => q_undo (lo := lo) (bo := bo) (by omega) (by omega) (by omega) Dd) es fun m I => ?_)
  rw [e1, if_pos rfl]
  have hle : (lo.take (s0.2.2.2.2 6).toNatClampNeg).length ≤ lo.length := by rw [List.length_take]; omega
  have hlb : (bo.take (s0.2.2.2.2 7).toNatClampNeg).length ≤ bo.length := by rw [List.length_take]; omega
  have hy : yOf (vl, vr, rs, ya, sc) ≤ yOf s0 := J.2.2.2.2 s0 (List.mem_append_right _ (List.mem_singleton.mpr rfl))
  have hJ : PJ B R (lo.take (s0.2.2.2.2 6).toNatClampNeg) (bo.take (s0.2.2.2.2 7).toNatClampNeg) qs s0 := by
    obtain ⟨T', h2', I2⟩ := I.inv2
    refine J.undo (by omega) fun p hp => ?_
    rcases List.mem_append.mp hp with hp | hp
    · obtain ⟨n', b', a1, a2, a3⟩ := aCh_le I2.1.2.2.1 p (List.mem_reverse.mpr hp)
      exact ⟨n', a3.2.2.2.2.2.1, a1, by omega⟩
    · rw [List.mem_singleton.mp hp]
      exact ⟨_, I2.made, Nat.le_refl _, by omega⟩
  have Q' : QC B R (2, jo, lo.take (s0.2.2.2.2 6).toNatClampNeg, bo.take (s0.2.2.2.2 7).toNatClampNeg, pa, qs, s0) := ⟨ho, rfl, q3, q5, by dsimp only; omega, by dsimp only; omega, hJ⟩
  generalize lo.take (s0.2.2.2.2 6).toNatClampNeg = lo' at *
  generalize bo.take (s0.2.2.2.2 7).toNatClampNeg = bo' at *
  obtain ⟨vl', vr', rs', ya', sc'⟩ := s0
  obtain ⟨T', h2', I2⟩ := I.inv2
  have hs := Q'.2.2.2.2.2.2.now.sum (show B ≤ 20000 by omega)
  have hs0 := (Q.2.2.2.2.2.2.now.sum (show B ≤ 20000 by omega)).2
  refine lp_many (by omega) Q'.1 15 (by decide) (Int32.ofNat qs.length) rfl rfl I fun m I => ?_
  rw [if_pos rfl]
  refine lp_many (by omega) Q'.1 7 (by decide) (Int32.ofNat lo'.length) I2.made rfl I fun m I => ?_
  rw [if_neg (fun z => by have := (i_lt (by omega) (by omega)).mp z; omega)]
  refine lp_many (by omega) Q'.1 1 (by decide) (Int32.ofNat (yOf (vl', vr', rs', ya', sc'))) hs.1 rfl I fun m I => ?_
  have hs2 := hs.2
  rw [if_neg (fun z => by have := (i_lt (by omega) (by omega)).mp z; omega)]
  exact hK _ _ _ Q'.up (by omega) I
end PG
