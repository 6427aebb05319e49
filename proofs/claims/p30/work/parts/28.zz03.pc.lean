/-! ===== a property of its own: the class between the law's calls ===== -/
/-- contents c; F lies beside the class; so many calls' cells and slots are used -/
def LwP (xm : Nat → Option kE) (c : aC) (F : kSg) (n : Nat) (mem : kM) : Prop := ∃ q cap T h, 384 ≤ cap ∧ cap ≤ 119988 ∧ INV c.1 c.2.1 c.2.2.1 c.2.2.2.1 c.2.2.2.2.1 c.2.2.2.2.2.1 c.2.2.2.2.2.2 T h ∧ (∀ i, cap ≤ i → i < 119988 → T i = 0) ∧ HpT (cE c.1 c.2.1 c.2.2.2.2.1 c.2.2.2.2.2.2 q cap T h) F mem ∧ mem.length ≤ 400 + n + kPsi cap ∧ kSl mem ≤ 6000 + 6 * n + kPhi cap
section PC
variable {xm : Nat → Option kE} {mem m0 : kM} {F G A : kSg} {S : kO × kM → Prop} {X : dRes} {N k n cap nb i j r t1 t2 t z : Nat} {c c2 : aC} {sp : aR} {x y v jo : Int32} {lo : List kLf} {bo pa vl vr ya ys : List Int32} {ps : List aS} {rs : List (List Int32)} {sc : Nat → Int32} {f : Nat × kE}
theorem LwP.up (I : LwP xm c F n mem) (h : n ≤ k) : LwP xm c F k mem := by
  obtain ⟨q, cap, T, h', h1, h2, I1, hz, H, r1, r2⟩ := I
  exact ⟨q, cap, T, h', h1, h2, I1, hz, H, by omega, by omega⟩
theorem LwP.cls (I : LwP xm c F n mem) : ∃ cap, KC xm c F 0 0 mem cap mem ∧ ∀ (m : kM) (c2 : aC) (c1 s1 k : Nat) (F2 : kSg), c1 ≤ k → s1 ≤ 6 * k → KC xm c2 F2 c1 s1 mem cap m → LwP xm c2 F2 (n + k) m := by
  obtain ⟨q, cap, T, h, h1, h2, I1, hz, H, r1, r2⟩ := I
  refine ⟨cap, ⟨T, h, I1, eQ.refl h1 h2 ⟨hz, H⟩⟩, fun m c2 c1 s1 k F2 hc hs D => ?_⟩
  obtain ⟨T', h', I', q', cap', c, s, k1, k2, ⟨hz', H'⟩, S1, k3, k4⟩ := D
  have a := S1.2.1
  have b := S1.2.2.1
  exact ⟨q', cap', T', h', k1, k2, I', hz', H', by omega, by omega⟩
theorem LwP.inv (I : LwP xm c F n mem) : ∃ T h, INV c.1 c.2.1 c.2.2.1 c.2.2.2.1 c.2.2.2.2.1 c.2.2.2.2.2.1 c.2.2.2.2.2.2 T h := by
  obtain ⟨q, cap, T, h, h1, h2, I1, -⟩ := I
  exact ⟨T, h, I1⟩
theorem LwP.inv2 {st : aS} (I : LwP xm (nb, jo, lo, bo, pa, ps, st) F n mem) : ∃ T h, INV nb jo lo bo pa ps st T h := I.inv
theorem lp_rc {K : dRes} (I : LwP xm c F n mem) (g : dOk K S) : dOk (dRc xm mem 1000 11 K) S := by
  obtain ⟨cap, D, -⟩ := I.cls
  exact s_rc D g
theorem eX_I (h : dOk X (eX xm t1 t2 sp F m0 cap)) (e : sp = (0, v, c2)) : dOk X (rI fun x m => x = v ∧ KC xm c2 F 1 6 m0 cap m) := by
  subst e
  refine ok_mono h fun r hr => ?_
  rcases hr with ⟨x, h1, h2, h3, h4⟩ | ⟨x, h1, h2, -⟩
  · exact ⟨x, h1, h3, h4⟩
  · rcases h2 with ⟨h2, -⟩ | ⟨h2, -⟩
    · exact absurd (show (0 : Int32) = 1 from h2) (by decide)
    · exact absurd (show (0 : Int32) = 2 from h2) (by decide)
/-- a call that answers -/
theorem lp_I {K : Int32 → kM → dRes} (I : LwP xm c F n mem) (h : ∀ cap, KC xm c F 0 0 mem cap mem → dOk X (eX xm t1 t2 sp F mem cap)) (e : sp = (0, v, c2)) (K' : ∀ m, LwP xm c2 F (n + 1) m → dOk (K v m) S) : dOk (dCI X K) S := by
  obtain ⟨cap, D, back⟩ := I.cls
  refine ok_cI (eX_I (h cap D) e) fun x m hh => ?_
  obtain ⟨rfl, D2⟩ := hh
  exact K' m (back m _ 1 6 1 F (by decide) (by decide) D2)
/-- a call whose exception is caught -/
theorem lp_X {K : Int32 → kM → dRes} {H : Nat → kM → dRes} (I : LwP xm c F n mem) (h : ∀ cap, KC xm c F 0 0 mem cap mem → dOk X (eX xm t1 t2 sp F mem cap)) (K0 : ∀ m, sp.1 = 0 → LwP xm sp.2.2 F (n + 1) m → dOk (K sp.2.1 m) S) (K1 : ∀ m, sp.1 = 1 → LwP xm sp.2.2 F (n + 1) m → dOk (H t1 m) S) (K2 : ∀ m, sp.1 = 2 → LwP xm sp.2.2 F (n + 1) m → dOk (H t2 m) S) : dOk (dCX X K H) S := by
  obtain ⟨cap, D, back⟩ := I.cls
  refine ok_cX (h cap D) (fun x m hh => ?_) (fun e m hh => ?_)
  · obtain ⟨h0, rfl, D2⟩ := hh
    exact K0 m h0 (back m _ 1 6 1 F (by decide) (by decide) D2)
  · obtain ⟨h1, D2⟩ := hh
    have I2 := back m _ 1 6 1 F (by decide) (by decide) D2
    rcases h1 with ⟨h1, rfl⟩ | ⟨h1, rfl⟩
    · exact K1 m h1 I2
    · exact K2 m h1 I2
theorem lp_1 {K : Int32 → kM → dRes} {P : Int32 → Prop} (I : LwP xm c F n mem) (h : ∀ cap, KC xm c F 0 0 mem cap mem → dOk X (rI fun v m => P v ∧ KC xm c F 0 0 mem cap m)) (K' : ∀ v m, P v → LwP xm c F (n + 1) m → dOk (K v m) S) : dOk (dCI X K) S := by
  obtain ⟨cap, D, back⟩ := I.cls
  refine ok_cI (h cap D) fun x m hh => ?_
  exact K' x m hh.1 (back m _ 0 0 1 F (by decide) (by decide) hh.2)
theorem lp_D {K : UInt64 → kM → dRes} {P : UInt64 → Prop} (I : LwP xm c F n mem) (h : ∀ cap, KC xm c F 0 0 mem cap mem → dOk X (rD fun v m => P v ∧ KC xm c F 0 0 mem cap m)) (K' : ∀ v m, P v → LwP xm c F (n + 1) m → dOk (K v m) S) : dOk (dCD X K) S := by
  obtain ⟨cap, D, back⟩ := I.cls
  refine ok_cD (h cap D) fun x m hh => ?_
  exact K' x m hh.1 (back m _ 0 0 1 F (by decide) (by decide) hh.2)
theorem lp_J {K : Int64 → kM → dRes} {P : Int64 → Prop} (I : LwP xm c F n mem) (h : ∀ cap, KC xm c F 0 0 mem cap mem → dOk X (rJ fun v m => P v ∧ KC xm c F 0 0 mem cap m)) (K' : ∀ v m, P v → LwP xm c F (n + 1) m → dOk (K v m) S) : dOk (dCJ X K) S := by
  obtain ⟨cap, D, back⟩ := I.cls
  refine ok_cJ (h cap D) fun x m hh => ?_
  exact K' x m hh.1 (back m _ 0 0 1 F (by decide) (by decide) hh.2)
/-! what lies beside the class -/
theorem LwP.look {e : kE} (I : LwP xm c F n mem) (k : Nat) (hk : F[k]? = some (r, e)) : kLook xm mem r = some e := by
  obtain ⟨q, cap, T, h', h1, h2, I1, hz, ⟨A, tA, H⟩, r1, r2⟩ := I
  refine H.look (A.length + k) ?_
  rw [List.getElem?_append_right (by omega), Nat.add_sub_cancel_left]
  exact hk
theorem lp_iL {K : Int32 → dRes} (I : LwP xm c F n mem) (k : Nat) (hk : F[k]? = some (r, .inr (.inl (t, ys)))) (hi : kInB x ys.length = true) (h : dOk (K (ys.getD x.toNatClampNeg 0)) S) : dOk (dIL xm t mem r x K) S := ok_iL (I.look k hk) hi h
theorem lp_iLv {K : Int32 → dRes} (I : LwP xm c F n mem) (k : Nat) (hk : F[k]? = some (r, .inr (.inl (t, ys)))) (hi : kInB x ys.length = true) (v : Int32) (hv : ys.getD x.toNatClampNeg 0 = v) (h : dOk (K v) S) : dOk (dIL xm t mem r x K) S := by
  subst hv
  exact ok_iL (I.look k hk) hi h
theorem lp_iS {K : kM → dRes} (I : LwP xm c F n mem) (k : Nat) (hk : F[k]? = some (r, .inr (.inl (0, ys)))) (hi : kInB x ys.length = true) (h : ∀ m, LwP xm c (F.set k (r, .inr (.inl (0, ys.set x.toNatClampNeg y)))) n m → dOk (K m) S) : dOk (dIS xm mem r x y K) S := by
  obtain ⟨q, cap, T, h', h1, h2, I1, hz, ⟨A, tA, H⟩, r1, r2⟩ := I
  refine ok_iS H (A.length + k) (by rw [List.getElem?_append_right (by omega), Nat.add_sub_cancel_left]; exact hk) hi fun m H1 S1 => ?_
  rw [List.set_append_right _ _ (by omega), Nat.add_sub_cancel_left] at H1
  have a := S1.2.1
  have b := S1.2.2.1
  exact h m ⟨q, cap, T, h', h1, h2, I1, hz, ⟨A, tA, H1⟩, by omega, by omega⟩
theorem lp_nI {K : kM → Nat → dRes} (I : LwP xm c F n mem) (hz : z ≤ 16) (h : ∀ m p, LwP xm c ((p, .inr (.inl (0, List.replicate z 0))) :: F) (n + 3) m → dOk (K m p) S) : dOk (dNI 0 mem (Int32.ofNat z) K) S := by
  obtain ⟨q, cap, T, h', h1, h2, I1, hz', ⟨A, tA, H⟩, r1, r2⟩ := I
  refine ok_nI xm H (by omega) fun m p H1 S1 => ?_
  have a := S1.2.1
  have b := S1.2.2.1
  exact h m p ⟨q, cap, T, h', h1, h2, I1, hz', ⟨A, tA, H1.perm List.perm_middle.symm⟩, by omega, by omega⟩
theorem LwP.sub (I : LwP xm c F n mem) (h : G.Sublist F) : LwP xm c G n mem := by
  obtain ⟨q, cap, T, h', h1, h2, I1, hz, ⟨A, tA, H⟩, r1, r2⟩ := I
  exact ⟨q, cap, T, h', h1, h2, I1, hz, ⟨A, tA, H.sub (List.Sublist.append (List.Sublist.refl _) h)⟩, r1, r2⟩
theorem LwP.drop1 (I : LwP xm c (f :: F) n mem) : LwP xm c F n mem := I.sub (List.sublist_cons_self _ _)
/-! what is asked, where the answer is told -/
theorem nrg (hi : i < n) (hn : n < 2 ^ 31) : ¬ (Int32.ofNat i < 0 ∨ ¬ Int32.ofNat i < Int32.ofNat n) := fun z => z.elim (i_nn (by omega)) fun z => z ((i_lt (by omega) hn).mpr hi)
theorem lp_many {K : Int32 → kM → dRes} (hN : 120 ≤ N) (hc : cOk (nb, jo, lo, bo, pa, ps, (vl, vr, rs, ya, sc))) (i : Nat) (hi : i < 16) (v : Int32) (hv : zMny nb jo pa ps (vl, vr, rs, ya, sc) i = v) (hx : x = Int32.ofNat i) (I : LwP xm (nb, jo, lo, bo, pa, ps, (vl, vr, rs, ya, sc)) F n mem) (h : ∀ m, LwP xm (nb, jo, lo, bo, pa, ps, (vl, vr, rs, ya, sc)) F (n + 1) m → dOk (K v m) S) : dOk (dRc xm mem 1000 11 <| dCI (m_K_many xm N 1000 x mem) K) S := by
  subst hv hx
  refine lp_rc I (lp_I I (fun cap D => q_many hN hc.1.2 D) ?_ h)
  show (if _ ∨ _ then _ else _) = _
  rw [if_neg (show ¬ (Int32.ofNat i < 0 ∨ ¬ Int32.ofNat i < 16) from nrg hi (by decide)), i_nat (by omega)]
theorem lp_on {K : Int32 → kM → dRes} (i : Nat) (hi : i < 24) (v : Int32) (hv : nAt (if x = 0 then vl else vr) i = v) (hy : y = Int32.ofNat i) (I : LwP xm (nb, jo, lo, bo, pa, ps, (vl, vr, rs, ya, sc)) F n mem) (h : ∀ m, LwP xm (nb, jo, lo, bo, pa, ps, (vl, vr, rs, ya, sc)) F (n + 1) m → dOk (K v m) S) : dOk (dRc xm mem 1000 11 <| dCI (m_K_on xm N 1000 x y mem) K) S := by
  subst hy hv
  refine lp_rc I (lp_I I (fun cap D => q_on D) ?_ h)
  show (if _ ∨ _ then _ else _) = _
  rw [if_neg (show ¬ (Int32.ofNat i < 0 ∨ ¬ Int32.ofNat i < 24) from nrg hi (by decide)), i_nat (by omega)]
theorem lp_left {K : Int32 → kM → dRes} (i : Nat) (hi : i < nb) (hn : nb ≤ 4) (v : Int32) (hv : ya.getD i 0 = v) (hx : x = Int32.ofNat i) (I : LwP xm (nb, jo, lo, bo, pa, ps, (vl, vr, rs, ya, sc)) F n mem) (h : ∀ m, LwP xm (nb, jo, lo, bo, pa, ps, (vl, vr, rs, ya, sc)) F (n + 1) m → dOk (K v m) S) : dOk (dRc xm mem 1000 11 <| dCI (m_K_left xm N 1000 x mem) K) S := by
  subst hx hv
  refine lp_rc I (lp_I I (fun cap D => q_left D) ?_ h)
  show (if _ ∨ _ then _ else _) = _
  rw [if_neg (nrg hi (by omega)), i_nat (by omega)]
theorem lp_ofRun {K : Int32 → kM → dRes} (i k : Nat) (hi : i < rs.length) (hk : k < 4) (v : Int32) (hv : (rs.getD i []).getD k 0 = v) (hx : x = Int32.ofNat i) (hy : y = Int32.ofNat k) (I : LwP xm (nb, jo, lo, bo, pa, ps, (vl, vr, rs, ya, sc)) F n mem) (h : ∀ m, LwP xm (nb, jo, lo, bo, pa, ps, (vl, vr, rs, ya, sc)) F (n + 1) m → dOk (K v m) S) : dOk (dRc xm mem 1000 11 <| dCI (m_K_ofRun xm N 1000 x y mem) K) S := by
  subst hx hy hv
  obtain ⟨T, h', I1⟩ := I.inv
  have h9 : rs.length ≤ 9 := I1.sw.2.2.1
  refine lp_rc I (lp_I I (fun cap D => q_ofRun D) ?_ h)
  show (if _ ∨ _ then _ else if _ ∨ _ then _ else _) = _
  rw [if_neg (nrg hi (by omega)), if_neg (show ¬ (Int32.ofNat k < 0 ∨ ¬ Int32.ofNat k < 4) from nrg hk (by decide)), i_nat (by omega), i_nat (by omega)]
theorem lp_ofLoop {K : Int32 → kM → dRes} (hN : 120 ≤ N) (hlo : lo.length ≤ 12300) (hbo : bo.length ≤ 12300) (k : Nat) (hk : k < 6) (v : Int32) (hi : aId lo.length x) (hv : zFact (zLoop lo x) (zWhere vl vr rs bo x) k = v) (hy : y = Int32.ofNat k) (I : LwP xm (nb, jo, lo, bo, pa, ps, (vl, vr, rs, ya, sc)) F n mem) (h : ∀ m, LwP xm (nb, jo, lo, bo, pa, ps, (vl, vr, rs, ya, sc)) F (n + 1) m → dOk (K v m) S) : dOk (dRc xm mem 1000 11 <| dCI (m_K_ofLoop xm N 1000 x y mem) K) S := by
  subst hy hv
  obtain ⟨i, rfl, hi⟩ := hi
  refine lp_rc I (lp_I I (fun cap D => q_ofLoop hN hlo hbo D) ?_ h)
  show (if _ ∨ _ then _ else if _ ∨ _ then _ else _) = _
  rw [if_neg (nrg hi (by omega)), if_neg (show ¬ (Int32.ofNat k < 0 ∨ ¬ Int32.ofNat k < 6) from nrg hk (by decide)), i_nat (show k < 2 ^ 31 by omega)]
  rfl
theorem lp_would {K : Int32 → kM → dRes} (hX : kXok xm) (hN : 120 ≤ N) (hc : cOk (nb, jo, lo, bo, pa, ps, (vl, vr, rs, ya, sc))) (i : Nat) (hi : i < pa.length) (hx : x = Int32.ofNat i) (I : LwP xm (nb, jo, lo, bo, pa, ps, (vl, vr, rs, ya, sc)) F n mem) (h : ∀ m, LwP xm (nb, jo, lo, bo, pa, ps, (vl, vr, rs, ya, sc)) F (n + 1) m → dOk (K (Int32.ofNat (zT jo pa vl vr ya i).1.2.1) m) S) : dOk (dRc xm mem 1000 11 <| dCI (m_K_would xm N 1000 x mem) K) S := by
  subst hx
  obtain ⟨T, h', I1⟩ := I.inv
  have h6 : pa.length ≤ 6 := I1.1.2.2.2.2.1
  refine lp_rc I (lp_I I (fun cap D => q_would hX hN hc.1.1 D) ?_ h)
  show (if _ ∨ _ then _ else _) = _
  rw [if_neg (nrg hi (by omega)), i_nat (by omega)]
  rfl
theorem lp_needs {K : Int32 → kM → dRes} (hX : kXok xm) (hN : 120 ≤ N) (hc : cOk (nb, jo, lo, bo, pa, ps, (vl, vr, rs, ya, sc))) (i : Nat) (hi : i < pa.length) (hx : x = Int32.ofNat i) (I : LwP xm (nb, jo, lo, bo, pa, ps, (vl, vr, rs, ya, sc)) F n mem) (h : ∀ m, LwP xm (nb, jo, lo, bo, pa, ps, (vl, vr, rs, ya, sc)) F (n + 1) m → dOk (K (zSpent jo pa vl vr ya i) m) S) : dOk (dRc xm mem 1000 11 <| dCI (m_K_needs xm N 1000 x mem) K) S := by
  subst hx
  obtain ⟨T, h', I1⟩ := I.inv
  have h6 : pa.length ≤ 6 := I1.1.2.2.2.2.1
  refine lp_rc I (lp_I I (fun cap D => q_needs hX hN hc.1.1 D) ?_ h)
  show (if _ ∨ _ then _ else _) = _
  rw [if_neg (nrg hi (by omega)), i_nat (by omega)]
  rfl
theorem lp_best {K : Int32 → kM → dRes} (hX : kXok xm) (hN : 120 ≤ N) (hc : cOk (nb, jo, lo, bo, pa, ps, (vl, vr, rs, ya, sc))) (I : LwP xm (nb, jo, lo, bo, pa, ps, (vl, vr, rs, ya, sc)) F n mem) (h : ∀ m, LwP xm (nb, jo, lo, bo, pa, ps, (vl, vr, rs, ya, sc)) F (n + 1) m → dOk (K (zBest jo pa vl vr ya) m) S) : dOk (dRc xm mem 1000 11 <| dCI (m_K_best xm N 1000 mem) K) S := by
  refine lp_rc I (lp_1 (P := fun v => v = zBest jo pa vl vr ya) I (fun cap D => q_best hX hN hc.1.1 D) fun v m hv I => ?_)
  subst hv
  exact h m I
theorem lp_width {K : UInt64 → kM → dRes} (hN : 120 ≤ N) (hlo : lo.length ≤ 12300) (I : LwP xm (nb, jo, lo, bo, pa, ps, (vl, vr, rs, ya, sc)) F n mem) (h : ∀ m, LwP xm (nb, jo, lo, bo, pa, ps, (vl, vr, rs, ya, sc)) F (n + 1) m → dOk (K (FP.f2d (wf (zWd lo (sc 4) (if x = 0 then vl else vr)))) m) S) : dOk (dRc xm mem 1000 11 <| dCD (m_K_width xm N 1000 x mem) K) S := by
  refine lp_rc I (lp_D (P := fun v => v = FP.f2d (wf (zWd lo (sc 4) (if x = 0 then vl else vr)))) I (fun cap D => q_width hN hlo D) fun v m hv I => ?_)
  subst hv
  exact h m I
theorem lp_digest {K : Int64 → kM → dRes} (hX : kXok xm) (hN : 120 ≤ N) (hlo : lo.length ≤ 12300) (hbo : bo.length ≤ 12300) (hc : cOk (nb, jo, lo, bo, pa, ps, (vl, vr, rs, ya, sc))) (I : LwP xm (nb, jo, lo, bo, pa, ps, (vl, vr, rs, ya, sc)) F n mem) (h : ∀ m, LwP xm (nb, jo, lo, bo, pa, ps, (vl, vr, rs, ya, sc)) F (n + 1) m → dOk (K (zDig nb jo lo bo pa ps vl vr rs ya sc) m) S) : dOk (dRc xm mem 1000 11 <| dCJ (m_K_digest xm N 1000 mem) K) S := by
  refine lp_rc I (lp_J (P := fun v => v = zDig nb jo lo bo pa ps vl vr rs ya sc) I (fun cap D => q_digest hX hN hc.1.1 hc.1.2 hlo hbo D) fun v m hv I => ?_)
  subst hv
  exact h m I
theorem lp_seen {K : Nat → kM → dRes} (hN : 120 ≤ N) (hlo : lo.length ≤ 12300) (I : LwP xm (nb, jo, lo, bo, pa, ps, (vl, vr, rs, ya, sc)) F n mem) (h : ∀ v z m, LwP xm (nb, jo, lo, bo, pa, ps, (vl, vr, rs, ya, sc)) ((v, .inl (0, [.ref z, .int 0, .int 0, .int 0])) :: (z, .inr (.inl (1, zSeen lo (sc 4) (if x = 0 then vl else vr)))) :: F) (n + 150) m → dOk (K v m) S) : dOk (dRc xm mem 1000 11 <| dCR (m_K_seen xm N 1000 x mem) K) S := by
  refine lp_rc I ?_
  obtain ⟨cap, D, back⟩ := I.cls
  refine ok_cR (q_seen hN hlo D) fun v m hh => ?_
  obtain ⟨z, D2⟩ := hh
  exact h v z m (back m _ 30 900 150 _ (by decide) (by decide) D2)
end PC
