/-! ===== what the calls do, as told of contents ===== -/
/-- balls bought, joined, loops, bound off, patterns, past, now -/
abbrev aC : Type := Nat × Int32 × List kLf × List Int32 × List Int32 × List aS × aS
/-- what is thrown, what is answered, the contents then -/
abbrev aR : Type := Int32 × Int32 × aC
/-- loops, bound off, now -/
abbrev aW : Type := List kLf × List Int32 × aS
def aYn (jo : Int32) (ya : List Int32) : Int32 := if jo = -1 then -1 else ya.getD jo.toNatClampNeg 0
def zMake (jo k1 k2 k3 k4 : Int32) : aW → aW
  | (lo, bo, (vl, vr, rs, ya, sc)) => (lo ++ [(k1, jo, sc 5, k2, sc 4, k3)], bo, (vl, vr ++ [sc 6], rs.map kFall, ya.set jo.toNatClampNeg (ya.getD jo.toNatClampNeg 0 - k4), kUp sc 6 (sc 6 + 1)))
def zHeight (lo : List kLf) (v : Int32) : Int32 := (lo.getD v.toNatClampNeg (0, 0, 0, 0, 0, 0)).2.2.2.1
def zWork (jo k : Int32) : aW → aW
  | (lo, bo, (vl, vr, rs, ya, sc)) => zMake jo k (zHeight lo (vl.getLastD 0) + 1) 1 4 (lo, bo, (vl.dropLast, vr, rs, ya, sc))
def zOver (jo : Int32) : aW → aW
  | (lo, bo, (vl, vr, rs, ya, sc)) => zMake jo 3 1 0 3 (lo, bo, (vl, vr, rs, ya, kUp sc 8 (sc 8 + 1)))
def zTog (jo : Int32) (n : Nat) (k : Int32) : aW → aW
  | (lo, bo, (vl, vr, rs, ya, sc)) => zMake jo k 1 (Int32.ofNat n) 5 (lo, bo, (vl.take (vl.length - n), vr, rs, ya, sc))
def zSlip : aW → aW
  | (lo, bo, (vl, vr, rs, ya, sc)) => (lo, bo, (vl.dropLast, vr ++ [vl.getLastD 0], rs, ya, sc))
def zCrossL (n1 n2 : Nat) (vl : List Int32) : List Int32 := vl.take (vl.length - (n1 + n2)) ++ (vl.drop (vl.length - (n1 + n2))).drop n2 ++ (vl.drop (vl.length - (n1 + n2))).take n2
def zCross (n1 n2 : Nat) : aW → aW
  | (lo, bo, (vl, vr, rs, ya, sc)) => (lo, bo, (zCrossL n1 n2 vl, vr, rs, ya, kUp sc 9 (sc 9 + 1)))
def zStep (jo : Int32) (s : Nat) (w : aW) : aW :=
  if s = 1 then zWork jo 1 w else if s = 2 then zWork jo 2 w else if s = 3 then zOver jo w else if s = 4 then zTog jo 2 4 w else if s = 5 then zTog jo 2 5 w else if s = 6 then zSlip w else if s = 7 then zCross 1 1 w else if s = 8 then zTog jo 3 4 w else zWork jo 1 (zOver jo (zWork jo 1 w))
/-- whether a step can be done: loops on the left needle, on both, yarn -/
def zCan (s l a : Nat) (y : Int32) : Bool := decide (aWant s ≤ l) && (decide (aTake s = 0) || decide (¬ y < Int32.ofNat (aTake s))) && (decide (s ≠ 3 ∧ s ≠ 9) || decide (a < 24))
def zFollow (jo v : Int32) : Nat → Nat → aW → Nat × aW
  | 0, d, w => (d, w)
  | f + 1, d, w => if w.2.2.1.length = 0 then (d, w) else
      if zCan (pDg v.toNatClampNeg (d % pLen v.toNatClampNeg)) w.2.2.1.length (w.2.2.1.length + w.2.2.2.1.length) (aYn jo w.2.2.2.2.2.1) = true then zFollow jo v f (d + 1) (zStep jo (pDg v.toNatClampNeg (d % pLen v.toNatClampNeg)) w) else (d, w)
def zIter (f : aW → aW) : Nat → aW → aW
  | 0, w => w
  | n + 1, w => zIter f n (f w)
def zBind1 : aW → aW
  | (lo, bo, (vl, vr, rs, ya, sc)) => (lo, bo ++ [vr.getD (vr.length - (if vr.length = 1 then 1 else 2)) 0], (vl, vr.eraseIdx (vr.length - (if vr.length = 1 then 1 else 2)), rs, ya, kUp sc 7 (sc 7 + 1)))
def pZ : Nat → Nat → Bool
  | 0, _ => false
  | f + 1, n => if 0 < n then (if n % 10 = 0 then true else pZ f (n / 10)) else false
def wC (nb : Nat) (jo : Int32) (pa : List Int32) (ps : List aS) (w : aW) : aC := (nb, jo, w.1, w.2.1, pa, ps, w.2.2)
def spBuy (x : Int32) : aC → aR
  | (nb, jo, lo, bo, pa, ps, st) => if x < 1 ∨ 9999 < x then (1, 0, (nb, jo, lo, bo, pa, ps, st)) else if nb = 4 then (2, 0, (nb, jo, lo, bo, pa, ps, st)) else (0, Int32.ofNat nb, (nb + 1, jo, lo, bo, pa, ps.map (aSetY nb x), aSetY nb x st))
def spJoin (x : Int32) : aC → aR
  | (nb, jo, lo, bo, pa, ps, st) => if x < 0 ∨ ¬ x < Int32.ofNat nb then (1, 0, (nb, jo, lo, bo, pa, ps, st)) else (0, jo, (nb, x, lo, bo, pa, ps, st))
def spCast (x : Int32) : aC → aR
  | (nb, jo, lo, bo, pa, ps, (vl, vr, rs, ya, sc)) => if x < 1 ∨ 24 < x then (1, 0, (nb, jo, lo, bo, pa, ps, (vl, vr, rs, ya, sc))) else if aYn jo ya < 2 * x ∨ 24 < vl.length + vr.length + x.toNatClampNeg then (2, 0, (nb, jo, lo, bo, pa, ps, (vl, vr, rs, ya, sc))) else (0, Int32.ofNat (vl.length + vr.length + x.toNatClampNeg), wC nb jo pa (pKeep ps (vl, vr, rs, ya, sc)) (zIter (zMake jo 0 1 0 2) x.toNatClampNeg (lo, bo, (vl, vr, rs, ya, sc))))
def spWork (x : Int32) : aC → aR
  | (nb, jo, lo, bo, pa, ps, (vl, vr, rs, ya, sc)) => if vl = [] ∨ aYn jo ya < 4 then (1, 0, (nb, jo, lo, bo, pa, ps, (vl, vr, rs, ya, sc))) else (0, sc 6, wC nb jo pa (pKeep ps (vl, vr, rs, ya, sc)) (zWork jo (if x = 0 then 1 else 2) (lo, bo, (vl, vr, rs, ya, sc))))
def spOver : aC → aR
  | (nb, jo, lo, bo, pa, ps, (vl, vr, rs, ya, sc)) => if vl.length + vr.length = 24 ∨ aYn jo ya < 3 then (1, 0, (nb, jo, lo, bo, pa, ps, (vl, vr, rs, ya, sc))) else (0, sc 6, wC nb jo pa (pKeep ps (vl, vr, rs, ya, sc)) (zOver jo (lo, bo, (vl, vr, rs, ya, sc))))
def spTog (x y : Int32) : aC → aR
  | (nb, jo, lo, bo, pa, ps, (vl, vr, rs, ya, sc)) => if ¬ (x = 2 ∨ x = 3) then (1, 0, (nb, jo, lo, bo, pa, ps, (vl, vr, rs, ya, sc))) else if vl.length < x.toNatClampNeg ∨ aYn jo ya < 5 then (2, 0, (nb, jo, lo, bo, pa, ps, (vl, vr, rs, ya, sc))) else (0, sc 6, wC nb jo pa (pKeep ps (vl, vr, rs, ya, sc)) (zTog jo x.toNatClampNeg (if y = 0 then 4 else 5) (lo, bo, (vl, vr, rs, ya, sc))))
def spSlip : aC → aR
  | (nb, jo, lo, bo, pa, ps, (vl, vr, rs, ya, sc)) => if vl = [] then (1, 0, (nb, jo, lo, bo, pa, ps, (vl, vr, rs, ya, sc))) else (0, vl.getLastD 0, wC nb jo pa (pKeep ps (vl, vr, rs, ya, sc)) (zSlip (lo, bo, (vl, vr, rs, ya, sc))))
def spCross (x y : Int32) : aC → aR
  | (nb, jo, lo, bo, pa, ps, (vl, vr, rs, ya, sc)) => if (x < 1 ∨ 3 < x) ∨ y < 1 ∨ 3 < y then (1, 0, (nb, jo, lo, bo, pa, ps, (vl, vr, rs, ya, sc))) else if vl.length < x.toNatClampNeg + y.toNatClampNeg then (2, 0, (nb, jo, lo, bo, pa, ps, (vl, vr, rs, ya, sc))) else (0, nAt (zCrossL x.toNatClampNeg y.toNatClampNeg vl) 0, wC nb jo pa (pKeep ps (vl, vr, rs, ya, sc)) (zCross x.toNatClampNeg y.toNatClampNeg (lo, bo, (vl, vr, rs, ya, sc))))
def spTurn : aC → aR
  | (nb, jo, lo, bo, pa, ps, (vl, vr, rs, ya, sc)) => if vl.length + vr.length = 0 then (1, 0, (nb, jo, lo, bo, pa, ps, (vl, vr, rs, ya, sc))) else (0, Int32.ofNat vr.length, (nb, jo, lo, bo, pa, pKeep ps (vl, vr, rs, ya, sc), (vr, vl, rs, ya, kUp (kUp (kUp sc 10 (sc 10 + if vl = [] then 0 else 1)) 4 (1 - sc 4)) 5 (sc 5 + 1))))
def spBind (x : Int32) : aC → aR
  | (nb, jo, lo, bo, pa, ps, (vl, vr, rs, ya, sc)) => if x < 1 ∨ 24 < x then (1, 0, (nb, jo, lo, bo, pa, ps, (vl, vr, rs, ya, sc))) else
      if (x.toNatClampNeg = vr.length ∧ vl = []) then (if aYn jo ya < 6 then (2, 0, (nb, jo, lo, bo, pa, ps, (vl, vr, rs, ya, sc))) else (0, Int32.ofNat (vl.length + vr.length - x.toNatClampNeg), wC nb jo pa (pKeep ps (vl, vr, rs, ya, sc)) (zIter zBind1 x.toNatClampNeg (lo, bo, (vl, vr, rs, ya.set jo.toNatClampNeg (ya.getD jo.toNatClampNeg 0 - 6), sc)))))
      else if vr.length ≤ x.toNatClampNeg then (2, 0, (nb, jo, lo, bo, pa, ps, (vl, vr, rs, ya, sc))) else (0, Int32.ofNat (vl.length + vr.length - x.toNatClampNeg), wC nb jo pa (pKeep ps (vl, vr, rs, ya, sc)) (zIter zBind1 x.toNatClampNeg (lo, bo, (vl, vr, rs, ya, sc))))
def spDrop : aC → aR
  | (nb, jo, lo, bo, pa, ps, (vl, vr, rs, ya, sc)) => if vl = [] ∨ rs.length = 9 then (1, 0, (nb, jo, lo, bo, pa, ps, (vl, vr, rs, ya, sc))) else (0, Int32.ofNat rs.length, (nb, jo, lo, bo, pa, pKeep ps (vl, vr, rs, ya, sc), (vl.dropLast, vr, rs ++ [[vl.getLastD 0, zHeight lo (vl.getLastD 0), 0, 1]], ya, sc)))
def spLatch (x : Int32) : aC → aR
  | (nb, jo, lo, bo, pa, ps, (vl, vr, rs, ya, sc)) => if x < 0 ∨ ¬ x < Int32.ofNat rs.length then (1, 0, (nb, jo, lo, bo, pa, ps, (vl, vr, rs, ya, sc))) else if (rs.getD x.toNatClampNeg []).getD 3 0 = 0 ∨ vl.length + vr.length = 24 then (2, 0, (nb, jo, lo, bo, pa, ps, (vl, vr, rs, ya, sc))) else (0, (rs.getD x.toNatClampNeg []).getD 2 0, (nb, jo, lo, bo, pa, pKeep ps (vl, vr, rs, ya, sc), (vl ++ [(rs.getD x.toNatClampNeg []).getD 0 0], vr, rs.set x.toNatClampNeg ((rs.getD x.toNatClampNeg []).set 3 0), ya, sc)))
def spPattern (x : Int32) : aC → aR
  | (nb, jo, lo, bo, pa, ps, st) => if (x < 1 ∨ 999999999 < x) ∨ pZ 9 x.toNatClampNeg = true then (1, 0, (nb, jo, lo, bo, pa, ps, st)) else if pa.length = 6 then (2, 0, (nb, jo, lo, bo, pa, ps, st)) else (0, Int32.ofNat pa.length, (nb, jo, lo, bo, pa ++ [x], ps, st))
def spFollow (x : Int32) : aC → aR
  | (nb, jo, lo, bo, pa, ps, (vl, vr, rs, ya, sc)) => if x < 0 ∨ ¬ x < Int32.ofNat pa.length then (1, 0, (nb, jo, lo, bo, pa, ps, (vl, vr, rs, ya, sc))) else if vl = [] then (2, 0, (nb, jo, lo, bo, pa, ps, (vl, vr, rs, ya, sc))) else (0, Int32.ofNat (zFollow jo (pa.getD x.toNatClampNeg 0) 99 0 (lo, bo, (vl, vr, rs, ya, sc))).1, wC nb jo pa (pKeep ps (vl, vr, rs, ya, sc)) (zFollow jo (pa.getD x.toNatClampNeg 0) 99 0 (lo, bo, (vl, vr, rs, ya, sc))).2)
def spUndo : aC → aR
  | (nb, jo, lo, bo, pa, ps, st) => if ps = [] then (1, 0, (nb, jo, lo, bo, pa, ps, st)) else (0, Int32.ofNat (ps.length - 1), (nb, jo, lo.take ((ps.getLastD st).2.2.2.2 6).toNatClampNeg, bo.take ((ps.getLastD st).2.2.2.2 7).toNatClampNeg, pa, ps.dropLast, ps.getLastD st))
/-! the class at the bounds of a call -/
def KC (xm : Nat → Option kE) (c : aC) (F : kSg) (c0 s0 : Nat) (m0 : kM) (cap0 : Nat) (m : kM) : Prop := KS xm c.1 c.2.1 c.2.2.1 c.2.2.2.1 c.2.2.2.2.1 c.2.2.2.2.2.1 c.2.2.2.2.2.2 F c0 s0 m0 cap0 m
/-- a call's end: an answer, or an exception of the class t1 or t2 -/
def eX (xm : Nat → Option kE) (t1 t2 : Nat) (r : aR) (F : kSg) (mem : kM) (cap : Nat) : kO × kM → Prop := rX (fun v m => r.1 = 0 ∧ v = r.2.1 ∧ KC xm r.2.2 F 1 6 mem cap m) (fun e m => (r.1 = 1 ∧ e = t1 ∨ r.1 = 2 ∧ e = t2) ∧ KC xm r.2.2 F 1 6 mem cap m)
section EL
variable {xm : Nat → Option kE} {mem m0 : kM} {F G : kSg} {S : kO × kM → Prop} {N k nb q cap c0 s0 c1 s1 cap0 n r w b i t1 t2 : Nat} {jo x y z v t k1 k2 k3 k4 : Int32} {lo : List kLf} {bo pa vl vr ya wl ws xs A : List Int32} {ps : List aS} {rs rs' : List (List Int32)} {sc : Nat → Int32} {st : aS} {T : Nat → Int32} {h : kHs} {sp : aR} {c : aC} {hb hy : List Int32} {hs : Nat → aS} {nx ct : Nat}
theorem KS.mono (D : KS xm nb jo lo bo pa ps st F c0 s0 m0 cap0 mem) (h1 : c0 ≤ c1) (h2 : s0 ≤ s1) : KS xm nb jo lo bo pa ps st F c1 s1 m0 cap0 mem := by
  obtain ⟨T, h, I, D⟩ := D
  exact ⟨T, h, I, D.mono h1 h2⟩
theorem q_end (hr : sp = (0, v, c)) (D : KC xm c F 0 0 m0 cap0 mem) : dOk (some (.inl (some (.int v)), mem)) (eX xm t1 t2 sp F m0 cap0) := by
  subst hr
  exact ok_XI ⟨rfl, rfl, KS.mono D (by omega) (by omega)⟩
theorem KS.app (D : KS xm nb jo lo bo pa ps st F 0 0 m0 cap0 mem) : KS xm nb jo lo bo pa ps st F 1 6 m0 cap0 (mem ++ [exn]) := by
  obtain ⟨T, h, I, q, cap, c, s, k1, k2, ⟨hz, H⟩, S1, k3, k4⟩ := D
  exact ⟨T, h, I, q, cap, c + 1, s + 6, k1, k2, ⟨hz, H.app _⟩, S1.trans (St.new _), by omega, by omega⟩
theorem q_ex1 (hr : sp = (1, 0, c)) (D : KC xm c F 0 0 m0 cap0 mem) : dOk (some (.inr t1, mem ++ [exn])) (eX xm t1 t2 sp F m0 cap0) := by
  subst hr
  exact ok_XE ⟨Or.inl ⟨rfl, rfl⟩, KS.app D⟩
theorem q_ex2 (hr : sp = (2, 0, c)) (D : KC xm c F 0 0 m0 cap0 mem) : dOk (some (.inr t2, mem ++ [exn])) (eX xm t1 t2 sp F m0 cap0) := by
  subst hr
  exact ok_XE ⟨Or.inr ⟨rfl, rfl⟩, KS.app D⟩
/-- keep, at the beginning of a call -/
theorem p_keep {K : kM → dRes} (D : KS xm nb jo lo bo pa ps (vl, vr, rs, ya, sc) F c0 s0 m0 cap0 mem) (g : ∀ m, KK xm nb jo lo bo pa (pKeep ps (vl, vr, rs, ya, sc)) (vl, vr, rs, ya, sc) F c0 s0 m0 cap0 m → dOk (K m) S) : dOk (dGR xm mem 1000 11 5 fun v59 => dGR xm mem 1000 11 1 fun v63 => dGR xm mem 1000 11 0 fun v67 => dRc xm mem v59 6 <| dCV (m_History_keep xm N v59 v63 v67 mem) K) S := by
  obtain ⟨T, ⟨nx, ct, hb, hy, hs⟩, I, D⟩ := D
  have hR := I.2.2.1
  obtain ⟨h1, h2, h3, h4, -⟩ := hR
  dsimp only at h1 h2 h3 h4
  have hp12 : ps.length ≤ 12 := I.1.2.2.2.1
  have hy4 : ya.length = 4 := I.sw.2.2.2.2
  refine x_gR D 0 (fun _ _ => rfl) rfl ?_
  refine x_gR D 0 (fun _ _ => rfl) rfl ?_
  refine x_gR D 0 (fun _ _ => rfl) rfl ?_
  refine x_rc D 16 (fun _ _ => ⟨_, rfl⟩) ?_
  refine x_VT D (fun q cap H => hE_keep h1 (by omega) h3 h4 I.jj I.nb4 hy4 H) fun m D2 => ?_
  have Ik := I.keep
  exact g m ⟨T, _, Ik.1, Ik.2, D2⟩
theorem bY_lt (hj : jOk nb jo) (hx : 0 < x) : bY jo ya < x ↔ aYn jo ya < x := by
  unfold bY aYn
  rcases hj with rfl | ⟨b, rfl, hb⟩
  · rw [if_pos rfl, if_pos rfl]
    exact ⟨fun _ => Int32.lt_trans (by decide) hx, fun _ => hx⟩
  · by_cases e : Int32.ofNat b = -1
    · rw [if_pos e, if_pos e]
      exact ⟨fun _ => Int32.lt_trans (by decide) hx, fun _ => hx⟩
    · rw [if_neg e, if_neg e]
/-- who needs yarn and has it has a ball -/
theorem some_ball (hj : jOk nb jo) (hx : 0 ≤ x) (hy : ¬ aYn jo ya < x) : ∃ b : Nat, jo = Int32.ofNat b ∧ b < nb := by
  rcases hj with rfl | h
  · exfalso
    apply hy
    unfold aYn
    rw [if_pos rfl]
    rw [Int32.lt_iff_toInt_lt]
    rw [Int32.le_iff_toInt_le] at hx
    have e1 : (-1 : Int32).toInt = -1 := by decide
    have e0 : (0 : Int32).toInt = 0 := by decide
    omega
  · exact h
theorem len_ne {l : List Int32} (h : ¬ l = []) : ∃ t x, l = t ++ [x] := ⟨l.dropLast, l.getLast h, (List.dropLast_concat_getLast h).symm⟩
theorem i_lt1 {a : Nat} (ha : a < 2 ^ 31) : Int32.ofNat a < 1 ↔ a = 0 := by
  rw [show (1 : Int32) = Int32.ofNat 1 from rfl, i_lt ha (by decide)]
  omega
theorem zMake_b (hj : jo = Int32.ofNat b) (hb : b < 2 ^ 31) : jo.toNatClampNeg = b := by
  subst hj
  exact i_nat hb
/-! steps: their facts, whether they can be done -/
theorem fAt_3 {s : Nat} (h1 : 1 ≤ s) (h9 : s ≤ 9) : fAt 3 (Int32.ofNat s) = Int32.ofNat (if s = 3 ∨ s = 7 then 0 else if s = 4 ∨ s = 5 ∨ s = 9 then 2 else if s = 8 then 3 else 1) := by
  rcases (show s = 1 ∨ s = 2 ∨ s = 3 ∨ s = 4 ∨ s = 5 ∨ s = 6 ∨ s = 7 ∨ s = 8 ∨ s = 9 by omega) with rfl | rfl | rfl | rfl | rfl | rfl | rfl | rfl | rfl <;> decide
theorem fAt_4 {s : Nat} (h1 : 1 ≤ s) (h9 : s ≤ 9) : fAt 4 (Int32.ofNat s) = Int32.ofNat (aTake s) := by
  rcases (show s = 1 ∨ s = 2 ∨ s = 3 ∨ s = 4 ∨ s = 5 ∨ s = 6 ∨ s = 7 ∨ s = 8 ∨ s = 9 by omega) with rfl | rfl | rfl | rfl | rfl | rfl | rfl | rfl | rfl <;> decide
theorem sfE (hX : kXok xm) {r : Nat} (hr : r = 3 ∨ r = 4 ∨ r = 5 ∨ r = 6) {s : Nat} (h9 : s ≤ 9) : m_K_stepFact xm N r (Int32.ofNat s) mem = some (.inl (some (.int (fAt r (Int32.ofNat s)))), mem) := by
  obtain ⟨-, -, -, h3, h4, h5, h6⟩ := hX
  have go : ∀ xs : List Int32, xs.length = 10 → kLook xm mem r = some (.inr (.inl (0, xs))) → m_K_stepFact xm N r (Int32.ofNat s) mem = some (.inl (some (.int (xs.getD s 0))), mem) := by
    intro xs hl hk
    refine ok_eq ?_
    unfold m_K_stepFact
    rw [if_neg (i_nn (by omega))]
    refine ok_lenI hk (by decide) ?_
    rw [hl, if_pos ((i_lt (by omega) (by decide)).mpr (by omega))]
    refine ok_iL hk (by rw [hl]; exact i_inB (by omega) (by decide)) ?_
    rw [i_nat (by omega)]
    exact ok_me
  have lk : ∀ r e, r < 1000 → xm r = some e → kLook xm mem r = some e := by
    intro r e hr h
    unfold kLook
    rw [if_pos hr]
    exact h
  unfold fAt
  rw [i_nat (by omega)]
  rcases hr with rfl | rfl | rfl | rfl
  · exact go kAr_3 rfl (lk _ _ (by decide) h3)
  · exact go kAr_4 rfl (lk _ _ (by decide) h4)
  · exact go kAr_5 rfl (lk _ _ (by decide) h5)
  · exact go kAr_6 rfl (lk _ _ (by decide) h6)
/-- a yarn that is not enough for what takes none at all is no matter -/
theorem k_fitsE (hX : kXok xm) {s l a : Nat} {y : Int32} (h1 : 1 ≤ s) (h9 : s ≤ 9) (hl : l ≤ 24) (hla : l ≤ a) (ha : a ≤ 24) (hy : 0 ≤ y) : m_K_fits xm N (Int32.ofNat s) (Int32.ofNat l) (Int32.ofNat a) y mem = some (.inl (some (.int (if zCan s l a y = true then 1 else 0))), mem) := by
  refine ok_eq ?_
  unfold m_K_fits
  refine ok_eI (sfE hX (r := 5) (by decide) h9) ?_
  refine ok_eI (sfE hX (r := 3) (by decide) h9) ?_
  refine ok_eI (sfE hX (r := 6) (by decide) h9) ?_
  have y0 : ¬ y < 0 := Int32.not_lt.mpr hy
  have fin : ∀ (wn tk : Nat) (d : Int32) (ov : Bool), aWant s = wn → aTake s = tk → wn ≤ 3 → tk ≤ 11 → fAt 6 (Int32.ofNat s) = Int32.ofNat wn → fAt 5 (Int32.ofNat s) - fAt 3 (Int32.ofNat s) = d → fAt 4 (Int32.ofNat s) = Int32.ofNat tk → decide (s ≠ 3 ∧ s ≠ 9) = !ov → (∀ l' : Nat, wn ≤ l' → l' ≤ a → (24 < Int32.ofNat a + d ↔ ov = true ∧ a = 24)) → dOk (if Int32.ofNat l < fAt 6 (Int32.ofNat s) then some (.inl (some (.int 0)), mem) else if 24 < Int32.ofNat a + (fAt 5 (Int32.ofNat s) - fAt 3 (Int32.ofNat s)) then some (.inl (some (.int 0)), mem) else dCI (m_K_stepFact xm N 4 (Int32.ofNat s) mem) fun v42 m42 => if y < v42 then some (.inl (some (.int 0)), m42) else some (.inl (some (.int 1)), m42)) (fun r => r = (.inl (some (.int (if zCan s l a y = true then 1 else 0))), mem)) := by
    intro wn tk d ov e1 e2 b1 b2 e3 e4 e5 e6 e7
    rw [e3, e4]
    unfold zCan
    rw [e1, e2, e6]
    by_cases g1 : wn ≤ l
    · rw [if_neg (fun z => by have := (i_lt (by omega) (by omega)).mp z; omega)]
      by_cases g2 : ov = true ∧ a = 24
      · rw [if_pos ((e7 l g1 hla).mpr g2), if_neg]
        · exact ok_me
        · rw [g2.1, g2.2]
          simp
      · rw [if_neg (fun z => g2 ((e7 l g1 hla).mp z))]
        refine ok_eI (sfE hX (r := 4) (by decide) h9) ?_
        rw [e5]
        have g3 : (!ov || decide (a < 24)) = true := by
          cases ov with
          | false => rfl
          | true =>
            have : a ≠ 24 := fun z => g2 ⟨rfl, z⟩
            simp
            omega
        rw [g3, Bool.and_true]
        by_cases g4 : y < Int32.ofNat tk
        · rw [if_pos g4, if_neg]
          · exact ok_me
          · by_cases g5 : tk = 0
            · rw [g5] at g4
              exact absurd g4 y0
            · simp [g1, g4, g5]
        · rw [if_neg g4, if_pos]
          · exact ok_me
          · simp [g1, g4]
    · rw [if_pos ((i_lt (by omega) (by omega)).mpr (by omega)), if_neg]
      · exact ok_me
      · simp [g1]
  have up : ∀ d : Nat, d ≤ 3 → (24 < Int32.ofNat a + Int32.ofNat d ↔ 24 < a + d) := by
    intro d hd
    rw [i_add, show (24 : Int32) = Int32.ofNat 24 from rfl, i_lt (by decide) (by omega)]
  have dn : ∀ d : Nat, d ≤ 3 → ¬ (24 < Int32.ofNat a + -(Int32.ofNat d)) := by
    intro d hd z
    have e1 : (24 : Int32).toInt = 24 := by decide
    have e2 : (-(Int32.ofNat d)).toInt = -(d : Int) := by
      rw [Int32.toInt_neg, i_toI (by omega), Int.bmod_eq_of_le (by omega) (by omega)]
    rw [Int32.lt_iff_toInt_lt, Int32.toInt_add, i_toI (by omega), e2, e1, Int.bmod_eq_of_le (by omega) (by omega)] at z
    omega
  have s0 : (24 < Int32.ofNat a + Int32.ofNat 0 ↔ false = true ∧ a = 24) := by
    rw [up 0 (by decide)]
    exact ⟨fun z => absurd z (by omega), fun z => nomatch z.1⟩
  have s1 : (24 < Int32.ofNat a + Int32.ofNat 1 ↔ true = true ∧ a = 24) := by
    rw [up 1 (by decide)]
    exact ⟨fun z => ⟨rfl, by omega⟩, fun z => by omega⟩
  rcases (show s = 1 ∨ s = 2 ∨ s = 3 ∨ s = 4 ∨ s = 5 ∨ s = 6 ∨ s = 7 ∨ s = 8 ∨ s = 9 by omega) with rfl | rfl | rfl | rfl | rfl | rfl | rfl | rfl | rfl
  · exact fin 1 4 (Int32.ofNat 0) false rfl rfl (by decide) (by decide) rfl (by decide) (by decide) (by decide) fun l' _ _ => s0
  · exact fin 1 4 (Int32.ofNat 0) false rfl rfl (by decide) (by decide) rfl (by decide) (by decide) (by decide) fun l' _ _ => s0
  · exact fin 0 3 (Int32.ofNat 1) true rfl rfl (by decide) (by decide) rfl (by decide) (by decide) (by decide) fun l' _ _ => s1
  · exact fin 2 5 (-(Int32.ofNat 1)) false rfl rfl (by decide) (by decide) rfl (by decide) (by decide) (by decide) fun l' _ _ => ⟨fun z => absurd z (dn 1 (by decide)), fun z => nomatch z.1⟩
  · exact fin 2 5 (-(Int32.ofNat 1)) false rfl rfl (by decide) (by decide) rfl (by decide) (by decide) (by decide) fun l' _ _ => ⟨fun z => absurd z (dn 1 (by decide)), fun z => nomatch z.1⟩
  · exact fin 1 0 (Int32.ofNat 0) false rfl rfl (by decide) (by decide) rfl (by decide) (by decide) (by decide) fun l' _ _ => s0
  · exact fin 2 0 (Int32.ofNat 0) false rfl rfl (by decide) (by decide) rfl (by decide) (by decide) (by decide) fun l' _ _ => s0
  · exact fin 3 5 (-(Int32.ofNat 2)) false rfl rfl (by decide) (by decide) rfl (by decide) (by decide) (by decide) fun l' _ _ => ⟨fun z => absurd z (dn 2 (by decide)), fun z => nomatch z.1⟩
  · exact fin 2 11 (Int32.ofNat 1) true rfl rfl (by decide) (by decide) rfl (by decide) (by decide) (by decide) fun l' _ _ => s1
end EL
