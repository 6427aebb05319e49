/-! ===== the reference exactly: join, work, over, slip, cross, together, cast, turn, bind ===== -/
/-- the reference, what was thrown, its contents -/
def RJ (xm : Nat → Option kE) (M0 : Nat) (t : Int32) (c : aC) (k C S : Nat) (F : kSg) (mem : kM) : Prop :=
  ∃ g sum ck, WR xm M0 g sum c.2.2.1 c.2.2.2.1 c.2.2.2.2.1 c.2.2.2.2.2.1 c.2.2.2.2.2.2 ck F mem ∧ aInv c.1 g c.2.2.1 c.2.2.2.1 c.2.2.2.2.1 c.2.2.2.2.2.1 c.2.2.2.2.2.2 ∧ (g 0 = t ∧ g 7 = c.2.1) ∧ c.2.2.1.length ≤ 24 * k ∧ c.2.2.2.1.length ≤ 24 * k ∧ mem.length ≤ C ∧ kSl mem ≤ S + 4 * ck
def eR (xm : Nat → Option kE) (M0 : Nat) (r : aR) (k C S c s : Nat) (F : kSg) : kO × kM → Prop := rI fun v m => (r.1 = 0 → v = r.2.1) ∧ RJ xm M0 r.1 r.2.2 (k + 1) (C + c) (S + s) F m
theorem is_z {x lo hi : Int32} : ((if x < lo then (0 : Int32) else if hi < x then 0 else 1) = 0) ↔ (x < lo ∨ hi < x) := by
  by_cases h1 : x < lo
  · rw [if_pos h1]
    exact ⟨fun _ => Or.inl h1, fun _ => rfl⟩
  · rw [if_neg h1]
    by_cases h2 : hi < x
    · rw [if_pos h2]
      exact ⟨fun _ => Or.inr h2, fun _ => rfl⟩
    · rw [if_neg h2]
      exact ⟨fun z => absurd z (by decide), fun z => z.elim (fun z => absurd z h1) (fun z => absurd z h2)⟩
theorem is_n {x : Int32} {n : Nat} (hn : n < 2 ^ 31) : (x < 0 ∨ Int32.ofNat n - 1 < x) ↔ (x < 0 ∨ ¬ x < Int32.ofNat n) := by
  by_cases h1 : x < 0
  · exact ⟨fun _ => Or.inl h1, fun _ => Or.inl h1⟩
  · have h2 : (Int32.ofNat n - 1 < x) ↔ ¬ x < Int32.ofNat n := by
      obtain ⟨e, l⟩ := i_of (Int32.not_lt.mp h1)
      generalize x.toNatClampNeg = i at e l
      subst e
      have e1 : (1 : Int32).toInt = 1 := by decide
      rw [i_lt l hn, Int32.lt_iff_toInt_lt, Int32.toInt_sub, i_toI hn, i_toI l, e1, Int.bmod_eq_of_le (by omega) (by omega)]
      omega
    rw [h2]
theorem zMake_eq {jo k1 k2 k3 k4 : Int32} {lo : List kLf} {bo vl vr ya : List Int32} {rs : List (List Int32)} {sc : Nat → Int32} {b : Nat} (hj : jo = Int32.ofNat b) (hb : b < 2 ^ 31) : zMake jo k1 k2 k3 k4 (lo, bo, (vl, vr, rs, ya, sc)) = (lo ++ [(k1, jo, sc 5, k2, sc 4, k3)], bo, (vl, vr ++ [sc 6], rs.map kFall, ya.set b (ya.getD b 0 - k4), kUp sc 6 (sc 6 + 1))) := by
  unfold zMake
  rw [zMake_b hj hb]
section ER
variable {xm : Nat → Option kE} {mem : kM} {N M0 nb k C S ck b n : Nat} {F : kSg} {g : Nat → Int32} {sum : Int64} {t jo x y : Int32} {lo : List kLf} {bo pa vl vr ya : List Int32} {ps : List aS} {rs : List (List Int32)} {sc : Nat → Int32} {st : aS} {T : kO × kM → Prop} {sp : aR}
theorem RJ.mk' {m : kM} {k' ck' c s : Nat} {st : aS} (h1 : mem.length ≤ C) (h2 : kSl mem ≤ S + 4 * ck) (W : WR xm M0 g sum lo bo pa ps st ck' F m) (h : aInv nb g lo bo pa ps st) (hg : g 0 = t ∧ g 7 = jo) (hl : lo.length ≤ 24 * k') (hb : bo.length ≤ 24 * k') (hc : ck ≤ ck') (S1 : St xm mem m c (s + 4 * (ck' - ck))) : RJ xm M0 t (nb, jo, lo, bo, pa, ps, st) k' (C + c) (S + s) F m := by
  refine ⟨g, sum, ck', W, h, hg, hl, hb, ?_, ?_⟩
  · have := S1.2.1; omega
  · have := S1.2.2.1; omega
theorem x_ok {m0 m : kM} {c s ck' : Nat} {v : Int32} {st' : aS} {lo' : List kLf} {bo' pa' : List Int32} {ps' : List aS} (h1 : m0.length ≤ C) (h2 : kSl m0 ≤ S + 4 * ck) (W : WR xm M0 g sum lo' bo' pa' ps' st' ck' F m) (hsp : sp = (0, v, (nb, jo, lo', bo', pa', ps', st'))) (h : aInv nb g lo' bo' pa' ps' st') (h0 : g 0 = 0) (h7 : g 7 = jo) (hl : lo'.length ≤ 24 * (k + 1)) (hb : bo'.length ≤ 24 * (k + 1)) (hc : ck ≤ ck') (S1 : St xm m0 m c (s + 4 * (ck' - ck))) : dOk (some (.inl (some (.int v)), m)) (eR xm M0 sp k C S c s F) := by
  subst hsp
  exact ok_I ⟨fun _ => rfl, RJ.mk' h1 h2 W h ⟨h0, h7⟩ hl hb hc S1⟩
theorem zOver_eq {b : Nat} (hj : jo = Int32.ofNat b) (hb : b < 2 ^ 31) : zOver jo (lo, bo, (vl, vr, rs, ya, sc)) = (lo ++ [(3, jo, sc 5, 1, sc 4, 0)], bo, (vl, vr ++ [sc 6], rs.map kFall, ya.set b (ya.getD b 0 - 3), kUp (kUp sc 8 (sc 8 + 1)) 6 (sc 6 + 1))) := by
  show zMake jo 3 1 0 3 (lo, bo, (vl, vr, rs, ya, kUp sc 8 (sc 8 + 1))) = _
  rw [zMake_eq hj hb]
  rfl
theorem zSlip_eq {v : Int32} : zSlip (lo, bo, (vl ++ [v], vr, rs, ya, sc)) = (lo, bo, (vl, vr ++ [v], rs, ya, sc)) := by
  show (lo, bo, ((vl ++ [v]).dropLast, vr ++ [(vl ++ [v]).getLastD 0], rs, ya, sc)) = _
  rw [List.getLastD_concat, List.dropLast_concat]
theorem zTog_eq {kk : Int32} {ws : List Int32} (hw : ws.length = n) (hj : jo = Int32.ofNat b) (hb : b < 2 ^ 31) : zTog jo n kk (lo, bo, (vl ++ ws, vr, rs, ya, sc)) = (lo ++ [(kk, jo, sc 5, 1, sc 4, Int32.ofNat n)], bo, (vl, vr ++ [sc 6], rs.map kFall, ya.set b (ya.getD b 0 - 5), kUp sc 6 (sc 6 + 1))) := by
  show zMake jo kk 1 (Int32.ofNat n) 5 (lo, bo, ((vl ++ ws).take ((vl ++ ws).length - n), vr, rs, ya, sc)) = _
  have e : (vl ++ ws).take ((vl ++ ws).length - n) = vl := by
    rw [List.length_append, hw, Nat.add_sub_cancel]
    exact List.take_left
  rw [e]
  exact zMake_eq hj hb
end ER
