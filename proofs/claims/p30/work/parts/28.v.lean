/-! ===== the reference: what is asked of it: on, ofLoop, ofRun, left ===== -/
/-- the reference in memory with all that is concrete: what is asked leaves it as it is -/
def WC (xm : Nat → Option kE) (M0 : Nat) (L B P Q : kLi) (c : kCs) (cs : List kCs) (g : Nat → Int32) (sum : Int64) (lo : List kLf) (bo pa : List Int32) (ps : List aS) (st : aS) (F : kSg) (mem : kM) : Prop :=
  HpS (wSg M0 L B P Q c cs g sum ps st F) mem ∧ wRl xm mem L B P Q c cs lo bo pa ps st ∧ L.1 = M0 + 1 ∧ B.1 = M0 + 2 ∧ P.1 = M0 + 3 ∧ Q.1 = M0 + 4
section KV
variable {xm : Nat → Option kE} {mem : kM} {N M0 nb k C S ck : Nat} {F X : kSg} {g : Nat → Int32} {sum : Int64} {lo : List kLf} {bo pa : List Int32} {ps : List aS} {T : kO × kM → Prop} {L B P Q : kLi} {s y : Nat} {l r u : kLi} {cs : List kCs} {vl vr ya : List Int32} {rs : List (List Int32)} {sc : Nat → Int32} {st : aS} {c : kCs}
theorem WC.wr (V : WC xm M0 L B P Q c cs g sum lo bo pa ps st F mem) : WR xm M0 g sum lo bo pa ps st (kCapL L + kCapL B) F mem := ⟨L, B, P, Q, c, cs, V.1, V.2.1, rfl, V.2.2⟩
theorem WC.mk' {m : kM} {c0 s0 : Nat} (V : WC xm M0 L B P Q c cs g sum lo bo pa ps st F mem) (H : HpS (wSg M0 L B P Q c cs g sum ps st F) m) (S1 : St xm mem m c0 s0) : WC xm M0 L B P Q c cs g sum lo bo pa ps st F m := ⟨H, V.2.1.st S1, V.2.2⟩
theorem WC.ri {m : kM} {c0 s0 : Nat} (h1 : mem.length ≤ C) (h2 : kSl mem ≤ S + 4 * (kCapL L + kCapL B)) (V : WC xm M0 L B P Q c cs g sum lo bo pa ps st F m) (hi : aInv nb g lo bo pa ps st) (hl : lo.length ≤ 24 * k) (hb : bo.length ≤ 24 * k) (S1 : St xm mem m c0 s0) : RI xm M0 nb (k + 1) (C + c0) (S + s0) F m :=
  RI.mk' h1 h2 V.wr hi (by omega) (by omega) (Nat.le_refl _) (S1.mono (Nat.le_refl _) (by omega))
/-- into a call that asks -/
theorem RI.ask {K : kM → dRes} {c0 s0 : Nat} {R : Int32 → kM → Prop} (I : RI xm M0 nb k C S F mem) (h : ∀ (L B P Q : kLi) (s y : Nat) (l r u : kLi) (cs : List kCs) g sum lo bo pa ps vl vr rs ya sc m, WC xm M0 L B P Q (s, l, r, u, y) cs g sum lo bo pa ps (vl, vr, rs, ya, sc) F m → aInv nb g lo bo pa ps (vl, vr, rs, ya, sc) → lo.length ≤ 24 * k → bo.length ≤ 24 * k → dOk (K m) (rI fun v m2 => ∃ g' sum', WC xm M0 L B P Q (s, l, r, u, y) cs g' sum' lo bo pa ps (vl, vr, rs, ya, sc) F m2 ∧ g' 6 = g 6 ∧ g' 7 = g 7 ∧ St xm m m2 c0 s0)) : dOk (dP xm mem M0 15 0 (.int 0) K) (rI fun v m => RI xm M0 nb (k + 1) (C + c0) (S + s0) F m) := by
  obtain ⟨g, sum, lo, bo, pa, ps, ⟨vl, vr, rs, ya, sc⟩, ck, W, hi, hl, hb, h1, h2⟩ := I
  obtain ⟨L, B, P, Q, ⟨s, l, r, u, y⟩, cs, H, R, hck, hx⟩ := W
  subst hck
  refine os_p H 0 0 rfl rfl rfl rfl fun m H1 S1 => ?_
  refine ok_mono (h L B P Q s y l r u cs (kUp g 0 0) sum lo bo pa ps vl vr rs ya sc m ⟨H1, R.st S1, hx⟩ hi hl hb) ?_
  rintro w ⟨v, q1, g', sum', V, q6, q7, S2⟩
  refine ⟨v, q1, WC.ri h1 h2 V ?_ hl hb ((S1.trans S2).mono (by omega) (by omega))⟩
  obtain ⟨⟨a1, a2, a3⟩, a4⟩ := hi
  have q6' : g' 6 = g 6 := q6
  have q7' : g' 7 = g 7 := q7
  exact ⟨⟨by rw [q6']; exact a1, a2, by rw [q7']; exact a3⟩, a4⟩
/-- an answer that leaves the memory -/
theorem c_same {v : Int32} {c0 s0 : Nat} (V : WC xm M0 L B P Q c cs g sum lo bo pa ps st F mem) : dOk (some (.inl (some (.int v)), mem)) (rI fun v m2 => ∃ g' sum', WC xm M0 L B P Q c cs g' sum' lo bo pa ps st F m2 ∧ g' 6 = g 6 ∧ g' 7 = g 7 ∧ St xm mem m2 c0 s0) := ok_I ⟨g, sum, V, rfl, rfl, St.refl.mono (by omega) (by omega)⟩
theorem c_up {c0 s0 c1 s1 : Nat} (hc : c0 ≤ c1) (hs : s0 ≤ s1) {Y : dRes} (h : dOk Y (rI fun v m2 => ∃ g' sum', WC xm M0 L B P Q c cs g' sum' lo bo pa ps st F m2 ∧ g' 6 = g 6 ∧ g' 7 = g 7 ∧ St xm mem m2 c0 s0)) : dOk Y (rI fun v m2 => ∃ g' sum', WC xm M0 L B P Q c cs g' sum' lo bo pa ps st F m2 ∧ g' 6 = g 6 ∧ g' 7 = g 7 ∧ St xm mem m2 c1 s1) := by
  refine ok_mono h ?_
  rintro w ⟨v, q1, g', sum', q2, q3, q4, q5⟩
  exact ⟨v, q1, g', sum', q2, q3, q4, q5.mono hc hs⟩
/-- one of the two needles, as a list in its place -/
theorem c_nd (V : WC xm M0 L B P Q (s, l, r, u, y) cs g sum lo bo pa ps (vl, vr, rs, ya, sc) F mem) (x : Int32) : ∃ (i a q cap : Nat) (mc : Int32) (es : List Nat) (vs : List Int32), (if x = 0 then l.1 else r.1) = a ∧ (wSg M0 L B P Q (s, l, r, u, y) cs g sum ps (vl, vr, rs, ya, sc) F)[i]? = some (sAL a q mc cap es) ∧ sWf q cap es ∧ IVs xm mem es vs ∧ vs = (if x = 0 then vl else vr) := by
  obtain ⟨H, R, -⟩ := V
  obtain ⟨-, -, -, -, -, -, ⟨t1, t2, -, -, t7, t8, -⟩, -⟩ := R
  by_cases e : x = 0
  · rw [if_pos e, if_pos e]
    exact ⟨6, _, l.2.1, l.2.2.2.1, l.2.2.1, l.2.2.2.2, vl, rfl, rfl, t1, t7, rfl⟩
  · rw [if_neg e, if_neg e]
    exact ⟨7, _, r.2.1, r.2.2.2.1, r.2.2.1, r.2.2.2.2, vr, rfl, rfl, t2, t8, rfl⟩
/-! is a loop in a list -/
end KV
