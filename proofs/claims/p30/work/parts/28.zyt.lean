/-! ===== the reference exactly: what is asked leaves the contents ===== -/
section EU
variable {xm : Nat → Option kE} {mem : kM} {N M0 nb k C S : Nat} {F : kSg} {t : Int32} {cc : Int32 × List kLf × List Int32 × List Int32 × List aS × aS}
theorem RJ.ask {K : kM → dRes} {c0 s0 : Nat} {R : Int32 → kM → Prop} (I : RJ xm M0 t (nb, cc) k C S F mem) (h : ∀ (L B P Q : kLi) (s y : Nat) (l r u : kLi) (cs : List kCs) g sum lo bo pa ps vl vr rs ya sc m, WC xm M0 L B P Q (s, l, r, u, y) cs g sum lo bo pa ps (vl, vr, rs, ya, sc) F m → aInv nb g lo bo pa ps (vl, vr, rs, ya, sc) → lo.length ≤ 24 * k → bo.length ≤ 24 * k → dOk (K m) (rI fun v m2 => ∃ g' sum', WC xm M0 L B P Q (s, l, r, u, y) cs g' sum' lo bo pa ps (vl, vr, rs, ya, sc) F m2 ∧ g' 6 = g 6 ∧ g' 7 = g 7 ∧ St xm m m2 c0 s0)) : dOk (dP xm mem M0 15 0 (.int 0) K) (rI fun v m => ∃ t', RJ xm M0 t' (nb, cc) (k + 1) (C + c0) (S + s0) F m) := by
  obtain ⟨jo, lo, bo, pa, ps, vl, vr, rs, ya, sc⟩ := cc
  obtain ⟨g, sum, ck, W, hi, ⟨-, h7⟩, hl, hb, h1, h2⟩ := I
  dsimp only at W hi h7 hl hb
  obtain ⟨L, B, P, Q, ⟨s, l, r, u, y⟩, cs, H, R, hck, hx⟩ := W
  subst hck
  refine os_p H 0 0 rfl rfl rfl rfl fun m H1 S1 => ?_
  refine ok_mono (h L B P Q s y l r u cs (kUp g 0 0) sum lo bo pa ps vl vr rs ya sc m ⟨H1, R.st S1, hx⟩ hi hl hb) ?_
  rintro w ⟨v, q1, g', sum', V, q6, q7, S2⟩
  refine ⟨v, q1, g' 0, RJ.mk' h1 h2 V.wr ?_ ⟨rfl, q7.trans h7⟩ (by omega) (by omega) (Nat.le_refl _) ((S1.trans S2).mono (by omega) (by omega))⟩
  obtain ⟨⟨a1, a2, a3⟩, a4⟩ := hi
  have q6' : g' 6 = g 6 := q6
  have q7' : g' 7 = g 7 := q7
  exact ⟨⟨by rw [q6']; exact a1, a2, by rw [q7']; exact a3⟩, a4⟩
theorem RJ.askW (w : (kM → Prop) → kO × kM → Prop) (hw : ∀ (P P' : kM → Prop) (r : kO × kM), (∀ m, P m → P' m) → w P r → w P' r) {K : kM → dRes} {c0 s0 : Nat} (I : RJ xm M0 t (nb, cc) k C S F mem) (h : ∀ (L B P Q : kLi) (s y : Nat) (l r u : kLi) (cs : List kCs) g sum lo bo pa ps vl vr rs ya sc m, WC xm M0 L B P Q (s, l, r, u, y) cs g sum lo bo pa ps (vl, vr, rs, ya, sc) F m → aInv nb g lo bo pa ps (vl, vr, rs, ya, sc) → lo.length ≤ 24 * k → bo.length ≤ 24 * k → dOk (K m) (w fun m2 => ∃ g' sum', WC xm M0 L B P Q (s, l, r, u, y) cs g' sum' lo bo pa ps (vl, vr, rs, ya, sc) F m2 ∧ g' 6 = g 6 ∧ g' 7 = g 7 ∧ St xm m m2 c0 s0)) : dOk (dP xm mem M0 15 0 (.int 0) K) (w fun m => ∃ t', RJ xm M0 t' (nb, cc) (k + 1) (C + c0) (S + s0) F m) := by
  obtain ⟨jo, lo, bo, pa, ps, vl, vr, rs, ya, sc⟩ := cc
  obtain ⟨g, sum, ck, W, hi, ⟨-, h7⟩, hl, hb, h1, h2⟩ := I
  dsimp only at W hi h7 hl hb
  obtain ⟨L, B, P, Q, ⟨s, l, r, u, y⟩, cs, H, R, hck, hx⟩ := W
  subst hck
  refine os_p H 0 0 rfl rfl rfl rfl fun m H1 S1 => ?_
  refine ok_mono (h L B P Q s y l r u cs (kUp g 0 0) sum lo bo pa ps vl vr rs ya sc m ⟨H1, R.st S1, hx⟩ hi hl hb) ?_
  intro z hz
  refine hw _ _ z ?_ hz
  rintro m2 ⟨g', sum', V, q6, q7, S2⟩
  refine ⟨g' 0, RJ.mk' h1 h2 V.wr ?_ ⟨rfl, q7.trans h7⟩ (by omega) (by omega) (Nat.le_refl _) ((S1.trans S2).mono (by omega) (by omega))⟩
  obtain ⟨⟨a1, a2, a3⟩, a4⟩ := hi
  have q6' : g' 6 = g 6 := q6
  have q7' : g' 7 = g 7 := q7
  exact ⟨⟨by rw [q6']; exact a1, a2, by rw [q7']; exact a3⟩, a4⟩
end EU
