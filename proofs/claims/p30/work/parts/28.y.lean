/-! ===== the reference: seen, width ===== -/
section KY
variable {xm : Nat → Option kE} {mem : kM} {N M0 nb k C S ck : Nat} {F X : kSg} {g : Nat → Int32} {sum : Int64} {lo : List kLf} {bo pa : List Int32} {ps : List aS} {T : kO × kM → Prop} {L B P Q : kLi} {s y : Nat} {l r u : kLi} {cs : List kCs} {vl vr ya : List Int32} {rs : List (List Int32)} {sc : Nat → Int32} {st : aS} {c : kCs}
/-- into a call that asks, for any kind of answer -/
theorem RI.askW (w : (kM → Prop) → kO × kM → Prop) (hw : ∀ (P P' : kM → Prop) (r : kO × kM), (∀ m, P m → P' m) → w P r → w P' r) {K : kM → dRes} {c0 s0 : Nat} (I : RI xm M0 nb k C S F mem) (h : ∀ (L B P Q : kLi) (s y : Nat) (l r u : kLi) (cs : List kCs) g sum lo bo pa ps vl vr rs ya sc m, WC xm M0 L B P Q (s, l, r, u, y) cs g sum lo bo pa ps (vl, vr, rs, ya, sc) F m → aInv nb g lo bo pa ps (vl, vr, rs, ya, sc) → lo.length ≤ 24 * k → bo.length ≤ 24 * k → dOk (K m) (w fun m2 => ∃ g' sum', WC xm M0 L B P Q (s, l, r, u, y) cs g' sum' lo bo pa ps (vl, vr, rs, ya, sc) F m2 ∧ g' 6 = g 6 ∧ g' 7 = g 7 ∧ St xm m m2 c0 s0)) : dOk (dP xm mem M0 15 0 (.int 0) K) (w fun m => RI xm M0 nb (k + 1) (C + c0) (S + s0) F m) := by
  obtain ⟨g, sum, lo, bo, pa, ps, ⟨vl, vr, rs, ya, sc⟩, ck, W, hi, hl, hb, h1, h2⟩ := I
  obtain ⟨L, B, P, Q, ⟨s, l, r, u, y⟩, cs, H, R, hck, hx⟩ := W
  subst hck
  refine os_p H 0 0 rfl rfl rfl rfl fun m H1 S1 => ?_
  refine ok_mono (h L B P Q s y l r u cs (kUp g 0 0) sum lo bo pa ps vl vr rs ya sc m ⟨H1, R.st S1, hx⟩ hi hl hb) ?_
  intro z hz
  refine hw _ _ z ?_ hz
  rintro m2 ⟨g', sum', V, q6, q7, S2⟩
  refine WC.ri h1 h2 V ?_ hl hb ((S1.trans S2).mono (by omega) (by omega))
  obtain ⟨⟨a1, a2, a3⟩, a4⟩ := hi
  have q6' : g' 6 = g 6 := q6
  have q7' : g' 7 = g 7 := q7
  exact ⟨⟨by rw [q6']; exact a1, a2, by rw [q7']; exact a3⟩, a4⟩
/-- taking the segment ahead into the frame, and back -/
theorem WC.front (hH : HpS (X :: wSg M0 L B P Q (s, l, r, u, y) cs g sum ps (vl, vr, rs, ya, sc) F) mem) (R : wRl xm mem L B P Q (s, l, r, u, y) cs lo bo pa ps (vl, vr, rs, ya, sc)) (hx : L.1 = M0 + 1 ∧ B.1 = M0 + 2 ∧ P.1 = M0 + 3 ∧ Q.1 = M0 + 4) : WC xm M0 L B P Q (s, l, r, u, y) cs g sum lo bo pa ps (vl, vr, rs, ya, sc) F mem := ⟨hH.drop, R, hx⟩
/-! width -/
theorem width_fp : ∀ z : Nat, z ≤ 96 → kFin64 (FP.ddiv (FP.i2d (Int32.ofNat z)) 4620693217682128896) = true := by
  intro z hz
  have h : (List.range 97).all (fun z => kFin64 (FP.ddiv (FP.i2d (Int32.ofNat z)) 4620693217682128896)) = true := by decide +kernel
  exact List.all_eq_true.mp h z (List.mem_range.mpr (by omega))
end KY
