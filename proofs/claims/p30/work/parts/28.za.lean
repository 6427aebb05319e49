/-! ===== the reference: digest ===== -/
/-- the reference with some sum, so much dearer than at m0 -/
def WD (xm : Nat → Option kE) (M0 : Nat) (L B P Q : kLi) (c : kCs) (cs : List kCs) (g : Nat → Int32) (lo : List kLf) (bo pa : List Int32) (ps : List aS) (st : aS) (F : kSg) (m0 : kM) (cc ss : Nat) (m : kM) : Prop :=
  ∃ sum, WC xm M0 L B P Q c cs g sum lo bo pa ps st F m ∧ St xm m0 m cc ss
section KZ1
variable {xm : Nat → Option kE} {mem m0 : kM} {N M0 nb k C S ck c0 s0 : Nat} {F X : kSg} {g : Nat → Int32} {sum : Int64} {lo : List kLf} {bo pa : List Int32} {ps : List aS} {T : kO × kM → Prop} {L B P Q : kLi} {s y : Nat} {l r u : kLi} {cs : List kCs} {vl vr ya : List Int32} {rs : List (List Int32)} {sc : Nat → Int32} {st : aS} {c : kCs}
theorem d_pure {Y : dRes} (V : WC xm M0 L B P Q c cs g sum lo bo pa ps st F mem) (h : ∃ v, Y = some (.inl (some (.int v)), mem)) : dOk Y (rI fun v m => WC xm M0 L B P Q c cs g sum lo bo pa ps st F m ∧ St xm mem m 0 0) := by
  obtain ⟨v, rfl⟩ := h
  exact ok_I ⟨V, St.refl⟩
theorem WD.mono {c1 s1 c2 s2 : Nat} (D : WD xm M0 L B P Q c cs g lo bo pa ps st F m0 c1 s1 mem) (h1 : c1 ≤ c2) (h2 : s1 ≤ s2) : WD xm M0 L B P Q c cs g lo bo pa ps st F m0 c2 s2 mem := by
  obtain ⟨sum, V, S1⟩ := D
  exact ⟨sum, V, S1.mono h1 h2⟩
/-- one of the two needles, whatever the sum -/
theorem c_ndA (V : WC xm M0 L B P Q (s, l, r, u, y) cs g sum lo bo pa ps (vl, vr, rs, ya, sc) F mem) (x : Int32) : ∃ (i a q cap : Nat) (mc : Int32) (es : List Nat) (vs : List Int32), (if x = 0 then l.1 else r.1) = a ∧ (∀ sum, (wSg M0 L B P Q (s, l, r, u, y) cs g sum ps (vl, vr, rs, ya, sc) F)[i]? = some (sAL a q mc cap es)) ∧ sWf q cap es ∧ IVs xm mem es vs ∧ vs = (if x = 0 then vl else vr) := by
  obtain ⟨H, R, -⟩ := V
  obtain ⟨-, -, -, -, -, -, ⟨t1, t2, -, -, t7, t8, -⟩, -⟩ := R
  by_cases e : x = 0
  · rw [if_pos e, if_pos e]
    exact ⟨6, _, l.2.1, l.2.2.2.1, l.2.2.1, l.2.2.2.2, vl, rfl, fun _ => rfl, t1, t7, rfl⟩
  · rw [if_neg e, if_neg e]
    exact ⟨7, _, r.2.1, r.2.2.2.1, r.2.2.1, r.2.2.2.2, vr, rfl, fun _ => rfl, t2, t8, rfl⟩
end KZ1
