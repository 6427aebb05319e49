/-! ===== the class: needles ===== -/
section KZB
variable {xm : Nat → Option kE} {mem : kM} {Ts : kTyL} {F A : kSg} {S : kO × kM → Prop} {N j a b c : Nat} {x : Int32}
/-- a needle's type, its count from 0 to 24 -/
abbrev nT (b : Nat) : cTy := cO 7 [fR b, fB 24]
/-- a needle's type, its count known -/
abbrev nE (b c : Nat) : cTy := cO 7 [fR b, fE (Int32.ofNat c)]
theorem set_at {α : Type} {l : List α} {j : Nat} {x y : α} (h : l[j]? = some x) : (l.set j y)[j]? = some y := List.getElem?_set_self (List.getElem?_eq_some_iff.mp h).1
theorem set_ne {α : Type} {l : List α} {j i : Nat} {x y : α} (h : l[i]? = some x) (n : j ≠ i) : (l.set j y)[i]? = some x := by rw [List.getElem?_set_ne n]; exact h
theorem n_pin (H : HpT Ts F mem) (hj : Ts[j]? = some (a, nT b)) : ∃ c : Nat, c ≤ 24 ∧ HpT (Ts.set j (a, nE b c)) F mem := H.pin (k := 1) j hj rfl
theorem n_un {m : kM} (hj : Ts[j]? = some (a, nT b)) (hc : c ≤ 24) (H : HpT (Ts.set j (a, nE b c)) F m) : HpT Ts F m := by
  have h := H.loose (k := 1) (t' := fB 24) j (set_at hj) rfl ⟨c, hc, rfl⟩
  have e : (Ts.set j (a, nE b c)).set j (a, cO 7 ([fR b, fE (Int32.ofNat c)].set 1 (fB 24))) = Ts := by
    rw [List.set_set]
    exact set_self hj
  rw [e] at h
  exact h
theorem n_at (H : HpT Ts F mem) (hj : Ts[j]? = some (a, nT b)) (hb : Ts[j + 1]? = some (b, cA 24)) : ∃ v, m_Needle_at xm N a x mem = some (.inl (some (.int v)), mem) := by
  have go : dOk (m_Needle_at xm N a x mem) (fun w => ∃ v, w = (.inl (some (.int v)), mem)) := by
    have me : ∀ v : Int32, dOk (some (.inl (some (.int v)), mem)) (fun w => ∃ v, w = (.inl (some (.int v)), mem)) := fun v => ⟨_, rfl, v, rfl⟩
    unfold m_Needle_at
    refine t_gB H j hj rfl fun i hi => ?_
    refine ok_if (fun _ => me _) (fun _ => ?_)
    refine ok_if (fun _ => me _) (fun g1 => ?_)
    refine t_gR H j hj rfl ?_
    refine t_len H (j + 1) hb ?_
    refine ok_if (fun g2 => ?_) (fun _ => me _)
    refine t_gR H j hj rfl ?_
    exact t_iL H (j + 1) hb (i_guard g1 g2 (by decide)) fun v => me v
  obtain ⟨w, h1, v, rfl⟩ := go
  exact ⟨v, h1⟩
theorem n_replaceE {z : Int32} (H : HpT Ts F mem) (hj : Ts[j]? = some (a, nE b c)) (hb : Ts[j + 1]? = some (b, cA 24)) : dOk (m_Needle_replace xm N a x z mem) (rV fun m => HpT Ts F m ∧ St xm mem m 0 0) := by
  unfold m_Needle_replace
  refine t_gE H j hj rfl ?_
  refine ok_if (fun _ => ok_V ⟨H, St.refl⟩) (fun _ => ?_)
  refine ok_if (fun _ => ok_V ⟨H, St.refl⟩) (fun g1 => ?_)
  refine t_gR H j hj rfl ?_
  refine t_len H (j + 1) hb ?_
  refine ok_if (fun g2 => ?_) (fun _ => ok_V ⟨H, St.refl⟩)
  refine t_gR H j hj rfl ?_
  exact t_iS H (j + 1) hb (i_guard g1 g2 (by decide)) fun m H1 S1 => ok_V ⟨H1, S1⟩
theorem n_replace {z : Int32} (H : HpT Ts F mem) (hj : Ts[j]? = some (a, nT b)) (hb : Ts[j + 1]? = some (b, cA 24)) : dOk (m_Needle_replace xm N a x z mem) (rV fun m => HpT Ts F m ∧ St xm mem m 0 0) := by
  obtain ⟨c, hc, H1⟩ := n_pin H hj
  refine ok_mono (n_replaceE H1 (set_at hj) (set_ne hb (show j ≠ j + 1 by omega))) ?_
  rintro w ⟨q1, q2, q3⟩
  exact ⟨q1, n_un hj hc q2, q3⟩
theorem n_put (H : HpT Ts F mem) (hj : Ts[j]? = some (a, nT b)) (hb : Ts[j + 1]? = some (b, cA 24)) : dOk (m_Needle_put xm N a x mem) (rV fun m => HpT Ts F m ∧ St xm mem m 0 0) := by
  obtain ⟨c, hc, H1⟩ := n_pin H hj
  have h1 := set_at (y := (a, nE b c)) hj
  have h2 := set_ne (y := (a, nE b c)) hb (show j ≠ j + 1 by omega)
  unfold m_Needle_put
  refine t_gE H1 j h1 rfl ?_
  refine ok_if (fun _ => ok_V ⟨H, St.refl⟩) (fun g1 => ?_)
  refine t_gE H1 j h1 rfl ?_
  refine t_gR H1 j h1 rfl ?_
  refine t_len H1 (j + 1) h2 ?_
  refine ok_if (fun g2 => ?_) (fun _ => ok_V ⟨H, St.refl⟩)
  refine t_gR H1 j h1 rfl ?_
  refine t_gE H1 j h1 rfl ?_
  refine t_iS H1 (j + 1) h2 (i_guard g1 g2 (by decide)) fun m H2 S2 => ?_
  refine t_gE H2 j h1 rfl ?_
  have g3 := (i_lt (by omega) (by decide)).mp g2
  refine t_pT (t' := fE (Int32.ofNat (c + 1))) H2 j h1 rfl rfl (by rw [i_add1]; rfl) fun m3 H3 S3 => ?_
  rw [List.set_set] at H3
  exact ok_V ⟨n_un hj (by omega) H3, S2.trans S3⟩
theorem n_take15 {v : Int32} (hj : Ts[j]? = some (a, nT b)) (hb : Ts[j + 1]? = some (b, cA 24)) (hc : 1 ≤ c) (hc2 : c ≤ 24) : ∀ (p f : Nat) (mem : kM), p < f → p < 2 ^ 31 → HpT (Ts.set j (a, nE b c)) F mem → dOk (m_Needle_takeAt_15 xm N f a v (Int32.ofNat p) mem) (rI fun _ m => HpT Ts F m ∧ St xm mem m 0 0) := by
  have h1 := set_at (y := (a, nE b c)) hj
  have h2 := set_ne (y := (a, nE b c)) hb (show j ≠ j + 1 by omega)
  intro p
  induction p with
  | zero =>
    intro f mem hf _ H
    obtain ⟨f, rfl⟩ : ∃ f', f = f' + 1 := ⟨f - 1, by omega⟩
    rw [m_Needle_takeAt_15, if_neg (by decide)]
    refine t_gE H j h1 rfl ?_
    rw [i_sub1 hc]
    refine t_pT (t' := fE (Int32.ofNat (c - 1))) H j h1 rfl rfl rfl fun m3 H3 S3 => ?_
    rw [List.set_set] at H3
    exact ok_I ⟨n_un hj (by omega) H3, S3⟩
  | succ p ih =>
    intro f mem hf hp H
    obtain ⟨f, rfl⟩ : ∃ f', f = f' + 1 := ⟨f - 1, by omega⟩
    rw [m_Needle_takeAt_15, if_pos (show 0 < Int32.ofNat (p + 1) from (i_lt (a := 0) (by decide) (by omega)).mpr (by omega))]
    refine t_rc H j h1 ?_
    obtain ⟨w, hw⟩ := n_at (xm := xm) (N := N) (x := Int32.ofNat (p + 1) - 1) (n_un hj hc2 H) hj hb
    refine ok_eI hw ?_
    refine t_rc H j h1 ?_
    refine ok_cV (n_replaceE H h1 h2) fun m2 hh => ?_
    have e1 : Int32.ofNat (p + 1) + (-1) = Int32.ofNat (p + 1) - 1 := (Int32.sub_eq_add_neg _ _).symm
    rw [e1, i_sub1 (by omega)]
    refine ok_mono (ih f m2 (by omega) (by omega) hh.1) ?_
    rintro w ⟨v, q1, q2, q3⟩
    exact ⟨v, q1, q2, (hh.2.trans q3).mono (by omega) (by omega)⟩
theorem n_at0 {p : Nat} (hp : p ≤ 1) (H : HpT Ts F mem) (hj : Ts[j]? = some (a, nE b 0)) : m_Needle_at xm N a (Int32.ofNat p) mem = some (.inl (some (.int (-1))), mem) := by
  have go : dOk (m_Needle_at xm N a (Int32.ofNat p) mem) (fun w => w = (.inl (some (.int (-1))), mem)) := by
    unfold m_Needle_at
    refine t_gE H j hj rfl ?_
    rw [if_neg (i_nn (by omega))]
    have : Int32.ofNat 0 - 1 - Int32.ofNat p < 0 := by
      rcases Nat.le_one_iff_eq_zero_or_eq_one.mp hp with rfl | rfl <;> decide
    rw [if_pos this]
    exact ⟨_, rfl, rfl⟩
  obtain ⟨w, h1, rfl⟩ := go
  exact h1
theorem n_take {p : Nat} (hp : p ≤ 1) (hN : 2 ≤ N) (H : HpT Ts F mem) (hj : Ts[j]? = some (a, nT b)) (hb : Ts[j + 1]? = some (b, cA 24)) : dOk (m_Needle_takeAt xm N a (Int32.ofNat p) mem) (rI fun _ m => HpT Ts F m ∧ St xm mem m 0 0) := by
  obtain ⟨c, hc, H1⟩ := n_pin H hj
  unfold m_Needle_takeAt
  refine t_rc H j hj ?_
  by_cases g : c = 0
  · subst g
    refine ok_eI (n_at0 hp H1 (set_at hj)) ?_
    rw [if_pos rfl]
    exact ok_I ⟨H, St.refl⟩
  · obtain ⟨v, hv⟩ := n_at (xm := xm) (N := N) (x := Int32.ofNat p) H hj hb
    refine ok_eI hv ?_
    refine ok_if (fun _ => ok_I ⟨H, St.refl⟩) (fun _ => ?_)
    exact n_take15 hj hb (by omega) hc p N mem (by omega) (by omega) H1
theorem n_move8 {v : Int32} {n : Nat} (hn : n < 2 ^ 31) (hj : Ts[j]? = some (a, nT b)) (hb : Ts[j + 1]? = some (b, cA 24)) : ∀ (k d f : Nat) (mem : kM), d + k = n → k < f → HpT Ts F mem → dOk (m_Needle_moveTipBehind_8 xm N f a (Int32.ofNat n) v (Int32.ofNat d) mem) (rV fun m => HpT Ts F m ∧ St xm mem m 0 0) := by
  intro k
  induction k with
  | zero =>
    intro d f mem hd hf H
    obtain ⟨f, rfl⟩ : ∃ f', f = f' + 1 := ⟨f - 1, by omega⟩
    rw [m_Needle_moveTipBehind_8, if_neg (fun z => by have := (i_lt (by omega) (by omega)).mp z; omega)]
    refine t_rc H j hj ?_
    refine ok_cV (n_replace H hj hb) fun m hh => ?_
    exact ok_V hh
  | succ k ih =>
    intro d f mem hd hf H
    obtain ⟨f, rfl⟩ : ∃ f', f = f' + 1 := ⟨f - 1, by omega⟩
    rw [m_Needle_moveTipBehind_8, if_pos ((i_lt (by omega) (by omega)).mpr (by omega))]
    refine t_rc H j hj ?_
    obtain ⟨w, hw⟩ := n_at (xm := xm) (N := N) (x := Int32.ofNat d + 1) H hj hb
    refine ok_eI hw ?_
    refine t_rc H j hj ?_
    refine ok_cV (n_replace H hj hb) fun m2 hh => ?_
    rw [i_add1]
    refine ok_mono (ih (d + 1) f m2 (by omega) (by omega) hh.1) ?_
    rintro w ⟨q1, q2, q3⟩
    exact ⟨q1, q2, (hh.2.trans q3).mono (by omega) (by omega)⟩
theorem n_move {n : Nat} (hn : n < N) (hn2 : n < 2 ^ 31) (H : HpT Ts F mem) (hj : Ts[j]? = some (a, nT b)) (hb : Ts[j + 1]? = some (b, cA 24)) : dOk (m_Needle_moveTipBehind xm N a (Int32.ofNat n) mem) (rV fun m => HpT Ts F m ∧ St xm mem m 0 0) := by
  unfold m_Needle_moveTipBehind
  refine t_rc H j hj ?_
  obtain ⟨w, hw⟩ := n_at (xm := xm) (N := N) (x := 0) H hj hb
  refine ok_eI hw ?_
  exact n_move8 hn2 hj hb n 0 N mem (by omega) (by omega) H
theorem n_holds2 (hj : Ts[j]? = some (a, nT b)) (hb : Ts[j + 1]? = some (b, cA 24)) (H : HpT Ts F mem) : ∀ (k d f : Nat), d + k = 25 → k < f → ∃ v, m_Needle_holds_2 xm N f a x (Int32.ofNat d) mem = some (.inl (some (.int v)), mem) := by
  intro k
  induction k with
  | zero =>
    intro d f hd hf
    obtain ⟨f, rfl⟩ : ∃ f', f = f' + 1 := ⟨f - 1, by omega⟩
    have go : dOk (m_Needle_holds_2 xm N (f + 1) a x (Int32.ofNat d) mem) (fun w => ∃ v, w = (.inl (some (.int v)), mem)) := by
      rw [m_Needle_holds_2]
      refine t_gB H j hj rfl fun i hi => ?_
      rw [if_neg (fun z => by have := (i_lt (by omega) (by omega)).mp z; omega)]
      exact ⟨_, rfl, _, rfl⟩
    obtain ⟨w, h1, v, rfl⟩ := go
    exact ⟨v, h1⟩
  | succ k ih =>
    intro d f hd hf
    obtain ⟨f, rfl⟩ : ∃ f', f = f' + 1 := ⟨f - 1, by omega⟩
    have go : dOk (m_Needle_holds_2 xm N (f + 1) a x (Int32.ofNat d) mem) (fun w => ∃ v, w = (.inl (some (.int v)), mem)) := by
      rw [m_Needle_holds_2]
      refine t_gB H j hj rfl fun i hi => ?_
      refine ok_if (fun _ => ?_) (fun _ => ⟨_, rfl, _, rfl⟩)
      refine t_rc H j hj ?_
      obtain ⟨w, hw⟩ := n_at (xm := xm) (N := N) (x := Int32.ofNat d) H hj hb
      refine ok_eI hw ?_
      refine ok_if (fun _ => ⟨_, rfl, _, rfl⟩) (fun _ => ?_)
      rw [i_add1]
      obtain ⟨v, hv⟩ := ih (d + 1) f (by omega) (by omega)
      exact ⟨_, hv, v, rfl⟩
    obtain ⟨w, h1, v, rfl⟩ := go
    exact ⟨v, h1⟩
theorem n_holds (hN : 26 ≤ N) (H : HpT Ts F mem) (hj : Ts[j]? = some (a, nT b)) (hb : Ts[j + 1]? = some (b, cA 24)) : ∃ v, m_Needle_holds xm N a x mem = some (.inl (some (.int v)), mem) := by
  unfold m_Needle_holds
  exact n_holds2 hj hb H 25 0 N (by omega) (by omega)
end KZB
