/-! ===== the class: what a pattern would do ===== -/
def cTt (nb q cap : Nat) (t : fTy) : kTyL := (cT nb q cap).set 104 (1104, tr t)
section KZJ
variable {xm : Nat → Option kE} {mem m0 : kM} {Ts : kTyL} {F A : kSg} {S T : kO × kM → Prop} {N i j a b n nb q cap : Nat} {x y z : Int32} {X : dRes} {t : fTy}
theorem cTt_99 : cTt nb q cap (fB 99) = cT nb q cap := set_self rfl
theorem cTt_weak {d : Nat} (hd : d ≤ 99) (H : HpT (cTt nb q cap (fB d)) F mem) : HpT (cT nb q cap) F mem := by
  have h := H.weak (k := 4) (t' := fB 99) (ci := 9) (r := 1104) (ts := [fI, fI, fI, fI, fB d]) 104 rfl rfl (by rintro v ⟨i, h1, h2⟩; exact ⟨i, by omega, h2⟩)
  have e : (cTt nb q cap (fB d)).set 104 (1104, cO 9 ([fI, fI, fI, fI, fB d].set 4 (fB 99))) = cT nb q cap := by
    unfold cTt
    rw [List.set_set]
    exact set_self rfl
  rw [e] at h
  exact h
theorem k_stepAt (H : HpT (cTt nb q cap t) F mem) : ∃ v, m_K_stepAt xm N 1000 x y mem = some (.inl (some (.int v)), mem) := by
  have go : dOk (m_K_stepAt xm N 1000 x y mem) (fun w => ∃ v, w = (.inl (some (.int v)), mem)) := by
    unfold m_K_stepAt
    refine t_gR H 0 rfl rfl ?_
    refine t_rc H 12 rfl ?_
    obtain ⟨v, hv⟩ := tb_get (xm := xm) (N := N) (x := x) (y := 1) (f := 5) (mr := 6) (n := 30) (j := 12) (a := 1012) (b := 1013) (by decide) (by decide) (by decide) H rfl rfl
    refine ok_eI hv ?_
    refine ok_if (fun _ => ⟨_, rfl, _, rfl⟩) (fun g => ?_)
    refine t_gR H 0 rfl rfl ?_
    refine ok_nz (by rintro rfl; exact g (by decide)) ?_
    refine t_rc H 14 rfl ?_
    obtain ⟨w, hw⟩ := tb_get (xm := xm) (N := N) (x := x) (y := y - y / v * v) (f := 9) (mr := 6) (n := 54) (j := 14) (a := 1014) (b := 1015) (by decide) (by decide) (by decide) H rfl rfl
    exact ok_eI hw ⟨_, rfl, _, rfl⟩
  obtain ⟨w, h1, v, rfl⟩ := go
  exact ⟨v, h1⟩
theorem k_try33 (hX : kXok xm) : ∀ (k d f : Nat) (mem : kM), d + k = 99 → k < f → HpT (cTt nb q cap (fB d)) F mem → dOk (m_K_tryOut_33 xm N f 1000 x (Int32.ofNat d) mem) (rV fun m => HpT (cT nb q cap) F m ∧ St xm mem m 0 0) := by
  intro k
  induction k with
  | zero =>
    intro d f mem hd hf H
    obtain ⟨f, rfl⟩ : ∃ f', f = f' + 1 := ⟨f - 1, by omega⟩
    rw [m_K_tryOut_33, if_neg (fun z => by have := (i_lt (a := d) (b := 99) (by omega) (by omega)).mp z; omega)]
    exact ok_V ⟨cTt_weak (by omega) H, St.refl⟩
  | succ k ih =>
    intro d f mem hd hf H
    obtain ⟨f, rfl⟩ : ∃ f', f = f' + 1 := ⟨f - 1, by omega⟩
    rw [m_K_tryOut_33, if_pos (show Int32.ofNat d < 99 from (i_lt (a := d) (b := 99) (by omega) (by omega)).mpr (by omega))]
    refine t_gR H 0 rfl rfl ?_
    refine t_rc H 0 rfl ?_
    obtain ⟨v, hv⟩ := k_stepAt (xm := xm) (N := N) (x := x) (y := Int32.ofNat d) H
    refine ok_eI hv ?_
    refine t_rc H 104 rfl ?_
    refine ok_cI (tr_step (j := 104) (a := 1104) (d := d) hX H rfl) fun w m1 hh => ?_
    have H1 : HpT (cTt nb q cap (fB (d + 1))) F m1 := by
      have h := hh.1
      unfold cTt at h ⊢
      rw [List.set_set] at h
      exact h
    refine ok_if (fun _ => ok_V ⟨cTt_weak (by omega) H1, hh.2⟩) (fun _ => ?_)
    rw [i_add1]
    refine ok_mono (ih (d + 1) f m1 (by omega) (by omega) H1) ?_
    rintro w ⟨q1, q2, q3⟩
    exact ⟨q1, q2, (hh.2.trans q3).mono (by omega) (by omega)⟩
theorem k_tryOut (hX : kXok xm) (hN : 100 ≤ N) (H : HpT (cT nb q cap) F mem) : dOk (m_K_tryOut xm N 1000 x mem) (rV fun m => HpT (cT nb q cap) F m ∧ St xm mem m 0 0) := by
  unfold m_K_tryOut
  refine t_gR H 0 rfl rfl ?_
  refine t_gR H 0 rfl rfl ?_
  refine t_gR H 3 rfl rfl ?_
  refine t_gB H 4 rfl rfl fun c hc => ?_
  refine t_gR H 0 rfl rfl ?_
  refine t_rc H 3 rfl ?_
  obtain ⟨v, -, hv⟩ := w_onBoth (xm := xm) (N := N) (i := 3) H isWk_now
  refine ok_eI hv ?_
  refine t_gR H 0 rfl rfl ?_
  refine t_rc H 1 rfl ?_
  obtain ⟨w, hw⟩ := b_ofJoined (xm := xm) (N := N) (a := 1001) (b := 1002) (nb := nb) (j := 1) H rfl rfl
  refine ok_eI hw ?_
  refine t_rc H 104 rfl ?_
  refine ok_cV (tr_start (j := 104) (a := 1104) (t := fB 99) H rfl) fun m1 hh => ?_
  refine ok_mono (k_try33 hX 99 0 N m1 (by omega) (by omega) hh.1) ?_
  rintro w ⟨q1, q2, q3⟩
  exact ⟨q1, q2, (hh.2.trans q3).mono (by omega) (by omega)⟩
end KZJ
