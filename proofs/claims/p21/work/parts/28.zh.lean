/-! ===== the class: the history ===== -/
section KZF
variable {xm : Nat → Option kE} {mem : kM} {Ts : kTyL} {F A : kSg} {S : kO × kM → Prop} {N i j a b a1 b1 c f mr n jo nb q cap : Nat} {x y z : Int32}
theorem t_alN {K1 K2 : dRes} {t p r : Nat} {qs : List (Option Nat)} {i : Int32} (H : HpT Ts F mem) (j : Nat) (hj : Ts[j]? = some (r, cQ t qs)) (ht : t = 2 ∨ t = 3) (hi : kInB i qs.length = true) (hq : qs.getD i.toNatClampNeg none = some p) (h : dOk K2 S) : dOk (dALn xm mem r i K1 K2) S := by
  obtain ⟨e, h1, h2, rfl⟩ := H.cell (xm := xm) j hj
  unfold dALn
  simp only [h1]
  rw [if_pos ⟨by omega, hi⟩]
  simp only [hq]
  exact h
theorem HpT.pinI {r ci k : Nat} {ts : List fTy} (H : HpT Ts F mem) (j : Nat) (hj : Ts[j]? = some (r, cO ci ts)) (hk : ts[k]? = some fI) : ∃ x : Int32, HpT (Ts.set j (r, cO ci (ts.set k (fE x)))) F mem := by
  obtain ⟨A, hA, h3⟩ := H
  obtain ⟨e, h4, fs, rfl, h5, h6⟩ := hA.2 j r _ hj
  obtain ⟨v, h7, x, rfl⟩ := h6 k _ hk
  have hkl : k < ts.length := (List.getElem?_eq_some_iff.mp hk).1
  refine ⟨x, A, ?_, h3⟩
  have h8 := hA.set (t' := cO ci (ts.set k (fE x))) (e := .inl (ci, fs)) hj ⟨fs, rfl, by simp [h5], fun i' t'' hi' => ?_⟩
  · rw [set_self h4] at h8
    exact h8
  · rw [List.getElem?_set] at hi'
    by_cases g : k = i'
    · subst g
      rw [if_pos rfl, if_pos hkl] at hi'
      cases hi'
      exact ⟨_, h7, rfl⟩
    · rw [if_neg g] at hi'
      exact h6 i' t'' hi'
theorem inB_lt (h : kInB x n = true) : x.toNatClampNeg < n := by
  unfold kInB at h
  simp only [Bool.and_eq_true, decide_eq_true_eq] at h
  exact h.2
theorem isWk.set {e : Nat × cTy} (W : isWk Ts i a) (h : j < i ∨ i + 7 ≤ j) : isWk (Ts.set j e) i a := by
  intro d hd
  rw [List.getElem?_set_ne (by omega)]
  exact W d hd
theorem set_id16 {x : Int32} : ((cT nb q cap).set 16 (1016, cO 6 [fR 1017, fR 1018, fR 1019, fE x, fI])).set 16 (1016, cO 6 [fR 1017, fR 1018, fR 1019, fI, fI]) = cT nb q cap := by
  rw [List.set_set]
  exact set_self rfl
theorem h_keep (hX : kXok xm) (H : HpT (cT nb q cap) F mem) : dOk (m_History_keep xm N 1016 1003 1001 mem) (rV fun m => HpT (cT nb q cap) F m ∧ St xm mem m 0 0) := by
  obtain ⟨x, H0⟩ := H.pinI (k := 3) 16 rfl rfl
  have H0 : HpT ((cT nb q cap).set 16 (1016, cO 6 [fR 1017, fR 1018, fR 1019, fE x, fI])) F mem := H0
  unfold m_History_keep
  refine t_gE H0 16 rfl rfl ?_
  refine t_rc H 16 rfl ?_
  obtain ⟨v, hv0, hv⟩ := h_isSlot (xm := xm) (N := N) (x := x) H
  refine ok_eI hv ?_
  refine ok_if (fun _ => ok_V ⟨H, St.refl⟩) (fun g => ?_)
  have gx := hv0 g
  have gk := inB_lt gx
  generalize hk : x.toNatClampNeg = k at gk
  have hq : kW12.getD x.toNatClampNeg none = some (1020 + 7 * k) := by rw [hk]; exact kW12_at gk
  have W : isWk ((cT nb q cap).set 16 (1016, cO 6 [fR 1017, fR 1018, fR 1019, fE x, fI])) (20 + 7 * k) (1020 + 7 * k) := (isWk_12 gk).set (by omega)
  have V : isWk ((cT nb q cap).set 16 (1016, cO 6 [fR 1017, fR 1018, fR 1019, fE x, fI])) 3 1003 := isWk_now.set (by omega)
  refine t_gR H0 16 rfl rfl ?_
  refine t_gE H0 16 rfl rfl ?_
  refine t_alN H0 17 rfl (by decide) gx hq ?_
  refine t_gR H0 16 rfl rfl ?_
  refine t_gE H0 16 rfl rfl ?_
  refine t_aL H0 17 rfl (by decide) gx hq ?_
  refine t_rc H0 (20 + 7 * k) (W 0 (by decide)) ?_
  refine ok_cV (w_copyFrom (i := 3) (j := 20 + 7 * k) (by omega) H0 W V) fun m1 h1 => ?_
  obtain ⟨H1, S1⟩ := h1
  refine t_gR H1 16 rfl rfl ?_
  refine t_gE H1 16 rfl rfl ?_
  refine t_gI H1 1 rfl rfl fun jo => ?_
  refine t_iS H1 18 rfl gx fun m2 H2 S2 => ?_
  refine t_gR H2 16 rfl rfl ?_
  refine t_gE H2 16 rfl rfl ?_
  refine t_rc H2 1 rfl ?_
  obtain ⟨w, hw⟩ := b_ofJoined (xm := xm) (N := N) (a := 1001) (b := 1002) (nb := nb) (j := 1) H2 rfl rfl
  refine ok_eI hw ?_
  refine t_iS H2 19 rfl gx fun m3 H3 S3 => ?_
  refine t_gE H3 16 rfl rfl ?_
  have last : ∀ s : Int32, dOk (m_History_keep_85 xm N 1016 1016 s m3) (rV fun m => HpT (cT nb q cap) F m ∧ St xm mem m 0 0) := by
    intro s
    unfold m_History_keep_85
    refine t_pT (t' := fI) H3 16 rfl rfl rfl ⟨s, rfl⟩ fun m4 H4 S4 => ?_
    have H4 : HpT (((cT nb q cap).set 16 (1016, cO 6 [fR 1017, fR 1018, fR 1019, fE x, fI])).set 16 (1016, cO 6 [fR 1017, fR 1018, fR 1019, fI, fI])) F m4 := H4
    rw [set_id16] at H4
    refine t_gI H4 16 rfl rfl fun n => ?_
    refine ok_eI m_min ?_
    refine t_p H4 16 rfl rfl rfl ⟨_, rfl⟩ fun m5 H5 S5 => ?_
    exact ok_V ⟨H5, S1.trans (S2.trans (S3.trans (S4.trans S5)))⟩
  refine ok_if (fun _ => ?_) (fun _ => last 0)
  refine t_gE H3 16 rfl rfl ?_
  exact last _
theorem h_back (H : HpT (cT nb q cap) F mem) : dOk (m_History_bringBack xm N 1016 1003 1001 mem) (rV fun m => HpT (cT nb q cap) F m ∧ St xm mem m 0 0) := by
  have main : ∀ s : Int32, dOk (m_History_bringBack_18 xm N 1016 1003 1001 s mem) (rV fun m => HpT (cT nb q cap) F m ∧ St xm mem m 0 0) := by
    intro x
    unfold m_History_bringBack_18
    refine t_gI H 16 rfl rfl fun n => ?_
    refine ok_if (fun _ => ok_V ⟨H, St.refl⟩) (fun _ => ?_)
    refine t_rc H 16 rfl ?_
    obtain ⟨v, hv0, hv⟩ := h_isSlot (xm := xm) (N := N) (x := x) H
    refine ok_eI hv ?_
    refine ok_if (fun _ => ok_V ⟨H, St.refl⟩) (fun g => ?_)
    have gx := hv0 g
    have gk := inB_lt gx
    generalize hk : x.toNatClampNeg = k at gk
    have hq : kW12.getD x.toNatClampNeg none = some (1020 + 7 * k) := by rw [hk]; exact kW12_at gk
    have W : isWk (cT nb q cap) (20 + 7 * k) (1020 + 7 * k) := isWk_12 gk
    have V : isWk (cT nb q cap) 3 1003 := isWk_now
    refine t_gR H 16 rfl rfl ?_
    refine t_alN H 17 rfl (by decide) gx hq ?_
    refine t_gR H 16 rfl rfl ?_
    refine t_aL H 17 rfl (by decide) gx hq ?_
    refine t_rc H 3 rfl ?_
    refine ok_cV (w_copyFrom (i := 20 + 7 * k) (j := 3) (by omega) H V W) fun m1 h1 => ?_
    obtain ⟨H1, S1⟩ := h1
    refine t_gR H1 16 rfl rfl ?_
    refine t_iL H1 18 rfl gx fun v1 => ?_
    refine t_gR H1 16 rfl rfl ?_
    refine t_iL H1 19 rfl gx fun v2 => ?_
    refine t_rc H1 1 rfl ?_
    refine ok_cV (b_set (a := 1001) (b := 1002) (nb := nb) (j := 1) H1 rfl rfl) fun m2 h2 => ?_
    obtain ⟨H2, S2⟩ := h2
    refine t_p H2 16 rfl rfl rfl ⟨_, rfl⟩ fun m3 H3 S3 => ?_
    refine t_gI H3 16 rfl rfl fun n2 => ?_
    refine t_p H3 16 rfl rfl rfl ⟨_, rfl⟩ fun m4 H4 S4 => ?_
    exact ok_V ⟨H4, S1.trans (S2.trans (S3.trans S4))⟩
  unfold m_History_bringBack
  refine t_gI H 16 rfl rfl fun v1 => ?_
  refine ok_if (fun _ => ?_) (fun _ => main 11)
  refine t_gI H 16 rfl rfl fun v2 => ?_
  exact main _
end KZF
