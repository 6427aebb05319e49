/-! ===== the reference's calls: bind, drop, latch ===== -/
section KP
variable {xm : Nat → Option kE} {mem : kM} {N M0 nb k C S ck : Nat} {F : kSg} {g : Nat → Int32} {sum : Int64} {lo : List kLf} {bo pa : List Int32} {ps : List aS} {vl vr ya : List Int32} {rs : List (List Int32)} {sc : Nat → Int32} {T : kO × kM → Prop}
theorem aInv.bind {p : Nat} {v : Int32} (h : aInv nb g lo bo pa ps (vl, vr, rs, ya, sc)) : aInv nb g lo (bo ++ [v]) pa ps (vl, vr.eraseIdx p, rs, ya, kUp sc 7 (sc 7 + 1)) := by
  obtain ⟨a1, ⟨⟨b1, b2, b3, b4, b5⟩, b6, b7, b8, b9, b10, b11⟩, a3, a4, a5, a6⟩ := h
  dsimp only at b2 b6
  have el : (bo ++ [v]).length = bo.length + 1 := by simp
  have e2 : (vr.eraseIdx p).length ≤ vr.length := List.length_eraseIdx_le ..
  refine ⟨a1, ⟨⟨b1, by dsimp only; omega, b3, b4, b5⟩, by dsimp only; omega, b7, fun w hw => b8 w (List.mem_of_mem_eraseIdx hw), b9, b10, ?_⟩, by rw [el]; exact aCh_mono a3 (Nat.le_refl _) (by omega), a4, a5, a6⟩
  show sc 7 + 1 = _
  rw [show sc 7 = Int32.ofNat bo.length from b11, el, i_add1]
/-- the joined ball's yarn is put -/
theorem w_yarnPut {b : Nat} {x : Int32 → Int32} {K : kM → dRes} (W : WR xm M0 g sum lo bo pa ps (vl, vr, rs, ya, sc) ck F mem) (hy : ya.length = 4) (hj : g 7 = Int32.ofNat b) (hb : b < 4) (h : ∀ m, WR xm M0 g sum lo bo pa ps (vl, vr, rs, ya.set b (x (ya.getD b 0)), sc) ck F m → St xm mem m 0 0 → dOk (K m) T) :
    dOk (dGR xm mem M0 15 5 fun v93 => dGR xm mem v93 14 3 fun v96 => dGI xm mem M0 15 7 fun v100 => dIL xm 0 mem v96 v100 fun v104 => dIS xm mem v96 v100 (x v104) K) T := by
  obtain ⟨L, B, P, Q, ⟨s, l, r, u, y⟩, cs, H, R, hck⟩ := W
  have hin : kInB (g 7) ya.length = true := by rw [hj, hy]; exact i_inB hb (by decide)
  have hnt : (g 7).toNatClampNeg = b := by rw [hj]; exact i_nat (by omega)
  refine ok_gR (H.look 0 0 rfl rfl) rfl ?_
  refine ok_gR (H.look 5 0 rfl rfl) rfl ?_
  refine ok_gI (H.look 0 0 rfl rfl) rfl ?_
  refine ok_iL (H.look 10 0 rfl rfl) hin ?_
  refine os_iS H 10 0 rfl rfl hin fun m1 H1 S1 => ?_
  rw [hnt] at H1
  exact h m1 ⟨L, B, P, Q, (s, l, r, u, y), cs, H1, R.st S1, hck⟩ S1
theorem aInv.yarn {b : Nat} {x : Int32} (h : aInv nb g lo bo pa ps (vl, vr, rs, ya, sc)) : aInv nb g lo bo pa ps (vl, vr, rs, ya.set b x, sc) := by
  obtain ⟨a1, ⟨⟨b1, b2, b3, b4, b5⟩, b6, b7, b8, b9, b10, b11⟩, a3⟩ := h
  exact ⟨a1, ⟨⟨b1, b2, b3, b4, by simpa using b5⟩, b6, b7, b8, b9, b10, b11⟩, a3⟩
theorem kAc_runs {cap n : Nat} (h : n ≤ 9) (hc : cap ≤ 20) : kAc cap n ≤ 20 ∧ kAs cap n ≤ 20 := by
  unfold kAc kAs kGr
  split
  · split <;> omega
  · omega
theorem i_ld {xs : List Int32} {n : Nat} (h : n < xs.length) (hl : xs.length = 4) : kInB (Int32.ofNat n) xs.length = true := i_inB h (by omega)
end KP
