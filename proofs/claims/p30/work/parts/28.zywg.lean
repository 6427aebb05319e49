/-! ===== what is asked, exactly: many ===== -/
def zSum (ya : List Int32) : Int32 := ya.foldl (· + ·) 0
def zOpn (rs : List (List Int32)) : Int32 := rs.foldl (fun a z => a + z.getD 3 0) 0
def zMny (nb : Nat) (jo : Int32) (pa : List Int32) (ps : List aS) (st : aS) (n : Nat) : Int32 := [Int32.ofNat nb, zSum st.2.2.2.1, jo, Int32.ofNat st.1.length, Int32.ofNat st.2.1.length, st.2.2.2.2 4, st.2.2.2.2 5, st.2.2.2.2 6, st.2.2.2.2 8, st.2.2.2.2 9, st.2.2.2.2 10, st.2.2.2.2 7, Int32.ofNat st.2.2.1.length, zOpn st.2.2.1, Int32.ofNat pa.length, Int32.ofNat ps.length].getD n 0
def spMany (x : Int32) : aC → aR
  | (nb, jo, lo, bo, pa, ps, (vl, vr, rs, ya, sc)) => if x < 0 ∨ ¬ x < 16 then (1, 0, (nb, jo, lo, bo, pa, ps, (vl, vr, rs, ya, sc))) else (0, zMny nb jo pa ps (vl, vr, rs, ya, sc) x.toNatClampNeg, (nb, jo, lo, bo, pa, ps, (vl, vr, rs, ya, sc)))
section GB
variable {xm : Nat → Option kE} {mem m0 : kM} {F X : kSg} {N k nb c0 s0 c1 s1 cap0 n M0 C S q cap i : Nat} {jo x y z t v : Int32} {lo : List kLf} {bo pa vl vr ya : List Int32} {ps : List aS} {rs : List (List Int32)} {sc : Nat → Int32} {st : aS} {T : Nat → Int32} {h : kHs} {sp : aR} {L B P Q : kLi} {s y0 : Nat} {l r u : kLi} {cs : List kCs} {c : kCs} {g : Nat → Int32} {sum : Int64}
/-! the class -/
theorem sum_0 : ∀ {l : List Int32} {a : Int32}, (∀ v ∈ l, v = 0) → l.foldl (· + ·) a = a := by
  intro l
  induction l with
  | nil => intro a _; rfl
  | cons v l ih =>
    intro a h
    rw [List.foldl_cons, h v List.mem_cons_self, Int32.add_zero]
    exact ih fun w hw => h w (List.mem_cons_of_mem _ hw)
theorem bSum_all (hz : ∀ i, nb ≤ i → ya.getD i 0 = 0) : bSum ya nb 0 0 = zSum ya := by
  unfold bSum zSum
  rw [List.drop_zero]
  have e := congrArg (fun l : List Int32 => l.foldl (· + ·) 0) (List.take_append_drop nb ya)
  rw [List.foldl_append] at e
  rw [← e]
  refine (sum_0 fun v hv => ?_).symm
  obtain ⟨i, hi⟩ := List.mem_iff_getElem?.mp hv
  rw [List.getElem?_drop] at hi
  have := hz (nb + i) (by omega)
  rw [List.getD_eq_getElem?_getD, hi] at this
  exact this
theorem opn_nOpen : ∀ {rs : List (List Int32)} {a : Nat}, (∀ z ∈ rs, z.getD 3 0 = 0 ∨ z.getD 3 0 = 1) → rs.foldl (fun a z => a + z.getD 3 0) (Int32.ofNat a) = Int32.ofNat (a + nOpen rs) := by
  intro rs
  induction rs with
  | nil => intro a _; rfl
  | cons z rs ih =>
    intro a h
    rw [List.foldl_cons]
    unfold nOpen
    rcases h z List.mem_cons_self with e | e
    · rw [e, Int32.add_zero, List.filter_cons_of_neg (by rw [e]; decide)]
      exact ih fun w hw => h w (List.mem_cons_of_mem _ hw)
    · rw [e, i_add1, List.filter_cons_of_pos (by rw [e]; decide), List.length_cons, ih (a := a + 1) fun w hw => h w (List.mem_cons_of_mem _ hw)]
      unfold nOpen
      congr 1
      omega
theorem zOpn_nOpen (h : ∀ z ∈ rs, z.getD 3 0 = 0 ∨ z.getD 3 0 = 1) : zOpn rs = Int32.ofNat (nOpen rs) := by
  have e := opn_nOpen (a := 0) h
  rw [Nat.zero_add] at e
  exact e
theorem ok_sw {S : kO × kM → Prop} {n : Nat} {hi : Int} {D Y : dRes} {L : List dRes} (hn : n < 2 ^ 31) (h1 : (n : Int) ≤ hi) (h : L[n]? = some Y) (k : dOk Y S) : dOk (dSw (Int32.ofNat n) 0 hi D L) S := by
  unfold dSw
  rw [i_toI hn, if_neg (by omega), show ((n : Int) - 0).toNat = n by omega, h]
  exact k
theorem ok_swD {S : kO × kM → Prop} {n : Nat} {hi : Int} {D : dRes} {L : List dRes} (hn : n < 2 ^ 31) (h1 : hi < (n : Int)) (k : dOk D S) : dOk (dSw (Int32.ofNat n) 0 hi D L) S := by
  unfold dSw
  rw [i_toI hn, if_pos (Or.inr h1)]
  exact k
theorem q_number (hN : 26 ≤ N) (I : INV nb jo lo bo pa ps (vl, vr, rs, ya, sc) T h) (h01 : ∀ z ∈ rs, z.getD 3 0 = 0 ∨ z.getD 3 0 = 1) (hn : n < 16) (H : HpT (cE nb jo pa (vl, vr, rs, ya, sc) q cap T h) F mem) : m_K_number xm N 1000 (Int32.ofNat n) mem = some (.inl (some (.int (zMny nb jo pa ps (vl, vr, rs, ya, sc) n))), mem) := by
  obtain ⟨o1, -, -, -⟩ := I.2.2.2.1 _ (List.mem_append_right _ (List.mem_singleton.mpr rfl))
  dsimp only at o1
  have hy4 : ya.length = 4 := I.sw.2.2.2.2
  have h9 : rs.length ≤ 9 := I.sw.2.2.1
  have hct : h.2.1 = ps.length := I.2.2.1.2.1
  refine ok_eq ?_
  unfold m_K_number
  rcases (show n = 0 ∨ n = 1 ∨ n = 2 ∨ n = 3 ∨ n = 4 ∨ n = 5 ∨ n = 6 ∨ n = 7 ∨ n = 8 ∨ n = 9 ∨ n = 10 ∨ n = 11 ∨ n = 12 ∨ n = 13 ∨ n = 14 ∨ n = 15 by omega) with rfl | rfl | rfl | rfl | rfl | rfl | rfl | rfl | rfl | rfl | rfl | rfl | rfl | rfl | rfl | rfl
  · refine ok_sw (by decide) (by decide) rfl ?_
    refine t_gR H 0 rfl rfl ?_
    refine t_gE H 1 rfl rfl ?_
    exact ok_me
  · refine ok_sw (by decide) (by decide) rfl ?_
    refine t_gR H 0 rfl rfl ?_
    refine t_rc H 1 rfl ?_
    refine ok_eI (bE_ofAll (a := 1001) (b := 1002) (j := 1) (by omega) I.nb4 hy4 H rfl rfl) ?_
    rw [bSum_all I.2.2.2.2]
    exact ok_me
  · refine ok_sw (by decide) (by decide) rfl ?_
    refine t_gR H 0 rfl rfl ?_
    refine t_gE H 1 rfl rfl ?_
    exact ok_me
  · refine ok_sw (by decide) (by decide) rfl ?_
    refine t_gR H 0 rfl rfl ?_
    refine t_gR H 3 rfl rfl ?_
    refine t_gE H 4 rfl rfl ?_
    exact ok_me
  · refine ok_sw (by decide) (by decide) rfl ?_
    refine t_gR H 0 rfl rfl ?_
    refine t_gR H 3 rfl rfl ?_
    refine t_gE H 6 rfl rfl ?_
    exact ok_me
  · refine ok_sw (by decide) (by decide) rfl ?_
    refine t_gR H 0 rfl rfl ?_
    refine t_gE H 3 rfl rfl ?_
    rw [show zMny nb jo pa ps (vl, vr, rs, ya, sc) 5 = sc 5 &&& 1 from o1]
    exact ok_me
  · refine ok_sw (by decide) (by decide) rfl ?_
    refine t_gR H 0 rfl rfl ?_
    refine t_gE H 3 rfl rfl ?_
    exact ok_me
  · refine ok_sw (by decide) (by decide) rfl ?_
    refine t_gR H 0 rfl rfl ?_
    refine t_gE H 3 rfl rfl ?_
    exact ok_me
  · refine ok_sw (by decide) (by decide) rfl ?_
    refine t_gR H 0 rfl rfl ?_
    refine t_gE H 3 rfl rfl ?_
    exact ok_me
  · refine ok_sw (by decide) (by decide) rfl ?_
    refine t_gR H 0 rfl rfl ?_
    refine t_gE H 3 rfl rfl ?_
    exact ok_me
  · refine ok_sw (by decide) (by decide) rfl ?_
    refine t_gR H 0 rfl rfl ?_
    refine t_gE H 3 rfl rfl ?_
    exact ok_me
  · refine ok_sw (by decide) (by decide) rfl ?_
    refine t_gR H 0 rfl rfl ?_
    refine t_gE H 3 rfl rfl ?_
    exact ok_me
  · refine ok_sw (by decide) (by decide) rfl ?_
    refine t_gR H 0 rfl rfl ?_
    refine t_gE H 3 rfl rfl ?_
    exact ok_me
  · refine ok_sw (by decide) (by decide) rfl ?_
    refine t_gR H 0 rfl rfl ?_
    refine t_rc H 3 rfl ?_
    refine ok_eI (wE_openRuns (i := 3) (a := 1003) (by omega) h9 H isWE_now) ?_
    rw [show zMny nb jo pa ps (vl, vr, rs, ya, sc) 13 = Int32.ofNat (nOpen rs) from zOpn_nOpen h01]
    exact ok_me
  · refine ok_sw (by decide) (by decide) rfl ?_
    refine t_gE H 0 rfl rfl ?_
    exact ok_me
  · refine ok_swD (by decide) (by decide) ?_
    refine t_gR H 0 rfl rfl ?_
    refine t_gE H 16 rfl rfl ?_
    rw [show zMny nb jo pa ps (vl, vr, rs, ya, sc) 15 = Int32.ofNat h.2.1 by rw [hct]; rfl]
    exact ok_me
theorem q_many (hN : 120 ≤ N) (h01 : ∀ z ∈ rs, z.getD 3 0 = 0 ∨ z.getD 3 0 = 1) (D : KS xm nb jo lo bo pa ps (vl, vr, rs, ya, sc) F 0 0 m0 cap0 mem) : dOk (m_K_many xm N 1000 x mem) (eX xm 0 2 (spMany x (nb, jo, lo, bo, pa, ps, (vl, vr, rs, ya, sc))) F m0 cap0) := by
  have D0 := D
  obtain ⟨T, h, I, D⟩ := D
  unfold m_K_many
  refine ok_if (fun g => q_ex1 (if_pos (Or.inl g)) D0) (fun g1 => ?_)
  refine ok_if (fun g2 => ?_) (fun g => q_ex1 (if_pos (Or.inr g)) D0)
  have g12 : ¬ (x < 0 ∨ ¬ x < 16) := fun z => z.elim g1 (fun z => z g2)
  obtain ⟨ex, lx⟩ := i_of (Int32.not_lt.mp g1)
  generalize hn : x.toNatClampNeg = n at ex lx
  subst ex
  have hn16 := (i_lt (b := 16) lx (by decide)).mp g2
  refine x_rc D 0 (fun _ _ => ⟨_, rfl⟩) ?_
  refine x_ro D (fun q cap k2 hz H => q_number (by omega) I h01 hn16 H) ?_
  exact q_end (c := (nb, jo, lo, bo, pa, ps, (vl, vr, rs, ya, sc))) ((if_neg g12).trans (by rw [hn])) D0
end GB
