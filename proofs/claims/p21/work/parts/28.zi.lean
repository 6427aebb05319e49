/-! ===== the class: the loops' table grows ===== -/
/-- the room that the loops' cells took so far, of so many -/
def kPhi (cap : Nat) : Nat := 2 * cap + (if cap = 119988 then 119988 else 0)
/-- the class after a call: cells and slots beside those of the loops' table -/
def cP (xm : Nat → Option kE) (nb : Nat) (F : kSg) (c0 s0 : Nat) (mem : kM) (cap : Nat) (m : kM) : Prop := ∃ q' cap' c s, 384 ≤ cap' ∧ cap' ≤ 119988 ∧ HpT (cT nb q' cap') F m ∧ St xm mem m c s ∧ c + cap ≤ c0 + cap' ∧ s + kPhi cap ≤ s0 + kPhi cap'
section KZG
variable {xm : Nat → Option kE} {mem : kM} {Ts : kTyL} {F A : kSg} {S : kO × kM → Prop} {N i j a b a1 b1 c f mr n jo nb q cap : Nat} {x y z : Int32}
theorem swp {α : Type} : ∀ (l : List α) (i : Nat) (y x : α), l[i]? = some y → (x :: l).Perm (y :: l.set i x) := by
  intro l
  induction l with
  | nil => intro i y x h; cases h
  | cons b l ih =>
    intro i y x h
    cases i with
    | zero => cases h; exact List.Perm.swap _ _ _
    | succ i => exact (List.Perm.swap b x l).trans (((ih i y x h).cons b).trans (List.Perm.swap y b _))
theorem t_nI {K : kM → Nat → dRes} (xm : Nat → Option kE) (H : HpT Ts F mem) (hn : n ≤ 16777216) (h : ∀ m p, HpT ((p, cA n) :: Ts) F m → St xm mem m 1 n → dOk (K m p) S) : dOk (dNI 0 mem (Int32.ofNat n) K) S := by
  obtain ⟨A, ⟨h1, h2⟩, h3⟩ := H
  refine ok_nI xm h3 hn fun m p H1 S1 => ?_
  refine h m p ⟨(p, .inr (.inl (0, List.replicate n 0))) :: A, ⟨by simp [h1], fun j r t hj => ?_⟩, H1⟩ S1
  cases j with
  | zero =>
    cases hj
    exact ⟨_, rfl, List.replicate n 0, by simp, rfl⟩
  | succ j => exact h2 j r t hj
/-- a new cell takes an old one's place -/
theorem HpT.move {p r : Nat} {t t' : cTy} (H : HpT ((p, t) :: Ts) F mem) (i : Nat) (hi : Ts[i]? = some (r, t')) : HpT (Ts.set i (p, t)) F mem := by
  obtain ⟨A, ⟨h1, h2⟩, h3⟩ := H
  obtain ⟨e, h4, h5⟩ := h2 0 p t rfl
  cases A with
  | nil => cases h4
  | cons z A =>
    cases h4
    obtain ⟨e', h6, h7⟩ := h2 (i + 1) r t' hi
    have h6 : A[i]? = some (r, e') := h6
    have hl : A.length = Ts.length := by simpa using h1
    have hA : tOk Ts A := ⟨hl, fun j r t hj => h2 (j + 1) r t hj⟩
    refine ⟨A.set i (p, e), ⟨by simp [hl], fun j r'' t'' hj => ?_⟩, ?_⟩
    · rw [List.getElem?_set] at hj ⊢
      by_cases g : i = j
      · subst g
        rw [if_pos rfl] at hj ⊢
        rw [if_pos (List.getElem?_eq_some_iff.mp hi).1] at hj
        rw [if_pos (List.getElem?_eq_some_iff.mp h6).1]
        cases hj
        exact ⟨e, rfl, h5⟩
      · rw [if_neg g] at hj ⊢
        exact hA.2 j r'' t'' hj
    · have p1 : ((p, e) :: (A ++ F)).Perm ((r, e') :: (A.set i (p, e) ++ F)) := List.Perm.append_right F (swp A i (r, e') (p, e) h6)
      exact Hp.sub (Hp.perm h3 p1) (List.sublist_cons_self _ _)
theorem tb_growTo (h1 : 384 ≤ cap) (h2 : cap ≤ 119988) (H : HpT (cT nb q cap) F mem) (hx : x = -1 ∨ ∃ c : Nat, c < 6 * 19998 ∧ x = Int32.ofNat c) : dOk (m_Table_growTo xm N 1010 (x + 1) mem) (rV fun m => cP xm nb F 0 0 mem cap m) := by
  have stay : dOk (some (.inl none, mem)) (rV fun m => cP xm nb F 0 0 mem cap m) := ok_V ⟨q, cap, 0, 0, h1, h2, H, St.refl, by omega, by omega⟩
  unfold m_Table_growTo
  refine t_gR H 10 rfl rfl ?_
  refine t_len H 11 rfl ?_
  refine ok_if (fun g => ?_) (fun _ => stay)
  rcases hx with rfl | ⟨c, hc, rfl⟩
  · exfalso
    have : (-1 : Int32) + 1 = Int32.ofNat 0 := by decide
    rw [this] at g
    have := (i_lt (by omega) (by decide)).mp g
    omega
  · rw [i_add1] at g ⊢
    have g := (i_lt (by omega) (by omega)).mp g
    refine t_gR H 10 rfl rfl ?_
    refine t_len H 11 rfl ?_
    refine ok_eI m_max ?_
    refine t_gE H 10 rfl rfl ?_
    refine t_gE H 10 rfl rfl ?_
    refine ok_eI m_min ?_
    have e2 : Int32.ofNat cap * 2 = Int32.ofNat (cap * 2) := i_mul (b := 2)
    have e3 : Int32.ofNat 19998 * Int32.ofNat 6 = Int32.ofNat 119988 := by decide
    have hR : ∃ R : Nat, (R = 119988 ∨ 2 * cap ≤ R) ∧ R ≤ 119988 ∧ (if Int32.ofNat 19998 * Int32.ofNat 6 < (if Int32.ofNat (c + 1) < Int32.ofNat cap * 2 then Int32.ofNat cap * 2 else Int32.ofNat (c + 1)) then Int32.ofNat 19998 * Int32.ofNat 6 else (if Int32.ofNat (c + 1) < Int32.ofNat cap * 2 then Int32.ofNat cap * 2 else Int32.ofNat (c + 1))) = Int32.ofNat R := by
      rw [e2, e3]
      by_cases g1 : c + 1 < cap * 2
      · rw [if_pos ((i_lt (by omega) (by omega)).mpr g1)]
        by_cases g2 : 119988 < cap * 2
        · rw [if_pos ((i_lt (by omega) (by omega)).mpr g2)]
          exact ⟨_, Or.inl rfl, by omega, rfl⟩
        · rw [if_neg (fun z => g2 ((i_lt (by omega) (by omega)).mp z))]
          exact ⟨_, Or.inr (by omega), by omega, rfl⟩
      · rw [if_neg (fun z => g1 ((i_lt (by omega) (by omega)).mp z))]
        rw [if_neg (fun z => by have := (i_lt (by omega) (by omega)).mp z; omega)]
        exact ⟨_, Or.inr (by omega), by omega, rfl⟩
    obtain ⟨R, r1, r2, r3⟩ := hR
    rw [r3]
    refine t_gR H 10 rfl rfl ?_
    refine t_len H 11 rfl ?_
    refine ok_if (fun g3 => ?_) (fun _ => stay)
    have g3 := (i_lt (by omega) (by omega)).mp g3
    refine t_gR H 10 rfl rfl ?_
    have key : dOk (m_Ars_copyOf_1 xm N q (Int32.ofNat R) mem) (rR fun p m => HpT ((p, cA R) :: cT nb q cap) F m ∧ St xm mem m 1 R) := by
      unfold m_Ars_copyOf_1
      refine t_len H 11 rfl ?_
      rw [if_neg (fun z => by have := (i_eq (by omega) (by omega)).mp z; omega)]
      refine t_nI xm H (by omega) fun m p H1 S1 => ?_
      refine t_len H1 12 rfl ?_
      refine ok_eI m_min ?_
      rw [if_neg (fun z => by have := (i_lt (by omega) (by omega)).mp z; omega)]
      refine t_cpy H1 12 0 rfl rfl ?_ fun m2 H2 S2 => ?_
      · unfold kOkR
        rw [i_nat (show cap < 2 ^ 31 by omega)]
        have e0 : (0 : Int32).toNatClampNeg = 0 := by decide
        rw [e0]
        simp [i_nn (show cap < 2 ^ 31 by omega)]
        omega
      · exact ok_R ⟨H2, (S1.trans S2).mono (by omega) (by omega)⟩
    refine ok_cR key fun p m hh => ?_
    obtain ⟨H1, S1⟩ := hh
    refine t_pT (t' := fR p) H1 11 rfl rfl rfl rfl fun m2 H2 S2 => ?_
    have H2 : HpT ((p, cA R) :: (cT nb q cap).set 10 (1010, tT 6 19998 p)) F m2 := H2
    have H3 := H2.move 11 (r := q) (t' := cA cap) rfl
    have H3 : HpT (cT nb p R) F m2 := H3
    refine ok_V ⟨p, R, 1, R, by omega, r2, H3, (S1.trans S2).mono (by omega) (by omega), by omega, ?_⟩
    have e1 : kPhi cap = 2 * cap := by
      unfold kPhi
      rw [if_neg (by omega)]
      exact Nat.add_zero _
    rw [e1]
    unfold kPhi
    by_cases g : R = 119988
    · rw [if_pos g]
      omega
    · rw [if_neg g]
      omega
/-- into the loops' table -/
theorem lp_set (h1 : 384 ≤ cap) (h2 : cap ≤ 119988) (H : HpT (cT nb q cap) F mem) : dOk (m_Table_set xm N 1010 x y z mem) (rV fun m => cP xm nb F 0 0 mem cap m) := by
  unfold m_Table_set
  refine t_rc H 10 rfl ?_
  obtain ⟨v, hv0, hv⟩ := tb_cellOf (xm := xm) (N := N) (x := x) (y := y) (f := 6) (mr := 19998) (j := 10) (a := 1010) (b := q) (by decide) (by decide) H rfl
  refine ok_eI hv ?_
  refine t_rc H 10 rfl ?_
  refine ok_cV (tb_growTo h1 h2 H hv0) fun m hh => ?_
  have hh' := hh
  obtain ⟨q', cap', c, s, k1, k2, H1, S1, k3, k4⟩ := hh
  refine ok_if (fun _ => ok_V hh') (fun g1 => ?_)
  refine t_gR H1 10 rfl rfl ?_
  refine t_len H1 11 rfl ?_
  refine ok_if (fun g2 => ?_) (fun _ => ok_V hh')
  refine t_gR H1 10 rfl rfl ?_
  refine t_iS H1 11 rfl (i_guard g1 g2 (by omega)) fun m2 H2 S2 => ?_
  exact ok_V ⟨q', cap', c, s, k1, k2, H2, S1.trans S2, k3, k4⟩
theorem lp_get (h2 : cap ≤ 119988) (H : HpT (cT nb q cap) F mem) : ∃ v, m_Table_get xm N 1010 x y mem = some (.inl (some (.int v)), mem) := tb_get (f := 6) (mr := 19998) (n := cap) (j := 10) (b := q) (by decide) (by decide) (by omega) H rfl rfl
end KZG
