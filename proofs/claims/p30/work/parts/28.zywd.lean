/-! ===== what is asked, exactly: ofPattern ===== -/
def spOfPattern (x y : Int32) : aC → aR
  | (nb, jo, lo, bo, pa, ps, (vl, vr, rs, ya, sc)) => if x < 0 ∨ ¬ x < Int32.ofNat pa.length then (1, 0, (nb, jo, lo, bo, pa, ps, (vl, vr, rs, ya, sc))) else if y < 0 ∨ ¬ y < 5 then (2, 0, (nb, jo, lo, bo, pa, ps, (vl, vr, rs, ya, sc))) else (0, pInf (pa.getD x.toNatClampNeg 0) y.toNatClampNeg, (nb, jo, lo, bo, pa, ps, (vl, vr, rs, ya, sc)))
theorem pSumF_add (h : Int32 → Int32) (j : Nat) : ∀ (f n : Nat) (s : Int32), n < 10 ^ f → pSumF h (f + j) n s = pSumF h f n s := by
  intro f
  induction f with
  | zero =>
    intro n s hn
    have e : n = 0 := by simpa using hn
    subst e
    cases j with
    | zero => rfl
    | succ j => rw [Nat.zero_add]; rfl
  | succ f ih =>
    intro n s hn
    have h1 := ih (n / 10) (s + h (Int32.ofNat (n % 10))) (by rw [Nat.pow_succ] at hn; omega)
    rw [show f + 1 + j = (f + j) + 1 by omega]
    show (if 0 < n then pSumF h (f + j) (n / 10) (s + h (Int32.ofNat (n % 10))) else s) = (if 0 < n then pSumF h f (n / 10) (s + h (Int32.ofNat (n % 10))) else s)
    rw [h1]
theorem pSumF_pos {h : Int32 → Int32} {f n : Nat} {s : Int32} (hn : 0 < n) : pSumF h (f + 1) n s = pSumF h f (n / 10) (s + h (Int32.ofNat (n % 10))) := if_pos hn
theorem aNz_div {n : Nat} (h : aNz n) : aNz (n / 10) := by
  intro i hi
  have := h (i + 1)
  rw [Nat.pow_succ, Nat.mul_comm, ← Nat.div_div_eq_div_mul] at this
  exact this hi
section FE
variable {xm : Nat → Option kE} {mem m0 : kM} {F : kSg} {N k nb c0 s0 c1 s1 cap0 M0 C S : Nat} {jo x y z t : Int32} {lo : List kLf} {bo pa vl vr ya : List Int32} {ps : List aS} {rs : List (List Int32)} {sc : Nat → Int32} {L B P Q : kLi} {s y0 : Nat} {l r u : kLi} {cs : List kCs} {g : Nat → Int32} {sum : Int64}
end FE
