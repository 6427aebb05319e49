/-! ===== the reference's calls: follow ===== -/
section KT2
variable {xm : Nat → Option kE} {mem : kM} {N M0 nb k C S ck : Nat} {F : kSg} {g : Nat → Int32} {sum : Int64} {lo : List kLf} {bo pa : List Int32} {ps : List aS} {vl vr ya : List Int32} {rs : List (List Int32)} {sc : Nat → Int32} {T : kO × kM → Prop}
theorem i_modL {d L : Nat} (hd : d < 2 ^ 31) (hL : 1 ≤ L) (hL2 : L ≤ 9) : Int32.ofNat d - Int32.ofNat d / Int32.ofNat L * Int32.ofNat L = Int32.ofNat (d % L) := by
  have hle : d / L ≤ d := Nat.div_le_self _ _
  have e : Int32.ofNat d / Int32.ofNat L = Int32.ofNat (d / L) := by
    rw [← Int32.toInt_inj, Int32.toInt_div_of_ne_right _ _ ?_, i_toI hd, i_toI (show L < 2 ^ 31 by omega), i_toI (show d / L < 2 ^ 31 by omega)]
    · rfl
    · intro z
      have h1 : (Int32.ofNat L).toInt = (-1 : Int32).toInt := by rw [z]
      rw [i_toI (show L < 2 ^ 31 by omega)] at h1
      have : (-1 : Int32).toInt = -1 := by decide
      omega
  have h0 : d / L * L ≤ d := Nat.div_mul_le_self _ _
  rw [e, ← Int32.ofNat_mul, i_sub h0]
  congr 1
  have := Nat.div_add_mod d L
  have h3 : L * (d / L) = d / L * L := Nat.mul_comm _ _
  omega
/-- what a step wants: loops on the left needle, yarn -/
def aWant (s : Nat) : Nat := match s with
  | 3 => 0
  | 4 => 2
  | 5 => 2
  | 7 => 2
  | 8 => 3
  | 9 => 2
  | _ => 1
def aTake (s : Nat) : Nat := match s with
  | 1 => 4
  | 2 => 4
  | 3 => 3
  | 6 => 0
  | 7 => 0
  | 9 => 11
  | _ => 5
theorem sw_in {x : Int32} {lo hi : Int} {D t : dRes} {L : List dRes} (h : ¬ (x.toInt < lo ∨ hi < x.toInt)) (e : L[(x.toInt - lo).toNat]? = some t) (k : dOk t T) : dOk (dSw x lo hi D L) T := by
  unfold dSw
  rw [if_neg h, e]
  exact k
theorem sw_out {x : Int32} {lo hi : Int} {D : dRes} {L : List dRes} (h : x.toInt < lo ∨ hi < x.toInt) (k : dOk D T) : dOk (dSw x lo hi D L) T := by
  unfold dSw
  rw [if_pos h]
  exact k
/-- what is left behind a step -/
def aAft (xm : Nat → Option kE) (M0 nb : Nat) (g : Nat → Int32) (sum : Int64) (lo : List kLf) (bo pa : List Int32) (ps : List aS) (nr ck : Nat) (F : kSg) (m0 m : kM) : Prop :=
  ∃ lo' vl' vr' rs' ya' sc' ck', WR xm M0 g sum lo' bo pa ps (vl', vr', rs', ya', sc') ck' F m ∧ aInv nb g lo' bo pa ps (vl', vr', rs', ya', sc') ∧ lo.length ≤ lo'.length ∧ lo'.length + nr ≤ lo.length + vr'.length ∧ ck ≤ ck' ∧ St xm m0 m (10 + 5 * (lo'.length - lo.length)) (50 + 60 * (lo'.length - lo.length) + 4 * (ck' - ck))
end KT2
