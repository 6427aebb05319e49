/-! ===== what is asked, exactly: digest, told; the reference ===== -/
def zMix (w : Int64) (v : Int32) : Int64 := w * 31 + Int32.toInt64 v
def zIt (G : Nat → Int64 → Int64) : Nat → Nat → Int64 → Int64
  | 0, _, w => w
  | k + 1, d, w => zIt G k (d + 1) (G d w)
/-- a loop and what is told of it -/
def zMixL (lo : List kLf) (bo vl vr : List Int32) (rs : List (List Int32)) (v : Int32) (w : Int64) : Int64 := zIt (fun n w => zMix w (zFact (zLoop lo v) (zWhere vl vr rs bo v) n)) 6 0 (zMix w v)
def zMixN (lo : List kLf) (bo vl vr : List Int32) (rs : List (List Int32)) (vs : List Int32) (w : Int64) : Int64 := zIt (fun p w => zMixL lo bo vl vr rs (nAt vs p) w) vs.length 0 w
def zMixR (rs : List (List Int32)) (i : Nat) (w : Int64) : Int64 := zIt (fun k w => zMix w ((rs.getD i []).getD k 0)) 4 0 w
def zMixP (jo : Int32) (pa vl vr ya : List Int32) (i : Nat) (w : Int64) : Int64 := zMix (zMix (zIt (fun k w => zMix w (pInf (pa.getD i 0) k)) 5 0 w) (Int32.ofNat (zT jo pa vl vr ya i).1.2.1)) (zSpent jo pa vl vr ya i)
/-- the end of the checksum: patterns, the best one -/
def zDig4 (jo : Int32) (pa vl vr ya : List Int32) (w : Int64) : Int64 := zMix (zIt (zMixP jo pa vl vr ya) pa.length 0 w) (zBest jo pa vl vr ya)
def zDig3 (jo : Int32) (pa vl vr ya : List Int32) (rs : List (List Int32)) (w : Int64) : Int64 := zDig4 jo pa vl vr ya (zIt (zMixR rs) rs.length 0 w)
def zDig2 (jo : Int32) (lo : List kLf) (bo pa vl vr ya : List Int32) (rs : List (List Int32)) (x : Int32) (w : Int64) : Int64 := zDig3 jo pa vl vr ya rs (zMix (zMix (zMixN lo bo vl vr rs vr (zMixN lo bo vl vr rs vl w)) (Int32.ofNat (zWd lo x vl))) (Int32.ofNat (zWd lo x vr)))
def zDig (nb : Nat) (jo : Int32) (lo : List kLf) (bo pa : List Int32) (ps : List aS) (vl vr : List Int32) (rs : List (List Int32)) (ya : List Int32) (sc : Nat → Int32) : Int64 := zDig2 jo lo bo pa vl vr ya rs (sc 4) (zIt (fun i w => zMix w (ya.getD i 0)) nb 0 (zIt (fun i w => zMix w (zMny nb jo pa ps (vl, vr, rs, ya, sc) i)) 16 0 58309))
section GE
variable {xm : Nat → Option kE} {mem m0 : kM} {N M0 nb k C S ck c0 s0 : Nat} {F X : kSg} {g : Nat → Int32} {sum w0 : Int64} {jo t : Int32} {lo : List kLf} {bo pa : List Int32} {ps : List aS} {T : kO × kM → Prop} {L B P Q : kLi} {s y : Nat} {l r u : kLi} {cs : List kCs} {vl vr ya : List Int32} {rs : List (List Int32)} {sc : Nat → Int32} {st : aS} {c : kCs}
theorem d_pureE {Y : dRes} {x : Int32} (V : WC xm M0 L B P Q c cs g sum lo bo pa ps st F mem) (h : Y = some (.inl (some (.int x)), mem)) : dOk Y (rI fun v m => v = x ∧ WC xm M0 L B P Q c cs g sum lo bo pa ps st F m ∧ St xm mem m 0 0) := by
  subst h
  exact ok_I ⟨rfl, V, St.refl⟩
end GE
