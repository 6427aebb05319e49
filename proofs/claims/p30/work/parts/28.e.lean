/-! ===== numbers, loops: objects that never change; iterators; insertion ahead ===== -/
section KE2
variable {xm : Nat → Option kE} {mem : kM} {L F : List (Nat × kE)} {N a q cap x p : Nat} {mc : Int32} {es : List Nat}
theorem app_set {e e' : kE} : (mem ++ [e]).set (kNew mem - 1000) e' = mem ++ [e'] := by
  unfold kNew
  simp
theorem app_look {e : kE} : kLook xm (mem ++ [e]) (kNew mem) = some e := by
  unfold kLook kNew
  rw [if_neg (by omega)]
  simp
theorem Hp.app {e : kE} (H : Hp L mem) : Hp L (mem ++ [e]) := (H.new e).sub (List.sublist_cons_self _ _)
theorem dP_app {ci k : Nat} {fs : List Value} {w : Value} {K : kM → dRes} (hk : Nat.ble (k + 1) fs.length = true) : dP xm (mem ++ [.inl (ci, fs)]) (kNew mem) ci k w K = K (mem ++ [.inl (ci, fs.set k w)]) := by
  unfold dP
  simp only [app_look]
  rw [if_pos ⟨by trivial, by unfold kNew; omega, Nat.le_of_ble_eq_true hk⟩, app_set]
def kIv (xm : Nat → Option kE) (m : kM) (e : Nat) (z : Int32) : Prop := kLook xm m e = some (.inl (2, [.int z]))
theorem kIv.st {m m1 : kM} {c s e : Nat} {z : Int32} (h : kIv xm m e z) (S : St xm m m1 c s) : kIv xm m1 e z := S.2.2.2.1 _ _ _ (Or.inl rfl) h
/-- a loop's facts: kind, ball, row, height, side, worked -/
abbrev kLf : Type := Int32 × Int32 × Int32 × Int32 × Int32 × Int32
def kLc (f : kLf) : kE := .inl (13, [.int f.1, .int f.2.1, .int f.2.2.1, .int f.2.2.2.1, .int f.2.2.2.2.1, .int f.2.2.2.2.2])
def kLo (xm : Nat → Option kE) (m : kM) (e : Nat) (f : kLf) : Prop := kLook xm m e = some (kLc f)
theorem kLo.st {m m1 : kM} {c s e : Nat} {f : kLf} (h : kLo xm m e f) (S : St xm m m1 c s) : kLo xm m1 e f := S.2.2.2.1 _ _ _ (Or.inr rfl) h
/-! an iterator -/
def sIt (p c : Nat) (l mc : Int32) (a : Nat) : Nat × kE := (p, .inl (3, [.int (Int32.ofNat c), .int l, .int mc, .ref a]))
/-! insertion ahead of all -/
end KE2
