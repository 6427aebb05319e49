/-! ===== methods as functions of the memory: the words (by hand); the functions themselves come by program (dec.py) ===== -/
abbrev dRes : Type := Option (kO × kM)
abbrev dEq (R : kO × kM) : kO → kM → Prop := fun o m1 => (o, m1) = R
section KD
variable (xm : Nat → Option kE)
def dG (mem : kM) (r ci k : Nat) (K : Value → dRes) : dRes := match kLook xm mem r with
  | some (.inl (c, fs)) => if c = ci then (match fs[k]? with
    | some w => K w
    | none => none) else none
  | _ => none
def dGI (mem : kM) (r ci k : Nat) (K : Int32 → dRes) : dRes := dG xm mem r ci k fun w => match w with
  | .int x => K x
  | _ => none
def dGJ (mem : kM) (r ci k : Nat) (K : Int64 → dRes) : dRes := dG xm mem r ci k fun w => match w with
  | .long x => K x
  | _ => none
def dGR (mem : kM) (r ci k : Nat) (K : Nat → dRes) : dRes := dG xm mem r ci k fun w => match w with
  | .ref x => K x
  | _ => none
def dP (mem : kM) (r ci k : Nat) (w : Value) (K : kM → dRes) : dRes := match kLook xm mem r with
  | some (.inl (c, fs)) => if c = ci ∧ 1000 ≤ r ∧ k < fs.length then K (mem.set (r - 1000) (.inl (ci, fs.set k w))) else none
  | _ => none
def dLen (mem : kM) (r : Nat) (K : Int32 → dRes) : dRes := match kLook xm mem r with
  | some (.inr (.inl (t, xs))) => if t < 2 then K (Int32.ofNat xs.length) else none
  | some (.inr (.inr (t, xs))) => if t = 2 ∨ t = 3 then K (Int32.ofNat xs.length) else none
  | _ => none
/-- an element of an array of ints (tag 0) or bytes (tag 1) -/
def dIL (t : Nat) (mem : kM) (r : Nat) (j : Int32) (K : Int32 → dRes) : dRes := match kLook xm mem r with
  | some (.inr (.inl (t1, xs))) => if t1 = t ∧ kInB j xs.length = true then K (xs.getD j.toNatClampNeg 0) else none
  | _ => none
def dIS (mem : kM) (r : Nat) (j x : Int32) (K : kM → dRes) : dRes := match kLook xm mem r with
  | some (.inr (.inl (t1, xs))) => if t1 = 0 ∧ kInB j xs.length = true ∧ 1000 ≤ r then K (mem.set (r - 1000) (.inr (.inl (0, xs.set j.toNatClampNeg x)))) else none
  | _ => none
def dBS (mem : kM) (r : Nat) (j x : Int32) (K : kM → dRes) : dRes := match kLook xm mem r with
  | some (.inr (.inl (t1, xs))) => if t1 = 1 ∧ kInB j xs.length = true ∧ 1000 ≤ r then K (mem.set (r - 1000) (.inr (.inl (1, xs.set j.toNatClampNeg x.toInt8.toInt32)))) else none
  | _ => none
def dAL (mem : kM) (r : Nat) (j : Int32) (K : Nat → dRes) : dRes := match kLook xm mem r with
  | some (.inr (.inr (t, xs))) => if (t = 2 ∨ t = 3 ∨ (t = 4 ∧ r < 1000)) ∧ kInB j xs.length = true then (match xs.getD j.toNatClampNeg none with
    | some q => K q
    | none => none) else none
  | _ => none
/-- an element, and behind it a test whether it is null -/
def dALn (mem : kM) (r : Nat) (j : Int32) (A B : dRes) : dRes := match kLook xm mem r with
  | some (.inr (.inr (t, xs))) => if (t = 2 ∨ t = 3 ∨ (t = 4 ∧ r < 1000)) ∧ kInB j xs.length = true then (match xs.getD j.toNatClampNeg none with
    | some _ => B
    | none => A) else none
  | _ => none
def dAS (mem : kM) (r : Nat) (j : Int32) (v : Option Nat) (K : kM → dRes) : dRes := match kLook xm mem r with
  | some (.inr (.inr (t, xs))) => if (t = 2 ∨ t = 3) ∧ kInB j xs.length = true ∧ 1000 ≤ r ∧ kStOk xm mem t v = true then K (mem.set (r - 1000) (.inr (.inr (t, xs.set j.toNatClampNeg v)))) else none
  | _ => none
def dN (mem : kM) (e : kE) (K : kM → Nat → dRes) : dRes := K (mem ++ [e]) (kNew mem)
def dNI (t : Nat) (mem : kM) (n : Int32) (K : kM → Nat → dRes) : dRes := if 0 ≤ n ∧ n.toNatClampNeg ≤ 16777216 then K (mem ++ [.inr (.inl (t, List.replicate n.toNatClampNeg 0))]) (kNew mem) else none
def dNA (t : Nat) (mem : kM) (n : Int32) (K : kM → Nat → dRes) : dRes := if 0 ≤ n ∧ n.toNatClampNeg ≤ 16777216 then K (mem ++ [.inr (.inr (t, List.replicate n.toNatClampNeg none))]) (kNew mem) else none
def dCC (mem : kM) (r a b : Nat) (K : dRes) : dRes := match kLook xm mem r with
  | some (.inl (ci, _)) => if a = 0 ∧ ci = b then K else none
  | some (.inr (.inl (t, _))) => if a = 1 ∧ t = b ∧ 1000 ≤ r then K else none
  | some (.inr (.inr (t, _))) => if a = 2 ∧ t = b ∧ 1000 ≤ r then K else none
  | none => none
def dAc (x y : Nat) (E N : dRes) : dRes := if x = y then E else if kNm (some x) (some y) = true then N else none
def dRt (rt : Option FieldType) (x : Int32) (mem : kM) : dRes := if kRetI rt x = true then some (.inl (some (.int x)), mem) else none
def dF32 (x : UInt32) (K : UInt32 → dRes) : dRes := if kFin32 x = true then K x else none
def dF64 (x : UInt64) (K : UInt64 → dRes) : dRes := if kFin64 x = true then K x else none
def dNz (y : Int32) (K : dRes) : dRes := if y = 0 then none else K
def dSw (x : Int32) (lo hi : Int) (D : dRes) (L : List dRes) : dRes := if x.toInt < lo ∨ hi < x.toInt then D else match L[(x.toInt - lo).toNat]? with
  | some r => r
  | none => none
/-- the receiver's class -/
def dRc (mem : kM) (r ci : Nat) (K : dRes) : dRes := match kLook xm mem r with
  | some (.inl (c, _)) => if c = ci then K else none
  | _ => none
def dCI (X : dRes) (K : Int32 → kM → dRes) : dRes := match X with
  | some (.inl (some (.int x)), m) => K x m
  | _ => none
def dCJ (X : dRes) (K : Int64 → kM → dRes) : dRes := match X with
  | some (.inl (some (.long x)), m) => K x m
  | _ => none
def dCF (X : dRes) (K : UInt32 → kM → dRes) : dRes := match X with
  | some (.inl (some (.float x)), m) => K x m
  | _ => none
def dCD (X : dRes) (K : UInt64 → kM → dRes) : dRes := match X with
  | some (.inl (some (.double x)), m) => K x m
  | _ => none
def dCR (X : dRes) (K : Nat → kM → dRes) : dRes := match X with
  | some (.inl (some (.ref x)), m) => K x m
  | _ => none
def dCV (X : dRes) (K : kM → dRes) : dRes := match X with
  | some (.inl none, m) => K m
  | _ => none
/-- a call whose exceptions are caught -/
def dCX (X : dRes) (K : Int32 → kM → dRes) (H : Nat → kM → dRes) : dRes := match X with
  | some (.inl (some (.int x)), m) => K x m
  | some (.inr E, m) => H E m
  | _ => none
def dCpy (mem : kM) (s : Nat) (sp : Int32) (d : Nat) (dp n : Int32) (K : kM → dRes) : dRes := match kSpec xm 9001 0 [] [.int n, .int dp, .ref d, .int sp, .ref s] mem with
  | some (.inl (_, _, _, m)) => K m
  | _ => none
/-- a copy of an array of ints (9002) or bytes (9004), or the class of an array (9003) -/
def dSp (k : Nat) (mem : kM) (a : Nat) (K : kM → Nat → dRes) : dRes := match kSpec xm k 0 [] [.ref a] mem with
  | some (.inl (_, _, [.ref q], m)) => K m q
  | _ => none
end KD
section KQ
variable {xm : Nat → Option kE} {sm : Nat → Option Value} {dfl : Nat → Option (List Value)} {fty : Nat → Nat → FieldType} {G : kT} {d mi pc : Nat} {lv : kL} {st : List Value} {mem : kM} {R : kO × kM}
variable {a b i r k : Nat} {o : Int}
theorem wq_lt (hG : G.1 mi pc = some (.ifCond .lt o, a, b)) {x : Int32} {A B : dRes} (h : (if x < 0 then A else B) = some R) (h1 : A = some R → kGo xm sm dfl fty G d mi a lv st mem (dEq R)) (h2 : B = some R → kGo xm sm dfl fty G d mi (pc + 3) lv st mem (dEq R)) : kGo xm sm dfl fty G d mi pc lv (.int x :: st) mem (dEq R) := by
  split at h
  · rename_i g; exact wp_step hG (by simp [kStep, kTopI, kNx, kIf, g]) (h1 h)
  · rename_i g; exact wp_step hG (by simp [kStep, kTopI, kNx, kIf, g]) (h2 h)
theorem wq_ge (hG : G.1 mi pc = some (.ifCond .ge o, a, b)) {x : Int32} {A B : dRes} (h : (if x < 0 then A else B) = some R) (h1 : A = some R → kGo xm sm dfl fty G d mi (pc + 3) lv st mem (dEq R)) (h2 : B = some R → kGo xm sm dfl fty G d mi a lv st mem (dEq R)) : kGo xm sm dfl fty G d mi pc lv (.int x :: st) mem (dEq R) := by
  split at h
  · rename_i g; exact wp_step hG (by simp [kStep, kTopI, kNx, kIf, g]) (h1 h)
  · rename_i g; exact wp_step hG (by simp [kStep, kTopI, kNx, kIf, g]) (h2 h)
theorem wq_gt (hG : G.1 mi pc = some (.ifCond .gt o, a, b)) {x : Int32} {A B : dRes} (h : (if 0 < x then A else B) = some R) (h1 : A = some R → kGo xm sm dfl fty G d mi a lv st mem (dEq R)) (h2 : B = some R → kGo xm sm dfl fty G d mi (pc + 3) lv st mem (dEq R)) : kGo xm sm dfl fty G d mi pc lv (.int x :: st) mem (dEq R) := by
  split at h
  · rename_i g; exact wp_step hG (by simp [kStep, kTopI, kNx, kIf, g]) (h1 h)
  · rename_i g; exact wp_step hG (by simp [kStep, kTopI, kNx, kIf, g]) (h2 h)
theorem wq_le (hG : G.1 mi pc = some (.ifCond .le o, a, b)) {x : Int32} {A B : dRes} (h : (if 0 < x then A else B) = some R) (h1 : A = some R → kGo xm sm dfl fty G d mi (pc + 3) lv st mem (dEq R)) (h2 : B = some R → kGo xm sm dfl fty G d mi a lv st mem (dEq R)) : kGo xm sm dfl fty G d mi pc lv (.int x :: st) mem (dEq R) := by
  split at h
  · rename_i g; exact wp_step hG (by simp [kStep, kTopI, kNx, kIf, g]) (h1 h)
  · rename_i g; exact wp_step hG (by simp [kStep, kTopI, kNx, kIf, g]) (h2 h)
theorem wq_eq (hG : G.1 mi pc = some (.ifCond .eq o, a, b)) {x : Int32} {A B : dRes} (h : (if x = 0 then A else B) = some R) (h1 : A = some R → kGo xm sm dfl fty G d mi a lv st mem (dEq R)) (h2 : B = some R → kGo xm sm dfl fty G d mi (pc + 3) lv st mem (dEq R)) : kGo xm sm dfl fty G d mi pc lv (.int x :: st) mem (dEq R) := by
  split at h
  · rename_i g; exact wp_step hG (by simp [kStep, kTopI, kNx, kIf, g]) (h1 h)
  · rename_i g; exact wp_step hG (by simp [kStep, kTopI, kNx, kIf, g]) (h2 h)
theorem wq_ne (hG : G.1 mi pc = some (.ifCond .ne o, a, b)) {x : Int32} {A B : dRes} (h : (if x = 0 then A else B) = some R) (h1 : A = some R → kGo xm sm dfl fty G d mi (pc + 3) lv st mem (dEq R)) (h2 : B = some R → kGo xm sm dfl fty G d mi a lv st mem (dEq R)) : kGo xm sm dfl fty G d mi pc lv (.int x :: st) mem (dEq R) := by
  split at h
  · rename_i g; exact wp_step hG (by simp [kStep, kTopI, kNx, kIf, g]) (h1 h)
  · rename_i g; exact wp_step hG (by simp [kStep, kTopI, kNx, kIf, g]) (h2 h)
theorem wq_lt2 (hG : G.1 mi pc = some (.if_icmp .lt o, a, b)) {x y : Int32} {A B : dRes} (h : (if x < y then A else B) = some R) (h1 : A = some R → kGo xm sm dfl fty G d mi a lv st mem (dEq R)) (h2 : B = some R → kGo xm sm dfl fty G d mi (pc + 3) lv st mem (dEq R)) : kGo xm sm dfl fty G d mi pc lv (.int y :: .int x :: st) mem (dEq R) := by
  split at h
  · rename_i g; exact wp_step hG (by simp [kStep, kTopI, kNx, kIf, g]) (h1 h)
  · rename_i g; exact wp_step hG (by simp [kStep, kTopI, kNx, kIf, g]) (h2 h)
theorem wq_ge2 (hG : G.1 mi pc = some (.if_icmp .ge o, a, b)) {x y : Int32} {A B : dRes} (h : (if x < y then A else B) = some R) (h1 : A = some R → kGo xm sm dfl fty G d mi (pc + 3) lv st mem (dEq R)) (h2 : B = some R → kGo xm sm dfl fty G d mi a lv st mem (dEq R)) : kGo xm sm dfl fty G d mi pc lv (.int y :: .int x :: st) mem (dEq R) := by
  split at h
  · rename_i g; exact wp_step hG (by simp [kStep, kTopI, kNx, kIf, g]) (h1 h)
  · rename_i g; exact wp_step hG (by simp [kStep, kTopI, kNx, kIf, g]) (h2 h)
theorem wq_gt2 (hG : G.1 mi pc = some (.if_icmp .gt o, a, b)) {x y : Int32} {A B : dRes} (h : (if y < x then A else B) = some R) (h1 : A = some R → kGo xm sm dfl fty G d mi a lv st mem (dEq R)) (h2 : B = some R → kGo xm sm dfl fty G d mi (pc + 3) lv st mem (dEq R)) : kGo xm sm dfl fty G d mi pc lv (.int y :: .int x :: st) mem (dEq R) := by
  split at h
  · rename_i g; exact wp_step hG (by simp [kStep, kTopI, kNx, kIf, g]) (h1 h)
  · rename_i g; exact wp_step hG (by simp [kStep, kTopI, kNx, kIf, g]) (h2 h)
theorem wq_le2 (hG : G.1 mi pc = some (.if_icmp .le o, a, b)) {x y : Int32} {A B : dRes} (h : (if y < x then A else B) = some R) (h1 : A = some R → kGo xm sm dfl fty G d mi (pc + 3) lv st mem (dEq R)) (h2 : B = some R → kGo xm sm dfl fty G d mi a lv st mem (dEq R)) : kGo xm sm dfl fty G d mi pc lv (.int y :: .int x :: st) mem (dEq R) := by
  split at h
  · rename_i g; exact wp_step hG (by simp [kStep, kTopI, kNx, kIf, g]) (h1 h)
  · rename_i g; exact wp_step hG (by simp [kStep, kTopI, kNx, kIf, g]) (h2 h)
theorem wq_eq2 (hG : G.1 mi pc = some (.if_icmp .eq o, a, b)) {x y : Int32} {A B : dRes} (h : (if x = y then A else B) = some R) (h1 : A = some R → kGo xm sm dfl fty G d mi a lv st mem (dEq R)) (h2 : B = some R → kGo xm sm dfl fty G d mi (pc + 3) lv st mem (dEq R)) : kGo xm sm dfl fty G d mi pc lv (.int y :: .int x :: st) mem (dEq R) := by
  split at h
  · rename_i g; exact wp_step hG (by simp [kStep, kTopI, kNx, kIf, g]) (h1 h)
  · rename_i g; exact wp_step hG (by simp [kStep, kTopI, kNx, kIf, g]) (h2 h)
theorem wq_ne2 (hG : G.1 mi pc = some (.if_icmp .ne o, a, b)) {x y : Int32} {A B : dRes} (h : (if x = y then A else B) = some R) (h1 : A = some R → kGo xm sm dfl fty G d mi (pc + 3) lv st mem (dEq R)) (h2 : B = some R → kGo xm sm dfl fty G d mi a lv st mem (dEq R)) : kGo xm sm dfl fty G d mi pc lv (.int y :: .int x :: st) mem (dEq R) := by
  split at h
  · rename_i g; exact wp_step hG (by simp [kStep, kTopI, kNx, kIf, g]) (h1 h)
  · rename_i g; exact wp_step hG (by simp [kStep, kTopI, kNx, kIf, g]) (h2 h)
theorem dG_some {ci : Nat} {K : Value → dRes} (h : dG xm mem r ci k K = some R) : ∃ fs w, kLook xm mem r = some (.inl (ci, fs)) ∧ fs[k]? = some w ∧ K w = some R := by
  unfold dG at h
  split at h
  · rename_i c fs e
    split at h
    · rename_i g
      subst g
      split at h
      · rename_i w e2; exact ⟨fs, w, e, e2, h⟩
      · cases h
    · cases h
  · cases h
theorem wq_gI {K : Int32 → dRes} (hG : G.1 mi pc = some (.getfield i, a, b)) (h : dGI xm mem r a b K = some R) (k : ∀ x, K x = some R → kGo xm sm dfl fty G d mi (pc + 3) lv (.int x :: st) mem (dEq R)) : kGo xm sm dfl fty G d mi pc lv (.ref r :: st) mem (dEq R) := by
  obtain ⟨fs, w, h1, h2, h3⟩ := dG_some h
  cases w with
  | int x => exact wp_gf hG h1 h2 (k x h3)
  | _ => cases h3
theorem wq_gJ {K : Int64 → dRes} (hG : G.1 mi pc = some (.getfield i, a, b)) (h : dGJ xm mem r a b K = some R) (k : ∀ x, K x = some R → kGo xm sm dfl fty G d mi (pc + 3) lv (.long x :: st) mem (dEq R)) : kGo xm sm dfl fty G d mi pc lv (.ref r :: st) mem (dEq R) := by
  obtain ⟨fs, w, h1, h2, h3⟩ := dG_some h
  cases w with
  | long x => exact wp_gf hG h1 h2 (k x h3)
  | _ => cases h3
theorem wq_gR {K : Nat → dRes} (hG : G.1 mi pc = some (.getfield i, a, b)) (h : dGR xm mem r a b K = some R) (k : ∀ x, K x = some R → kGo xm sm dfl fty G d mi (pc + 3) lv (.ref x :: st) mem (dEq R)) : kGo xm sm dfl fty G d mi pc lv (.ref r :: st) mem (dEq R) := by
  obtain ⟨fs, w, h1, h2, h3⟩ := dG_some h
  cases w with
  | ref x => exact wp_gf hG h1 h2 (k x h3)
  | _ => cases h3
theorem wq_p {w : Value} {K : kM → dRes} (hG : G.1 mi pc = some (.putfield i, a, b)) (hf : kFits (fty a b) w = true) (h : dP xm mem r a b w K = some R) (k : ∀ m, K m = some R → kGo xm sm dfl fty G d mi (pc + 3) lv st m (dEq R)) : kGo xm sm dfl fty G d mi pc lv (w :: .ref r :: st) mem (dEq R) := by
  unfold dP at h
  split at h
  · rename_i c fs e
    split at h
    · rename_i g
      obtain ⟨rfl, g1, g2⟩ := g
      exact wp_pf hG e g1 g2 hf (k _ h)
    · cases h
  · cases h
theorem wq_pB {w : Value} {K : kM → dRes} (hG : G.1 mi pc = some (.putfield i, a, b)) (h : (if kFits (fty a b) w = true then dP xm mem r a b w K else none) = some R) (k : ∀ m, K m = some R → kGo xm sm dfl fty G d mi (pc + 3) lv st m (dEq R)) : kGo xm sm dfl fty G d mi pc lv (w :: .ref r :: st) mem (dEq R) := by
  split at h
  · rename_i g; exact wq_p hG g h k
  · cases h
theorem wq_len {K : Int32 → dRes} (hG : G.1 mi pc = some (.arraylength, a, b)) (h : dLen xm mem r K = some R) (k : ∀ x, K x = some R → kGo xm sm dfl fty G d mi (pc + 1) lv (.int x :: st) mem (dEq R)) : kGo xm sm dfl fty G d mi pc lv (.ref r :: st) mem (dEq R) := by
  unfold dLen at h
  split at h
  · rename_i t xs e
    split at h
    · rename_i g; exact wp_len hG e g (k _ h)
    · cases h
  · rename_i t xs e
    split at h
    · rename_i g; exact wp_lenQ hG e g (k _ h)
    · cases h
  · cases h
theorem wq_iL {K : Int32 → dRes} {j : Int32} (hG : G.1 mi pc = some (.iaload, a, b)) (h : dIL xm 0 mem r j K = some R) (k : ∀ x, K x = some R → kGo xm sm dfl fty G d mi (pc + 1) lv (.int x :: st) mem (dEq R)) : kGo xm sm dfl fty G d mi pc lv (.int j :: .ref r :: st) mem (dEq R) := by
  unfold dIL at h
  split at h
  · rename_i t xs e
    split at h
    · rename_i g
      obtain ⟨rfl, g⟩ := g
      exact wp_ial hG e g (k _ h)
    · cases h
  · cases h
theorem wq_bL {K : Int32 → dRes} {j : Int32} (hG : G.1 mi pc = some (.baload, a, b)) (h : dIL xm 1 mem r j K = some R) (k : ∀ x, K x = some R → kGo xm sm dfl fty G d mi (pc + 1) lv (.int x :: st) mem (dEq R)) : kGo xm sm dfl fty G d mi pc lv (.int j :: .ref r :: st) mem (dEq R) := by
  unfold dIL at h
  split at h
  · rename_i t xs e
    split at h
    · rename_i g
      obtain ⟨rfl, g⟩ := g
      refine wp_step hG ?_ (k _ h)
      show kStep xm sm dfl fty _ _ .baload a b pc lv (.int j :: .ref r :: st) mem = _
      simp [kStep, kTopA, kTopI, e, g, kNx]
    · cases h
  · cases h
theorem wq_iS {K : kM → dRes} {j x : Int32} (hG : G.1 mi pc = some (.iastore, a, b)) (h : dIS xm mem r j x K = some R) (k : ∀ m, K m = some R → kGo xm sm dfl fty G d mi (pc + 1) lv st m (dEq R)) : kGo xm sm dfl fty G d mi pc lv (.int x :: .int j :: .ref r :: st) mem (dEq R) := by
  unfold dIS at h
  split at h
  · rename_i t xs e
    split at h
    · rename_i g
      obtain ⟨rfl, g1, g2⟩ := g
      exact wp_ias hG e g2 g1 (k _ h)
    · cases h
  · cases h
theorem wq_bS {K : kM → dRes} {j x : Int32} (hG : G.1 mi pc = some (.bastore, a, b)) (h : dBS xm mem r j x K = some R) (k : ∀ m, K m = some R → kGo xm sm dfl fty G d mi (pc + 1) lv st m (dEq R)) : kGo xm sm dfl fty G d mi pc lv (.int x :: .int j :: .ref r :: st) mem (dEq R) := by
  unfold dBS at h
  split at h
  · rename_i t xs e
    split at h
    · rename_i g
      obtain ⟨rfl, g1, g2⟩ := g
      refine wp_step hG ?_ (k _ h)
      show kStep xm sm dfl fty _ _ .bastore a b pc lv (.int x :: .int j :: .ref r :: st) mem = _
      simp [kStep, kTopA, kTopI, e, g1, g2, kNx]
    · cases h
  · cases h
theorem wq_aL {K : Nat → dRes} {j : Int32} (hG : G.1 mi pc = some (.aaload, a, b)) (h : dAL xm mem r j K = some R) (k : ∀ q, K q = some R → kGo xm sm dfl fty G d mi (pc + 1) lv (.ref q :: st) mem (dEq R)) : kGo xm sm dfl fty G d mi pc lv (.int j :: .ref r :: st) mem (dEq R) := by
  unfold dAL at h
  split at h
  · rename_i t xs e
    split at h
    · rename_i g
      split at h
      · rename_i q e2
        exact wp_aal hG e g.1 g.2 (by rw [e2]; exact k q h)
      · cases h
    · cases h
  · cases h
theorem wq_aLn {A B : dRes} {j : Int32} {a' b' : Nat} {o' : Int} (hG : G.1 mi pc = some (.aaload, a, b)) (hG2 : G.1 mi (pc + 1) = some (.ifnonnull o', a', b')) (h : dALn xm mem r j A B = some R) (k1 : A = some R → kGo xm sm dfl fty G d mi (pc + 1 + 3) lv st mem (dEq R)) (k2 : B = some R → kGo xm sm dfl fty G d mi a' lv st mem (dEq R)) : kGo xm sm dfl fty G d mi pc lv (.int j :: .ref r :: st) mem (dEq R) := by
  unfold dALn at h
  split at h
  · rename_i t xs e
    split at h
    · rename_i g
      split at h
      · rename_i q e2
        exact wp_aal hG e g.1 g.2 (by rw [e2]; exact wp_step hG2 rfl (k2 h))
      · rename_i e2
        exact wp_aal hG e g.1 g.2 (by rw [e2]; exact wp_step hG2 rfl (k1 h))
    · cases h
  · cases h
theorem wq_aS {K : kM → dRes} {j : Int32} {q : Nat} (hG : G.1 mi pc = some (.aastore, a, b)) (h : dAS xm mem r j (some q) K = some R) (k : ∀ m, K m = some R → kGo xm sm dfl fty G d mi (pc + 1) lv st m (dEq R)) : kGo xm sm dfl fty G d mi pc lv (.ref q :: .int j :: .ref r :: st) mem (dEq R) := by
  unfold dAS at h
  split at h
  · rename_i t xs e
    split at h
    · rename_i g
      exact wp_aas (v := some q) hG e g.2.2.1 g.1 g.2.1 g.2.2.2 (k _ h)
    · cases h
  · cases h
theorem wq_aSn {K : kM → dRes} {j : Int32} (hG : G.1 mi pc = some (.aastore, a, b)) (h : dAS xm mem r j none K = some R) (k : ∀ m, K m = some R → kGo xm sm dfl fty G d mi (pc + 1) lv st m (dEq R)) : kGo xm sm dfl fty G d mi pc lv (.null :: .int j :: .ref r :: st) mem (dEq R) := by
  unfold dAS at h
  split at h
  · rename_i t xs e
    split at h
    · rename_i g
      exact wp_aas (v := none) hG e g.2.2.1 g.1 g.2.1 g.2.2.2 (k _ h)
    · cases h
  · cases h
theorem wq_n {fs : List Value} {K : kM → Nat → dRes} (hG : G.1 mi pc = some (.new i, a, b)) (ha : a < 5000) (hd : dfl a = some fs) (h : dN mem (.inl (a, fs)) K = some R) (k : ∀ m p, K m p = some R → kGo xm sm dfl fty G d mi (pc + 3) lv (.ref p :: st) m (dEq R)) : kGo xm sm dfl fty G d mi pc lv st mem (dEq R) := by
  refine wp_step hG ?_ (k _ _ h)
  show kStep xm sm dfl fty _ _ (.new i) a b pc lv st mem = _
  have : ¬ 5000 ≤ a := by omega
  simp [kStep, this, hd, kNx]
theorem wq_nI {n : Int32} {ty : ArrayType} {t : Nat} {K : kM → Nat → dRes} (hG : G.1 mi pc = some (.newarray ty, a, b)) (ht : kTag ty = some t) (h : dNI t mem n K = some R) (k : ∀ m p, K m p = some R → kGo xm sm dfl fty G d mi (pc + 2) lv (.ref p :: st) m (dEq R)) : kGo xm sm dfl fty G d mi pc lv (.int n :: st) mem (dEq R) := by
  unfold dNI at h
  split at h
  · rename_i g
    refine wp_step hG ?_ (k _ _ h)
    show kStep xm sm dfl fty _ _ (.newarray ty) a b pc lv (.int n :: st) mem = _
    have h0 : ¬ n < 0 := Int32.not_lt.mpr g.1
    simp [kStep, kTopI, ht, h0, g.2, kNx]
  · cases h
theorem wq_nA {n : Int32} {K : kM → Nat → dRes} (hG : G.1 mi pc = some (.anewarray i, a, b)) (h : dNA a mem n K = some R) (k : ∀ m p, K m p = some R → kGo xm sm dfl fty G d mi (pc + 3) lv (.ref p :: st) m (dEq R)) : kGo xm sm dfl fty G d mi pc lv (.int n :: st) mem (dEq R) := by
  unfold dNA at h
  split at h
  · rename_i g; exact wp_ana hG g.1 g.2 (k _ _ h)
  · cases h
theorem wq_cc {K : dRes} (hG : G.1 mi pc = some (.checkcast i, a, b)) (h : dCC xm mem r a b K = some R) (k : K = some R → kGo xm sm dfl fty G d mi (pc + 3) lv (.ref r :: st) mem (dEq R)) : kGo xm sm dfl fty G d mi pc lv (.ref r :: st) mem (dEq R) := by
  unfold dCC at h
  split at h
  · rename_i ci fs e
    split at h
    · rename_i g
      refine wp_step hG ?_ (k h)
      show kStep xm sm dfl fty _ _ (.checkcast i) a b pc lv (.ref r :: st) mem = _
      simp [kStep, e, g, kNx]
    · cases h
  · rename_i t fs e
    split at h
    · rename_i g
      refine wp_step hG ?_ (k h)
      show kStep xm sm dfl fty _ _ (.checkcast i) a b pc lv (.ref r :: st) mem = _
      simp [kStep, e, g, kNx]
    · cases h
  · rename_i t fs e
    split at h
    · rename_i g
      refine wp_step hG ?_ (k h)
      show kStep xm sm dfl fty _ _ (.checkcast i) a b pc lv (.ref r :: st) mem = _
      simp [kStep, e, g, kNx]
    · cases h
  · cases h
theorem wq_ac {x y : Nat} {E N : dRes} (hG : G.1 mi pc = some (.if_acmp .eq o, a, b)) (h : dAc x y E N = some R) (h1 : E = some R → kGo xm sm dfl fty G d mi a lv st mem (dEq R)) (h2 : N = some R → kGo xm sm dfl fty G d mi (pc + 3) lv st mem (dEq R)) : kGo xm sm dfl fty G d mi pc lv (.ref y :: .ref x :: st) mem (dEq R) := by
  unfold dAc at h
  split at h
  · rename_i g
    exact wp_step hG (by simp [kStep, kTopQ, kNx, g]) (h1 h)
  · rename_i g
    split at h
    · rename_i g2
      exact wp_step hG (by simp [kStep, kTopQ, kNx, g, g2]) (h2 h)
    · cases h
theorem wq_an {x y : Nat} {E N : dRes} (hG : G.1 mi pc = some (.if_acmp .ne o, a, b)) (h : dAc x y E N = some R) (h1 : E = some R → kGo xm sm dfl fty G d mi (pc + 3) lv st mem (dEq R)) (h2 : N = some R → kGo xm sm dfl fty G d mi a lv st mem (dEq R)) : kGo xm sm dfl fty G d mi pc lv (.ref y :: .ref x :: st) mem (dEq R) := by
  unfold dAc at h
  split at h
  · rename_i g
    exact wp_step hG (by simp [kStep, kTopQ, kNx, g]) (h1 h)
  · rename_i g
    split at h
    · rename_i g2
      exact wp_step hG (by simp [kStep, kTopQ, kNx, g, g2]) (h2 h)
    · cases h
theorem wq_ret {x : Int32} (hG : G.1 mi pc = some (.ireturn, a, b)) (hr : kRetI (G.2.2.1 mi) x = true) (h : (some (.inl (some (.int x)), mem) : dRes) = some R) : kGo xm sm dfl fty G d mi pc lv [.int x] mem (dEq R) := by
  refine wp_end (o := .inl (some (.int x))) (m1 := mem) hG ?_ (Option.some.inj h)
  show kStep xm sm dfl fty _ _ .ireturn a b pc lv [.int x] mem = _
  simp [kStep, hr]
theorem wq_retB {x : Int32} {rt : Option FieldType} (hG : G.1 mi pc = some (.ireturn, a, b)) (ht : G.2.2.1 mi = rt) (h : dRt rt x mem = some R) : kGo xm sm dfl fty G d mi pc lv [.int x] mem (dEq R) := by
  unfold dRt at h
  split at h
  · rename_i g; exact wq_ret hG (by rw [ht]; exact g) h
  · cases h
/-- the other returns, and the end by an exception: by what kStep says -/
theorem wq_end {x : kI} {o1 : kO} {m1 : kM} (hG : G.1 mi pc = some x) (hs : kStep xm sm dfl fty (G.2.1 mi) (G.2.2.1 mi) x.1 x.2.1 x.2.2 pc lv st mem = some (.inr (.inl (o1, m1)))) (h : (some (o1, m1) : dRes) = some R) : kGo xm sm dfl fty G d mi pc lv st mem (dEq R) := wp_end hG hs (Option.some.inj h)
theorem wq_fmul {x y : UInt32} {K : UInt32 → dRes} (hG : G.1 mi pc = some (.fmul, a, b)) (h : dF32 (FP.fmul x y) K = some R) (k : ∀ z, K z = some R → kGo xm sm dfl fty G d mi (pc + 1) lv (.float z :: st) mem (dEq R)) : kGo xm sm dfl fty G d mi pc lv (.float y :: .float x :: st) mem (dEq R) := by
  unfold dF32 at h
  split at h
  · rename_i g
    refine wp_step hG ?_ (k _ h)
    show kStep xm sm dfl fty _ _ .fmul a b pc lv (.float y :: .float x :: st) mem = _
    simp [kStep, kTopF, kNx, g]
  · cases h
theorem wq_fsub {x y : UInt32} {K : UInt32 → dRes} (hG : G.1 mi pc = some (.fsub, a, b)) (h : dF32 (FP.fsub x y) K = some R) (k : ∀ z, K z = some R → kGo xm sm dfl fty G d mi (pc + 1) lv (.float z :: st) mem (dEq R)) : kGo xm sm dfl fty G d mi pc lv (.float y :: .float x :: st) mem (dEq R) := by
  unfold dF32 at h
  split at h
  · rename_i g
    refine wp_step hG ?_ (k _ h)
    show kStep xm sm dfl fty _ _ .fsub a b pc lv (.float y :: .float x :: st) mem = _
    simp [kStep, kTopF, kNx, g]
  · cases h
theorem wq_f2d {x : UInt32} {K : UInt64 → dRes} (hG : G.1 mi pc = some (.f2d, a, b)) (h : dF64 (FP.f2d x) K = some R) (k : ∀ z, K z = some R → kGo xm sm dfl fty G d mi (pc + 1) lv (.double z :: st) mem (dEq R)) : kGo xm sm dfl fty G d mi pc lv (.float x :: st) mem (dEq R) := by
  unfold dF64 at h
  split at h
  · rename_i g
    refine wp_step hG ?_ (k _ h)
    show kStep xm sm dfl fty _ _ .f2d a b pc lv (.float x :: st) mem = _
    simp [kStep, kTopF, kNx, g]
  · cases h
theorem wq_ddiv {x y : UInt64} {K : UInt64 → dRes} (hG : G.1 mi pc = some (.ddiv, a, b)) (h : dF64 (FP.ddiv x y) K = some R) (k : ∀ z, K z = some R → kGo xm sm dfl fty G d mi (pc + 1) lv (.double z :: st) mem (dEq R)) : kGo xm sm dfl fty G d mi pc lv (.double y :: .double x :: st) mem (dEq R) := by
  unfold dF64 at h
  split at h
  · rename_i g
    refine wp_step hG ?_ (k _ h)
    show kStep xm sm dfl fty _ _ .ddiv a b pc lv (.double y :: .double x :: st) mem = _
    simp [kStep, kTopD, kNx, g]
  · cases h
theorem wq_dmul {x y : UInt64} {K : UInt64 → dRes} (hG : G.1 mi pc = some (.dmul, a, b)) (h : dF64 (FP.dmul x y) K = some R) (k : ∀ z, K z = some R → kGo xm sm dfl fty G d mi (pc + 1) lv (.double z :: st) mem (dEq R)) : kGo xm sm dfl fty G d mi pc lv (.double y :: .double x :: st) mem (dEq R) := by
  unfold dF64 at h
  split at h
  · rename_i g
    refine wp_step hG ?_ (k _ h)
    show kStep xm sm dfl fty _ _ .dmul a b pc lv (.double y :: .double x :: st) mem = _
    simp [kStep, kTopD, kNx, g]
  · cases h
theorem wq_dsub {x y : UInt64} {K : UInt64 → dRes} (hG : G.1 mi pc = some (.dsub, a, b)) (h : dF64 (FP.dsub x y) K = some R) (k : ∀ z, K z = some R → kGo xm sm dfl fty G d mi (pc + 1) lv (.double z :: st) mem (dEq R)) : kGo xm sm dfl fty G d mi pc lv (.double y :: .double x :: st) mem (dEq R) := by
  unfold dF64 at h
  split at h
  · rename_i g
    refine wp_step hG ?_ (k _ h)
    show kStep xm sm dfl fty _ _ .dsub a b pc lv (.double y :: .double x :: st) mem = _
    simp [kStep, kTopD, kNx, g]
  · cases h
theorem wq_idiv {x y : Int32} {K : dRes} (hG : G.1 mi pc = some (.idiv, a, b)) (h : dNz y K = some R) (k : K = some R → kGo xm sm dfl fty G d mi (pc + 1) lv (.int (x / y) :: st) mem (dEq R)) : kGo xm sm dfl fty G d mi pc lv (.int y :: .int x :: st) mem (dEq R) := by
  unfold dNz at h
  split at h
  · cases h
  · rename_i g
    refine wp_step hG ?_ (k h)
    show kStep xm sm dfl fty _ _ .idiv a b pc lv (.int y :: .int x :: st) mem = _
    simp [kStep, kBinI, kTopI, kNx, g]
theorem wq_irem {x y : Int32} {K : dRes} (hG : G.1 mi pc = some (.irem, a, b)) (h : dNz y K = some R) (k : K = some R → kGo xm sm dfl fty G d mi (pc + 1) lv (.int (x - x / y * y) :: st) mem (dEq R)) : kGo xm sm dfl fty G d mi pc lv (.int y :: .int x :: st) mem (dEq R) := by
  unfold dNz at h
  split at h
  · cases h
  · rename_i g
    refine wp_step hG ?_ (k h)
    show kStep xm sm dfl fty _ _ .irem a b pc lv (.int y :: .int x :: st) mem = _
    simp [kStep, kBinI, kTopI, kNx, g]
def kSwA (f : Int → dRes → Prop) : List Int → List dRes → Prop
  | [], [] => True
  | o :: os, t :: ts => f o t ∧ kSwA f os ts
  | _, _ => False
theorem kSwA_get {f : Int → dRes → Prop} : ∀ {os : List Int} {ts : List dRes}, kSwA f os ts → ∀ (j : Nat) (t : dRes), ts[j]? = some t → ∃ o, os[j]? = some o ∧ f o t := by
  intro os
  induction os with
  | nil =>
    intro ts h j t e
    cases ts with
    | nil => cases e
    | cons t0 ts => cases h
  | cons o os ih =>
    intro ts h j t e
    cases ts with
    | nil => cases h
    | cons t0 ts =>
      cases j with
      | zero => cases e; exact ⟨o, rfl, h.1⟩
      | succ j => exact ih h.2 j t e
theorem wq_sw {x : Int32} {dd lo hi : Int} {offs : Array Int} {D : dRes} {L : List dRes} {os : List Int} (hG : G.1 mi pc = some (.tableswitch dd lo hi offs, a, b)) (h : dSw x lo hi D L = some R) (ho : offs.toList = os) (h1 : D = some R → kGo xm sm dfl fty G d mi ((pc : Int) + dd).toNat lv st mem (dEq R)) (h2 : kSwA (fun o t => t = some R → kGo xm sm dfl fty G d mi ((pc : Int) + o).toNat lv st mem (dEq R)) os L) : kGo xm sm dfl fty G d mi pc lv (.int x :: st) mem (dEq R) := by
  unfold dSw at h
  split at h
  · rename_i g
    refine wp_step hG ?_ (h1 h)
    show kStep xm sm dfl fty _ _ (.tableswitch dd lo hi offs) a b pc lv (.int x :: st) mem = _
    simp only [kStep, kTopI, kNx]
    rw [if_pos (by simpa using g)]
  · rename_i g
    split at h
    · rename_i t e
      obtain ⟨o, e2, f⟩ := kSwA_get h2 _ t e
      have e3 : offs[(x.toInt - lo).toNat]? = some o := by rw [← ho, Array.getElem?_toList] at e2; exact e2
      refine wp_step hG ?_ (f h)
      show kStep xm sm dfl fty _ _ (.tableswitch dd lo hi offs) a b pc lv (.int x :: st) mem = _
      simp only [kStep, kTopI, kNx]
      rw [if_neg (by simpa using g), e3]
    · cases h
/-- calls: the kind of answer is in the name -/
theorem wq_call {x : kI} {y len : Nat} {as rest : List Value} {X : dRes} {v : Option Value} {m : kM} (hG : G.1 mi pc = some x) (hs : kStep xm sm dfl fty (G.2.1 mi) (G.2.2.1 mi) x.1 x.2.1 x.2.2 pc lv st mem = some (.inr (.inr (y, as, rest, len)))) (hX : X = some (.inl v, m)) (hc : ∀ r', X = some r' → kCa xm sm dfl fty G d y as mem (dEq r')) (k : kGo xm sm dfl fty G d mi (pc + len) lv (v.toList ++ rest) m (dEq R)) : kGo xm sm dfl fty G d mi pc lv st mem (dEq R) := by
  refine wp_call hG hs (hc _ hX) (fun v1 m1 e => ?_) (fun E m1 e => by cases e)
  cases e
  exact k
theorem wq_cI {x : kI} {y len : Nat} {as rest : List Value} {X : dRes} {K : Int32 → kM → dRes} (hG : G.1 mi pc = some x) (hs : kStep xm sm dfl fty (G.2.1 mi) (G.2.2.1 mi) x.1 x.2.1 x.2.2 pc lv st mem = some (.inr (.inr (y, as, rest, len)))) (h : dCI X K = some R) (hc : ∀ r', X = some r' → kCa xm sm dfl fty G d y as mem (dEq r')) (k : ∀ z m, K z m = some R → kGo xm sm dfl fty G d mi (pc + len) lv (.int z :: rest) m (dEq R)) : kGo xm sm dfl fty G d mi pc lv st mem (dEq R) := by
  unfold dCI at h
  split at h
  · exact wq_call hG hs rfl hc (k _ _ h)
  · cases h
theorem wq_cJ {x : kI} {y len : Nat} {as rest : List Value} {X : dRes} {K : Int64 → kM → dRes} (hG : G.1 mi pc = some x) (hs : kStep xm sm dfl fty (G.2.1 mi) (G.2.2.1 mi) x.1 x.2.1 x.2.2 pc lv st mem = some (.inr (.inr (y, as, rest, len)))) (h : dCJ X K = some R) (hc : ∀ r', X = some r' → kCa xm sm dfl fty G d y as mem (dEq r')) (k : ∀ z m, K z m = some R → kGo xm sm dfl fty G d mi (pc + len) lv (.long z :: rest) m (dEq R)) : kGo xm sm dfl fty G d mi pc lv st mem (dEq R) := by
  unfold dCJ at h
  split at h
  · exact wq_call hG hs rfl hc (k _ _ h)
  · cases h
theorem wq_cF {x : kI} {y len : Nat} {as rest : List Value} {X : dRes} {K : UInt32 → kM → dRes} (hG : G.1 mi pc = some x) (hs : kStep xm sm dfl fty (G.2.1 mi) (G.2.2.1 mi) x.1 x.2.1 x.2.2 pc lv st mem = some (.inr (.inr (y, as, rest, len)))) (h : dCF X K = some R) (hc : ∀ r', X = some r' → kCa xm sm dfl fty G d y as mem (dEq r')) (k : ∀ z m, K z m = some R → kGo xm sm dfl fty G d mi (pc + len) lv (.float z :: rest) m (dEq R)) : kGo xm sm dfl fty G d mi pc lv st mem (dEq R) := by
  unfold dCF at h
  split at h
  · exact wq_call hG hs rfl hc (k _ _ h)
  · cases h
theorem wq_cD {x : kI} {y len : Nat} {as rest : List Value} {X : dRes} {K : UInt64 → kM → dRes} (hG : G.1 mi pc = some x) (hs : kStep xm sm dfl fty (G.2.1 mi) (G.2.2.1 mi) x.1 x.2.1 x.2.2 pc lv st mem = some (.inr (.inr (y, as, rest, len)))) (h : dCD X K = some R) (hc : ∀ r', X = some r' → kCa xm sm dfl fty G d y as mem (dEq r')) (k : ∀ z m, K z m = some R → kGo xm sm dfl fty G d mi (pc + len) lv (.double z :: rest) m (dEq R)) : kGo xm sm dfl fty G d mi pc lv st mem (dEq R) := by
  unfold dCD at h
  split at h
  · exact wq_call hG hs rfl hc (k _ _ h)
  · cases h
theorem wq_cR {x : kI} {y len : Nat} {as rest : List Value} {X : dRes} {K : Nat → kM → dRes} (hG : G.1 mi pc = some x) (hs : kStep xm sm dfl fty (G.2.1 mi) (G.2.2.1 mi) x.1 x.2.1 x.2.2 pc lv st mem = some (.inr (.inr (y, as, rest, len)))) (h : dCR X K = some R) (hc : ∀ r', X = some r' → kCa xm sm dfl fty G d y as mem (dEq r')) (k : ∀ z m, K z m = some R → kGo xm sm dfl fty G d mi (pc + len) lv (.ref z :: rest) m (dEq R)) : kGo xm sm dfl fty G d mi pc lv st mem (dEq R) := by
  unfold dCR at h
  split at h
  · exact wq_call hG hs rfl hc (k _ _ h)
  · cases h
theorem wq_cV {x : kI} {y len : Nat} {as rest : List Value} {X : dRes} {K : kM → dRes} (hG : G.1 mi pc = some x) (hs : kStep xm sm dfl fty (G.2.1 mi) (G.2.2.1 mi) x.1 x.2.1 x.2.2 pc lv st mem = some (.inr (.inr (y, as, rest, len)))) (h : dCV X K = some R) (hc : ∀ r', X = some r' → kCa xm sm dfl fty G d y as mem (dEq r')) (k : ∀ m, K m = some R → kGo xm sm dfl fty G d mi (pc + len) lv rest m (dEq R)) : kGo xm sm dfl fty G d mi pc lv st mem (dEq R) := by
  unfold dCV at h
  split at h
  · exact wq_call hG hs rfl hc (k _ h)
  · cases h
theorem wq_cX {x : kI} {y len : Nat} {as rest : List Value} {X : dRes} {K : Int32 → kM → dRes} {H : Nat → kM → dRes} (hG : G.1 mi pc = some x) (hs : kStep xm sm dfl fty (G.2.1 mi) (G.2.2.1 mi) x.1 x.2.1 x.2.2 pc lv st mem = some (.inr (.inr (y, as, rest, len)))) (h : dCX X K H = some R) (hc : ∀ r', X = some r' → kCa xm sm dfl fty G d y as mem (dEq r')) (k : ∀ z m, K z m = some R → kGo xm sm dfl fty G d mi (pc + len) lv (.int z :: rest) m (dEq R))
    (kX : ∀ E m, H E m = some R → ∃ h i, G.2.2.2 mi pc E = some (h, i) ∧ kGo xm sm dfl fty G d mi h (lv.filter (fun q => !(q.1 == i) && !(q.1 + 1 == i && q.2.category == 2))) [] m (dEq R)) : kGo xm sm dfl fty G d mi pc lv st mem (dEq R) := by
  unfold dCX at h
  split at h
  · exact wq_call hG hs rfl hc (k _ _ h)
  · refine wp_call hG hs (hc _ rfl) (fun v1 m1 e => by cases e) (fun E m1 e => ?_)
    cases e
    exact kX _ _ h
  · cases h
theorem dRc_some {ci : Nat} {K : dRes} (h : dRc xm mem r ci K = some R) : ∃ fs, kLook xm mem r = some (.inl (ci, fs)) ∧ K = some R := by
  unfold dRc at h
  split at h
  · rename_i c fs e
    split at h
    · rename_i g
      subst g
      exact ⟨fs, e, h⟩
    · cases h
  · cases h
/-- what kCall says: static calls, constructors, calls of a receiver -/
theorem kCall_s {y n len : Nat} {as rest : List Value} (hy : y < 9000 ∧ n = as.length) (hcat : (rest.map fun v => v.category).sum ≤ 8) (hn : n < 100) : kCall xm y n len pc lv (as.reverse ++ rest) mem = some (.inr (.inr (y, as, rest, len))) := by
  obtain ⟨hy, hn2⟩ := hy
  have l1 : (as.reverse : List Value).length = n % 100 := by simp [hn2]; omega
  unfold kCall
  rw [if_neg (by omega), ← l1, List.take_left, List.drop_left, List.reverse_reverse]
  have e3 : kRcOk xm mem (n / 100) as = true := by
    rw [show n / 100 = 0 by omega]
    unfold kRcOk
    split <;> simp
  rw [e3]
  simp [hcat]
theorem kCall_i {y b len r : Nat} {as rest : List Value} (hy : y < 9000 ∧ b = 5000 + (as.length + 1) ∧ as.length < 90) (hcat : (rest.map fun v => v.category).sum ≤ 8) : kCall xm y b len pc lv (as.reverse ++ .ref r :: rest) mem = some (.inr (.inr (y, .ref r :: as, rest, len))) := by
  obtain ⟨hy, hb, hl⟩ := hy
  have e1 : as.reverse ++ .ref r :: rest = (as.reverse ++ [.ref r]) ++ rest := by simp
  have l1 : (as.reverse ++ [Value.ref r]).length = b % 100 := by simp; omega
  unfold kCall
  rw [if_neg (by omega), e1, ← l1, List.take_left, List.drop_left]
  have e2 : (as.reverse ++ [Value.ref r]).reverse = .ref r :: as := by simp
  rw [e2, show b / 100 = 50 by omega]
  have e3 : kRcOk xm mem 50 (.ref r :: as) = true := by simp [kRcOk]
  rw [e3]
  simp [hcat]
theorem kCall_v {y b len r ci : Nat} {as rest fs : List Value} (hk : kLook xm mem r = some (.inl (ci, fs))) (hy : y < 9000 ∧ b = 100 * (ci + 1) + (as.length + 1) ∧ as.length < 90 ∧ ci < 1000) (hcat : (rest.map fun v => v.category).sum ≤ 8) : kCall xm y b len pc lv (as.reverse ++ .ref r :: rest) mem = some (.inr (.inr (y, .ref r :: as, rest, len))) := by
  obtain ⟨hy, hb, hl, hci⟩ := hy
  have e1 : as.reverse ++ .ref r :: rest = (as.reverse ++ [.ref r]) ++ rest := by simp
  have l1 : (as.reverse ++ [Value.ref r]).length = b % 100 := by simp; omega
  unfold kCall
  rw [if_neg (by omega), e1, ← l1, List.take_left, List.drop_left]
  have e2 : (as.reverse ++ [Value.ref r]).reverse = .ref r :: as := by simp
  rw [e2, show b / 100 = ci + 1 by omega]
  have e3 : kRcOk xm mem (ci + 1) (.ref r :: as) = true := by simp [kRcOk, hk, hci]
  rw [e3]
  simp [hcat]
theorem kSpec_any (kk pc2 : Nat) (lv2 : kL) (args : List Value) (hk : kk = 9001 ∧ args.length = 5 ∨ (kk = 9002 ∨ kk = 9003 ∨ kk = 9004) ∧ args.length = 1) {q : Nat × kL × List Value × kM} (h : kSpec xm kk 0 [] args mem = some (.inl q)) : kSpec xm kk pc2 lv2 (args ++ st) mem = some (.inl (pc2 + 3, lv2, q.2.2.1 ++ st, q.2.2.2)) := by
  rcases hk with ⟨rfl, hl⟩ | ⟨hk, hl⟩
  · obtain ⟨a1, a2, a3, a4, a5, rfl⟩ : ∃ a1 a2 a3 a4 a5, args = [a1, a2, a3, a4, a5] := by
      match args, hl with
      | [a1, a2, a3, a4, a5], _ => exact ⟨a1, a2, a3, a4, a5, rfl⟩
    simp only [kSpec, List.cons_append, List.nil_append, kNx] at h ⊢
    split at h
    · rename_i e
      cases e
      split at h
      · rename_i e1 e2
        split at h
        · rename_i g
          cases h
          simp only [e1, e2]
          rw [if_pos g]
          rfl
        · cases h
      · rename_i e1 e2
        split at h
        · rename_i g
          cases h
          simp only [e1, e2]
          rw [if_pos g]
          rfl
        · cases h
      · cases h
    · cases h
  · obtain ⟨a1, rfl⟩ : ∃ a1, args = [a1] := by
      match args, hl with
      | [a1], _ => exact ⟨a1, rfl⟩
    cases a1 with
    | ref z =>
      have e0 : ([Value.ref z] : List Value) ++ st = .ref z :: st := rfl
      rw [e0]
      rcases hk with rfl | rfl | rfl
      · rw [show kSpec xm 9002 0 [] [.ref z] mem = (match kLook xm mem z with | some (.inr (.inl (0, xs))) => if 1000 ≤ z then kNx (0 + 3) [] (.ref (kNew mem) :: []) (mem ++ [.inr (.inl (0, xs))]) else none | _ => none) from rfl] at h
        rw [show kSpec xm 9002 pc2 lv2 (.ref z :: st) mem = (match kLook xm mem z with | some (.inr (.inl (0, xs))) => if 1000 ≤ z then kNx (pc2 + 3) lv2 (.ref (kNew mem) :: st) (mem ++ [.inr (.inl (0, xs))]) else none | _ => none) from rfl]
        generalize kLook xm mem z = y at h ⊢
        split at h
        · split at h
          · rename_i g
            cases h
            simp only []
            rw [if_pos g]
            rfl
          · cases h
        · cases h
      · rw [show kSpec xm 9003 0 [] [.ref z] mem = (match kLook xm mem z with | some (.inr (.inr (2, _))) => kNx (0 + 3) [] (.ref 2 :: []) mem | _ => none) from rfl] at h
        rw [show kSpec xm 9003 pc2 lv2 (.ref z :: st) mem = (match kLook xm mem z with | some (.inr (.inr (2, _))) => kNx (pc2 + 3) lv2 (.ref 2 :: st) mem | _ => none) from rfl]
        generalize kLook xm mem z = y at h ⊢
        split at h
        · cases h
          rfl
        · cases h
      · rw [show kSpec xm 9004 0 [] [.ref z] mem = (match kLook xm mem z with | some (.inr (.inl (1, xs))) => if decide (1000 ≤ z) && xs.all (fun x => fits .byte (.int x)) then kNx (0 + 3) [] (.ref (kNew mem) :: []) (mem ++ [.inr (.inl (1, xs))]) else none | _ => none) from rfl] at h
        rw [show kSpec xm 9004 pc2 lv2 (.ref z :: st) mem = (match kLook xm mem z with | some (.inr (.inl (1, xs))) => if decide (1000 ≤ z) && xs.all (fun x => fits .byte (.int x)) then kNx (pc2 + 3) lv2 (.ref (kNew mem) :: st) (mem ++ [.inr (.inl (1, xs))]) else none | _ => none) from rfl]
        generalize kLook xm mem z = y at h ⊢
        split at h
        · split at h
          · rename_i g
            cases h
            simp only []
            rw [if_pos g]
            rfl
          · cases h
        · cases h
    | _ =>
      rcases hk with rfl | rfl | rfl
      all_goals (simp [kSpec, kTopA] at h)
theorem wq_cpy {s0 d0 : Nat} {sp dp n : Int32} {K : kM → dRes} (hG : G.1 mi pc = some (.invokestatic i, 9001, b)) (h : dCpy xm mem s0 sp d0 dp n K = some R) (hcat : (st.map fun v => v.category).sum ≤ 90) (k : ∀ m, K m = some R → kGo xm sm dfl fty G d mi (pc + 3) lv st m (dEq R)) : kGo xm sm dfl fty G d mi pc lv (.int n :: .int dp :: .ref d0 :: .int sp :: .ref s0 :: st) mem (dEq R) := by
  unfold dCpy at h
  split at h
  · rename_i a1 a2 a3 m e
    have ha3 : a3 = [] := by
      simp only [kSpec, kNx] at e
      split at e
      · split at e
        · cases e; rfl
        · cases e
      · split at e
        · cases e; rfl
        · cases e
      · cases e
    subst ha3
    refine wp_step hG ?_ (k _ h)
    show kCall xm 9001 b 3 pc lv (.int n :: .int dp :: .ref d0 :: .int sp :: .ref s0 :: st) mem = _
    have hc : (((.int n :: .int dp :: .ref d0 :: .int sp :: .ref s0 :: st : List Value)).map fun v => v.category).sum ≤ 100 := by
      show 1 + (1 + (1 + (1 + (1 + (st.map fun v => v.category).sum)))) ≤ 100
      omega
    unfold kCall
    rw [if_pos (by decide), if_pos hc]
    exact kSpec_any 9001 pc lv [.int n, .int dp, .ref d0, .int sp, .ref s0] (Or.inl ⟨rfl, rfl⟩) e
  · cases h
theorem wq_sp {q0 kk : Nat} {K : kM → Nat → dRes} (hG : G.1 mi pc = some (.invokevirtual i, kk, b)) (hk : kk = 9002 ∨ kk = 9003 ∨ kk = 9004) (h : dSp xm kk mem q0 K = some R) (hcat : (st.map fun v => v.category).sum ≤ 90) (k : ∀ m p, K m p = some R → kGo xm sm dfl fty G d mi (pc + 3) lv (.ref p :: st) m (dEq R)) : kGo xm sm dfl fty G d mi pc lv (.ref q0 :: st) mem (dEq R) := by
  unfold dSp at h
  split at h
  · rename_i a1 a2 q m e
    refine wp_step hG ?_ (k _ _ h)
    show kCall xm kk b 3 pc lv (.ref q0 :: st) mem = _
    have hc : (((.ref q0 :: st : List Value)).map fun v => v.category).sum ≤ 100 := by
      show 1 + (st.map fun v => v.category).sum ≤ 100
      omega
    unfold kCall
    rw [if_pos (by omega), if_pos hc]
    exact kSpec_any kk pc lv [.ref q0] (Or.inr ⟨hk, rfl⟩) e
  · cases h
theorem wq_ca {y : Nat} {av : List Value} (hn : (av.map fun v => v.category).sum ≤ G.2.1 y) (k : kGo xm sm dfl fty G d y 0 (lv_args 0 av) [] mem (dEq R)) : kCa xm sm dfl fty G (d + 1) y av mem (dEq R) := ca_of hn k
theorem ca_up {d' y : Nat} {av : List Value} (hd : d ≤ d') (h : kCa xm sm dfl fty G d y av mem (dEq R)) : kCa xm sm dfl fty G d' y av mem (dEq R) := ca_mono hd (fun _ _ h => h) h
end KQ
