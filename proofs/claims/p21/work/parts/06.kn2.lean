/-! ===== the words of the tables that stay true as the tables warm ===== -/
def kNestW : Jvm.Cond → Bool
  | .fieldLinkNest .. => true
  | .methodLinkNest .. => true
  | _ => false
def kOverW : Jvm.Cond → Bool
  | .arrayOver (.object _) => true
  | _ => false
def kGw (w : Jvm.Cond) : Bool := goodWord w || (w.onTables && w.keepsFace) || kNestW w || kOverW w
/-- private methods of a class that StringBuilder extends: the call goes to them -/
def kXsel : List Jvm.Cond := [.selects "java/lang/StringBuilder" ⟨"java/lang/AbstractStringBuilder", "ensureCapacityInternal", "(I)V"⟩ ⟨"java/lang/AbstractStringBuilder", "ensureCapacityInternal", "(I)V"⟩, .selects "java/lang/StringBuilder" ⟨"java/lang/AbstractStringBuilder", "newCapacity", "(I)I"⟩ ⟨"java/lang/AbstractStringBuilder", "newCapacity", "(I)I"⟩]
theorem kSel_priv {C C2 : String} {x2 y2 y : MethodName} {s : State} {args : Array Value} {n : Nat} (hy : y.cls ≠ "java/lang/invoke/MethodHandle" ∧ y.cls ≠ "java/lang/invoke/VarHandle")
    (hins : (Cond.instantiable C n).before args s = true) (hpriv : (Cond.privateMethod y).before args s = true) (hinst : (Cond.instanceMethod y).before args s = true) (hoth : (Cond.selects C2 x2 y2).before args s = true) (hsame : y2.cls = y.cls) : (Cond.selects C y y).before args s = true := by
  obtain ⟨c, k, hc, hk, -, hniab, -, -⟩ := Cond.instantiable_spec hins
  obtain ⟨mk, methM, hnamed, hmethM, -, -⟩ := Cond.instanceMethod_spec hinst
  have hfound : s.methodFound? y.cls y.name y.desc = some mk := State.methodFound?_of_named hnamed hy
  have hsel : selectMethod {} s.vm c mk = .method mk := selectMethod_private hmethM (Cond.privateMethod_at hpriv mk methM hnamed hmethM)
  obtain ⟨c2, r2, m2, -, -, q3, -, kP, hkP, hkPi⟩ := Cond.selects_spec hoth
  have e1 := findClass_of_methodNamed q3
  have e2 := findClass_of_methodNamed hnamed
  rw [hsame, e2] at e1
  have e3 : mk.cls = m2.cls := Option.some.inj e1
  rw [← e3] at hkP
  simp only [Cond.before, Cond.holds, Cond.value, hc, hfound, hnamed, hsel, hkP]
  simp
  exact hkPi
def kTbl : List Jvm.Cond := (kXsel ++ lw_tbl).filter kGw
theorem kGw_ok {w : Jvm.Cond} (h : kGw w = true) {args a' : Array Value} {s U : State} (hW : s.WarmedH U.vm) (hb : w.before args s = true) : w.before a' U = true := by
  unfold kGw at h
  simp only [Bool.or_eq_true, Bool.and_eq_true] at h
  rcases h with ((h | ⟨h1, h2⟩) | h) | h
  · exact word_at hW (good_of_word h) hb
  · exact va_tabs h1 (rfl : (s.setVm U.vm).vm = U.vm) (Cond.before_shiftedFace (State.Shifted.of_warmed hW) w h2 hb)
  · cases w with
    | fieldLinkNest a i b n d hh => exact va_any rfl (va_Nw.warmF hW (va_any rfl hb))
    | methodLinkNest a i x hh => exact va_any rfl (va_Nw.warmM hW (va_any rfl hb))
    | _ => cases h
  · cases w with
    | arrayOver t =>
      cases t with
      | object C => exact va_AO.moved hW.alike hb
      | _ => cases h
    | _ => cases h
/-! ===== what the interpreter's states are on the machine ===== -/
def kAd (ext : Nat → Nat) (base r : Nat) : Nat := if r < 1000 then ext r else base + (r - 1000)
def kV (ad : Nat → Nat) (v : Value) : Value := match v with
  | .ref r => .ref (ad r)
  | v => v
def kTr (dA : Nat → ClassId) (ad : Nat → Nat) : kE → va_E
  | .inl (ci, fs) => .inr (ci, fs.map (kV ad))
  | .inr (.inl (t, xs)) => .inl (dA t, xs.length, .inl (fun j => xs.getD j 0))
  | .inr (.inr (t, rs)) => .inl (dA t, rs.length, .inr (.inr (.inr (.inr (fun j => (rs.getD j none).map ad)))))
def kJunk (e : kE) : Bool := match e with
  | .inl (ci, _) => decide (1000 ≤ ci)
  | _ => false
def kRM (D : va_G) (dA : Nat → ClassId) (ext : Nat → Nat) (base : Nat) (xm : Nat → Option kE) (mem : kM) (H : Heap) : Prop :=
  H.size = base + mem.length ∧ ∀ r e, 1000 ≤ r → kLook xm mem r = some e → kJunk e = false → va_at D vwCl (kAd ext base r, kTr dA (kAd ext base) e) H
/-- the slots of a cell, of a memory -/
def kSz : kE → Nat
  | .inl (_, fs) => fs.length
  | .inr (.inl (_, xs)) => xs.length
  | .inr (.inr (_, xs)) => xs.length
def kSl (mem : kM) : Nat := (mem.map kSz).sum
def kTl (ad : Nat → Nat) (lv : kL) : List (Nat × Value) := lv.map fun q => (q.1, kV ad q.2)
theorem kV_cat (ad : Nat → Nat) (v : Value) : (kV ad v).category = v.category := by cases v <;> rfl
theorem kTl_put1 (ad : Nat → Nat) (lv : kL) (i : Nat) (v : Value) : (i, kV ad v) :: (kTl ad lv).filter (fun q => !(q.1 == i) && !(q.1 + 1 == i && q.2.category == 2)) = kTl ad (kPut1 lv i v) := by
  unfold kTl kPut1
  rw [List.map_cons, List.filter_map]
  congr 2
  apply congrArg (fun g => List.filter g lv)
  funext q
  simp [Function.comp, kV_cat]
theorem kTl_put2 (ad : Nat → Nat) (lv : kL) (i : Nat) (v : Value) : (i, kV ad v) :: (kTl ad lv).filter (fun q => !(q.1 == i) && (!(q.1 == i + 1) && !(q.1 + 1 == i && q.2.category == 2))) = kTl ad (kPut2 lv i v) := by
  unfold kTl kPut2
  rw [List.map_cons, List.filter_map]
  congr 2
  apply congrArg (fun g => List.filter g lv)
  funext q
  simp [Function.comp, kV_cat]
theorem kLv_mem {lv : kL} {i : Nat} {v : Value} (h : kLv lv i = some v) : (i, v) ∈ lv := by
  unfold kLv at h
  cases hf : lv.find? (fun q => q.1 == i) with
  | none => rw [hf] at h; cases h
  | some q =>
    rw [hf] at h
    have h1 : q.2 = v := by simpa using h
    have h2 : (q.1 == i) = true := by simpa using List.find?_some hf
    have h3 := List.mem_of_find?_eq_some hf
    have h4 : q.1 = i := by simpa using h2
    rw [← h1, ← h4]
    exact h3
theorem kLv_at {ad : Nat → Nat} {ls : Array Slot} {nL : Nat} {lv : kL} {i : Nat} {v : Value} (hl : lv_has ls nL (kTl ad lv)) (h : kLv lv i = some v) : ls[i]? = some (.val (kV ad v)) :=
  hl.2.2 (i, kV ad v) (List.mem_map.mpr ⟨(i, v), kLv_mem h, rfl⟩)
theorem kTopI_some {st : List Value} {k : Int32 → List Value → Option kR} {r : kR} (h : kTopI st k = some r) : ∃ x t, st = .int x :: t ∧ k x t = some r := by
  unfold kTopI at h
  split at h
  · exact ⟨_, _, rfl, h⟩
  · cases h
theorem kTopJ_some {st : List Value} {k : Int64 → List Value → Option kR} {r : kR} (h : kTopJ st k = some r) : ∃ x t, st = .long x :: t ∧ k x t = some r := by
  unfold kTopJ at h
  split at h
  · exact ⟨_, _, rfl, h⟩
  · cases h
theorem kTopF_some {st : List Value} {k : UInt32 → List Value → Option kR} {r : kR} (h : kTopF st k = some r) : ∃ x t, st = .float x :: t ∧ k x t = some r := by
  unfold kTopF at h
  split at h
  · exact ⟨_, _, rfl, h⟩
  · cases h
theorem kTopD_some {st : List Value} {k : UInt64 → List Value → Option kR} {r : kR} (h : kTopD st k = some r) : ∃ x t, st = .double x :: t ∧ k x t = some r := by
  unfold kTopD at h
  split at h
  · exact ⟨_, _, rfl, h⟩
  · cases h
theorem kTopA_some {st : List Value} {k : Nat → List Value → Option kR} {r : kR} (h : kTopA st k = some r) : ∃ x t, st = .ref x :: t ∧ k x t = some r := by
  unfold kTopA at h
  split at h
  · exact ⟨_, _, rfl, h⟩
  · cases h
theorem kTopQ_some {st : List Value} {k : Option Nat → List Value → Option kR} {r : kR} (h : kTopQ st k = some r) : ∃ x t, st = kRf x :: t ∧ k x t = some r := by
  unfold kTopQ at h
  split at h
  · exact ⟨some _, _, rfl, h⟩
  · exact ⟨none, _, rfl, h⟩
  · cases h
theorem kTop1_some {st : List Value} {k : Value → List Value → Option kR} {r : kR} (h : kTop1 st k = some r) : ∃ v t, st = v :: t ∧ v.category = 1 ∧ k v t = some r := by
  unfold kTop1 at h
  split at h
  · rename_i v t
    by_cases hc : (v.category == 1) = true
    · rw [if_pos hc] at h
      exact ⟨_, _, rfl, by simpa using hc, h⟩
    · rw [if_neg hc] at h
      cases h
  · cases h
theorem kV_rf (ad : Nat → Nat) (q : Option Nat) : kV ad (kRf q) = va_rf (q.map ad) := by cases q <;> rfl
section KSIM
variable (p : Program) (l : Launch) (e : Env) (R : Room) (s : State) (m : MethodId) (args : Array Value) (below : List Frame) (meth : Method) (c : Code) (Q : State → Prop) (D : va_G) (dA : Nat → ClassId) (ext : Nat → Nat) (base : Nat) (xm : Nat → Option kE) (nL n0 z0 : Nat)
/-- the machine, in a method that began at s, at a state of the interpreter, comes to Q -/
def kA (pc : Nat) (lv : kL) (st : List Value) (mem : kM) : Prop := ∀ (H : Heap) (locs : List Loc) (cells slots : Nat) (ls : Array Slot),
  kRM D dA ext base xm mem H → va_S (fun q => base ≤ q) s.heap H locs → lv_has ls nL (kTl (kAd ext base) lv) → n0 + cells = mem.length → z0 + slots = kSl mem →
  W p l e R s m args below meth c H locs cells slots Q (F0 m pc ls (st.map (kV (kAd ext base))))
end KSIM
section KROWS
variable {p : Program} {l : Launch} {e : Env} {R : Room} {s : State} {m : MethodId} {args : Array Value} {below : List Frame} {meth : Method} {c : Code} {Q : State → Prop} {D : va_G} {dA : Nat → ClassId} {ext : Nat → Nat} {base : Nat} {xm : Nat → Option kE} {nL n0 z0 : Nat}
variable {cc : ByteArray} {pc pc' : Nat} {lv lv' : kL} {st st' : List Value} {mem mem' : kM} {a b : Nat}
theorem ks_iconst {n : Int} (hx : p.tables.exec = Jvm.exec) (hb : c.code = cc) (hdg : decode cc pc = .ok (.iconst n, 1))
    (h : kNx (pc + 1) lv (.int (Int32.ofInt n) :: st) mem = some (.inl (pc', lv', st', mem'))) (k : kA p l e R s m args below meth c Q D dA ext base xm nL n0 z0 pc' lv' st' mem') : kA p l e R s m args below meth c Q D dA ext base xm nL n0 z0 pc lv st mem := by
  cases h
  intro H locs cells slots ls hRM hS hl hc hz
  refine lv_iconst hx hb hdg rfl ?_
  exact k _ _ _ _ _ hRM hS hl hc hz
theorem ks_bipush {n : Int} (hx : p.tables.exec = Jvm.exec) (hb : c.code = cc) (hdg : decode cc pc = .ok (.bipush n, 2))
    (h : kNx (pc + 2) lv (.int (Int8.ofInt n).toInt32 :: st) mem = some (.inl (pc', lv', st', mem'))) (k : kA p l e R s m args below meth c Q D dA ext base xm nL n0 z0 pc' lv' st' mem') : kA p l e R s m args below meth c Q D dA ext base xm nL n0 z0 pc lv st mem := by
  cases h
  intro H locs cells slots ls hRM hS hl hc hz
  refine lv_bipush hx hb hdg rfl ?_
  exact k _ _ _ _ _ hRM hS hl hc hz
theorem ks_sipush {n : Int} (hx : p.tables.exec = Jvm.exec) (hb : c.code = cc) (hdg : decode cc pc = .ok (.sipush n, 3))
    (h : kNx (pc + 3) lv (.int (Int16.ofInt n).toInt32 :: st) mem = some (.inl (pc', lv', st', mem'))) (k : kA p l e R s m args below meth c Q D dA ext base xm nL n0 z0 pc' lv' st' mem') : kA p l e R s m args below meth c Q D dA ext base xm nL n0 z0 pc lv st mem := by
  cases h
  intro H locs cells slots ls hRM hS hl hc hz
  refine lv_sipush hx hb hdg rfl ?_
  exact k _ _ _ _ _ hRM hS hl hc hz
theorem ks_aconst_null (hx : p.tables.exec = Jvm.exec) (hb : c.code = cc) (hdg : decode cc pc = .ok (.aconst_null, 1))
    (h : kNx (pc + 1) lv (.null :: st) mem = some (.inl (pc', lv', st', mem'))) (k : kA p l e R s m args below meth c Q D dA ext base xm nL n0 z0 pc' lv' st' mem') : kA p l e R s m args below meth c Q D dA ext base xm nL n0 z0 pc lv st mem := by
  cases h
  intro H locs cells slots ls hRM hS hl hc hz
  refine lv_null hx hb hdg ?_
  exact k _ _ _ _ _ hRM hS hl hc hz
theorem ks_iadd (hx : p.tables.exec = Jvm.exec) (hb : c.code = cc) (hdg : decode cc pc = .ok (.iadd, 1))
    (h : kBinI st pc lv mem (fun x y => some (.int (x + y))) = some (.inl (pc', lv', st', mem'))) (k : kA p l e R s m args below meth c Q D dA ext base xm nL n0 z0 pc' lv' st' mem') : kA p l e R s m args below meth c Q D dA ext base xm nL n0 z0 pc lv st mem := by
  unfold kBinI at h
  obtain ⟨y, st1, rfl, h1⟩ := kTopI_some h
  obtain ⟨x, st2, rfl, h2⟩ := kTopI_some h1
  cases h2
  intro H locs cells slots ls hRM hS hl hc hz
  refine lv_iadd hx hb hdg ?_
  exact k _ _ _ _ _ hRM hS hl hc hz
theorem ks_isub (hx : p.tables.exec = Jvm.exec) (hb : c.code = cc) (hdg : decode cc pc = .ok (.isub, 1))
    (h : kBinI st pc lv mem (fun x y => some (.int (x - y))) = some (.inl (pc', lv', st', mem'))) (k : kA p l e R s m args below meth c Q D dA ext base xm nL n0 z0 pc' lv' st' mem') : kA p l e R s m args below meth c Q D dA ext base xm nL n0 z0 pc lv st mem := by
  unfold kBinI at h
  obtain ⟨y, st1, rfl, h1⟩ := kTopI_some h
  obtain ⟨x, st2, rfl, h2⟩ := kTopI_some h1
  cases h2
  intro H locs cells slots ls hRM hS hl hc hz
  refine lv_isub hx hb hdg ?_
  exact k _ _ _ _ _ hRM hS hl hc hz
theorem ks_imul (hx : p.tables.exec = Jvm.exec) (hb : c.code = cc) (hdg : decode cc pc = .ok (.imul, 1))
    (h : kBinI st pc lv mem (fun x y => some (.int (x * y))) = some (.inl (pc', lv', st', mem'))) (k : kA p l e R s m args below meth c Q D dA ext base xm nL n0 z0 pc' lv' st' mem') : kA p l e R s m args below meth c Q D dA ext base xm nL n0 z0 pc lv st mem := by
  unfold kBinI at h
  obtain ⟨y, st1, rfl, h1⟩ := kTopI_some h
  obtain ⟨x, st2, rfl, h2⟩ := kTopI_some h1
  cases h2
  intro H locs cells slots ls hRM hS hl hc hz
  refine lv_imul hx hb hdg ?_
  exact k _ _ _ _ _ hRM hS hl hc hz
theorem ks_iand (hx : p.tables.exec = Jvm.exec) (hb : c.code = cc) (hdg : decode cc pc = .ok (.iand, 1))
    (h : kBinI st pc lv mem (fun x y => some (.int (x &&& y))) = some (.inl (pc', lv', st', mem'))) (k : kA p l e R s m args below meth c Q D dA ext base xm nL n0 z0 pc' lv' st' mem') : kA p l e R s m args below meth c Q D dA ext base xm nL n0 z0 pc lv st mem := by
  unfold kBinI at h
  obtain ⟨y, st1, rfl, h1⟩ := kTopI_some h
  obtain ⟨x, st2, rfl, h2⟩ := kTopI_some h1
  cases h2
  intro H locs cells slots ls hRM hS hl hc hz
  refine lv_iand hx hb hdg ?_
  exact k _ _ _ _ _ hRM hS hl hc hz
theorem ks_ior (hx : p.tables.exec = Jvm.exec) (hb : c.code = cc) (hdg : decode cc pc = .ok (.ior, 1))
    (h : kBinI st pc lv mem (fun x y => some (.int (x ||| y))) = some (.inl (pc', lv', st', mem'))) (k : kA p l e R s m args below meth c Q D dA ext base xm nL n0 z0 pc' lv' st' mem') : kA p l e R s m args below meth c Q D dA ext base xm nL n0 z0 pc lv st mem := by
  unfold kBinI at h
  obtain ⟨y, st1, rfl, h1⟩ := kTopI_some h
  obtain ⟨x, st2, rfl, h2⟩ := kTopI_some h1
  cases h2
  intro H locs cells slots ls hRM hS hl hc hz
  refine lv_ior hx hb hdg ?_
  exact k _ _ _ _ _ hRM hS hl hc hz
theorem ks_ixor (hx : p.tables.exec = Jvm.exec) (hb : c.code = cc) (hdg : decode cc pc = .ok (.ixor, 1))
    (h : kBinI st pc lv mem (fun x y => some (.int (x ^^^ y))) = some (.inl (pc', lv', st', mem'))) (k : kA p l e R s m args below meth c Q D dA ext base xm nL n0 z0 pc' lv' st' mem') : kA p l e R s m args below meth c Q D dA ext base xm nL n0 z0 pc lv st mem := by
  unfold kBinI at h
  obtain ⟨y, st1, rfl, h1⟩ := kTopI_some h
  obtain ⟨x, st2, rfl, h2⟩ := kTopI_some h1
  cases h2
  intro H locs cells slots ls hRM hS hl hc hz
  refine lv_ixor hx hb hdg ?_
  exact k _ _ _ _ _ hRM hS hl hc hz
theorem ks_idiv (hx : p.tables.exec = Jvm.exec) (hb : c.code = cc) (hdg : decode cc pc = .ok (.idiv, 1))
    (h : kBinI st pc lv mem (fun x y => if y == 0 then none else some (.int (x / y))) = some (.inl (pc', lv', st', mem'))) (k : kA p l e R s m args below meth c Q D dA ext base xm nL n0 z0 pc' lv' st' mem') : kA p l e R s m args below meth c Q D dA ext base xm nL n0 z0 pc lv st mem := by
  unfold kBinI at h
  obtain ⟨y, st1, rfl, h1⟩ := kTopI_some h
  obtain ⟨x, st2, rfl, h2⟩ := kTopI_some h1
  dsimp only at h2
  by_cases hy : (y == 0) = true
  · rw [if_pos hy] at h2
    cases h2
  rw [if_neg hy] at h2
  cases h2
  have hy : ¬ y = 0 := fun q => hy (by simpa using q)
  intro H locs cells slots ls hRM hS hl hc hz
  refine lv_idiv hx hb hdg hy ?_
  exact k _ _ _ _ _ hRM hS hl hc hz
theorem ks_irem (hx : p.tables.exec = Jvm.exec) (hb : c.code = cc) (hdg : decode cc pc = .ok (.irem, 1))
    (h : kBinI st pc lv mem (fun x y => if y == 0 then none else some (.int (x - x / y * y))) = some (.inl (pc', lv', st', mem'))) (k : kA p l e R s m args below meth c Q D dA ext base xm nL n0 z0 pc' lv' st' mem') : kA p l e R s m args below meth c Q D dA ext base xm nL n0 z0 pc lv st mem := by
  unfold kBinI at h
  obtain ⟨y, st1, rfl, h1⟩ := kTopI_some h
  obtain ⟨x, st2, rfl, h2⟩ := kTopI_some h1
  dsimp only at h2
  by_cases hy : (y == 0) = true
  · rw [if_pos hy] at h2
    cases h2
  rw [if_neg hy] at h2
  cases h2
  have hy : ¬ y = 0 := fun q => hy (by simpa using q)
  intro H locs cells slots ls hRM hS hl hc hz
  refine lv_irem hx hb hdg hy ?_
  exact k _ _ _ _ _ hRM hS hl hc hz
theorem ks_ineg (hx : p.tables.exec = Jvm.exec) (hb : c.code = cc) (hdg : decode cc pc = .ok (.ineg, 1))
    (h : kUnI st pc lv mem (fun x => .int (-x)) = some (.inl (pc', lv', st', mem'))) (k : kA p l e R s m args below meth c Q D dA ext base xm nL n0 z0 pc' lv' st' mem') : kA p l e R s m args below meth c Q D dA ext base xm nL n0 z0 pc lv st mem := by
  unfold kUnI at h
  obtain ⟨x, st1, rfl, h1⟩ := kTopI_some h
  cases h1
  intro H locs cells slots ls hRM hS hl hc hz
  refine lv_ineg hx hb hdg ?_
  exact k _ _ _ _ _ hRM hS hl hc hz
theorem ks_i2l (hx : p.tables.exec = Jvm.exec) (hb : c.code = cc) (hdg : decode cc pc = .ok (.i2l, 1))
    (h : kUnI st pc lv mem (fun x => .long x.toInt64) = some (.inl (pc', lv', st', mem'))) (k : kA p l e R s m args below meth c Q D dA ext base xm nL n0 z0 pc' lv' st' mem') : kA p l e R s m args below meth c Q D dA ext base xm nL n0 z0 pc lv st mem := by
  unfold kUnI at h
  obtain ⟨x, st1, rfl, h1⟩ := kTopI_some h
  cases h1
  intro H locs cells slots ls hRM hS hl hc hz
  refine lv_i2l hx hb hdg rfl ?_
  exact k _ _ _ _ _ hRM hS hl hc hz
theorem ks_i2b (hx : p.tables.exec = Jvm.exec) (hb : c.code = cc) (hdg : decode cc pc = .ok (.i2b, 1))
    (h : kUnI st pc lv mem (fun x => .int x.toInt8.toInt32) = some (.inl (pc', lv', st', mem'))) (k : kA p l e R s m args below meth c Q D dA ext base xm nL n0 z0 pc' lv' st' mem') : kA p l e R s m args below meth c Q D dA ext base xm nL n0 z0 pc lv st mem := by
  unfold kUnI at h
  obtain ⟨x, st1, rfl, h1⟩ := kTopI_some h
  cases h1
  intro H locs cells slots ls hRM hS hl hc hz
  refine lv_i2b hx hb hdg rfl ?_
  exact k _ _ _ _ _ hRM hS hl hc hz
theorem ks_i2f (hx : p.tables.exec = Jvm.exec) (hb : c.code = cc) (hdg : decode cc pc = .ok (.i2f, 1))
    (h : kUnI st pc lv mem (fun x => .float (FP.i2f x)) = some (.inl (pc', lv', st', mem'))) (k : kA p l e R s m args below meth c Q D dA ext base xm nL n0 z0 pc' lv' st' mem') : kA p l e R s m args below meth c Q D dA ext base xm nL n0 z0 pc lv st mem := by
  unfold kUnI at h
  obtain ⟨x, st1, rfl, h1⟩ := kTopI_some h
  cases h1
  intro H locs cells slots ls hRM hS hl hc hz
  refine lv_i2f hx hb hdg ?_
  exact k _ _ _ _ _ hRM hS hl hc hz
theorem ks_i2d (hx : p.tables.exec = Jvm.exec) (hb : c.code = cc) (hdg : decode cc pc = .ok (.i2d, 1))
    (h : kUnI st pc lv mem (fun x => .double (FP.i2d x)) = some (.inl (pc', lv', st', mem'))) (k : kA p l e R s m args below meth c Q D dA ext base xm nL n0 z0 pc' lv' st' mem') : kA p l e R s m args below meth c Q D dA ext base xm nL n0 z0 pc lv st mem := by
  unfold kUnI at h
  obtain ⟨x, st1, rfl, h1⟩ := kTopI_some h
  cases h1
  intro H locs cells slots ls hRM hS hl hc hz
  refine lv_i2d hx hb hdg ?_
  exact k _ _ _ _ _ hRM hS hl hc hz
theorem ks_ladd (hx : p.tables.exec = Jvm.exec) (hb : c.code = cc) (hdg : decode cc pc = .ok (.ladd, 1))
    (h : (kTopJ st fun y st => kTopJ st fun x st => kNx (pc + 1) lv (.long (x + y) :: st) mem) = some (.inl (pc', lv', st', mem'))) (k : kA p l e R s m args below meth c Q D dA ext base xm nL n0 z0 pc' lv' st' mem') : kA p l e R s m args below meth c Q D dA ext base xm nL n0 z0 pc lv st mem := by
  obtain ⟨y, st1, rfl, h1⟩ := kTopJ_some h
  obtain ⟨x, st2, rfl, h2⟩ := kTopJ_some h1
  cases h2
  intro H locs cells slots ls hRM hS hl hc hz
  refine lv_ladd hx hb hdg ?_
  exact k _ _ _ _ _ hRM hS hl hc hz
theorem ks_lmul (hx : p.tables.exec = Jvm.exec) (hb : c.code = cc) (hdg : decode cc pc = .ok (.lmul, 1))
    (h : (kTopJ st fun y st => kTopJ st fun x st => kNx (pc + 1) lv (.long (x * y) :: st) mem) = some (.inl (pc', lv', st', mem'))) (k : kA p l e R s m args below meth c Q D dA ext base xm nL n0 z0 pc' lv' st' mem') : kA p l e R s m args below meth c Q D dA ext base xm nL n0 z0 pc lv st mem := by
  obtain ⟨y, st1, rfl, h1⟩ := kTopJ_some h
  obtain ⟨x, st2, rfl, h2⟩ := kTopJ_some h1
  cases h2
  intro H locs cells slots ls hRM hS hl hc hz
  refine lv_lmul hx hb hdg ?_
  exact k _ _ _ _ _ hRM hS hl hc hz
theorem ks_lcmp (hx : p.tables.exec = Jvm.exec) (hb : c.code = cc) (hdg : decode cc pc = .ok (.lcmp, 1))
    (h : (kTopJ st fun y st => kTopJ st fun x st => kNx (pc + 1) lv (.int (lg_cmp x y) :: st) mem) = some (.inl (pc', lv', st', mem'))) (k : kA p l e R s m args below meth c Q D dA ext base xm nL n0 z0 pc' lv' st' mem') : kA p l e R s m args below meth c Q D dA ext base xm nL n0 z0 pc lv st mem := by
  obtain ⟨y, st1, rfl, h1⟩ := kTopJ_some h
  obtain ⟨x, st2, rfl, h2⟩ := kTopJ_some h1
  cases h2
  intro H locs cells slots ls hRM hS hl hc hz
  refine W.lcmp hx hb hdg ?_
  exact k _ _ _ _ _ hRM hS hl hc hz
theorem ks_fmul (hx : p.tables.exec = Jvm.exec) (hb : c.code = cc) (hdg : decode cc pc = .ok (.fmul, 1))
    (h : (kTopF st fun y st => kTopF st fun x st => if kFin32 (FP.fmul x y) then kNx (pc + 1) lv (.float (FP.fmul x y) :: st) mem else none) = some (.inl (pc', lv', st', mem'))) (k : kA p l e R s m args below meth c Q D dA ext base xm nL n0 z0 pc' lv' st' mem') : kA p l e R s m args below meth c Q D dA ext base xm nL n0 z0 pc lv st mem := by
  obtain ⟨y, st1, rfl, h1⟩ := kTopF_some h
  obtain ⟨x, st2, rfl, h2⟩ := kTopF_some h1
  by_cases hf : kFin32 (FP.fmul x y) = true
  · rw [if_pos hf] at h2
    cases h2
    have hf : vf_n32 (FP.fmul x y) := by simpa [kFin32, vf_n32] using hf
    intro H locs cells slots ls hRM hS hl hc hz
    refine lv_fmul hx hb hdg hf ?_
    exact k _ _ _ _ _ hRM hS hl hc hz
  · rw [if_neg hf] at h2
    cases h2
theorem ks_fsub (hx : p.tables.exec = Jvm.exec) (hb : c.code = cc) (hdg : decode cc pc = .ok (.fsub, 1))
    (h : (kTopF st fun y st => kTopF st fun x st => if kFin32 (FP.fsub x y) then kNx (pc + 1) lv (.float (FP.fsub x y) :: st) mem else none) = some (.inl (pc', lv', st', mem'))) (k : kA p l e R s m args below meth c Q D dA ext base xm nL n0 z0 pc' lv' st' mem') : kA p l e R s m args below meth c Q D dA ext base xm nL n0 z0 pc lv st mem := by
  obtain ⟨y, st1, rfl, h1⟩ := kTopF_some h
  obtain ⟨x, st2, rfl, h2⟩ := kTopF_some h1
  by_cases hf : kFin32 (FP.fsub x y) = true
  · rw [if_pos hf] at h2
    cases h2
    have hf : vf_n32 (FP.fsub x y) := by simpa [kFin32, vf_n32] using hf
    intro H locs cells slots ls hRM hS hl hc hz
    refine lv_fsub hx hb hdg hf ?_
    exact k _ _ _ _ _ hRM hS hl hc hz
  · rw [if_neg hf] at h2
    cases h2
theorem ks_f2d (hx : p.tables.exec = Jvm.exec) (hb : c.code = cc) (hdg : decode cc pc = .ok (.f2d, 1))
    (h : (kTopF st fun x st => if kFin64 (FP.f2d x) then kNx (pc + 1) lv (.double (FP.f2d x) :: st) mem else none) = some (.inl (pc', lv', st', mem'))) (k : kA p l e R s m args below meth c Q D dA ext base xm nL n0 z0 pc' lv' st' mem') : kA p l e R s m args below meth c Q D dA ext base xm nL n0 z0 pc lv st mem := by
  obtain ⟨x, st1, rfl, h1⟩ := kTopF_some h
  by_cases hf : kFin64 (FP.f2d x) = true
  · rw [if_pos hf] at h1
    cases h1
    have hf : vf_n64 (FP.f2d x) := by simpa [kFin64, vf_n64] using hf
    intro H locs cells slots ls hRM hS hl hc hz
    refine lv_f2d hx hb hdg hf ?_
    exact k _ _ _ _ _ hRM hS hl hc hz
  · rw [if_neg hf] at h1
    cases h1
theorem ks_ddiv (hx : p.tables.exec = Jvm.exec) (hb : c.code = cc) (hdg : decode cc pc = .ok (.ddiv, 1))
    (h : (kTopD st fun y st => kTopD st fun x st => if kFin64 (FP.ddiv x y) then kNx (pc + 1) lv (.double (FP.ddiv x y) :: st) mem else none) = some (.inl (pc', lv', st', mem'))) (k : kA p l e R s m args below meth c Q D dA ext base xm nL n0 z0 pc' lv' st' mem') : kA p l e R s m args below meth c Q D dA ext base xm nL n0 z0 pc lv st mem := by
  obtain ⟨y, st1, rfl, h1⟩ := kTopD_some h
  obtain ⟨x, st2, rfl, h2⟩ := kTopD_some h1
  by_cases hf : kFin64 (FP.ddiv x y) = true
  · rw [if_pos hf] at h2
    cases h2
    have hf : vf_n64 (FP.ddiv x y) := by simpa [kFin64, vf_n64] using hf
    intro H locs cells slots ls hRM hS hl hc hz
    refine lv_ddiv hx hb hdg hf ?_
    exact k _ _ _ _ _ hRM hS hl hc hz
  · rw [if_neg hf] at h2
    cases h2
theorem ks_f2l (hx : p.tables.exec = Jvm.exec) (hb : c.code = cc) (hdg : decode cc pc = .ok (.f2l, 1))
    (h : (kTopF st fun x st => kNx (pc + 1) lv (.long (FP.f2l x) :: st) mem) = some (.inl (pc', lv', st', mem'))) (k : kA p l e R s m args below meth c Q D dA ext base xm nL n0 z0 pc' lv' st' mem') : kA p l e R s m args below meth c Q D dA ext base xm nL n0 z0 pc lv st mem := by
  obtain ⟨x, st1, rfl, h1⟩ := kTopF_some h
  cases h1
  intro H locs cells slots ls hRM hS hl hc hz
  refine lv_f2l hx hb hdg ?_
  exact k _ _ _ _ _ hRM hS hl hc hz
theorem ks_dup (hx : p.tables.exec = Jvm.exec) (hb : c.code = cc) (hdg : decode cc pc = .ok (.dup, 1))
    (h : (kTop1 st fun v st => kNx (pc + 1) lv (v :: v :: st) mem) = some (.inl (pc', lv', st', mem'))) (k : kA p l e R s m args below meth c Q D dA ext base xm nL n0 z0 pc' lv' st' mem') : kA p l e R s m args below meth c Q D dA ext base xm nL n0 z0 pc lv st mem := by
  obtain ⟨v, st1, rfl, hv, h1⟩ := kTop1_some h
  cases h1
  intro H locs cells slots ls hRM hS hl hc hz
  refine lv_dup hx hb hdg (by rw [kV_cat]; exact hv) ?_
  exact k _ _ _ _ _ hRM hS hl hc hz
theorem ks_pop (hx : p.tables.exec = Jvm.exec) (hb : c.code = cc) (hdg : decode cc pc = .ok (.pop, 1))
    (h : (kTop1 st fun _ st => kNx (pc + 1) lv st mem) = some (.inl (pc', lv', st', mem'))) (k : kA p l e R s m args below meth c Q D dA ext base xm nL n0 z0 pc' lv' st' mem') : kA p l e R s m args below meth c Q D dA ext base xm nL n0 z0 pc lv st mem := by
  obtain ⟨v, st1, rfl, hv, h1⟩ := kTop1_some h
  cases h1
  intro H locs cells slots ls hRM hS hl hc hz
  refine lv_pop hx hb hdg (by rw [kV_cat]; exact hv) ?_
  exact k _ _ _ _ _ hRM hS hl hc hz
theorem ks_dup_x1 (hx : p.tables.exec = Jvm.exec) (hb : c.code = cc) (hdg : decode cc pc = .ok (.dup_x1, 1))
    (h : (kTop1 st fun v st => kTop1 st fun w st => kNx (pc + 1) lv (v :: w :: v :: st) mem) = some (.inl (pc', lv', st', mem'))) (k : kA p l e R s m args below meth c Q D dA ext base xm nL n0 z0 pc' lv' st' mem') : kA p l e R s m args below meth c Q D dA ext base xm nL n0 z0 pc lv st mem := by
  obtain ⟨v, st1, rfl, hv, h1⟩ := kTop1_some h
  obtain ⟨w, st2, rfl, hw, h2⟩ := kTop1_some h1
  cases h2
  intro H locs cells slots ls hRM hS hl hc hz
  refine lv_dup_x1 hx hb hdg (by rw [kV_cat]; exact hv) (by rw [kV_cat]; exact hw) ?_
  exact k _ _ _ _ _ hRM hS hl hc hz
theorem ks_dup2 (hx : p.tables.exec = Jvm.exec) (hb : c.code = cc) (hdg : decode cc pc = .ok (.dup2, 1))
    (h : (kTop1 st fun v st => kTop1 st fun w st => kNx (pc + 1) lv (v :: w :: v :: w :: st) mem) = some (.inl (pc', lv', st', mem'))) (k : kA p l e R s m args below meth c Q D dA ext base xm nL n0 z0 pc' lv' st' mem') : kA p l e R s m args below meth c Q D dA ext base xm nL n0 z0 pc lv st mem := by
  obtain ⟨v, st1, rfl, hv, h1⟩ := kTop1_some h
  obtain ⟨w, st2, rfl, hw, h2⟩ := kTop1_some h1
  cases h2
  intro H locs cells slots ls hRM hS hl hc hz
  refine lv_dup2_11 hx hb hdg (by rw [kV_cat]; exact hv) (by rw [kV_cat]; exact hw) ?_
  exact k _ _ _ _ _ hRM hS hl hc hz
theorem ks_goto {o : Int} (ht : (pc : Int) + o = (a : Int)) (hx : p.tables.exec = Jvm.exec) (hb : c.code = cc) (hdg : decode cc pc = .ok (.goto o, 3))
    (h : kNx a lv st mem = some (.inl (pc', lv', st', mem'))) (k : kA p l e R s m args below meth c Q D dA ext base xm nL n0 z0 pc' lv' st' mem') : kA p l e R s m args below meth c Q D dA ext base xm nL n0 z0 pc lv st mem := by
  cases h
  intro H locs cells slots ls hRM hS hl hc hz
  refine lv_goto hx hb hdg ht ?_
  exact k _ _ _ _ _ hRM hS hl hc hz
theorem ks_iload_n {i : Fin 4} (hx : p.tables.exec = Jvm.exec) (hb : c.code = cc) (hdg : decode cc pc = .ok (.iload_n i, 1))
    (h : kLoad lv i (pc + 1) st mem kIsI = some (.inl (pc', lv', st', mem'))) (k : kA p l e R s m args below meth c Q D dA ext base xm nL n0 z0 pc' lv' st' mem') : kA p l e R s m args below meth c Q D dA ext base xm nL n0 z0 pc lv st mem := by
  unfold kLoad at h
  cases hv : kLv lv i with
  | none => rw [hv] at h; cases h
  | some v =>
    rw [hv] at h
    dsimp only at h
    have ho : (kIsI v) = true := by
      by_cases g : (kIsI v) = true
      · exact g
      · rw [if_neg g] at h
        cases h
    rw [if_pos ho] at h
    cases h
    cases v with
    | int x =>
      intro H locs cells slots ls hRM hS hl hc hz
      refine lv_iload_n hx hb hdg rfl (kLv_at hl hv) ?_
      exact k _ _ _ _ _ hRM hS hl hc hz
    | long x => cases ho
    | float x => cases ho
    | double x => cases ho
    | null => cases ho
    | ref x => cases ho
    | retAddr x => cases ho
theorem ks_iload {i : Nat} (hx : p.tables.exec = Jvm.exec) (hb : c.code = cc) (hdg : decode cc pc = .ok (.iload i, 2))
    (h : kLoad lv i (pc + 2) st mem kIsI = some (.inl (pc', lv', st', mem'))) (k : kA p l e R s m args below meth c Q D dA ext base xm nL n0 z0 pc' lv' st' mem') : kA p l e R s m args below meth c Q D dA ext base xm nL n0 z0 pc lv st mem := by
  unfold kLoad at h
  cases hv : kLv lv i with
  | none => rw [hv] at h; cases h
  | some v =>
    rw [hv] at h
    dsimp only at h
    have ho : (kIsI v) = true := by
      by_cases g : (kIsI v) = true
      · exact g
      · rw [if_neg g] at h
        cases h
    rw [if_pos ho] at h
    cases h
    cases v with
    | int x =>
      intro H locs cells slots ls hRM hS hl hc hz
      refine lv_iload hx hb hdg (kLv_at hl hv) ?_
      exact k _ _ _ _ _ hRM hS hl hc hz
    | long x => cases ho
    | float x => cases ho
    | double x => cases ho
    | null => cases ho
    | ref x => cases ho
    | retAddr x => cases ho
theorem ks_lload_n {i : Fin 4} (hx : p.tables.exec = Jvm.exec) (hb : c.code = cc) (hdg : decode cc pc = .ok (.lload_n i, 1))
    (h : kLoad lv i (pc + 1) st mem kIsJ = some (.inl (pc', lv', st', mem'))) (k : kA p l e R s m args below meth c Q D dA ext base xm nL n0 z0 pc' lv' st' mem') : kA p l e R s m args below meth c Q D dA ext base xm nL n0 z0 pc lv st mem := by
  unfold kLoad at h
  cases hv : kLv lv i with
  | none => rw [hv] at h; cases h
  | some v =>
    rw [hv] at h
    dsimp only at h
    have ho : (kIsJ v) = true := by
      by_cases g : (kIsJ v) = true
      · exact g
      · rw [if_neg g] at h
        cases h
    rw [if_pos ho] at h
    cases h
    cases v with
    | int x => cases ho
    | long x =>
      intro H locs cells slots ls hRM hS hl hc hz
      refine lv_lload_n hx hb hdg rfl (kLv_at hl hv) ?_
      exact k _ _ _ _ _ hRM hS hl hc hz
    | float x => cases ho
    | double x => cases ho
    | null => cases ho
    | ref x => cases ho
    | retAddr x => cases ho
theorem ks_lload {i : Nat} (hx : p.tables.exec = Jvm.exec) (hb : c.code = cc) (hdg : decode cc pc = .ok (.lload i, 2))
    (h : kLoad lv i (pc + 2) st mem kIsJ = some (.inl (pc', lv', st', mem'))) (k : kA p l e R s m args below meth c Q D dA ext base xm nL n0 z0 pc' lv' st' mem') : kA p l e R s m args below meth c Q D dA ext base xm nL n0 z0 pc lv st mem := by
  unfold kLoad at h
  cases hv : kLv lv i with
  | none => rw [hv] at h; cases h
  | some v =>
    rw [hv] at h
    dsimp only at h
    have ho : (kIsJ v) = true := by
      by_cases g : (kIsJ v) = true
      · exact g
      · rw [if_neg g] at h
        cases h
    rw [if_pos ho] at h
    cases h
    cases v with
    | int x => cases ho
    | long x =>
      intro H locs cells slots ls hRM hS hl hc hz
      refine lv_lload hx hb hdg (kLv_at hl hv) ?_
      exact k _ _ _ _ _ hRM hS hl hc hz
    | float x => cases ho
    | double x => cases ho
    | null => cases ho
    | ref x => cases ho
    | retAddr x => cases ho
theorem ks_fload_n {i : Fin 4} (hx : p.tables.exec = Jvm.exec) (hb : c.code = cc) (hdg : decode cc pc = .ok (.fload_n i, 1))
    (h : kLoad lv i (pc + 1) st mem kIsF = some (.inl (pc', lv', st', mem'))) (k : kA p l e R s m args below meth c Q D dA ext base xm nL n0 z0 pc' lv' st' mem') : kA p l e R s m args below meth c Q D dA ext base xm nL n0 z0 pc lv st mem := by
  unfold kLoad at h
  cases hv : kLv lv i with
  | none => rw [hv] at h; cases h
  | some v =>
    rw [hv] at h
    dsimp only at h
    have ho : (kIsF v) = true := by
      by_cases g : (kIsF v) = true
      · exact g
      · rw [if_neg g] at h
        cases h
    rw [if_pos ho] at h
    cases h
    cases v with
    | int x => cases ho
    | long x => cases ho
    | float x =>
      intro H locs cells slots ls hRM hS hl hc hz
      refine lv_fload_n hx hb hdg rfl (kLv_at hl hv) ?_
      exact k _ _ _ _ _ hRM hS hl hc hz
    | double x => cases ho
    | null => cases ho
    | ref x => cases ho
    | retAddr x => cases ho
theorem ks_dload_n {i : Fin 4} (hx : p.tables.exec = Jvm.exec) (hb : c.code = cc) (hdg : decode cc pc = .ok (.dload_n i, 1))
    (h : kLoad lv i (pc + 1) st mem kIsD = some (.inl (pc', lv', st', mem'))) (k : kA p l e R s m args below meth c Q D dA ext base xm nL n0 z0 pc' lv' st' mem') : kA p l e R s m args below meth c Q D dA ext base xm nL n0 z0 pc lv st mem := by
  unfold kLoad at h
  cases hv : kLv lv i with
  | none => rw [hv] at h; cases h
  | some v =>
    rw [hv] at h
    dsimp only at h
    have ho : (kIsD v) = true := by
      by_cases g : (kIsD v) = true
      · exact g
      · rw [if_neg g] at h
        cases h
    rw [if_pos ho] at h
    cases h
    cases v with
    | int x => cases ho
    | long x => cases ho
    | float x => cases ho
    | double x =>
      intro H locs cells slots ls hRM hS hl hc hz
      refine lv_dload_n hx hb hdg rfl (kLv_at hl hv) ?_
      exact k _ _ _ _ _ hRM hS hl hc hz
    | null => cases ho
    | ref x => cases ho
    | retAddr x => cases ho
theorem ks_dmul (hx : p.tables.exec = Jvm.exec) (hb : c.code = cc) (hdg : decode cc pc = .ok (.dmul, 1))
    (h : (kTopD st fun y st => kTopD st fun x st => if kFin64 (FP.dmul x y) then kNx (pc + 1) lv (.double (FP.dmul x y) :: st) mem else none) = some (.inl (pc', lv', st', mem'))) (k : kA p l e R s m args below meth c Q D dA ext base xm nL n0 z0 pc' lv' st' mem') : kA p l e R s m args below meth c Q D dA ext base xm nL n0 z0 pc lv st mem := by
  obtain ⟨y, st1, rfl, h1⟩ := kTopD_some h
  obtain ⟨x, st2, rfl, h2⟩ := kTopD_some h1
  by_cases hf : kFin64 (FP.dmul x y) = true
  · rw [if_pos hf] at h2
    cases h2
    have hf : vf_n64 (FP.dmul x y) := by simpa [kFin64, vf_n64] using hf
    intro H locs cells slots ls hRM hS hl hc hz
    refine lv_dmul hx hb hdg hf ?_
    exact k _ _ _ _ _ hRM hS hl hc hz
  · rw [if_neg hf] at h2
    cases h2
theorem ks_dsub (hx : p.tables.exec = Jvm.exec) (hb : c.code = cc) (hdg : decode cc pc = .ok (.dsub, 1))
    (h : (kTopD st fun y st => kTopD st fun x st => if kFin64 (FP.dsub x y) then kNx (pc + 1) lv (.double (FP.dsub x y) :: st) mem else none) = some (.inl (pc', lv', st', mem'))) (k : kA p l e R s m args below meth c Q D dA ext base xm nL n0 z0 pc' lv' st' mem') : kA p l e R s m args below meth c Q D dA ext base xm nL n0 z0 pc lv st mem := by
  obtain ⟨y, st1, rfl, h1⟩ := kTopD_some h
  obtain ⟨x, st2, rfl, h2⟩ := kTopD_some h1
  by_cases hf : kFin64 (FP.dsub x y) = true
  · rw [if_pos hf] at h2
    cases h2
    have hf : vf_n64 (FP.dsub x y) := by simpa [kFin64, vf_n64] using hf
    intro H locs cells slots ls hRM hS hl hc hz
    refine lv_dsub hx hb hdg hf ?_
    exact k _ _ _ _ _ hRM hS hl hc hz
  · rw [if_neg hf] at h2
    cases h2
theorem ks_i2c (hx : p.tables.exec = Jvm.exec) (hb : c.code = cc) (hdg : decode cc pc = .ok (.i2c, 1))
    (h : kUnI st pc lv mem (fun x => .int (x.toUInt32 % 65536).toInt32) = some (.inl (pc', lv', st', mem'))) (k : kA p l e R s m args below meth c Q D dA ext base xm nL n0 z0 pc' lv' st' mem') : kA p l e R s m args below meth c Q D dA ext base xm nL n0 z0 pc lv st mem := by
  unfold kUnI at h
  obtain ⟨x, st1, rfl, h1⟩ := kTopI_some h
  cases h1
  intro H locs cells slots ls hRM hS hl hc hz
  refine lv_i2c hx hb hdg rfl ?_
  exact k _ _ _ _ _ hRM hS hl hc hz
theorem ks_dload {i : Nat} (hx : p.tables.exec = Jvm.exec) (hb : c.code = cc) (hdg : decode cc pc = .ok (.dload i, 2))
    (h : kLoad lv i (pc + 2) st mem kIsD = some (.inl (pc', lv', st', mem'))) (k : kA p l e R s m args below meth c Q D dA ext base xm nL n0 z0 pc' lv' st' mem') : kA p l e R s m args below meth c Q D dA ext base xm nL n0 z0 pc lv st mem := by
  unfold kLoad at h
  cases hv : kLv lv i with
  | none => rw [hv] at h; cases h
  | some v =>
    rw [hv] at h
    dsimp only at h
    have ho : (kIsD v) = true := by
      by_cases g : (kIsD v) = true
      · exact g
      · rw [if_neg g] at h
        cases h
    rw [if_pos ho] at h
    cases h
    cases v with
    | int x => cases ho
    | long x => cases ho
    | float x => cases ho
    | double x =>
      intro H locs cells slots ls hRM hS hl hc hz
      refine lv_dload hx hb hdg (kLv_at hl hv) ?_
      exact k _ _ _ _ _ hRM hS hl hc hz
    | null => cases ho
    | ref x => cases ho
    | retAddr x => cases ho
theorem ks_dcmp {op : CmpOp} (hx : p.tables.exec = Jvm.exec) (hb : c.code = cc) (hdg : decode cc pc = .ok (.dcmp op, 1))
    (h : (kTopD st fun y st => kTopD st fun x st => kNx (pc + 1) lv (.int (Op.cmpValue (FP.dcmp x y) op) :: st) mem) = some (.inl (pc', lv', st', mem'))) (k : kA p l e R s m args below meth c Q D dA ext base xm nL n0 z0 pc' lv' st' mem') : kA p l e R s m args below meth c Q D dA ext base xm nL n0 z0 pc lv st mem := by
  obtain ⟨y, st1, rfl, h1⟩ := kTopD_some h
  obtain ⟨x, st2, rfl, h2⟩ := kTopD_some h1
  cases h2
  intro H locs cells slots ls hRM hS hl hc hz
  refine lv_dcmp hx hb hdg ?_
  exact k _ _ _ _ _ hRM hS hl hc hz
theorem ks_aload_n {i : Fin 4} (hx : p.tables.exec = Jvm.exec) (hb : c.code = cc) (hdg : decode cc pc = .ok (.aload_n i, 1))
    (h : kLoad lv i (pc + 1) st mem kIsA = some (.inl (pc', lv', st', mem'))) (k : kA p l e R s m args below meth c Q D dA ext base xm nL n0 z0 pc' lv' st' mem') : kA p l e R s m args below meth c Q D dA ext base xm nL n0 z0 pc lv st mem := by
  unfold kLoad at h
  cases hv : kLv lv i with
  | none => rw [hv] at h; cases h
  | some v =>
    rw [hv] at h
    dsimp only at h
    have ho : (kIsA v) = true := by
      by_cases g : (kIsA v) = true
      · exact g
      · rw [if_neg g] at h
        cases h
    rw [if_pos ho] at h
    cases h
    cases v with
    | int x => cases ho
    | long x => cases ho
    | float x => cases ho
    | double x => cases ho
    | null =>
      intro H locs cells slots ls hRM hS hl hc hz
      refine lv_aload_nN hx hb hdg rfl (kLv_at hl hv) ?_
      exact k _ _ _ _ _ hRM hS hl hc hz
    | ref x =>
      intro H locs cells slots ls hRM hS hl hc hz
      refine lv_aload_n hx hb hdg rfl (kLv_at hl hv) ?_
      exact k _ _ _ _ _ hRM hS hl hc hz
    | retAddr x => cases ho
theorem ks_aload {i : Nat} (hx : p.tables.exec = Jvm.exec) (hb : c.code = cc) (hdg : decode cc pc = .ok (.aload i, 2))
    (h : kLoad lv i (pc + 2) st mem kIsA = some (.inl (pc', lv', st', mem'))) (k : kA p l e R s m args below meth c Q D dA ext base xm nL n0 z0 pc' lv' st' mem') : kA p l e R s m args below meth c Q D dA ext base xm nL n0 z0 pc lv st mem := by
  unfold kLoad at h
  cases hv : kLv lv i with
  | none => rw [hv] at h; cases h
  | some v =>
    rw [hv] at h
    dsimp only at h
    have ho : (kIsA v) = true := by
      by_cases g : (kIsA v) = true
      · exact g
      · rw [if_neg g] at h
        cases h
    rw [if_pos ho] at h
    cases h
    cases v with
    | int x => cases ho
    | long x => cases ho
    | float x => cases ho
    | double x => cases ho
    | null =>
      intro H locs cells slots ls hRM hS hl hc hz
      refine lv_aloadN hx hb hdg (kLv_at hl hv) ?_
      exact k _ _ _ _ _ hRM hS hl hc hz
    | ref x =>
      intro H locs cells slots ls hRM hS hl hc hz
      refine lv_aload hx hb hdg (kLv_at hl hv) ?_
      exact k _ _ _ _ _ hRM hS hl hc hz
    | retAddr x => cases ho
theorem ks_istore_n {i : Fin 4} (hx : p.tables.exec = Jvm.exec) (hb : c.code = cc) (hdg : decode cc pc = .ok (.istore_n i, 1))
    (h : kSto1 nL lv i (pc + 1) st mem kIsI = some (.inl (pc', lv', st', mem'))) (k : kA p l e R s m args below meth c Q D dA ext base xm nL n0 z0 pc' lv' st' mem') : kA p l e R s m args below meth c Q D dA ext base xm nL n0 z0 pc lv st mem := by
  unfold kSto1 at h
  cases st with
  | nil => cases h
  | cons v st1 =>
    dsimp only at h
    have ho : ((kIsI v && decide ((i : Nat) < nL))) = true := by
      by_cases g : ((kIsI v && decide ((i : Nat) < nL))) = true
      · exact g
      · rw [if_neg g] at h
        cases h
    rw [if_pos ho] at h
    cases h
    rw [Bool.and_eq_true] at ho
    have hi : (i : Nat) < nL := by simpa using ho.2
    cases v with
    | int x =>
      intro H locs cells slots ls hRM hS hl hc hz
      refine lv_istore_n hx hb hdg rfl hl hi (kTl_put1 _ lv i (.int x)) (fun ls' hl' => ?_)
      exact k _ _ _ _ _ hRM hS hl' hc hz
    | long x => cases ho.1
    | float x => cases ho.1
    | double x => cases ho.1
    | null => cases ho.1
    | ref x => cases ho.1
    | retAddr x => cases ho.1
theorem ks_istore {i : Nat} (hx : p.tables.exec = Jvm.exec) (hb : c.code = cc) (hdg : decode cc pc = .ok (.istore i, 2))
    (h : kSto1 nL lv i (pc + 2) st mem kIsI = some (.inl (pc', lv', st', mem'))) (k : kA p l e R s m args below meth c Q D dA ext base xm nL n0 z0 pc' lv' st' mem') : kA p l e R s m args below meth c Q D dA ext base xm nL n0 z0 pc lv st mem := by
  unfold kSto1 at h
  cases st with
  | nil => cases h
  | cons v st1 =>
    dsimp only at h
    have ho : ((kIsI v && decide ((i : Nat) < nL))) = true := by
      by_cases g : ((kIsI v && decide ((i : Nat) < nL))) = true
      · exact g
      · rw [if_neg g] at h
        cases h
    rw [if_pos ho] at h
    cases h
    rw [Bool.and_eq_true] at ho
    have hi : (i : Nat) < nL := by simpa using ho.2
    cases v with
    | int x =>
      intro H locs cells slots ls hRM hS hl hc hz
      refine lv_istore hx hb hdg hl hi (kTl_put1 _ lv i (.int x)) (fun ls' hl' => ?_)
      exact k _ _ _ _ _ hRM hS hl' hc hz
    | long x => cases ho.1
    | float x => cases ho.1
    | double x => cases ho.1
    | null => cases ho.1
    | ref x => cases ho.1
    | retAddr x => cases ho.1
theorem ks_fstore_n {i : Fin 4} (hx : p.tables.exec = Jvm.exec) (hb : c.code = cc) (hdg : decode cc pc = .ok (.fstore_n i, 1))
    (h : kSto1 nL lv i (pc + 1) st mem kIsF = some (.inl (pc', lv', st', mem'))) (k : kA p l e R s m args below meth c Q D dA ext base xm nL n0 z0 pc' lv' st' mem') : kA p l e R s m args below meth c Q D dA ext base xm nL n0 z0 pc lv st mem := by
  unfold kSto1 at h
  cases st with
  | nil => cases h
  | cons v st1 =>
    dsimp only at h
    have ho : ((kIsF v && decide ((i : Nat) < nL))) = true := by
      by_cases g : ((kIsF v && decide ((i : Nat) < nL))) = true
      · exact g
      · rw [if_neg g] at h
        cases h
    rw [if_pos ho] at h
    cases h
    rw [Bool.and_eq_true] at ho
    have hi : (i : Nat) < nL := by simpa using ho.2
    cases v with
    | int x => cases ho.1
    | long x => cases ho.1
    | float x =>
      intro H locs cells slots ls hRM hS hl hc hz
      refine lv_fstore_n hx hb hdg rfl hl hi (kTl_put1 _ lv i (.float x)) (fun ls' hl' => ?_)
      exact k _ _ _ _ _ hRM hS hl' hc hz
    | double x => cases ho.1
    | null => cases ho.1
    | ref x => cases ho.1
    | retAddr x => cases ho.1
theorem ks_astore_n {i : Fin 4} (hx : p.tables.exec = Jvm.exec) (hb : c.code = cc) (hdg : decode cc pc = .ok (.astore_n i, 1))
    (h : kSto1 nL lv i (pc + 1) st mem kIsA = some (.inl (pc', lv', st', mem'))) (k : kA p l e R s m args below meth c Q D dA ext base xm nL n0 z0 pc' lv' st' mem') : kA p l e R s m args below meth c Q D dA ext base xm nL n0 z0 pc lv st mem := by
  unfold kSto1 at h
  cases st with
  | nil => cases h
  | cons v st1 =>
    dsimp only at h
    have ho : ((kIsA v && decide ((i : Nat) < nL))) = true := by
      by_cases g : ((kIsA v && decide ((i : Nat) < nL))) = true
      · exact g
      · rw [if_neg g] at h
        cases h
    rw [if_pos ho] at h
    cases h
    rw [Bool.and_eq_true] at ho
    have hi : (i : Nat) < nL := by simpa using ho.2
    cases v with
    | int x => cases ho.1
    | long x => cases ho.1
    | float x => cases ho.1
    | double x => cases ho.1
    | null =>
      intro H locs cells slots ls hRM hS hl hc hz
      refine lv_astore_nN hx hb hdg rfl hl hi (kTl_put1 _ lv i .null) (fun ls' hl' => ?_)
      exact k _ _ _ _ _ hRM hS hl' hc hz
    | ref x =>
      intro H locs cells slots ls hRM hS hl hc hz
      refine lv_astore_n hx hb hdg rfl hl hi (kTl_put1 _ lv i (.ref x)) (fun ls' hl' => ?_)
      exact k _ _ _ _ _ hRM hS hl' hc hz
    | retAddr x => cases ho.1
theorem ks_astore {i : Nat} (hx : p.tables.exec = Jvm.exec) (hb : c.code = cc) (hdg : decode cc pc = .ok (.astore i, 2))
    (h : kSto1 nL lv i (pc + 2) st mem kIsA = some (.inl (pc', lv', st', mem'))) (k : kA p l e R s m args below meth c Q D dA ext base xm nL n0 z0 pc' lv' st' mem') : kA p l e R s m args below meth c Q D dA ext base xm nL n0 z0 pc lv st mem := by
  unfold kSto1 at h
  cases st with
  | nil => cases h
  | cons v st1 =>
    dsimp only at h
    have ho : ((kIsA v && decide ((i : Nat) < nL))) = true := by
      by_cases g : ((kIsA v && decide ((i : Nat) < nL))) = true
      · exact g
      · rw [if_neg g] at h
        cases h
    rw [if_pos ho] at h
    cases h
    rw [Bool.and_eq_true] at ho
    have hi : (i : Nat) < nL := by simpa using ho.2
    cases v with
    | int x => cases ho.1
    | long x => cases ho.1
    | float x => cases ho.1
    | double x => cases ho.1
    | null =>
      intro H locs cells slots ls hRM hS hl hc hz
      refine lv_astoreN hx hb hdg hl hi (kTl_put1 _ lv i .null) (fun ls' hl' => ?_)
      exact k _ _ _ _ _ hRM hS hl' hc hz
    | ref x =>
      intro H locs cells slots ls hRM hS hl hc hz
      refine lv_astore hx hb hdg hl hi (kTl_put1 _ lv i (.ref x)) (fun ls' hl' => ?_)
      exact k _ _ _ _ _ hRM hS hl' hc hz
    | retAddr x => cases ho.1
theorem ks_lstore_n {i : Fin 4} (hx : p.tables.exec = Jvm.exec) (hb : c.code = cc) (hdg : decode cc pc = .ok (.lstore_n i, 1))
    (h : kSto2 nL lv i (pc + 1) st mem kIsJ = some (.inl (pc', lv', st', mem'))) (k : kA p l e R s m args below meth c Q D dA ext base xm nL n0 z0 pc' lv' st' mem') : kA p l e R s m args below meth c Q D dA ext base xm nL n0 z0 pc lv st mem := by
  unfold kSto2 at h
  cases st with
  | nil => cases h
  | cons v st1 =>
    dsimp only at h
    have ho : ((kIsJ v && decide ((i : Nat) + 1 < nL))) = true := by
      by_cases g : ((kIsJ v && decide ((i : Nat) + 1 < nL))) = true
      · exact g
      · rw [if_neg g] at h
        cases h
    rw [if_pos ho] at h
    cases h
    rw [Bool.and_eq_true] at ho
    have hi : (i : Nat) + 1 < nL := by simpa using ho.2
    cases v with
    | int x => cases ho.1
    | long x =>
      intro H locs cells slots ls hRM hS hl hc hz
      refine lv_lstore_n hx hb hdg rfl hl hi (kTl_put2 _ lv i (.long x)) (fun ls' hl' => ?_)
      exact k _ _ _ _ _ hRM hS hl' hc hz
    | float x => cases ho.1
    | double x => cases ho.1
    | null => cases ho.1
    | ref x => cases ho.1
    | retAddr x => cases ho.1
theorem ks_lstore {i : Nat} (hx : p.tables.exec = Jvm.exec) (hb : c.code = cc) (hdg : decode cc pc = .ok (.lstore i, 2))
    (h : kSto2 nL lv i (pc + 2) st mem kIsJ = some (.inl (pc', lv', st', mem'))) (k : kA p l e R s m args below meth c Q D dA ext base xm nL n0 z0 pc' lv' st' mem') : kA p l e R s m args below meth c Q D dA ext base xm nL n0 z0 pc lv st mem := by
  unfold kSto2 at h
  cases st with
  | nil => cases h
  | cons v st1 =>
    dsimp only at h
    have ho : ((kIsJ v && decide ((i : Nat) + 1 < nL))) = true := by
      by_cases g : ((kIsJ v && decide ((i : Nat) + 1 < nL))) = true
      · exact g
      · rw [if_neg g] at h
        cases h
    rw [if_pos ho] at h
    cases h
    rw [Bool.and_eq_true] at ho
    have hi : (i : Nat) + 1 < nL := by simpa using ho.2
    cases v with
    | int x => cases ho.1
    | long x =>
      intro H locs cells slots ls hRM hS hl hc hz
      refine lv_lstore hx hb hdg hl hi (kTl_put2 _ lv i (.long x)) (fun ls' hl' => ?_)
      exact k _ _ _ _ _ hRM hS hl' hc hz
    | float x => cases ho.1
    | double x => cases ho.1
    | null => cases ho.1
    | ref x => cases ho.1
    | retAddr x => cases ho.1
theorem ks_dstore {i : Nat} (hx : p.tables.exec = Jvm.exec) (hb : c.code = cc) (hdg : decode cc pc = .ok (.dstore i, 2))
    (h : kSto2 nL lv i (pc + 2) st mem kIsD = some (.inl (pc', lv', st', mem'))) (k : kA p l e R s m args below meth c Q D dA ext base xm nL n0 z0 pc' lv' st' mem') : kA p l e R s m args below meth c Q D dA ext base xm nL n0 z0 pc lv st mem := by
  unfold kSto2 at h
  cases st with
  | nil => cases h
  | cons v st1 =>
    dsimp only at h
    have ho : ((kIsD v && decide ((i : Nat) + 1 < nL))) = true := by
      by_cases g : ((kIsD v && decide ((i : Nat) + 1 < nL))) = true
      · exact g
      · rw [if_neg g] at h
        cases h
    rw [if_pos ho] at h
    cases h
    rw [Bool.and_eq_true] at ho
    have hi : (i : Nat) + 1 < nL := by simpa using ho.2
    cases v with
    | int x => cases ho.1
    | long x => cases ho.1
    | float x => cases ho.1
    | double x =>
      intro H locs cells slots ls hRM hS hl hc hz
      refine lv_dstore hx hb hdg hl hi (kTl_put2 _ lv i (.double x)) (fun ls' hl' => ?_)
      exact k _ _ _ _ _ hRM hS hl' hc hz
    | null => cases ho.1
    | ref x => cases ho.1
    | retAddr x => cases ho.1
theorem ks_iinc {i : Nat} {n : Int} (hx : p.tables.exec = Jvm.exec) (hb : c.code = cc) (hdg : decode cc pc = .ok (.iinc i n, 3)) {x : Int32} (hv : kLv lv i = some (.int x)) (hi : i < nL)
    (k : kA p l e R s m args below meth c Q D dA ext base xm nL n0 z0 (pc + 3) (kPut1 lv i (.int (x + Int32.ofInt n))) st mem) : kA p l e R s m args below meth c Q D dA ext base xm nL n0 z0 pc lv st mem := by
  intro H locs cells slots ls hRM hS hl hc hz
  have hm : (i, Value.int x) ∈ kTl (kAd ext base) lv := List.mem_map.mpr ⟨(i, .int x), kLv_mem hv, rfl⟩
  obtain ⟨j, hj⟩ := List.getElem?_of_mem hm
  refine lv_iinc hx hb hdg hl hj rfl hi (kTl_put1 _ lv i (.int (x + Int32.ofInt n))) (fun ls' hl' => ?_)
  exact k _ _ _ _ _ hRM hS hl' hc hz
theorem ks_pop2 (hx : p.tables.exec = Jvm.exec) (hb : c.code = cc) (hdg : decode cc pc = .ok (.pop2, 1)) {v : Value} (hv : v.category = 2) (k : kA p l e R s m args below meth c Q D dA ext base xm nL n0 z0 (pc + 1) lv st mem) : kA p l e R s m args below meth c Q D dA ext base xm nL n0 z0 pc lv (v :: st) mem := by
  intro H locs cells slots ls hRM hS hl hc hz
  refine lv_pop2_2 hx hb hdg (by rw [kV_cat]; exact hv) ?_
  exact k _ _ _ _ _ hRM hS hl hc hz
theorem ks_if_eq {o : Int} {x : Int32} (ht : (pc : Int) + o = (a : Int)) (hx : p.tables.exec = Jvm.exec) (hb : c.code = cc) (hdg : decode cc pc = .ok (.ifCond .eq o, 3)) (k : kA p l e R s m args below meth c Q D dA ext base xm nL n0 z0 (if kIf .eq x 0 then a else pc + 3) lv st mem) : kA p l e R s m args below meth c Q D dA ext base xm nL n0 z0 pc lv (.int x :: st) mem := by
  intro H locs cells slots ls hRM hS hl hc hz
  refine lv_if_eq hx hb hdg ht (fun q => ?_) (fun q => ?_)
  · rw [if_pos (show kIf .eq x 0 = true by simp [kIf]; first | exact q | exact Int32.not_lt.mpr q)] at k
    exact k _ _ _ _ _ hRM hS hl hc hz
  · rw [if_neg (show ¬ kIf .eq x 0 = true by simp [kIf]; first | exact q | exact Int32.not_le.mp q | exact Int32.not_lt.mp q)] at k
    exact k _ _ _ _ _ hRM hS hl hc hz
theorem ks_icmp_eq {o : Int} {x y : Int32} (ht : (pc : Int) + o = (a : Int)) (hx : p.tables.exec = Jvm.exec) (hb : c.code = cc) (hdg : decode cc pc = .ok (.if_icmp .eq o, 3)) (k : kA p l e R s m args below meth c Q D dA ext base xm nL n0 z0 (if kIf .eq x y then a else pc + 3) lv st mem) : kA p l e R s m args below meth c Q D dA ext base xm nL n0 z0 pc lv (.int y :: .int x :: st) mem := by
  intro H locs cells slots ls hRM hS hl hc hz
  refine lv_icmp_eq hx hb hdg ht (fun q => ?_) (fun q => ?_)
  · rw [if_pos (show kIf .eq x y = true by simp [kIf]; first | exact q | exact Int32.not_lt.mpr q)] at k
    exact k _ _ _ _ _ hRM hS hl hc hz
  · rw [if_neg (show ¬ kIf .eq x y = true by simp [kIf]; first | exact q | exact Int32.not_le.mp q | exact Int32.not_lt.mp q)] at k
    exact k _ _ _ _ _ hRM hS hl hc hz
theorem ks_if_ne {o : Int} {x : Int32} (ht : (pc : Int) + o = (a : Int)) (hx : p.tables.exec = Jvm.exec) (hb : c.code = cc) (hdg : decode cc pc = .ok (.ifCond .ne o, 3)) (k : kA p l e R s m args below meth c Q D dA ext base xm nL n0 z0 (if kIf .ne x 0 then a else pc + 3) lv st mem) : kA p l e R s m args below meth c Q D dA ext base xm nL n0 z0 pc lv (.int x :: st) mem := by
  intro H locs cells slots ls hRM hS hl hc hz
  refine lv_if_ne hx hb hdg ht (fun q => ?_) (fun q => ?_)
  · rw [if_pos (show kIf .ne x 0 = true by simp [kIf]; first | exact q | exact Int32.not_lt.mpr q)] at k
    exact k _ _ _ _ _ hRM hS hl hc hz
  · rw [if_neg (show ¬ kIf .ne x 0 = true by simp [kIf]; first | exact q | exact Int32.not_le.mp q | exact Int32.not_lt.mp q)] at k
    exact k _ _ _ _ _ hRM hS hl hc hz
theorem ks_icmp_ne {o : Int} {x y : Int32} (ht : (pc : Int) + o = (a : Int)) (hx : p.tables.exec = Jvm.exec) (hb : c.code = cc) (hdg : decode cc pc = .ok (.if_icmp .ne o, 3)) (k : kA p l e R s m args below meth c Q D dA ext base xm nL n0 z0 (if kIf .ne x y then a else pc + 3) lv st mem) : kA p l e R s m args below meth c Q D dA ext base xm nL n0 z0 pc lv (.int y :: .int x :: st) mem := by
  intro H locs cells slots ls hRM hS hl hc hz
  refine lv_icmp_ne hx hb hdg ht (fun q => ?_) (fun q => ?_)
  · rw [if_pos (show kIf .ne x y = true by simp [kIf]; first | exact q | exact Int32.not_lt.mpr q)] at k
    exact k _ _ _ _ _ hRM hS hl hc hz
  · rw [if_neg (show ¬ kIf .ne x y = true by simp [kIf]; first | exact q | exact Int32.not_le.mp q | exact Int32.not_lt.mp q)] at k
    exact k _ _ _ _ _ hRM hS hl hc hz
theorem ks_if_lt {o : Int} {x : Int32} (ht : (pc : Int) + o = (a : Int)) (hx : p.tables.exec = Jvm.exec) (hb : c.code = cc) (hdg : decode cc pc = .ok (.ifCond .lt o, 3)) (k : kA p l e R s m args below meth c Q D dA ext base xm nL n0 z0 (if kIf .lt x 0 then a else pc + 3) lv st mem) : kA p l e R s m args below meth c Q D dA ext base xm nL n0 z0 pc lv (.int x :: st) mem := by
  intro H locs cells slots ls hRM hS hl hc hz
  refine lv_if_lt hx hb hdg ht (fun q => ?_) (fun q => ?_)
  · rw [if_pos (show kIf .lt x 0 = true by simp [kIf]; first | exact q | exact Int32.not_lt.mpr q)] at k
    exact k _ _ _ _ _ hRM hS hl hc hz
  · rw [if_neg (show ¬ kIf .lt x 0 = true by simp [kIf]; first | exact q | exact Int32.not_le.mp q | exact Int32.not_lt.mp q)] at k
    exact k _ _ _ _ _ hRM hS hl hc hz
theorem ks_icmp_lt {o : Int} {x y : Int32} (ht : (pc : Int) + o = (a : Int)) (hx : p.tables.exec = Jvm.exec) (hb : c.code = cc) (hdg : decode cc pc = .ok (.if_icmp .lt o, 3)) (k : kA p l e R s m args below meth c Q D dA ext base xm nL n0 z0 (if kIf .lt x y then a else pc + 3) lv st mem) : kA p l e R s m args below meth c Q D dA ext base xm nL n0 z0 pc lv (.int y :: .int x :: st) mem := by
  intro H locs cells slots ls hRM hS hl hc hz
  refine lv_icmp_lt hx hb hdg ht (fun q => ?_) (fun q => ?_)
  · rw [if_pos (show kIf .lt x y = true by simp [kIf]; first | exact q | exact Int32.not_lt.mpr q)] at k
    exact k _ _ _ _ _ hRM hS hl hc hz
  · rw [if_neg (show ¬ kIf .lt x y = true by simp [kIf]; first | exact q | exact Int32.not_le.mp q | exact Int32.not_lt.mp q)] at k
    exact k _ _ _ _ _ hRM hS hl hc hz
theorem ks_if_ge {o : Int} {x : Int32} (ht : (pc : Int) + o = (a : Int)) (hx : p.tables.exec = Jvm.exec) (hb : c.code = cc) (hdg : decode cc pc = .ok (.ifCond .ge o, 3)) (k : kA p l e R s m args below meth c Q D dA ext base xm nL n0 z0 (if kIf .ge x 0 then a else pc + 3) lv st mem) : kA p l e R s m args below meth c Q D dA ext base xm nL n0 z0 pc lv (.int x :: st) mem := by
  intro H locs cells slots ls hRM hS hl hc hz
  refine lv_if_ge hx hb hdg ht (fun q => ?_) (fun q => ?_)
  · rw [if_pos (show kIf .ge x 0 = true by simp [kIf]; first | exact q | exact Int32.not_lt.mpr q)] at k
    exact k _ _ _ _ _ hRM hS hl hc hz
  · rw [if_neg (show ¬ kIf .ge x 0 = true by simp [kIf]; first | exact q | exact Int32.not_le.mp q | exact Int32.not_lt.mp q)] at k
    exact k _ _ _ _ _ hRM hS hl hc hz
theorem ks_icmp_ge {o : Int} {x y : Int32} (ht : (pc : Int) + o = (a : Int)) (hx : p.tables.exec = Jvm.exec) (hb : c.code = cc) (hdg : decode cc pc = .ok (.if_icmp .ge o, 3)) (k : kA p l e R s m args below meth c Q D dA ext base xm nL n0 z0 (if kIf .ge x y then a else pc + 3) lv st mem) : kA p l e R s m args below meth c Q D dA ext base xm nL n0 z0 pc lv (.int y :: .int x :: st) mem := by
  intro H locs cells slots ls hRM hS hl hc hz
  refine lv_icmp_ge hx hb hdg ht (fun q => ?_) (fun q => ?_)
  · rw [if_pos (show kIf .ge x y = true by simp [kIf]; first | exact q | exact Int32.not_lt.mpr q)] at k
    exact k _ _ _ _ _ hRM hS hl hc hz
  · rw [if_neg (show ¬ kIf .ge x y = true by simp [kIf]; first | exact q | exact Int32.not_le.mp q | exact Int32.not_lt.mp q)] at k
    exact k _ _ _ _ _ hRM hS hl hc hz
theorem ks_if_gt {o : Int} {x : Int32} (ht : (pc : Int) + o = (a : Int)) (hx : p.tables.exec = Jvm.exec) (hb : c.code = cc) (hdg : decode cc pc = .ok (.ifCond .gt o, 3)) (k : kA p l e R s m args below meth c Q D dA ext base xm nL n0 z0 (if kIf .gt x 0 then a else pc + 3) lv st mem) : kA p l e R s m args below meth c Q D dA ext base xm nL n0 z0 pc lv (.int x :: st) mem := by
  intro H locs cells slots ls hRM hS hl hc hz
  refine lv_if_gt hx hb hdg ht (fun q => ?_) (fun q => ?_)
  · rw [if_pos (show kIf .gt x 0 = true by simp [kIf]; first | exact q | exact Int32.not_lt.mpr q)] at k
    exact k _ _ _ _ _ hRM hS hl hc hz
  · rw [if_neg (show ¬ kIf .gt x 0 = true by simp [kIf]; first | exact q | exact Int32.not_le.mp q | exact Int32.not_lt.mp q)] at k
    exact k _ _ _ _ _ hRM hS hl hc hz
theorem ks_icmp_gt {o : Int} {x y : Int32} (ht : (pc : Int) + o = (a : Int)) (hx : p.tables.exec = Jvm.exec) (hb : c.code = cc) (hdg : decode cc pc = .ok (.if_icmp .gt o, 3)) (k : kA p l e R s m args below meth c Q D dA ext base xm nL n0 z0 (if kIf .gt x y then a else pc + 3) lv st mem) : kA p l e R s m args below meth c Q D dA ext base xm nL n0 z0 pc lv (.int y :: .int x :: st) mem := by
  intro H locs cells slots ls hRM hS hl hc hz
  refine lv_icmp_gt hx hb hdg ht (fun q => ?_) (fun q => ?_)
  · rw [if_pos (show kIf .gt x y = true by simp [kIf]; first | exact q | exact Int32.not_lt.mpr q)] at k
    exact k _ _ _ _ _ hRM hS hl hc hz
  · rw [if_neg (show ¬ kIf .gt x y = true by simp [kIf]; first | exact q | exact Int32.not_le.mp q | exact Int32.not_lt.mp q)] at k
    exact k _ _ _ _ _ hRM hS hl hc hz
theorem ks_if_le {o : Int} {x : Int32} (ht : (pc : Int) + o = (a : Int)) (hx : p.tables.exec = Jvm.exec) (hb : c.code = cc) (hdg : decode cc pc = .ok (.ifCond .le o, 3)) (k : kA p l e R s m args below meth c Q D dA ext base xm nL n0 z0 (if kIf .le x 0 then a else pc + 3) lv st mem) : kA p l e R s m args below meth c Q D dA ext base xm nL n0 z0 pc lv (.int x :: st) mem := by
  intro H locs cells slots ls hRM hS hl hc hz
  refine lv_if_le hx hb hdg ht (fun q => ?_) (fun q => ?_)
  · rw [if_pos (show kIf .le x 0 = true by simp [kIf]; first | exact q | exact Int32.not_lt.mpr q)] at k
    exact k _ _ _ _ _ hRM hS hl hc hz
  · rw [if_neg (show ¬ kIf .le x 0 = true by simp [kIf]; first | exact q | exact Int32.not_le.mp q | exact Int32.not_lt.mp q)] at k
    exact k _ _ _ _ _ hRM hS hl hc hz
theorem ks_icmp_le {o : Int} {x y : Int32} (ht : (pc : Int) + o = (a : Int)) (hx : p.tables.exec = Jvm.exec) (hb : c.code = cc) (hdg : decode cc pc = .ok (.if_icmp .le o, 3)) (k : kA p l e R s m args below meth c Q D dA ext base xm nL n0 z0 (if kIf .le x y then a else pc + 3) lv st mem) : kA p l e R s m args below meth c Q D dA ext base xm nL n0 z0 pc lv (.int y :: .int x :: st) mem := by
  intro H locs cells slots ls hRM hS hl hc hz
  refine lv_icmp_le hx hb hdg ht (fun q => ?_) (fun q => ?_)
  · rw [if_pos (show kIf .le x y = true by simp [kIf]; first | exact q | exact Int32.not_lt.mpr q)] at k
    exact k _ _ _ _ _ hRM hS hl hc hz
  · rw [if_neg (show ¬ kIf .le x y = true by simp [kIf]; first | exact q | exact Int32.not_le.mp q | exact Int32.not_lt.mp q)] at k
    exact k _ _ _ _ _ hRM hS hl hc hz
theorem ks_ishl (hx : p.tables.exec = Jvm.exec) (hb : c.code = cc) (hdg : decode cc pc = .ok (.ishl, 1))
    (h : kBinI st pc lv mem (fun x y => some (.int (x <<< (y &&& 31)))) = some (.inl (pc', lv', st', mem'))) (k : kA p l e R s m args below meth c Q D dA ext base xm nL n0 z0 pc' lv' st' mem') : kA p l e R s m args below meth c Q D dA ext base xm nL n0 z0 pc lv st mem := by
  unfold kBinI at h
  obtain ⟨y, st1, rfl, h1⟩ := kTopI_some h
  obtain ⟨x, st2, rfl, h2⟩ := kTopI_some h1
  cases h2
  intro H locs cells slots ls hRM hS hl hc hz
  refine lv_ishl hx hb hdg ?_
  exact k _ _ _ _ _ hRM hS hl hc hz
theorem ks_ishr (hx : p.tables.exec = Jvm.exec) (hb : c.code = cc) (hdg : decode cc pc = .ok (.ishr, 1))
    (h : kBinI st pc lv mem (fun x y => some (.int (x >>> (y &&& 31)))) = some (.inl (pc', lv', st', mem'))) (k : kA p l e R s m args below meth c Q D dA ext base xm nL n0 z0 pc' lv' st' mem') : kA p l e R s m args below meth c Q D dA ext base xm nL n0 z0 pc lv st mem := by
  unfold kBinI at h
  obtain ⟨y, st1, rfl, h1⟩ := kTopI_some h
  obtain ⟨x, st2, rfl, h2⟩ := kTopI_some h1
  cases h2
  intro H locs cells slots ls hRM hS hl hc hz
  refine lv_ishr hx hb hdg ?_
  exact k _ _ _ _ _ hRM hS hl hc hz
end KROWS
