/-! ===== entries of the tables ===== -/
def kIsP : Instr → Bool
  | .goto _ => false
  | .ifCond _ _ => false
  | .if_icmp _ _ => false
  | .ifnull _ => false
  | .ifnonnull _ => false
  | .if_acmp _ _ => false
  | .ldc _ => false
  | .ldc_w _ => false
  | .ldc2_w _ => false
  | .tableswitch _ _ _ _ => false
  | .getstatic _ => false
  | .getfield _ => false
  | .putfield _ => false
  | .new _ => false
  | .newarray _ => false
  | .anewarray _ => false
  | .checkcast _ => false
  | .invokevirtual _ => false
  | .invokespecial _ => false
  | .invokestatic _ => false
  | .invokeinterface _ _ => false
  | .areturn => false
  | _ => true
def kPl (ins : Instr) (len : Nat) : Bool := kIsP ins && len == kLen ins
def kJOk (ins : Instr) (len pc a : Nat) : Bool := match ins with
  | .goto o => len == 3 && decide ((pc : Int) + o = a)
  | .ifCond _ o => len == 3 && decide ((pc : Int) + o = a)
  | .if_icmp _ o => len == 3 && decide ((pc : Int) + o = a)
  | .ifnull o => len == 3 && decide ((pc : Int) + o = a)
  | .ifnonnull o => len == 3 && decide ((pc : Int) + o = a)
  | .if_acmp _ o => len == 3 && decide ((pc : Int) + o = a)
  | _ => false
def kEnt (own mn : String) (cc : ByteArray) (rt : Option FieldType) (hh : Option (List (Nat × Nat × Nat × Nat))) (x : Nat × Instr × Nat × Nat) : Prop :=
  kDec cc x.1 x.2.1 ∧ kRes kSn kDfl kFty own mn x.1 x.2.1 x.2.2.1 x.2.2.2 ∧
  (∀ kd i, x.2.1 = kIvk kd i → kSpOk own kd i x.2.2.1 ∧ (x.2.2.1 < 9000 → kInv kNL kRT kY kBy kHH own kd i x.2.2.1 x.2.2.2)) ∧
  (x.2.1 = .areturn → ∃ t, rt = some t ∧ ((∃ n, t = .object n) ∨ ∃ u, t = .array u)) ∧
  ∀ i, x.2.1 = .new i → 5000 ≤ x.2.2.1 → kThr kStrs cc own (kEx (x.2.2.1 - 5000)) x.1 i ∧ hh = none
theorem kcons {α : Type} {p : α → Prop} {a : α} {l : List α} (h : p a) (t : ∀ x ∈ l, p x) : ∀ x ∈ a :: l, p x := List.forall_mem_cons.mpr ⟨h, t⟩
theorem knil {α : Type} {p : α → Prop} : ∀ x ∈ ([] : List α), p x := fun _ h => absurd h List.not_mem_nil
theorem kwl {w : Jvm.Cond} {l : List Jvm.Cond} (h : w ∈ kTbl) (t : ∀ x ∈ l, x ∈ kTbl) : ∀ x ∈ w :: l, x ∈ kTbl := List.forall_mem_cons.mpr ⟨h, t⟩
theorem kwn : ∀ x ∈ ([] : List Jvm.Cond), x ∈ kTbl := fun _ h => absurd h List.not_mem_nil
section KENT
variable {own mn : String} {cc : ByteArray} {rt : Option FieldType} {hh : Option (List (Nat × Nat × Nat × Nat))} {pc a b : Nat} {ins : Instr}
theorem kNoIvk (h : kIsP ins = true) : ∀ kd i, ins ≠ kIvk kd i := by
  intro kd i e
  subst e
  rcases kd with _ | _ | _ | n <;> simp [kIvk, kIsP] at h
theorem ke_of (hd : kDec cc pc ins) (hr : kRes kSn kDfl kFty own mn pc ins a b) (h1 : ∀ kd i, ins ≠ kIvk kd i) (h2 : ins ≠ .areturn) (h3 : ∀ i, ins ≠ .new i) : kEnt own mn cc rt hh (pc, ins, a, b) :=
  ⟨hd, hr, fun kd i h => absurd h (h1 kd i), fun h => absurd h h2, fun i h => absurd h (h3 i)⟩
theorem kIvk_ne (h : match ins with | .invokevirtual _ => False | .invokespecial _ => False | .invokestatic _ => False | .invokeinterface _ _ => False | _ => True) : ∀ kd i, ins ≠ kIvk kd i := by
  intro kd i e
  subst e
  rcases kd with _ | _ | _ | n <;> exact h
theorem ke_P {len : Nat} (hd : decode cc pc = .ok (ins, len)) (hp : kPl ins len = true) : kEnt own mn cc rt hh (pc, ins, a, b) := by
  unfold kPl at hp
  rw [Bool.and_eq_true] at hp
  obtain ⟨h1, h2⟩ := hp
  have h2 : len = kLen ins := by simpa using h2
  subst h2
  refine ke_of ?_ ?_ (kNoIvk h1) ?_ ?_
  · cases ins <;> first | exact hd | cases h1
  · cases ins <;> first | trivial | cases h1
  · rintro rfl
    cases h1
  · rintro i rfl
    cases h1
theorem ke_J {len : Nat} (hd : decode cc pc = .ok (ins, len)) (hp : kJOk ins len pc a = true) : kEnt own mn cc rt hh (pc, ins, a, b) := by
  cases ins
  case goto o =>
    simp only [kJOk, Bool.and_eq_true, beq_iff_eq, decide_eq_true_eq] at hp
    obtain ⟨rfl, h⟩ := hp
    exact ke_of hd h (kIvk_ne trivial) (by simp) (by simp)
  case ifCond c o =>
    simp only [kJOk, Bool.and_eq_true, beq_iff_eq, decide_eq_true_eq] at hp
    obtain ⟨rfl, h⟩ := hp
    exact ke_of hd h (kIvk_ne trivial) (by simp) (by simp)
  case if_icmp c o =>
    simp only [kJOk, Bool.and_eq_true, beq_iff_eq, decide_eq_true_eq] at hp
    obtain ⟨rfl, h⟩ := hp
    exact ke_of hd h (kIvk_ne trivial) (by simp) (by simp)
  case ifnull o =>
    simp only [kJOk, Bool.and_eq_true, beq_iff_eq, decide_eq_true_eq] at hp
    obtain ⟨rfl, h⟩ := hp
    exact ke_of hd h (kIvk_ne trivial) (by simp) (by simp)
  case ifnonnull o =>
    simp only [kJOk, Bool.and_eq_true, beq_iff_eq, decide_eq_true_eq] at hp
    obtain ⟨rfl, h⟩ := hp
    exact ke_of hd h (kIvk_ne trivial) (by simp) (by simp)
  case if_acmp c o =>
    simp only [kJOk, Bool.and_eq_true, beq_iff_eq, decide_eq_true_eq] at hp
    obtain ⟨rfl, h⟩ := hp
    exact ke_of hd h (kIvk_ne trivial) (by simp) (by simp)
  all_goals cases hp
theorem ke_T {d lo hi : Int} {offs : Array Int} {len : Nat} (hd : decode cc pc = .ok (.tableswitch d lo hi offs, len)) (h : 0 ≤ (pc : Int) + d ∧ ∀ o ∈ offs.toList, 0 ≤ (pc : Int) + o) : kEnt own mn cc rt hh (pc, .tableswitch d lo hi offs, a, b) :=
  ke_of ⟨len, hd⟩ ⟨h.1, fun o ho => h.2 o (by simpa using ho)⟩ (kIvk_ne trivial) (by simp) (by simp)
theorem ke_R (hd : decode cc pc = .ok (.areturn, 1)) (h : ∃ t, rt = some t ∧ ((∃ n, t = .object n) ∨ ∃ u, t = .array u)) : kEnt own mn cc rt hh (pc, .areturn, a, b) :=
  ⟨hd, trivial, fun kd i h => absurd h (kIvk_ne trivial kd i), fun _ => h, fun i h => by cases h⟩
theorem ke_G {i N : Nat} {C : String} {T : u_T} (hd : decode cc pc = .ok (.getfield i, 3)) (hC : kCI kFty a C T N) (hN : b < N) (hF : kFL own i T b) : kEnt own mn cc rt hh (pc, .getfield i, a, b) :=
  ke_of hd ⟨C, T, N, hC, hN, hF⟩ (kIvk_ne trivial) (by simp) (by simp)
theorem ke_U {i N : Nat} {C : String} {T : u_T} (hd : decode cc pc = .ok (.putfield i, 3)) (hC : kCI kFty a C T N) (hN : b < N) (hF : kFL own i T b) (hfin : (T b).2.2.2 = false ∨ ((T b).2.2.2 = true ∧ mn = "<init>" ∧ (T b).1 = own ∧ Jvm.Cond.fieldLink own i (T b).1 (T b).2.1 (T b).2.2.1 ∈ kTbl)) : kEnt own mn cc rt hh (pc, .putfield i, a, b) :=
  ke_of hd ⟨C, T, N, hC, hN, hF, hfin⟩ (kIvk_ne trivial) (by simp) (by simp)
theorem ke_S {i : Nat} (hd : decode cc pc = .ok (.getstatic i, 3)) (h : Jvm.Cond.fieldLink own i (kSn a).1 (kSn a).2.1 (kSn a).2.2 ∈ kTbl ∨ ∃ host, Jvm.Cond.fieldLinkNest own i (kSn a).1 (kSn a).2.1 (kSn a).2.2 host ∈ kTbl) : kEnt own mn cc rt hh (pc, .getstatic i, a, b) :=
  ke_of hd h (kIvk_ne trivial) (by simp) (by simp)
theorem ke_C1 {i : Nat} (hd : decode cc pc = .ok (.ldc i, 2)) (h : Jvm.Cond.constant own i (Int32.ofNat b) ∈ kTbl) : kEnt own mn cc rt hh (pc, .ldc i, 0, b) :=
  ke_of hd ⟨fun _ => h, fun h => absurd h (by decide), fun h => absurd h (by decide)⟩ (kIvk_ne trivial) (by simp) (by simp)
theorem ke_CF {i : Nat} (hd : decode cc pc = .ok (.ldc i, 2)) (h : Jvm.Cond.constantFloat own i (UInt32.ofNat b) ∈ kTbl) : kEnt own mn cc rt hh (pc, .ldc i, 1, b) :=
  ke_of hd ⟨fun h => absurd h (by decide), fun _ => h, fun h => absurd h (by decide)⟩ (kIvk_ne trivial) (by simp) (by simp)
theorem ke_CM {i : Nat} (hd : decode cc pc = .ok (.ldc i, 2)) (h : Jvm.Cond.classLink own i "[Ljava/lang/Object;" ∈ kTbl) : kEnt own mn cc rt hh (pc, .ldc i, 2, b) :=
  ke_of hd ⟨fun h => absurd h (by decide), fun h => absurd h (by decide), fun _ => h⟩ (kIvk_ne trivial) (by simp) (by simp)
theorem ke_CW {i : Nat} (hd : decode cc pc = .ok (.ldc_w i, 3)) (h : Jvm.Cond.constantFloat own i (UInt32.ofNat b) ∈ kTbl) : kEnt own mn cc rt hh (pc, .ldc_w i, 1, b) :=
  ke_of hd ⟨fun h => absurd h (by decide), fun _ => h⟩ (kIvk_ne trivial) (by simp) (by simp)
theorem ke_C2 {i : Nat} (hd : decode cc pc = .ok (.ldc_w i, 3)) (h : Jvm.Cond.constant own i (Int32.ofNat b) ∈ kTbl) : kEnt own mn cc rt hh (pc, .ldc_w i, 0, b) :=
  ke_of hd ⟨fun _ => h, fun h => absurd h (by decide)⟩ (kIvk_ne trivial) (by simp) (by simp)
theorem ke_CL {i : Nat} (hd : decode cc pc = .ok (.ldc2_w i, 3)) (h : Jvm.Cond.constantLong own i (Int64.ofNat b) ∈ kTbl) : kEnt own mn cc rt hh (pc, .ldc2_w i, 0, b) :=
  ke_of hd ⟨fun _ => h, fun h => absurd h (by decide)⟩ (kIvk_ne trivial) (by simp) (by simp)
theorem ke_CD {i : Nat} (hd : decode cc pc = .ok (.ldc2_w i, 3)) (h : Jvm.Cond.constantDouble own i (UInt64.ofNat b) ∈ kTbl) : kEnt own mn cc rt hh (pc, .ldc2_w i, 1, b) :=
  ke_of hd ⟨fun h => absurd h (by decide), fun _ => h⟩ (kIvk_ne trivial) (by simp) (by simp)
theorem ke_X {i : Nat} (hd : decode cc pc = .ok (.new i, 3)) (hn : hh = none) (h : kThr kStrs cc own (kEx (a - 5000)) pc i) (ha : 5000 ≤ a := by decide) : kEnt own mn cc rt hh (pc, .new i, a, b) :=
  ⟨hd, fun h => absurd h (Nat.not_lt.mpr ha), fun kd i h => absurd h (kIvk_ne trivial kd i), (fun h => by cases h), fun i' hi _ => by cases hi; exact ⟨h, hn⟩⟩
/-- the fields with which an object begins -/
def kDfOk (ci N : Nat) : Prop := ∃ fs : List Value, kDfl ci = some fs ∧ fs.length = N ∧ ∀ j, j < N → fs[j]? = some (defaultValue (kFty ci j)) ∧ ∀ ad, kV ad (defaultValue (kFty ci j)) = defaultValue (kFty ci j)
theorem ke_N {i N : Nat} {C : String} {T : u_T} (hd : decode cc pc = .ok (.new i, 3)) (hC : kCI kFty a C T N) (w1 : Jvm.Cond.classLink own i C ∈ kTbl) (w2 : Jvm.Cond.instantiable C N ∈ kTbl) (w3 : Jvm.Cond.initialized C ∈ kTbl) (hf : kDfOk a N) (ha : a < 5000 := by decide) : kEnt own mn cc rt hh (pc, .new i, a, b) :=
  ⟨hd, (fun _ => by obtain ⟨fs, h1, h2, h3⟩ := hf; exact ⟨C, T, N, fs, hC, w1, w2, w3, h1, h2, h3⟩), fun kd i h => absurd h (kIvk_ne trivial kd i), (fun h => by cases h), fun i' _ h => absurd h (Nat.not_le.mpr ha)⟩
theorem ke_A {ty : ArrayType} (hd : decode cc pc = .ok (.newarray ty, 2)) (h : Jvm.Cond.arrayClass (newarray.typeOf ty) ∈ kTbl) : kEnt own mn cc rt hh (pc, .newarray ty, a, b) :=
  ke_of hd h (kIvk_ne trivial) (by simp) (by simp)
theorem ke_B {i : Nat} (hd : decode cc pc = .ok (.anewarray i, 3)) (ha : a = 2 ∨ a = 3) (w1 : Jvm.Cond.classLink own i (kEn a) ∈ kTbl) (w2 : Jvm.Cond.arrayOver (.object (kEn a)) ∈ kTbl) : kEnt own mn cc rt hh (pc, .anewarray i, a, b) :=
  ke_of hd ⟨ha, w1, w2⟩ (kIvk_ne trivial) (by simp) (by simp)
theorem ke_K0 {i : Nat} {nm : String} (hd : decode cc pc = .ok (.checkcast i, 3)) (w : Jvm.Cond.classLink own i nm ∈ kTbl) (h : b < 1000 ∧ ∃ (C : String) (T : u_T) (N : Nat), vwCl[b]? = some (C, T, N) ∧ (C = nm ∨ Jvm.Cond.castable C nm ∈ kTbl)) : kEnt own mn cc rt hh (pc, .checkcast i, 0, b) :=
  ke_of hd ⟨nm, w, fun _ => h, fun h => absurd h (by decide), fun h => absurd h (by decide)⟩ (kIvk_ne trivial) (by simp) (by simp)
theorem ke_K1 {i : Nat} (hd : decode cc pc = .ok (.checkcast i, 3)) (w : Jvm.Cond.classLink own i "[I" ∈ kTbl) : kEnt own mn cc rt hh (pc, .checkcast i, 1, 0) :=
  ke_of hd ⟨_, w, fun h => absurd h (by decide), fun _ => Or.inl ⟨rfl, rfl⟩, fun h => absurd h (by decide)⟩ (kIvk_ne trivial) (by simp) (by simp)
theorem ke_K3 {i : Nat} (hd : decode cc pc = .ok (.checkcast i, 3)) (w : Jvm.Cond.classLink own i "[B" ∈ kTbl) : kEnt own mn cc rt hh (pc, .checkcast i, 1, 1) :=
  ke_of hd ⟨_, w, fun h => absurd h (by decide), fun _ => Or.inr ⟨rfl, rfl⟩, fun h => absurd h (by decide)⟩ (kIvk_ne trivial) (by simp) (by simp)
theorem ke_K2 {i : Nat} (hd : decode cc pc = .ok (.checkcast i, 3)) (w : Jvm.Cond.classLink own i "[Ljava/lang/Object;" ∈ kTbl) : kEnt own mn cc rt hh (pc, .checkcast i, 2, 2) :=
  ke_of hd ⟨_, w, fun h => absurd h (by decide), fun h => absurd h (by decide), fun _ => ⟨rfl, rfl⟩⟩ (kIvk_ne trivial) (by simp) (by simp)
theorem kIvk_inj {kd kd' i i' : Nat} (h : kIvk kd i = kIvk kd' i') : kd = kd' ∧ i = i' := by
  rcases kd with _ | _ | _ | n <;> rcases kd' with _ | _ | _ | n' <;> simp [kIvk] at h ⊢ <;> omega
theorem ke_sp {kd i : Nat} (hd : kDec cc pc (kIvk kd i)) (h : kSpOk own kd i a) (ha : ¬ a < 9000) : kEnt own mn cc rt hh (pc, kIvk kd i, a, b) :=
  ⟨hd, (by rcases kd with _ | _ | _ | n <;> trivial), (fun kd' i' e => by obtain ⟨rfl, rfl⟩ := kIvk_inj e; exact ⟨h, fun h => absurd h ha⟩), (fun h => by rcases kd with _ | _ | _ | n <;> cases h), (fun i h => by rcases kd with _ | _ | _ | n <;> cases h)⟩
theorem kSp_no {kd i : Nat} (ha : a < 9000) : kSpOk own kd i a := by
  unfold kSpOk
  refine ⟨?_, ?_, ?_, ?_, ?_⟩ <;> (intro h; exact absurd ha (by rw [h]; decide))
theorem ke_iv {kd i : Nat} (hd : kDec cc pc (kIvk kd i)) (ha : a < 9000) (h : kInv kNL kRT kY kBy kHH own kd i a b) : kEnt own mn cc rt hh (pc, kIvk kd i, a, b) :=
  ⟨hd, (by rcases kd with _ | _ | _ | n <;> trivial), (fun kd' i' e => by obtain ⟨rfl, rfl⟩ := kIvk_inj e; exact ⟨kSp_no ha, fun _ => h⟩), (fun h => by rcases kd with _ | _ | _ | n <;> cases h), (fun i h => by rcases kd with _ | _ | _ | n <;> cases h)⟩
theorem ke_I0 {i : Nat} (hd : decode cc pc = .ok (.invokevirtual i, 3)) (ha : a < 9000) (h : kInv kNL kRT kY kBy kHH own 0 i a b) : kEnt own mn cc rt hh (pc, .invokevirtual i, a, b) := ke_iv (kd := 0) hd ha h
theorem ke_I1 {i : Nat} (hd : decode cc pc = .ok (.invokespecial i, 3)) (ha : a < 9000) (h : kInv kNL kRT kY kBy kHH own 1 i a b) : kEnt own mn cc rt hh (pc, .invokespecial i, a, b) := ke_iv (kd := 1) hd ha h
theorem ke_I2 {i : Nat} (hd : decode cc pc = .ok (.invokestatic i, 3)) (ha : a < 9000) (h : kInv kNL kRT kY kBy kHH own 2 i a b) : kEnt own mn cc rt hh (pc, .invokestatic i, a, b) := ke_iv (kd := 2) hd ha h
theorem ke_I5 {i n : Nat} (hd : decode cc pc = .ok (.invokeinterface i n, 5)) (ha : a < 9000) (h : kInv kNL kRT kY kBy kHH own (n + 3) i a b) : kEnt own mn cc rt hh (pc, .invokeinterface i n, a, b) := by
  have := ke_iv (kd := n + 3) (i := i) (own := own) (mn := mn) (cc := cc) (rt := rt) (hh := hh) (pc := pc) (a := a) (b := b) hd ha h
  exact this
theorem ke_O {i : Nat} (hd : decode cc pc = .ok (.invokespecial i, 3)) (h : 1 = 1 ∧ Jvm.Cond.methodLink own i Lib.objectInit ∈ kTbl ∧ Jvm.Cond.instanceMethod Lib.objectInit ∈ kTbl ∧ Jvm.Cond.code Lib.objectInit ⟨#[0xb1]⟩ 1 none ∈ kTbl) : kEnt own mn cc rt hh (pc, .invokespecial i, 9000, b) :=
  ke_sp (kd := 1) hd ⟨fun _ => h, fun h => absurd h (by decide), fun h => absurd h (by decide), fun h => absurd h (by decide), fun h => absurd h (by decide)⟩ (by decide)
theorem ke_Y {i : Nat} (hd : decode cc pc = .ok (.invokestatic i, 3)) (h : 2 = 2 ∧ Jvm.Cond.methodLink own i arraycopyName ∈ kTbl ∧ Jvm.Cond.native arraycopyName ∈ kTbl ∧ Jvm.Cond.static arraycopyName ∈ kTbl ∧ Jvm.Cond.initialized "java/lang/System" ∈ kTbl) : kEnt own mn cc rt hh (pc, .invokestatic i, 9001, b) :=
  ke_sp (kd := 2) hd ⟨fun h => absurd h (by decide), fun _ => h, fun h => absurd h (by decide), fun h => absurd h (by decide), fun h => absurd h (by decide)⟩ (by decide)
theorem ke_L {i : Nat} (hd : decode cc pc = .ok (.invokevirtual i, 3)) (h : 0 = 0 ∧ Jvm.Cond.methodLink own i ⟨"[I", "clone", "()Ljava/lang/Object;"⟩ ∈ kTbl ∧ Jvm.Cond.sameMethod "[I" "java/lang/Object" "clone" "()Ljava/lang/Object;" ∈ kTbl ∧ Jvm.Cond.native ⟨"java/lang/Object", "clone", "()Ljava/lang/Object;"⟩ ∈ kTbl ∧ Jvm.Cond.instanceMethod ⟨"java/lang/Object", "clone", "()Ljava/lang/Object;"⟩ ∈ kTbl ∧ Jvm.Cond.selects "[I" ⟨"[I", "clone", "()Ljava/lang/Object;"⟩ ⟨"java/lang/Object", "clone", "()Ljava/lang/Object;"⟩ ∈ kTbl ∧ Jvm.Cond.castable "[I" "java/lang/Cloneable" ∈ kTbl) : kEnt own mn cc rt hh (pc, .invokevirtual i, 9002, b) :=
  ke_sp (kd := 0) hd ⟨fun h => absurd h (by decide), fun h => absurd h (by decide), fun _ => h, fun h => absurd h (by decide), fun h => absurd h (by decide)⟩ (by decide)
theorem ke_LB {i : Nat} (hd : decode cc pc = .ok (.invokevirtual i, 3)) (h : 0 = 0 ∧ Jvm.Cond.methodLink own i ⟨"[B", "clone", "()Ljava/lang/Object;"⟩ ∈ kTbl ∧ Jvm.Cond.sameMethod "[B" "java/lang/Object" "clone" "()Ljava/lang/Object;" ∈ kTbl ∧ Jvm.Cond.native ⟨"java/lang/Object", "clone", "()Ljava/lang/Object;"⟩ ∈ kTbl ∧ Jvm.Cond.instanceMethod ⟨"java/lang/Object", "clone", "()Ljava/lang/Object;"⟩ ∈ kTbl ∧ Jvm.Cond.selects "[B" ⟨"[B", "clone", "()Ljava/lang/Object;"⟩ ⟨"java/lang/Object", "clone", "()Ljava/lang/Object;"⟩ ∈ kTbl ∧ Jvm.Cond.castable "[B" "java/lang/Cloneable" ∈ kTbl) : kEnt own mn cc rt hh (pc, .invokevirtual i, 9004, b) :=
  ke_sp (kd := 0) hd ⟨fun h => absurd h (by decide), fun h => absurd h (by decide), fun h => absurd h (by decide), fun _ => h, fun h => absurd h (by decide)⟩ (by decide)
theorem ke_M {i : Nat} (hd : decode cc pc = .ok (.invokevirtual i, 3)) (h : 0 = 0 ∧ Jvm.Cond.methodLink own i ⟨"java/lang/Object", "getClass", "()Ljava/lang/Class;"⟩ ∈ kTbl ∧ Jvm.Cond.declares ⟨"java/lang/Object", "getClass", "()Ljava/lang/Class;"⟩ ∈ kTbl ∧ Jvm.Cond.selects "[Ljava/lang/Object;" ⟨"java/lang/Object", "getClass", "()Ljava/lang/Class;"⟩ ⟨"java/lang/Object", "getClass", "()Ljava/lang/Class;"⟩ ∈ kTbl ∧ Jvm.Cond.instanceMethod ⟨"java/lang/Object", "getClass", "()Ljava/lang/Class;"⟩ ∈ kTbl ∧ Jvm.Cond.native ⟨"java/lang/Object", "getClass", "()Ljava/lang/Class;"⟩ ∈ kTbl) : kEnt own mn cc rt hh (pc, .invokevirtual i, 9003, b) :=
  ke_sp (kd := 0) hd ⟨fun h => absurd h (by decide), fun h => absurd h (by decide), fun h => absurd h (by decide), fun h => absurd h (by decide), fun _ => h⟩ (by decide)
end KENT
/-- what is said of a callee once -/
def kCalOk (a : Nat) (y : MethodName) (n : Nat) (hh : Option (List (Nat × Nat × Nat × Nat))) (rt : Option FieldType) : Prop :=
  a ≠ 0 ∧ kY a = y ∧ kHd kNL kRT kY kBy kHH a ∈ kTbl ∧ Jvm.Cond.initialized y.cls ∈ kTbl ∧ (y.cls ≠ "java/lang/invoke/MethodHandle" ∧ y.cls ≠ "java/lang/invoke/VarHandle") ∧ kNL a ≤ 200 ∧ (parseMethodDescriptor y.desc).map (fun d => d.parameters.length) = some n ∧ kHH a = hh ∧ kRT a = rt
section KINV
variable {own : String} {a b i n ci N : Nat} {y : MethodName} {hh : Option (List (Nat × Nat × Nat × Nat))} {rt : Option FieldType} {C : String} {T : u_T}
theorem ki_S (hc : kCalOk a y n hh rt) (hb : b / 100 = 0 ∧ b % 100 = n) (w : Jvm.Cond.static y ∈ kTbl) (h : (hh = none ∧ (Jvm.Cond.methodLink own i y ∈ kTbl ∨ ∃ host, Jvm.Cond.methodLinkNest own i y host ∈ kTbl)) ∨ ((∃ q, hh = some q) ∧ Jvm.Cond.methodLink own i y ∈ kTbl)) : kInv kNL kRT kY kBy kHH own 2 i a b := by
  obtain ⟨h0, rfl, h2, h3, h4, h5, h6, rfl, h8⟩ := hc
  refine ⟨h0, h2, h3, h4, h5, Or.inl ⟨rfl, hb.1, by rw [hb.2]; exact h6, w, h⟩⟩
theorem ki_I (hc : kCalOk a y n none none) (hb : b / 100 = 50 ∧ b % 100 = n + 1) (h : Jvm.Cond.methodLink own i y ∈ kTbl ∨ ∃ host, Jvm.Cond.methodLinkNest own i y host ∈ kTbl) (w : Jvm.Cond.instanceMethod y ∈ kTbl) (hn : y.name = "<init>") : kInv kNL kRT kY kBy kHH own 1 i a b := by
  obtain ⟨h0, rfl, h2, h3, h4, h5, h6, h7, h8⟩ := hc
  exact ⟨h0, h2, h3, h4, h5, Or.inr ⟨by omega, h7, Or.inl ⟨rfl, hb.1, by rw [hb.2]; exact h6, h8, h, w, hn⟩⟩⟩
theorem ki_V (hc : kCalOk a y n none rt) (hcl : vwCl[ci]? = some (C, T, N)) (hci : ci < 40) (hb : b / 100 = ci + 1 ∧ b % 100 = n + 1) (w1 : Jvm.Cond.methodLink own i y ∈ kTbl) (w2 : Jvm.Cond.instanceMethod y ∈ kTbl) (w3 : Jvm.Cond.selects C y y ∈ kTbl) : kInv kNL kRT kY kBy kHH own 0 i a b := by
  obtain ⟨h0, rfl, h2, h3, h4, h5, h6, h7, h8⟩ := hc
  exact ⟨h0, h2, h3, h4, h5, Or.inr ⟨by omega, h7, Or.inr ⟨ci, C, T, N, hb.1, hcl, hci, Or.inl ⟨rfl, by rw [hb.2]; exact h6, w1, w2, w3⟩⟩⟩⟩
theorem ki_U {x : MethodName} {owner : String} (hc : kCalOk a y n none rt) (hcl : vwCl[ci]? = some (C, T, N)) (hci : ci < 40) (hb : b / 100 = ci + 1 ∧ b % 100 = n + 1) (hx : (parseMethodDescriptor x.desc).map (fun d => d.parameters.length) = some n) (hy : y = ⟨owner, x.name, x.desc⟩) (ho1 : owner ≠ "java/lang/invoke/MethodHandle") (ho2 : owner ≠ "java/lang/invoke/VarHandle")
    (hw : ∀ w ∈ [Jvm.Cond.methodLink own i x, .sameMethod x.cls owner x.name x.desc, .selects C x y, .instanceMethod y], w ∈ kTbl) : kInv kNL kRT kY kBy kHH own 0 i a b := by
  obtain ⟨h0, rfl, h2, h3, h4, h5, h6, h7, h8⟩ := hc
  exact ⟨h0, h2, h3, h4, h5, Or.inr ⟨by omega, h7, Or.inr ⟨ci, C, T, N, hb.1, hcl, hci, Or.inr (Or.inl ⟨rfl, x, owner, by rw [hb.2]; exact hx, hy, ho1, ho2, hw⟩)⟩⟩⟩
theorem ki_O {x : MethodName} {owner : String} {b0 : ByteArray} {m0 : Nat} {r0 : Option FieldType} (hc : kCalOk a y n none rt) (hcl : vwCl[ci]? = some (C, T, N)) (hci : ci < 40) (hb : b / 100 = ci + 1 ∧ b % 100 = n + 1) (hx : (parseMethodDescriptor x.desc).map (fun d => d.parameters.length) = some n) (hc0 : Jvm.Cond.code ⟨owner, x.name, x.desc⟩ b0 m0 r0 ∈ kTbl) (ho1 : owner ≠ "java/lang/invoke/MethodHandle") (ho2 : owner ≠ "java/lang/invoke/VarHandle")
    (hw : ∀ w ∈ [Jvm.Cond.methodLink own i x, .sameMethod x.cls owner x.name x.desc, .instanceMethod ⟨owner, x.name, x.desc⟩, .selects C x y, .instanceMethod y], w ∈ kTbl) : kInv kNL kRT kY kBy kHH own 0 i a b := by
  obtain ⟨h0, rfl, h2, h3, h4, h5, h6, h7, h8⟩ := hc
  exact ⟨h0, h2, h3, h4, h5, Or.inr ⟨by omega, h7, Or.inr ⟨ci, C, T, N, hb.1, hcl, hci, Or.inr (Or.inr (Or.inl ⟨rfl, x, owner, b0, m0, r0, by rw [hb.2]; exact hx, hc0, ho1, ho2, hw⟩))⟩⟩⟩
theorem ki_SU (hc : kCalOk a y n none rt) (hcl : vwCl[ci]? = some (C, T, N)) (hci : ci < 40) (hb : b / 100 = ci + 1 ∧ b % 100 = n + 1) (hn : y.name ≠ "<init>")
    (hw : ∀ w ∈ [Jvm.Cond.methodLink own i y, .sameMethod y.cls y.cls y.name y.desc, .superclass own y.cls, .instanceMethod y], w ∈ kTbl) : kInv kNL kRT kY kBy kHH own 1 i a b := by
  obtain ⟨h0, rfl, h2, h3, h4, h5, h6, h7, h8⟩ := hc
  exact ⟨h0, h2, h3, h4, h5, Or.inr ⟨by omega, h7, Or.inr ⟨ci, C, T, N, hb.1, hcl, hci, Or.inr (Or.inr (Or.inr (Or.inl ⟨rfl, by rw [hb.2]; exact h6, hn, hw⟩)))⟩⟩⟩
theorem ki_F {x : MethodName} {kd : Nat} (hc : kCalOk a y n none rt) (hcl : vwCl[ci]? = some (C, T, N)) (hci : ci < 40) (hb : b / 100 = ci + 1 ∧ b % 100 = n + 1) (ho1 : x.cls ≠ "java/lang/invoke/MethodHandle") (ho2 : x.cls ≠ "java/lang/invoke/VarHandle") (hx : (parseMethodDescriptor x.desc).map (fun d => d.parameters.length) = some n)
    (hw : ∀ w ∈ [Jvm.Cond.methodLink own i x, .selects C x y, .instanceMethod y, .declares x, .interfaceMethod x.cls x.cls x.name x.desc, .publicMethod y, .unhidden C x.name x.desc, .castable C x.cls], w ∈ kTbl) : kInv kNL kRT kY kBy kHH own (kd + 3) i a b := by
  obtain ⟨h0, rfl, h2, h3, h4, h5, h6, h7, h8⟩ := hc
  exact ⟨h0, h2, h3, h4, h5, Or.inr ⟨by omega, h7, Or.inr ⟨ci, C, T, N, hb.1, hcl, hci, Or.inr (Or.inr (Or.inr (Or.inr ⟨by omega, x, by rw [hb.2]; exact hx, ho1, ho2, hw⟩)))⟩⟩⟩
theorem kvf (hc : kCalOk a y n none rt) (hcl : vwCl[ci]? = some (C, T, N)) (hci : ci < 40) (hb : b / 100 = ci + 1 ∧ b % 100 = n + 1) (w1 : Jvm.Cond.methodLink own i y ∈ kTbl) (w2 : Jvm.Cond.instanceMethod y ∈ kTbl) (w3 : Jvm.Cond.selects C y y ∈ kTbl) :
    ∃ (ci : Nat) (C : String) (T : u_T) (N : Nat), b / 100 = ci + 1 ∧ vwCl[ci]? = some (C, T, N) ∧ ci < 40 ∧ kHH a = none ∧ 1 ≤ b % 100 ∧ (parseMethodDescriptor (kY a).desc).map (fun d => d.parameters.length) = some (b % 100 - 1) ∧ Jvm.Cond.methodLink own i (kY a) ∈ kTbl ∧ Jvm.Cond.instanceMethod (kY a) ∈ kTbl ∧ Jvm.Cond.selects C (kY a) (kY a) ∈ kTbl := by
  obtain ⟨h0, rfl, h2, h3, h4, h5, h6, h7, h8⟩ := hc
  exact ⟨ci, C, T, N, hb.1, hcl, hci, h7, by omega, by rw [hb.2]; exact h6, w1, w2, w3⟩
end KINV
