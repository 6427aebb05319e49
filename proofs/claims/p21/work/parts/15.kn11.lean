/-! ===== calls of the tables' methods; ends; the walk of a method; THE THEOREM ===== -/
/-- what a call of method a stands on -/
def kInv (NL : Nat → Nat) (RT : Nat → Option FieldType) (Y : Nat → MethodName) (By : Nat → ByteArray) (HH : Nat → Option (List (Nat × Nat × Nat × Nat))) (own : String) (kd i a b : Nat) : Prop :=
  a ≠ 0 ∧ kHd NL RT Y By HH a ∈ kTbl ∧ Jvm.Cond.initialized (Y a).cls ∈ kTbl ∧ ((Y a).cls ≠ "java/lang/invoke/MethodHandle" ∧ (Y a).cls ≠ "java/lang/invoke/VarHandle") ∧ NL a ≤ 200 ∧
  ((kd = 2 ∧ b / 100 = 0 ∧ (parseMethodDescriptor (Y a).desc).map (fun d => d.parameters.length) = some (b % 100) ∧ Jvm.Cond.static (Y a) ∈ kTbl ∧ ((HH a = none ∧ (Jvm.Cond.methodLink own i (Y a) ∈ kTbl ∨ ∃ host, Jvm.Cond.methodLinkNest own i (Y a) host ∈ kTbl)) ∨ ((∃ hh, HH a = some hh) ∧ Jvm.Cond.methodLink own i (Y a) ∈ kTbl))) ∨
   (1 ≤ b % 100 ∧ HH a = none ∧
    ((kd = 1 ∧ b / 100 = 50 ∧ (parseMethodDescriptor (Y a).desc).map (fun d => d.parameters.length) = some (b % 100 - 1) ∧ RT a = none ∧ (Jvm.Cond.methodLink own i (Y a) ∈ kTbl ∨ ∃ host, Jvm.Cond.methodLinkNest own i (Y a) host ∈ kTbl) ∧ Jvm.Cond.instanceMethod (Y a) ∈ kTbl ∧ (Y a).name = "<init>") ∨
     ∃ (ci : Nat) (C : String) (T : u_T) (N : Nat), b / 100 = ci + 1 ∧ vwCl[ci]? = some (C, T, N) ∧ ci < 40 ∧
      ((kd = 0 ∧ (parseMethodDescriptor (Y a).desc).map (fun d => d.parameters.length) = some (b % 100 - 1) ∧ Jvm.Cond.methodLink own i (Y a) ∈ kTbl ∧ Jvm.Cond.instanceMethod (Y a) ∈ kTbl ∧ Jvm.Cond.selects C (Y a) (Y a) ∈ kTbl) ∨
       (kd = 0 ∧ ∃ (x : MethodName) (owner : String), (parseMethodDescriptor x.desc).map (fun d => d.parameters.length) = some (b % 100 - 1) ∧ Y a = ⟨owner, x.name, x.desc⟩ ∧ owner ≠ "java/lang/invoke/MethodHandle" ∧ owner ≠ "java/lang/invoke/VarHandle" ∧ ∀ w ∈ [Jvm.Cond.methodLink own i x, .sameMethod x.cls owner x.name x.desc, .selects C x (Y a), .instanceMethod (Y a)], w ∈ kTbl) ∨
       (kd = 0 ∧ ∃ (x : MethodName) (owner : String) (b0 : ByteArray) (m0 : Nat) (r0 : Option FieldType), (parseMethodDescriptor x.desc).map (fun d => d.parameters.length) = some (b % 100 - 1) ∧ Jvm.Cond.code ⟨owner, x.name, x.desc⟩ b0 m0 r0 ∈ kTbl ∧ owner ≠ "java/lang/invoke/MethodHandle" ∧ owner ≠ "java/lang/invoke/VarHandle" ∧ ∀ w ∈ [Jvm.Cond.methodLink own i x, .sameMethod x.cls owner x.name x.desc, .instanceMethod ⟨owner, x.name, x.desc⟩, .selects C x (Y a), .instanceMethod (Y a)], w ∈ kTbl) ∨
       (kd = 1 ∧ (parseMethodDescriptor (Y a).desc).map (fun d => d.parameters.length) = some (b % 100 - 1) ∧ (Y a).name ≠ "<init>" ∧ ∀ w ∈ [Jvm.Cond.methodLink own i (Y a), .sameMethod (Y a).cls (Y a).cls (Y a).name (Y a).desc, .superclass own (Y a).cls, .instanceMethod (Y a)], w ∈ kTbl) ∨
       (3 ≤ kd ∧ ∃ x : MethodName, (parseMethodDescriptor x.desc).map (fun d => d.parameters.length) = some (b % 100 - 1) ∧ x.cls ≠ "java/lang/invoke/MethodHandle" ∧ x.cls ≠ "java/lang/invoke/VarHandle" ∧ ∀ w ∈ [Jvm.Cond.methodLink own i x, .selects C x (Y a), .instanceMethod (Y a), .declares x, .interfaceMethod x.cls x.cls x.name x.desc, .publicMethod (Y a), .unhidden C x.name x.desc, .castable C x.cls], w ∈ kTbl)))))
/-- a handler of method mi that takes exceptions of class E at pc: it stores them in local i and goes on at pc' -/
def kHnd (ncs : List (String × String)) (HH : Nat → Option (List (Nat × Nat × Nat × Nat))) (cc : ByteArray) (own E : String) (nL mi pc pc' i : Nat) : Prop :=
  ∃ (hh : List (Nat × Nat × Nat × Nat)) (pre : List ExceptionTableEntry) (x : ExceptionTableEntry) (suf : List ExceptionTableEntry) (nm : String), HH mi = some hh ∧ tableOf hh = pre ++ x :: suf ∧
    (∀ z ∈ pre, covers z pc = false ∨ (z.catchType ≠ 0 ∧ ∃ nm : String, Jvm.Cond.classLink own z.catchType nm ∈ kTbl ∧ (E, nm) ∈ ncs)) ∧ covers x pc = true ∧ x.catchType ≠ 0 ∧ Jvm.Cond.classLink own x.catchType nm ∈ kTbl ∧ Jvm.Cond.castable E nm ∈ kTbl ∧ i < nL ∧
    ((∃ k : Fin 4, (k : Nat) = i ∧ decode cc x.handlerPc = .ok (.astore_n k, 1) ∧ pc' = x.handlerPc + 1) ∨ (decode cc x.handlerPc = .ok (.astore i, 2) ∧ pc' = x.handlerPc + 2))
/-- 'throw new E(text)' at pc -/
def kThr (strs : List (String × Nat × String)) (cc : ByteArray) (own E : String) (pc ik : Nat) : Prop :=
  ∃ (is ic : Nat) (text : String) (names : List String), decode cc (pc + 3) = .ok (.dup, 1) ∧ ((decode cc (pc + 4) = .ok (.ldc is, 2) ∧ decode cc (pc + 6) = .ok (.invokespecial ic, 3) ∧ decode cc (pc + 9) = .ok (.athrow, 1)) ∨ (decode cc (pc + 4) = .ok (.ldc_w is, 3) ∧ decode cc (pc + 7) = .ok (.invokespecial ic, 3) ∧ decode cc (pc + 10) = .ok (.athrow, 1))) ∧ Bundle.fit E = true ∧ (∀ n ∈ names, Bundle.fit n = true) ∧
    Jvm.Cond.classLink own ik E ∈ kTbl ∧ Jvm.Cond.initialized E ∈ kTbl ∧ (own, is, text) ∈ strs ∧ (∀ w ∈ vx_atS own ic E names, w ∈ kTbl ∧ vx_ot w = true) ∧ names.length ≤ 4
theorem kLen_of {dsc : String} {n : Nat} (h : (parseMethodDescriptor dsc).map (fun d => d.parameters.length) = some n) : ∀ sig, parseMethodDescriptor dsc = some sig → n = sig.parameters.length := by
  intro sig hs
  rw [hs] at h
  exact (Option.some.inj h).symm
theorem kRcOk_some {xm : Nat → Option kE} {mem : kM} {rc : Nat} {av : List Value} (h : kRcOk xm mem rc av = true) (h0 : rc ≠ 0) : ∃ r As, av = .ref r :: As ∧ (rc ≠ 50 → ∃ ci fs, rc = ci + 1 ∧ ci < 1000 ∧ kLook xm mem r = some (.inl (ci, fs))) := by
  unfold kRcOk at h
  split at h
  · rename_i r As
    refine ⟨r, As, rfl, fun h5 => ?_⟩
    simp only [Bool.or_eq_true, beq_iff_eq] at h
    rcases h with (h | h) | h
    · exact absurd h h0
    · exact absurd h h5
    · split at h
      · rename_i ci fs hk
        simp only [Bool.and_eq_true, beq_iff_eq, decide_eq_true_eq] at h
        exact ⟨ci, fs, h.1.symm, h.2, hk⟩
      · cases h
  · simp only [beq_iff_eq] at h
    exact absurd h h0
section KSIM2
variable {p : Program} {l : Launch} {e : Env} {R : Room} {s : State} {m : MethodId} {args : Array Value} {below : List Frame} {meth : Method} {c : Code} {Q : State → Prop} {D : va_G} {dA : Nat → ClassId} {ext : Nat → Nat} {base : Nat} {xm : Nat → Option kE} {nL n0 z0 : Nat}
variable {sm : Nat → Option Value} {sn : Nat → String × String × String} {strs : List (String × Nat × String)} {ncs : List (String × String)} {dfl : Nat → Option (List Value)} {fty : Nat → Nat → FieldType}
variable {NL : Nat → Nat} {RT : Nat → Option FieldType} {Y : Nat → MethodName} {By : Nat → ByteArray} {HH : Nat → Option (List (Nat × Nat × Nat × Nat))} {EX : Nat → String}
variable {cc : ByteArray} {pc pc' : Nat} {lv lv' : kL} {st st' : List Value} {mem mem' m1 : kM} {a b : Nat} {own mn : String} {rt : Option FieldType}
/-- what is known of a callee -/
def kCon (l : Launch) (D : va_G) (dA : Nat → ClassId) (ext : Nat → Nat) (base : Nat) (xm : Nat → Option kE) (sm : Nat → Option Value) (sn : Nat → String × String × String) (strs : List (String × Nat × String)) (ncs : List (String × String))
    (NL : Nat → Nat) (RT : Nat → Option FieldType) (Y : Nat → MethodName) (By : Nat → ByteArray) (HH : Nat → Option (List (Nat × Nat × Nat × Nat))) (EX : Nat → String) (fr lo y : Nat) (av : List Value) (mem : kM) (r : kO × kM) : Prop :=
  kGrow mem r.2 ∧ ∀ rm : Room, rm.cells = r.2.length - mem.length → rm.slots = kSl r.2 - kSl mem → fr ≤ rm.frames → lo ≤ rm.locals → match r.1 with
    | .inl v => Met l (Y y) (kHd NL RT Y By HH y :: kTbl) rm (kPc D dA ext base xm sm sn strs ncs av mem) (kQc D dA ext base xm v r.2) (r.2.length - mem.length) (kSl r.2 - kSl mem) (fun q => base ≤ q)
    | .inr n => vx_Met l (Y y) (kHd NL RT Y By HH y :: kTbl) rm (kPc D dA ext base xm sm sn strs ncs av mem) (fun _ _ _ _ => False) (kXC D dA ext base xm (EX n) r.2) (r.2.length - mem.length) (kSl r.2 - kSl mem) (fun q => base ≤ q)
theorem kCall_some {k len len' y : Nat} {av rest : List Value} (h : kCall xm k b len pc lv st mem = some (.inr (.inr (y, av, rest, len')))) : y = k ∧ len' = len ∧ av.length = b % 100 ∧ st = av.reverse ++ rest ∧ (rest.map fun v => v.category).sum ≤ 8 ∧ kRcOk xm mem (b / 100) av = true := by
  unfold kCall at h
  split at h
  · split at h
    · unfold kSpec at h
      split at h
      · obtain ⟨r, st1, -, h1⟩ := kTopA_some h
        cases h1
      · split at h
        · split at h
          · split at h <;> cases h
          · split at h <;> cases h
          · cases h
        · cases h
      · obtain ⟨r, st1, -, h1⟩ := kTopA_some h
        split at h1
        · split at h1 <;> cases h1
        · cases h1
      · obtain ⟨r, st1, -, h1⟩ := kTopA_some h
        split at h1
        · split at h1 <;> cases h1
        · cases h1
      · obtain ⟨r, st1, -, h1⟩ := kTopA_some h
        split at h1 <;> cases h1
      · cases h
    · cases h
  · split at h
    · rename_i hc
      cases h
      simp only [Bool.and_eq_true, decide_eq_true_eq] at hc
      obtain ⟨⟨g1, g2⟩, g3⟩ := hc
      refine ⟨rfl, rfl, by simp; omega, by simp, g2, g3⟩
    · cases h
theorem kw_call {kd i fr lo y len : Nat} {av rest : List Value} {v : Option Value} (hx : p.tables.exec = Jvm.exec) (hb : c.code = cc) (hml : c.maxLocals = nL) (hown : s.vm.findClass own = some m.cls) (hts : ∀ w ∈ kTbl, w.before args s = true) (hgood : ∀ w ∈ kTbl, kGw w = true) (hWd : kWd D dA ext base xm sm sn strs ncs s)
    (hdec : kDec cc pc (kIvk kd i)) (h : kStep xm sm dfl fty nL rt (kIvk kd i) a b pc lv st mem = some (.inr (.inr (y, av, rest, len)))) (hinv : a < 9000 → kInv NL RT Y By HH own kd i a b) (ha : a < 9000)
    (hcon : kCon l D dA ext base xm sm sn strs ncs NL RT Y By HH EX fr lo y av mem (.inl v, m1)) (hfr : fr + 1 ≤ R.frames) (hlo : 300 + lo ≤ R.locals) (hroom : m1.length ≤ n0 + R.cells ∧ kSl m1 ≤ z0 + R.slots) (k : kA p l e R s m args below meth c Q D dA ext base xm nL n0 z0 (pc + len) lv (v.toList ++ rest) m1) : kA p l e R s m args below meth c Q D dA ext base xm nL n0 z0 pc lv st mem := by
  obtain ⟨hg, hcon⟩ := hcon
  have hle : mem.length ≤ m1.length ∧ kSl mem ≤ kSl m1 := hg
  have hM := hcon { frames := fr, cells := m1.length - mem.length, slots := kSl m1 - kSl mem, locals := lo } rfl rfl (Nat.le_refl _) (Nat.le_refl _)
  dsimp only at hM
  obtain ⟨-, hin, hini, hcls, hnl, hflv⟩ := hinv ha
  rcases hflv with ⟨hkd, hb0, hln, hstat, hor⟩ | ⟨hb1, hH, hor⟩
  · -- static
    subst hkd
    have h' : kCall xm a b 3 pc lv st mem = some (.inr (.inr (y, av, rest, len))) := h
    obtain ⟨rfl, rfl, hal, rfl, hrs, hrc⟩ := kCall_some h'
    have hdg : decode cc pc = .ok (.invokestatic i, 3) := hdec
    rcases hor with ⟨hH, hlink⟩ | ⟨⟨hh, hH⟩, hlink⟩
    · have e0 : kHd NL RT Y By HH y = .code (Y y) (By y) (NL y) (RT y) := by simp only [kHd, hH]
      refine ks_callS hx hb hml hown hts hgood hWd hM ⟨hin, e0, hini, hcls, hln, rfl, rfl, hfr, ?_⟩ hlink hstat hal hdg hle hroom hrs k
      show 8 + (NL y + 11) + lo ≤ R.locals
      omega
    · have e : kHd NL RT Y By HH y = .codeWith (Y y) (By y) (NL y) (RT y) hh := by simp only [kHd, hH]
      have cu : vx_CSW R s args own i (Y y) (By y) (NL y) (RT y) hh (kHd NL RT Y By HH y :: kTbl) { frames := fr, cells := m1.length - mem.length, slots := kSl m1 - kSl mem, locals := lo } (m1.length - mem.length) (kSl m1 - kSl mem) (b % 100) := by
        exact ⟨⟨rfl, rfl, hfr, by show 8 + (NL y + 11) + lo ≤ R.locals; omega, kPay hgood hin hts, by rw [← e]; exact List.mem_cons_self⟩, by rw [← e]; exact hts _ hin, hts _ hini, hcls, kCalB_len hln, hts _ hlink, hts _ hstat⟩
      exact ks_callSW hx hb hml hown hts hWd hM cu hal hdg hle hroom hrs k
  · have e : ∀ z, z = a → kHd NL RT Y By HH z = .code (Y z) (By z) (NL z) (RT z) := by
      intro z hz
      subst hz
      simp only [kHd, hH]
    rcases hor with ⟨hkd, hb0, hln, hrt, hlink, hinst, hnm⟩ | ⟨ci, C, T, N, hb0, hcl, hci, hor⟩
    · subst hkd
      have h' : kCall xm a b 3 pc lv st mem = some (.inr (.inr (y, av, rest, len))) := h
      obtain ⟨rfl, rfl, hal, rfl, hrs, hrc⟩ := kCall_some h'
      obtain ⟨r, As, rfl, -⟩ := kRcOk_some hrc (by omega)
      have hdg : decode cc pc = .ok (.invokespecial i, 3) := hdec
      have hAl : As.length = b % 100 - 1 := by simp at hal; omega
      have e1 : (Value.ref r :: As).reverse ++ rest = As.reverse ++ .ref r :: rest := by simp
      rw [e1]
      refine ks_callI hx hb hml hown hts hgood hWd hM ⟨hin, by rw [e y rfl, hrt], hini, hcls, hln, rfl, rfl, hfr, ?_⟩ hlink hinst hnm hAl hdg hle hroom hrs k
      show 8 + (NL y + 11) + lo ≤ R.locals
      omega
    · rcases hor with ⟨hkd, hln, hlink, hinst, hsel⟩ | ⟨hkd, x, owner, hln, hyx, ho1, ho2, hw⟩ | ⟨hkd, x, owner, b0, m0, r0, hln, hc0, ho1, ho2, hw⟩ | ⟨hkd, hln, hnm, hw⟩ | ⟨hkd, x, hln, ho1, ho2, hw⟩
      · subst hkd
        have h' : kCall xm a b 3 pc lv st mem = some (.inr (.inr (y, av, rest, len))) := h
        obtain ⟨rfl, rfl, hal, rfl, hrs, hrc⟩ := kCall_some h'
        obtain ⟨r, As, rfl, hk⟩ := kRcOk_some hrc (by omega)
        obtain ⟨ci', fs, hci', hlt, hk⟩ := hk (by omega)
        have hcc : ci' = ci := by omega
        subst hcc
        have hdg : decode cc pc = .ok (.invokevirtual i, 3) := hdec
        have hAl : As.length = b % 100 - 1 := by simp at hal; omega
        have e1 : (Value.ref r :: As).reverse ++ rest = As.reverse ++ .ref r :: rest := by simp
        rw [e1]
        refine ks_callV hx hb hml hown hts hgood hWd hM ⟨hin, e y rfl, hini, hcls, hln, rfl, rfl, hfr, ?_⟩ hlink hinst hsel hlt hcl hk hAl hdg hle hroom hrs k
        show 8 + (NL y + 11) + lo ≤ R.locals
        omega
      · subst hkd
        have h' : kCall xm a b 3 pc lv st mem = some (.inr (.inr (y, av, rest, len))) := h
        obtain ⟨rfl, rfl, hal, rfl, hrs, hrc⟩ := kCall_some h'
        obtain ⟨r, As, rfl, hk⟩ := kRcOk_some hrc (by omega)
        obtain ⟨ci', fs, hci', hlt, hk⟩ := hk (by omega)
        have hcc : ci' = ci := by omega
        subst hcc
        have hdg : decode cc pc = .ok (.invokevirtual i, 3) := hdec
        have hAl : As.length = b % 100 - 1 := by simp at hal; omega
        have e1 : (Value.ref r :: As).reverse ++ rest = As.reverse ++ .ref r :: rest := by simp
        rw [e1]
        have cu : va_CU R s args own C owner i x (Y y) (By y) (NL y) (RT y) (kHd NL RT Y By HH y :: kTbl) { frames := fr, cells := m1.length - mem.length, slots := kSl m1 - kSl mem, locals := lo } (m1.length - mem.length) (kSl m1 - kSl mem) (b % 100 - 1) := by
          exact ⟨⟨rfl, rfl, hfr, by show 8 + (NL y + 11) + lo ≤ R.locals; omega, kPay hgood hin hts, by rw [← e y rfl]; exact List.mem_cons_self⟩, by rw [← e y rfl]; exact hts _ hin, hts _ hini, ⟨ho1, ho2⟩, kLen_of hln, hts _ (hw _ (by simp)), hts _ (hw _ (by simp)), by rw [← hyx]; exact va_Decl.of (hts _ (hw _ (by simp))) (show (Jvm.Cond.code (Y y) (By y) (NL y) (RT y)).before args s = true by rw [← e y rfl]; exact hts _ hin), hts _ (hw _ (by simp)), hts _ (hw _ (by simp))⟩
        exact ks_callU hx hb hml hown hts hWd hM cu hlt hcl hk hAl hdg hle hroom hrs k
      · subst hkd
        have h' : kCall xm a b 3 pc lv st mem = some (.inr (.inr (y, av, rest, len))) := h
        obtain ⟨rfl, rfl, hal, rfl, hrs, hrc⟩ := kCall_some h'
        obtain ⟨r, As, rfl, hk⟩ := kRcOk_some hrc (by omega)
        obtain ⟨ci', fs, hci', hlt, hk⟩ := hk (by omega)
        have hcc : ci' = ci := by omega
        subst hcc
        have hdg : decode cc pc = .ok (.invokevirtual i, 3) := hdec
        have hAl : As.length = b % 100 - 1 := by simp at hal; omega
        have e1 : (Value.ref r :: As).reverse ++ rest = As.reverse ++ .ref r :: rest := by simp
        rw [e1]
        have cu : va_CU R s args own C owner i x (Y y) (By y) (NL y) (RT y) (kHd NL RT Y By HH y :: kTbl) { frames := fr, cells := m1.length - mem.length, slots := kSl m1 - kSl mem, locals := lo } (m1.length - mem.length) (kSl m1 - kSl mem) (b % 100 - 1) := by
          exact ⟨⟨rfl, rfl, hfr, by show 8 + (NL y + 11) + lo ≤ R.locals; omega, kPay hgood hin hts, by rw [← e y rfl]; exact List.mem_cons_self⟩, by rw [← e y rfl]; exact hts _ hin, hts _ hini, ⟨ho1, ho2⟩, kLen_of hln, hts _ (hw _ (by simp)), hts _ (hw _ (by simp)), va_Decl.of (hts _ (hw _ (by simp))) (hts _ hc0), hts _ (hw _ (by simp)), hts _ (hw _ (by simp))⟩
        exact ks_callU hx hb hml hown hts hWd hM cu hlt hcl hk hAl hdg hle hroom hrs k
      · subst hkd
        have h' : kCall xm a b 3 pc lv st mem = some (.inr (.inr (y, av, rest, len))) := h
        obtain ⟨rfl, rfl, hal, rfl, hrs, hrc⟩ := kCall_some h'
        obtain ⟨r, As, rfl, hk⟩ := kRcOk_some hrc (by omega)
        obtain ⟨ci', fs, hci', hlt, hk⟩ := hk (by omega)
        have hcc : ci' = ci := by omega
        subst hcc
        have hdg : decode cc pc = .ok (.invokespecial i, 3) := hdec
        have hAl : As.length = b % 100 - 1 := by simp at hal; omega
        have e1 : (Value.ref r :: As).reverse ++ rest = As.reverse ++ .ref r :: rest := by simp
        rw [e1]
        have cu : va_CS R s args own i (Y y) (By y) (NL y) (RT y) (kHd NL RT Y By HH y :: kTbl) { frames := fr, cells := m1.length - mem.length, slots := kSl m1 - kSl mem, locals := lo } (m1.length - mem.length) (kSl m1 - kSl mem) (b % 100 - 1) := by
          exact ⟨⟨rfl, rfl, hfr, by show 8 + (NL y + 11) + lo ≤ R.locals; omega, kPay hgood hin hts, by rw [← e y rfl]; exact List.mem_cons_self⟩, hts _ (hw _ (by simp)), hts _ (hw _ (by simp)), hts _ (hw _ (by simp)), hts _ (hw _ (by simp)), hts _ hini, by rw [← e y rfl]; exact hts _ hin, hnm, kLen_of hln⟩
        exact ks_callSU hx hb hml hown hts hWd hM cu hlt hcl hk hAl hdg hle hroom hrs k
      · obtain ⟨cnt, rfl⟩ : ∃ cnt, kd = cnt + 3 := ⟨kd - 3, by omega⟩
        have h' : kCall xm a b 5 pc lv st mem = some (.inr (.inr (y, av, rest, len))) := h
        obtain ⟨rfl, rfl, hal, rfl, hrs, hrc⟩ := kCall_some h'
        obtain ⟨r, As, rfl, hk⟩ := kRcOk_some hrc (by omega)
        obtain ⟨ci', fs, hci', hlt, hk⟩ := hk (by omega)
        have hcc : ci' = ci := by omega
        subst hcc
        have hdg : decode cc pc = .ok (.invokeinterface i cnt, 5) := hdec
        have hAl : As.length = b % 100 - 1 := by simp at hal; omega
        have e1 : (Value.ref r :: As).reverse ++ rest = As.reverse ++ .ref r :: rest := by simp
        rw [e1]
        have cu : va_CI R s args own C i x (Y y) (By y) (NL y) (RT y) (kHd NL RT Y By HH y :: kTbl) { frames := fr, cells := m1.length - mem.length, slots := kSl m1 - kSl mem, locals := lo } (m1.length - mem.length) (kSl m1 - kSl mem) (b % 100 - 1) := by
          exact ⟨⟨rfl, rfl, hfr, by show 8 + (NL y + 11) + lo ≤ R.locals; omega, kPay hgood hin hts, by rw [← e y rfl]; exact List.mem_cons_self⟩, hts _ (hw _ (by simp)), hts _ (hw _ (by simp)), hts _ (hw _ (by simp)), hts _ (hw _ (by simp)), hts _ (hw _ (by simp)), hts _ (hw _ (by simp)), hts _ (hw _ (by simp)), hts _ (hw _ (by simp)), hts _ hini, by rw [← e y rfl]; exact hts _ hin, ⟨ho1, ho2⟩, kLen_of hln⟩
        exact ks_callF hx hb hml hown hts hWd hM cu hlt hcl hk hAl hdg hle hroom hrs k
end KSIM2
section KNOCALL
variable {xm : Nat → Option kE} {sm : Nat → Option Value} {dfl : Nat → Option (List Value)} {fty : Nat → Nat → FieldType} {nL : Nat} {rt : Option FieldType}
variable {pc pc' : Nat} {lv lv' : kL} {st st' : List Value} {mem mem' : kM} {a b : Nat} {z : Nat × List Value × List Value × Nat}
theorem kg_unI {f : Int32 → Value} (h : kUnI st pc lv mem f = some (.inr (.inr z))) : False := by
  obtain ⟨x, s1, -, h1⟩ := kTopI_some h
  cases h1
theorem kg_binI {f : Int32 → Int32 → Option Value} (h : kBinI st pc lv mem f = some (.inr (.inr z))) : False := by
  obtain ⟨y, s1, -, h1⟩ := kTopI_some h
  obtain ⟨x, s2, -, h2⟩ := kTopI_some h1
  split at h2
  · cases h2
  · cases h2
theorem kg_load {i p1 : Nat} {ok : Value → Bool} (h : kLoad lv i p1 st mem ok = some (.inr (.inr z))) : False := by
  unfold kLoad at h
  split at h
  · split at h
    · cases h
    · cases h
  · cases h
theorem kg_sto1 {i p1 : Nat} {ok : Value → Bool} (h : kSto1 nL lv i p1 st mem ok = some (.inr (.inr z))) : False := by
  unfold kSto1 at h
  split at h
  · split at h
    · cases h
    · cases h
  · cases h
theorem kg_sto2 {i p1 : Nat} {ok : Value → Bool} (h : kSto2 nL lv i p1 st mem ok = some (.inr (.inr z))) : False := by
  unfold kSto2 at h
  split at h
  · split at h
    · cases h
    · cases h
  · cases h
theorem kg_spec {k : Nat} (h : kSpec xm k pc lv st mem = some (.inr (.inr z))) : False := by
  unfold kSpec at h
  split at h
  · obtain ⟨x, s1, -, h1⟩ := kTopA_some h
    cases h1
  · split at h
    · split at h
      · rename_i hs hd
        split at h
        · rename_i hc
          simp only [Bool.and_eq_true, Bool.or_eq_true, beq_iff_eq, decide_eq_true_eq] at hc
          obtain ⟨⟨⟨⟨⟨g1, g2⟩, g3⟩, g4⟩, g5⟩, g6⟩ := hc
          obtain ⟨-, -, -, h4, h5⟩ := kOkR_ok g5
          cases h
        · cases h
      · rename_i hs hd
        split at h
        · rename_i hc
          simp only [Bool.and_eq_true, Bool.or_eq_true, beq_iff_eq, decide_eq_true_eq] at hc
          obtain ⟨⟨⟨⟨⟨g1, g2⟩, g3⟩, g4⟩, g5⟩, g6⟩ := hc
          obtain ⟨-, -, -, h4, h5⟩ := kOkR_ok g5
          cases h
        · cases h
      · cases h
    · cases h
  · obtain ⟨x, s1, -, h1⟩ := kTopA_some h
    split at h1
    · split at h1
      · cases h1
      · cases h1
    · cases h1
  · obtain ⟨x, s1, -, h1⟩ := kTopA_some h
    split at h1
    · split at h1
      · cases h1
      · cases h1
    · cases h1
  · obtain ⟨x, s1, -, h1⟩ := kTopA_some h
    split at h1
    · cases h1
    · cases h1
  · cases h
theorem kg_call {k len : Nat} (h : kCall xm k b len pc lv st mem = some (.inr (.inr z))) : k < 9000 ∧ z.1 = k := by
  unfold kCall at h
  split at h
  · split at h
    · exact absurd (kg_spec h) id
    · cases h
  · split at h
    · cases h
      exact ⟨by omega, rfl⟩
    · cases h
theorem kg_step {ins : Instr} (h : kStep xm sm dfl fty nL rt ins a b pc lv st mem = some (.inr (.inr z))) : a < 9000 ∧ z.1 = a ∧ ∃ kd i, ins = kIvk kd i := by
  cases ins
  case iconst => cases h
  case bipush => cases h
  case sipush => cases h
  case aconst_null => cases h
  case ldc =>
    simp only [kStep] at h
    split at h
    · cases h
    · cases h
    · cases h
    · cases h
  case ldc_w =>
    simp only [kStep] at h
    split at h
    · cases h
    · cases h
    · cases h
  case ldc2_w =>
    simp only [kStep] at h
    split at h
    · cases h
    · cases h
    · cases h
  case iload_n => exact absurd (kg_load h) id
  case iload => exact absurd (kg_load h) id
  case lload_n => exact absurd (kg_load h) id
  case lload => exact absurd (kg_load h) id
  case dload => exact absurd (kg_load h) id
  case fload_n => exact absurd (kg_load h) id
  case dload_n => exact absurd (kg_load h) id
  case aload_n => exact absurd (kg_load h) id
  case aload => exact absurd (kg_load h) id
  case istore_n => exact absurd (kg_sto1 h) id
  case istore => exact absurd (kg_sto1 h) id
  case fstore_n => exact absurd (kg_sto1 h) id
  case astore_n => exact absurd (kg_sto1 h) id
  case astore => exact absurd (kg_sto1 h) id
  case lstore_n => exact absurd (kg_sto2 h) id
  case lstore => exact absurd (kg_sto2 h) id
  case dstore => exact absurd (kg_sto2 h) id
  case iinc =>
    simp only [kStep] at h
    split at h
    · split at h
      · cases h
      · cases h
    · cases h
  case iadd =>
    simp only [kStep] at h
    exact absurd (kg_binI h) id
  case isub =>
    simp only [kStep] at h
    exact absurd (kg_binI h) id
  case imul =>
    simp only [kStep] at h
    exact absurd (kg_binI h) id
  case iand =>
    simp only [kStep] at h
    exact absurd (kg_binI h) id
  case ior =>
    simp only [kStep] at h
    exact absurd (kg_binI h) id
  case ishl =>
    simp only [kStep] at h
    exact absurd (kg_binI h) id
  case ishr =>
    simp only [kStep] at h
    exact absurd (kg_binI h) id
  case ixor =>
    simp only [kStep] at h
    exact absurd (kg_binI h) id
  case idiv =>
    simp only [kStep] at h
    exact absurd (kg_binI h) id
  case irem =>
    simp only [kStep] at h
    exact absurd (kg_binI h) id
  case ineg => exact absurd (kg_unI h) id
  case i2l => exact absurd (kg_unI h) id
  case i2b => exact absurd (kg_unI h) id
  case i2c => exact absurd (kg_unI h) id
  case i2f => exact absurd (kg_unI h) id
  case i2d => exact absurd (kg_unI h) id
  case ladd =>
    obtain ⟨y, s1, -, h1⟩ := kTopJ_some h
    obtain ⟨x, s2, -, h2⟩ := kTopJ_some h1
    cases h2
  case lmul =>
    obtain ⟨y, s1, -, h1⟩ := kTopJ_some h
    obtain ⟨x, s2, -, h2⟩ := kTopJ_some h1
    cases h2
  case lcmp =>
    obtain ⟨y, s1, -, h1⟩ := kTopJ_some h
    obtain ⟨x, s2, -, h2⟩ := kTopJ_some h1
    cases h2
  case dcmp =>
    obtain ⟨y, s1, -, h1⟩ := kTopD_some h
    obtain ⟨x, s2, -, h2⟩ := kTopD_some h1
    cases h2
  case fmul =>
    obtain ⟨y, s1, -, h1⟩ := kTopF_some h
    obtain ⟨x, s2, -, h2⟩ := kTopF_some h1
    split at h2
    · cases h2
    · cases h2
  case fsub =>
    obtain ⟨y, s1, -, h1⟩ := kTopF_some h
    obtain ⟨x, s2, -, h2⟩ := kTopF_some h1
    split at h2
    · cases h2
    · cases h2
  case f2l =>
    obtain ⟨x, s2, -, h2⟩ := kTopF_some h
    cases h2
  case f2d =>
    obtain ⟨x, s2, -, h2⟩ := kTopF_some h
    split at h2
    · cases h2
    · cases h2
  case ddiv =>
    obtain ⟨y, s1, -, h1⟩ := kTopD_some h
    obtain ⟨x, s2, -, h2⟩ := kTopD_some h1
    split at h2
    · cases h2
    · cases h2
  case dmul =>
    obtain ⟨y, s1, -, h1⟩ := kTopD_some h
    obtain ⟨x, s2, -, h2⟩ := kTopD_some h1
    split at h2
    · cases h2
    · cases h2
  case dsub =>
    obtain ⟨y, s1, -, h1⟩ := kTopD_some h
    obtain ⟨x, s2, -, h2⟩ := kTopD_some h1
    split at h2
    · cases h2
    · cases h2
  case dup =>
    simp only [kStep] at h
    obtain ⟨x, s2, -, -, h2⟩ := kTop1_some h
    cases h2
  case pop =>
    simp only [kStep] at h
    obtain ⟨x, s2, -, -, h2⟩ := kTop1_some h
    cases h2
  case pop2 =>
    simp only [kStep] at h
    split at h
    · cases h
    · cases h
    · cases h
  case dup_x1 =>
    simp only [kStep] at h
    obtain ⟨x, s2, -, -, h2⟩ := kTop1_some h
    obtain ⟨y, s3, -, -, h3⟩ := kTop1_some h2
    cases h3
  case dup2 =>
    simp only [kStep] at h
    obtain ⟨x, s2, -, -, h2⟩ := kTop1_some h
    obtain ⟨y, s3, -, -, h3⟩ := kTop1_some h2
    cases h3
  case goto => cases h
  case ifCond =>
    simp only [kStep] at h
    obtain ⟨x, s1, -, h1⟩ := kTopI_some h
    cases h1
  case if_icmp =>
    simp only [kStep] at h
    obtain ⟨x, s1, -, h1⟩ := kTopI_some h
    obtain ⟨y, s2, -, h2⟩ := kTopI_some h1
    cases h2
  case ifnull =>
    simp only [kStep] at h
    obtain ⟨x, s1, -, h1⟩ := kTopQ_some h
    cases h1
  case ifnonnull =>
    simp only [kStep] at h
    obtain ⟨x, s1, -, h1⟩ := kTopQ_some h
    cases h1
  case if_acmp =>
    simp only [kStep] at h
    obtain ⟨x, s1, -, h1⟩ := kTopQ_some h
    obtain ⟨y, s2, -, h2⟩ := kTopQ_some h1
    split at h2
    · cases h2
    · split at h2
      · cases h2
      · cases h2
  case tableswitch =>
    obtain ⟨x, s1, -, h1⟩ := kTopI_some h
    split at h1
    · cases h1
    · split at h1
      · cases h1
      · cases h1
  case getstatic =>
    simp only [kStep] at h
    split at h
    · cases h
    · cases h
  case getfield =>
    obtain ⟨x, s1, -, h1⟩ := kTopA_some h
    split at h1
    · split at h1
      · split at h1
        · cases h1
        · cases h1
      · cases h1
    · cases h1
  case putfield =>
    simp only [kStep] at h
    split at h
    · split at h
      · rename_i hk
        split at h
        · rename_i hc
          simp only [Bool.and_eq_true, beq_iff_eq, decide_eq_true_eq] at hc
          cases h
        · cases h
      · cases h
    · cases h
  case new =>
    simp only [kStep] at h
    split at h
    · split at h <;> cases h
    · split at h
      · cases h
      · cases h
  case newarray =>
    obtain ⟨x, s1, -, h1⟩ := kTopI_some h
    split at h1
    · split at h1
      · cases h1
      · cases h1
    · cases h1
  case anewarray =>
    obtain ⟨x, s1, -, h1⟩ := kTopI_some h
    split at h1
    · cases h1
    · cases h1
  case arraylength =>
    obtain ⟨x, s1, -, h1⟩ := kTopA_some h
    split at h1
    · split at h1
      · cases h1
      · cases h1
    · split at h1
      · cases h1
      · cases h1
    · cases h1
  case iaload =>
    obtain ⟨x, s1, -, h1⟩ := kTopI_some h
    obtain ⟨y, s2, -, h2⟩ := kTopA_some h1
    split at h2
    · split at h2
      · cases h2
      · cases h2
    · cases h2
  case baload =>
    obtain ⟨x, s1, -, h1⟩ := kTopI_some h
    obtain ⟨y, s2, -, h2⟩ := kTopA_some h1
    split at h2
    · split at h2
      · cases h2
      · cases h2
    · cases h2
  case aaload =>
    obtain ⟨x, s1, -, h1⟩ := kTopI_some h
    obtain ⟨y, s2, -, h2⟩ := kTopA_some h1
    split at h2
    · split at h2
      · cases h2
      · cases h2
    · cases h2
  case iastore =>
    obtain ⟨x, s1, -, h1⟩ := kTopI_some h
    obtain ⟨y, s2, -, h2⟩ := kTopI_some h1
    obtain ⟨z, s3, -, h3⟩ := kTopA_some h2
    split at h3
    · rename_i hk
      split at h3
      · rename_i hc
        simp only [Bool.and_eq_true, decide_eq_true_eq] at hc
        cases h3
      · cases h3
    · cases h3
  case bastore =>
    obtain ⟨x, s1, -, h1⟩ := kTopI_some h
    obtain ⟨y, s2, -, h2⟩ := kTopI_some h1
    obtain ⟨z, s3, -, h3⟩ := kTopA_some h2
    split at h3
    · rename_i hk
      split at h3
      · rename_i hc
        simp only [Bool.and_eq_true, decide_eq_true_eq] at hc
        cases h3
      · cases h3
    · cases h3
  case aastore =>
    simp only [kStep] at h
    obtain ⟨x, s1, -, h1⟩ := kTopQ_some h
    obtain ⟨y, s2, -, h2⟩ := kTopI_some h1
    obtain ⟨z, s3, -, h3⟩ := kTopA_some h2
    split at h3
    · rename_i hk
      split at h3
      · rename_i hc
        simp only [Bool.and_eq_true, decide_eq_true_eq] at hc
        cases h3
      · cases h3
    · cases h3
  case checkcast =>
    simp only [kStep] at h
    split at h
    · cases h
    · split at h
      · split at h
        · cases h
        · cases h
      · split at h
        · cases h
        · cases h
      · split at h
        · cases h
        · cases h
      · cases h
    · cases h
  case invokevirtual i => exact ⟨(kg_call h).1, (kg_call h).2, 0, i, rfl⟩
  case invokespecial i => exact ⟨(kg_call h).1, (kg_call h).2, 1, i, rfl⟩
  case invokestatic i => exact ⟨(kg_call h).1, (kg_call h).2, 2, i, rfl⟩
  case invokeinterface i n => exact ⟨(kg_call h).1, (kg_call h).2, n + 3, i, rfl⟩
  case ireturn =>
    simp only [kStep] at h
    split at h
    · split at h <;> cases h
    · cases h
  case lreturn =>
    simp only [kStep] at h
    split at h
    · split at h <;> cases h
    · cases h
  case freturn =>
    simp only [kStep] at h
    split at h
    · split at h <;> cases h
    · cases h
  case dreturn =>
    simp only [kStep] at h
    split at h
    · split at h <;> cases h
    · cases h
  case areturn =>
    simp only [kStep] at h
    split at h <;> cases h
  case return_ =>
    simp only [kStep] at h
    split at h
    · split at h <;> cases h
    · cases h
  all_goals cases h
end KNOCALL
