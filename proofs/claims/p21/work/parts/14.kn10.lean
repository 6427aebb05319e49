/-! ===== the dispatch; calls; ends; THE THEOREM: what the interpreter computes, the machine does ===== -/
def kDec (cc : ByteArray) (pc : Nat) (ins : Instr) : Prop := match ins with
  | .tableswitch d lo hi offs => ∃ len, decode cc pc = .ok (.tableswitch d lo hi offs, len)
  | ins => decode cc pc = .ok (ins, kLen ins)
/-- the members that are steps of their own: kd 0 invokevirtual, 1 invokespecial, 2 invokestatic -/
def kSpOk (own : String) (kd i k : Nat) : Prop :=
  (k = 9000 → kd = 1 ∧ Jvm.Cond.methodLink own i Lib.objectInit ∈ kTbl ∧ Jvm.Cond.instanceMethod Lib.objectInit ∈ kTbl ∧ Jvm.Cond.code Lib.objectInit ⟨#[0xb1]⟩ 1 none ∈ kTbl) ∧
  (k = 9001 → kd = 2 ∧ Jvm.Cond.methodLink own i arraycopyName ∈ kTbl ∧ Jvm.Cond.native arraycopyName ∈ kTbl ∧ Jvm.Cond.static arraycopyName ∈ kTbl ∧ Jvm.Cond.initialized "java/lang/System" ∈ kTbl) ∧
  (k = 9002 → kd = 0 ∧ Jvm.Cond.methodLink own i ⟨"[I", "clone", "()Ljava/lang/Object;"⟩ ∈ kTbl ∧ Jvm.Cond.sameMethod "[I" "java/lang/Object" "clone" "()Ljava/lang/Object;" ∈ kTbl ∧ Jvm.Cond.native ⟨"java/lang/Object", "clone", "()Ljava/lang/Object;"⟩ ∈ kTbl ∧ Jvm.Cond.instanceMethod ⟨"java/lang/Object", "clone", "()Ljava/lang/Object;"⟩ ∈ kTbl ∧ Jvm.Cond.selects "[I" ⟨"[I", "clone", "()Ljava/lang/Object;"⟩ ⟨"java/lang/Object", "clone", "()Ljava/lang/Object;"⟩ ∈ kTbl ∧ Jvm.Cond.castable "[I" "java/lang/Cloneable" ∈ kTbl) ∧
  (k = 9004 → kd = 0 ∧ Jvm.Cond.methodLink own i ⟨"[B", "clone", "()Ljava/lang/Object;"⟩ ∈ kTbl ∧ Jvm.Cond.sameMethod "[B" "java/lang/Object" "clone" "()Ljava/lang/Object;" ∈ kTbl ∧ Jvm.Cond.native ⟨"java/lang/Object", "clone", "()Ljava/lang/Object;"⟩ ∈ kTbl ∧ Jvm.Cond.instanceMethod ⟨"java/lang/Object", "clone", "()Ljava/lang/Object;"⟩ ∈ kTbl ∧ Jvm.Cond.selects "[B" ⟨"[B", "clone", "()Ljava/lang/Object;"⟩ ⟨"java/lang/Object", "clone", "()Ljava/lang/Object;"⟩ ∈ kTbl ∧ Jvm.Cond.castable "[B" "java/lang/Cloneable" ∈ kTbl) ∧
  (k = 9003 → kd = 0 ∧ Jvm.Cond.methodLink own i ⟨"java/lang/Object", "getClass", "()Ljava/lang/Class;"⟩ ∈ kTbl ∧ Jvm.Cond.declares ⟨"java/lang/Object", "getClass", "()Ljava/lang/Class;"⟩ ∈ kTbl ∧ Jvm.Cond.selects "[Ljava/lang/Object;" ⟨"java/lang/Object", "getClass", "()Ljava/lang/Class;"⟩ ⟨"java/lang/Object", "getClass", "()Ljava/lang/Class;"⟩ ∈ kTbl ∧ Jvm.Cond.instanceMethod ⟨"java/lang/Object", "getClass", "()Ljava/lang/Class;"⟩ ∈ kTbl ∧ Jvm.Cond.native ⟨"java/lang/Object", "getClass", "()Ljava/lang/Class;"⟩ ∈ kTbl)
def kIvk (kd i : Nat) : Instr := match kd with
  | 0 => .invokevirtual i
  | 1 => .invokespecial i
  | 2 => .invokestatic i
  | n => .invokeinterface i (n - 3)
def kHd (NL : Nat → Nat) (RT : Nat → Option FieldType) (Y : Nat → MethodName) (By : Nat → ByteArray) (HH : Nat → Option (List (Nat × Nat × Nat × Nat))) (mi : Nat) : Jvm.Cond := match HH mi with
  | none => .code (Y mi) (By mi) (NL mi) (RT mi)
  | some hh => .codeWith (Y mi) (By mi) (NL mi) (RT mi) hh
section KALL
variable {p : Program} {l : Launch} {e : Env} {R : Room} {s : State} {m : MethodId} {args : Array Value} {below : List Frame} {meth : Method} {c : Code} {Q : State → Prop} {D : va_G} {dA : Nat → ClassId} {ext : Nat → Nat} {base : Nat} {xm : Nat → Option kE} {nL n0 z0 : Nat}
variable {sm : Nat → Option Value} {sn : Nat → String × String × String} {strs : List (String × Nat × String)} {ncs : List (String × String)} {dfl : Nat → Option (List Value)} {fty : Nat → Nat → FieldType}
variable {cc : ByteArray} {pc pc' : Nat} {lv lv' : kL} {st st' : List Value} {mem mem' : kM} {a b : Nat} {own mn : String} {rt : Option FieldType}
theorem kw_spec {kd i k : Nat} (hx : p.tables.exec = Jvm.exec) (hb : c.code = cc) (hml : c.maxLocals = nL) (hdg : decode cc pc = .ok (kIvk kd i, 3)) (hown : s.vm.findClass own = some m.cls) (hts : ∀ w ∈ kTbl, w.before args s = true) (hO : kObj) (hWd : kWd D dA ext base xm sm sn strs ncs s) (hsp : kSpOk own kd i k)
    (hcat : (st.map fun v => v.category).sum ≤ 100) (hfr : 1 ≤ R.frames) (hlo : 300 ≤ R.locals) (hroom : mem'.length ≤ n0 + R.cells ∧ kSl mem' ≤ z0 + R.slots) (h : kSpec xm k pc lv st mem = some (.inl (pc', lv', st', mem'))) (kk : kA p l e R s m args below meth c Q D dA ext base xm nL n0 z0 pc' lv' st' mem') : kA p l e R s m args below meth c Q D dA ext base xm nL n0 z0 pc lv st mem := by
  obtain ⟨s0, s1, s2, s4, s3⟩ := hsp
  unfold kSpec at h
  split at h
  · obtain ⟨rfl, w1, w2, w3⟩ := s0 rfl
    obtain ⟨r, st1, rfl, h1⟩ := kTopA_some h
    cases h1
    exact ks_objInit hx hb hml hdg hown (hts _ w1) (hts _ w2) (hts _ w3) hfr hlo (by simp only [List.map_cons, List.sum_cons] at hcat; omega) kk
  · obtain ⟨rfl, w1, w2, w3, w4⟩ := s1 rfl
    split at h
    · rename_i n dp d sp sr st1
      have hc1 : (st1.map fun v => v.category).sum ≤ 100 := by simp only [List.map_cons, List.sum_cons] at hcat; omega
      split at h
      · rename_i hs hd
        split at h
        · rename_i hc
          cases h
          simp only [Bool.and_eq_true, Bool.or_eq_true, beq_iff_eq, decide_eq_true_eq] at hc
          obtain ⟨⟨⟨⟨⟨g1, g2⟩, g3⟩, g4⟩, g5⟩, g6⟩ := hc
          subst g1
          exact ks_copyI hx hb hml hdg hown (hts _ w1) (hts _ w2) (hts _ w3) (hts _ w4) hWd.2.2.1 g2 hs hd g3 g4 g5 (fun h1 => by
            rcases g6 with g | g
            · omega
            · exact g) hfr hlo hc1 kk
        · cases h
      · rename_i hs hd
        split at h
        · rename_i hc
          cases h
          simp only [Bool.and_eq_true, Bool.or_eq_true, beq_iff_eq, decide_eq_true_eq] at hc
          obtain ⟨⟨⟨⟨⟨g1, g2⟩, g3⟩, g4⟩, g5⟩, g6⟩ := hc
          exact ks_copyQ hx hb hml hdg hown hts (hts _ w1) (hts _ w2) (hts _ w3) (hts _ w4) hWd hO g1 g2 hs hd g3 g4 g5 g6 hfr hlo hc1 kk
        · cases h
      · cases h
    · cases h
  · obtain ⟨rfl, w1, w2, w3, w4, w5, w6⟩ := s2 rfl
    obtain ⟨r, st1, rfl, h1⟩ := kTopA_some h
    split at h1
    · rename_i xs hk
      by_cases hr : 1000 ≤ r
      · rw [if_pos hr] at h1
        cases h1
        rw [List.length_append, kSl_app] at hroom
        exact ks_clone hx hb hml hdg hown (hts _ w1) (hts _ w2) (hts _ w3) (hts _ w4) (hts _ w5) (hts _ w6) hWd.2.2.1 (t := 0) rfl (va_nm_int (hWd.2.2.1.2 0 _ rfl).2) (fun _ _ => rfl) hk hr hfr hlo (by simp only [List.map_cons, List.sum_cons] at hcat; omega) (by simpa using hroom.1) (by simpa [kSz] using hroom.2) kk
      · rw [if_neg hr] at h1
        cases h1
    · cases h1
  · obtain ⟨rfl, w1, w2, w3, w4, w5, w6⟩ := s4 rfl
    obtain ⟨r, st1, rfl, h1⟩ := kTopA_some h
    split at h1
    · rename_i xs hk
      by_cases hr : (decide (1000 ≤ r) && xs.all (fun x => fits .byte (.int x))) = true
      · rw [if_pos hr] at h1
        cases h1
        rw [Bool.and_eq_true] at hr
        rw [List.length_append, kSl_app] at hroom
        exact ks_clone hx hb hml hdg hown (hts _ w1) (hts _ w2) (hts _ w3) (hts _ w4) (hts _ w5) (hts _ w6) hWd.2.2.1 (t := 1) rfl (va_nm_byte (hWd.2.2.1.2 1 _ rfl).2) (fun x hx => List.all_eq_true.mp hr.2 x hx) hk (by simpa using hr.1) hfr hlo (by simp only [List.map_cons, List.sum_cons] at hcat; omega) (by simpa using hroom.1) (by simpa [kSz] using hroom.2) kk
      · rw [if_neg hr] at h1
        cases h1
    · cases h1
  · obtain ⟨rfl, w1, w2, w3, w4, w5⟩ := s3 rfl
    obtain ⟨r, st1, rfl, h1⟩ := kTopA_some h
    split at h1
    · rename_i xs hk
      cases h1
      exact ks_getC hx hb hml hdg hown (hts _ w1) (hts _ w2) (hts _ w3) (hts _ w4) (hts _ w5) hWd.2.2.2.2.2.1 hWd.2.2.1 hk (fun r xs hr hx => by
        obtain ⟨cell, g1, g2, g3, g4⟩ := hWd.2.2.2.2.2.2.1 r xs hr hx
        exact ⟨cell, g1, g2, g3, Nat.lt_of_not_le g4⟩) hfr hlo (by simp only [List.map_cons, List.sum_cons] at hcat; omega) kk
    · cases h1
  · cases h
theorem kw_spcall {kd i len : Nat} (hx : p.tables.exec = Jvm.exec) (hb : c.code = cc) (hml : c.maxLocals = nL) (hdg : decode cc pc = .ok (kIvk kd i, 3)) (hown : s.vm.findClass own = some m.cls) (hts : ∀ w ∈ kTbl, w.before args s = true) (hO : kObj) (hWd : kWd D dA ext base xm sm sn strs ncs s) (hsp : kSpOk own kd i a)
    (hfr : 1 ≤ R.frames) (hlo : 300 ≤ R.locals) (hroom : mem'.length ≤ n0 + R.cells ∧ kSl mem' ≤ z0 + R.slots) (h : kCall xm a b len pc lv st mem = some (.inl (pc', lv', st', mem'))) (kk : kA p l e R s m args below meth c Q D dA ext base xm nL n0 z0 pc' lv' st' mem') : kA p l e R s m args below meth c Q D dA ext base xm nL n0 z0 pc lv st mem := by
  unfold kCall at h
  split at h
  · split at h
    · rename_i hcat
      exact kw_spec hx hb hml hdg hown hts hO hWd hsp hcat hfr hlo hroom h kk
    · cases h
  · split at h <;> cases h
/-- an instruction that is no end and calls no method of the tables -/
theorem ks_all {ins : Instr} (hx : p.tables.exec = Jvm.exec) (hb : c.code = cc) (hml : c.maxLocals = nL) (hdec : kDec cc pc ins) (hown : s.vm.findClass own = some m.cls) (hts : ∀ w ∈ kTbl, w.before args s = true) (hO : kObj) (hWd : kWd D dA ext base xm sm sn strs ncs s) (hmn : meth.name = mn)
    (hres : kRes sn dfl fty own mn pc ins a b) (hsp : ∀ kd i, ins = kIvk kd i → kSpOk own kd i a) (hfr : 1 ≤ R.frames) (hlo : 300 ≤ R.locals) (hroom : mem'.length ≤ n0 + R.cells ∧ kSl mem' ≤ z0 + R.slots)
    (h : kStep xm sm dfl fty nL rt ins a b pc lv st mem = some (.inl (pc', lv', st', mem'))) (kk : kA p l e R s m args below meth c Q D dA ext base xm nL n0 z0 pc' lv' st' mem') : kA p l e R s m args below meth c Q D dA ext base xm nL n0 z0 pc lv st mem := by
  cases ins
  case iconst => exact ks_iconst hx hb hdec h kk
  case bipush => exact ks_bipush hx hb hdec h kk
  case sipush => exact ks_sipush hx hb hdec h kk
  case aconst_null => exact ks_aconst_null hx hb hdec h kk
  case ldc => exact kw_ldc hx hb hdec hown hts hWd.2.2.2.2.2.1 hres h kk
  case ldc_w => exact kw_ldcw hx hb hdec hown hts hres h kk
  case ldc2_w => exact kw_ldc2 hx hb hdec hown hts hres h kk
  case iload_n => exact ks_iload_n hx hb hdec h kk
  case iload => exact ks_iload hx hb hdec h kk
  case lload_n => exact ks_lload_n hx hb hdec h kk
  case lload => exact ks_lload hx hb hdec h kk
  case dload => exact ks_dload hx hb hdec h kk
  case fload_n => exact ks_fload_n hx hb hdec h kk
  case dload_n => exact ks_dload_n hx hb hdec h kk
  case aload_n => exact ks_aload_n hx hb hdec h kk
  case aload => exact ks_aload hx hb hdec h kk
  case istore_n => exact ks_istore_n hx hb hdec h kk
  case istore => exact ks_istore hx hb hdec h kk
  case fstore_n => exact ks_fstore_n hx hb hdec h kk
  case astore_n => exact ks_astore_n hx hb hdec h kk
  case astore => exact ks_astore hx hb hdec h kk
  case lstore_n => exact ks_lstore_n hx hb hdec h kk
  case lstore => exact ks_lstore hx hb hdec h kk
  case dstore => exact ks_dstore hx hb hdec h kk
  case iinc => exact kw_iinc hx hb hdec h kk
  case iadd =>
    simp only [kStep] at h
    exact ks_iadd hx hb hdec h kk
  case isub =>
    simp only [kStep] at h
    exact ks_isub hx hb hdec h kk
  case imul =>
    simp only [kStep] at h
    exact ks_imul hx hb hdec h kk
  case iand =>
    simp only [kStep] at h
    exact ks_iand hx hb hdec h kk
  case ior =>
    simp only [kStep] at h
    exact ks_ior hx hb hdec h kk
  case ishl =>
    simp only [kStep] at h
    exact ks_ishl hx hb hdec h kk
  case ishr =>
    simp only [kStep] at h
    exact ks_ishr hx hb hdec h kk
  case ixor =>
    simp only [kStep] at h
    exact ks_ixor hx hb hdec h kk
  case idiv =>
    simp only [kStep] at h
    exact ks_idiv hx hb hdec h kk
  case irem =>
    simp only [kStep] at h
    exact ks_irem hx hb hdec h kk
  case ineg =>
    simp only [kStep] at h
    exact ks_ineg hx hb hdec h kk
  case i2l =>
    simp only [kStep] at h
    exact ks_i2l hx hb hdec h kk
  case i2b =>
    simp only [kStep] at h
    exact ks_i2b hx hb hdec h kk
  case i2c =>
    simp only [kStep] at h
    exact ks_i2c hx hb hdec h kk
  case i2f =>
    simp only [kStep] at h
    exact ks_i2f hx hb hdec h kk
  case i2d =>
    simp only [kStep] at h
    exact ks_i2d hx hb hdec h kk
  case ladd =>
    simp only [kStep] at h
    exact ks_ladd hx hb hdec h kk
  case lmul =>
    simp only [kStep] at h
    exact ks_lmul hx hb hdec h kk
  case lcmp =>
    simp only [kStep] at h
    exact ks_lcmp hx hb hdec h kk
  case dcmp =>
    simp only [kStep] at h
    exact ks_dcmp hx hb hdec h kk
  case fmul =>
    simp only [kStep] at h
    exact ks_fmul hx hb hdec h kk
  case fsub =>
    simp only [kStep] at h
    exact ks_fsub hx hb hdec h kk
  case f2l =>
    simp only [kStep] at h
    exact ks_f2l hx hb hdec h kk
  case f2d =>
    simp only [kStep] at h
    exact ks_f2d hx hb hdec h kk
  case ddiv =>
    simp only [kStep] at h
    exact ks_ddiv hx hb hdec h kk
  case dmul =>
    simp only [kStep] at h
    exact ks_dmul hx hb hdec h kk
  case dsub =>
    simp only [kStep] at h
    exact ks_dsub hx hb hdec h kk
  case dup =>
    simp only [kStep] at h
    exact ks_dup hx hb hdec h kk
  case pop =>
    simp only [kStep] at h
    exact ks_pop hx hb hdec h kk
  case pop2 => exact kw_pop2 hx hb hdec h kk
  case dup_x1 =>
    simp only [kStep] at h
    exact ks_dup_x1 hx hb hdec h kk
  case dup2 =>
    simp only [kStep] at h
    exact ks_dup2 hx hb hdec h kk
  case goto => exact ks_goto hres hx hb hdec h kk
  case ifCond => exact kw_ifCond hx hb hdec hres h kk
  case if_icmp => exact kw_icmp hx hb hdec hres h kk
  case ifnull => exact kw_ifnull hx hb hdec hres h kk
  case ifnonnull => exact kw_ifnonnull hx hb hdec hres h kk
  case if_acmp => exact kw_acmp hx hb hdec hres hWd.1 h kk
  case tableswitch =>
    obtain ⟨len, hd⟩ := hdec
    exact kw_table hx hb hd hres h kk
  case getstatic => exact kw_getstatic hx hb hdec hown hts hWd hres h kk
  case getfield => exact kw_getfield hx hb hdec hown hts hWd hres h kk
  case putfield => exact kw_putfield hx hb hdec hown hts hWd hmn hres h kk
  case new => exact kw_new hx hb hdec hown hts hWd hres hroom h kk
  case newarray => exact kw_newarray hx hb hdec hts hWd hres hroom h kk
  case anewarray => exact kw_anewarray hx hb hdec hown hts hWd hres hroom h kk
  case arraylength => exact kw_arraylength hx hb hdec hWd h kk
  case iaload => exact kw_iaload hx hb hdec hWd h kk
  case baload => exact kw_baload hx hb hdec hWd h kk
  case aaload => exact kw_aaload hx hb hdec hWd h kk
  case iastore => exact kw_iastore hx hb hdec hWd h kk
  case bastore => exact kw_bastore hx hb hdec hWd h kk
  case aastore => exact kw_aastore hx hb hdec hts hO hWd h kk
  case checkcast => exact kw_checkcast hx hb hdec hown hts hWd hres h kk
  case invokevirtual i => exact kw_spcall (kd := 0) hx hb hml hdec hown hts hO hWd (hsp 0 i rfl) hfr hlo hroom h kk
  case invokespecial i => exact kw_spcall (kd := 1) hx hb hml hdec hown hts hO hWd (hsp 1 i rfl) hfr hlo hroom h kk
  case invokestatic i => exact kw_spcall (kd := 2) hx hb hml hdec hown hts hO hWd (hsp 2 i rfl) hfr hlo hroom h kk
  case invokeinterface i n =>
    have h0 := hsp (n + 3) i (by simp [kIvk])
    obtain ⟨s0, s1, s2, s4, s3⟩ := h0
    simp only [kStep, kCall] at h
    split at h
    · split at h
      · unfold kSpec at h
        split at h
        · exact absurd (s0 rfl).1 (by omega)
        · exact absurd (s1 rfl).1 (by omega)
        · exact absurd (s2 rfl).1 (by omega)
        · exact absurd (s4 rfl).1 (by omega)
        · exact absurd (s3 rfl).1 (by omega)
        · cases h
      · cases h
    · split at h <;> cases h
  case ireturn =>
    simp only [kStep] at h
    split at h
    · split at h <;> cases h
    · cases h
  case lreturn =>
    simp only [kStep] at h
    split at h
    · split at h <;> cases h
    · cases h
  case freturn =>
    simp only [kStep] at h
    split at h
    · split at h <;> cases h
    · cases h
  case dreturn =>
    simp only [kStep] at h
    split at h
    · split at h <;> cases h
    · cases h
  case areturn =>
    simp only [kStep] at h
    split at h <;> cases h
  case return_ =>
    simp only [kStep] at h
    split at h
    · split at h <;> cases h
    · cases h
  all_goals cases h
end KALL
