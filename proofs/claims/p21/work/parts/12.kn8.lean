/-! ===== one instruction of the interpreter is one of the machine ===== -/
def kLen : Instr → Nat
  | .bipush _ => 2
  | .sipush _ => 3
  | .ldc _ => 2
  | .ldc_w _ => 3
  | .ldc2_w _ => 3
  | .iload _ => 2
  | .lload _ => 2
  | .dload _ => 2
  | .aload _ => 2
  | .istore _ => 2
  | .lstore _ => 2
  | .dstore _ => 2
  | .astore _ => 2
  | .iinc _ _ => 3
  | .goto _ => 3
  | .ifCond _ _ => 3
  | .if_icmp _ _ => 3
  | .ifnull _ => 3
  | .ifnonnull _ => 3
  | .if_acmp _ _ => 3
  | .getstatic _ => 3
  | .getfield _ => 3
  | .putfield _ => 3
  | .new _ => 3
  | .newarray _ => 2
  | .anewarray _ => 3
  | .checkcast _ => 3
  | .invokevirtual _ => 3
  | .invokespecial _ => 3
  | .invokestatic _ => 3
  | .invokeinterface _ _ => 5
  | _ => 1
/-- what an entry of the tables must stand on (calls apart) -/
def kRes (sn : Nat → String × String × String) (dfl : Nat → Option (List Value)) (fty : Nat → Nat → FieldType) (own mn : String) (pc : Nat) (ins : Instr) (a b : Nat) : Prop := match ins with
  | .goto o => (pc : Int) + o = a
  | .ifCond _ o => (pc : Int) + o = a
  | .if_icmp _ o => (pc : Int) + o = a
  | .ifnull o => (pc : Int) + o = a
  | .ifnonnull o => (pc : Int) + o = a
  | .if_acmp _ o => (pc : Int) + o = a
  | .ldc i => (a = 0 → Jvm.Cond.constant own i (Int32.ofNat b) ∈ kTbl) ∧ (a = 1 → Jvm.Cond.constantFloat own i (UInt32.ofNat b) ∈ kTbl) ∧ (a = 2 → Jvm.Cond.classLink own i "[Ljava/lang/Object;" ∈ kTbl)
  | .ldc_w i => (a = 0 → Jvm.Cond.constant own i (Int32.ofNat b) ∈ kTbl) ∧ (a = 1 → Jvm.Cond.constantFloat own i (UInt32.ofNat b) ∈ kTbl)
  | .ldc2_w i => (a = 0 → Jvm.Cond.constantLong own i (Int64.ofNat b) ∈ kTbl) ∧ (a = 1 → Jvm.Cond.constantDouble own i (UInt64.ofNat b) ∈ kTbl)
  | .tableswitch d _ _ offs => 0 ≤ (pc : Int) + d ∧ ∀ o ∈ offs, 0 ≤ (pc : Int) + o
  | .getstatic i => Jvm.Cond.fieldLink own i (sn a).1 (sn a).2.1 (sn a).2.2 ∈ kTbl ∨ ∃ host, Jvm.Cond.fieldLinkNest own i (sn a).1 (sn a).2.1 (sn a).2.2 host ∈ kTbl
  | .getfield i => ∃ (C : String) (T : u_T) (N : Nat), kCI fty a C T N ∧ b < N ∧ kFL own i T b
  | .putfield i => ∃ (C : String) (T : u_T) (N : Nat), kCI fty a C T N ∧ b < N ∧ kFL own i T b ∧ ((T b).2.2.2 = false ∨ ((T b).2.2.2 = true ∧ mn = "<init>" ∧ (T b).1 = own ∧ Jvm.Cond.fieldLink own i (T b).1 (T b).2.1 (T b).2.2.1 ∈ kTbl))
  | .new i => a < 5000 → ∃ (C : String) (T : u_T) (N : Nat) (fs : List Value), kCI fty a C T N ∧ Jvm.Cond.classLink own i C ∈ kTbl ∧ Jvm.Cond.instantiable C N ∈ kTbl ∧ Jvm.Cond.initialized C ∈ kTbl ∧ dfl a = some fs ∧ fs.length = N ∧ ∀ j, j < N → fs[j]? = some (defaultValue (fty a j)) ∧ ∀ ad, kV ad (defaultValue (fty a j)) = defaultValue (fty a j)
  | .newarray ty => Jvm.Cond.arrayClass (newarray.typeOf ty) ∈ kTbl
  | .anewarray i => (a = 2 ∨ a = 3) ∧ Jvm.Cond.classLink own i (kEn a) ∈ kTbl ∧ Jvm.Cond.arrayOver (.object (kEn a)) ∈ kTbl
  | .checkcast i => ∃ nm : String, Jvm.Cond.classLink own i nm ∈ kTbl ∧ (a = 0 → b < 1000 ∧ ∃ (C : String) (T : u_T) (N : Nat), vwCl[b]? = some (C, T, N) ∧ (C = nm ∨ Jvm.Cond.castable C nm ∈ kTbl)) ∧ (a = 1 → (b = 0 ∧ nm = "[I") ∨ (b = 1 ∧ nm = "[B")) ∧ (a = 2 → b = 2 ∧ nm = "[Ljava/lang/Object;")
  | _ => True
section KSTEP
variable {p : Program} {l : Launch} {e : Env} {R : Room} {s : State} {m : MethodId} {args : Array Value} {below : List Frame} {meth : Method} {c : Code} {Q : State → Prop} {D : va_G} {dA : Nat → ClassId} {ext : Nat → Nat} {base : Nat} {xm : Nat → Option kE} {nL n0 z0 : Nat}
variable {sm : Nat → Option Value} {sn : Nat → String × String × String} {strs : List (String × Nat × String)} {ncs : List (String × String)} {dfl : Nat → Option (List Value)} {fty : Nat → Nat → FieldType}
variable {cc : ByteArray} {pc pc' : Nat} {lv lv' : kL} {st st' : List Value} {mem mem' : kM} {a b : Nat} {own mn : String} {rt : Option FieldType}
theorem kw_iinc {i : Nat} {n : Int} (hx : p.tables.exec = Jvm.exec) (hb : c.code = cc) (hdg : decode cc pc = .ok (.iinc i n, 3)) (h : kStep xm sm dfl fty nL rt (.iinc i n) a b pc lv st mem = some (.inl (pc', lv', st', mem'))) (k : kA p l e R s m args below meth c Q D dA ext base xm nL n0 z0 pc' lv' st' mem') : kA p l e R s m args below meth c Q D dA ext base xm nL n0 z0 pc lv st mem := by
  simp only [kStep] at h
  cases hv : kLv lv i with
  | none => rw [hv] at h; cases h
  | some v =>
    rw [hv] at h
    cases v with
    | int x =>
      dsimp only at h
      by_cases hi : i < nL
      · rw [if_pos hi] at h
        cases h
        exact ks_iinc hx hb hdg hv hi k
      · rw [if_neg hi] at h
        cases h
    | _ => cases h
theorem kw_pop2 (hx : p.tables.exec = Jvm.exec) (hb : c.code = cc) (hdg : decode cc pc = .ok (.pop2, 1)) (h : kStep xm sm dfl fty nL rt .pop2 a b pc lv st mem = some (.inl (pc', lv', st', mem'))) (k : kA p l e R s m args below meth c Q D dA ext base xm nL n0 z0 pc' lv' st' mem') : kA p l e R s m args below meth c Q D dA ext base xm nL n0 z0 pc lv st mem := by
  simp only [kStep] at h
  cases st with
  | nil => cases h
  | cons v st1 =>
    cases v with
    | long x => cases h; exact ks_pop2 hx hb hdg rfl k
    | double x => cases h; exact ks_pop2 hx hb hdg rfl k
    | _ => cases h
theorem kw_ifCond {cd : Jvm.ClassFile.Cond} {o : Int} (hx : p.tables.exec = Jvm.exec) (hb : c.code = cc) (hdg : decode cc pc = .ok (.ifCond cd o, 3)) (ht : (pc : Int) + o = (a : Int)) (h : kStep xm sm dfl fty nL rt (.ifCond cd o) a b pc lv st mem = some (.inl (pc', lv', st', mem'))) (k : kA p l e R s m args below meth c Q D dA ext base xm nL n0 z0 pc' lv' st' mem') : kA p l e R s m args below meth c Q D dA ext base xm nL n0 z0 pc lv st mem := by
  simp only [kStep] at h
  obtain ⟨x, st1, rfl, h1⟩ := kTopI_some h
  cases h1
  cases cd
  · exact ks_if_eq ht hx hb hdg k
  · exact ks_if_ne ht hx hb hdg k
  · exact ks_if_lt ht hx hb hdg k
  · exact ks_if_ge ht hx hb hdg k
  · exact ks_if_gt ht hx hb hdg k
  · exact ks_if_le ht hx hb hdg k
theorem kw_icmp {cd : Jvm.ClassFile.Cond} {o : Int} (hx : p.tables.exec = Jvm.exec) (hb : c.code = cc) (hdg : decode cc pc = .ok (.if_icmp cd o, 3)) (ht : (pc : Int) + o = (a : Int)) (h : kStep xm sm dfl fty nL rt (.if_icmp cd o) a b pc lv st mem = some (.inl (pc', lv', st', mem'))) (k : kA p l e R s m args below meth c Q D dA ext base xm nL n0 z0 pc' lv' st' mem') : kA p l e R s m args below meth c Q D dA ext base xm nL n0 z0 pc lv st mem := by
  simp only [kStep] at h
  obtain ⟨y, st1, rfl, h1⟩ := kTopI_some h
  obtain ⟨x, st2, rfl, h2⟩ := kTopI_some h1
  cases h2
  cases cd
  · exact ks_icmp_eq ht hx hb hdg k
  · exact ks_icmp_ne ht hx hb hdg k
  · exact ks_icmp_lt ht hx hb hdg k
  · exact ks_icmp_ge ht hx hb hdg k
  · exact ks_icmp_gt ht hx hb hdg k
  · exact ks_icmp_le ht hx hb hdg k
theorem kw_ifnull {o : Int} (hx : p.tables.exec = Jvm.exec) (hb : c.code = cc) (hdg : decode cc pc = .ok (.ifnull o, 3)) (ht : (pc : Int) + o = (a : Int)) (h : kStep xm sm dfl fty nL rt (.ifnull o) a b pc lv st mem = some (.inl (pc', lv', st', mem'))) (k : kA p l e R s m args below meth c Q D dA ext base xm nL n0 z0 pc' lv' st' mem') : kA p l e R s m args below meth c Q D dA ext base xm nL n0 z0 pc lv st mem := by
  simp only [kStep] at h
  obtain ⟨q, st1, rfl, h1⟩ := kTopQ_some h
  cases h1
  exact ks_ifnull hx hb hdg ht k
theorem kw_ifnonnull {o : Int} (hx : p.tables.exec = Jvm.exec) (hb : c.code = cc) (hdg : decode cc pc = .ok (.ifnonnull o, 3)) (ht : (pc : Int) + o = (a : Int)) (h : kStep xm sm dfl fty nL rt (.ifnonnull o) a b pc lv st mem = some (.inl (pc', lv', st', mem'))) (k : kA p l e R s m args below meth c Q D dA ext base xm nL n0 z0 pc' lv' st' mem') : kA p l e R s m args below meth c Q D dA ext base xm nL n0 z0 pc lv st mem := by
  simp only [kStep] at h
  obtain ⟨q, st1, rfl, h1⟩ := kTopQ_some h
  cases h1
  exact ks_ifnonnull hx hb hdg ht k
theorem kw_acmp {cd : ACond} {o : Int} (hx : p.tables.exec = Jvm.exec) (hb : c.code = cc) (hdg : decode cc pc = .ok (.if_acmp cd o, 3)) (ht : (pc : Int) + o = (a : Int)) (hext : ∀ r, r < 1000 → r ≠ 2 → ext r < base) (h : kStep xm sm dfl fty nL rt (.if_acmp cd o) a b pc lv st mem = some (.inl (pc', lv', st', mem'))) (k : kA p l e R s m args below meth c Q D dA ext base xm nL n0 z0 pc' lv' st' mem') : kA p l e R s m args below meth c Q D dA ext base xm nL n0 z0 pc lv st mem := by
  simp only [kStep] at h
  obtain ⟨y, st1, rfl, h1⟩ := kTopQ_some h
  obtain ⟨x, st2, rfl, h2⟩ := kTopQ_some h1
  by_cases hxy : x = y
  · rw [if_pos (by simpa using hxy)] at h2
    cases h2
    cases cd
    all_goals
      refine ks_acmp hx hb hdg ht hext (Or.inl hxy) ?_
      rw [if_pos hxy]
      exact k
  · rw [if_neg (by simpa using hxy)] at h2
    by_cases hor : kNm x y = true
    · rw [if_pos hor] at h2
      cases h2
      cases cd
      all_goals
        refine ks_acmp hx hb hdg ht hext (Or.inr hor) ?_
        rw [if_neg hxy]
        exact k
    · rw [if_neg hor] at h2
      cases h2
theorem kw_ldc {i : Nat} (hx : p.tables.exec = Jvm.exec) (hb : c.code = cc) (hdg : decode cc pc = .ok (.ldc i, 2)) (hown : s.vm.findClass own = some m.cls) (hts : ∀ w ∈ kTbl, w.before args s = true) (hM : va_Mi "[Ljava/lang/Object;" (ext 2) s) (hres : kRes sn dfl fty own mn pc (.ldc i) a b) (h : kStep xm sm dfl fty nL rt (.ldc i) a b pc lv st mem = some (.inl (pc', lv', st', mem'))) (k : kA p l e R s m args below meth c Q D dA ext base xm nL n0 z0 pc' lv' st' mem') : kA p l e R s m args below meth c Q D dA ext base xm nL n0 z0 pc lv st mem := by
  obtain ⟨h1, h2, h3⟩ := hres
  simp only [kStep] at h
  split at h
  · cases h
    exact ks_ldcI hx hb hdg hown (hts _ (h1 rfl)) k
  · cases h
    exact ks_ldcF hx hb hdg hown (hts _ (h2 rfl)) k
  · cases h
    exact ks_ldcM hx hb hdg hown (hts _ (h3 rfl)) hM k
  · cases h
theorem kw_ldcw {i : Nat} (hx : p.tables.exec = Jvm.exec) (hb : c.code = cc) (hdg : decode cc pc = .ok (.ldc_w i, 3)) (hown : s.vm.findClass own = some m.cls) (hts : ∀ w ∈ kTbl, w.before args s = true) (hres : kRes sn dfl fty own mn pc (.ldc_w i) a b) (h : kStep xm sm dfl fty nL rt (.ldc_w i) a b pc lv st mem = some (.inl (pc', lv', st', mem'))) (k : kA p l e R s m args below meth c Q D dA ext base xm nL n0 z0 pc' lv' st' mem') : kA p l e R s m args below meth c Q D dA ext base xm nL n0 z0 pc lv st mem := by
  obtain ⟨h1, h2⟩ := hres
  simp only [kStep] at h
  split at h
  · cases h
    exact ks_ldcwI hx hb hdg hown (hts _ (h1 rfl)) k
  · cases h
    exact ks_ldcwF hx hb hdg hown (hts _ (h2 rfl)) k
  · cases h
theorem kw_ldc2 {i : Nat} (hx : p.tables.exec = Jvm.exec) (hb : c.code = cc) (hdg : decode cc pc = .ok (.ldc2_w i, 3)) (hown : s.vm.findClass own = some m.cls) (hts : ∀ w ∈ kTbl, w.before args s = true) (hres : kRes sn dfl fty own mn pc (.ldc2_w i) a b) (h : kStep xm sm dfl fty nL rt (.ldc2_w i) a b pc lv st mem = some (.inl (pc', lv', st', mem'))) (k : kA p l e R s m args below meth c Q D dA ext base xm nL n0 z0 pc' lv' st' mem') : kA p l e R s m args below meth c Q D dA ext base xm nL n0 z0 pc lv st mem := by
  obtain ⟨h1, h2⟩ := hres
  simp only [kStep] at h
  split at h
  · cases h
    exact ks_ldc2J hx hb hdg hown (hts _ (h1 rfl)) k
  · cases h
    exact ks_ldc2D hx hb hdg hown (hts _ (h2 rfl)) k
  · cases h
theorem kw_getstatic {i : Nat} (hx : p.tables.exec = Jvm.exec) (hb : c.code = cc) (hdg : decode cc pc = .ok (.getstatic i, 3)) (hown : s.vm.findClass own = some m.cls) (hts : ∀ w ∈ kTbl, w.before args s = true) (hWd : kWd D dA ext base xm sm sn strs ncs s) (hres : kRes sn dfl fty own mn pc (.getstatic i) a b) (h : kStep xm sm dfl fty nL rt (.getstatic i) a b pc lv st mem = some (.inl (pc', lv', st', mem'))) (k : kA p l e R s m args below meth c Q D dA ext base xm nL n0 z0 pc' lv' st' mem') : kA p l e R s m args below meth c Q D dA ext base xm nL n0 z0 pc lv st mem := by
  have hres' : Jvm.Cond.fieldLink own i (sn a).1 (sn a).2.1 (sn a).2.2 ∈ kTbl ∨ ∃ host, Jvm.Cond.fieldLinkNest own i (sn a).1 (sn a).2.1 (sn a).2.2 host ∈ kTbl := hres
  simp only [kStep] at h
  cases hs : sm a with
  | none => rw [hs] at h; cases h
  | some v =>
    rw [hs] at h
    cases h
    rcases hres' with h | ⟨host, h⟩
    · exact ks_getstatic hx hb hdg hown (hWd.2.2.2.2.1 a v hs) (hts _ h) rfl k
    · exact ks_getstaticN hx hb hdg hown (hWd.2.2.2.2.1 a v hs) (hts _ h) rfl k
theorem kw_table {d lo hi : Int} {offs : Array Int} {len : Nat} (hx : p.tables.exec = Jvm.exec) (hb : c.code = cc) (hdg : decode cc pc = .ok (.tableswitch d lo hi offs, len)) (hres : kRes sn dfl fty own mn pc (.tableswitch d lo hi offs) a b) (h : kStep xm sm dfl fty nL rt (.tableswitch d lo hi offs) a b pc lv st mem = some (.inl (pc', lv', st', mem'))) (k : kA p l e R s m args below meth c Q D dA ext base xm nL n0 z0 pc' lv' st' mem') : kA p l e R s m args below meth c Q D dA ext base xm nL n0 z0 pc lv st mem := by
  simp only [kStep] at h
  obtain ⟨x, st1, rfl, h1⟩ := kTopI_some h
  exact ks_table hx hb hdg hres.1 hres.2 h1 k
theorem kw_getfield {i : Nat} (hx : p.tables.exec = Jvm.exec) (hb : c.code = cc) (hdg : decode cc pc = .ok (.getfield i, 3)) (hown : s.vm.findClass own = some m.cls) (hts : ∀ w ∈ kTbl, w.before args s = true) (hWd : kWd D dA ext base xm sm sn strs ncs s) (hres : kRes sn dfl fty own mn pc (.getfield i) a b) (h : kStep xm sm dfl fty nL rt (.getfield i) a b pc lv st mem = some (.inl (pc', lv', st', mem'))) (k : kA p l e R s m args below meth c Q D dA ext base xm nL n0 z0 pc' lv' st' mem') : kA p l e R s m args below meth c Q D dA ext base xm nL n0 z0 pc lv st mem := by
  obtain ⟨C, T, N, hC, hN, hF⟩ := hres
  simp only [kStep] at h
  obtain ⟨r, st1, rfl, h1⟩ := kTopA_some h
  cases hk : kLook xm mem r with
  | none => rw [hk] at h1; cases h1
  | some x =>
    rw [hk] at h1
    rcases x with ⟨ci, fs⟩ | x
    · dsimp only at h1
      by_cases hci : (ci == a) = true
      · rw [if_pos hci] at h1
        have hci : ci = a := by simpa using hci
        subst hci
        cases hv : fs[b]? with
        | none => rw [hv] at h1; cases h1
        | some v =>
          rw [hv] at h1
          cases h1
          by_cases hr : r < 1000
          · exact ks_getfieldX hx hb hdg hown hts hC hF hWd.2.2.2.1 hk hr hv k
          · exact ks_getfield hx hb hdg hown hts hWd.2.2.1 hC hN hF hk (Nat.le_of_not_lt hr) hv k
      · rw [if_neg hci] at h1
        cases h1
    · cases h1
theorem kw_putfield {i : Nat} (hx : p.tables.exec = Jvm.exec) (hb : c.code = cc) (hdg : decode cc pc = .ok (.putfield i, 3)) (hown : s.vm.findClass own = some m.cls) (hts : ∀ w ∈ kTbl, w.before args s = true) (hWd : kWd D dA ext base xm sm sn strs ncs s) (hmn : meth.name = mn) (hres : kRes sn dfl fty own mn pc (.putfield i) a b) (h : kStep xm sm dfl fty nL rt (.putfield i) a b pc lv st mem = some (.inl (pc', lv', st', mem'))) (k : kA p l e R s m args below meth c Q D dA ext base xm nL n0 z0 pc' lv' st' mem') : kA p l e R s m args below meth c Q D dA ext base xm nL n0 z0 pc lv st mem := by
  obtain ⟨C, T, N, hC, hN, hF, hfin⟩ := hres
  simp only [kStep] at h
  split at h
  · rename_i v r st1
    cases hk : kLook xm mem r with
    | none => rw [hk] at h; cases h
    | some x =>
      rw [hk] at h
      rcases x with ⟨ci, fs⟩ | x
      · dsimp only at h
        by_cases hci : (ci == a && decide (1000 ≤ r) && decide (b < fs.length) && kFits (fty a b) v) = true
        · rw [if_pos hci] at h
          simp only [Bool.and_eq_true, beq_iff_eq, decide_eq_true_eq] at hci
          obtain ⟨⟨⟨h1, h2⟩, h3⟩, h4⟩ := hci
          subst h1
          cases h
          exact ks_putfield hx hb hdg hown hts hWd.2.2.1 hmn hC hN hF hfin hk h2 h3 h4 k
        · rw [if_neg hci] at h
          cases h
      · cases h
  · cases h
theorem kw_new {i : Nat} (hx : p.tables.exec = Jvm.exec) (hb : c.code = cc) (hdg : decode cc pc = .ok (.new i, 3)) (hown : s.vm.findClass own = some m.cls) (hts : ∀ w ∈ kTbl, w.before args s = true) (hWd : kWd D dA ext base xm sm sn strs ncs s) (hres : kRes sn dfl fty own mn pc (.new i) a b) (hroom : mem'.length ≤ n0 + R.cells ∧ kSl mem' ≤ z0 + R.slots) (h : kStep xm sm dfl fty nL rt (.new i) a b pc lv st mem = some (.inl (pc', lv', st', mem'))) (k : kA p l e R s m args below meth c Q D dA ext base xm nL n0 z0 pc' lv' st' mem') : kA p l e R s m args below meth c Q D dA ext base xm nL n0 z0 pc lv st mem := by
  simp only [kStep] at h
  by_cases ha : 5000 ≤ a
  · rw [if_pos ha] at h
    split at h <;> cases h
  · rw [if_neg ha] at h
    obtain ⟨C, T, N, fs, hC, h1, h2, h3, h4, h5, h6⟩ := hres (by omega)
    rw [h4] at h
    cases h
    rw [List.length_append, kSl_app] at hroom
    exact ks_new hx hb hdg hown hts hWd.2.2.1 hC h1 h2 h3 h5 h6 (by simpa using hroom.1) (by simpa [kSz, h5] using hroom.2) k
theorem kw_newarray {ty : ArrayType} (hx : p.tables.exec = Jvm.exec) (hb : c.code = cc) (hdg : decode cc pc = .ok (.newarray ty, 2)) (hts : ∀ w ∈ kTbl, w.before args s = true) (hWd : kWd D dA ext base xm sm sn strs ncs s) (hres : kRes sn dfl fty own mn pc (.newarray ty) a b) (hroom : mem'.length ≤ n0 + R.cells ∧ kSl mem' ≤ z0 + R.slots) (h : kStep xm sm dfl fty nL rt (.newarray ty) a b pc lv st mem = some (.inl (pc', lv', st', mem'))) (k : kA p l e R s m args below meth c Q D dA ext base xm nL n0 z0 pc' lv' st' mem') : kA p l e R s m args below meth c Q D dA ext base xm nL n0 z0 pc lv st mem := by
  have hres' : Jvm.Cond.arrayClass (newarray.typeOf ty) ∈ kTbl := hres
  simp only [kStep] at h
  obtain ⟨n, st1, rfl, h1⟩ := kTopI_some h
  cases ht : kTag ty with
  | none => rw [ht] at h1; cases h1
  | some t =>
    rw [ht] at h1
    dsimp only at h1
    by_cases hn : (!decide (n < 0) && decide (n.toNatClampNeg ≤ 16777216)) = true
    · rw [if_pos hn] at h1
      cases h1
      simp only [Bool.and_eq_true, Bool.not_eq_true', decide_eq_false_iff_not, decide_eq_true_eq] at hn
      rw [List.length_append, kSl_app] at hroom
      exact ks_newarray hx hb hdg hts hWd.2.2.1 hres' ht hn.1 hn.2 (by simpa using hroom.1) (by simpa [kSz] using hroom.2) k
    · rw [if_neg hn] at h1
      cases h1
theorem kw_anewarray {i : Nat} (hx : p.tables.exec = Jvm.exec) (hb : c.code = cc) (hdg : decode cc pc = .ok (.anewarray i, 3)) (hown : s.vm.findClass own = some m.cls) (hts : ∀ w ∈ kTbl, w.before args s = true) (hWd : kWd D dA ext base xm sm sn strs ncs s) (hres : kRes sn dfl fty own mn pc (.anewarray i) a b) (hroom : mem'.length ≤ n0 + R.cells ∧ kSl mem' ≤ z0 + R.slots) (h : kStep xm sm dfl fty nL rt (.anewarray i) a b pc lv st mem = some (.inl (pc', lv', st', mem'))) (k : kA p l e R s m args below meth c Q D dA ext base xm nL n0 z0 pc' lv' st' mem') : kA p l e R s m args below meth c Q D dA ext base xm nL n0 z0 pc lv st mem := by
  obtain ⟨ha, h2, h3⟩ := hres
  simp only [kStep] at h
  obtain ⟨n, st1, rfl, h1⟩ := kTopI_some h
  by_cases hn : (!decide (n < 0) && decide (n.toNatClampNeg ≤ 16777216)) = true
  · rw [if_pos hn] at h1
    cases h1
    simp only [Bool.and_eq_true, Bool.not_eq_true', decide_eq_false_iff_not, decide_eq_true_eq] at hn
    rw [List.length_append, kSl_app] at hroom
    exact ks_anewarray hx hb hdg hown hts hWd.2.2.1 h2 h3 (by rcases ha with rfl | rfl <;> rfl) hn.1 hn.2 (by simpa using hroom.1) (by simpa [kSz] using hroom.2) k
  · rw [if_neg hn] at h1
    cases h1
theorem kw_arraylength (hx : p.tables.exec = Jvm.exec) (hb : c.code = cc) (hdg : decode cc pc = .ok (.arraylength, 1)) (hWd : kWd D dA ext base xm sm sn strs ncs s) (h : kStep xm sm dfl fty nL rt .arraylength a b pc lv st mem = some (.inl (pc', lv', st', mem'))) (k : kA p l e R s m args below meth c Q D dA ext base xm nL n0 z0 pc' lv' st' mem') : kA p l e R s m args below meth c Q D dA ext base xm nL n0 z0 pc lv st mem := by
  simp only [kStep] at h
  obtain ⟨r, st1, rfl, h1⟩ := kTopA_some h
  cases hk : kLook xm mem r with
  | none => rw [hk] at h1; cases h1
  | some x =>
    rw [hk] at h1
    rcases x with x | ⟨t, xs⟩ | ⟨t, xs⟩
    · cases h1
    · dsimp only at h1
      by_cases ht : decide (t < 2) = true
      · rw [if_pos ht] at h1
        cases h1
        exact ks_arraylength hx hb hdg hWd.2.2.1 hWd.2.2.2.1 (Or.inl ⟨t, xs, by simpa using ht, rfl, hk⟩) k
      · rw [if_neg ht] at h1
        cases h1
    · dsimp only at h1
      by_cases ht : (t == 2 || t == 3) = true
      · rw [if_pos ht] at h1
        cases h1
        exact ks_arraylength hx hb hdg hWd.2.2.1 hWd.2.2.2.1 (Or.inr ⟨t, xs, by simpa using ht, rfl, hk⟩) k
      · rw [if_neg ht] at h1
        cases h1
theorem kw_iaload (hx : p.tables.exec = Jvm.exec) (hb : c.code = cc) (hdg : decode cc pc = .ok (.iaload, 1)) (hWd : kWd D dA ext base xm sm sn strs ncs s) (h : kStep xm sm dfl fty nL rt .iaload a b pc lv st mem = some (.inl (pc', lv', st', mem'))) (k : kA p l e R s m args below meth c Q D dA ext base xm nL n0 z0 pc' lv' st' mem') : kA p l e R s m args below meth c Q D dA ext base xm nL n0 z0 pc lv st mem := by
  simp only [kStep] at h
  obtain ⟨j, st1, rfl, h1⟩ := kTopI_some h
  obtain ⟨r, st2, rfl, h2⟩ := kTopA_some h1
  split at h2
  · rename_i xs hk
    by_cases hj : kInB j xs.length = true
    · rw [if_pos hj] at h2
      cases h2
      exact ks_iaload hx hb hdg hWd.2.2.1 hWd.2.2.2.1 hk hj k
    · rw [if_neg hj] at h2
      cases h2
  · cases h2
theorem kw_baload (hx : p.tables.exec = Jvm.exec) (hb : c.code = cc) (hdg : decode cc pc = .ok (.baload, 1)) (hWd : kWd D dA ext base xm sm sn strs ncs s) (h : kStep xm sm dfl fty nL rt .baload a b pc lv st mem = some (.inl (pc', lv', st', mem'))) (k : kA p l e R s m args below meth c Q D dA ext base xm nL n0 z0 pc' lv' st' mem') : kA p l e R s m args below meth c Q D dA ext base xm nL n0 z0 pc lv st mem := by
  simp only [kStep] at h
  obtain ⟨j, st1, rfl, h1⟩ := kTopI_some h
  obtain ⟨r, st2, rfl, h2⟩ := kTopA_some h1
  split at h2
  · rename_i xs hk
    by_cases hj : kInB j xs.length = true
    · rw [if_pos hj] at h2
      cases h2
      exact ks_baload hx hb hdg hWd.2.2.1 hWd.2.2.2.1 hk hj k
    · rw [if_neg hj] at h2
      cases h2
  · cases h2
theorem kw_aaload (hx : p.tables.exec = Jvm.exec) (hb : c.code = cc) (hdg : decode cc pc = .ok (.aaload, 1)) (hWd : kWd D dA ext base xm sm sn strs ncs s) (h : kStep xm sm dfl fty nL rt .aaload a b pc lv st mem = some (.inl (pc', lv', st', mem'))) (k : kA p l e R s m args below meth c Q D dA ext base xm nL n0 z0 pc' lv' st' mem') : kA p l e R s m args below meth c Q D dA ext base xm nL n0 z0 pc lv st mem := by
  simp only [kStep] at h
  obtain ⟨j, st1, rfl, h1⟩ := kTopI_some h
  obtain ⟨r, st2, rfl, h2⟩ := kTopA_some h1
  split at h2
  · rename_i t xs hk
    by_cases hj : (kInB j xs.length && (t == 2 || t == 3 || (t == 4 && decide (r < 1000)))) = true
    · rw [if_pos hj] at h2
      cases h2
      rw [Bool.and_eq_true] at hj
      have ht : t = 2 ∨ t = 3 ∨ (t = 4 ∧ r < 1000) := by
        have := hj.2
        simp only [Bool.or_eq_true, Bool.and_eq_true, beq_iff_eq, decide_eq_true_eq] at this
        rcases this with (h | h) | h
        · exact Or.inl h
        · exact Or.inr (Or.inl h)
        · exact Or.inr (Or.inr h)
      exact ks_aaload hx hb hdg hWd.2.2.1 hWd.2.2.2.1 hk ht hj.1 k
    · rw [if_neg hj] at h2
      cases h2
  · cases h2
theorem kw_iastore (hx : p.tables.exec = Jvm.exec) (hb : c.code = cc) (hdg : decode cc pc = .ok (.iastore, 1)) (hWd : kWd D dA ext base xm sm sn strs ncs s) (h : kStep xm sm dfl fty nL rt .iastore a b pc lv st mem = some (.inl (pc', lv', st', mem'))) (k : kA p l e R s m args below meth c Q D dA ext base xm nL n0 z0 pc' lv' st' mem') : kA p l e R s m args below meth c Q D dA ext base xm nL n0 z0 pc lv st mem := by
  simp only [kStep] at h
  obtain ⟨x, st1, rfl, h1⟩ := kTopI_some h
  obtain ⟨j, st2, rfl, h2⟩ := kTopI_some h1
  obtain ⟨r, st3, rfl, h3⟩ := kTopA_some h2
  split at h3
  · rename_i xs hk
    by_cases hj : (kInB j xs.length && decide (1000 ≤ r)) = true
    · rw [if_pos hj] at h3
      cases h3
      rw [Bool.and_eq_true] at hj
      exact ks_iastore hx hb hdg hWd.2.2.1 hk (by simpa using hj.2) hj.1 k
    · rw [if_neg hj] at h3
      cases h3
  · cases h3
theorem kw_bastore (hx : p.tables.exec = Jvm.exec) (hb : c.code = cc) (hdg : decode cc pc = .ok (.bastore, 1)) (hWd : kWd D dA ext base xm sm sn strs ncs s) (h : kStep xm sm dfl fty nL rt .bastore a b pc lv st mem = some (.inl (pc', lv', st', mem'))) (k : kA p l e R s m args below meth c Q D dA ext base xm nL n0 z0 pc' lv' st' mem') : kA p l e R s m args below meth c Q D dA ext base xm nL n0 z0 pc lv st mem := by
  simp only [kStep] at h
  obtain ⟨x, st1, rfl, h1⟩ := kTopI_some h
  obtain ⟨j, st2, rfl, h2⟩ := kTopI_some h1
  obtain ⟨r, st3, rfl, h3⟩ := kTopA_some h2
  split at h3
  · rename_i xs hk
    by_cases hj : (kInB j xs.length && decide (1000 ≤ r)) = true
    · rw [if_pos hj] at h3
      cases h3
      rw [Bool.and_eq_true] at hj
      exact ks_bastore hx hb hdg hWd.2.2.1 hk (by simpa using hj.2) hj.1 k
    · rw [if_neg hj] at h3
      cases h3
  · cases h3
theorem kw_aastore (hx : p.tables.exec = Jvm.exec) (hb : c.code = cc) (hdg : decode cc pc = .ok (.aastore, 1)) (hts : ∀ w ∈ kTbl, w.before args s = true) (hO : kObj) (hWd : kWd D dA ext base xm sm sn strs ncs s) (h : kStep xm sm dfl fty nL rt .aastore a b pc lv st mem = some (.inl (pc', lv', st', mem'))) (k : kA p l e R s m args below meth c Q D dA ext base xm nL n0 z0 pc' lv' st' mem') : kA p l e R s m args below meth c Q D dA ext base xm nL n0 z0 pc lv st mem := by
  simp only [kStep] at h
  obtain ⟨v, st1, rfl, h1⟩ := kTopQ_some h
  obtain ⟨j, st2, rfl, h2⟩ := kTopI_some h1
  obtain ⟨r, st3, rfl, h3⟩ := kTopA_some h2
  split at h3
  · rename_i t xs hk
    by_cases hj : (kInB j xs.length && decide (1000 ≤ r) && (t == 2 || t == 3) && kStOk xm mem t v) = true
    · rw [if_pos hj] at h3
      cases h3
      simp only [Bool.and_eq_true, Bool.or_eq_true, beq_iff_eq, decide_eq_true_eq] at hj
      obtain ⟨⟨⟨g1, g2⟩, g3⟩, g4⟩ := hj
      exact ks_aastore hx hb hdg hts hWd.2.2.1 hO hWd.2.2.2.1 hk g2 g1 g3 g4 k
    · rw [if_neg hj] at h3
      cases h3
  · cases h3
theorem kw_checkcast {i : Nat} (hx : p.tables.exec = Jvm.exec) (hb : c.code = cc) (hdg : decode cc pc = .ok (.checkcast i, 3)) (hown : s.vm.findClass own = some m.cls) (hts : ∀ w ∈ kTbl, w.before args s = true) (hWd : kWd D dA ext base xm sm sn strs ncs s) (hres : kRes sn dfl fty own mn pc (.checkcast i) a b) (h : kStep xm sm dfl fty nL rt (.checkcast i) a b pc lv st mem = some (.inl (pc', lv', st', mem'))) (k : kA p l e R s m args below meth c Q D dA ext base xm nL n0 z0 pc' lv' st' mem') : kA p l e R s m args below meth c Q D dA ext base xm nL n0 z0 pc lv st mem := by
  obtain ⟨nm, hlink, r0, r1, r2⟩ := hres
  simp only [kStep] at h
  split at h
  · cases h
    exact ks_castN hx hb hdg k
  · rename_i r st1
    split at h
    · rename_i ci fs hk
      by_cases hc : (a == 0 && ci == b) = true
      · rw [if_pos hc] at h
        cases h
        simp only [Bool.and_eq_true, beq_iff_eq] at hc
        obtain ⟨g0, g1⟩ := hc
        subst g1
        obtain ⟨hb1, C, T, N, hc0, hor⟩ := r0 g0
        exact ks_castObj hx hb hdg hown hts hWd.2.2.1 hWd.2.2.2.1 hc0 hb1 hlink hor hk k
      · rw [if_neg hc] at h
        cases h
    · rename_i t xs hk
      by_cases hc : (a == 1 && t == b && decide (1000 ≤ r)) = true
      · rw [if_pos hc] at h
        cases h
        simp only [Bool.and_eq_true, beq_iff_eq, decide_eq_true_eq] at hc
        obtain ⟨⟨g0, g1⟩, g2⟩ := hc
        subst g1
        rcases r1 g0 with ⟨ht, rfl⟩ | ⟨ht, rfl⟩
        · subst ht
          exact ks_castArrI hx hb hdg hown hts hlink (va_nm_int (hWd.2.2.1.2 0 _ rfl).2) g2 hk k
        · subst ht
          exact ks_castArrI hx hb hdg hown hts hlink (va_nm_byte (hWd.2.2.1.2 1 _ rfl).2) g2 hk k
      · rw [if_neg hc] at h
        cases h
    · rename_i t xs hk
      by_cases hc : (a == 2 && t == b && decide (1000 ≤ r)) = true
      · rw [if_pos hc] at h
        cases h
        simp only [Bool.and_eq_true, beq_iff_eq, decide_eq_true_eq] at hc
        obtain ⟨⟨g0, g1⟩, g2⟩ := hc
        subst g1
        obtain ⟨ht, rfl⟩ := r2 g0
        subst ht
        obtain ⟨kA, comp, h1, h2, h3, h4⟩ := (hWd.2.2.1.2 2 _ rfl).2
        have e : "[" ++ (FieldType.object "java/lang/Object").toString = "[Ljava/lang/Object;" := by decide +kernel
        rw [e] at h4
        exact ks_castArrQ hx hb hdg hown hts hlink h4 g2 hk k
      · rw [if_neg hc] at h
        cases h
    · cases h
  · cases h
end KSTEP
