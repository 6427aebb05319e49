/-! ===== the walk of a method; THE THEOREM ===== -/
theorem kSl_args (vs : List Value) : (lg_sl vs).length = (vs.map fun v => v.category).sum := by
  induction vs with
  | nil => rfl
  | cons v vs ih =>
    simp only [lg_sl, List.flatMap_cons, List.length_append, List.map_cons, List.sum_cons] at ih ⊢
    rw [ih]
    congr 1
    by_cases h : v.category = 2
    · rw [if_pos h, h]
      rfl
    · rw [if_neg h]
      rcases lv_cat v with h1 | h2
      · rw [h1]
        rfl
      · exact absurd h2 h
theorem kArgs_tl (ad : Nat → Nat) : ∀ (vs : List Value) (i : Nat), lv_args i (vs.map (kV ad)) = kTl ad (lv_args i vs) := by
  intro vs
  induction vs with
  | nil => intro i; rfl
  | cons v vs ih =>
    intro i
    simp only [List.map_cons, lv_args, kV_cat]
    rw [ih]
    rfl
/-- what the tables of a claim must stand on -/
def kTOk (sn : Nat → String × String × String) (strs : List (String × Nat × String)) (ncs : List (String × String)) (dfl : Nat → Option (List Value)) (fty : Nat → Nat → FieldType) (G : kT) (Y : Nat → MethodName) (By : Nat → ByteArray) (HH : Nat → Option (List (Nat × Nat × Nat × Nat))) (EX : Nat → String) : Prop :=
  (∀ w ∈ kTbl, kGw w = true) ∧ kObj ∧ (∀ mi pc x, mi ≠ 0 → G.1 mi pc = some x → plainFor (Y mi) = true ∧ (HH mi ≠ none → plainName (Y mi).cls = true) ∧ kHd G.2.1 G.2.2.1 Y By HH mi ∈ kTbl) ∧ ∀ (mi pc : Nat) (ins : Instr) (a b : Nat), G.1 mi pc = some (ins, a, b) →
    kDec (By mi) pc ins ∧ kRes sn dfl fty (Y mi).cls (Y mi).name pc ins a b ∧
    (∀ kd i, ins = kIvk kd i → kSpOk (Y mi).cls kd i a ∧ (a < 9000 → kInv G.2.1 G.2.2.1 Y By HH (Y mi).cls kd i a b)) ∧
    (ins = .areturn → ∃ t, G.2.2.1 mi = some t ∧ ((∃ n, t = .object n) ∨ ∃ u, t = .array u)) ∧
    (∀ i, ins = .new i → 5000 ≤ a → kThr strs (By mi) (Y mi).cls (EX (a - 5000)) pc i ∧ HH mi = none) ∧
    ∀ n h1 i1, G.2.2.2 mi pc n = some (h1, i1) → kHnd ncs HH (By mi) (Y mi).cls (EX n) (G.2.1 mi) mi pc h1 i1 ∧ ∃ i, ins = .invokevirtual i ∧ ∃ (ci : Nat) (C : String) (T : u_T) (N : Nat), b / 100 = ci + 1 ∧ vwCl[ci]? = some (C, T, N) ∧ ci < 40 ∧ HH a = none ∧ 1 ≤ b % 100 ∧ (parseMethodDescriptor (Y a).desc).map (fun d => d.parameters.length) = some (b % 100 - 1) ∧ Jvm.Cond.methodLink (Y mi).cls i (Y a) ∈ kTbl ∧ Jvm.Cond.instanceMethod (Y a) ∈ kTbl ∧ Jvm.Cond.selects C (Y a) (Y a) ∈ kTbl
theorem kq_lo {d x : Nat} (h : 300 * (d + 2) ≤ x) : 300 + 300 * (d + 1) ≤ x ∧ 300 ≤ x := by omega
theorem kq_fr {d x : Nat} (h : 9 + (d + 1) ≤ x) : (9 + d) + 1 ≤ x ∧ 9 ≤ x ∧ 1 ≤ x := by omega
theorem k_ofW {l : Launch} {y : MethodName} {ws ws' : List Jvm.Cond} {rm : Room} {Pc : Array Value → State → Prop} {Qc : Array Value → State → Outcome → State → Prop} {XC : String → State → State → Prop} {mc ms : Nat} {free : Addr → Prop} {cc : ByteArray} {maxL : Nat} {ret : Option FieldType}
    (hy : plainFor y = true) (hw : ws = Jvm.Cond.code y cc maxL ret :: ws')
    (body : ∀ p e s m args below meth c s₁, BodyLoose p l y (headSpec ws rm) cc maxL ret e s m args below meth c s₁ → c.maxLocals = maxL → (∀ x ∈ c.exceptionTable.toList, False) → Pc args s →
      W p l e (headSpec ws rm).room s m args below meth c s.heap [] 0 0 (vx_MQ below Qc XC args s mc ms free) (entryFrame m args maxL)) : vx_Met l y ws rm Pc Qc XC mc ms free := by
  refine MetFree.of_bodySF (code := cc) (maxLocals := maxL) (ret := ret) hy (fun args s m h hn => ?_) (fun p e s m args below meth c s₁ B hml hP _ => ?_)
  · obtain ⟨meth, c, h1, h2, h3, h4, h5, h6, -⟩ := Cond.code_spec hn (atoms_spec (ws := ws) h _ (by rw [hw]; exact List.mem_cons_self))
    exact ⟨meth, c, h1, h2, h3, h4, h5, h6⟩
  · have ht : ∀ x ∈ c.exceptionTable.toList, False := by
      obtain ⟨meth9, c9, h1, h2, -, -, -, -, h7, -⟩ := Cond.code_spec B.named (atoms_spec (ws := ws) B.pre _ (by rw [hw]; exact List.mem_cons_self))
      cases Option.some.inj (h1.symm.trans B.method)
      cases Option.some.inj (h2.symm.trans (Stand.of_body B).code)
      intro x hx
      rw [Array.isEmpty_iff.mp h7] at hx
      cases hx
    obtain ⟨t, a1, o, b1, b2, b3⟩ := body p e s m args below meth c s₁ B hml ht hP s₁ (by rw [B.state]; rfl) (Stand.of_body B)
    exact ⟨t, o, a1, b1, b2, b3⟩
section KTHE
variable {p : Program} {l : Launch} {e : Env} {R : Room} {s : State} {m : MethodId} {args : Array Value} {below : List Frame} {meth : Method} {c : Code} {D : va_G} {dA : Nat → ClassId} {ext : Nat → Nat} {base : Nat} {xm : Nat → Option kE} {n0 z0 : Nat}
variable {sm : Nat → Option Value} {sn : Nat → String × String × String} {strs : List (String × Nat × String)} {ncs : List (String × String)} {dfl : Nat → Option (List Value)} {fty : Nat → Nat → FieldType}
variable {G : kT} {Y : Nat → MethodName} {By : Nat → ByteArray} {HH : Nat → Option (List (Nat × Nat × Nat × Nat))} {EX : Nat → String}
set_option maxHeartbeats 4000000 in
theorem kWalk {F d mi : Nat} (hT : kTOk sn strs ncs dfl fty G Y By HH EX) (hl : l.stackTraces = false)
    (IH : ∀ y, y ≠ 0 → ∀ av mem r, kExec xm sm dfl fty G F d y av mem = some r → kCon l D dA ext base xm sm sn strs ncs G.2.1 G.2.2.1 Y By HH EX (9 + d) (300 * (d + 1)) y av mem r)
    (hx : p.tables.exec = Jvm.exec) (hb : c.code = By mi) (hml : c.maxLocals = G.2.1 mi) (hown : s.vm.findClass (Y mi).cls = some m.cls) (hts : ∀ w ∈ kTbl, w.before args s = true) (hWd : kWd D dA ext base xm sm sn strs ncs s) (hmn : meth.name = (Y mi).name)
    (hr : meth.sig.returnType = G.2.2.1 mi) (hlocks : meth.locks = false) (ht0 : HH mi = none → ∀ x ∈ c.exceptionTable.toList, False) (ht1 : ∀ hh, HH mi = some hh → c.exceptionTable.toList = tableOf hh) (hRf : 9 + (d + 1) ≤ R.frames) (hRl : 300 * (d + 2) ≤ R.locals) :
    ∀ f pc lv st mem o m1, kLoop xm sm dfl fty G (kExec xm sm dfl fty G F d) mi f pc lv st mem = some (o, m1) → kGrow mem m1 ∧ (m1.length ≤ n0 + R.cells ∧ kSl m1 ≤ z0 + R.slots →
      kA p l e R s m args below meth c (kEQ below args s D dA ext base xm EX n0 z0 o m1) D dA ext base xm (G.2.1 mi) n0 z0 pc lv st mem) := by
  intro f
  induction f with
  | zero => intro pc lv st mem o m1 h; cases h
  | succ f ih =>
    intro pc lv st mem o m1 h
    obtain ⟨hgood, hO, hT0, hT1⟩ := hT
    obtain ⟨q2, q4⟩ := kq_lo hRl
    obtain ⟨q1, q3, q5⟩ := kq_fr hRf
    rw [kLoop] at h
    cases hG : G.1 mi pc with
    | none => rw [hG] at h; cases h
    | some x =>
      obtain ⟨ins, a, b⟩ := x
      rw [hG] at h
      dsimp only at h
      obtain ⟨hdec, hres, hinv, hart, hthr, hhnd⟩ := hT1 mi pc ins a b hG
      cases hs : kStep xm sm dfl fty (G.2.1 mi) (G.2.2.1 mi) ins a b pc lv st mem with
      | none => rw [hs] at h; cases h
      | some q =>
        rw [hs] at h
        rcases q with ⟨pc', lv', st', mem'⟩ | ⟨o', m'⟩ | ⟨y, av, rest, len⟩
        · dsimp only at h
          obtain ⟨g1, g2⟩ := ih _ _ _ _ _ _ h
          refine ⟨kGrow_tr (km_step hs) g1, fun hroom => ?_⟩
          exact ks_all hx hb hml hdec hown hts hO hWd hmn hres (fun kd i hi => (hinv kd i hi).1) q5 q4 ⟨Nat.le_trans g1.1 hroom.1, Nat.le_trans g1.2 hroom.2⟩ hs (g2 hroom)
        · dsimp only at h
          cases h
          have hg : kGrow mem m1 := by
            cases ins
            case ireturn =>
              simp only [kStep] at hs
              split at hs
              · split at hs
                · cases hs
                  exact kGrow_rf _
                · cases hs
              · cases hs
            case lreturn =>
              simp only [kStep] at hs
              split at hs
              · split at hs
                · cases hs
                  exact kGrow_rf _
                · cases hs
              · cases hs
            case freturn =>
              simp only [kStep] at hs
              split at hs
              · split at hs
                · cases hs
                  exact kGrow_rf _
                · cases hs
              · cases hs
            case dreturn =>
              simp only [kStep] at hs
              split at hs
              · split at hs
                · cases hs
                  exact kGrow_rf _
                · cases hs
              · cases hs
            case areturn =>
              simp only [kStep] at hs
              split at hs
              · cases hs
                exact kGrow_rf _
              · cases hs
                exact kGrow_rf _
              · cases hs
            case return_ =>
              simp only [kStep] at hs
              split at hs
              · split at hs
                · cases hs
                  exact kGrow_rf _
                · cases hs
              · cases hs
            case new =>
              simp only [kStep] at hs
              split at hs
              · split at hs
                · cases hs
                  exact kGrow_app _ _
                · cases hs
              · split at hs <;> cases hs
            all_goals exact absurd (kf_step (by simp) hs) id
          exact ⟨hg, fun hroom => ks_end hx hb hml hl hdec hown hts hgood hWd hr hlocks hart (fun i hi ha => ⟨(hthr i hi ha).1, ht0 (hthr i hi ha).2⟩) q3 q4 hroom hs⟩
        · dsimp only at h
          obtain ⟨ha, hya, kd, i, rfl⟩ := kg_step hs
          have hy0 : y ≠ 0 := by
            have h9 := ((hinv kd i rfl).2 ha).1
            have h8 : y = a := hya
            rw [h8]
            exact h9
          cases hc : kExec xm sm dfl fty G F d y av mem with
          | none => rw [hc] at h; cases h
          | some r =>
            rw [hc] at h
            obtain ⟨o2, m2⟩ := r
            have hcon := IH y hy0 _ _ _ hc
            rcases o2 with v | n
            · dsimp only at h
              obtain ⟨g1, g2⟩ := ih _ _ _ _ _ _ h
              refine ⟨kGrow_tr hcon.1 g1, fun hroom => ?_⟩
              exact kw_call hx hb hml hown hts hgood hWd hdec hs (hinv kd i rfl).2 ha hcon q1 q2 ⟨Nat.le_trans g1.1 hroom.1, Nat.le_trans g1.2 hroom.2⟩ (g2 hroom)
            · dsimp only at h
              cases hh : G.2.2.2 mi pc n with
              | none => rw [hh] at h; cases h
              | some w =>
                obtain ⟨h1, i1⟩ := w
                rw [hh] at h
                dsimp only at h
                obtain ⟨hk, i', hi', hV⟩ := hhnd n h1 i1 hh
                obtain ⟨g1, g2⟩ := ih _ _ _ _ _ _ h
                refine ⟨kGrow_tr hcon.1 g1, fun hroom => ?_⟩
                have hkd := hi'
                rw [hi'] at hs hdec
                exact kw_callX hx hb hml hown hts hgood hWd hdec hs (fun h => (hinv 0 i' hi').2 h) ha hV hcon q1 q2 ⟨Nat.le_trans g1.1 hroom.1, Nat.le_trans g1.2 hroom.2⟩ ht1 hk (g2 hroom)
theorem kMet_of {y : MethodName} {ws : List Jvm.Cond} {rm : Room} {Pc : Array Value → State → Prop} {Qc : Array Value → State → Outcome → State → Prop} {mc ms : Nat} {free : Addr → Prop} (h : vx_Met l y ws rm Pc Qc (fun _ _ _ => False) mc ms free) : Met l y ws rm Pc Qc mc ms free :=
  MetFree.mono h (fun _ _ h => h) (fun _ _ _ _ _ h => h) (fun a s o s' _ hq => by
    rcases hq with hq | ⟨q, -, E, ce, L, hx, -⟩
    · exact hq
    · exact absurd hx id)
set_option maxHeartbeats 4000000 in
/-- THE THEOREM: what the interpreter computes, the machine does -/
theorem kSim {F : Nat} (hT : kTOk sn strs ncs dfl fty G Y By HH EX) (hl : l.stackTraces = false) :
    ∀ d y, y ≠ 0 → ∀ av mem r, kExec xm sm dfl fty G F d y av mem = some r → kCon l D dA ext base xm sm sn strs ncs G.2.1 G.2.2.1 Y By HH EX (9 + d) (300 * (d + 1)) y av mem r := by
  intro d
  induction d with
  | zero => intro y _ av mem r h; cases h
  | succ d IH =>
    intro y hy0 av mem r h
    obtain ⟨o, m1⟩ := r
    rw [kExec] at h
    split at h
    case isFalse => cases h
    rename_i hsum
    have hy : ∃ x, G.1 y 0 = some x := by
      cases F with
      | zero => cases h
      | succ F =>
        rw [kLoop] at h
        cases hG : G.1 y 0 with
        | none => rw [hG] at h; cases h
        | some x => exact ⟨x, rfl⟩
    obtain ⟨x0, hx0⟩ := hy
    obtain ⟨hpl, hpl2, hhd⟩ := hT.2.2.1 y 0 x0 hy0 hx0
    have entry : ∀ (rm : Room) (p : Program) (e : Env) (s : State) (m : MethodId) (args : Array Value) (below : List Frame) (meth : Method) (c : Code) (s₁ : State),
        BodyLoose p l (Y y) (headSpec (kHd G.2.1 G.2.2.1 Y By HH y :: kTbl) rm) (By y) (G.2.1 y) (G.2.2.1 y) e s m args below meth c s₁ → c.maxLocals = G.2.1 y → (HH y = none → ∀ x ∈ c.exceptionTable.toList, False) → (∀ hh, HH y = some hh → c.exceptionTable.toList = tableOf hh) →
        kPc D dA ext base xm sm sn strs ncs av mem args s → rm.cells = m1.length - mem.length → rm.slots = kSl m1 - kSl mem → 9 + (d + 1) ≤ rm.frames → 300 * (d + 2) ≤ rm.locals →
        kGrow mem m1 ∧ W p l e rm s m args below meth c s.heap [] 0 0 (kEQ below args s D dA ext base xm EX mem.length (kSl mem) o m1) (entryFrame m args (G.2.1 y)) := by
      intro rm p e s m args below meth c s₁ B hml ht0 ht1 hPc hrc hrs hf hlo
      obtain ⟨hargs, hRM, hWd⟩ := hPc
      have hts0 := atoms_spec (ws := kHd G.2.1 G.2.2.1 Y By HH y :: kTbl) B.pre
      have hts : ∀ w ∈ kTbl, w.before args s = true := fun w hw => hts0 w (List.mem_cons_of_mem _ hw)
      obtain ⟨g1, g2⟩ := kWalk (p := p) (e := e) (R := rm) (s := s) (m := m) (args := args) (below := below) (meth := meth) (c := c) (n0 := mem.length) (z0 := kSl mem) hT hl IH B.exec B.bytes hml (findClass_of_methodNamed B.named) hts hWd (name_of_methodNamed B.named B.method).1 B.returns B.notSynchronized ht0 ht1 hf (by omega) F 0 (lv_args 0 av) [] mem o m1 h
      refine ⟨g1, ?_⟩
      have hA := g2 ⟨by rw [hrc]; have := g1.1; omega, by rw [hrs]; have := g1.2; omega⟩
      subst hargs
      have hle : (lg_sl (av.map (kV (kAd ext base)))).length ≤ G.2.1 y := by
        rw [kSl_args, kSum_map]
        exact hsum
      rw [lg_entry_eq]
      have hlv := lv_entry (av.map (kV (kAd ext base))) hle
      rw [kArgs_tl] at hlv
      exact hA s.heap [] 0 0 _ hRM va_S.rf hlv rfl rfl
    refine ⟨?_, fun rm hrc hrs hf hlo => ?_⟩
    · exact (kLoop_grow (xm := xm) (sm := sm) (dfl := dfl) (fty := fty) (G := G) (fun y av mem r h => kExec_grow F d y av mem r h) y F 0 (lv_args 0 av) [] mem o m1 h)
    · have both : ∀ (Qc : Array Value → State → Outcome → State → Prop) (XC : String → State → State → Prop), (∀ (p : Program) (e : Env) (s : State) (m : MethodId) (args : Array Value) (below : List Frame) (meth : Method) (c : Code), W p l e rm s m args below meth c s.heap [] 0 0 (kEQ below args s D dA ext base xm EX mem.length (kSl mem) o m1) (entryFrame m args (G.2.1 y)) →
          W p l e rm s m args below meth c s.heap [] 0 0 (vx_MQ below Qc XC args s (m1.length - mem.length) (kSl m1 - kSl mem) (fun q => base ≤ q)) (entryFrame m args (G.2.1 y))) →
          vx_Met l (Y y) (kHd G.2.1 G.2.2.1 Y By HH y :: kTbl) rm (kPc D dA ext base xm sm sn strs ncs av mem) Qc XC (m1.length - mem.length) (kSl m1 - kSl mem) (fun q => base ≤ q) := by
        intro Qc XC hto
        cases hH : HH y with
        | none =>
          have e0 : kHd G.2.1 G.2.2.1 Y By HH y = .code (Y y) (By y) (G.2.1 y) (G.2.2.1 y) := by simp only [kHd, hH]
          refine k_ofW (cc := By y) (maxL := G.2.1 y) (ret := G.2.2.1 y) (ws' := kTbl) hpl (by rw [e0]) ?_
          intro p e s m args below meth c s₁ B hml htab hPc
          exact hto _ _ _ _ _ _ _ _ (entry rm p e s m args below meth c s₁ B hml (fun _ => htab) (fun hh h => by rw [hH] at h; cases h) hPc hrc hrs hf hlo).2
        | some hh =>
          have e0 : kHd G.2.1 G.2.2.1 Y By HH y = .codeWith (Y y) (By y) (G.2.1 y) (G.2.2.1 y) hh := by simp only [kHd, hH]
          refine vx_ofWH (cc := By y) (maxL := G.2.1 y) (ret := G.2.2.1 y) (hh := hh) (ws' := kTbl) (hpl2 (by rw [hH]; simp)) (by rw [e0]) ?_
          intro p e s m args below meth c s₁ B hml hPc
          have hts0 := atoms_spec (ws := kHd G.2.1 G.2.2.1 Y By HH y :: kTbl) B.pre
          have hw := hts0 _ List.mem_cons_self
          rw [e0] at hw
          exact hto _ _ _ _ _ _ _ _ (entry rm p e s m args below meth c s₁ B hml (fun h => by rw [hH] at h; cases h) (fun hh' h => by rw [hH] at h; cases h; exact vx_table (x := Y y) B hw) hPc hrc hrs hf hlo).2
      rcases o with v | n
      · exact kMet_of (both _ _ (fun p e s m args below meth c hW => vx_ret hW))
      · exact both _ _ (fun p e s m args below meth c hW => hW)
end KTHE
