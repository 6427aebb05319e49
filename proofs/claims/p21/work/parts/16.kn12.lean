/-! ===== caught exceptions, ends, the walk of a method, THE THEOREM ===== -/
section KSIM3
variable {p : Program} {l : Launch} {e : Env} {R : Room} {s : State} {m : MethodId} {args : Array Value} {below : List Frame} {meth : Method} {c : Code} {Q : State → Prop} {D : va_G} {dA : Nat → ClassId} {ext : Nat → Nat} {base : Nat} {xm : Nat → Option kE} {nL n0 z0 : Nat}
variable {sm : Nat → Option Value} {sn : Nat → String × String × String} {strs : List (String × Nat × String)} {ncs : List (String × String)} {dfl : Nat → Option (List Value)} {fty : Nat → Nat → FieldType}
variable {NL : Nat → Nat} {RT : Nat → Option FieldType} {Y : Nat → MethodName} {By : Nat → ByteArray} {HH : Nat → Option (List (Nat × Nat × Nat × Nat))} {EX : Nat → String}
variable {cc : ByteArray} {pc pc' : Nat} {lv lv' : kL} {st st' : List Value} {mem mem' m1 : kM} {a b : Nat} {own mn : String} {rt : Option FieldType}
theorem kw_callX {i fr lo y len n mi h1 i1 : Nat} {av rest : List Value} (hx : p.tables.exec = Jvm.exec) (hb : c.code = cc) (hml : c.maxLocals = nL) (hown : s.vm.findClass own = some m.cls) (hts : ∀ w ∈ kTbl, w.before args s = true) (hgood : ∀ w ∈ kTbl, kGw w = true) (hWd : kWd D dA ext base xm sm sn strs ncs s)
    (hdec : kDec cc pc (.invokevirtual i)) (h : kStep xm sm dfl fty nL rt (.invokevirtual i) a b pc lv st mem = some (.inr (.inr (y, av, rest, len)))) (hinv : a < 9000 → kInv NL RT Y By HH own 0 i a b) (ha : a < 9000)
    (hV : ∃ (ci : Nat) (C : String) (T : u_T) (N : Nat), b / 100 = ci + 1 ∧ vwCl[ci]? = some (C, T, N) ∧ ci < 40 ∧ HH a = none ∧ 1 ≤ b % 100 ∧ (parseMethodDescriptor (Y a).desc).map (fun d => d.parameters.length) = some (b % 100 - 1) ∧ Jvm.Cond.methodLink own i (Y a) ∈ kTbl ∧ Jvm.Cond.instanceMethod (Y a) ∈ kTbl ∧ Jvm.Cond.selects C (Y a) (Y a) ∈ kTbl)
    (hcon : kCon l D dA ext base xm sm sn strs ncs NL RT Y By HH EX fr lo y av mem (.inr n, m1)) (hfr : fr + 1 ≤ R.frames) (hlo : 300 + lo ≤ R.locals) (hroom : m1.length ≤ n0 + R.cells ∧ kSl m1 ≤ z0 + R.slots)
    (htab : ∀ hh, HH mi = some hh → c.exceptionTable.toList = tableOf hh) (hH : kHnd ncs HH cc own (EX n) nL mi pc h1 i1)
    (k : kA p l e R s m args below meth c Q D dA ext base xm nL n0 z0 h1 (lv.filter (fun q => !(q.1 == i1) && !(q.1 + 1 == i1 && q.2.category == 2))) [] m1) : kA p l e R s m args below meth c Q D dA ext base xm nL n0 z0 pc lv st mem := by
  obtain ⟨hg, hcon⟩ := hcon
  have hle : mem.length ≤ m1.length ∧ kSl mem ≤ kSl m1 := hg
  have hM := hcon { frames := fr, cells := m1.length - mem.length, slots := kSl m1 - kSl mem, locals := lo } rfl rfl (Nat.le_refl _) (Nat.le_refl _)
  dsimp only at hM
  obtain ⟨-, hin, hini, hcls, hnl, -⟩ := hinv ha
  obtain ⟨ci, C, T, N, hb0, hcl, hci, hHa, hb1, hln, hlink, hinst, hsel⟩ := hV
  have h' : kCall xm a b 3 pc lv st mem = some (.inr (.inr (y, av, rest, len))) := h
  obtain ⟨rfl, rfl, hal, rfl, hrs, hrc⟩ := kCall_some h'
  obtain ⟨r, As, rfl, hk⟩ := kRcOk_some hrc (by omega)
  obtain ⟨ci', fs, hci', hlt, hk⟩ := hk (by omega)
  have hcc : ci' = ci := by omega
  subst hcc
  have hdg : decode cc pc = .ok (.invokevirtual i, 3) := hdec
  have hAl : As.length = b % 100 - 1 := by simp at hal; omega
  have e1 : (Value.ref r :: As).reverse ++ rest = As.reverse ++ .ref r :: rest := by simp
  rw [e1]
  have e : kHd NL RT Y By HH y = .code (Y y) (By y) (NL y) (RT y) := by simp only [kHd, hHa]
  obtain ⟨hh, pre, x, suf, nm, g1, g2, g3, g4, g5, g6, g7, g8, g9⟩ := hH
  exact ks_callX hx hb hml hown hts hgood hWd hM ⟨hin, e, hini, hcls, hln, rfl, rfl, hfr, by show 8 + (NL y + 11) + lo ≤ R.locals; omega⟩ hlink hinst hsel hlt hcl hk hAl hdg hle hroom hrs pre x suf ((htab hh g1).trans g2) g3 g4 g5 g6 g7 g8 g9 k
/-- the goal at a method's end -/
def kEQ (below : List Frame) (args : Array Value) (s : State) (D : va_G) (dA : Nat → ClassId) (ext : Nat → Nat) (base : Nat) (xm : Nat → Option kE) (EX : Nat → String) (n0 z0 : Nat) (o : kO) (m1 : kM) : State → Prop := match o with
  | .inl v => MQ below (kQc D dA ext base xm v m1) args s (m1.length - n0) (kSl m1 - z0) (fun q => base ≤ q)
  | .inr n => vx_MQ below (fun _ _ _ _ => False) (kXC D dA ext base xm (EX n) m1) args s (m1.length - n0) (kSl m1 - z0) (fun q => base ≤ q)
theorem kRetI_ok {x : Int32} (h : kRetI rt x = true) : ∃ ty, rt = some ty ∧ narrow ty (.int x) = .int x := by
  unfold kRetI at h
  split at h
  · exact ⟨_, rfl, rfl⟩
  · exact ⟨_, rfl, by simpa using h⟩
  · cases h
theorem ks_end {ins : Instr} {o : kO} (hx : p.tables.exec = Jvm.exec) (hb : c.code = cc) (hml : c.maxLocals = nL) (hl : l.stackTraces = false) (hdec : kDec cc pc ins) (hown : s.vm.findClass own = some m.cls) (hts : ∀ w ∈ kTbl, w.before args s = true) (hgood : ∀ w ∈ kTbl, kGw w = true) (hWd : kWd D dA ext base xm sm sn strs ncs s)
    (hr : meth.sig.returnType = rt) (hlocks : meth.locks = false) (hart : ins = .areturn → ∃ t, rt = some t ∧ ((∃ n, t = .object n) ∨ ∃ u, t = .array u))
    (hthr : ∀ i, ins = .new i → 5000 ≤ a → kThr strs cc own (EX (a - 5000)) pc i ∧ ∀ x ∈ c.exceptionTable.toList, False) (hfr : 9 ≤ R.frames) (hlo : 300 ≤ R.locals) (hroom : m1.length ≤ n0 + R.cells ∧ kSl m1 ≤ z0 + R.slots)
    (h : kStep xm sm dfl fty nL rt ins a b pc lv st mem = some (.inr (.inl (o, m1)))) : kA p l e R s m args below meth c (kEQ below args s D dA ext base xm EX n0 z0 o m1) D dA ext base xm nL n0 z0 pc lv st mem := by
  cases ins
  case ireturn =>
    simp only [kStep] at h
    split at h
    · split at h
      · rename_i hk
        cases h
        obtain ⟨ty, h1, h2⟩ := kRetI_ok hk
        exact ke_iret hx hb (hr.trans h1) h2 hlocks hdec
      · cases h
    · cases h
  case lreturn =>
    simp only [kStep] at h
    split at h
    · split at h
      · rename_i hk
        cases h
        exact ke_lret hx hb (hr.trans (by simpa using hk)) hlocks hdec
      · cases h
    · cases h
  case freturn =>
    simp only [kStep] at h
    split at h
    · split at h
      · rename_i hk
        cases h
        exact ke_fret hx hb (hr.trans (by simpa using hk)) hlocks hdec
      · cases h
    · cases h
  case dreturn =>
    simp only [kStep] at h
    split at h
    · split at h
      · rename_i hk
        cases h
        exact ke_dret hx hb (hr.trans (by simpa using hk)) hlocks hdec
      · cases h
    · cases h
  case areturn =>
    obtain ⟨t, h1, h2⟩ := hart rfl
    simp only [kStep] at h
    split at h
    · cases h
      exact ke_aret (q := some _) hx hb (hr.trans h1) h2 hlocks hdec
    · cases h
      exact ke_aret (q := none) hx hb (hr.trans h1) h2 hlocks hdec
    · cases h
  case return_ =>
    simp only [kStep] at h
    split at h
    · split at h
      · rename_i hk
        cases h
        exact ke_vret hx hb (hr.trans (by simpa using hk)) hlocks hdec
      · cases h
    · cases h
  case new i =>
    simp only [kStep] at h
    split at h
    · rename_i ha
      split at h
      case h_2 => cases h
      cases h
      obtain ⟨⟨is, ic, text, names, d3, d4, f1, f2, w1, w2, hs, hat, hn⟩, htab⟩ := hthr i rfl ha
      intro H locs cells slots ls hRM hS hlv hc hz
      obtain ⟨sa, hstr⟩ := hWd.2.2.2.2.2.2.2.2.2.1 _ hs
      rw [List.length_append, kSl_app] at hroom
      rcases d4 with d4 | d4
      · refine kx_throwS (names := names) (sa := sa) hx hb hl hown f1 f2 (hts _ w1) (hts _ w2) hstr (fun w hw => hts _ (hat w hw).1) (fun w hw => ?_) hWd.2.2.2.2.2.2.2.1 hWd.2.2.2.2.2.2.2.2.1 hS (by rw [hml]; exact hlv.1) hdec d3 d4 (fun x hx => absurd (htab x hx) id) (by omega) (by simp; omega) (by simp at hroom; omega) (by simp [kSz] at hroom; omega) hlocks (fun t hvm hsz hq => ?_) hS.2.2 (by simp; omega) (by rw [kSl_app]; simp [kSz]; omega)
        · rcases List.mem_cons.mp hw with rfl | hw
          · rfl
          · rcases List.mem_cons.mp hw with rfl | hw
            · rfl
            · exact (hat w hw).2
        · refine ⟨rfl, kRM_push hRM hsz hq (fun hj => by simp [kJunk] at hj), by rw [hsz]; exact Nat.le_trans hS.1 (by omega), fun q h1 h2 => ?_⟩
          rw [hq q (Nat.lt_of_lt_of_le h1 hS.1)]
          exact hS.2.1 q h1 h2
      · refine kx_throwSW (names := names) (sa := sa) hx hb hl hown f1 f2 (hts _ w1) (hts _ w2) hstr (fun w hw => hts _ (hat w hw).1) (fun w hw => ?_) hWd.2.2.2.2.2.2.2.1 hWd.2.2.2.2.2.2.2.2.1 hS (by rw [hml]; exact hlv.1) hdec d3 d4 (fun x hx => absurd (htab x hx) id) (by omega) (by simp; omega) (by simp at hroom; omega) (by simp [kSz] at hroom; omega) hlocks (fun t hvm hsz hq => ?_) hS.2.2 (by simp; omega) (by rw [kSl_app]; simp [kSz]; omega)
        · rcases List.mem_cons.mp hw with rfl | hw
          · rfl
          · rcases List.mem_cons.mp hw with rfl | hw
            · rfl
            · exact (hat w hw).2
        · refine ⟨rfl, kRM_push hRM hsz hq (fun hj => by simp [kJunk] at hj), by rw [hsz]; exact Nat.le_trans hS.1 (by omega), fun q h1 h2 => ?_⟩
          rw [hq q (Nat.lt_of_lt_of_le h1 hS.1)]
          exact hS.2.1 q h1 h2
    · split at h <;> cases h
  all_goals exact absurd (kf_step (by simp) h) id
end KSIM3
section KGROWL
variable {xm : Nat → Option kE} {sm : Nat → Option Value} {dfl : Nat → Option (List Value)} {fty : Nat → Nat → FieldType} {G : kT}
theorem km_end {nL : Nat} {rt : Option FieldType} {ins : Instr} {a b pc : Nat} {lv : kL} {st : List Value} {mem : kM} {o : kO} {m1 : kM} (hs : kStep xm sm dfl fty nL rt ins a b pc lv st mem = some (.inr (.inl (o, m1)))) : kGrow mem m1 := by
  cases ins
  case ireturn =>
    simp only [kStep] at hs
    split at hs
    · split at hs
      · cases hs
        exact kGrow_rf _
      · cases hs
    · cases hs
  case lreturn =>
    simp only [kStep] at hs
    split at hs
    · split at hs
      · cases hs
        exact kGrow_rf _
      · cases hs
    · cases hs
  case freturn =>
    simp only [kStep] at hs
    split at hs
    · split at hs
      · cases hs
        exact kGrow_rf _
      · cases hs
    · cases hs
  case dreturn =>
    simp only [kStep] at hs
    split at hs
    · split at hs
      · cases hs
        exact kGrow_rf _
      · cases hs
    · cases hs
  case areturn =>
    simp only [kStep] at hs
    split at hs
    · cases hs
      exact kGrow_rf _
    · cases hs
      exact kGrow_rf _
    · cases hs
  case return_ =>
    simp only [kStep] at hs
    split at hs
    · split at hs
      · cases hs
        exact kGrow_rf _
      · cases hs
    · cases hs
  case new =>
    simp only [kStep] at hs
    split at hs
    · split at hs
      · cases hs
        exact kGrow_app _ _
      · cases hs
    · split at hs <;> cases hs
  all_goals exact absurd (kf_step (by simp) hs) id
theorem kLoop_grow {call : Nat → List Value → kM → Option (kO × kM)} (hc : ∀ y av mem r, call y av mem = some r → kGrow mem r.2) (mi : Nat) : ∀ f pc lv st mem o m1, kLoop xm sm dfl fty G call mi f pc lv st mem = some (o, m1) → kGrow mem m1 := by
  intro f
  induction f with
  | zero => intro pc lv st mem o m1 h; cases h
  | succ f ih =>
    intro pc lv st mem o m1 h
    rw [kLoop] at h
    cases hG : G.1 mi pc with
    | none => rw [hG] at h; cases h
    | some x =>
      obtain ⟨ins, a, b⟩ := x
      rw [hG] at h
      dsimp only at h
      cases hs : kStep xm sm dfl fty (G.2.1 mi) (G.2.2.1 mi) ins a b pc lv st mem with
      | none => rw [hs] at h; cases h
      | some q =>
        rw [hs] at h
        rcases q with ⟨pc', lv', st', mem'⟩ | ⟨o', m'⟩ | ⟨y, av, rest, len⟩
        · exact kGrow_tr (km_step hs) (ih _ _ _ _ _ _ h)
        · cases h
          exact km_end hs
        · dsimp only at h
          cases hcc : call y av mem with
          | none => rw [hcc] at h; cases h
          | some z =>
            rw [hcc] at h
            obtain ⟨o2, m2⟩ := z
            have h2 := hc _ _ _ _ hcc
            rcases o2 with v | n
            · exact kGrow_tr h2 (ih _ _ _ _ _ _ h)
            · dsimp only at h
              cases hh : G.2.2.2 mi pc n with
              | none => rw [hh] at h; cases h
              | some w =>
                rw [hh] at h
                exact kGrow_tr h2 (ih _ _ _ _ _ _ h)
theorem kExec_grow (F : Nat) : ∀ d y av mem r, kExec xm sm dfl fty G F d y av mem = some r → kGrow mem r.2 := by
  intro d
  induction d with
  | zero => intro y av mem r h; cases h
  | succ d IH =>
    intro y av mem r h
    rw [kExec] at h
    split at h
    · exact kLoop_grow IH y F 0 _ _ _ r.1 r.2 h
    · cases h
end KGROWL
