/-! ===== calls of the other kinds, exceptions, ends ===== -/
section KCALL
variable {p : Program} {l : Launch} {e : Env} {R : Room} {s : State} {m : MethodId} {args : Array Value} {below : List Frame} {meth : Method} {c : Code} {Q : State → Prop} {D : va_G} {dA : Nat → ClassId} {ext : Nat → Nat} {base : Nat} {xm : Nat → Option kE} {nL n0 z0 : Nat}
variable {sm : Nat → Option Value} {sn : Nat → String × String × String} {strs : List (String × Nat × String)} {ncs : List (String × String)}
variable {cc : ByteArray} {pc pc' : Nat} {lv lv' : kL} {st st' : List Value} {mem mem1 : kM} {a b : Nat}
variable {own : String} {index : Nat} {y : MethodName} {bytes : ByteArray} {nC n : Nat} {ret : Option FieldType} {hd : Jvm.Cond} {rm : Room} {v : Option Value} {As rest : List Value}
/-- a method that the receiver's class inherits, or has in another's place: the call by its words cu -/
theorem ks_callU {r ci N : Nat} {C owner : String} {T : u_T} {x : MethodName} {fs : List Value} (hx : p.tables.exec = Jvm.exec) (hb : c.code = cc) (hml : c.maxLocals = nL) (hown : s.vm.findClass own = some m.cls) (hts : ∀ w ∈ kTbl, w.before args s = true) (hWd : kWd D dA ext base xm sm sn strs ncs s)
    (hM : Met l y (hd :: kTbl) rm (kPc D dA ext base xm sm sn strs ncs (.ref r :: As) mem) (kQc D dA ext base xm v mem1) (mem1.length - mem.length) (kSl mem1 - kSl mem) (fun q => base ≤ q))
    (cu : va_CU R s args own C owner index x y bytes nC ret (hd :: kTbl) rm (mem1.length - mem.length) (kSl mem1 - kSl mem) n) (hci : ci < 1000) (hcl : vwCl[ci]? = some (C, T, N)) (hk : kLook xm mem r = some (.inl (ci, fs))) (hn : As.length = n) (hdg : decode cc pc = .ok (.invokevirtual index, 3))
    (hle : mem.length ≤ mem1.length ∧ kSl mem ≤ kSl mem1) (hroom : mem1.length ≤ n0 + R.cells ∧ kSl mem1 ≤ z0 + R.slots) (hrest : (rest.map fun v => v.category).sum ≤ 8) (k : kA p l e R s m args below meth c Q D dA ext base xm nL n0 z0 (pc + 3) lv (v.toList ++ rest) mem1) : kA p l e R s m args below meth c Q D dA ext base xm nL n0 z0 pc lv (As.reverse ++ .ref r :: rest) mem := by
  refine ks_back (rest := rest) (av := (Value.ref (kAd ext base r) :: As.map (kV (kAd ext base))).toArray) hle (fun H locs cells slots ls hRM hS hl hc hz => ?_) k
  have e0 : (As.reverse ++ .ref r :: rest).map (kV (kAd ext base)) = (As.map (kV (kAd ext base))).reverse ++ .ref (kAd ext base r) :: rest.map (kV (kAd ext base)) := by simp [kV]
  have hsm : 2 * (F0 m pc ls ((As.reverse ++ .ref r :: rest).map (kV (kAd ext base)))).monitorRoom + ((rest.map (kV (kAd ext base))).map fun v => v.category).sum ≤ 8 := by rw [kSum_map]; show 2 * 0 + _ ≤ 8; omega
  exact va_runU (Ts := kTbl) (As := As.map (kV (kAd ext base))) (C := C) ⟨hx, hb, hml, hown, hts⟩ hM cu (kPreV hWd hRM hS hci hcl hk) rfl (by rw [List.length_map]; exact hn) hl.1 e0 hsm hdg ⟨by omega, by omega⟩
theorem ks_callSU {r ci N : Nat} {C : String} {T : u_T} {fs : List Value} (hx : p.tables.exec = Jvm.exec) (hb : c.code = cc) (hml : c.maxLocals = nL) (hown : s.vm.findClass own = some m.cls) (hts : ∀ w ∈ kTbl, w.before args s = true) (hWd : kWd D dA ext base xm sm sn strs ncs s)
    (hM : Met l y (hd :: kTbl) rm (kPc D dA ext base xm sm sn strs ncs (.ref r :: As) mem) (kQc D dA ext base xm v mem1) (mem1.length - mem.length) (kSl mem1 - kSl mem) (fun q => base ≤ q))
    (cu : va_CS R s args own index y bytes nC ret (hd :: kTbl) rm (mem1.length - mem.length) (kSl mem1 - kSl mem) n) (hci : ci < 1000) (hcl : vwCl[ci]? = some (C, T, N)) (hk : kLook xm mem r = some (.inl (ci, fs))) (hn : As.length = n) (hdg : decode cc pc = .ok (.invokespecial index, 3))
    (hle : mem.length ≤ mem1.length ∧ kSl mem ≤ kSl mem1) (hroom : mem1.length ≤ n0 + R.cells ∧ kSl mem1 ≤ z0 + R.slots) (hrest : (rest.map fun v => v.category).sum ≤ 8) (k : kA p l e R s m args below meth c Q D dA ext base xm nL n0 z0 (pc + 3) lv (v.toList ++ rest) mem1) : kA p l e R s m args below meth c Q D dA ext base xm nL n0 z0 pc lv (As.reverse ++ .ref r :: rest) mem := by
  refine ks_back (rest := rest) (av := (Value.ref (kAd ext base r) :: As.map (kV (kAd ext base))).toArray) hle (fun H locs cells slots ls hRM hS hl hc hz => ?_) k
  have e0 : (As.reverse ++ .ref r :: rest).map (kV (kAd ext base)) = (As.map (kV (kAd ext base))).reverse ++ .ref (kAd ext base r) :: rest.map (kV (kAd ext base)) := by simp [kV]
  have hsm : 2 * (F0 m pc ls ((As.reverse ++ .ref r :: rest).map (kV (kAd ext base)))).monitorRoom + ((rest.map (kV (kAd ext base))).map fun v => v.category).sum ≤ 8 := by rw [kSum_map]; show 2 * 0 + _ ≤ 8; omega
  exact va_runSU (Ts := kTbl) (As := As.map (kV (kAd ext base))) (C := C) (hWd.2.2.1.1 ci _ hcl).2 ⟨hx, hb, hml, hown, hts⟩ hM cu (kPreV hWd hRM hS hci hcl hk) rfl (by rw [List.length_map]; exact hn) hl.1 e0 hsm hdg ⟨by omega, by omega⟩
theorem ks_callF {r ci N count : Nat} {C : String} {T : u_T} {x : MethodName} {fs : List Value} (hx : p.tables.exec = Jvm.exec) (hb : c.code = cc) (hml : c.maxLocals = nL) (hown : s.vm.findClass own = some m.cls) (hts : ∀ w ∈ kTbl, w.before args s = true) (hWd : kWd D dA ext base xm sm sn strs ncs s)
    (hM : Met l y (hd :: kTbl) rm (kPc D dA ext base xm sm sn strs ncs (.ref r :: As) mem) (kQc D dA ext base xm v mem1) (mem1.length - mem.length) (kSl mem1 - kSl mem) (fun q => base ≤ q))
    (cu : va_CI R s args own C index x y bytes nC ret (hd :: kTbl) rm (mem1.length - mem.length) (kSl mem1 - kSl mem) n) (hci : ci < 1000) (hcl : vwCl[ci]? = some (C, T, N)) (hk : kLook xm mem r = some (.inl (ci, fs))) (hn : As.length = n) (hdg : decode cc pc = .ok (.invokeinterface index count, 5))
    (hle : mem.length ≤ mem1.length ∧ kSl mem ≤ kSl mem1) (hroom : mem1.length ≤ n0 + R.cells ∧ kSl mem1 ≤ z0 + R.slots) (hrest : (rest.map fun v => v.category).sum ≤ 8) (k : kA p l e R s m args below meth c Q D dA ext base xm nL n0 z0 (pc + 5) lv (v.toList ++ rest) mem1) : kA p l e R s m args below meth c Q D dA ext base xm nL n0 z0 pc lv (As.reverse ++ .ref r :: rest) mem := by
  refine ks_back5 (rest := rest) (av := (Value.ref (kAd ext base r) :: As.map (kV (kAd ext base))).toArray) hle (fun H locs cells slots ls hRM hS hl hc hz => ?_) k
  have e0 : (As.reverse ++ .ref r :: rest).map (kV (kAd ext base)) = (As.map (kV (kAd ext base))).reverse ++ .ref (kAd ext base r) :: rest.map (kV (kAd ext base)) := by simp [kV]
  have hsm : 2 * (F0 m pc ls ((As.reverse ++ .ref r :: rest).map (kV (kAd ext base)))).monitorRoom + ((rest.map (kV (kAd ext base))).map fun v => v.category).sum ≤ 8 := by rw [kSum_map]; show 2 * 0 + _ ≤ 8; omega
  exact va_runF (Ts := kTbl) (As := As.map (kV (kAd ext base))) (C := C) (hWd.2.2.1.1 ci _ hcl).2 ⟨hx, hb, hml, hown, hts⟩ hM cu (kPreV hWd hRM hS hci hcl hk) rfl (by rw [List.length_map]; exact hn) hl.1 e0 hsm hdg ⟨by omega, by omega⟩
theorem ks_callSW {hh : List (Nat × Nat × Nat × Nat)} (hx : p.tables.exec = Jvm.exec) (hb : c.code = cc) (hml : c.maxLocals = nL) (hown : s.vm.findClass own = some m.cls) (hts : ∀ w ∈ kTbl, w.before args s = true) (hWd : kWd D dA ext base xm sm sn strs ncs s)
    (hM : Met l y (hd :: kTbl) rm (kPc D dA ext base xm sm sn strs ncs As mem) (kQc D dA ext base xm v mem1) (mem1.length - mem.length) (kSl mem1 - kSl mem) (fun q => base ≤ q))
    (cu : vx_CSW R s args own index y bytes nC ret hh (hd :: kTbl) rm (mem1.length - mem.length) (kSl mem1 - kSl mem) n) (hn : As.length = n) (hdg : decode cc pc = .ok (.invokestatic index, 3))
    (hle : mem.length ≤ mem1.length ∧ kSl mem ≤ kSl mem1) (hroom : mem1.length ≤ n0 + R.cells ∧ kSl mem1 ≤ z0 + R.slots) (hrest : (rest.map fun v => v.category).sum ≤ 8) (k : kA p l e R s m args below meth c Q D dA ext base xm nL n0 z0 (pc + 3) lv (v.toList ++ rest) mem1) : kA p l e R s m args below meth c Q D dA ext base xm nL n0 z0 pc lv (As.reverse ++ rest) mem := by
  refine ks_back (rest := rest) (av := (As.map (kV (kAd ext base))).toArray) hle (fun H locs cells slots ls hRM hS hl hc hz => ?_) k
  have e0 : (As.reverse ++ rest).map (kV (kAd ext base)) = (As.map (kV (kAd ext base))).reverse ++ rest.map (kV (kAd ext base)) := by simp
  have hsm : 2 * (F0 m pc ls ((As.reverse ++ rest).map (kV (kAd ext base)))).monitorRoom + ((rest.map (kV (kAd ext base))).map fun v => v.category).sum ≤ 8 := by rw [kSum_map]; show 2 * 0 + _ ≤ 8; omega
  exact vx_runSW (Ts := kTbl) (As := As.map (kV (kAd ext base))) ⟨hx, hb, hml, hown, hts⟩ hM cu (kPreS hWd hRM hS) rfl (by rw [List.length_map]; exact hn) hl.1 e0 hsm hdg ⟨by omega, by omega⟩
/-- a call whose callee throws, caught here: its handler puts the exception into a local and goes on behind that -/
theorem ks_callX {r ci N i : Nat} {C E nm : String} {T : u_T} {fs : List Value} (hx : p.tables.exec = Jvm.exec) (hb : c.code = cc) (hml : c.maxLocals = nL) (hown : s.vm.findClass own = some m.cls) (hts : ∀ w ∈ kTbl, w.before args s = true) (hgood : ∀ w ∈ kTbl, kGw w = true) (hWd : kWd D dA ext base xm sm sn strs ncs s)
    (hM : vx_Met l y (hd :: kTbl) rm (kPc D dA ext base xm sm sn strs ncs (.ref r :: As) mem) (fun _ _ _ _ => False) (kXC D dA ext base xm E mem1) (mem1.length - mem.length) (kSl mem1 - kSl mem) (fun q => base ≤ q))
    (hB : kCalB R y bytes nC ret hd rm n (mem1.length - mem.length) (kSl mem1 - kSl mem)) (hlink : Jvm.Cond.methodLink own index y ∈ kTbl) (hst : Jvm.Cond.instanceMethod y ∈ kTbl) (hsel : Jvm.Cond.selects C y y ∈ kTbl) (hci : ci < 1000) (hcl : vwCl[ci]? = some (C, T, N)) (hk : kLook xm mem r = some (.inl (ci, fs))) (hn : As.length = n) (hdg : decode cc pc = .ok (.invokevirtual index, 3))
    (hle : mem.length ≤ mem1.length ∧ kSl mem ≤ kSl mem1) (hroom : mem1.length ≤ n0 + R.cells ∧ kSl mem1 ≤ z0 + R.slots) (hrest : (rest.map fun v => v.category).sum ≤ 8)
    (pre : List ExceptionTableEntry) (x : ExceptionTableEntry) (suf : List ExceptionTableEntry) (hsplit : c.exceptionTable.toList = pre ++ x :: suf)
    (hpass : ∀ z ∈ pre, covers z pc = false ∨ (z.catchType ≠ 0 ∧ ∃ nm : String, Jvm.Cond.classLink own z.catchType nm ∈ kTbl ∧ (E, nm) ∈ ncs)) (hcov : covers x pc = true) (h0 : x.catchType ≠ 0) (hcl2 : Jvm.Cond.classLink own x.catchType nm ∈ kTbl) (hcast : Jvm.Cond.castable E nm ∈ kTbl)
    (hi : i < nL) (hst2 : (∃ k : Fin 4, (k : Nat) = i ∧ decode cc x.handlerPc = .ok (.astore_n k, 1) ∧ pc' = x.handlerPc + 1) ∨ (decode cc x.handlerPc = .ok (.astore i, 2) ∧ pc' = x.handlerPc + 2))
    (k : kA p l e R s m args below meth c Q D dA ext base xm nL n0 z0 pc' (lv.filter (fun q => !(q.1 == i) && !(q.1 + 1 == i && q.2.category == 2))) [] mem1) : kA p l e R s m args below meth c Q D dA ext base xm nL n0 z0 pc lv (As.reverse ++ .ref r :: rest) mem := by
  obtain ⟨hin, rfl, hini, hy, hln, hrc, hrs, hfr, hlo⟩ := hB
  intro H locs cells slots ls hRM hS hl hc hz
  have e0 : (As.reverse ++ .ref r :: rest).map (kV (kAd ext base)) = (As.map (kV (kAd ext base))).reverse ++ .ref (kAd ext base r) :: rest.map (kV (kAd ext base)) := by simp [kV]
  have hsm : 2 * (F0 m pc ls ((As.reverse ++ .ref r :: rest).map (kV (kAd ext base)))).monitorRoom + ((rest.map (kV (kAd ext base))).map fun v => v.category).sum ≤ 8 := by rw [kSum_map]; show 2 * 0 + _ ≤ 8; omega
  have hr := vx_runV (e := e) (below := below) (meth := meth) (Ts := kTbl) (locs := locs) (cells := cells) (slots := slots) (As := As.map (kV (kAd ext base))) (C := C) ⟨hx, hb, hml, hown, hts⟩ hM ⟨⟨hrc, hrs, hfr, hlo, kPay hgood hin hts, List.mem_cons_self, hts _ hin, hts _ hini, hy, kCalB_len hln, hts _ hlink⟩, hts _ hst, hts _ hsel⟩ (kPreV hWd hRM hS hci hcl hk) (g := F0 m pc ls ((As.reverse ++ .ref r :: rest).map (kV (kAd ext base)))) rfl (by rw [List.length_map]; exact hn) hl.1 e0 hsm hdg ⟨by omega, by omega⟩
  intro T1 hT X
  rcases hr T1 hT X with ⟨v', st₀, t, T', L, h0', X', hL, e1, e2, hF, stp⟩ | ⟨q, st₀, t, T', L, E', ce, h0', X', hL, e1, e2, ⟨hE, hRM1, hF⟩, hce, hcv, hcls, stp⟩
  · exact absurd hF id
  · subst hE
    have hcell : T'.heap[q]? = some ce := by rw [e1]; exact hce
    have hW := vx_catch (p := p) (l := l) (e := e) (R := R) (args := args) (below := below) (meth := meth) (H := T'.heap) (locs := locs ++ L) (cells := cells + (mem1.length - mem.length)) (slots := slots + (kSl mem1 - kSl mem)) (Q := Q) (pc := pc) (ls := ls) (rest := rest.map (kV (kAd ext base))) (name := nm) hown pre x suf hsplit
      (fun z hz => (hpass z hz).imp id fun ⟨g1, nm1, g2, g3⟩ => ⟨g1, nm1, hts _ g2, hWd.2.2.2.2.2.2.2.2.2.2 _ g3⟩) hcov h0 (hts _ hcl2) (hts _ hcast) hcell hcv hcls (by
        have fin : ∀ ls' : Array Slot, lv_has ls' nL ((i, .ref q) :: (kTl (kAd ext base) lv).filter (fun q => !(q.1 == i) && !(q.1 + 1 == i && q.2.category == 2))) → W p l e R s m args below meth c T'.heap (locs ++ L) (cells + (mem1.length - mem.length)) (slots + (kSl mem1 - kSl mem)) Q (F0 m pc' ls' []) := by
          intro ls' hl'
          refine k T'.heap (locs ++ L) _ _ ls' (by rw [e1]; exact hRM1) (kS_join hS h0' hF e1 hL) ⟨hl'.1, hl'.2.1, fun z hz => hl'.2.2 z (List.mem_cons_of_mem _ ?_)⟩ (by omega) (by omega)
          obtain ⟨w, hw, rfl⟩ := List.mem_map.mp hz
          obtain ⟨hw1, hw2⟩ := List.mem_filter.mp hw
          refine List.mem_filter.mpr ⟨List.mem_map.mpr ⟨w, hw1, rfl⟩, ?_⟩
          simpa [kV_cat] using hw2
        rcases hst2 with ⟨kk, hki, hd1, hp⟩ | ⟨hd1, hp⟩
        · subst hp
          exact lv_astore_n hx hb hd1 hki hl hi rfl fin
        · subst hp
          exact lv_astore hx hb hd1 hl hi rfl fin)
    obtain ⟨t2, a1, b1⟩ := hW T' rfl X'
    exact ⟨t2, stp.trans a1, b1⟩
theorem kOptIn {xs : List (Option Nat)} {sp n i : Nat} (hi : i < n) (h : sp + n ≤ xs.length) : xs.getD (sp + i) none ∈ (xs.drop sp).take n := by
  rw [List.mem_iff_getElem?]
  refine ⟨i, ?_⟩
  rw [List.getElem?_take_of_lt hi, List.getElem?_drop, List.getD_eq_getElem?_getD, List.getElem?_eq_getElem (by omega)]
  rfl
theorem ks_copyQ {t0 t1 src dst : Nat} {sp dp z : Int32} {xs ys : List (Option Nat)} (hx : p.tables.exec = Jvm.exec) (hb : c.code = cc) (hml : c.maxLocals = nL) (hdg : decode cc pc = .ok (.invokestatic index, 3)) (hown : s.vm.findClass own = some m.cls) (hts : ∀ w ∈ kTbl, w.before args s = true)
    (hlink : (Cond.methodLink own index arraycopyName).before args s = true) (hnat : (Cond.native arraycopyName).before args s = true) (hstat : (Cond.static arraycopyName).before args s = true) (hini : (Cond.initialized "java/lang/System").before args s = true)
    (hWd : kWd D dA ext base xm sm sn strs ncs s) (hO : kObj) (ht0 : t0 = 2 ∨ t0 = 3) (ht1 : t1 = 2 ∨ t1 = 3) (hs : kLook xm mem src = some (.inr (.inr (t0, xs)))) (hd : kLook xm mem dst = some (.inr (.inr (t1, ys)))) (hs1 : 1000 ≤ src ∨ z = 0) (hd1 : 1000 ≤ dst) (hR : kOkR sp dp z xs.length ys.length = true)
    (hall : ((xs.drop sp.toNatClampNeg).take z.toNatClampNeg).all (fun x => kStOk xm mem t1 x) = true) (hfr : 1 ≤ R.frames) (hlo : 300 ≤ R.locals) (hrest : (st.map fun v => v.category).sum ≤ 100)
    (k : kA p l e R s m args below meth c Q D dA ext base xm nL n0 z0 (pc + 3) lv st (mem.set (dst - 1000) (.inr (.inr (t1, kCpy xs ys sp.toNatClampNeg dp.toNatClampNeg z.toNatClampNeg))))) : kA p l e R s m args below meth c Q D dA ext base xm nL n0 z0 pc lv (.int z :: .int dp :: .ref dst :: .int sp :: .ref src :: st) mem := by
  intro H locs cells slots ls hRM hS hl hc hz
  have hK := hWd.2.2.1
  have hXs := hWd.2.2.2.1
  obtain ⟨h1, h2, h3, h4, h5⟩ := kOkR_ok hR
  obtain ⟨hm0, hmlen, hra⟩ := kLook_new (ext := ext) (base := base) hd1 hd
  intro T hT X
  have hc1 : H[kAd ext base dst]? = some (vp_cell (dA t1) (ys.length, .inr (.inr (.inr (.inr (fun j => (ys.getD j none).map (kAd ext base))))))) := kRM_at hRM hd1 hd rfl
  have hty1 : (kTys dA)[t1]? = some (dA t1, .object (kEn t1)) := by rcases ht1 with rfl | rfl <;> rfl
  have hty0 : (kTys dA)[t0]? = some (dA t0, .object (kEn t0)) := by rcases ht0 with rfl | rfl <;> rfl
  -- the source's cell
  obtain ⟨cs, ks, sComp, E0, g1, g2, g3, g4, g5, g6, g7⟩ : ∃ (cs : Cell) (ks : Class) (sComp : ClassId) (E0 : String), H[kAd ext base src]? = some cs ∧ (∀ k, cs.vm ≠ .statics k) ∧ cs.vm ≠ .unknown ∧ s.vm.classes[cs.cls]? = some ks ∧ ks.kind = .array sComp (.object E0) ∧ (sp.toNatClampNeg + z.toNatClampNeg ≤ cs.slots.size) ∧ ∀ i, i < z.toNatClampNeg → cs.slots.getD (sp.toNatClampNeg + i) .null = va_rf ((xs.getD (sp.toNatClampNeg + i) none).map (kAd ext base)) := by
    by_cases hr : src < 1000
    · have hz0 : z = 0 := hs1.resolve_left (by omega)
      obtain ⟨cell, f1, f2, f3, f4, f5, f6, f7⟩ := hXs src _ hr (kLook_old hr hs)
      have hlt : kAd ext base src < s.heap.size := (Array.getElem?_eq_some_iff.mp f1).1
      obtain ⟨hob, kk, hkk, comp, hkind⟩ := f2
      refine ⟨cell, kk, comp, _, by rw [hS.2.1 _ hlt f7]; exact f1, fun k h => hob k h, f3, hkk, hkind, by omega, fun i hi => ?_⟩
      subst hz0
      have hz : (0 : Int32).toNatClampNeg = 0 := by decide
      omega
    · have hc0 : H[kAd ext base src]? = some (vp_cell (dA t0) (xs.length, .inr (.inr (.inr (.inr (fun j => (xs.getD j none).map (kAd ext base))))))) := kRM_at hRM (by omega) hs rfl
      obtain ⟨-, k0, hk0, cm0, hkk0⟩ := (hK.2 t0 _ hty0).1 xs.length (fun j => va_rf ((xs.getD j none).map (kAd ext base)))
      refine ⟨_, k0, cm0, _, hc0, (fun k h => by cases h), (fun h => by cases h), hk0, hkk0, ?_, fun i hi => ?_⟩
      · show _ ≤ (arrV _ _ _).slots.size
        rw [arrV_size]
        exact h4
      · show (arrV _ _ (fun j => va_rf ((xs.getD j none).map (kAd ext base)))).slots.getD _ _ = _
        rw [Array.getD_eq_getD_getElem?, arrV_read _ _ (by omega)]
        rfl
  obtain ⟨-, k1, hk1, cm1, hkk1⟩ := (hK.2 t1 _ hty1).1 ys.length (fun j => va_rf ((ys.getD j none).map (kAd ext base)))
  obtain ⟨vm', X', step⟩ := X.arraycopy hx hown hlink hnat hstat hini (src := kAd ext base src) (dst := kAd ext base dst) (cs := cs) (cd := vp_cell (dA t1) (ys.length, .inr (.inr (.inr (.inr (fun j => (ys.getD j none).map (kAd ext base))))))) (srcPos := sp) (destPos := dp) (n := z) (by rw [hT]; exact g1) (by rw [hT]; exact hc1)
    g2 (fun _ h => by cases h) g3 (fun h => by cases h) g4 hk1 g5 hkk1 rfl h1 h2 h3
    (by rw [kClamp h1, kClamp h3]; omega)
    (by rw [kClamp h2, kClamp h3]; show ¬ _ > ((arrV _ _ (fun j => va_rf ((ys.getD j none).map (kAd ext base)))).slots.size : Int); rw [arrV_size]; omega)
    (fun vm₁ hal i hi => by
      rw [g7 i hi]
      cases hy : xs.getD (sp.toNatClampNeg + i) none with
      | none => exact ⟨rfl, trivial⟩
      | some y =>
        have hok := List.all_eq_true.mp hall _ (kOptIn hi h4)
        rw [hy] at hok
        obtain ⟨cellV, f1, f2, ⟨kC, hkC⟩, hasg⟩ := kSt_any hts hK hO hXs hRM hS hok ht1
        obtain ⟨kA, comp, r1, r2, r3, -⟩ := (hK.2 t1 _ hty1).2
        cases hk1.symm.trans r1
        cases hkk1.symm.trans r2
        obtain ⟨kE, hkE, -⟩ := Vm.findClass_spec r3
        obtain ⟨kC', hkC', -⟩ := hal.2.2 _ _ hkC
        obtain ⟨kE', hkE', -⟩ := hal.2.2 _ _ hkE
        refine ⟨rfl, cellV, (show T.heap[kAd ext base y]? = some cellV by rw [hT]; exact f1), (fun q h => by rw [h] at f2; cases f2), ⟨kC', hkC'⟩, ?_, ?_⟩
        · exact ⟨kE', hkE'⟩
        · show vm₁.assignable _ _ = true
          rw [hal.assignable]
          exact hasg _ r3)
    (g := F0 m pc ls (.int z :: .int dp :: .ref (kAd ext base dst) :: .int sp :: .ref (kAd ext base src) :: st.map (kV (kAd ext base)))) rfl (by rw [hml]; exact hl.1) (rest := st.map (kV (kAd ext base))) rfl (by rw [hb]; exact hdg) hfr (by
      have hw : nativeFrameWords "java/lang/System" "arraycopy" 5 + 11 ≤ 100 := by decide +kernel
      show 2 * 0 + _ + _ ≤ _
      rw [kSum_map]
      omega)
  have e1 : copied cs (vp_cell (dA t1) (ys.length, .inr (.inr (.inr (.inr (fun j => (ys.getD j none).map (kAd ext base))))))) sp dp z = vp_cell (dA t1) (ys.length, .inr (.inr (.inr (.inr (fun j => ((kCpy xs ys sp.toNatClampNeg dp.toNatClampNeg z.toNatClampNeg).getD j none).map (kAd ext base)))))) := by
    have es : cs.stretch sp.toNatClampNeg z.toNatClampNeg = (arrV (dA t1) xs.length (fun j => va_rf ((xs.getD j none).map (kAd ext base)))).stretch sp.toNatClampNeg z.toNatClampNeg := by
      unfold Cell.stretch
      apply List.map_congr_left
      intro i hi
      have hi' := List.mem_range.mp hi
      rw [g7 i hi', Array.getD_eq_getD_getElem?, arrV_read _ _ (by omega)]
      rfl
    show Cell.storeRun _ _ _ = _
    rw [es]
    refine (va_copied (fun z => va_rf z) (dA t1) (dA t1) (fun j => (xs.getD j none).map (kAd ext base)) (fun j => (ys.getD j none).map (kAd ext base)) h4).trans ?_
    rw [vp_cell_q]
    congr 1
    funext j
    congr 1
    unfold va_cpy
    simp only [List.getD_eq_getElem?_getD]
    rw [kCpy_at xs ys h4 h5]
    split <;> rfl
  rw [e1] at X' step
  have hlt : kAd ext base dst < H.size := (Array.getElem?_eq_some_iff.mp hc1).1
  generalize hCell : vp_cell (dA t1) (ys.length, .inr (.inr (.inr (.inr (fun j => ((kCpy xs ys sp.toNatClampNeg dp.toNatClampNeg z.toNatClampNeg).getD j none).map (kAd ext base)))))) = cellN at X' step
  have hheap : ((T.setVm vm').setCell (kAd ext base dst) cellN).heap = H.setIfInBounds (kAd ext base dst) cellN := by rw [← hT]; rfl
  have oq : ∀ q : Nat, q ≠ kAd ext base dst → (H.setIfInBounds (kAd ext base dst) cellN)[q]? = H[q]? := fun q hq => by simp [Array.getElem?_setIfInBounds, Ne.symm hq]
  have hself : (H.setIfInBounds (kAd ext base dst) cellN)[kAd ext base dst]? = some cellN := by simp [Array.getElem?_setIfInBounds, hlt]
  have hzz : (H.setIfInBounds (kAd ext base dst) cellN).size = H.size := by simp
  obtain ⟨t2, a1, b1⟩ := k (H.setIfInBounds (kAd ext base dst) cellN) _ cells slots ls (kRM_set hRM hmlen hzz (by rw [← hra]; exact oq) fun _ => by
      rw [← hra]
      show (H.setIfInBounds (kAd ext base dst) cellN)[kAd ext base dst]? = some (vp_cell _ _)
      rw [hself, ← hCell, kCpy_len xs ys h4 h5]) ⟨by rw [hzz]; exact hS.1, fun q g1 g2 => by
        rw [oq q (fun e => g2 (by rw [e, hra]; show base ≤ _; omega))]
        exact hS.2.1 q g1 g2, fun q hq => by
        rcases List.mem_append.mp hq with h | h
        · exact hS.2.2 q h
        · obtain ⟨z, -, hz⟩ := List.mem_map.mp h
          rw [← hz, hra]
          exact Nat.le_add_right base (dst - 1000)⟩ hl (by rw [List.length_set]; exact hc) (by rw [kSl_set mem _ _ _ hm0 (by simp [kSz, kCpy_len xs ys h4 h5])]; exact hz) _ hheap X'
  exact ⟨t2, step t2 a1, b1⟩
end KCALL
section KEND
variable {p : Program} {l : Launch} {e : Env} {R : Room} {s : State} {m : MethodId} {args : Array Value} {below : List Frame} {meth : Method} {c : Code} {D : va_G} {dA : Nat → ClassId} {ext : Nat → Nat} {base : Nat} {xm : Nat → Option kE} {nL n0 z0 : Nat}
variable {cc : ByteArray} {pc : Nat} {lv : kL} {st : List Value} {mem mem1 : kM}
/-- the state when a method ends: the goal of its walk -/
theorem ke_fin {v : Option Value} {H : Heap} {locs : List Loc} (hS : va_S (fun q => base ≤ q) s.heap H locs) (hRM : kRM D dA ext base xm mem H) : ∀ t : State, t.heap = H → s.WarmedH t.vm → kQc D dA ext base xm v mem args s (.returned (v.map (kV (kAd ext base)))) t :=
  fun t ht _ => ⟨rfl, by rw [ht]; exact hRM, by rw [show t.heap = H from ht]; exact hS.1, by rw [show t.heap = H from ht]; exact hS.2.1⟩
theorem ke_iret {x : Int32} {ty : FieldType} (hx : p.tables.exec = Jvm.exec) (hb : c.code = cc) (hr : meth.sig.returnType = some ty) (hn : narrow ty (.int x) = .int x) (hlocks : meth.locks = false) (hdg : decode cc pc = .ok (.ireturn, 1)) :
    kA p l e R s m args below meth c (MQ below (kQc D dA ext base xm (some (.int x)) mem) args s (mem.length - n0) (kSl mem - z0) (fun q => base ≤ q)) D dA ext base xm nL n0 z0 pc lv [.int x] mem := by
  intro H locs cells slots ls hRM hS hl hc hz
  rw [show mem.length - n0 = cells by omega, show kSl mem - z0 = slots by omega]
  exact W.zret hx hb hr hn (ke_fin (v := some (.int x)) hS hRM) hS.2.2 hdg hlocks
theorem ke_lret {x : Int64} (hx : p.tables.exec = Jvm.exec) (hb : c.code = cc) (hr : meth.sig.returnType = some .long) (hlocks : meth.locks = false) (hdg : decode cc pc = .ok (.lreturn, 1)) :
    kA p l e R s m args below meth c (MQ below (kQc D dA ext base xm (some (.long x)) mem) args s (mem.length - n0) (kSl mem - z0) (fun q => base ≤ q)) D dA ext base xm nL n0 z0 pc lv [.long x] mem := by
  intro H locs cells slots ls hRM hS hl hc hz
  rw [show mem.length - n0 = cells by omega, show kSl mem - z0 = slots by omega]
  exact W.lret hx hb hr (ke_fin (v := some (.long x)) hS hRM) hS.2.2 hdg hlocks
theorem ke_fret {x : UInt32} (hx : p.tables.exec = Jvm.exec) (hb : c.code = cc) (hr : meth.sig.returnType = some .float) (hlocks : meth.locks = false) (hdg : decode cc pc = .ok (.freturn, 1)) :
    kA p l e R s m args below meth c (MQ below (kQc D dA ext base xm (some (.float x)) mem) args s (mem.length - n0) (kSl mem - z0) (fun q => base ≤ q)) D dA ext base xm nL n0 z0 pc lv [.float x] mem := by
  intro H locs cells slots ls hRM hS hl hc hz
  rw [show mem.length - n0 = cells by omega, show kSl mem - z0 = slots by omega]
  exact W.fret hx hb hr (ke_fin (v := some (.float x)) hS hRM) hS.2.2 hdg hlocks
theorem ke_dret {x : UInt64} (hx : p.tables.exec = Jvm.exec) (hb : c.code = cc) (hr : meth.sig.returnType = some .double) (hlocks : meth.locks = false) (hdg : decode cc pc = .ok (.dreturn, 1)) :
    kA p l e R s m args below meth c (MQ below (kQc D dA ext base xm (some (.double x)) mem) args s (mem.length - n0) (kSl mem - z0) (fun q => base ≤ q)) D dA ext base xm nL n0 z0 pc lv [.double x] mem := by
  intro H locs cells slots ls hRM hS hl hc hz
  rw [show mem.length - n0 = cells by omega, show kSl mem - z0 = slots by omega]
  exact W.dret hx hb hr (ke_fin (v := some (.double x)) hS hRM) hS.2.2 hdg hlocks
theorem ke_aret {q : Option Nat} {rt : FieldType} (hx : p.tables.exec = Jvm.exec) (hb : c.code = cc) (hr : meth.sig.returnType = some rt) (hrt : (∃ n, rt = .object n) ∨ ∃ t, rt = .array t) (hlocks : meth.locks = false) (hdg : decode cc pc = .ok (.areturn, 1)) :
    kA p l e R s m args below meth c (MQ below (kQc D dA ext base xm (some (kRf q)) mem) args s (mem.length - n0) (kSl mem - z0) (fun q => base ≤ q)) D dA ext base xm nL n0 z0 pc lv [kRf q] mem := by
  intro H locs cells slots ls hRM hS hl hc hz
  rw [show mem.length - n0 = cells by omega, show kSl mem - z0 = slots by omega]
  exact W.aret hx hb hr hrt (v := kV (kAd ext base) (kRf q)) (by cases q with | none => exact Or.inl rfl | some a => exact Or.inr ⟨_, rfl⟩) (ke_fin (v := some (kRf q)) hS hRM) hS.2.2 hdg hlocks
theorem ke_vret (hx : p.tables.exec = Jvm.exec) (hb : c.code = cc) (hr : meth.sig.returnType = none) (hlocks : meth.locks = false) (hdg : decode cc pc = .ok (.return_, 1)) :
    kA p l e R s m args below meth c (MQ below (kQc D dA ext base xm none mem) args s (mem.length - n0) (kSl mem - z0) (fun q => base ≤ q)) D dA ext base xm nL n0 z0 pc lv [] mem := by
  intro H locs cells slots ls hRM hS hl hc hz
  rw [show mem.length - n0 = cells by omega, show kSl mem - z0 = slots by omega]
  exact W.vret hx hb hr (ke_fin (v := none) hS hRM) hS.2.2 hdg hlocks
end KEND
section KTHROW
variable {p : Program} {l : Launch} {e : Env} {R : Room} {s : State} {m : MethodId} {args : Array Value} {below : List Frame} {meth : Method} {c : Code} {H : Heap} {locs : List Loc} {cells slots : Nat}
variable {mc ms : Nat} {free : Addr → Prop} {ls : Array Slot} {rest : List Value} {Qc : Array Value → State → Outcome → State → Prop} {XC : String → State → State → Prop}
/-- 'throw new E("text")', with the heap's size behind it (after the kit's row of that kind) -/
theorem kx_throwS {cc : ByteArray} {pc : Nat} (hexec : p.tables.exec = Jvm.exec) (hb : c.code = cc) (hl : l.stackTraces = false) {own cls text : String} {names : List String} {ik is ic mc ms sa : Nat} {A : Nat → Prop}
    (hown : s.vm.findClass own = some m.cls) (hcls : Bundle.fit cls = true) (hnames : ∀ n ∈ names, Bundle.fit n = true)
    (hk : (Cond.classLink own ik cls).before args s = true) (hini : (Cond.initialized cls).before args s = true) (hstr : vk_R own is text sa s) (hat : ∀ w ∈ vx_atS own ic cls names, w.before args s = true)
    (hgood : ∀ w ∈ Cond.classLink own ik cls :: Cond.initialized cls :: vx_atS own ic cls names, vx_ot w = true)
    (hU : vx_Zq Bundle.tN "UNASSIGNED_STACK" Bundle.steD A s s.heap) (hN : vx_Zq Bundle.tN "SUPPRESSED_SENTINEL" Bundle.listD A s s.heap) (hS : va_S A s.heap H locs) (hsize : ls.size = c.maxLocals)
    (d0 : decode cc pc = .ok (.new ik, 3)) (d3 : decode cc (pc + 3) = .ok (.dup, 1)) (d4 : (decode cc (pc + 4) = .ok (.ldc is, 2) ∧ decode cc (pc + 6) = .ok (.invokespecial ic, 3) ∧ decode cc (pc + 9) = .ok (.athrow, 1)))
    (hout : ∀ x ∈ c.exceptionTable.toList, covers x (pc + 9) = false)
    (hRframes : names.length + 3 < R.frames) (hRlocals : (rest.map fun v => v.category).sum + (13 * (names.length + 1) + 43) ≤ R.locals) (hRcells : cells + 1 ≤ R.cells) (hRslots : slots + 6 ≤ R.slots) (hlocks : meth.locks = false)
    (hx : ∀ t : State, s.vm.Alike t.vm → t.heap.size = H.size + 1 → (∀ q : Nat, q < H.size → t.heap[q]? = H[q]?) → XC cls s t)
    (hf : ∀ z ∈ locs, free z.base) (hc : cells + 1 ≤ mc) (hs : slots + 6 ≤ ms) :
    W p l e R s m args below meth c H locs cells slots (vx_MQ below Qc XC args s mc ms free) (F0 m pc ls rest) := by
  obtain ⟨d4, d6, d9⟩ := d4
  intro T hT X
  have htr : e.platform.stackTraces = false := (show e.platform.stackTraces = l.stackTraces by rw [X.admits.platform]).trans hl
  have Y := vx_rebase X (R' := { frames := R.frames, locals := R.locals, cells := 1, slots := 6 }) (Nat.le_refl _) (Nat.le_refl _) hRcells hRslots
  obtain ⟨s', hA⟩ : ∃ z, z = (T.setVm s.vm).setFrames (.invoking m args :: below) := ⟨_, rfl⟩
  rw [← hA] at Y
  have hvm : s'.vm = s.vm := by rw [hA]; rfl
  have hhp : s'.heap = H := by rw [hA]; exact hT
  have hW0 : s.WarmedH s'.vm := by rw [hvm]; exact State.WarmedH.refl s
  have hat' : ∀ w ∈ vx_atS own ic cls names, w.before args s' = true := fun w hw => vx_ot_at hW0 hvm.symm (hgood w (List.mem_cons_of_mem _ (List.mem_cons_of_mem _ hw))) (hat w hw)
  have hk' : (Cond.classLink own ik cls).before args s' = true := vx_ot_at hW0 hvm.symm (hgood _ List.mem_cons_self) hk
  have hini' : (Cond.initialized cls).before args s' = true := vx_ot_at hW0 hvm.symm (hgood _ (List.mem_cons_of_mem _ List.mem_cons_self)) hini
  have hU' : vx_Zq Bundle.tN "UNASSIGNED_STACK" Bundle.steD A s' s'.heap := by rw [hhp]; exact vx_Zq.moved hW0.alike (hU.kept hS.2.1)
  have hN' : vx_Zq Bundle.tN "SUPPRESSED_SENTINEL" Bundle.listD A s' s'.heap := by rw [hhp]; exact vx_Zq.moved hW0.alike (hN.kept hS.2.1)
  have h : ∀ w ∈ Bundle.ownAtoms own ic cls names, w.before args s' = true := vx_own hat' (vx_isRefq hU'.1) (vx_isRefq hN'.1) hU'.2.word hN'.2.word
  have hown' : s'.vm.findClass own = some m.cls := by rw [hvm]; exact hown
  have hins : (Cond.instantiable cls 6).before args s' = true := h _ (by simp [Bundle.ownAtoms])
  obtain ⟨vm₁, cX, kX, hfX, hkX, -, -, X₁, st1⟩ := Y.newCold hexec (own := own) (C := cls) (index := ik) (n := 6) hown' hk' hins hini'
    (g := F0 m pc ls rest) rfl (by rw [hb]; exact d0) (Nat.le_refl _) (Nat.le_refl _)
  generalize hT1 : (T.setVm vm₁).pushCell { cls := cX, slots := kX.instanceTypes.map defaultValue, vm := .none } = T1 at X₁ st1
  have hcat : (Value.ref T.heap.size).category = 1 := rfl
  have hcellA : T1.heap[T.heap.size]? = some (freshCell cX kX) := by rw [← hT1]; exact State.heap_pushCell_size _ _
  have d3' : decode c.code (pc + 3) = .ok (.dup, 1) := by rw [hb]; exact d3
  have d4' : decode c.code (pc + 4) = .ok (.ldc is, 2) := by rw [hb]; exact d4
  have hstr' : vk_R own is text sa s' := vk_R.warm hW0 hstr
  obtain ⟨U, hsteps, hrun, hend, hW, hsame, ce, hce, hO⟩ := X₁.ctorThrowS hexec htr (own := own) (cls := cls) (names := names) (ic := ic) hown' hcls hnames h (fun x hx => nomatch hx) hfX hkX hcellA (by rw [hhp, hT]; exact Nat.le_refl _) (msg := .ref sa) rfl
    (g := { method := m, pc := pc + 6, locals := ls, stack := .ref sa :: .ref T.heap.size :: .ref T.heap.size :: rest, locked := none }) rfl hsize rfl rfl (rest := rest) rfl
    (by rw [hb]; exact d6) (by rw [hb]; exact d9) hout hRframes (by simp only [List.map_cons, List.sum_cons, hcat]; omega) hlocks
  obtain ⟨f1, f2⟩ := vx_frame hsame
  rw [hhp] at f1 f2
  have hsz1 : U.heap.size ≤ H.size + 1 := by
    have h9 := hsame.2.2.1
    rw [← hhp]
    exact h9
  have hsz2 : H.size < U.heap.size := by
    have h9 := (Array.getElem?_eq_some_iff.mp hce).1
    rw [← hT]
    exact h9
  have hWs : s.WarmedH U.vm := State.WarmedH.trans hW0 hW
  have hcl : s.vm.findClass cls = some ce.cls := by
    have h9 := hO.cls
    rw [hvm] at h9
    exact h9
  have hall : s.sameButNew ({ U with vm := s.vm } : State) locs mc ms := by
    subst hA
    obtain ⟨e1, e2⟩ := hsame
    rw [State.setFrames_setFrames] at e1
    have h2 : (T.setVm s.vm).sameButNew ({ U with vm := s.vm } : State) [] (0 + 1) (0 + 6) := ⟨e1, e2⟩
    have h3 := X.same.trans h2
    rw [List.append_nil] at h3
    exact h3.mono hc hs
  refine ⟨U, ?_, .threw T.heap.size, hrun, hend, Or.inr ⟨T.heap.size, rfl, cls, ce, locs, hx U hWs.alike (by omega) (fun q hq => f2 q hq (fun z hz => nomatch hz)), hce, hO.vm, hcl, hWs, hall, hf⟩⟩
  refine st1 _ ?_
  show Steps p.tables e below (T1.setTop { method := m, pc := pc + 3, locals := ls, stack := .ref T.heap.size :: rest, locked := none }) _
  jvm_step X₁.here [X₁.here.top, hexec, d3', Value.category]
  exact X₁.ldcString hexec (own := own) (text := text) (index := is) (a := sa) hown' hstr'.1 hstr'.2
    (g := { method := m, pc := pc + 4, locals := ls, stack := .ref T.heap.size :: .ref T.heap.size :: rest, locked := none }) rfl d4' _ hsteps
/-- 'throw new E("text")', the text by a wide index, with the heap's size behind it (after the kit's row of that kind) -/
theorem kx_throwSW {cc : ByteArray} {pc : Nat} (hexec : p.tables.exec = Jvm.exec) (hb : c.code = cc) (hl : l.stackTraces = false) {own cls text : String} {names : List String} {ik is ic mc ms sa : Nat} {A : Nat → Prop}
    (hown : s.vm.findClass own = some m.cls) (hcls : Bundle.fit cls = true) (hnames : ∀ n ∈ names, Bundle.fit n = true)
    (hk : (Cond.classLink own ik cls).before args s = true) (hini : (Cond.initialized cls).before args s = true) (hstr : vk_R own is text sa s) (hat : ∀ w ∈ vx_atS own ic cls names, w.before args s = true)
    (hgood : ∀ w ∈ Cond.classLink own ik cls :: Cond.initialized cls :: vx_atS own ic cls names, vx_ot w = true)
    (hU : vx_Zq Bundle.tN "UNASSIGNED_STACK" Bundle.steD A s s.heap) (hN : vx_Zq Bundle.tN "SUPPRESSED_SENTINEL" Bundle.listD A s s.heap) (hS : va_S A s.heap H locs) (hsize : ls.size = c.maxLocals)
    (d0 : decode cc pc = .ok (.new ik, 3)) (d3 : decode cc (pc + 3) = .ok (.dup, 1)) (d4 : (decode cc (pc + 4) = .ok (.ldc_w is, 3) ∧ decode cc (pc + 7) = .ok (.invokespecial ic, 3) ∧ decode cc (pc + 10) = .ok (.athrow, 1)))
    (hout : ∀ x ∈ c.exceptionTable.toList, covers x (pc + 10) = false)
    (hRframes : names.length + 3 < R.frames) (hRlocals : (rest.map fun v => v.category).sum + (13 * (names.length + 1) + 43) ≤ R.locals) (hRcells : cells + 1 ≤ R.cells) (hRslots : slots + 6 ≤ R.slots) (hlocks : meth.locks = false)
    (hx : ∀ t : State, s.vm.Alike t.vm → t.heap.size = H.size + 1 → (∀ q : Nat, q < H.size → t.heap[q]? = H[q]?) → XC cls s t)
    (hf : ∀ z ∈ locs, free z.base) (hc : cells + 1 ≤ mc) (hs : slots + 6 ≤ ms) :
    W p l e R s m args below meth c H locs cells slots (vx_MQ below Qc XC args s mc ms free) (F0 m pc ls rest) := by
  obtain ⟨d4, d6, d9⟩ := d4
  intro T hT X
  have htr : e.platform.stackTraces = false := (show e.platform.stackTraces = l.stackTraces by rw [X.admits.platform]).trans hl
  have Y := vx_rebase X (R' := { frames := R.frames, locals := R.locals, cells := 1, slots := 6 }) (Nat.le_refl _) (Nat.le_refl _) hRcells hRslots
  obtain ⟨s', hA⟩ : ∃ z, z = (T.setVm s.vm).setFrames (.invoking m args :: below) := ⟨_, rfl⟩
  rw [← hA] at Y
  have hvm : s'.vm = s.vm := by rw [hA]; rfl
  have hhp : s'.heap = H := by rw [hA]; exact hT
  have hW0 : s.WarmedH s'.vm := by rw [hvm]; exact State.WarmedH.refl s
  have hat' : ∀ w ∈ vx_atS own ic cls names, w.before args s' = true := fun w hw => vx_ot_at hW0 hvm.symm (hgood w (List.mem_cons_of_mem _ (List.mem_cons_of_mem _ hw))) (hat w hw)
  have hk' : (Cond.classLink own ik cls).before args s' = true := vx_ot_at hW0 hvm.symm (hgood _ List.mem_cons_self) hk
  have hini' : (Cond.initialized cls).before args s' = true := vx_ot_at hW0 hvm.symm (hgood _ (List.mem_cons_of_mem _ List.mem_cons_self)) hini
  have hU' : vx_Zq Bundle.tN "UNASSIGNED_STACK" Bundle.steD A s' s'.heap := by rw [hhp]; exact vx_Zq.moved hW0.alike (hU.kept hS.2.1)
  have hN' : vx_Zq Bundle.tN "SUPPRESSED_SENTINEL" Bundle.listD A s' s'.heap := by rw [hhp]; exact vx_Zq.moved hW0.alike (hN.kept hS.2.1)
  have h : ∀ w ∈ Bundle.ownAtoms own ic cls names, w.before args s' = true := vx_own hat' (vx_isRefq hU'.1) (vx_isRefq hN'.1) hU'.2.word hN'.2.word
  have hown' : s'.vm.findClass own = some m.cls := by rw [hvm]; exact hown
  have hins : (Cond.instantiable cls 6).before args s' = true := h _ (by simp [Bundle.ownAtoms])
  obtain ⟨vm₁, cX, kX, hfX, hkX, -, -, X₁, st1⟩ := Y.newCold hexec (own := own) (C := cls) (index := ik) (n := 6) hown' hk' hins hini'
    (g := F0 m pc ls rest) rfl (by rw [hb]; exact d0) (Nat.le_refl _) (Nat.le_refl _)
  generalize hT1 : (T.setVm vm₁).pushCell { cls := cX, slots := kX.instanceTypes.map defaultValue, vm := .none } = T1 at X₁ st1
  have hcat : (Value.ref T.heap.size).category = 1 := rfl
  have hcellA : T1.heap[T.heap.size]? = some (freshCell cX kX) := by rw [← hT1]; exact State.heap_pushCell_size _ _
  have d3' : decode c.code (pc + 3) = .ok (.dup, 1) := by rw [hb]; exact d3
  have d4' : decode c.code (pc + 4) = .ok (.ldc_w is, 3) := by rw [hb]; exact d4
  have hstr' : vk_R own is text sa s' := vk_R.warm hW0 hstr
  obtain ⟨U, hsteps, hrun, hend, hW, hsame, ce, hce, hO⟩ := X₁.ctorThrowS hexec htr (own := own) (cls := cls) (names := names) (ic := ic) hown' hcls hnames h (fun x hx => nomatch hx) hfX hkX hcellA (by rw [hhp, hT]; exact Nat.le_refl _) (msg := .ref sa) rfl
    (g := { method := m, pc := pc + 7, locals := ls, stack := .ref sa :: .ref T.heap.size :: .ref T.heap.size :: rest, locked := none }) rfl hsize rfl rfl (rest := rest) rfl
    (by rw [hb]; exact d6) (by rw [hb]; exact d9) hout hRframes (by simp only [List.map_cons, List.sum_cons, hcat]; omega) hlocks
  obtain ⟨f1, f2⟩ := vx_frame hsame
  rw [hhp] at f1 f2
  have hsz1 : U.heap.size ≤ H.size + 1 := by
    have h9 := hsame.2.2.1
    rw [← hhp]
    exact h9
  have hsz2 : H.size < U.heap.size := by
    have h9 := (Array.getElem?_eq_some_iff.mp hce).1
    rw [← hT]
    exact h9
  have hWs : s.WarmedH U.vm := State.WarmedH.trans hW0 hW
  have hcl : s.vm.findClass cls = some ce.cls := by
    have h9 := hO.cls
    rw [hvm] at h9
    exact h9
  have hall : s.sameButNew ({ U with vm := s.vm } : State) locs mc ms := by
    subst hA
    obtain ⟨e1, e2⟩ := hsame
    rw [State.setFrames_setFrames] at e1
    have h2 : (T.setVm s.vm).sameButNew ({ U with vm := s.vm } : State) [] (0 + 1) (0 + 6) := ⟨e1, e2⟩
    have h3 := X.same.trans h2
    rw [List.append_nil] at h3
    exact h3.mono hc hs
  refine ⟨U, ?_, .threw T.heap.size, hrun, hend, Or.inr ⟨T.heap.size, rfl, cls, ce, locs, hx U hWs.alike (by omega) (fun q hq => f2 q hq (fun z hz => nomatch hz)), hce, hO.vm, hcl, hWs, hall, hf⟩⟩
  refine st1 _ ?_
  show Steps p.tables e below (T1.setTop { method := m, pc := pc + 3, locals := ls, stack := .ref T.heap.size :: rest, locked := none }) _
  jvm_step X₁.here [X₁.here.top, hexec, d3', Value.category]
  exact X₁.ldcStringW hexec (own := own) (text := text) (index := is) (a := sa) hown' hstr'.1 hstr'.2
    (g := { method := m, pc := pc + 4, locals := ls, stack := .ref T.heap.size :: .ref T.heap.size :: rest, locked := none }) rfl d4' _ hsteps
end KTHROW
