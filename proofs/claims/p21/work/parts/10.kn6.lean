/-! ===== the world of a method, contracts, calls ===== -/
/-- what is known at a method's entry of all that was there before the law began; sn: the static fields; strs: the texts of exceptions; ncs: classes that aren't castable -/
def kWd (D : va_G) (dA : Nat → ClassId) (ext : Nat → Nat) (base : Nat) (xm : Nat → Option kE) (sm : Nat → Option Value) (sn : Nat → String × String × String) (strs : List (String × Nat × String)) (ncs : List (String × String)) (U : State) : Prop :=
  (∀ r, r < 1000 → r ≠ 2 → ext r < base) ∧ base ≤ U.heap.size ∧ va_K D vwCl (kTys dA) U ∧ kXs ext base xm U U.heap ∧ (∀ k v, sm k = some v → va_Z (sn k).1 (sn k).2.1 (sn k).2.2 (kV (kAd ext base) v) (fun q => base ≤ q) U U.heap) ∧ va_Mi "[Ljava/lang/Object;" (ext 2) U ∧
  (∀ r xs, r < 1000 → xm r = some (.inr (.inr (2, xs))) → va_O "[Ljava/lang/Object;" (kAd ext base r) (fun q => base ≤ q) U U.heap) ∧
  vx_Zq Bundle.tN "UNASSIGNED_STACK" Bundle.steD (fun q => base ≤ q) U U.heap ∧ vx_Zq Bundle.tN "SUPPRESSED_SENTINEL" Bundle.listD (fun q => base ≤ q) U U.heap ∧
  (∀ q ∈ strs, ∃ sa, vk_R q.1 q.2.1 q.2.2 sa U) ∧ ∀ q ∈ ncs, va_Nc q.1 q.2 U
section KW
variable {D : va_G} {dA : Nat → ClassId} {ext : Nat → Nat} {base : Nat} {xm : Nat → Option kE} {sm : Nat → Option Value} {sn : Nat → String × String × String} {strs : List (String × Nat × String)} {ncs : List (String × String)}
theorem kXat_to {ad : Nat → Nat} {A : Nat → Prop} {u U : State} {a : Nat} {e : kE} {H H1 : Heap} (hvm : u.vm.Alike U.vm) (hq : ∀ a : Nat, a < H.size → ¬ A a → H1[a]? = H[a]?) (h : kXat ad A u a e H) : kXat ad A U a e H1 := by
  rcases e with ⟨ci, fs⟩ | ⟨t, xs⟩ | ⟨t, xs⟩
  · obtain ⟨C, T, N, h1, h2, h3⟩ := h
    exact ⟨C, T, N, h1, (va_O.moved hvm h2).kept hq, fun k v hk => (va_OF.moved hvm (h3 k v hk)).kept hq⟩
  · exact (va_T.moved hvm h).kept hq
  · exact (va_T.moved hvm h).kept hq
theorem kWd_to {s U : State} (hW : s.WarmedH U.vm) (hz : s.heap.size ≤ U.heap.size) (hq : ∀ a : Nat, a < s.heap.size → ¬ base ≤ a → U.heap[a]? = s.heap[a]?) (h : kWd D dA ext base xm sm sn strs ncs s) : kWd D dA ext base xm sm sn strs ncs U := by
  obtain ⟨h0, h1, h2, h3, h4, h5, h6, h7, h8, h9, h10⟩ := h
  have hvm := hW.alike
  exact ⟨h0, Nat.le_trans h1 hz, va_K.moved hvm h2, fun r e hr hx => kXat_to hvm hq (h3 r e hr hx), fun k v hk => (va_Z.moved hvm (h4 k v hk)).kept hq, va_Mi.moved hvm h5, fun r xs hr hx => (va_O.moved hvm (h6 r xs hr hx)).kept hq, (vx_Zq.moved hvm h7).kept hq, (vx_Zq.moved hvm h8).kept hq,
    fun q hq' => by
      obtain ⟨sa, hs⟩ := h9 q hq'
      exact ⟨sa, vk_R.warm hW hs⟩, fun q hq' => va_Nc.moved hvm (h10 q hq')⟩
def kPc (D : va_G) (dA : Nat → ClassId) (ext : Nat → Nat) (base : Nat) (xm : Nat → Option kE) (sm : Nat → Option Value) (sn : Nat → String × String × String) (strs : List (String × Nat × String)) (ncs : List (String × String)) (av : List Value) (mem : kM) : Array Value → State → Prop := fun v U =>
  v = (av.map (kV (kAd ext base))).toArray ∧ kRM D dA ext base xm mem U.heap ∧ kWd D dA ext base xm sm sn strs ncs U
def kQc (D : va_G) (dA : Nat → ClassId) (ext : Nat → Nat) (base : Nat) (xm : Nat → Option kE) (v : Option Value) (mem1 : kM) : Array Value → State → Outcome → State → Prop := fun _ st o t =>
  o = .returned (v.map (kV (kAd ext base))) ∧ kRM D dA ext base xm mem1 t.heap ∧ va_F (fun q => base ≤ q) st t
def kXC (D : va_G) (dA : Nat → ClassId) (ext : Nat → Nat) (base : Nat) (xm : Nat → Option kE) (E : String) (mem1 : kM) : String → State → State → Prop := fun E' st t =>
  E' = E ∧ kRM D dA ext base xm mem1 t.heap ∧ va_F (fun q => base ≤ q) st t
theorem kPc_blind {av : List Value} {mem : kM} : FrameBlind (kPc D dA ext base xm sm sn strs ncs av mem) := by
  intro a U g mk h
  exact ⟨h.1, h.2.1, kWd_to (State.WarmedH.refl U) (Nat.le_refl _) (fun _ _ _ => rfl) h.2.2⟩
theorem kPay {args : Array Value} {s : State} {hd : Jvm.Cond} (hgood : ∀ w ∈ kTbl, kGw w = true) (hin : hd ∈ kTbl) (hts : ∀ w ∈ kTbl, w.before args s = true) : ∀ w ∈ hd :: kTbl, ∀ (a' : Array Value) (U : State), s.WarmedH U.vm → w.before a' U = true := by
  intro w hw a' U hW
  have hw' : w ∈ kTbl := by
    rcases List.mem_cons.mp hw with rfl | h
    · exact hin
    · exact h
  exact kGw_ok (hgood w hw') hW (hts w hw')
end KW
section KCALL
variable {p : Program} {l : Launch} {e : Env} {R : Room} {s : State} {m : MethodId} {args : Array Value} {below : List Frame} {meth : Method} {c : Code} {Q : State → Prop} {D : va_G} {dA : Nat → ClassId} {ext : Nat → Nat} {base : Nat} {xm : Nat → Option kE} {nL n0 z0 : Nat}
variable {sm : Nat → Option Value} {sn : Nat → String × String × String} {strs : List (String × Nat × String)} {ncs : List (String × String)}
variable {cc : ByteArray} {pc pc' : Nat} {lv lv' : kL} {st st' : List Value} {mem mem1 : kM} {a b : Nat}
theorem kSum_map (ad : Nat → Nat) (st : List Value) : ((st.map (kV ad)).map fun v => v.category).sum = (st.map fun v => v.category).sum := by rw [List.map_map]; congr 1; apply List.map_congr_left; intro v _; exact kV_cat _ v
theorem kS_join {H H1 : Heap} {locs L : List Loc} {st0 t : State} (hS : va_S (fun q => base ≤ q) s.heap H locs) (h0 : st0.heap = H) (hF : va_F (fun q => base ≤ q) st0 t) (e1 : H1 = t.heap) (hL : ∀ q ∈ L, base ≤ q.base) : va_S (fun q => base ≤ q) s.heap H1 (locs ++ L) := by
  obtain ⟨hz, hk⟩ := hF
  rw [h0] at hz hk
  subst e1
  exact ⟨Nat.le_trans hS.1 hz, fun q h1 h2 => (hk q (Nat.lt_of_lt_of_le h1 hS.1) h2).trans (hS.2.1 q h1 h2), fun q hq => by
    rcases List.mem_append.mp hq with h | h
    · exact hS.2.2 q h
    · exact hL q h⟩
/-- behind a call that returned -/
theorem ks_back {v : Option Value} {rest : List Value} {av : Array Value} (hle : mem.length ≤ mem1.length ∧ kSl mem ≤ kSl mem1)
    (hr : ∀ (H : Heap) (locs : List Loc) (cells slots : Nat) (ls : Array Slot), kRM D dA ext base xm mem H → va_S (fun q => base ≤ q) s.heap H locs → lv_has ls nL (kTl (kAd ext base) lv) → n0 + cells = mem.length → z0 + slots = kSl mem →
      va_Run p l e R s m args below meth c H locs cells slots (mem1.length - mem.length) (kSl mem1 - kSl mem) (F0 m pc ls (st.map (kV (kAd ext base)))) (rest.map (kV (kAd ext base))) (kQc D dA ext base xm v mem1 av) (fun q => base ≤ q))
    (k : kA p l e R s m args below meth c Q D dA ext base xm nL n0 z0 (pc + 3) lv (v.toList ++ rest) mem1) : kA p l e R s m args below meth c Q D dA ext base xm nL n0 z0 pc lv st mem := by
  intro H locs cells slots ls hRM hS hl hc hz T hT X
  obtain ⟨v', st₀, t, T', L, h0, X', hL, e1, e2, ⟨ho, hRM1, hF⟩, stp⟩ := hr H locs cells slots ls hRM hS hl hc hz T hT X
  have hv : v' = v.map (kV (kAd ext base)) := by simpa using ho
  subst hv
  obtain ⟨t2, a1, b1⟩ := k T'.heap (locs ++ L) _ _ ls (by rw [e1]; exact hRM1) (kS_join hS h0 hF e1 hL) hl (by omega) (by omega) T' rfl X'
  refine ⟨t2, stp t2 ?_, b1⟩
  have e3 : (v.toList ++ rest).map (kV (kAd ext base)) = (v.map (kV (kAd ext base))).toList ++ rest.map (kV (kAd ext base)) := by cases v <;> simp
  rw [e3] at a1
  exact a1
theorem ks_back5 {v : Option Value} {rest : List Value} {av : Array Value} (hle : mem.length ≤ mem1.length ∧ kSl mem ≤ kSl mem1)
    (hr : ∀ (H : Heap) (locs : List Loc) (cells slots : Nat) (ls : Array Slot), kRM D dA ext base xm mem H → va_S (fun q => base ≤ q) s.heap H locs → lv_has ls nL (kTl (kAd ext base) lv) → n0 + cells = mem.length → z0 + slots = kSl mem →
      va_Run5 p l e R s m args below meth c H locs cells slots (mem1.length - mem.length) (kSl mem1 - kSl mem) (F0 m pc ls (st.map (kV (kAd ext base)))) (rest.map (kV (kAd ext base))) (kQc D dA ext base xm v mem1 av) (fun q => base ≤ q))
    (k : kA p l e R s m args below meth c Q D dA ext base xm nL n0 z0 (pc + 5) lv (v.toList ++ rest) mem1) : kA p l e R s m args below meth c Q D dA ext base xm nL n0 z0 pc lv st mem := by
  intro H locs cells slots ls hRM hS hl hc hz T hT X
  obtain ⟨v', st₀, t, T', L, h0, X', hL, e1, e2, ⟨ho, hRM1, hF⟩, stp⟩ := hr H locs cells slots ls hRM hS hl hc hz T hT X
  have hv : v' = v.map (kV (kAd ext base)) := by simpa using ho
  subst hv
  obtain ⟨t2, a1, b1⟩ := k T'.heap (locs ++ L) _ _ ls (by rw [e1]; exact hRM1) (kS_join hS h0 hF e1 hL) hl (by omega) (by omega) T' rfl X'
  refine ⟨t2, stp t2 ?_, b1⟩
  have e3 : (v.toList ++ rest).map (kV (kAd ext base)) = (v.map (kV (kAd ext base))).toList ++ rest.map (kV (kAd ext base)) := by cases v <;> simp
  rw [e3] at a1
  exact a1
theorem kPreS {H : Heap} {locs : List Loc} {As : List Value} (hWd : kWd D dA ext base xm sm sn strs ncs s) (hRM : kRM D dA ext base xm mem H) (hS : va_S (fun q => base ≤ q) s.heap H locs) : PreS s H (kPc D dA ext base xm sm sn strs ncs As mem) (As.map (kV (kAd ext base))) :=
  ⟨kPc_blind, fun U hU hW => ⟨rfl, by rw [hU]; exact hRM, kWd_to hW (by rw [hU]; exact hS.1) (by rw [hU]; exact hS.2.1) hWd⟩⟩
/-- the receiver -/
theorem kRecv {H : Heap} {locs : List Loc} {C : String} {T : u_T} {N ci r : Nat} {fs : List Value} (hWd : kWd D dA ext base xm sm sn strs ncs s) (hRM : kRM D dA ext base xm mem H) (hS : va_S (fun q => base ≤ q) s.heap H locs) (hci : ci < 1000) (hc : vwCl[ci]? = some (C, T, N)) (hk : kLook xm mem r = some (.inl (ci, fs))) :
    ∃ cell : Cell, H[kAd ext base r]? = some cell ∧ cell.vm.isStatics = false ∧ s.vm.findClass C = some cell.cls := by
  obtain ⟨h0, h1, hK, hX, -⟩ := hWd
  by_cases hr : r < 1000
  · obtain ⟨C', T', N', hc', ⟨cell, g1, g2, g3, g4⟩, -⟩ := hX r _ hr (kLook_old hr hk)
    rw [hc] at hc'
    cases hc'
    have hlt : kAd ext base r < s.heap.size := (Array.getElem?_eq_some_iff.mp g1).1
    exact ⟨cell, by rw [hS.2.1 _ hlt g4]; exact g1, g2, g3⟩
  · have hP := kRM_one hRM (by omega) hk (by simp [kJunk]; exact hci)
    exact va_recv (q0 := 0) (fs := fs.map (kV (kAd ext base))) hK hP hc rfl
theorem kPreV {H : Heap} {locs : List Loc} {C : String} {T : u_T} {N ci r : Nat} {fs As : List Value} (hWd : kWd D dA ext base xm sm sn strs ncs s) (hRM : kRM D dA ext base xm mem H) (hS : va_S (fun q => base ≤ q) s.heap H locs) (hci : ci < 1000) (hc : vwCl[ci]? = some (C, T, N)) (hk : kLook xm mem r = some (.inl (ci, fs))) :
    PreV s H C (kAd ext base r) (kPc D dA ext base xm sm sn strs ncs (.ref r :: As) mem) (As.map (kV (kAd ext base))) :=
  ⟨kPc_blind, kRecv hWd hRM hS hci hc hk, fun U hU hW => ⟨rfl, by rw [hU]; exact hRM, kWd_to hW (by rw [hU]; exact hS.1) (by rw [hU]; exact hS.2.1) hWd⟩⟩
/-- what every call needs of its callee and of the room -/
def kCalB (R : Room) (y : MethodName) (bytes : ByteArray) (nC : Nat) (ret : Option FieldType) (hd : Jvm.Cond) (rm : Room) (n mc ms : Nat) : Prop :=
  hd ∈ kTbl ∧ hd = .code y bytes nC ret ∧ Jvm.Cond.initialized y.cls ∈ kTbl ∧ (y.cls ≠ "java/lang/invoke/MethodHandle" ∧ y.cls ≠ "java/lang/invoke/VarHandle") ∧ (parseMethodDescriptor y.desc).map (fun d => d.parameters.length) = some n ∧
  rm.cells = mc ∧ rm.slots = ms ∧ rm.frames + 1 ≤ R.frames ∧ 8 + (nC + 11) + rm.locals ≤ R.locals
theorem kCalB_len {y : MethodName} {n : Nat} (h : (parseMethodDescriptor y.desc).map (fun d => d.parameters.length) = some n) : ∀ sig, parseMethodDescriptor y.desc = some sig → n = sig.parameters.length := by
  intro sig hs
  rw [hs] at h
  exact (Option.some.inj h).symm
variable {own : String} {index : Nat} {y : MethodName} {bytes : ByteArray} {nC n : Nat} {ret : Option FieldType} {hd : Jvm.Cond} {rm : Room} {v : Option Value} {As rest : List Value}
theorem ks_callS (hx : p.tables.exec = Jvm.exec) (hb : c.code = cc) (hml : c.maxLocals = nL) (hown : s.vm.findClass own = some m.cls) (hts : ∀ w ∈ kTbl, w.before args s = true) (hgood : ∀ w ∈ kTbl, kGw w = true) (hWd : kWd D dA ext base xm sm sn strs ncs s)
    (hM : Met l y (hd :: kTbl) rm (kPc D dA ext base xm sm sn strs ncs As mem) (kQc D dA ext base xm v mem1) (mem1.length - mem.length) (kSl mem1 - kSl mem) (fun q => base ≤ q))
    (hB : kCalB R y bytes nC ret hd rm n (mem1.length - mem.length) (kSl mem1 - kSl mem)) (hlink : Jvm.Cond.methodLink own index y ∈ kTbl ∨ ∃ host, Jvm.Cond.methodLinkNest own index y host ∈ kTbl) (hst : Jvm.Cond.static y ∈ kTbl) (hn : As.length = n) (hdg : decode cc pc = .ok (.invokestatic index, 3))
    (hle : mem.length ≤ mem1.length ∧ kSl mem ≤ kSl mem1) (hroom : mem1.length ≤ n0 + R.cells ∧ kSl mem1 ≤ z0 + R.slots) (hrest : (rest.map fun v => v.category).sum ≤ 8) (k : kA p l e R s m args below meth c Q D dA ext base xm nL n0 z0 (pc + 3) lv (v.toList ++ rest) mem1) : kA p l e R s m args below meth c Q D dA ext base xm nL n0 z0 pc lv (As.reverse ++ rest) mem := by
  obtain ⟨hin, rfl, hini, hy, hln, hrc, hrs, hfr, hlo⟩ := hB
  refine ks_back (rest := rest) (av := (As.map (kV (kAd ext base))).toArray) hle (fun H locs cells slots ls hRM hS hl hc hz => ?_) k
  have e0 : (As.reverse ++ rest).map (kV (kAd ext base)) = (As.map (kV (kAd ext base))).reverse ++ rest.map (kV (kAd ext base)) := by simp
  have hsm : 2 * (F0 m pc ls ((As.reverse ++ rest).map (kV (kAd ext base)))).monitorRoom + ((rest.map (kV (kAd ext base))).map fun v => v.category).sum ≤ 8 := by rw [kSum_map]; show 2 * 0 + _ ≤ 8; omega
  rcases hlink with hlink | ⟨host, hlink⟩
  · exact va_runS (Ts := kTbl) (As := As.map (kV (kAd ext base))) ⟨hx, hb, hml, hown, hts⟩ hM ⟨⟨hrc, hrs, hfr, hlo, kPay hgood hin hts, List.mem_cons_self, hts _ hin, hts _ hini, hy, kCalB_len hln, hts _ hlink⟩, hts _ hst⟩ (kPreS hWd hRM hS) rfl (by rw [List.length_map]; exact hn) hl.1 e0 hsm hdg ⟨by omega, by omega⟩
  · exact va_runSN (Ts := kTbl) (As := As.map (kV (kAd ext base))) (host := host) ⟨hx, hb, hml, hown, hts⟩ hM ⟨⟨⟨hrc, hrs, hfr, hlo, kPay hgood hin hts, List.mem_cons_self⟩, hts _ hin, hts _ hini, hy, kCalB_len hln, hts _ hlink⟩, hts _ hst, trivial⟩ (kPreS hWd hRM hS) rfl (by rw [List.length_map]; exact hn) hl.1 e0 hsm hdg ⟨by omega, by omega⟩
theorem ks_callI {r : Nat} (hx : p.tables.exec = Jvm.exec) (hb : c.code = cc) (hml : c.maxLocals = nL) (hown : s.vm.findClass own = some m.cls) (hts : ∀ w ∈ kTbl, w.before args s = true) (hgood : ∀ w ∈ kTbl, kGw w = true) (hWd : kWd D dA ext base xm sm sn strs ncs s)
    (hM : Met l y (hd :: kTbl) rm (kPc D dA ext base xm sm sn strs ncs (.ref r :: As) mem) (kQc D dA ext base xm v mem1) (mem1.length - mem.length) (kSl mem1 - kSl mem) (fun q => base ≤ q))
    (hB : kCalB R y bytes nC none hd rm n (mem1.length - mem.length) (kSl mem1 - kSl mem)) (hlink : Jvm.Cond.methodLink own index y ∈ kTbl ∨ ∃ host, Jvm.Cond.methodLinkNest own index y host ∈ kTbl) (hst : Jvm.Cond.instanceMethod y ∈ kTbl) (hnm : y.name = "<init>") (hn : As.length = n) (hdg : decode cc pc = .ok (.invokespecial index, 3))
    (hle : mem.length ≤ mem1.length ∧ kSl mem ≤ kSl mem1) (hroom : mem1.length ≤ n0 + R.cells ∧ kSl mem1 ≤ z0 + R.slots) (hrest : (rest.map fun v => v.category).sum ≤ 8) (k : kA p l e R s m args below meth c Q D dA ext base xm nL n0 z0 (pc + 3) lv (v.toList ++ rest) mem1) : kA p l e R s m args below meth c Q D dA ext base xm nL n0 z0 pc lv (As.reverse ++ .ref r :: rest) mem := by
  obtain ⟨hin, rfl, hini, hy, hln, hrc, hrs, hfr, hlo⟩ := hB
  refine ks_back (rest := rest) (av := ((Value.ref r :: As).map (kV (kAd ext base))).toArray) hle (fun H locs cells slots ls hRM hS hl hc hz => ?_) k
  have e0 : (As.reverse ++ .ref r :: rest).map (kV (kAd ext base)) = (As.map (kV (kAd ext base))).reverse ++ .ref (kAd ext base r) :: rest.map (kV (kAd ext base)) := by simp [kV]
  have hsm : 2 * (F0 m pc ls ((As.reverse ++ .ref r :: rest).map (kV (kAd ext base)))).monitorRoom + ((rest.map (kV (kAd ext base))).map fun v => v.category).sum ≤ 8 := by rw [kSum_map]; show 2 * 0 + _ ≤ 8; omega
  rcases hlink with hlink | ⟨host, hlink⟩
  · exact va_runI (Ts := kTbl) (As := As.map (kV (kAd ext base))) ⟨hx, hb, hml, hown, hts⟩ hM ⟨⟨hrc, hrs, hfr, hlo, kPay hgood hin hts, List.mem_cons_self, hts _ hin, hts _ hini, hy, kCalB_len hln, hts _ hlink⟩, hnm, hts _ hst⟩ (kPreS (As := .ref r :: As) hWd hRM hS) rfl (by rw [List.length_map]; exact hn) hl.1 e0 hsm hdg ⟨by omega, by omega⟩
  · exact va_runIN (Ts := kTbl) (As := As.map (kV (kAd ext base))) (host := host) ⟨hx, hb, hml, hown, hts⟩ hM ⟨⟨⟨hrc, hrs, hfr, hlo, kPay hgood hin hts, List.mem_cons_self⟩, hts _ hin, hts _ hini, hy, kCalB_len hln, hts _ hlink⟩, hnm, hts _ hst⟩ (kPreS (As := .ref r :: As) hWd hRM hS) rfl (by rw [List.length_map]; exact hn) hl.1 e0 hsm hdg ⟨by omega, by omega⟩
theorem ks_callV {r ci N : Nat} {C : String} {T : u_T} {fs : List Value} (hx : p.tables.exec = Jvm.exec) (hb : c.code = cc) (hml : c.maxLocals = nL) (hown : s.vm.findClass own = some m.cls) (hts : ∀ w ∈ kTbl, w.before args s = true) (hgood : ∀ w ∈ kTbl, kGw w = true) (hWd : kWd D dA ext base xm sm sn strs ncs s)
    (hM : Met l y (hd :: kTbl) rm (kPc D dA ext base xm sm sn strs ncs (.ref r :: As) mem) (kQc D dA ext base xm v mem1) (mem1.length - mem.length) (kSl mem1 - kSl mem) (fun q => base ≤ q))
    (hB : kCalB R y bytes nC ret hd rm n (mem1.length - mem.length) (kSl mem1 - kSl mem)) (hlink : Jvm.Cond.methodLink own index y ∈ kTbl) (hst : Jvm.Cond.instanceMethod y ∈ kTbl) (hsel : Jvm.Cond.selects C y y ∈ kTbl) (hci : ci < 1000) (hcl : vwCl[ci]? = some (C, T, N)) (hk : kLook xm mem r = some (.inl (ci, fs))) (hn : As.length = n) (hdg : decode cc pc = .ok (.invokevirtual index, 3))
    (hle : mem.length ≤ mem1.length ∧ kSl mem ≤ kSl mem1) (hroom : mem1.length ≤ n0 + R.cells ∧ kSl mem1 ≤ z0 + R.slots) (hrest : (rest.map fun v => v.category).sum ≤ 8) (k : kA p l e R s m args below meth c Q D dA ext base xm nL n0 z0 (pc + 3) lv (v.toList ++ rest) mem1) : kA p l e R s m args below meth c Q D dA ext base xm nL n0 z0 pc lv (As.reverse ++ .ref r :: rest) mem := by
  obtain ⟨hin, rfl, hini, hy, hln, hrc, hrs, hfr, hlo⟩ := hB
  refine ks_back (rest := rest) (av := (Value.ref (kAd ext base r) :: As.map (kV (kAd ext base))).toArray) hle (fun H locs cells slots ls hRM hS hl hc hz => ?_) k
  have e0 : (As.reverse ++ .ref r :: rest).map (kV (kAd ext base)) = (As.map (kV (kAd ext base))).reverse ++ .ref (kAd ext base r) :: rest.map (kV (kAd ext base)) := by simp [kV]
  have hsm : 2 * (F0 m pc ls ((As.reverse ++ .ref r :: rest).map (kV (kAd ext base)))).monitorRoom + ((rest.map (kV (kAd ext base))).map fun v => v.category).sum ≤ 8 := by rw [kSum_map]; show 2 * 0 + _ ≤ 8; omega
  exact va_runV (Ts := kTbl) (As := As.map (kV (kAd ext base))) (C := C) ⟨hx, hb, hml, hown, hts⟩ hM ⟨⟨hrc, hrs, hfr, hlo, kPay hgood hin hts, List.mem_cons_self, hts _ hin, hts _ hini, hy, kCalB_len hln, hts _ hlink⟩, hts _ hst, hts _ hsel⟩ (kPreV hWd hRM hS hci hcl hk) rfl (by rw [List.length_map]; exact hn) hl.1 e0 hsm hdg ⟨by omega, by omega⟩
end KCALL
