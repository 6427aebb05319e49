/-! ===== copies, clones, class objects, constants, casts, jumps of other kinds ===== -/
theorem kCpy_len {α : Type} (xs ys : List α) {sp dp n : Nat} (h1 : sp + n ≤ xs.length) (h2 : dp + n ≤ ys.length) : (kCpy xs ys sp dp n).length = ys.length := by
  unfold kCpy
  simp only [List.length_append, List.length_take, List.length_drop]
  omega
theorem kCpy_at {α : Type} (xs ys : List α) {sp dp n : Nat} (h1 : sp + n ≤ xs.length) (h2 : dp + n ≤ ys.length) (j : Nat) : (kCpy xs ys sp dp n)[j]? = if dp ≤ j ∧ j < dp + n then xs[sp + (j - dp)]? else ys[j]? := by
  unfold kCpy
  by_cases h : j < dp
  · rw [List.getElem?_append_left (by simp; omega), List.getElem?_take_of_lt h, if_neg (by omega)]
  · rw [List.getElem?_append_right (by simp; omega)]
    have e1 : (ys.take dp).length = dp := by simp; omega
    rw [e1]
    by_cases h3 : j < dp + n
    · rw [List.getElem?_append_left (by simp; omega), List.getElem?_take_of_lt (by omega), List.getElem?_drop, if_pos ⟨by omega, h3⟩]
    · rw [List.getElem?_append_right (by simp; omega), List.getElem?_drop, if_neg (by omega)]
      have e2 : ((xs.drop sp).take n).length = n := by simp; omega
      rw [e2]
      congr 1
      omega
theorem kOkR_ok {sp dp n : Int32} {l0 l1 : Nat} (h : kOkR sp dp n l0 l1 = true) : ¬ sp < 0 ∧ ¬ dp < 0 ∧ ¬ n < 0 ∧ sp.toNatClampNeg + n.toNatClampNeg ≤ l0 ∧ dp.toNatClampNeg + n.toNatClampNeg ≤ l1 := by
  unfold kOkR at h
  simp only [Bool.and_eq_true, Bool.not_eq_true', decide_eq_false_iff_not, decide_eq_true_eq] at h
  exact ⟨h.1.1.1.1, h.1.1.1.2, h.1.1.2, h.1.2, h.2⟩
theorem kClamp {z : Int32} (hz : ¬ z < 0) : z.toInt = (z.toNatClampNeg : Int) := by
  have hz0 : (0 : Int) ≤ z.toInt := by
    have := Int32.not_lt.mp hz
    simpa using Int32.le_iff_toInt_le.mp this
  show z.toInt = ((z.toInt.toNat : Nat) : Int)
  omega
section KROWS
variable {p : Program} {l : Launch} {e : Env} {R : Room} {s : State} {m : MethodId} {args : Array Value} {below : List Frame} {meth : Method} {c : Code} {Q : State → Prop} {D : va_G} {dA : Nat → ClassId} {ext : Nat → Nat} {base : Nat} {xm : Nat → Option kE} {nL n0 z0 : Nat}
variable {cc : ByteArray} {pc pc' : Nat} {lv lv' : kL} {st st' : List Value} {mem mem' : kM} {a b : Nat} {fty : Nat → Nat → FieldType} {H : Heap} {locs : List Loc}
theorem ks_copyI {own : String} {index t src dst : Nat} {sp dp n : Int32} {xs ys : List Int32} (hx : p.tables.exec = Jvm.exec) (hb : c.code = cc) (hml : c.maxLocals = nL) (hdg : decode cc pc = .ok (.invokestatic index, 3)) (hown : s.vm.findClass own = some m.cls)
    (hlink : (Cond.methodLink own index arraycopyName).before args s = true) (hnat : (Cond.native arraycopyName).before args s = true) (hstat : (Cond.static arraycopyName).before args s = true) (hini : (Cond.initialized "java/lang/System").before args s = true)
    (hK : va_K D vwCl (kTys dA) s) (ht : t = 0 ∨ t = 1) (hs : kLook xm mem src = some (.inr (.inl (t, xs)))) (hd : kLook xm mem dst = some (.inr (.inl (t, ys)))) (hs1 : 1000 ≤ src) (hd1 : 1000 ≤ dst) (hR : kOkR sp dp n xs.length ys.length = true)
    (hfit : t = 1 → ((xs.drop sp.toNatClampNeg).take n.toNatClampNeg).all (fun x => fits .byte (.int x)) = true) (hfr : 1 ≤ R.frames) (hlo : 300 ≤ R.locals) (hrest : (st.map fun v => v.category).sum ≤ 100)
    (k : kA p l e R s m args below meth c Q D dA ext base xm nL n0 z0 (pc + 3) lv st (mem.set (dst - 1000) (.inr (.inl (t, kCpy xs ys sp.toNatClampNeg dp.toNatClampNeg n.toNatClampNeg))))) : kA p l e R s m args below meth c Q D dA ext base xm nL n0 z0 pc lv (.int n :: .int dp :: .ref dst :: .int sp :: .ref src :: st) mem := by
  intro H locs cells slots ls hRM hS hl hc hz
  obtain ⟨h1, h2, h3, h4, h5⟩ := kOkR_ok hR
  obtain ⟨hm0, hmlen, hra⟩ := kLook_new (ext := ext) (base := base) hd1 hd
  intro T hT X
  have hc0 : H[kAd ext base src]? = some (vp_cell (dA t) (xs.length, .inl (fun j => xs.getD j 0))) := kRM_at hRM hs1 hs rfl
  have hc1 : H[kAd ext base dst]? = some (vp_cell (dA t) (ys.length, .inl (fun j => ys.getD j 0))) := kRM_at hRM hd1 hd rfl
  obtain ⟨ty, hty, hprim, hty2⟩ : ∃ ty, (kTys dA)[t]? = some (dA t, ty) ∧ refKind ty = false ∧ (ty = .int ∨ (t = 1 ∧ ty = .byte)) := by
    rcases ht with rfl | rfl
    · exact ⟨_, rfl, rfl, Or.inl rfl⟩
    · exact ⟨_, rfl, rfl, Or.inr ⟨rfl, rfl⟩⟩
  obtain ⟨-, k0, hk0, cm0, hkk0⟩ := (hK.2 t _ hty).1 xs.length (fun j => .int (xs.getD j 0))
  obtain ⟨vm', X', step⟩ := X.arraycopy hx hown hlink hnat hstat hini (src := kAd ext base src) (dst := kAd ext base dst) (cs := vp_cell (dA t) (xs.length, .inl (fun j => xs.getD j 0))) (cd := vp_cell (dA t) (ys.length, .inl (fun j => ys.getD j 0))) (srcPos := sp) (destPos := dp) (n := n) (by rw [hT]; exact hc0) (by rw [hT]; exact hc1)
    (fun _ h => by cases h) (fun _ h => by cases h) (fun h => by cases h) (fun h => by cases h) hk0 hk0 hkk0 hkk0 (by simp [hprim]) h1 h2 h3
    (by rw [kClamp h1, kClamp h3]; show ¬ _ > ((arrV _ _ (fun j => .int (xs.getD j 0))).slots.size : Int); rw [arrV_size]; omega)
    (by rw [kClamp h2, kClamp h3]; show ¬ _ > ((arrV _ _ (fun j => .int (ys.getD j 0))).slots.size : Int); rw [arrV_size]; omega)
    (fun vm₁ _ i hi => by
      have e : (vp_cell (dA t) (xs.length, .inl (fun j => xs.getD j 0))).slots.getD (sp.toNatClampNeg + i) .null = .int (xs.getD (sp.toNatClampNeg + i) 0) := by
        show (arrV _ _ (fun j => .int (xs.getD j 0))).slots.getD _ _ = _
        rw [Array.getD_eq_getD_getElem?, arrV_read _ _ (by omega)]
        rfl
      refine ⟨?_, ?_⟩
      · rw [e]
        rcases hty2 with rfl | ⟨h1, rfl⟩
        · rfl
        · have hf := List.all_eq_true.mp (hfit h1) (xs.getD (sp.toNatClampNeg + i) 0) (by
            rw [List.mem_iff_getElem?]
            refine ⟨i, ?_⟩
            rw [List.getElem?_take_of_lt hi, List.getElem?_drop, List.getD_eq_getElem?_getD, List.getElem?_eq_getElem (by omega)]
            rfl)
          exact hf
      · rw [e]
        exact trivial)
    (g := F0 m pc ls (.int n :: .int dp :: .ref (kAd ext base dst) :: .int sp :: .ref (kAd ext base src) :: st.map (kV (kAd ext base)))) rfl (by rw [hml]; exact hl.1) (rest := st.map (kV (kAd ext base))) rfl (by rw [hb]; exact hdg) hfr (by
      have hw : nativeFrameWords "java/lang/System" "arraycopy" 5 + 11 ≤ 100 := by decide +kernel
      have hr : (((st.map (kV (kAd ext base))).map fun v => v.category).sum) = (st.map fun v => v.category).sum := by rw [List.map_map]; congr 1; apply List.map_congr_left; intro v _; exact kV_cat _ v
      show 2 * 0 + _ + _ ≤ _
      rw [hr]
      omega)
  have e1 : copied (vp_cell (dA t) (xs.length, .inl (fun j => xs.getD j 0))) (vp_cell (dA t) (ys.length, .inl (fun j => ys.getD j 0))) sp dp n = vp_cell (dA t) (ys.length, .inl (fun j => (kCpy xs ys sp.toNatClampNeg dp.toNatClampNeg n.toNatClampNeg).getD j 0)) := by
    refine (va_copied (fun z => .int z) (dA t) (dA t) (fun j => xs.getD j 0) (fun j => ys.getD j 0) h4).trans ?_
    rw [vp_cell_i]
    congr 1
    funext j
    congr 1
    unfold va_cpy
    simp only [List.getD_eq_getElem?_getD]
    rw [kCpy_at xs ys h4 h5]
    split <;> rfl
  rw [e1] at X' step
  have hlt : kAd ext base dst < H.size := (Array.getElem?_eq_some_iff.mp hc1).1
  generalize hCell : vp_cell (dA t) (ys.length, .inl (fun j => (kCpy xs ys sp.toNatClampNeg dp.toNatClampNeg n.toNatClampNeg).getD j 0)) = cellN at X' step
  have hheap : ((T.setVm vm').setCell (kAd ext base dst) cellN).heap = H.setIfInBounds (kAd ext base dst) cellN := by rw [← hT]; rfl
  have oq : ∀ q : Nat, q ≠ kAd ext base dst → (H.setIfInBounds (kAd ext base dst) cellN)[q]? = H[q]? := fun q hq => by simp [Array.getElem?_setIfInBounds, Ne.symm hq]
  have hself : (H.setIfInBounds (kAd ext base dst) cellN)[kAd ext base dst]? = some cellN := by simp [Array.getElem?_setIfInBounds, hlt]
  have hzz : (H.setIfInBounds (kAd ext base dst) cellN).size = H.size := by simp
  obtain ⟨t2, a1, b1⟩ := k (H.setIfInBounds (kAd ext base dst) cellN) _ cells slots ls (kRM_set hRM hmlen hzz (by rw [← hra]; exact oq) fun _ => by
      rw [← hra]
      show (H.setIfInBounds (kAd ext base dst) cellN)[kAd ext base dst]? = some (vp_cell _ _)
      rw [hself, ← hCell, kCpy_len xs ys h4 h5]) ⟨by rw [hzz]; exact hS.1, fun q g1 g2 => by
        rw [oq q (fun e => g2 (by rw [e, hra]; show base ≤ _; omega))]
        exact hS.2.1 q g1 g2, fun q hq => by
        rcases List.mem_append.mp hq with h | h
        · exact hS.2.2 q h
        · obtain ⟨z, -, hz⟩ := List.mem_map.mp h
          rw [← hz, hra]
          exact Nat.le_add_right base (dst - 1000)⟩ hl (by rw [List.length_set]; exact hc) (by rw [kSl_set mem _ _ _ hm0 (by simp [kSz, kCpy_len xs ys h4 h5])]; exact hz) _ hheap X'
  exact ⟨t2, step t2 a1, b1⟩
theorem ks_clone {own ad : String} {index r t : Nat} {ty : FieldType} {xs : List Int32} (hx : p.tables.exec = Jvm.exec) (hb : c.code = cc) (hml : c.maxLocals = nL) (hdg : decode cc pc = .ok (.invokevirtual index, 3)) (hown : s.vm.findClass own = some m.cls)
    (hlink : (Cond.methodLink own index ⟨ad, "clone", "()Ljava/lang/Object;"⟩).before args s = true) (hsame : (Cond.sameMethod ad "java/lang/Object" "clone" "()Ljava/lang/Object;").before args s = true)
    (hnat : (Cond.native ⟨"java/lang/Object", "clone", "()Ljava/lang/Object;"⟩).before args s = true) (hinst : (Cond.instanceMethod ⟨"java/lang/Object", "clone", "()Ljava/lang/Object;"⟩).before args s = true)
    (hsel : (Cond.selects ad ⟨ad, "clone", "()Ljava/lang/Object;"⟩ ⟨"java/lang/Object", "clone", "()Ljava/lang/Object;"⟩).before args s = true) (hcl : (Cond.castable ad "java/lang/Cloneable").before args s = true)
    (hK : va_K D vwCl (kTys dA) s) (hty : (kTys dA)[t]? = some (dA t, ty)) (hnm : s.vm.findClass ad = some (dA t)) (hfits : ∀ x ∈ xs, fits ty (.int x) = true) (hlk : kLook xm mem r = some (.inr (.inl (t, xs)))) (hr : 1000 ≤ r) (hfr : 1 ≤ R.frames) (hlo : 300 ≤ R.locals) (hrest : (st.map fun v => v.category).sum ≤ 100)
    (hR1 : mem.length + 1 ≤ n0 + R.cells) (hR2 : kSl mem + xs.length ≤ z0 + R.slots) (k : kA p l e R s m args below meth c Q D dA ext base xm nL n0 z0 (pc + 3) lv (.ref (kNew mem) :: st) (mem ++ [.inr (.inl (t, xs))])) : kA p l e R s m args below meth c Q D dA ext base xm nL n0 z0 pc lv (.ref r :: st) mem := by
  intro H locs cells slots ls hRM hS hl hc hz
  obtain ⟨c0, t0', f1, f2, f3⟩ := Cond.castable_spec hcl
  cases hnm.symm.trans f1
  intro T hT X
  have hc0 : H[kAd ext base r]? = some (vp_cell (dA t) (xs.length, .inl (fun j => xs.getD j 0))) := kRM_at hRM hr hlk rfl
  have hcellT : T.heap[kAd ext base r]? = some (vp_cell (dA t) (xs.length, .inl (fun j => xs.getD j 0))) := by rw [hT]; exact hc0
  obtain ⟨-, kA, hkA, comp, hkind⟩ := State.isArrayOf_alike X.warmed.alike ((hK.2 t _ hty).1 0 (fun _ => .null))
  obtain ⟨-, kS, hkS, compS, hkindS⟩ := (hK.2 t _ hty).1 0 (fun _ => .null)
  have hsz : (vp_cell (dA t) (xs.length, .inl (fun j => xs.getD j 0))).slots.size = xs.length := arrV_size _ _ _
  obtain ⟨vm', X', step⟩ := X.cloneArray hx hown hlink hsame hnat hinst hsel (a := kAd ext base r) (cell := vp_cell (dA t) (xs.length, .inl (fun j => xs.getD j 0))) hcellT (fun k h => by cases h) (fun h => by cases h) hnm f2 f3
    (fun i v hv => by
      have hk' : T.vm.classes[dA t]? = some kA := hkA
      have hfit := va_fit (cA := dA t) (n := xs.length) (F := fun j => .int (xs.getD j 0)) (ty := ty) (fun i hi => hfits _ (by rw [List.getD_eq_getElem?_getD, List.getElem?_eq_getElem hi]; exact List.getElem_mem hi)) i v hv
      simpa [State.fitsSlot, State.slotType?, hk', hkind, vp_cell_i, arrV] using hfit)
    (g := F0 m pc ls (.ref (kAd ext base r) :: st.map (kV (kAd ext base)))) rfl (by rw [hml]; exact hl.1) rfl (by rw [hb]; exact hdg) hfr (by
      have hr : (((st.map (kV (kAd ext base))).map fun v => v.category).sum) = (st.map fun v => v.category).sum := by rw [List.map_map]; congr 1; apply List.map_congr_left; intro v _; exact kV_cat _ v
      show 2 * 0 + _ + 14 ≤ _
      rw [hr]
      omega) (by omega) (by rw [hsz]; omega) (hloader := Vm.clonesLoader_of_array hkS hkindS)
  have hcellE : ({ cls := (vp_cell (dA t) (xs.length, .inl (fun j => xs.getD j 0))).cls, slots := (vp_cell (dA t) (xs.length, .inl (fun j => xs.getD j 0))).slots } : Cell) = vp_cell (dA t) (xs.length, .inl (fun j => xs.getD j 0)) := rfl
  rw [hcellE, hsz] at X'
  generalize hH1 : H.push (vp_cell (dA t) (xs.length, .inl (fun j => xs.getD j 0))) = H1
  have z1 : H1.size = H.size + 1 := by rw [← hH1, Array.size_push]
  have e1 : H1[H.size]? = some (vp_cell (dA t) (xs.length, .inl (fun j => xs.getD j 0))) := by rw [← hH1, Array.getElem?_push_size]
  have o1 : ∀ q : Nat, q < H.size → H1[q]? = H[q]? := fun q hq => by rw [← hH1, Array.getElem?_push, if_neg (Nat.ne_of_lt hq)]
  have k1 := k H1 locs (cells + 1) (slots + xs.length) ls (kRM_push hRM z1 o1 fun _ => e1) ⟨Nat.le_trans hS.1 (by omega), fun q h1 h2 => (o1 q (Nat.lt_of_lt_of_le h1 hS.1)).trans (hS.2.1 q h1 h2), hS.2.2⟩ hl (by rw [List.length_append]; simp; omega) (by rw [kSl_app]; simp [kSz]; omega)
  rw [List.map_cons] at k1
  have e2 : kV (kAd ext base) (.ref (kNew mem)) = .ref H.size := by show Value.ref _ = _; rw [kAd_new hRM]
  rw [e2] at k1
  obtain ⟨t2, b1, b2⟩ := k1 ((T.setVm vm').pushCell (vp_cell (dA t) (xs.length, .inl (fun j => xs.getD j 0)))) (by rw [← hH1, ← hT]; rfl) X'
  refine ⟨t2, step t2 ?_, b2⟩
  rw [hcellE, hT]
  exact b1
theorem ks_objInit {own : String} {index r : Nat} (hx : p.tables.exec = Jvm.exec) (hb : c.code = cc) (hml : c.maxLocals = nL) (hdg : decode cc pc = .ok (.invokespecial index, 3)) (hown : s.vm.findClass own = some m.cls)
    (hlink : (Cond.methodLink own index Lib.objectInit).before args s = true) (hinst : (Cond.instanceMethod Lib.objectInit).before args s = true) (hcode : (Cond.code Lib.objectInit ⟨#[0xb1]⟩ 1 none).before args s = true)
    (hfr : 1 ≤ R.frames) (hlo : 300 ≤ R.locals) (hrest : (st.map fun v => v.category).sum ≤ 100) (k : kA p l e R s m args below meth c Q D dA ext base xm nL n0 z0 (pc + 3) lv st mem) : kA p l e R s m args below meth c Q D dA ext base xm nL n0 z0 pc lv (.ref r :: st) mem := by
  intro H locs cells slots ls hRM hS hl hc hz
  refine W.objInit hx hb hown hlink hinst hcode rfl (by rw [hml]; exact hl.1) rfl hdg hfr ?_ (k _ _ _ _ _ hRM hS hl hc hz)
  have hr : (((st.map (kV (kAd ext base))).map fun v => v.category).sum) = (st.map fun v => v.category).sum := by rw [List.map_map]; congr 1; apply List.map_congr_left; intro v _; exact kV_cat _ v
  show 2 * 0 + _ + 12 ≤ _
  rw [hr]
  omega
theorem ks_getC {own : String} {index r : Nat} {xs : List (Option Nat)} (hx : p.tables.exec = Jvm.exec) (hb : c.code = cc) (hml : c.maxLocals = nL) (hdg : decode cc pc = .ok (.invokevirtual index, 3)) (hown : s.vm.findClass own = some m.cls)
    (hlink : (Cond.methodLink own index ⟨"java/lang/Object", "getClass", "()Ljava/lang/Class;"⟩).before args s = true) (hdecl : (Cond.declares ⟨"java/lang/Object", "getClass", "()Ljava/lang/Class;"⟩).before args s = true)
    (hsel : (Cond.selects "[Ljava/lang/Object;" ⟨"java/lang/Object", "getClass", "()Ljava/lang/Class;"⟩ ⟨"java/lang/Object", "getClass", "()Ljava/lang/Class;"⟩).before args s = true) (hinst : (Cond.instanceMethod ⟨"java/lang/Object", "getClass", "()Ljava/lang/Class;"⟩).before args s = true) (hnat : (Cond.native ⟨"java/lang/Object", "getClass", "()Ljava/lang/Class;"⟩).before args s = true)
    (hM : va_Mi "[Ljava/lang/Object;" (ext 2) s) (hK : va_K D vwCl (kTys dA) s) (hlk : kLook xm mem r = some (.inr (.inr (2, xs))))
    (hxo : ∀ r xs, r < 1000 → xm r = some (.inr (.inr (2, xs))) → ∃ cell : Cell, s.heap[kAd ext base r]? = some cell ∧ cell.vm.isStatics = false ∧ s.vm.findClass "[Ljava/lang/Object;" = some cell.cls ∧ kAd ext base r < base)
    (hfr : 1 ≤ R.frames) (hlo : 300 ≤ R.locals) (hrest : (st.map fun v => v.category).sum ≤ 100) (k : kA p l e R s m args below meth c Q D dA ext base xm nL n0 z0 (pc + 3) lv (.ref 2 :: st) mem) : kA p l e R s m args below meth c Q D dA ext base xm nL n0 z0 pc lv (.ref r :: st) mem := by
  intro H locs cells slots ls hRM hS hl hc hz
  have hr : (((st.map (kV (kAd ext base))).map fun v => v.category).sum) = (st.map fun v => v.category).sum := by rw [List.map_map]; congr 1; apply List.map_congr_left; intro v _; exact kV_cat _ v
  refine va_getC hx hb (by rw [hml]; exact hl.1.symm) hown hlink hdecl hsel hinst hnat hM ?_ hfr (by rw [hr]; omega) hdg (k _ _ _ _ _ hRM hS hl hc hz)
  by_cases h : r < 1000
  · obtain ⟨cell, g1, g2, g3, g4⟩ := hxo r xs h (kLook_old h hlk)
    have hlt : kAd ext base r < s.heap.size := (Array.getElem?_eq_some_iff.mp g1).1
    exact ⟨cell, by rw [hS.2.1 _ hlt (by show ¬ base ≤ _; omega)]; exact g1, g2, g3⟩
  · have g1 : H[kAd ext base r]? = some (vp_cell (dA 2) _) := kRM_at hRM (by omega) hlk rfl
    obtain ⟨kA, comp, h1, h2, h3, h4⟩ := (hK.2 2 _ rfl).2
    have e : "[" ++ (FieldType.object "java/lang/Object").toString = "[Ljava/lang/Object;" := by decide +kernel
    rw [e] at h4
    exact ⟨_, g1, rfl, h4⟩
theorem ks_castObj {own C nm : String} {T : u_T} {N index r : Nat} {fs : List Value} (hx : p.tables.exec = Jvm.exec) (hb : c.code = cc) (hdg : decode cc pc = .ok (.checkcast index, 3)) (hown : s.vm.findClass own = some m.cls) (hts : ∀ w ∈ kTbl, w.before args s = true) (hK : va_K D vwCl (kTys dA) s) (hX : kXs ext base xm s s.heap)
    (hc0 : vwCl[b]? = some (C, T, N)) (hb1 : b < 1000) (hlink : Jvm.Cond.classLink own index nm ∈ kTbl) (hor : C = nm ∨ Jvm.Cond.castable C nm ∈ kTbl) (hlk : kLook xm mem r = some (.inl (b, fs))) (k : kA p l e R s m args below meth c Q D dA ext base xm nL n0 z0 (pc + 3) lv (.ref r :: st) mem) : kA p l e R s m args below meth c Q D dA ext base xm nL n0 z0 pc lv (.ref r :: st) mem := by
  intro H locs cells slots ls hRM hS hl hc hz
  have hcell : ∃ cell : Cell, H[kAd ext base r]? = some cell ∧ cell.vm.isStatics = false ∧ s.vm.findClass C = some cell.cls := by
    by_cases hr : r < 1000
    · obtain ⟨C', T', N', hc', ⟨cell, g1, g2, g3, g4⟩, -⟩ := hX r _ hr (kLook_old hr hlk)
      rw [hc0] at hc'
      cases hc'
      have hlt : kAd ext base r < s.heap.size := (Array.getElem?_eq_some_iff.mp g1).1
      exact ⟨cell, by rw [hS.2.1 _ hlt g4]; exact g1, g2, g3⟩
    · have hP := kRM_one hRM (by omega) hlk (by simp [kJunk]; exact hb1)
      exact va_recv (q0 := 0) (fs := fs.map (kV (kAd ext base))) hK hP hc0 rfl
  rcases hor with rfl | hw
  · exact va_castS hx hb hown (hts _ hlink) (hK.1 b _ hc0).2 hcell hdg (k _ _ _ _ _ hRM hS hl hc hz)
  · exact va_castY hx hb hown (hts _ hlink) (va_any rfl (hts _ hw)) hcell hdg (k _ _ _ _ _ hRM hS hl hc hz)
theorem ks_castArrI {own nm : String} {index r t : Nat} {xs : List Int32} (hx : p.tables.exec = Jvm.exec) (hb : c.code = cc) (hdg : decode cc pc = .ok (.checkcast index, 3)) (hown : s.vm.findClass own = some m.cls) (hts : ∀ w ∈ kTbl, w.before args s = true) (hlink : Jvm.Cond.classLink own index nm ∈ kTbl) (hnm : s.vm.findClass nm = some (dA t)) (hr : 1000 ≤ r) (hlk : kLook xm mem r = some (.inr (.inl (t, xs)))) (k : kA p l e R s m args below meth c Q D dA ext base xm nL n0 z0 (pc + 3) lv (.ref r :: st) mem) : kA p l e R s m args below meth c Q D dA ext base xm nL n0 z0 pc lv (.ref r :: st) mem := by
  intro H locs cells slots ls hRM hS hl hc hz
  exact va_castA hx hb hown (hts _ hlink) (kRM_one hRM hr hlk rfl) 0 rfl hnm hdg (k _ _ _ _ _ hRM hS hl hc hz)
theorem ks_castArrQ {own nm : String} {index r t : Nat} {xs : List (Option Nat)} (hx : p.tables.exec = Jvm.exec) (hb : c.code = cc) (hdg : decode cc pc = .ok (.checkcast index, 3)) (hown : s.vm.findClass own = some m.cls) (hts : ∀ w ∈ kTbl, w.before args s = true) (hlink : Jvm.Cond.classLink own index nm ∈ kTbl) (hnm : s.vm.findClass nm = some (dA t)) (hr : 1000 ≤ r) (hlk : kLook xm mem r = some (.inr (.inr (t, xs)))) (k : kA p l e R s m args below meth c Q D dA ext base xm nL n0 z0 (pc + 3) lv (.ref r :: st) mem) : kA p l e R s m args below meth c Q D dA ext base xm nL n0 z0 pc lv (.ref r :: st) mem := by
  intro H locs cells slots ls hRM hS hl hc hz
  exact va_castA hx hb hown (hts _ hlink) (kRM_one hRM hr hlk rfl) 0 rfl hnm hdg (k _ _ _ _ _ hRM hS hl hc hz)
theorem ks_castN {index : Nat} (hx : p.tables.exec = Jvm.exec) (hb : c.code = cc) (hdg : decode cc pc = .ok (.checkcast index, 3)) (k : kA p l e R s m args below meth c Q D dA ext base xm nL n0 z0 (pc + 3) lv (.null :: st) mem) : kA p l e R s m args below meth c Q D dA ext base xm nL n0 z0 pc lv (.null :: st) mem := by
  intro H locs cells slots ls hRM hS hl hc hz
  exact lv_castN hx hb hdg (k _ _ _ _ _ hRM hS hl hc hz)
theorem ks_ldcI {own : String} {index : Nat} {v : Int32} (hx : p.tables.exec = Jvm.exec) (hb : c.code = cc) (hdg : decode cc pc = .ok (.ldc index, 2)) (hown : s.vm.findClass own = some m.cls) (hw : (Jvm.Cond.constant own index v).before args s = true) (k : kA p l e R s m args below meth c Q D dA ext base xm nL n0 z0 (pc + 2) lv (.int v :: st) mem) : kA p l e R s m args below meth c Q D dA ext base xm nL n0 z0 pc lv st mem := by
  intro H locs cells slots ls hRM hS hl hc hz
  exact lv_ldc hx hb hown hw hdg (k _ _ _ _ _ hRM hS hl hc hz)
theorem ks_ldcF {own : String} {index : Nat} {v : UInt32} (hx : p.tables.exec = Jvm.exec) (hb : c.code = cc) (hdg : decode cc pc = .ok (.ldc index, 2)) (hown : s.vm.findClass own = some m.cls) (hw : (Jvm.Cond.constantFloat own index v).before args s = true) (k : kA p l e R s m args below meth c Q D dA ext base xm nL n0 z0 (pc + 2) lv (.float v :: st) mem) : kA p l e R s m args below meth c Q D dA ext base xm nL n0 z0 pc lv st mem := by
  intro H locs cells slots ls hRM hS hl hc hz
  exact lv_ldcf hx hb hown hw hdg (k _ _ _ _ _ hRM hS hl hc hz)
theorem ks_ldcM {own : String} {index : Nat} (hx : p.tables.exec = Jvm.exec) (hb : c.code = cc) (hdg : decode cc pc = .ok (.ldc index, 2)) (hown : s.vm.findClass own = some m.cls) (hlink : (Cond.classLink own index "[Ljava/lang/Object;").before args s = true) (hM : va_Mi "[Ljava/lang/Object;" (ext 2) s) (k : kA p l e R s m args below meth c Q D dA ext base xm nL n0 z0 (pc + 2) lv (.ref 2 :: st) mem) : kA p l e R s m args below meth c Q D dA ext base xm nL n0 z0 pc lv st mem := by
  intro H locs cells slots ls hRM hS hl hc hz
  exact va_ldcM hx hb hown hlink hM hdg (k _ _ _ _ _ hRM hS hl hc hz)
theorem ks_ldcwI {own : String} {index : Nat} {v : Int32} (hx : p.tables.exec = Jvm.exec) (hb : c.code = cc) (hdg : decode cc pc = .ok (.ldc_w index, 3)) (hown : s.vm.findClass own = some m.cls) (hw : (Jvm.Cond.constant own index v).before args s = true) (k : kA p l e R s m args below meth c Q D dA ext base xm nL n0 z0 (pc + 3) lv (.int v :: st) mem) : kA p l e R s m args below meth c Q D dA ext base xm nL n0 z0 pc lv st mem := by
  intro H locs cells slots ls hRM hS hl hc hz
  exact lv_ldcw hx hb hown hw hdg (k _ _ _ _ _ hRM hS hl hc hz)
theorem k_ldcwF {H : Heap} {locs : List Loc} {cells slots : Nat} {ls : Array Slot} {rest : List Value} (hexec : p.tables.exec = Jvm.exec) (hb : c.code = cc) {own : String} {index : Nat} {v : UInt32} (hown : s.vm.findClass own = some m.cls) (hconst : (Jvm.Cond.constantFloat own index v).before args s = true) (hdg : decode cc pc = .ok (.ldc_w index, 3)) (k : W p l e R s m args below meth c H locs cells slots Q (F0 m (pc + 3) ls (.float v :: rest))) : W p l e R s m args below meth c H locs cells slots Q (F0 m pc ls rest) := by
  intro T hT X
  obtain ⟨t, a, b⟩ := k T hT X
  refine ⟨t, ?_, b⟩
  obtain ⟨k, cf, hk, hcf, hcp⟩ := Cond.constantFloat_spec hown hconst
  obtain ⟨k', hk', he⟩ := X.warmed.alike.2.2 _ _ hk
  jvm_step X.here [hexec, hb, hdg, ldc_w.wp_float (s := T) (f := F0 m pc ls rest) X.here.top hk' (by rw [he]; exact hcf) hcp]
  exact a
theorem ks_ldcwF {own : String} {index : Nat} {v : UInt32} (hx : p.tables.exec = Jvm.exec) (hb : c.code = cc) (hdg : decode cc pc = .ok (.ldc_w index, 3)) (hown : s.vm.findClass own = some m.cls) (hw : (Jvm.Cond.constantFloat own index v).before args s = true) (k : kA p l e R s m args below meth c Q D dA ext base xm nL n0 z0 (pc + 3) lv (.float v :: st) mem) : kA p l e R s m args below meth c Q D dA ext base xm nL n0 z0 pc lv st mem := by
  intro H locs cells slots ls hRM hS hl hc hz
  exact k_ldcwF hx hb hown hw hdg (k _ _ _ _ _ hRM hS hl hc hz)
theorem ks_ldc2J {own : String} {index : Nat} {v : Int64} (hx : p.tables.exec = Jvm.exec) (hb : c.code = cc) (hdg : decode cc pc = .ok (.ldc2_w index, 3)) (hown : s.vm.findClass own = some m.cls) (hw : (Jvm.Cond.constantLong own index v).before args s = true) (k : kA p l e R s m args below meth c Q D dA ext base xm nL n0 z0 (pc + 3) lv (.long v :: st) mem) : kA p l e R s m args below meth c Q D dA ext base xm nL n0 z0 pc lv st mem := by
  intro H locs cells slots ls hRM hS hl hc hz
  exact lv_ldc2 hx hb hown hw hdg (k _ _ _ _ _ hRM hS hl hc hz)
theorem ks_ldc2D {own : String} {index : Nat} {v : UInt64} (hx : p.tables.exec = Jvm.exec) (hb : c.code = cc) (hdg : decode cc pc = .ok (.ldc2_w index, 3)) (hown : s.vm.findClass own = some m.cls) (hw : (Jvm.Cond.constantDouble own index v).before args s = true) (k : kA p l e R s m args below meth c Q D dA ext base xm nL n0 z0 (pc + 3) lv (.double v :: st) mem) : kA p l e R s m args below meth c Q D dA ext base xm nL n0 z0 pc lv st mem := by
  intro H locs cells slots ls hRM hS hl hc hz
  exact lv_ldc2d hx hb hown hw hdg (k _ _ _ _ _ hRM hS hl hc hz)
theorem ks_getstatic {own C n d ref : String} {index : Nat} {v : Value} (hx : p.tables.exec = Jvm.exec) (hb : c.code = cc) (hdg : decode cc pc = .ok (.getstatic index, 3)) (hown : s.vm.findClass own = some m.cls) (hZ : va_Z C n d (kV (kAd ext base) v) (fun q => base ≤ q) s s.heap) (hlink : (Cond.fieldLink own index ref n d).before args s = true) (hsame : ref = C) (k : kA p l e R s m args below meth c Q D dA ext base xm nL n0 z0 (pc + 3) lv (v :: st) mem) : kA p l e R s m args below meth c Q D dA ext base xm nL n0 z0 pc lv st mem := by
  intro H locs cells slots ls hRM hS hl hc hz
  subst hsame
  exact va_gets hx hb hZ hS hown hlink (fun x h => h) hdg (k _ _ _ _ _ hRM hS hl hc hz)
theorem ks_getstaticN {own C n d ref host : String} {index : Nat} {v : Value} (hx : p.tables.exec = Jvm.exec) (hb : c.code = cc) (hdg : decode cc pc = .ok (.getstatic index, 3)) (hown : s.vm.findClass own = some m.cls) (hZ : va_Z C n d (kV (kAd ext base) v) (fun q => base ≤ q) s s.heap) (hlink : (Cond.fieldLinkNest own index ref n d host).before args s = true) (hsame : ref = C) (k : kA p l e R s m args below meth c Q D dA ext base xm nL n0 z0 (pc + 3) lv (v :: st) mem) : kA p l e R s m args below meth c Q D dA ext base xm nL n0 z0 pc lv st mem := by
  intro H locs cells slots ls hRM hS hl hc hz
  subst hsame
  exact va_getsN hx hb hZ hS hown hlink (fun x h => h) hdg (k _ _ _ _ _ hRM hS hl hc hz)
theorem ks_ifnull {o : Int} {q : Option Nat} (hx : p.tables.exec = Jvm.exec) (hb : c.code = cc) (hdg : decode cc pc = .ok (.ifnull o, 3)) (ht : (pc : Int) + o = (a : Int)) (k : kA p l e R s m args below meth c Q D dA ext base xm nL n0 z0 (if q.isNone then a else pc + 3) lv st mem) : kA p l e R s m args below meth c Q D dA ext base xm nL n0 z0 pc lv (kRf q :: st) mem := by
  intro H locs cells slots ls hRM hS hl hc hz
  cases q with
  | none => exact lv_ifnullN hx hb hdg ht (k _ _ _ _ _ hRM hS hl hc hz)
  | some x => exact lv_ifnull hx hb hdg (k _ _ _ _ _ hRM hS hl hc hz)
theorem ks_ifnonnull {o : Int} {q : Option Nat} (hx : p.tables.exec = Jvm.exec) (hb : c.code = cc) (hdg : decode cc pc = .ok (.ifnonnull o, 3)) (ht : (pc : Int) + o = (a : Int)) (k : kA p l e R s m args below meth c Q D dA ext base xm nL n0 z0 (if q.isNone then pc + 3 else a) lv st mem) : kA p l e R s m args below meth c Q D dA ext base xm nL n0 z0 pc lv (kRf q :: st) mem := by
  intro H locs cells slots ls hRM hS hl hc hz
  cases q with
  | none => exact lv_ifnonnullN hx hb hdg (k _ _ _ _ _ hRM hS hl hc hz)
  | some x => exact lv_ifnonnull hx hb hdg ht (k _ _ _ _ _ hRM hS hl hc hz)
theorem kAd_ne (hext : ∀ r, r < 1000 → r ≠ 2 → ext r < base) {x y : Option Nat} (hne : x ≠ y) (h : kNm x y = true) : x.map (kAd ext base) ≠ y.map (kAd ext base) := by
  unfold kNm at h
  rw [Bool.or_eq_true, Bool.and_eq_true, Bool.and_eq_true] at h
  intro q
  have one : ∀ {u v : Nat}, 1000 ≤ u → v ≠ 2 → kAd ext base u = kAd ext base v → u = v := by
    intro u v hu h2 e
    unfold kAd at e
    rw [if_neg (by omega)] at e
    by_cases hv : v < 1000
    · rw [if_pos hv] at e
      have := hext v hv h2
      omega
    · rw [if_neg hv] at e
      omega
  cases x with
  | none =>
    cases y with
    | none => exact hne rfl
    | some y => cases q
  | some x =>
    cases y with
    | none => cases q
    | some y =>
      have q' : kAd ext base x = kAd ext base y := by simpa using q
      rcases h with ⟨h, h2⟩ | ⟨h, h2⟩
      · exact hne (by rw [one (by simpa using h) (by simpa using h2) q'])
      · exact hne (by rw [one (by simpa using h) (by simpa using h2) q'.symm])
theorem ks_acmp {cnd : ACond} {o : Int} {x y : Option Nat} (hx : p.tables.exec = Jvm.exec) (hb : c.code = cc) (hdg : decode cc pc = .ok (.if_acmp cnd o, 3)) (ht : (pc : Int) + o = (a : Int)) (hext : ∀ r, r < 1000 → r ≠ 2 → ext r < base)
    (hxy : x = y ∨ kNm x y = true) (k : kA p l e R s m args below meth c Q D dA ext base xm nL n0 z0 (if x = y then (match cnd with | .eq => a | .ne => pc + 3) else (match cnd with | .eq => pc + 3 | .ne => a)) lv st mem) : kA p l e R s m args below meth c Q D dA ext base xm nL n0 z0 pc lv (kRf y :: kRf x :: st) mem := by
  intro H locs cells slots ls hRM hS hl hc hz
  have e : (kRf y :: kRf x :: st).map (kV (kAd ext base)) = va_rf (y.map (kAd ext base)) :: va_rf (x.map (kAd ext base)) :: st.map (kV (kAd ext base)) := by rw [List.map_cons, List.map_cons, kV_rf, kV_rf]
  rw [e]
  have dec : (x.map (kAd ext base) = y.map (kAd ext base)) ↔ x = y := by
    refine ⟨fun q => ?_, fun q => by rw [q]⟩
    by_cases hne : x = y
    · exact hne
    · rcases hxy with h | h
      · exact h
      · exact absurd q (kAd_ne hext hne h)
  cases cnd with
  | eq =>
    refine lv_acmp_eq hx hb hdg ht (fun q => ?_) (fun q => ?_)
    · rw [if_pos (dec.mp q)] at k
      exact k _ _ _ _ _ hRM hS hl hc hz
    · rw [if_neg (fun z => q (dec.mpr z))] at k
      exact k _ _ _ _ _ hRM hS hl hc hz
  | ne =>
    refine lv_acmp_ne hx hb hdg ht (fun q => ?_) (fun q => ?_)
    · rw [if_neg (fun z => q (dec.mpr z))] at k
      exact k _ _ _ _ _ hRM hS hl hc hz
    · rw [if_pos (dec.mp q)] at k
      exact k _ _ _ _ _ hRM hS hl hc hz
theorem ks_table {d lo hi : Int} {offs : Array Int} {len : Nat} {x : Int32} (hx : p.tables.exec = Jvm.exec) (hb : c.code = cc) (hdg : decode cc pc = .ok (.tableswitch d lo hi offs, len)) (hd0 : 0 ≤ (pc : Int) + d) (hos : ∀ o ∈ offs, 0 ≤ (pc : Int) + o)
    (h : (if (decide (x.toInt < lo) || decide (hi < x.toInt)) = true then kNx ((pc : Int) + d).toNat lv st mem else match offs[(x.toInt - lo).toNat]? with
      | some o => kNx ((pc : Int) + o).toNat lv st mem
      | none => none) = some (.inl (pc', lv', st', mem'))) (k : kA p l e R s m args below meth c Q D dA ext base xm nL n0 z0 pc' lv' st' mem') : kA p l e R s m args below meth c Q D dA ext base xm nL n0 z0 pc lv (.int x :: st) mem := by
  intro H locs cells slots ls hRM hS hl hc hz
  by_cases hcnd : (decide (x.toInt < lo) || decide (hi < x.toInt)) = true
  · rw [if_pos hcnd] at h
    cases h
    refine lv_tableOut hx hb hdg (by simpa using hcnd) (tgt := ((pc : Int) + d).toNat) (by omega) (k _ _ _ _ _ hRM hS hl hc hz)
  · rw [if_neg hcnd] at h
    have h12 : ¬ x.toInt < lo ∧ ¬ hi < x.toInt := by simpa using hcnd
    cases ho : offs[(x.toInt - lo).toNat]? with
    | none => rw [ho] at h; cases h
    | some o =>
      rw [ho] at h
      cases h
      have := hos o (Array.mem_of_getElem? ho)
      exact lv_tableIn hx hb hdg h12.1 h12.2 ho (tgt := ((pc : Int) + o).toNat) (by omega) (k _ _ _ _ _ hRM hS hl hc hz)
end KROWS
