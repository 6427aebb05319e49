/-! ===== the cells that were there before; arrays ===== -/
def kEn : Nat → String
  | 3 => "Knitstead$Work"
  | 4 => "java/lang/Integer"
  | _ => "java/lang/Object"
def kXat (ad : Nat → Nat) (A : Nat → Prop) (U : State) (a : Nat) (e : kE) (H : Heap) : Prop := match e with
  | .inl (ci, fs) => ∃ (C : String) (T : u_T) (N : Nat), vwCl[ci]? = some (C, T, N) ∧ va_O C a A U H ∧ ∀ k v, fs[k]? = some v → va_OF (T k).1 (T k).2.1 (T k).2.2.1 (kV ad v) a A U H
  | .inr (.inl (t, xs)) => va_T (if t = 0 then .int else .byte) a xs.length (fun j => .int (xs.getD j 0)) A U H
  | .inr (.inr (t, rs)) => va_T (.object (kEn t)) a rs.length (fun j => va_rf ((rs.getD j none).map ad)) A U H
/-- what is known of the cells of xm, at a state U -/
def kXs (ext : Nat → Nat) (base : Nat) (xm : Nat → Option kE) (U : State) (H : Heap) : Prop := ∀ r e, r < 1000 → xm r = some e → kXat (kAd ext base) (fun q => base ≤ q) U (kAd ext base r) e H
/-- the words of tables that objects need: each class is an Object -/
def kObj : Prop := (∀ (ci : Nat) (C : String) (T : u_T) (N : Nat), vwCl[ci]? = some (C, T, N) → Jvm.Cond.castable C "java/lang/Object" ∈ kTbl) ∧ Jvm.Cond.castable "[I" "java/lang/Object" ∈ kTbl ∧ ∃ (T : u_T) (N : Nat), vwCl[10]? = some ("Knitstead$Work", T, N)
theorem kInB_in {j : Int32} {n : Nat} (h : kInB j n = true) : vp_in j n ∧ j.toNatClampNeg < n ∧ ¬ j < 0 := by
  unfold kInB at h
  rw [Bool.and_eq_true] at h
  have h1 : ¬ j < 0 := by simpa using h.1
  have h2 : j.toNatClampNeg < n := by simpa using h.2
  exact ⟨fun q => q.elim h1 (fun q => by omega), h2, h1⟩
section KROWS
variable {p : Program} {l : Launch} {e : Env} {R : Room} {s : State} {m : MethodId} {args : Array Value} {below : List Frame} {meth : Method} {c : Code} {Q : State → Prop} {D : va_G} {dA : Nat → ClassId} {ext : Nat → Nat} {base : Nat} {xm : Nat → Option kE} {nL n0 z0 : Nat}
variable {cc : ByteArray} {pc pc' : Nat} {lv lv' : kL} {st st' : List Value} {mem mem' : kM} {a b : Nat} {fty : Nat → Nat → FieldType} {H : Heap} {locs : List Loc}
theorem kLook_old {r : Nat} {x : kE} (hr : r < 1000) (hk : kLook xm mem r = some x) : xm r = some x := by
  unfold kLook at hk
  rw [if_pos hr] at hk
  exact hk
theorem kSt_any (hts : ∀ w ∈ kTbl, w.before args s = true) (hK : va_K D vwCl (kTys dA) s) (hO : kObj) (hX : kXs ext base xm s s.heap) (hRM : kRM D dA ext base xm mem H) (hS : va_S (fun q => base ≤ q) s.heap H locs) {t v : Nat} (h : kStOk xm mem t (some v) = true) (ht : t = 2 ∨ t = 3) : va_Any (kEn t) s H (kAd ext base v) := by
  unfold kStOk at h
  dsimp only at h
  have obj : ∀ (C : String) (cv : ClassId), Jvm.Cond.castable C "java/lang/Object" ∈ kTbl → s.vm.findClass C = some cv → ∀ comp, s.vm.findClass "java/lang/Object" = some comp → s.vm.assignable cv comp = true := by
    intro C cv hw hc comp hcomp
    obtain ⟨c3, c4, h3, h4, hasg⟩ := Cond.castable_spec (hts _ hw)
    cases h3.symm.trans hc
    cases h4.symm.trans hcomp
    exact hasg
  cases hk : kLook xm mem v with
  | none => rw [hk] at h; cases h
  | some x =>
    rw [hk] at h
    rcases x with ⟨ci, fs⟩ | ⟨t0, xs⟩ | ⟨t0, xs⟩
    · dsimp only at h
      simp only [Bool.and_eq_true, Bool.or_eq_true, decide_eq_true_eq, beq_iff_eq] at h
      obtain ⟨hci, hor⟩ := h
      have fin : ∀ (C : String) (T : u_T) (N : Nat), vwCl[ci]? = some (C, T, N) → ∀ cell : Cell, H[kAd ext base v]? = some cell → cell.vm.isStatics = false → s.vm.findClass C = some cell.cls → va_Any (kEn t) s H (kAd ext base v) := by
        intro C T N hc cell g1 g2 g3
        obtain ⟨kC, hkC, -⟩ := Vm.findClass_spec g3
        refine ⟨cell, g1, g2, ⟨kC, hkC⟩, fun comp hcomp => ?_⟩
        rcases hor with h2 | ⟨h3, h10⟩
        · subst h2
          exact obj C _ (hO.1 _ _ _ _ hc) g3 comp hcomp
        · subst h3; subst h10
          obtain ⟨T', N', hw⟩ := hO.2.2
          rw [hw] at hc
          cases hc
          cases g3.symm.trans hcomp
          exact va_asg _ _
      by_cases hr : v < 1000
      · obtain ⟨C, T, N, hc, ⟨cell, g1, g2, g3, g4⟩, -⟩ := hX v _ hr (kLook_old hr hk)
        have hlt : kAd ext base v < s.heap.size := (Array.getElem?_eq_some_iff.mp g1).1
        exact fin C T N hc cell (by rw [hS.2.1 _ hlt g4]; exact g1) g2 g3
      · obtain ⟨rr, h1, cell, q1, q2, q3, q4⟩ := kRM_at hRM (by omega) hk (by simp [kJunk]; omega)
        exact fin rr.1 rr.2.1 rr.2.2 h1 cell q1 (by rw [q3]; rfl) (by rw [q2]; exact (hK.1 ci _ h1).2.1)
    · cases t0 with
      | succ n => simp at h
      | zero =>
        simp only [Bool.and_eq_true, decide_eq_true_eq, beq_iff_eq] at h
        obtain ⟨hr, h2⟩ := h
        subst h2
        have g1 : H[kAd ext base v]? = some (vp_cell (dA 0) _) := kRM_at hRM hr hk rfl
        have g3 : s.vm.findClass "[I" = some (dA 0) := va_nm_int (hK.2 0 _ rfl).2
        obtain ⟨kC, hkC, -⟩ := Vm.findClass_spec g3
        exact ⟨_, g1, rfl, ⟨kC, hkC⟩, obj "[I" _ hO.2.1 g3⟩
    · simp at h
theorem ks_getfieldX {own C : String} {T : u_T} {N index r : Nat} {fs : List Value} {v : Value} (hx : p.tables.exec = Jvm.exec) (hb : c.code = cc) (hdg : decode cc pc = .ok (.getfield index, 3))
    (hown : s.vm.findClass own = some m.cls) (hts : ∀ w ∈ kTbl, w.before args s = true) (hC : kCI fty a C T N) (hF : kFL own index T b) (hX : kXs ext base xm s s.heap)
    (hlk : kLook xm mem r = some (.inl (a, fs))) (hr : r < 1000) (hv : fs[b]? = some v) (k : kA p l e R s m args below meth c Q D dA ext base xm nL n0 z0 (pc + 3) lv (v :: st) mem) : kA p l e R s m args below meth c Q D dA ext base xm nL n0 z0 pc lv (.ref r :: st) mem := by
  intro H locs cells slots ls hRM hS hl hc hz
  obtain ⟨C', T', N', hc', -, hof⟩ := hX r _ hr (kLook_old hr hlk)
  rw [hC.1] at hc'
  cases hc'
  obtain ⟨cf, kk, i, f, cell, g1, g2, g3, g4, g5, g6⟩ := hof b v hv
  have hlt : kAd ext base r < s.heap.size := (Array.getElem?_eq_some_iff.mp g3).1
  have hcell : H[kAd ext base r]? = some cell := by rw [hS.2.1 _ hlt g6]; exact g3
  obtain ⟨ref, hlink, hsame⟩ := hF
  have hs : s.fieldFound? ref (T b).2.1 (T b).2.2.1 = some (cf, kk, i, f) := by
    rcases hsame with rfl | h
    · exact g1
    · exact u_same (hts _ h) _ g1
  rcases hlink with h | ⟨host, h⟩
  · exact W.getf hx hb hown (hts _ h) hs g2 hcell g4 g5 rfl rfl hdg (k _ _ _ _ _ hRM hS hl hc hz)
  · exact va_Wgetf hx hb hown (hts _ h) hs g2 hcell g4 g5 rfl rfl hdg (k _ _ _ _ _ hRM hS hl hc hz)
theorem ks_arraylength {r n : Nat} (hx : p.tables.exec = Jvm.exec) (hb : c.code = cc) (hdg : decode cc pc = .ok (.arraylength, 1)) (hK : va_K D vwCl (kTys dA) s) (hX : kXs ext base xm s s.heap)
    (hlk : (∃ t xs, t < 2 ∧ n = xs.length ∧ kLook xm mem r = some (.inr (.inl (t, xs)))) ∨ ∃ t xs, (t = 2 ∨ t = 3) ∧ n = xs.length ∧ kLook xm mem r = some (.inr (.inr (t, xs)))) (k : kA p l e R s m args below meth c Q D dA ext base xm nL n0 z0 (pc + 1) lv (.int (Int32.ofNat n) :: st) mem) : kA p l e R s m args below meth c Q D dA ext base xm nL n0 z0 pc lv (.ref r :: st) mem := by
  intro H locs cells slots ls hRM hS hl hc hz
  have old : ∀ (ty : FieldType) (f : Nat → Value), va_T ty (kAd ext base r) n f (fun q => base ≤ q) s s.heap → W p l e R s m args below meth c H locs cells slots Q (F0 m pc ls ((Value.ref r :: st).map (kV (kAd ext base)))) := by
    intro ty f hT
    obtain ⟨cell, h1, h2, h3, h4, h5, h6, h7⟩ := hT
    have hlt : kAd ext base r < s.heap.size := (Array.getElem?_eq_some_iff.mp h1).1
    exact W.alen hx hb (by rw [hS.2.1 _ hlt h7]; exact h1) h2 h5 rfl rfl hdg (k _ _ _ _ _ hRM hS hl hc hz)
  rcases hlk with ⟨t, xs, ht, hn, hlk⟩ | ⟨t, xs, ht, hn, hlk⟩
  · subst hn
    by_cases hr : r < 1000
    · exact old _ _ (hX r _ hr (kLook_old hr hlk))
    · have hP := kRM_one hRM (by omega) hlk rfl
      have : ∃ ty, (kTys dA)[t]? = some (dA t, ty) := by
        rcases (show t = 0 ∨ t = 1 by omega) with rfl | rfl
        · exact ⟨_, rfl⟩
        · exact ⟨_, rfl⟩
      obtain ⟨ty, hty⟩ := this
      exact va_alen hx hb hK hP 0 t rfl hty rfl hdg (k _ _ _ _ _ hRM hS hl hc hz)
  · subst hn
    by_cases hr : r < 1000
    · exact old _ _ (hX r _ hr (kLook_old hr hlk))
    · have hP := kRM_one hRM (by omega) hlk rfl
      have : ∃ ty, (kTys dA)[t]? = some (dA t, ty) := by
        rcases ht with rfl | rfl
        · exact ⟨_, rfl⟩
        · exact ⟨_, rfl⟩
      obtain ⟨ty, hty⟩ := this
      exact va_alen hx hb hK hP 0 t rfl hty rfl hdg (k _ _ _ _ _ hRM hS hl hc hz)
theorem ks_iaload {r : Nat} {j : Int32} {xs : List Int32} (hx : p.tables.exec = Jvm.exec) (hb : c.code = cc) (hdg : decode cc pc = .ok (.iaload, 1)) (hK : va_K D vwCl (kTys dA) s) (hX : kXs ext base xm s s.heap)
    (hlk : kLook xm mem r = some (.inr (.inl (0, xs)))) (hj : kInB j xs.length = true) (k : kA p l e R s m args below meth c Q D dA ext base xm nL n0 z0 (pc + 1) lv (.int (xs.getD j.toNatClampNeg 0) :: st) mem) : kA p l e R s m args below meth c Q D dA ext base xm nL n0 z0 pc lv (.int j :: .ref r :: st) mem := by
  intro H locs cells slots ls hRM hS hl hc hz
  by_cases hr : r < 1000
  · exact va_ti hx hb (hX r _ hr (kLook_old hr hlk)) hS (kInB_in hj).1 rfl hdg (k _ _ _ _ _ hRM hS hl hc hz)
  · have hP := kRM_one hRM (by omega) hlk rfl
    exact va_iald hx hb hK hP 0 0 rfl rfl (kInB_in hj).1 hdg (k _ _ _ _ _ hRM hS hl hc hz)
theorem ks_baload {r : Nat} {j : Int32} {xs : List Int32} (hx : p.tables.exec = Jvm.exec) (hb : c.code = cc) (hdg : decode cc pc = .ok (.baload, 1)) (hK : va_K D vwCl (kTys dA) s) (hX : kXs ext base xm s s.heap)
    (hlk : kLook xm mem r = some (.inr (.inl (1, xs)))) (hj : kInB j xs.length = true) (k : kA p l e R s m args below meth c Q D dA ext base xm nL n0 z0 (pc + 1) lv (.int (xs.getD j.toNatClampNeg 0) :: st) mem) : kA p l e R s m args below meth c Q D dA ext base xm nL n0 z0 pc lv (.int j :: .ref r :: st) mem := by
  intro H locs cells slots ls hRM hS hl hc hz
  by_cases hr : r < 1000
  · exact va_tb hx hb (hX r _ hr (kLook_old hr hlk)) hS (kInB_in hj).1 rfl hdg (k _ _ _ _ _ hRM hS hl hc hz)
  · have hP := kRM_one hRM (by omega) hlk rfl
    exact va_bald hx hb hK hP 0 1 rfl rfl (kInB_in hj).1 hdg (k _ _ _ _ _ hRM hS hl hc hz)
theorem ks_aaload {r t : Nat} {j : Int32} {xs : List (Option Nat)} (hx : p.tables.exec = Jvm.exec) (hb : c.code = cc) (hdg : decode cc pc = .ok (.aaload, 1)) (hK : va_K D vwCl (kTys dA) s) (hX : kXs ext base xm s s.heap)
    (hlk : kLook xm mem r = some (.inr (.inr (t, xs)))) (ht : t = 2 ∨ t = 3 ∨ (t = 4 ∧ r < 1000)) (hj : kInB j xs.length = true) (k : kA p l e R s m args below meth c Q D dA ext base xm nL n0 z0 (pc + 1) lv (kRf (xs.getD j.toNatClampNeg none) :: st) mem) : kA p l e R s m args below meth c Q D dA ext base xm nL n0 z0 pc lv (.int j :: .ref r :: st) mem := by
  intro H locs cells slots ls hRM hS hl hc hz
  have k1 := k _ _ _ _ _ hRM hS hl hc hz
  rw [List.map_cons, kV_rf] at k1
  by_cases hr : r < 1000
  · obtain ⟨cell, h1, h2, h3, h4, h5, h6, h7⟩ := hX r _ hr (kLook_old hr hlk)
    have hlt : kAd ext base r < s.heap.size := (Array.getElem?_eq_some_iff.mp h1).1
    obtain ⟨g1, g2, g3⟩ := kInB_in hj
    exact W.aald hx hb (by rw [hS.2.1 _ hlt h7]; exact h1) h2 rfl h3 (fun q => q.elim g3 (fun q => by omega)) (h6 _ g2) rfl rfl hdg k1
  · have hP := kRM_one hRM (by omega) hlk rfl
    rcases ht with rfl | rfl | ⟨-, h⟩
    · exact va_aldq hx hb hK hP 0 2 rfl rfl (kInB_in hj).1 hdg k1
    · exact va_aldq hx hb hK hP 0 3 rfl rfl (kInB_in hj).1 hdg k1
    · exact absurd h hr
theorem kGetD_set (xs : List Int32) {i : Nat} (x : Int32) (hi : i < xs.length) : (fun j => (xs.set i x).getD j 0) = upd (fun j => xs.getD j 0) i x := by
  funext j
  unfold upd
  simp only [List.getD_eq_getElem?_getD]
  by_cases h : j = i
  · subst h
    simp [hi]
  · rw [List.getElem?_set_ne (Ne.symm h), if_neg h]
theorem ks_iastore {r : Nat} {j x : Int32} {xs : List Int32} (hx : p.tables.exec = Jvm.exec) (hb : c.code = cc) (hdg : decode cc pc = .ok (.iastore, 1)) (hK : va_K D vwCl (kTys dA) s)
    (hlk : kLook xm mem r = some (.inr (.inl (0, xs)))) (hr : 1000 ≤ r) (hj : kInB j xs.length = true) (k : kA p l e R s m args below meth c Q D dA ext base xm nL n0 z0 (pc + 1) lv st (mem.set (r - 1000) (.inr (.inl (0, xs.set j.toNatClampNeg x))))) : kA p l e R s m args below meth c Q D dA ext base xm nL n0 z0 pc lv (.int x :: .int j :: .ref r :: st) mem := by
  intro H locs cells slots ls hRM hS hl hc hz
  obtain ⟨hm0, hml, hra⟩ := kLook_new (ext := ext) (base := base) hr hlk
  obtain ⟨g1, g2, g3⟩ := kInB_in hj
  have h0 : H[kAd ext base r]? = some (vp_cell (dA 0) (xs.length, .inl (fun j => xs.getD j 0))) := kRM_at hRM hr hlk rfl
  refine W.iast hx hb h0 ((hK.2 0 _ rfl).1 _ _) (fun q => by cases q) (by show ¬ (j < 0 ∨ (arrV _ _ _).slots.size ≤ _); rw [arrV_size]; exact g1) rfl rfl hdg fun H' e1 e2 e3 => ?_
  refine k H' _ cells slots ls (kRM_set hRM hml e2 (by rw [← hra]; exact e3) fun _ => ?_) (hS.put e2 e3 (by show base ≤ kAd ext base r; rw [hra]; omega)) hl (by rw [List.length_set]; exact hc) (by rw [kSl_set mem _ _ _ hm0 (by simp [kSz])]; exact hz)
  rw [← hra]
  show H'[kAd ext base r]? = some (vp_cell _ (_, .inl (fun j' => (xs.set j.toNatClampNeg x).getD j' 0)))
  rw [e1, kGetD_set xs x g2, vp_cell_i, vp_cell_i, arrV_store, List.length_set]
  congr 2
  funext q
  unfold updV upd
  split <;> rfl
theorem ks_bastore {r : Nat} {j x : Int32} {xs : List Int32} (hx : p.tables.exec = Jvm.exec) (hb : c.code = cc) (hdg : decode cc pc = .ok (.bastore, 1)) (hK : va_K D vwCl (kTys dA) s)
    (hlk : kLook xm mem r = some (.inr (.inl (1, xs)))) (hr : 1000 ≤ r) (hj : kInB j xs.length = true) (k : kA p l e R s m args below meth c Q D dA ext base xm nL n0 z0 (pc + 1) lv st (mem.set (r - 1000) (.inr (.inl (1, xs.set j.toNatClampNeg x.toInt8.toInt32))))) : kA p l e R s m args below meth c Q D dA ext base xm nL n0 z0 pc lv (.int x :: .int j :: .ref r :: st) mem := by
  intro H locs cells slots ls hRM hS hl hc hz
  obtain ⟨hm0, hml, hra⟩ := kLook_new (ext := ext) (base := base) hr hlk
  obtain ⟨g1, g2, g3⟩ := kInB_in hj
  have h0 : H[kAd ext base r]? = some (vp_cell (dA 1) (xs.length, .inl (fun j => xs.getD j 0))) := kRM_at hRM hr hlk rfl
  refine W.bast hx hb h0 ((hK.2 1 _ rfl).1 _ _) (fun q => by cases q) (by show ¬ (j < 0 ∨ (arrV _ _ _).slots.size ≤ _); rw [arrV_size]; exact g1) rfl rfl hdg fun H' e1 e2 e3 => ?_
  refine k H' _ cells slots ls (kRM_set hRM hml e2 (by rw [← hra]; exact e3) fun _ => ?_) (hS.put e2 e3 (by show base ≤ kAd ext base r; rw [hra]; omega)) hl (by rw [List.length_set]; exact hc) (by rw [kSl_set mem _ _ _ hm0 (by simp [kSz])]; exact hz)
  rw [← hra]
  show H'[kAd ext base r]? = some (vp_cell _ (_, .inl (fun j' => (xs.set j.toNatClampNeg x.toInt8.toInt32).getD j' 0)))
  rw [e1, kGetD_set xs _ g2, vp_cell_i, vp_cell_i, arrV_store, List.length_set]
  congr 2
  funext q
  unfold updV upd
  split <;> rfl
theorem kGetD_setQ (xs : List (Option Nat)) {i : Nat} (x : Option Nat) (hi : i < xs.length) (ad : Nat → Nat) : (fun j => ((xs.set i x).getD j none).map ad) = va_up (fun j => (xs.getD j none).map ad) i (x.map ad) := by
  funext j
  unfold va_up
  simp only [List.getD_eq_getElem?_getD]
  by_cases h : j = i
  · subst h
    simp [hi]
  · rw [List.getElem?_set_ne (Ne.symm h), if_neg h]
theorem ks_aastore {r t : Nat} {j : Int32} {v : Option Nat} {xs : List (Option Nat)} (hx : p.tables.exec = Jvm.exec) (hb : c.code = cc) (hdg : decode cc pc = .ok (.aastore, 1)) (hts : ∀ w ∈ kTbl, w.before args s = true) (hK : va_K D vwCl (kTys dA) s) (hO : kObj) (hX : kXs ext base xm s s.heap)
    (hlk : kLook xm mem r = some (.inr (.inr (t, xs)))) (hr : 1000 ≤ r) (hj : kInB j xs.length = true) (ht : t = 2 ∨ t = 3) (hv : kStOk xm mem t v = true) (k : kA p l e R s m args below meth c Q D dA ext base xm nL n0 z0 (pc + 1) lv st (mem.set (r - 1000) (.inr (.inr (t, xs.set j.toNatClampNeg v))))) : kA p l e R s m args below meth c Q D dA ext base xm nL n0 z0 pc lv (kRf v :: .int j :: .ref r :: st) mem := by
  intro H locs cells slots ls hRM hS hl hc hz
  obtain ⟨hm0, hml, hra⟩ := kLook_new (ext := ext) (base := base) hr hlk
  obtain ⟨g1, g2, g3⟩ := kInB_in hj
  have h0 : H[kAd ext base r]? = some (vp_cell (dA t) (xs.length, .inr (.inr (.inr (.inr (fun j => (xs.getD j none).map (kAd ext base))))))) := kRM_at hRM hr hlk rfl
  have hty : (kTys dA)[t]? = some (dA t, .object (kEn t)) := by rcases ht with rfl | rfl <;> rfl
  have fin : ∀ H' : Heap, H'[kAd ext base r]? = some ((vp_cell (dA t) (xs.length, .inr (.inr (.inr (.inr (fun j => (xs.getD j none).map (kAd ext base))))))).setSlot j.toNatClampNeg (va_rf (v.map (kAd ext base)))) → H'.size = H.size → (∀ q, q ≠ kAd ext base r → H'[q]? = H[q]?) → W p l e R s m args below meth c H' (locs ++ [⟨kAd ext base r, j.toNatClampNeg⟩]) cells slots Q (F0 m (pc + 1) ls (st.map (kV (kAd ext base)))) := by
    intro H' e1 e2 e3
    refine k H' _ cells slots ls (kRM_set hRM hml e2 (by rw [← hra]; exact e3) fun _ => ?_) (hS.put e2 e3 (by show base ≤ kAd ext base r; rw [hra]; omega)) hl (by rw [List.length_set]; exact hc) (by rw [kSl_set mem _ _ _ hm0 (by simp [kSz])]; exact hz)
    rw [← hra]
    show H'[kAd ext base r]? = some (vp_cell _ (_, .inr (.inr (.inr (.inr (fun j' => ((xs.set j.toNatClampNeg v).getD j' none).map (kAd ext base)))))))
    rw [e1, kGetD_setQ xs _ g2, vp_cell_q, vp_cell_q, arrV_store, List.length_set]
    congr 2
    funext q
    unfold updV va_up
    split <;> rfl
  have hin : ¬ (j < 0 ∨ (vp_cell (dA t) (xs.length, .inr (.inr (.inr (.inr (fun j => (xs.getD j none).map (kAd ext base))))))).slots.size ≤ j.toNatClampNeg) := by
    show ¬ (j < 0 ∨ (arrV _ _ _).slots.size ≤ _)
    rw [arrV_size]
    exact g1
  cases v with
  | none => exact va_WaastN (C := kEn t) hx hb h0 ((hK.2 t _ hty).1 _ (fun j => va_rf ((xs.getD j none).map (kAd ext base)))) (fun h => by cases h) hin rfl rfl hdg fin
  | some v =>
    obtain ⟨cellV, f1, f3, ⟨kC, hkC⟩, hasg⟩ := kSt_any hts hK hO hX hRM hS hv ht
    obtain ⟨kA, comp, k1, k2, k3, -⟩ := (hK.2 t _ hty).2
    obtain ⟨kE, hkE, -⟩ := Vm.findClass_spec k3
    exact W.aast hx hb h0 (fun q h => by cases h) (fun h => by cases h) k1 k2 rfl hkE ⟨g3, by show _ < (arrV _ _ _).slots.size; rw [arrV_size]; exact g2⟩ f1 (fun q h => by rw [h] at f3; cases f3) hkC (hasg _ k3) rfl rfl hdg fin
end KROWS
