/-! ===== cells: reads, writes, new ones ===== -/
/-- the types of arrays, by tag (0 and 1: of ints; 2 and 3: of references) -/
def kTys (dA : Nat → ClassId) : List (ClassId × FieldType) := [(dA 0, .int), (dA 1, .byte), (dA 2, .object "java/lang/Object"), (dA 3, .object "Knitstead$Work")]
def kFL (own : String) (index : Nat) (T : u_T) (k : Nat) : Prop := ∃ ref : String, (Jvm.Cond.fieldLink own index ref (T k).2.1 (T k).2.2.1 ∈ kTbl ∨ ∃ host : String, Jvm.Cond.fieldLinkNest own index ref (T k).2.1 (T k).2.2.1 host ∈ kTbl) ∧ (ref = (T k).1 ∨ Jvm.Cond.sameField ref (T k).1 (T k).2.1 (T k).2.2.1 ∈ kTbl)
def kCI (fty : Nat → Nat → FieldType) (ci : Nat) (C : String) (T : u_T) (N : Nat) : Prop := vwCl[ci]? = some (C, T, N) ∧ ci < 1000 ∧ (∀ w ∈ u_ws C T N, w ∈ kTbl) ∧ (∀ a, a < N → ∀ b, b < N → a ≠ b → (T a).2.1 ≠ (T b).2.1) ∧ ∀ k, k < N → parseFieldDescriptor (T k).2.2.1 = some (fty ci k)
theorem kFits_ok {ty : FieldType} {v : Value} (ad : Nat → Nat) (h : kFits ty v = true) : narrow ty (kV ad v) = kV ad v ∧ fits ty (kV ad v) = true := by
  cases v with
  | int x =>
    cases ty with
    | int => exact ⟨rfl, rfl⟩
    | long => simp [kFits, fits] at h
    | float => simp [kFits, fits] at h
    | double => simp [kFits, fits] at h
    | object n => simp [kFits, fits] at h
    | array t => simp [kFits, fits] at h
    | _ =>
      simp only [kFits, Bool.and_eq_true, decide_eq_true_eq] at h
      exact ⟨h.2, h.1⟩
  | long x => cases ty <;> first | exact ⟨rfl, rfl⟩ | (simp [kFits] at h)
  | float x => cases ty <;> simp [kFits] at h
  | double x => cases ty <;> simp [kFits] at h
  | null => cases ty <;> first | exact ⟨rfl, rfl⟩ | (simp [kFits] at h)
  | ref x => cases ty <;> first | exact ⟨rfl, rfl⟩ | (simp [kFits] at h)
  | retAddr x => cases ty <;> simp [kFits] at h
theorem kSl_app (mem : kM) (e : kE) : kSl (mem ++ [e]) = kSl mem + kSz e := by simp [kSl]
theorem kSl_set : ∀ (mem : kM) (i : Nat) (e e' : kE), mem[i]? = some e → kSz e' = kSz e → kSl (mem.set i e') = kSl mem := by
  intro mem
  induction mem with
  | nil => intro i e e' h _; simp at h
  | cons x mem ih =>
    intro i e e' h hz
    cases i with
    | zero =>
      simp only [List.getElem?_cons_zero, Option.some.injEq] at h
      subst h
      simp [kSl, hz]
    | succ i =>
      simp only [List.getElem?_cons_succ] at h
      have := ih i e e' h hz
      simp only [kSl, List.set_cons_succ, List.map_cons, List.sum_cons] at this ⊢
      omega
section KCELLS
variable {D : va_G} {dA : Nat → ClassId} {ext : Nat → Nat} {base : Nat} {xm : Nat → Option kE} {mem : kM} {H H' : Heap}
theorem kRM_at (h : kRM D dA ext base xm mem H) {r : Nat} {e : kE} (hr : 1000 ≤ r) (hk : kLook xm mem r = some e) (hj : kJunk e = false) : va_at D vwCl (kAd ext base r, kTr dA (kAd ext base) e) H := h.2 r e hr hk hj
theorem kRM_one (h : kRM D dA ext base xm mem H) {r : Nat} {e : kE} (hr : 1000 ≤ r) (hk : kLook xm mem r = some e) (hj : kJunk e = false) : va_P D vwCl [(kAd ext base r, kTr dA (kAd ext base) e)] H := by
  intro k q hq
  have hz : k < 1 := (List.getElem?_eq_some_iff.mp hq).1
  rw [show k = 0 by omega] at hq
  cases hq
  exact h.2 r e hr hk hj
theorem kRM_set (h : kRM D dA ext base xm mem H) {i : Nat} {e' : kE} (hi : i < mem.length) (hz : H'.size = H.size) (ho : ∀ q, q ≠ base + i → H'[q]? = H[q]?) (he : kJunk e' = false → va_at D vwCl (base + i, kTr dA (kAd ext base) e') H') : kRM D dA ext base xm (mem.set i e') H' := by
  refine ⟨by rw [hz, h.1, List.length_set], fun r e hr hk hj => ?_⟩
  unfold kLook at hk
  rw [if_neg (by omega)] at hk
  by_cases hri : r - 1000 = i
  · rw [hri, List.getElem?_set_self hi] at hk
    cases hk
    have : kAd ext base r = base + i := by unfold kAd; rw [if_neg (by omega), hri]
    rw [this]
    exact he hj
  · rw [List.getElem?_set_ne (Ne.symm hri)] at hk
    have h1 := h.2 r e hr (by unfold kLook; rw [if_neg (by omega)]; exact hk) hj
    refine h1.kept (ho _ ?_)
    show kAd ext base r ≠ base + i
    unfold kAd
    rw [if_neg (by omega)]
    omega
theorem kRM_push (h : kRM D dA ext base xm mem H) {e' : kE} (hz : H'.size = H.size + 1) (ho : ∀ q, q < H.size → H'[q]? = H[q]?) (he : kJunk e' = false → va_at D vwCl (H.size, kTr dA (kAd ext base) e') H') : kRM D dA ext base xm (mem ++ [e']) H' := by
  refine ⟨by rw [hz, h.1, List.length_append]; rfl, fun r e hr hk hj => ?_⟩
  have old : kLook xm mem r = some e → va_at D vwCl (kAd ext base r, kTr dA (kAd ext base) e) H' := fun hk => by
    have h1 := h.2 r e hr hk hj
    exact h1.kept (ho _ h1.lt)
  unfold kLook at hk old
  rw [if_neg (by omega)] at hk old
  by_cases hl : r - 1000 < mem.length
  · rw [List.getElem?_append_left hl] at hk
    exact old hk
  · rw [List.getElem?_append_right (by omega)] at hk
    have hz1 : r - 1000 - mem.length < 1 := (List.getElem?_eq_some_iff.mp hk).1
    rw [show r - 1000 - mem.length = 0 by omega] at hk
    cases hk
    have : kAd ext base r = H.size := by
      unfold kAd
      rw [if_neg (by omega), h.1]
      omega
    rw [this]
    exact he hj
theorem kAd_new (h : kRM D dA ext base xm mem H) : kAd ext base (kNew mem) = H.size := by
  unfold kAd kNew
  rw [if_neg (by omega), h.1]
  omega
theorem kLook_new {r : Nat} {e : kE} (hr : 1000 ≤ r) (hk : kLook xm mem r = some e) : mem[r - 1000]? = some e ∧ r - 1000 < mem.length ∧ kAd ext base r = base + (r - 1000) := by
  unfold kLook at hk
  rw [if_neg (by omega)] at hk
  exact ⟨hk, (List.getElem?_eq_some_iff.mp hk).1, by unfold kAd; rw [if_neg (by omega)]⟩
end KCELLS
section KROWS
variable {p : Program} {l : Launch} {e : Env} {R : Room} {s : State} {m : MethodId} {args : Array Value} {below : List Frame} {meth : Method} {c : Code} {Q : State → Prop} {D : va_G} {dA : Nat → ClassId} {ext : Nat → Nat} {base : Nat} {xm : Nat → Option kE} {nL n0 z0 : Nat}
variable {cc : ByteArray} {pc pc' : Nat} {lv lv' : kL} {st st' : List Value} {mem mem' : kM} {a b : Nat} {fty : Nat → Nat → FieldType}
theorem ks_getfield {own C : String} {T : u_T} {N index r : Nat} {fs : List Value} {v : Value} (hx : p.tables.exec = Jvm.exec) (hb : c.code = cc) (hdg : decode cc pc = .ok (.getfield index, 3))
    (hown : s.vm.findClass own = some m.cls) (hts : ∀ w ∈ kTbl, w.before args s = true) (hK : va_K D vwCl (kTys dA) s) (hC : kCI fty a C T N) (hbN : b < N) (hF : kFL own index T b)
    (hlk : kLook xm mem r = some (.inl (a, fs))) (hr : 1000 ≤ r) (hv : fs[b]? = some v) (k : kA p l e R s m args below meth c Q D dA ext base xm nL n0 z0 (pc + 3) lv (v :: st) mem) : kA p l e R s m args below meth c Q D dA ext base xm nL n0 z0 pc lv (.ref r :: st) mem := by
  intro H locs cells slots ls hRM hS hl hc hz
  obtain ⟨hc0, hlt, hin, hnm, hty⟩ := hC
  have hP := kRM_one hRM hr hlk (by simp [kJunk]; exact hlt)
  have hv' : (fs.map (kV (kAd ext base)))[b]? = some (kV (kAd ext base) v) := by rw [List.getElem?_map, hv]; rfl
  obtain ⟨ref, hlink, hsame⟩ := hF
  have hs : ∀ x, s.fieldFound? (T b).1 (T b).2.1 (T b).2.2.1 = some x → s.fieldFound? ref (T b).2.1 (T b).2.2.1 = some x := by
    rcases hsame with rfl | h
    · exact fun x h => h
    · exact fun x ho => u_same (hts _ h) x ho
  rcases hlink with h | ⟨host, h⟩
  · refine va_get hx hb hts hin hown hK hP 0 rfl hc0 b hbN (hts _ h) hs hv' hdg ?_
    exact k _ _ _ _ _ hRM hS hl hc hz
  · refine va_getN hx hb hts hin hown hK hP 0 rfl hc0 b hbN (hts _ h) hs hv' hdg ?_
    exact k _ _ _ _ _ hRM hS hl hc hz
theorem ks_putfield {own C mn : String} {T : u_T} {N index r : Nat} {fs : List Value} {v : Value} (hx : p.tables.exec = Jvm.exec) (hb : c.code = cc) (hdg : decode cc pc = .ok (.putfield index, 3))
    (hown : s.vm.findClass own = some m.cls) (hts : ∀ w ∈ kTbl, w.before args s = true) (hK : va_K D vwCl (kTys dA) s) (hmn : meth.name = mn)
    (hC : kCI fty a C T N) (hbN : b < N) (hF : kFL own index T b) (hfin : (T b).2.2.2 = false ∨ ((T b).2.2.2 = true ∧ mn = "<init>" ∧ (T b).1 = own ∧ Jvm.Cond.fieldLink own index (T b).1 (T b).2.1 (T b).2.2.1 ∈ kTbl))
    (hlk : kLook xm mem r = some (.inl (a, fs))) (hr : 1000 ≤ r) (hbl : b < fs.length) (hfit : kFits (fty a b) v = true) (k : kA p l e R s m args below meth c Q D dA ext base xm nL n0 z0 (pc + 3) lv st (mem.set (r - 1000) (.inl (a, fs.set b v)))) : kA p l e R s m args below meth c Q D dA ext base xm nL n0 z0 pc lv (v :: .ref r :: st) mem := by
  intro H locs cells slots ls hRM hS hl hc hz
  obtain ⟨hc0, hlt, hin, hnm, hty⟩ := hC
  have hj : kJunk (.inl (a, fs)) = false := by simp [kJunk]; exact hlt
  have hP0 := kRM_at hRM hr hlk hj
  obtain ⟨hm0, hml, hra⟩ := kLook_new (ext := ext) (base := base) hr hlk
  have hap := va_apart (own := own) hts hin (fty a) hty hnm hK hc0
  obtain ⟨rr, h1, cell, q1, q2, q3, q4⟩ := hP0
  have hrr : rr = (C, T, N) := Option.some.inj (h1.symm.trans hc0)
  subst hrr
  obtain ⟨hSl, hfc, kC, hkC, hkind⟩ := hK.1 a _ hc0
  obtain ⟨cf, kf, fi, f, hi, hsl⟩ := hSl b hbN
  have hst := (u_facts hfc hkC (u_lays hts hin hbN) hi).1
  obtain ⟨hnar, hft⟩ := kFits_ok (kAd ext base) hfit
  have fin : ∀ H' : Heap, H'[kAd ext base r]? = some (cell.setSlot (D.2 a b) (kV (kAd ext base) v)) → H'.size = H.size → (∀ q, q ≠ kAd ext base r → H'[q]? = H[q]?) → W p l e R s m args below meth c H' (locs ++ [⟨kAd ext base r, D.2 a b⟩]) cells slots Q (F0 m (pc + 3) ls (st.map (kV (kAd ext base)))) := by
    intro H' e1 e2 e3
    refine k H' _ cells slots ls (kRM_set hRM hml e2 (by rw [← hra]; exact e3) fun _ => ?_) (hS.put e2 e3 (by show base ≤ kAd ext base r; rw [hra]; omega)) hl (by rw [List.length_set]; exact hc) (by rw [kSl_set mem _ _ _ hm0 (by simp [kSz])]; exact hz)
    rw [← hra]
    refine ⟨_, hc0, t_OB.to (V := updV (vp_V (fs.map (kV (kAd ext base)))) b (kV (kAd ext base) v)) ⟨_, e1, q2, q3, t_set q4 hap hbN _⟩ (fun j _ => ?_)⟩
    rw [vp_updV_set (by rw [List.length_map]; exact hbl), List.map_set]
  obtain ⟨ref, hlink, hsame⟩ := hF
  have hs : ∀ x, s.fieldFound? (T b).1 (T b).2.1 (T b).2.2.1 = some x → s.fieldFound? ref (T b).2.1 (T b).2.2.1 = some x := by
    rcases hsame with rfl | h
    · exact fun x h => h
    · exact fun x ho => u_same (hts _ h) x ho
  have hlay := hts _ (hin _ (u_in_lay hbN))
  unfold u_lay at hlay
  rcases hfin with hfin | ⟨hfin, hmi, hdecl, hlk2⟩
  · rw [if_neg (by rw [hfin]; decide)] at hlay
    have h6 := u_store hfc hkC hkind hlay hi (hty b hbN) hnar hft
    rcases hlink with h | ⟨host, h⟩
    · refine W.putK hx hb (f := f) ⟨hown, hts _ h, ⟨_, _, _, hs _ hi⟩, hst⟩ (by rw [q2]; exact h6) q1 q3 (by rw [hsl]; exact k2_hasslot (q4 b hbN)) rfl rfl hdg fun H' e1 e2 e3 => ?_
      rw [hsl] at e1 ⊢
      exact fin H' e1 e2 e3
    · refine va_WputK hx hb (f := f) hown (hts _ h) (hs _ hi) hst (by rw [q2]; exact h6) q1 q3 (by rw [hsl]; exact k2_hasslot (q4 b hbN)) rfl rfl hdg fun H' e1 e2 e3 => ?_
      rw [hsl] at e1 ⊢
      exact fin H' e1 e2 e3
  · rw [if_pos hfin] at hlay
    have hcf : m.cls = cf := by
      obtain ⟨_, _, c', _, _, _, -, -, hf', -, -, -, hown2, -⟩ := Cond.laysFinal_spec hlay
      have e1 : c' = cf := by have := hi.symm.trans hf'; simp at this; exact this.1.symm
      rw [hdecl] at hown2
      rw [← e1]; exact Option.some.inj (hown.symm.trans hown2)
    have h6 := u_fits hfc hkC hkind (Or.inr hlay) hi (hty b hbN) hnar hft
    refine W.putFinK hx hb hown (hts _ hlk2) hi hst hcf (hmn.trans hmi) (by rw [q2]; exact h6) q1 q3 (by rw [hsl]; exact k2_hasslot (q4 b hbN)) rfl rfl hdg fun H' e1 e2 e3 => ?_
    rw [hsl] at e1 ⊢
    exact fin H' e1 e2 e3
theorem ks_new {own C : String} {T : u_T} {N index : Nat} {fs : List Value} (hx : p.tables.exec = Jvm.exec) (hb : c.code = cc) (hdg : decode cc pc = .ok (.new index, 3))
    (hown : s.vm.findClass own = some m.cls) (hts : ∀ w ∈ kTbl, w.before args s = true) (hK : va_K D vwCl (kTys dA) s) (hC : kCI fty a C T N)
    (hcl : Jvm.Cond.classLink own index C ∈ kTbl) (hins : Jvm.Cond.instantiable C N ∈ kTbl) (hini : Jvm.Cond.initialized C ∈ kTbl) (hfs : fs.length = N) (hdf : ∀ j, j < N → fs[j]? = some (defaultValue (fty a j)) ∧ ∀ ad, kV ad (defaultValue (fty a j)) = defaultValue (fty a j))
    (hR1 : mem.length + 1 ≤ n0 + R.cells) (hR2 : kSl mem + N ≤ z0 + R.slots) (k : kA p l e R s m args below meth c Q D dA ext base xm nL n0 z0 (pc + 3) lv (.ref (kNew mem) :: st) (mem ++ [.inl (a, fs)])) : kA p l e R s m args below meth c Q D dA ext base xm nL n0 z0 pc lv st mem := by
  intro H locs cells slots ls hRM hS hl hc hz
  obtain ⟨hc0, hlt, hin, hnm, hty⟩ := hC
  have hKn := hK.1 a _ hc0
  refine W.newcK hx hb hown (hts _ hcl) (hts _ hins) (hts _ hini) rfl hdg (by omega) (by omega) hKn.2.1 rfl fun H1 kC hkC e1 z1 o1 => ?_
  have k1 := k H1 locs (cells + 1) (slots + N) ls (kRM_push hRM z1 o1 fun _ => ⟨_, hc0, (u_born (fty a) hts hin hKn hkC e1 hty).to fun j hj => by
      obtain ⟨g1, g2⟩ := hdf j hj
      simp [vp_V, g1, g2]⟩) ⟨Nat.le_trans hS.1 (by omega), fun q h1 h2 => (o1 q (Nat.lt_of_lt_of_le h1 hS.1)).trans (hS.2.1 q h1 h2), hS.2.2⟩ hl (by rw [List.length_append]; simp; omega) (by rw [kSl_app]; simp [kSz, hfs]; omega)
  rw [List.map_cons] at k1
  have e2 : kV (kAd ext base) (.ref (kNew mem)) = .ref H.size := by show Value.ref _ = _; rw [kAd_new hRM]
  rw [e2] at k1
  exact k1
theorem ks_newarray {ty : ArrayType} {t : Nat} {n : Int32} (hx : p.tables.exec = Jvm.exec) (hb : c.code = cc) (hdg : decode cc pc = .ok (.newarray ty, 2))
    (hts : ∀ w ∈ kTbl, w.before args s = true) (hK : va_K D vwCl (kTys dA) s) (harr : Jvm.Cond.arrayClass (newarray.typeOf ty) ∈ kTbl) (ht : kTag ty = some t) (hn : ¬ n < 0) (hn2 : n.toNatClampNeg ≤ 16777216)
    (hR1 : mem.length + 1 ≤ n0 + R.cells) (hR2 : kSl mem + n.toNatClampNeg ≤ z0 + R.slots) (k : kA p l e R s m args below meth c Q D dA ext base xm nL n0 z0 (pc + 2) lv (.ref (kNew mem) :: st) (mem ++ [.inr (.inl (t, List.replicate n.toNatClampNeg 0))])) : kA p l e R s m args below meth c Q D dA ext base xm nL n0 z0 pc lv (.int n :: st) mem := by
  intro H locs cells slots ls hRM hS hl hc hz
  have hsm : ∀ j, (List.replicate n.toNatClampNeg (0 : Int32)).getD j 0 = 0 := fun j => by simp [List.getD_eq_getElem?_getD, List.getElem?_replicate]; split <;> rfl
  have fin : ∀ (H' : Heap) (cA : ClassId), cA = dA t → H'[H.size]? = some (arrV cA n.toNatClampNeg (fun _ => .int 0)) → H'.size = H.size + 1 → (∀ q, q < H.size → H'[q]? = H[q]?) → W p l e R s m args below meth c H' locs (cells + 1) (slots + n.toNatClampNeg) Q (F0 m (pc + 2) ls (.ref H.size :: st.map (kV (kAd ext base)))) := by
    intro H' cA hcA e1 z1 o1
    subst hcA
    have k1 := k H' locs (cells + 1) (slots + n.toNatClampNeg) ls (kRM_push hRM z1 o1 fun _ => by
        show H'[H.size]? = some (vp_cell _ _)
        rw [vp_cell_i, e1]
        simp only [List.length_replicate, hsm]) ⟨Nat.le_trans hS.1 (by omega), fun q h1 h2 => (o1 q (Nat.lt_of_lt_of_le h1 hS.1)).trans (hS.2.1 q h1 h2), hS.2.2⟩ hl (by rw [List.length_append]; simp; omega) (by rw [kSl_app]; simp [kSz]; omega)
    rw [List.map_cons] at k1
    have e2 : kV (kAd ext base) (.ref (kNew mem)) = .ref H.size := by show Value.ref _ = _; rw [kAd_new hRM]
    rw [e2] at k1
    exact k1
  cases ty with
  | int =>
    cases ht
    refine va_newaK hx hb (hts _ harr) rfl hdg rfl hn rfl (by show _ * 4 ≤ _; omega) (by omega) (by omega) rfl fun H' cA e1 z1 o1 hAr hNm => ?_
    refine fin H' cA ?_ e1 z1 o1
    have := (hK.2 0 _ rfl).2
    exact Option.some.inj (hNm.symm.trans this)
  | byte =>
    cases ht
    refine va_newaK hx hb (hts _ harr) rfl hdg rfl hn rfl (by show _ * 1 ≤ _; omega) (by omega) (by omega) rfl fun H' cA e1 z1 o1 hAr hNm => ?_
    refine fin H' cA ?_ e1 z1 o1
    have := (hK.2 1 _ rfl).2
    exact Option.some.inj (hNm.symm.trans this)
  | _ => cases ht
theorem ks_anewarray {own C : String} {index : Nat} {n : Int32} (hx : p.tables.exec = Jvm.exec) (hb : c.code = cc) (hdg : decode cc pc = .ok (.anewarray index, 3))
    (hown : s.vm.findClass own = some m.cls) (hts : ∀ w ∈ kTbl, w.before args s = true) (hK : va_K D vwCl (kTys dA) s) (hcl : Jvm.Cond.classLink own index C ∈ kTbl) (hover : Jvm.Cond.arrayOver (.object C) ∈ kTbl) (hta : (kTys dA)[a]? = some (dA a, .object C)) (hn : ¬ n < 0) (hn2 : n.toNatClampNeg ≤ 16777216)
    (hR1 : mem.length + 1 ≤ n0 + R.cells) (hR2 : kSl mem + n.toNatClampNeg ≤ z0 + R.slots) (k : kA p l e R s m args below meth c Q D dA ext base xm nL n0 z0 (pc + 3) lv (.ref (kNew mem) :: st) (mem ++ [.inr (.inr (a, List.replicate n.toNatClampNeg none))])) : kA p l e R s m args below meth c Q D dA ext base xm nL n0 z0 pc lv (.int n :: st) mem := by
  intro H locs cells slots ls hRM hS hl hc hz
  have hsm : ∀ j, ((List.replicate n.toNatClampNeg (none : Option Nat)).getD j none).map (kAd ext base) = none := fun j => by simp [List.getD_eq_getElem?_getD, List.getElem?_replicate]; split <;> rfl
  refine W.anew hx hb hown (hts _ hcl) (hts _ hover) rfl hdg rfl hn (by omega) (by omega) (by omega) fun cA kA comp f1 f2 f3 f4 => ?_
  obtain ⟨kA', comp', g1, g2, g3, g4⟩ := (hK.2 a _ hta).2
  have hcA : cA = dA a := Option.some.inj (f1.symm.trans g4)
  subst hcA
  generalize hH1 : H.push ({ cls := dA a, slots := Array.replicate n.toNatClampNeg .null, vm := .none } : Cell) = H1
  have z1 : H1.size = H.size + 1 := by rw [← hH1, Array.size_push]
  have e1 : H1[H.size]? = some (arrV (dA a) n.toNatClampNeg (fun _ => .null)) := by rw [← hH1, Array.getElem?_push_size, ← arrV_new]
  have o1 : ∀ q : Nat, q < H.size → H1[q]? = H[q]? := fun q hq => by rw [← hH1, Array.getElem?_push, if_neg (Nat.ne_of_lt hq)]
  have k1 := k H1 locs (cells + 1) (slots + n.toNatClampNeg) ls (kRM_push hRM z1 o1 fun _ => by
      show H1[H.size]? = some (vp_cell _ _)
      rw [vp_cell_q, e1]
      simp only [List.length_replicate, hsm]
      rfl) ⟨Nat.le_trans hS.1 (by omega), fun q h1 h2 => (o1 q (Nat.lt_of_lt_of_le h1 hS.1)).trans (hS.2.1 q h1 h2), hS.2.2⟩ hl (by rw [List.length_append]; simp; omega) (by rw [kSl_app]; simp [kSz]; omega)
  rw [List.map_cons] at k1
  have e2 : kV (kAd ext base) (.ref (kNew mem)) = .ref H.size := by show Value.ref _ = _; rw [kAd_new hRM]
  rw [e2] at k1
  exact k1
end KROWS
