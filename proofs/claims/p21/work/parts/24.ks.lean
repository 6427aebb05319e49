set_option maxRecDepth 20000
/-! ===== the world at the law's entry (by program) ===== -/
/-- Knitstead.STEP_EATS -/
def kAr_3 : List Int32 := [0, 1, 1, 0, 2, 2, 1, 0, 3, 2]
/-- Knitstead.STEP_YARN -/
def kAr_4 : List Int32 := [0, 4, 4, 3, 5, 5, 0, 0, 5, 11]
/-- Knitstead.STEP_MAKES -/
def kAr_5 : List Int32 := [0, 1, 1, 1, 1, 1, 1, 0, 1, 3]
/-- Knitstead.STEP_WANTS_ON_LEFT -/
def kAr_6 : List Int32 := [0, 1, 1, 0, 2, 2, 1, 2, 3, 2]
def kXm (L : Nat) (xs : Nat → Int32) : Nat → Option kE := fun r => if r = 0 then some (.inr (.inl (0, (List.range L).map xs))) else if r = 1 then some (.inr (.inr (2, []))) else if r = 3 then some (.inr (.inl (0, kAr_3))) else if r = 4 then some (.inr (.inl (0, kAr_4))) else if r = 5 then some (.inr (.inl (0, kAr_5))) else if r = 6 then some (.inr (.inl (0, kAr_6))) else if r = 9 then some (.inr (.inr (4, (List.range 256).map (fun j => some (100 + j))))) else if 100 ≤ r ∧ r < 356 then some (.inl (2, [.int (vb_c (r - 100))])) else none
def kSm : Nat → Option Value := fun k => match k with
  | 0 => some (.ref 3)
  | 1 => some (.ref 4)
  | 2 => some (.ref 5)
  | 3 => some (.ref 6)
  | 4 => some (.int 1)
  | 7 => some (.int 127)
  | 8 => some (.ref 9)
  | 10 => some (.ref 1)
  | _ => none
def kExt (b t1 t2 t3 t4 t5 t6 t9 : Nat) (ad : Nat → Nat) : Nat → Nat := fun r => if r = 1 then t1 else if r = 2 then t2 else if r = 3 then t3 else if r = 4 then t4 else if r = 5 then t5 else if r = 6 then t6 else if r = 9 then t9 else if 100 ≤ r ∧ r < 356 then ad (r - 100) else b
theorem kT_congr {ty : FieldType} {t N : Nat} {f g : Nat → Value} {A : Nat → Prop} {U : State} {H : Heap} (h : va_T ty t N f A U H) (hfg : ∀ j, j < N → f j = g j) : va_T ty t N g A U H := by
  obtain ⟨cell, h1, h2, h3, h4, h5, h6, h7⟩ := h
  exact ⟨cell, h1, h2, h3, h4, h5, fun j hj => by rw [← hfg j hj]; exact h6 j hj, h7⟩
theorem kT_lt {ty : FieldType} {t N : Nat} {f : Nat → Value} {A : Nat → Prop} {U : State} {H : Heap} (h : va_T ty t N f A U H) : t < H.size := by
  obtain ⟨cell, h1, -⟩ := h
  exact (Array.getElem?_eq_some_iff.mp h1).1
theorem kO_lt {E : String} {t : Nat} {A : Nat → Prop} {U : State} {H : Heap} (h : va_O E t A U H) : t < H.size := by
  obtain ⟨cell, h1, -⟩ := h
  exact (Array.getElem?_eq_some_iff.mp h1).1
theorem kX_T {b L : Nat} {xs : Nat → Int32} {s : State} {H : Heap} {A : Nat → Prop} (h : va_X b L xs s H) (hA : ¬ A b) : va_T .int b L (fun j => .int (xs j)) A s H := by
  obtain ⟨scr, hcb, hof, hkn, hsz, hval⟩ := h
  exact ⟨scr, hcb, hof, hkn, by omega, by rw [hsz], hval, hA⟩
theorem kEls {args : Array Value} {s : State} {T : Jvm.Cond} {tm : Term} {N : Nat} {l : List Int32} (hs : ∀ c ∈ flatC T, c.before args s = true) (h : (List.range N).all (fun j => decide (Jvm.Cond.eq (.elem tm (.int (Int32.ofNat j))) (.int (l.getD j 0)) ∈ flatC T)) = true) : ∀ j : Nat, j < N → (Term.elem tm (.int (Int32.ofNat j))).eval args s none [] s = some (.int (l.getD j 0)) := fun j hj => va_eqt (hs _ (by have := List.all_eq_true.mp h j (List.mem_range.mpr hj); simpa using this))
theorem kStrOf {args : Array Value} {s : State} {own tx : String} {k : Nat} (h1 : (Jvm.Cond.stringRef own k tx).before args s = true) (h2 : (Jvm.Cond.exactly (.string own k) "java/lang/String").before args s = true) : ∃ sa, vk_R own k tx sa s := by
  obtain ⟨a, c, cell, k', e, -⟩ := Cond.exactly_spec h2
  exact ⟨a, vk_R.of h1 e⟩
theorem kArrI {args : Array Value} {s : State} {ty : FieldType} (h : (Jvm.Cond.arrayClass ty).before args s = true) : ∃ cA, ArrOfT s cA ty ∧ s.vm.findClass ("[" ++ ty.toString) = some cA := by
  obtain ⟨cA, kA, comp, h1, h2, h3⟩ := Cond.arrayClass_spec h
  exact ⟨cA, fun n z => ⟨fun k h => (by cases h), kA, h2, comp, h3⟩, h1⟩
theorem kArrO {args : Array Value} {s : State} {C : String} (h : (Jvm.Cond.arrayOver (.object C)).before args s = true) : ∃ cA, ArrOfT s cA (.object C) ∧ va_RA s cA (.object C) := by
  obtain ⟨comp, cA, kA, h1, -, h2, h3, h4⟩ := Cond.arrayOver_spec h
  exact ⟨cA, fun n z => ⟨fun k h => (by cases h), kA, h2, comp, h3⟩, kA, comp, h2, h3, h1, h4⟩
theorem kD_of {s : State} (h : ∀ q ∈ vwCl, ∃ (cC : ClassId) (iS : Nat → Nat), u_Kn s q.1 q.2.1 q.2.2 cC iS) : ∃ D : va_G, ∀ (c : Nat) (q : vw_C), vwCl[c]? = some q → u_Kn s q.1 q.2.1 q.2.2 (D.1 c) (D.2 c) := by
  have h1 : ∀ c : Nat, ∃ x : ClassId × (Nat → Nat), ∀ q : vw_C, vwCl[c]? = some q → u_Kn s q.1 q.2.1 q.2.2 x.1 x.2 := by
    intro c
    cases hc : vwCl[c]? with
    | none => exact ⟨(0, fun _ => 0), fun q hq => by cases hq⟩
    | some q =>
      obtain ⟨cC, iS, hq⟩ := h q (List.mem_of_getElem? hc)
      exact ⟨(cC, iS), fun q' e => by cases e; exact hq⟩
  exact ⟨(fun c => (h1 c).choose.1, fun c => (h1 c).choose.2), fun c q hq => (h1 c).choose_spec q hq⟩
theorem kTs {args : Array Value} {s : State} (hts : ∀ w ∈ lw_tbl, w.before args s = true) : ∀ w ∈ kTbl, w.before args s = true := by
  have hX : ∀ w ∈ kXsel, w.before args s = true := kcons (kSel_priv (C := "java/lang/StringBuilder") (n := 4) (C2 := "java/lang/StringBuilder") (x2 := ⟨"java/lang/AbstractStringBuilder", "isLatin1", "()Z"⟩) (y2 := ⟨"java/lang/AbstractStringBuilder", "isLatin1", "()Z"⟩) (by decide +kernel) (hts _ (by decide +kernel)) (hts _ (by decide +kernel)) (hts _ (by decide +kernel)) (hts _ (by decide +kernel)) rfl) (kcons (kSel_priv (C := "java/lang/StringBuilder") (n := 4) (C2 := "java/lang/StringBuilder") (x2 := ⟨"java/lang/AbstractStringBuilder", "isLatin1", "()Z"⟩) (y2 := ⟨"java/lang/AbstractStringBuilder", "isLatin1", "()Z"⟩) (by decide +kernel) (hts _ (by decide +kernel)) (hts _ (by decide +kernel)) (hts _ (by decide +kernel)) (hts _ (by decide +kernel)) rfl) (knil))
  intro w hw
  rcases List.mem_append.mp (List.mem_filter.mp hw).1 with h | h
  · exact hX w h
  · exact hts w h
theorem kStart {p : Program} {s : State} {m : MethodId} {meth : Method} {c : Code} {b L : Nat} {xs : Nat → Int32} (C0 : lw_At p s m meth c b L xs) : ∃ (D : va_G) (dA : Nat → ClassId) (ext : Nat → Nat), ext 0 = b ∧ kWd D dA ext s.heap.size (kXm L xs) kSm kSn kStrs kNcs s := by
  obtain ⟨-, -, -, -, -, hts0, hX, hbl, -, hgv, -⟩ := C0
  have hts := kTs hts0
  have hs := flat_of_before _ hgv
  have hA : ∀ a : Nat, a < s.heap.size → ¬ (s.heap.size ≤ a) := fun a h => Nat.not_le.mpr h
  obtain ⟨D, hD⟩ := kD_of (s := s) (kcons (u_known hts kci_0.2.2.1 (hts (.instantiable "java/lang/String" 4) kt_2_146)) (kcons (u_known hts kci_1.2.2.1 (hts (.instantiable "java/lang/StringBuilder" 4) kt_1_233)) (kcons (u_known hts kci_2.2.2.1 (hts (.instantiable "java/lang/Integer" 1) kt_6_234)) (kcons (u_known hts kci_3.2.2.1 (hts (.instantiable "java/util/ArrayList$Itr" 4) kt_6_32)) (kcons (u_known hts kci_4.2.2.1 (hts (.instantiable "java/util/ArrayList" 3) kt_5_147)) (kcons (u_known hts kci_5.2.2.1 (hts (.instantiable "Knitstead$Balls" 3) kt_1_45)) (kcons (u_known hts kci_6.2.2.1 (hts (.instantiable "Knitstead$History" 5) kt_1_148)) (kcons (u_known hts kci_7.2.2.1 (hts (.instantiable "Knitstead$Needle" 2) kt_1_71)) (kcons (u_known hts kci_8.2.2.1 (hts (.instantiable "Knitstead$Table" 3) kt_1_86)) (kcons (u_known hts kci_9.2.2.1 (hts (.instantiable "Knitstead$Trial" 5) kt_1_174)) (kcons (u_known hts kci_10.2.2.1 (hts (.instantiable "Knitstead$Work" 10) kt_1_65)) (kcons (u_known hts kci_11.2.2.1 (hts (.instantiable "Knitstead" 8) kt_1_37)) (kcons (u_known hts kci_12.2.2.1 (hts (.instantiable "KnitsteadLaw$Out" 1) kt_3_232)) (kcons (u_known hts kci_13.2.2.1 (hts (.instantiable "KnitsteadModel$Loop" 6) kt_6_196)) (kcons (u_known hts kci_14.2.2.1 (hts (.instantiable "KnitsteadModel$State" 11) kt_5_176)) (kcons (u_known hts kci_15.2.2.1 (hts (.instantiable "KnitsteadModel" 9) kt_5_141)) (knil)))))))))))))))))
  obtain ⟨c0, hc0, hn0⟩ := kArrI (hts _ kt_1_63)
  obtain ⟨c1, hc1, hn1⟩ := kArrI (hts _ kt_2_23)
  obtain ⟨c2, hc2, hn2⟩ := kArrO (hts _ kt_6_161)
  obtain ⟨c3, hc3, hn3⟩ := kArrO (hts _ kt_1_154)
  obtain ⟨t3, e3, T3⟩ := va_Tof (tm := .static "Knitstead" "STEP_EATS" "[I") (ty := .int) (N := 10) (f := fun j => .int (kAr_3.getD j 0)) (A := fun q => s.heap.size ≤ q) (by decide) (hs _ (by decide +kernel)) (va_eqt (hs _ (by decide +kernel))) (kEls hs (by decide +kernel)) hA
  obtain ⟨t4, e4, T4⟩ := va_Tof (tm := .static "Knitstead" "STEP_YARN" "[I") (ty := .int) (N := 10) (f := fun j => .int (kAr_4.getD j 0)) (A := fun q => s.heap.size ≤ q) (by decide) (hs _ (by decide +kernel)) (va_eqt (hs _ (by decide +kernel))) (kEls hs (by decide +kernel)) hA
  obtain ⟨t5, e5, T5⟩ := va_Tof (tm := .static "Knitstead" "STEP_MAKES" "[I") (ty := .int) (N := 10) (f := fun j => .int (kAr_5.getD j 0)) (A := fun q => s.heap.size ≤ q) (by decide) (hs _ (by decide +kernel)) (va_eqt (hs _ (by decide +kernel))) (kEls hs (by decide +kernel)) hA
  obtain ⟨t6, e6, T6⟩ := va_Tof (tm := .static "Knitstead" "STEP_WANTS_ON_LEFT" "[I") (ty := .int) (N := 10) (f := fun j => .int (kAr_6.getD j 0)) (A := fun q => s.heap.size ≤ q) (by decide) (hs _ (by decide +kernel)) (va_eqt (hs _ (by decide +kernel))) (kEls hs (by decide +kernel)) hA
  obtain ⟨t1, e1, T1⟩ := va_Tof (tm := .static "java/util/ArrayList" "DEFAULTCAPACITY_EMPTY_ELEMENTDATA" "[Ljava/lang/Object;") (ty := .object "java/lang/Object") (N := 0) (f := fun _ => .null) (A := fun q => s.heap.size ≤ q) (by decide) (hs _ (by decide +kernel)) (va_eqt (hs _ (by decide +kernel))) (fun j hj => absurd hj (Nat.not_lt_zero j)) hA
  have O1 : va_O "[Ljava/lang/Object;" t1 (fun q => s.heap.size ≤ q) s s.heap := va_Oof (hs _ (by decide +kernel)) e1 hA
  obtain ⟨ad, hB, hel⟩ := vb_Cof (args := #[Value.ref b]) (s := s) (A := fun q => s.heap.size ≤ q) (st := .static "java/lang/Integer$IntegerCache" "cache" "[Ljava/lang/Integer;") (by decide +kernel) (va_eqt (hs _ (by decide +kernel))) (hs _ (by decide +kernel)) hA
  obtain ⟨t9, e9, T9⟩ := va_Tof (tm := .static "java/lang/Integer$IntegerCache" "cache" "[Ljava/lang/Integer;") (ty := .object "java/lang/Integer") (N := 256) (f := fun j => .ref (ad j)) (A := fun q => s.heap.size ≤ q) (by decide) (hs _ (by decide +kernel)) (va_eqt (hs _ (by decide +kernel))) hel hA
  obtain ⟨t2, hM⟩ := va_Mi.of (args := #[Value.ref b]) (s := s) (C := "[Ljava/lang/Object;") (hs _ (by decide +kernel))
  refine ⟨D, fun k => match k with | 0 => c0 | 1 => c1 | 2 => c2 | _ => c3, kExt b t1 t2 t3 t4 t5 t6 t9 ad, rfl, ?_, Nat.le_refl _, ⟨hD, ?_⟩, ?_, ?_, hM, ?_, ?_, ?_, ?_, ?_⟩
  · intro r hr h2
    unfold kExt
    by_cases g1 : r = 1
    · rw [if_pos g1]; exact kT_lt T1
    rw [if_neg g1, if_neg h2]
    by_cases g3 : r = 3
    · rw [if_pos g3]; exact kT_lt T3
    rw [if_neg g3]
    by_cases g4 : r = 4
    · rw [if_pos g4]; exact kT_lt T4
    rw [if_neg g4]
    by_cases g5 : r = 5
    · rw [if_pos g5]; exact kT_lt T5
    rw [if_neg g5]
    by_cases g6 : r = 6
    · rw [if_pos g6]; exact kT_lt T6
    rw [if_neg g6]
    by_cases g9 : r = 9
    · rw [if_pos g9]; exact kT_lt T9
    rw [if_neg g9]
    by_cases gI : 100 ≤ r ∧ r < 356
    · rw [if_pos gI]; exact kO_lt (hB.1 _ (by omega))
    rw [if_neg gI]; exact hbl
  · intro k q hq
    match k, hq with
    | 0, hq => cases hq; exact ⟨hc0, hn0⟩
    | 1, hq => cases hq; exact ⟨hc1, hn1⟩
    | 2, hq => cases hq; exact ⟨hc2, hn2⟩
    | 3, hq => cases hq; exact ⟨hc3, hn3⟩
    | (k + 4), hq => cases hq
  · intro r e hr hx
    unfold kXm at hx
    by_cases g0 : r = 0
    · rw [if_pos g0] at hx
      cases hx
      subst g0
      have T0 := kX_T hX (A := fun q => s.heap.size ≤ q) (hA _ hbl)
      show va_T .int b ((List.range L).map xs).length _ _ _ _
      rw [show ((List.range L).map xs).length = L by simp]
      exact kT_congr T0 (fun j hj => by simp [List.getD, hj])
    rw [if_neg g0] at hx
    by_cases g1 : r = 1
    · rw [if_pos g1] at hx
      cases hx
      subst g1
      exact kT_congr (N := 0) T1 (fun j hj => absurd hj (Nat.not_lt_zero j))
    rw [if_neg g1] at hx
    by_cases g3 : r = 3
    · rw [if_pos g3] at hx
      cases hx
      subst g3
      exact T3
    rw [if_neg g3] at hx
    by_cases g4 : r = 4
    · rw [if_pos g4] at hx
      cases hx
      subst g4
      exact T4
    rw [if_neg g4] at hx
    by_cases g5 : r = 5
    · rw [if_pos g5] at hx
      cases hx
      subst g5
      exact T5
    rw [if_neg g5] at hx
    by_cases g6 : r = 6
    · rw [if_pos g6] at hx
      cases hx
      subst g6
      exact T6
    rw [if_neg g6] at hx
    by_cases g9 : r = 9
    · rw [if_pos g9] at hx
      cases hx
      subst g9
      show va_T (.object "java/lang/Integer") t9 ((List.range 256).map (fun j => some (100 + j))).length _ _ _ _
      rw [show ((List.range 256).map (fun j => some (100 + j))).length = 256 by simp]
      refine kT_congr T9 (fun j hj => ?_)
      have e0 : ((List.range 256).map (fun j => some (100 + j))).getD j none = some (100 + j) := by simp [List.getD, hj]
      rw [e0]
      show Value.ref (ad j) = va_rf (some (kAd _ _ (100 + j)))
      have e2 : kAd (kExt b t1 t2 t3 t4 t5 t6 t9 ad) s.heap.size (100 + j) = ad j := by
        unfold kAd kExt
        rw [if_pos (by omega), if_neg (by omega), if_neg (by omega), if_neg (by omega), if_neg (by omega), if_neg (by omega), if_neg (by omega), if_neg (by omega), if_pos (by omega)]
        congr 1
        omega
      rw [e2]
      rfl
    rw [if_neg g9] at hx
    by_cases gI : 100 ≤ r ∧ r < 356
    · rw [if_pos gI] at hx
      cases hx
      have e2 : kAd (kExt b t1 t2 t3 t4 t5 t6 t9 ad) s.heap.size r = ad (r - 100) := by
        unfold kAd kExt
        rw [if_pos (by omega), if_neg (by omega), if_neg (by omega), if_neg (by omega), if_neg (by omega), if_neg (by omega), if_neg (by omega), if_neg (by omega), if_pos gI]
      rw [e2]
      refine ⟨_, _, _, rfl, hB.1 _ (by omega), fun k v hk => ?_⟩
      match k, hk with
      | 0, hk => cases hk; exact hB.2 (r - 100) (by omega)
      | (k + 1), hk => cases hk
    rw [if_neg gI] at hx
    cases hx
  · intro k v hk
    match k, hk with
    | 0, hk => cases hk; exact va_Zof (hts0 _ (kL3 (List.mem_of_getElem? (i := 162) rfl))) (hts _ kt_1_1) e3 hA
    | 1, hk => cases hk; exact va_Zof (hts0 _ (kL3 (List.mem_of_getElem? (i := 166) rfl))) (hts _ kt_1_1) e4 hA
    | 2, hk => cases hk; exact va_Zof (hts0 _ (kL3 (List.mem_of_getElem? (i := 157) rfl))) (hts _ kt_1_1) e5 hA
    | 3, hk => cases hk; exact va_Zof (hts0 _ (kL3 (List.mem_of_getElem? (i := 164) rfl))) (hts _ kt_1_1) e6 hA
    | 4, hk => cases hk; exact va_Zof (hts0 _ (kL2 (List.mem_of_getElem? (i := 2) rfl))) (hts _ kt_1_33) (va_eqt (hs _ (by decide +kernel))) hA
    | 5, hk => cases hk
    | 6, hk => cases hk
    | 7, hk => cases hk; exact va_Zof (hts0 _ (kL6 (List.mem_of_getElem? (i := 230) rfl))) (hts _ kt_1_30) (va_eqt (hs _ (by decide +kernel))) hA
    | 8, hk => cases hk; exact va_Zof (hts0 _ (kL6 (List.mem_of_getElem? (i := 232) rfl))) (hts _ kt_1_30) e9 hA
    | 9, hk => cases hk
    | 10, hk => cases hk; exact va_Zof (hts0 _ (kL5 (List.mem_of_getElem? (i := 159) rfl))) (hts _ kt_1_12) e1 hA
    | (k + 11), hk => cases hk
  · intro r l hr hx
    have g : r = 1 := by
      unfold kXm at hx
      by_cases g1 : r = 1
      · exact g1
      · exfalso
        revert hx
        repeat' split
        all_goals (intro hx; first | exact absurd ‹r = 1› g1 | cases hx)
    subst g
    exact O1
  · exact vx_Zqof (hts0 _ (kL2 (List.mem_of_getElem? (i := 204) rfl))) (hts _ kt_1_15) (hs _ (by decide +kernel)) hA
  · exact vx_Zqof (hts0 _ (kL2 (List.mem_of_getElem? (i := 206) rfl))) (hts _ kt_1_15) (hs _ (by decide +kernel)) hA
  · exact kcons (kStrOf (hts0 _ (kL4 (List.mem_of_getElem? (i := 11) rfl))) (hs _ (by decide +kernel))) (kcons (kStrOf (hts0 _ (kL4 (List.mem_of_getElem? (i := 22) rfl))) (hs _ (by decide +kernel))) (kcons (kStrOf (hts0 _ (kL4 (List.mem_of_getElem? (i := 51) rfl))) (hs _ (by decide +kernel))) (kcons (kStrOf (hts0 _ (kL4 (List.mem_of_getElem? (i := 65) rfl))) (hs _ (by decide +kernel))) (kcons (kStrOf (hts0 _ (kL4 (List.mem_of_getElem? (i := 66) rfl))) (hs _ (by decide +kernel))) (kcons (kStrOf (hts0 _ (kL4 (List.mem_of_getElem? (i := 143) rfl))) (hs _ (by decide +kernel))) (kcons (kStrOf (hts0 _ (kL4 (List.mem_of_getElem? (i := 167) rfl))) (hs _ (by decide +kernel))) (kcons (kStrOf (hts0 _ (kL4 (List.mem_of_getElem? (i := 179) rfl))) (hs _ (by decide +kernel))) (kcons (kStrOf (hts0 _ (kL4 (List.mem_of_getElem? (i := 180) rfl))) (hs _ (by decide +kernel))) (kcons (kStrOf (hts0 _ (kL4 (List.mem_of_getElem? (i := 192) rfl))) (hs _ (by decide +kernel))) (kcons (kStrOf (hts0 _ (kL4 (List.mem_of_getElem? (i := 204) rfl))) (hs _ (by decide +kernel))) (kcons (kStrOf (hts0 _ (kL4 (List.mem_of_getElem? (i := 205) rfl))) (hs _ (by decide +kernel))) (kcons (kStrOf (hts0 _ (kL4 (List.mem_of_getElem? (i := 221) rfl))) (hs _ (by decide +kernel))) (kcons (kStrOf (hts0 _ (kL4 (List.mem_of_getElem? (i := 233) rfl))) (hs _ (by decide +kernel))) (kcons (kStrOf (hts0 _ (kL4 (List.mem_of_getElem? (i := 234) rfl))) (hs _ (by decide +kernel))) (kcons (kStrOf (hts0 _ (kL4 (List.mem_of_getElem? (i := 235) rfl))) (hs _ (by decide +kernel))) (kcons (kStrOf (hts0 _ (kL5 (List.mem_of_getElem? (i := 15) rfl))) (hs _ (by decide +kernel))) (kcons (kStrOf (hts0 _ (kL5 (List.mem_of_getElem? (i := 27) rfl))) (hs _ (by decide +kernel))) (kcons (kStrOf (hts0 _ (kL5 (List.mem_of_getElem? (i := 28) rfl))) (hs _ (by decide +kernel))) (kcons (kStrOf (hts0 _ (kL5 (List.mem_of_getElem? (i := 40) rfl))) (hs _ (by decide +kernel))) (kcons (kStrOf (hts0 _ (kL5 (List.mem_of_getElem? (i := 41) rfl))) (hs _ (by decide +kernel))) (kcons (kStrOf (hts0 _ (kL5 (List.mem_of_getElem? (i := 60) rfl))) (hs _ (by decide +kernel))) (kcons (kStrOf (hts0 _ (kL5 (List.mem_of_getElem? (i := 72) rfl))) (hs _ (by decide +kernel))) (kcons (kStrOf (hts0 _ (kL5 (List.mem_of_getElem? (i := 85) rfl))) (hs _ (by decide +kernel))) (kcons (kStrOf (hts0 _ (kL5 (List.mem_of_getElem? (i := 93) rfl))) (hs _ (by decide +kernel))) (kcons (kStrOf (hts0 _ (kL5 (List.mem_of_getElem? (i := 94) rfl))) (hs _ (by decide +kernel))) (kcons (kStrOf (hts0 _ (kL5 (List.mem_of_getElem? (i := 102) rfl))) (hs _ (by decide +kernel))) (kcons (kStrOf (hts0 _ (kL5 (List.mem_of_getElem? (i := 110) rfl))) (hs _ (by decide +kernel))) (kcons (kStrOf (hts0 _ (kL5 (List.mem_of_getElem? (i := 125) rfl))) (hs _ (by decide +kernel))) (knil)))))))))))))))))))))))))))))
  · exact kcons (va_Nc.of (hs _ (by decide +kernel))) (kcons (va_Nc.of (hs _ (by decide +kernel))) (kcons (va_Nc.of (hs _ (by decide +kernel))) (kcons (va_Nc.of (hs _ (by decide +kernel))) (kcons (va_Nc.of (hs _ (by decide +kernel))) (kcons (va_Nc.of (hs _ (by decide +kernel))) (knil))))))
