/-! ===== the words that the tables' entries stand on (by program) ===== -/
theorem kWm {w : Jvm.Cond} (h : w ∈ tables_1) (g : kGw w = true) : w ∈ kTbl := List.mem_filter.mpr ⟨List.mem_append_right _ (List.mem_append_right _ h), g⟩
theorem kWp {q : MethodName × Nat} (h : q ∈ lw_privs) (g : kGw (.selects q.1.cls q.1 q.1) = true) : Jvm.Cond.selects q.1.cls q.1 q.1 ∈ kTbl := List.mem_filter.mpr ⟨List.mem_append_right _ (List.mem_append_left _ (List.mem_map_of_mem (f := fun q : MethodName × Nat => Jvm.Cond.selects q.1.cls q.1 q.1) h)), g⟩
theorem kWx {w : Jvm.Cond} (h : w ∈ kXsel) (g : kGw w = true) : w ∈ kTbl := List.mem_filter.mpr ⟨List.mem_append_left _ h, g⟩
theorem kL1 {w : Jvm.Cond} (h : w ∈ tables_1_1) : w ∈ lw_tbl := List.mem_append_right _ (show w ∈ tables_1_1 ++ (tables_1_2 ++ (tables_1_3 ++ (tables_1_4 ++ (tables_1_5)))) from List.mem_append_left _ h)
theorem kW1 {w : Jvm.Cond} (h : w ∈ tables_1_1) (g : kGw w = true) : w ∈ kTbl := kWm (show w ∈ tables_1_1 ++ (tables_1_2 ++ (tables_1_3 ++ (tables_1_4 ++ (tables_1_5)))) from List.mem_append_left _ h) g
theorem kL2 {w : Jvm.Cond} (h : w ∈ tables_1_2) : w ∈ lw_tbl := List.mem_append_right _ (show w ∈ tables_1_1 ++ (tables_1_2 ++ (tables_1_3 ++ (tables_1_4 ++ (tables_1_5)))) from List.mem_append_right _ (List.mem_append_left _ h))
theorem kW2 {w : Jvm.Cond} (h : w ∈ tables_1_2) (g : kGw w = true) : w ∈ kTbl := kWm (show w ∈ tables_1_1 ++ (tables_1_2 ++ (tables_1_3 ++ (tables_1_4 ++ (tables_1_5)))) from List.mem_append_right _ (List.mem_append_left _ h)) g
theorem kL3 {w : Jvm.Cond} (h : w ∈ tables_1_3) : w ∈ lw_tbl := List.mem_append_right _ (show w ∈ tables_1_1 ++ (tables_1_2 ++ (tables_1_3 ++ (tables_1_4 ++ (tables_1_5)))) from List.mem_append_right _ (List.mem_append_right _ (List.mem_append_left _ h)))
theorem kW3 {w : Jvm.Cond} (h : w ∈ tables_1_3) (g : kGw w = true) : w ∈ kTbl := kWm (show w ∈ tables_1_1 ++ (tables_1_2 ++ (tables_1_3 ++ (tables_1_4 ++ (tables_1_5)))) from List.mem_append_right _ (List.mem_append_right _ (List.mem_append_left _ h))) g
theorem kL4 {w : Jvm.Cond} (h : w ∈ tables_1_4) : w ∈ lw_tbl := List.mem_append_right _ (show w ∈ tables_1_1 ++ (tables_1_2 ++ (tables_1_3 ++ (tables_1_4 ++ (tables_1_5)))) from List.mem_append_right _ (List.mem_append_right _ (List.mem_append_right _ (List.mem_append_left _ h))))
theorem kW4 {w : Jvm.Cond} (h : w ∈ tables_1_4) (g : kGw w = true) : w ∈ kTbl := kWm (show w ∈ tables_1_1 ++ (tables_1_2 ++ (tables_1_3 ++ (tables_1_4 ++ (tables_1_5)))) from List.mem_append_right _ (List.mem_append_right _ (List.mem_append_right _ (List.mem_append_left _ h)))) g
theorem kL5 {w : Jvm.Cond} (h : w ∈ tables_1_5) : w ∈ lw_tbl := List.mem_append_right _ (show w ∈ tables_1_1 ++ (tables_1_2 ++ (tables_1_3 ++ (tables_1_4 ++ (tables_1_5)))) from List.mem_append_right _ (List.mem_append_right _ (List.mem_append_right _ (List.mem_append_right _ (h)))))
theorem kW5 {w : Jvm.Cond} (h : w ∈ tables_1_5) (g : kGw w = true) : w ∈ kTbl := kWm (show w ∈ tables_1_1 ++ (tables_1_2 ++ (tables_1_3 ++ (tables_1_4 ++ (tables_1_5)))) from List.mem_append_right _ (List.mem_append_right _ (List.mem_append_right _ (List.mem_append_right _ (h))))) g
theorem kxW {l : List Jvm.Cond} (h : l.all (fun w => decide (w ∈ tables_1) && kGw w && vx_ot w) = true) : ∀ w ∈ l, w ∈ kTbl ∧ vx_ot w = true := by
  intro w hw
  have := List.all_eq_true.mp h w hw
  simp only [Bool.and_eq_true, decide_eq_true_eq] at this
  exact ⟨kWm this.1.1 this.1.2, this.2⟩
theorem kInM {a : Nat} {q : Nat × kMI × List (Nat × Instr × Nat × Nat)} (h : kMth a = some q) : kInf a = q.2.1 := by unfold kInf; rw [h]
theorem kCalM {a n nl : Nat} {y : MethodName} {c : ByteArray} {rt : Option FieldType} (h0 : a ≠ 0) (hi : kInf a = (y, c, nl, rt, none)) (hw : Jvm.Cond.code y c nl rt ∈ kTbl) (hini : Jvm.Cond.initialized y.cls ∈ kTbl) (hne : y.cls ≠ "java/lang/invoke/MethodHandle" ∧ y.cls ≠ "java/lang/invoke/VarHandle") (hnl : nl ≤ 200) (hp : (parseMethodDescriptor y.desc).map (fun d => d.parameters.length) = some n) : kCalOk a y n none rt := by
  have e1 : kY a = y := congrArg (·.1) hi
  have e2 : kBy a = c := congrArg (·.2.1) hi
  have e3 : kNL a = nl := congrArg (·.2.2.1) hi
  have e4 : kRT a = rt := congrArg (·.2.2.2.1) hi
  have e5 : kHH a = none := congrArg (·.2.2.2.2) hi
  exact ⟨h0, e1, (by unfold kHd; rw [e5, e1, e2, e3, e4]; exact hw), hini, hne, (by rw [e3]; exact hnl), hp, e5, e4⟩
theorem kCalMH {a n nl : Nat} {y : MethodName} {c : ByteArray} {rt : Option FieldType} {hh : List (Nat × Nat × Nat × Nat)} (h0 : a ≠ 0) (hi : kInf a = (y, c, nl, rt, some hh)) (hw : Jvm.Cond.codeWith y c nl rt hh ∈ kTbl) (hini : Jvm.Cond.initialized y.cls ∈ kTbl) (hne : y.cls ≠ "java/lang/invoke/MethodHandle" ∧ y.cls ≠ "java/lang/invoke/VarHandle") (hnl : nl ≤ 200) (hp : (parseMethodDescriptor y.desc).map (fun d => d.parameters.length) = some n) : kCalOk a y n (some hh) rt := by
  have e1 : kY a = y := congrArg (·.1) hi
  have e2 : kBy a = c := congrArg (·.2.1) hi
  have e3 : kNL a = nl := congrArg (·.2.2.1) hi
  have e4 : kRT a = rt := congrArg (·.2.2.2.1) hi
  have e5 : kHH a = some hh := congrArg (·.2.2.2.2) hi
  exact ⟨h0, e1, (by unfold kHd; rw [e5, e1, e2, e3, e4]; exact hw), hini, hne, (by rw [e3]; exact hnl), hp, e5, e4⟩
theorem kEc {own mn : String} {cc : ByteArray} {rt : Option FieldType} {hh : Option (List (Nat × Nat × Nat × Nat))} {a : Nat × Instr × Nat × Nat} {l : List (Nat × Instr × Nat × Nat)} (h : kEnt own mn cc rt hh a) (t : ∀ x ∈ l, kEnt own mn cc rt hh x) : ∀ x ∈ a :: l, kEnt own mn cc rt hh x := List.forall_mem_cons.mpr ⟨h, t⟩
theorem kEz {own mn : String} {cc : ByteArray} {rt : Option FieldType} {hh : Option (List (Nat × Nat × Nat × Nat))} : ∀ x ∈ ([] : List (Nat × Instr × Nat × Nat)), kEnt own mn cc rt hh x := fun _ h => absurd h List.not_mem_nil
theorem kFetch_some {mi pc : Nat} {x : kI} (h : kFetch mi pc = some x) : ∃ q ∈ kMz, q.1 = mi ∧ kInf mi = q.2.1 ∧ ∃ e ∈ q.2.2, e.1 = pc ∧ e.2 = x := by
  unfold kFetch at h
  split at h
  · cases h
  · rename_i q hq
    have hm := List.mem_of_find?_eq_some hq
    have h1 := List.find?_some hq
    obtain ⟨e, he, hx⟩ := Option.map_eq_some_iff.mp h
    have h2 := List.find?_some he
    exact ⟨q, hm, by simpa using h1, kInM hq, e, List.mem_of_find?_eq_some he, by simpa using h2, hx⟩
theorem kHand_some {mi pc n h1 i1 : Nat} (h : kHand mi pc n = some (h1, i1)) : ∃ q ∈ kHz, q.1 = mi ∧ q.2.1 = pc ∧ q.2.2.1 = n ∧ q.2.2.2.1 = h1 ∧ q.2.2.2.2 = i1 := by
  unfold kHand at h
  obtain ⟨e, he, hx⟩ := Option.map_eq_some_iff.mp h
  have h2 := List.find?_some he
  simp only [Bool.and_eq_true, beq_iff_eq] at h2
  exact ⟨e, List.mem_of_find?_eq_some he, h2.1.1, h2.1.2, h2.2, congrArg (·.1) hx, congrArg (·.2) hx⟩
theorem kt_1_0 : (Jvm.Cond.initialized "KnitsteadLaw") ∈ kTbl := kW1 (List.mem_of_getElem? (i := 0) rfl) rfl
theorem kt_1_1 : (Jvm.Cond.initialized "Knitstead") ∈ kTbl := kW1 (List.mem_of_getElem? (i := 1) rfl) rfl
theorem kt_1_2 : (Jvm.Cond.initialized "Knitstead$Balls") ∈ kTbl := kW1 (List.mem_of_getElem? (i := 2) rfl) rfl
theorem kt_1_3 : (Jvm.Cond.initialized "Knitstead$Work") ∈ kTbl := kW1 (List.mem_of_getElem? (i := 3) rfl) rfl
theorem kt_1_4 : (Jvm.Cond.initialized "Knitstead$Needle") ∈ kTbl := kW1 (List.mem_of_getElem? (i := 4) rfl) rfl
theorem kt_1_5 : (Jvm.Cond.initialized "Knitstead$Table") ∈ kTbl := kW1 (List.mem_of_getElem? (i := 5) rfl) rfl
theorem kt_1_6 : (Jvm.Cond.initialized "java/lang/Math") ∈ kTbl := kW1 (List.mem_of_getElem? (i := 6) rfl) rfl
theorem kt_1_7 : (Jvm.Cond.initialized "Knitstead$History") ∈ kTbl := kW1 (List.mem_of_getElem? (i := 7) rfl) rfl
theorem kt_1_8 : (Jvm.Cond.initialized "Knitstead$Trial") ∈ kTbl := kW1 (List.mem_of_getElem? (i := 8) rfl) rfl
theorem kt_1_9 : (Jvm.Cond.initialized "java/lang/Throwable") ∈ kTbl := kW1 (List.mem_of_getElem? (i := 9) rfl) rfl
theorem kt_1_12 : (Jvm.Cond.initialized "java/lang/IllegalArgumentException") ∈ kTbl := kW1 (List.mem_of_getElem? (i := 12) rfl) rfl
theorem kt_1_13 : (Jvm.Cond.initialized "java/lang/IllegalStateException") ∈ kTbl := kW1 (List.mem_of_getElem? (i := 13) rfl) rfl
theorem kt_1_14 : (Jvm.Cond.initialized "java/lang/IndexOutOfBoundsException") ∈ kTbl := kW1 (List.mem_of_getElem? (i := 14) rfl) rfl
theorem kt_1_15 : (Jvm.Cond.initialized "java/lang/System") ∈ kTbl := kW1 (List.mem_of_getElem? (i := 15) rfl) rfl
theorem kt_1_16 : (Jvm.Cond.initialized "java/util/Arrays") ∈ kTbl := kW1 (List.mem_of_getElem? (i := 16) rfl) rfl
theorem kt_1_17 : (Jvm.Cond.initialized "java/lang/AbstractStringBuilder") ∈ kTbl := kW1 (List.mem_of_getElem? (i := 17) rfl) rfl
theorem kt_1_18 : (Jvm.Cond.initialized "java/lang/StringBuilder") ∈ kTbl := kW1 (List.mem_of_getElem? (i := 18) rfl) rfl
theorem kt_1_19 : (Jvm.Cond.initialized "java/lang/String") ∈ kTbl := kW1 (List.mem_of_getElem? (i := 19) rfl) rfl
theorem kt_1_21 : (Jvm.Cond.initialized "jdk/internal/util/ArraysSupport") ∈ kTbl := kW1 (List.mem_of_getElem? (i := 21) rfl) rfl
theorem kt_1_22 : (Jvm.Cond.initialized "java/lang/StringLatin1") ∈ kTbl := kW1 (List.mem_of_getElem? (i := 22) rfl) rfl
theorem kt_1_23 : (Jvm.Cond.initialized "jdk/internal/util/Preconditions") ∈ kTbl := kW1 (List.mem_of_getElem? (i := 23) rfl) rfl
theorem kt_1_24 : (Jvm.Cond.methodLink "KnitsteadLaw" (29 : Nat) ({ cls := "Knitstead", name := "cast", desc := "(I)I" } : Jvm.MethodName)) ∈ kTbl := kW1 (List.mem_of_getElem? (i := 24) rfl) rfl
theorem kt_1_25 : (Jvm.Cond.instanceMethod ({ cls := "Knitstead", name := "cast", desc := "(I)I" } : Jvm.MethodName)) ∈ kTbl := kW1 (List.mem_of_getElem? (i := 25) rfl) rfl
theorem kt_1_26 : (Jvm.Cond.selects "Knitstead" ({ cls := "Knitstead", name := "cast", desc := "(I)I" } : Jvm.MethodName) ({ cls := "Knitstead", name := "cast", desc := "(I)I" } : Jvm.MethodName)) ∈ kTbl := kW1 (List.mem_of_getElem? (i := 26) rfl) rfl
theorem kt_1_27 : (Jvm.Cond.code ({ cls := "Knitstead", name := "cast", desc := "(I)I" } : Jvm.MethodName) prog_1_method_4_code (3 : Nat) (Option.some Jvm.ClassFile.FieldType.int)) ∈ kTbl := kW1 (List.mem_of_getElem? (i := 27) rfl) rfl
theorem kt_1_28 : (Jvm.Cond.classLink "Knitstead" (52 : Nat) "java/lang/IllegalArgumentException") ∈ kTbl := kW1 (List.mem_of_getElem? (i := 28) rfl) rfl
theorem kt_1_54 : (Jvm.Cond.instanceMethod ({ cls := "java/lang/Object", name := "<init>", desc := "()V" } : Jvm.MethodName)) ∈ kTbl := kW1 (List.mem_of_getElem? (i := 54) rfl) rfl
theorem kt_1_55 : (Jvm.Cond.code ({ cls := "java/lang/Object", name := "<init>", desc := "()V" } : Jvm.MethodName) object_method_1_code (1 : Nat) (Option.none : Option Jvm.ClassFile.FieldType)) ∈ kTbl := kW1 (List.mem_of_getElem? (i := 55) rfl) rfl
theorem kt_1_72 : (Jvm.Cond.methodLink "Knitstead" (56 : Nat) ({ cls := "java/lang/IllegalArgumentException", name := "<init>", desc := "(Ljava/lang/String;)V" } : Jvm.MethodName)) ∈ kTbl := kW1 (List.mem_of_getElem? (i := 72) rfl) rfl
theorem kt_1_97 : (Jvm.Cond.arrayClass Jvm.ClassFile.FieldType.byte) ∈ kTbl := kW1 (List.mem_of_getElem? (i := 97) rfl) rfl
theorem kt_1_98 : (Jvm.Cond.methodLink "Knitstead" (86 : Nat) ({ cls := "Knitstead$Balls", name := "ofJoined", desc := "()I" } : Jvm.MethodName)) ∈ kTbl := kW1 (List.mem_of_getElem? (i := 98) rfl) rfl
theorem kt_1_99 : (Jvm.Cond.instanceMethod ({ cls := "Knitstead$Balls", name := "ofJoined", desc := "()I" } : Jvm.MethodName)) ∈ kTbl := kW1 (List.mem_of_getElem? (i := 99) rfl) rfl
theorem kt_1_100 : (Jvm.Cond.selects "Knitstead$Balls" ({ cls := "Knitstead$Balls", name := "ofJoined", desc := "()I" } : Jvm.MethodName) ({ cls := "Knitstead$Balls", name := "ofJoined", desc := "()I" } : Jvm.MethodName)) ∈ kTbl := kW1 (List.mem_of_getElem? (i := 100) rfl) rfl
theorem kt_1_101 : (Jvm.Cond.code ({ cls := "Knitstead$Balls", name := "ofJoined", desc := "()I" } : Jvm.MethodName) prog_2_method_6_code (1 : Nat) (Option.some Jvm.ClassFile.FieldType.int)) ∈ kTbl := kW1 (List.mem_of_getElem? (i := 101) rfl) rfl
theorem kt_1_102 : (Jvm.Cond.methodLink "Knitstead$Balls" (26 : Nat) ({ cls := "Knitstead$Balls", name := "of", desc := "(I)I" } : Jvm.MethodName)) ∈ kTbl := kW1 (List.mem_of_getElem? (i := 102) rfl) rfl
theorem kt_1_103 : (Jvm.Cond.instanceMethod ({ cls := "Knitstead$Balls", name := "of", desc := "(I)I" } : Jvm.MethodName)) ∈ kTbl := kW1 (List.mem_of_getElem? (i := 103) rfl) rfl
theorem kt_1_104 : (Jvm.Cond.selects "Knitstead$Balls" ({ cls := "Knitstead$Balls", name := "of", desc := "(I)I" } : Jvm.MethodName) ({ cls := "Knitstead$Balls", name := "of", desc := "(I)I" } : Jvm.MethodName)) ∈ kTbl := kW1 (List.mem_of_getElem? (i := 104) rfl) rfl
theorem kt_1_105 : (Jvm.Cond.code ({ cls := "Knitstead$Balls", name := "of", desc := "(I)I" } : Jvm.MethodName) prog_2_method_4_code (2 : Nat) (Option.some Jvm.ClassFile.FieldType.int)) ∈ kTbl := kW1 (List.mem_of_getElem? (i := 105) rfl) rfl
theorem kt_1_106 : (Jvm.Cond.methodLink "Knitstead$Balls" (22 : Nat) ({ cls := "Knitstead$Balls", name := "has", desc := "(I)Z" } : Jvm.MethodName)) ∈ kTbl := kW1 (List.mem_of_getElem? (i := 106) rfl) rfl
theorem kt_1_107 : (Jvm.Cond.instanceMethod ({ cls := "Knitstead$Balls", name := "has", desc := "(I)Z" } : Jvm.MethodName)) ∈ kTbl := kW1 (List.mem_of_getElem? (i := 107) rfl) rfl
theorem kt_1_108 : (Jvm.Cond.selects "Knitstead$Balls" ({ cls := "Knitstead$Balls", name := "has", desc := "(I)Z" } : Jvm.MethodName) ({ cls := "Knitstead$Balls", name := "has", desc := "(I)Z" } : Jvm.MethodName)) ∈ kTbl := kW1 (List.mem_of_getElem? (i := 108) rfl) rfl
theorem kt_1_109 : (Jvm.Cond.code ({ cls := "Knitstead$Balls", name := "has", desc := "(I)Z" } : Jvm.MethodName) prog_2_method_2_code (2 : Nat) (Option.some Jvm.ClassFile.FieldType.boolean)) ∈ kTbl := kW1 (List.mem_of_getElem? (i := 109) rfl) rfl
theorem kt_1_110 : (Jvm.Cond.methodLink "Knitstead" (90 : Nat) ({ cls := "Knitstead$Work", name := "onBoth", desc := "()I" } : Jvm.MethodName)) ∈ kTbl := kW1 (List.mem_of_getElem? (i := 110) rfl) rfl
theorem kt_1_111 : (Jvm.Cond.instanceMethod ({ cls := "Knitstead$Work", name := "onBoth", desc := "()I" } : Jvm.MethodName)) ∈ kTbl := kW1 (List.mem_of_getElem? (i := 111) rfl) rfl
theorem kt_1_112 : (Jvm.Cond.selects "Knitstead$Work" ({ cls := "Knitstead$Work", name := "onBoth", desc := "()I" } : Jvm.MethodName) ({ cls := "Knitstead$Work", name := "onBoth", desc := "()I" } : Jvm.MethodName)) ∈ kTbl := kW1 (List.mem_of_getElem? (i := 112) rfl) rfl
theorem kt_1_113 : (Jvm.Cond.code ({ cls := "Knitstead$Work", name := "onBoth", desc := "()I" } : Jvm.MethodName) prog_7_method_2_code (1 : Nat) (Option.some Jvm.ClassFile.FieldType.int)) ∈ kTbl := kW1 (List.mem_of_getElem? (i := 113) rfl) rfl
theorem kt_1_114 : (Jvm.Cond.classLink "Knitstead" (63 : Nat) "java/lang/IllegalStateException") ∈ kTbl := kW1 (List.mem_of_getElem? (i := 114) rfl) rfl
theorem kt_1_116 : (Jvm.Cond.castable "java/lang/IllegalStateException" "java/lang/IllegalStateException") ∈ kTbl := kW1 (List.mem_of_getElem? (i := 116) rfl) rfl
theorem kt_1_124 : (Jvm.Cond.methodLink "Knitstead" (67 : Nat) ({ cls := "java/lang/IllegalStateException", name := "<init>", desc := "(Ljava/lang/String;)V" } : Jvm.MethodName)) ∈ kTbl := kW1 (List.mem_of_getElem? (i := 124) rfl) rfl
theorem kt_1_130 : (Jvm.Cond.methodLink "Knitstead" (95 : Nat) ({ cls := "Knitstead$History", name := "keep", desc := "(LKnitstead$Work;LKnitstead$Balls;)V" } : Jvm.MethodName)) ∈ kTbl := kW1 (List.mem_of_getElem? (i := 130) rfl) rfl
theorem kt_1_131 : (Jvm.Cond.instanceMethod ({ cls := "Knitstead$History", name := "keep", desc := "(LKnitstead$Work;LKnitstead$Balls;)V" } : Jvm.MethodName)) ∈ kTbl := kW1 (List.mem_of_getElem? (i := 131) rfl) rfl
theorem kt_1_132 : (Jvm.Cond.selects "Knitstead$History" ({ cls := "Knitstead$History", name := "keep", desc := "(LKnitstead$Work;LKnitstead$Balls;)V" } : Jvm.MethodName) ({ cls := "Knitstead$History", name := "keep", desc := "(LKnitstead$Work;LKnitstead$Balls;)V" } : Jvm.MethodName)) ∈ kTbl := kW1 (List.mem_of_getElem? (i := 132) rfl) rfl
theorem kt_1_133 : (Jvm.Cond.code ({ cls := "Knitstead$History", name := "keep", desc := "(LKnitstead$Work;LKnitstead$Balls;)V" } : Jvm.MethodName) prog_3_method_3_code (3 : Nat) (Option.none : Option Jvm.ClassFile.FieldType)) ∈ kTbl := kW1 (List.mem_of_getElem? (i := 133) rfl) rfl
theorem kt_1_134 : (Jvm.Cond.methodLink "Knitstead$History" (29 : Nat) ({ cls := "Knitstead$History", name := "isSlot", desc := "(I)Z" } : Jvm.MethodName)) ∈ kTbl := kW1 (List.mem_of_getElem? (i := 134) rfl) rfl
theorem kt_1_136 : (Jvm.Cond.instanceMethod ({ cls := "Knitstead$History", name := "isSlot", desc := "(I)Z" } : Jvm.MethodName)) ∈ kTbl := kW1 (List.mem_of_getElem? (i := 136) rfl) rfl
theorem kt_1_137 : (Jvm.Cond.instantiable "Knitstead$History" (5 : Nat)) ∈ kTbl := kW1 (List.mem_of_getElem? (i := 137) rfl) rfl
theorem kt_1_138 : (Jvm.Cond.code ({ cls := "Knitstead$History", name := "isSlot", desc := "(I)Z" } : Jvm.MethodName) prog_3_method_2_code (2 : Nat) (Option.some Jvm.ClassFile.FieldType.boolean)) ∈ kTbl := kW1 (List.mem_of_getElem? (i := 138) rfl) rfl
theorem kt_1_139 : (Jvm.Cond.methodLink "Knitstead$History" (33 : Nat) ({ cls := "Knitstead$Work", name := "copyFrom", desc := "(LKnitstead$Work;)V" } : Jvm.MethodName)) ∈ kTbl := kW1 (List.mem_of_getElem? (i := 139) rfl) rfl
theorem kt_1_140 : (Jvm.Cond.instanceMethod ({ cls := "Knitstead$Work", name := "copyFrom", desc := "(LKnitstead$Work;)V" } : Jvm.MethodName)) ∈ kTbl := kW1 (List.mem_of_getElem? (i := 140) rfl) rfl
theorem kt_1_141 : (Jvm.Cond.selects "Knitstead$Work" ({ cls := "Knitstead$Work", name := "copyFrom", desc := "(LKnitstead$Work;)V" } : Jvm.MethodName) ({ cls := "Knitstead$Work", name := "copyFrom", desc := "(LKnitstead$Work;)V" } : Jvm.MethodName)) ∈ kTbl := kW1 (List.mem_of_getElem? (i := 141) rfl) rfl
theorem kt_1_142 : (Jvm.Cond.code ({ cls := "Knitstead$Work", name := "copyFrom", desc := "(LKnitstead$Work;)V" } : Jvm.MethodName) prog_7_method_8_code (2 : Nat) (Option.none : Option Jvm.ClassFile.FieldType)) ∈ kTbl := kW1 (List.mem_of_getElem? (i := 142) rfl) rfl
theorem kt_1_143 : (Jvm.Cond.methodLink "Knitstead$Work" (53 : Nat) ({ cls := "Knitstead$Needle", name := "copyFrom", desc := "(LKnitstead$Needle;)V" } : Jvm.MethodName)) ∈ kTbl := kW1 (List.mem_of_getElem? (i := 143) rfl) rfl
theorem kt_1_144 : (Jvm.Cond.instanceMethod ({ cls := "Knitstead$Needle", name := "copyFrom", desc := "(LKnitstead$Needle;)V" } : Jvm.MethodName)) ∈ kTbl := kW1 (List.mem_of_getElem? (i := 144) rfl) rfl
theorem kt_1_145 : (Jvm.Cond.selects "Knitstead$Needle" ({ cls := "Knitstead$Needle", name := "copyFrom", desc := "(LKnitstead$Needle;)V" } : Jvm.MethodName) ({ cls := "Knitstead$Needle", name := "copyFrom", desc := "(LKnitstead$Needle;)V" } : Jvm.MethodName)) ∈ kTbl := kW1 (List.mem_of_getElem? (i := 145) rfl) rfl
theorem kt_1_146 : (Jvm.Cond.code ({ cls := "Knitstead$Needle", name := "copyFrom", desc := "(LKnitstead$Needle;)V" } : Jvm.MethodName) prog_4_method_9_code (2 : Nat) (Option.none : Option Jvm.ClassFile.FieldType)) ∈ kTbl := kW1 (List.mem_of_getElem? (i := 146) rfl) rfl
theorem kt_1_147 : (Jvm.Cond.methodLink "Knitstead$Needle" (27 : Nat) ({ cls := "java/lang/Math", name := "min", desc := "(II)I" } : Jvm.MethodName)) ∈ kTbl := kW1 (List.mem_of_getElem? (i := 147) rfl) rfl
theorem kt_1_148 : (Jvm.Cond.static ({ cls := "java/lang/Math", name := "min", desc := "(II)I" } : Jvm.MethodName)) ∈ kTbl := kW1 (List.mem_of_getElem? (i := 148) rfl) rfl
theorem kt_1_149 : (Jvm.Cond.code ({ cls := "java/lang/Math", name := "min", desc := "(II)I" } : Jvm.MethodName) prog_18_method_69_code (2 : Nat) (Option.some Jvm.ClassFile.FieldType.int)) ∈ kTbl := kW1 (List.mem_of_getElem? (i := 149) rfl) rfl
theorem kt_1_150 : (Jvm.Cond.methodLink "Knitstead$Needle" (33 : Nat) ({ cls := "java/lang/System", name := "arraycopy", desc := "(Ljava/lang/Object;ILjava/lang/Object;II)V" } : Jvm.MethodName)) ∈ kTbl := kW1 (List.mem_of_getElem? (i := 150) rfl) rfl
theorem kt_1_151 : (Jvm.Cond.static ({ cls := "java/lang/System", name := "arraycopy", desc := "(Ljava/lang/Object;ILjava/lang/Object;II)V" } : Jvm.MethodName)) ∈ kTbl := kW1 (List.mem_of_getElem? (i := 151) rfl) rfl
theorem kt_1_152 : (Jvm.Cond.native ({ cls := "java/lang/System", name := "arraycopy", desc := "(Ljava/lang/Object;ILjava/lang/Object;II)V" } : Jvm.MethodName)) ∈ kTbl := kW1 (List.mem_of_getElem? (i := 152) rfl) rfl
theorem kt_1_153 : (Jvm.Cond.methodLink "Knitstead$Work" (57 : Nat) ({ cls := "Knitstead$Table", name := "copyFrom", desc := "(LKnitstead$Table;)V" } : Jvm.MethodName)) ∈ kTbl := kW1 (List.mem_of_getElem? (i := 153) rfl) rfl
theorem kt_1_154 : (Jvm.Cond.instanceMethod ({ cls := "Knitstead$Table", name := "copyFrom", desc := "(LKnitstead$Table;)V" } : Jvm.MethodName)) ∈ kTbl := kW1 (List.mem_of_getElem? (i := 154) rfl) rfl
theorem kt_1_155 : (Jvm.Cond.selects "Knitstead$Table" ({ cls := "Knitstead$Table", name := "copyFrom", desc := "(LKnitstead$Table;)V" } : Jvm.MethodName) ({ cls := "Knitstead$Table", name := "copyFrom", desc := "(LKnitstead$Table;)V" } : Jvm.MethodName)) ∈ kTbl := kW1 (List.mem_of_getElem? (i := 155) rfl) rfl
theorem kt_1_156 : (Jvm.Cond.code ({ cls := "Knitstead$Table", name := "copyFrom", desc := "(LKnitstead$Table;)V" } : Jvm.MethodName) prog_5_method_6_code (3 : Nat) (Option.none : Option Jvm.ClassFile.FieldType)) ∈ kTbl := kW1 (List.mem_of_getElem? (i := 156) rfl) rfl
theorem kt_1_157 : (Jvm.Cond.methodLink "Knitstead$Table" (35 : Nat) ({ cls := "java/lang/Math", name := "min", desc := "(II)I" } : Jvm.MethodName)) ∈ kTbl := kW1 (List.mem_of_getElem? (i := 157) rfl) rfl
theorem kt_1_158 : (Jvm.Cond.methodLink "Knitstead$Table" (44 : Nat) ({ cls := "java/lang/System", name := "arraycopy", desc := "(Ljava/lang/Object;ILjava/lang/Object;II)V" } : Jvm.MethodName)) ∈ kTbl := kW1 (List.mem_of_getElem? (i := 158) rfl) rfl
theorem kt_1_159 : (Jvm.Cond.methodLink "Knitstead$History" (42 : Nat) ({ cls := "Knitstead$Balls", name := "ofJoined", desc := "()I" } : Jvm.MethodName)) ∈ kTbl := kW1 (List.mem_of_getElem? (i := 159) rfl) rfl
theorem kt_1_160 : (Jvm.Cond.methodLink "Knitstead$History" (49 : Nat) ({ cls := "java/lang/Math", name := "min", desc := "(II)I" } : Jvm.MethodName)) ∈ kTbl := kW1 (List.mem_of_getElem? (i := 160) rfl) rfl
theorem kt_1_161 : (Jvm.Cond.methodLink "Knitstead" (99 : Nat) ({ cls := "Knitstead", name := "make", desc := "(IIII)I" } : Jvm.MethodName)) ∈ kTbl := kW1 (List.mem_of_getElem? (i := 161) rfl) rfl
theorem kt_1_163 : (Jvm.Cond.instanceMethod ({ cls := "Knitstead", name := "make", desc := "(IIII)I" } : Jvm.MethodName)) ∈ kTbl := kW1 (List.mem_of_getElem? (i := 163) rfl) rfl
theorem kt_1_164 : (Jvm.Cond.instantiable "Knitstead" (8 : Nat)) ∈ kTbl := kW1 (List.mem_of_getElem? (i := 164) rfl) rfl
theorem kt_1_165 : (Jvm.Cond.code ({ cls := "Knitstead", name := "make", desc := "(IIII)I" } : Jvm.MethodName) prog_1_method_29_code (6 : Nat) (Option.some Jvm.ClassFile.FieldType.int)) ∈ kTbl := kW1 (List.mem_of_getElem? (i := 165) rfl) rfl
theorem kt_1_166 : (Jvm.Cond.methodLink "Knitstead" (192 : Nat) ({ cls := "Knitstead$Table", name := "set", desc := "(III)V" } : Jvm.MethodName)) ∈ kTbl := kW1 (List.mem_of_getElem? (i := 166) rfl) rfl
theorem kt_1_167 : (Jvm.Cond.instanceMethod ({ cls := "Knitstead$Table", name := "set", desc := "(III)V" } : Jvm.MethodName)) ∈ kTbl := kW1 (List.mem_of_getElem? (i := 167) rfl) rfl
theorem kt_1_168 : (Jvm.Cond.selects "Knitstead$Table" ({ cls := "Knitstead$Table", name := "set", desc := "(III)V" } : Jvm.MethodName) ({ cls := "Knitstead$Table", name := "set", desc := "(III)V" } : Jvm.MethodName)) ∈ kTbl := kW1 (List.mem_of_getElem? (i := 168) rfl) rfl
theorem kt_1_169 : (Jvm.Cond.code ({ cls := "Knitstead$Table", name := "set", desc := "(III)V" } : Jvm.MethodName) prog_5_method_4_code (5 : Nat) (Option.none : Option Jvm.ClassFile.FieldType)) ∈ kTbl := kW1 (List.mem_of_getElem? (i := 169) rfl) rfl
theorem kt_1_170 : (Jvm.Cond.methodLink "Knitstead$Table" (28 : Nat) ({ cls := "Knitstead$Table", name := "cellOf", desc := "(II)I" } : Jvm.MethodName)) ∈ kTbl := kW1 (List.mem_of_getElem? (i := 170) rfl) rfl
theorem kt_1_172 : (Jvm.Cond.instanceMethod ({ cls := "Knitstead$Table", name := "cellOf", desc := "(II)I" } : Jvm.MethodName)) ∈ kTbl := kW1 (List.mem_of_getElem? (i := 172) rfl) rfl
theorem kt_1_173 : (Jvm.Cond.instantiable "Knitstead$Table" (3 : Nat)) ∈ kTbl := kW1 (List.mem_of_getElem? (i := 173) rfl) rfl
theorem kt_1_174 : (Jvm.Cond.code ({ cls := "Knitstead$Table", name := "cellOf", desc := "(II)I" } : Jvm.MethodName) prog_5_method_2_code (4 : Nat) (Option.some Jvm.ClassFile.FieldType.int)) ∈ kTbl := kW1 (List.mem_of_getElem? (i := 174) rfl) rfl
theorem kt_1_175 : (Jvm.Cond.methodLink "Knitstead$Table" (31 : Nat) ({ cls := "Knitstead$Table", name := "growTo", desc := "(I)V" } : Jvm.MethodName)) ∈ kTbl := kW1 (List.mem_of_getElem? (i := 175) rfl) rfl
theorem kt_1_177 : (Jvm.Cond.instanceMethod ({ cls := "Knitstead$Table", name := "growTo", desc := "(I)V" } : Jvm.MethodName)) ∈ kTbl := kW1 (List.mem_of_getElem? (i := 177) rfl) rfl
theorem kt_1_178 : (Jvm.Cond.code ({ cls := "Knitstead$Table", name := "growTo", desc := "(I)V" } : Jvm.MethodName) prog_5_method_5_code (3 : Nat) (Option.none : Option Jvm.ClassFile.FieldType)) ∈ kTbl := kW1 (List.mem_of_getElem? (i := 178) rfl) rfl
theorem kt_1_179 : (Jvm.Cond.methodLink "Knitstead$Table" (9 : Nat) ({ cls := "java/lang/Math", name := "max", desc := "(II)I" } : Jvm.MethodName)) ∈ kTbl := kW1 (List.mem_of_getElem? (i := 179) rfl) rfl
theorem kt_1_180 : (Jvm.Cond.static ({ cls := "java/lang/Math", name := "max", desc := "(II)I" } : Jvm.MethodName)) ∈ kTbl := kW1 (List.mem_of_getElem? (i := 180) rfl) rfl
theorem kt_1_181 : (Jvm.Cond.code ({ cls := "java/lang/Math", name := "max", desc := "(II)I" } : Jvm.MethodName) prog_18_method_65_code (2 : Nat) (Option.some Jvm.ClassFile.FieldType.int)) ∈ kTbl := kW1 (List.mem_of_getElem? (i := 181) rfl) rfl
theorem kt_1_182 : (Jvm.Cond.methodLink "Knitstead$Table" (38 : Nat) ({ cls := "java/util/Arrays", name := "copyOf", desc := "([II)[I" } : Jvm.MethodName)) ∈ kTbl := kW1 (List.mem_of_getElem? (i := 182) rfl) rfl
theorem kt_1_183 : (Jvm.Cond.static ({ cls := "java/util/Arrays", name := "copyOf", desc := "([II)[I" } : Jvm.MethodName)) ∈ kTbl := kW1 (List.mem_of_getElem? (i := 183) rfl) rfl
theorem kt_1_184 : (Jvm.Cond.code ({ cls := "java/util/Arrays", name := "copyOf", desc := "([II)[I" } : Jvm.MethodName) prog_26_method_123_code (3 : Nat) (Option.some (Jvm.ClassFile.FieldType.array Jvm.ClassFile.FieldType.int))) ∈ kTbl := kW1 (List.mem_of_getElem? (i := 184) rfl) rfl
theorem kt_1_185 : (Jvm.Cond.methodLink "java/util/Arrays" (316 : Nat) ({ cls := "[I", name := "clone", desc := "()Ljava/lang/Object;" } : Jvm.MethodName)) ∈ kTbl := kW1 (List.mem_of_getElem? (i := 185) rfl) rfl
theorem kt_1_186 : (Jvm.Cond.sameMethod "[I" "java/lang/Object" "clone" "()Ljava/lang/Object;") ∈ kTbl := kW1 (List.mem_of_getElem? (i := 186) rfl) rfl
theorem kt_1_187 : (Jvm.Cond.native ({ cls := "java/lang/Object", name := "clone", desc := "()Ljava/lang/Object;" } : Jvm.MethodName)) ∈ kTbl := kW1 (List.mem_of_getElem? (i := 187) rfl) rfl
theorem kt_1_188 : (Jvm.Cond.instanceMethod ({ cls := "java/lang/Object", name := "clone", desc := "()Ljava/lang/Object;" } : Jvm.MethodName)) ∈ kTbl := kW1 (List.mem_of_getElem? (i := 188) rfl) rfl
theorem kt_1_189 : (Jvm.Cond.selects "[I" ({ cls := "[I", name := "clone", desc := "()Ljava/lang/Object;" } : Jvm.MethodName) ({ cls := "java/lang/Object", name := "clone", desc := "()Ljava/lang/Object;" } : Jvm.MethodName)) ∈ kTbl := kW1 (List.mem_of_getElem? (i := 189) rfl) rfl
theorem kt_1_190 : (Jvm.Cond.castable "[I" "java/lang/Cloneable") ∈ kTbl := kW1 (List.mem_of_getElem? (i := 190) rfl) rfl
theorem kt_1_191 : (Jvm.Cond.classLink "java/util/Arrays" (317 : Nat) "[I") ∈ kTbl := kW1 (List.mem_of_getElem? (i := 191) rfl) rfl
theorem kt_1_192 : (Jvm.Cond.methodLink "java/util/Arrays" (304 : Nat) ({ cls := "java/lang/Math", name := "min", desc := "(II)I" } : Jvm.MethodName)) ∈ kTbl := kW1 (List.mem_of_getElem? (i := 192) rfl) rfl
theorem kt_1_193 : (Jvm.Cond.methodLink "java/util/Arrays" (150 : Nat) ({ cls := "java/lang/System", name := "arraycopy", desc := "(Ljava/lang/Object;ILjava/lang/Object;II)V" } : Jvm.MethodName)) ∈ kTbl := kW1 (List.mem_of_getElem? (i := 193) rfl) rfl
theorem kt_1_194 : (Jvm.Cond.methodLink "Knitstead" (313 : Nat) ({ cls := "Knitstead$Balls", name := "spend", desc := "(I)V" } : Jvm.MethodName)) ∈ kTbl := kW1 (List.mem_of_getElem? (i := 194) rfl) rfl
theorem kt_1_195 : (Jvm.Cond.instanceMethod ({ cls := "Knitstead$Balls", name := "spend", desc := "(I)V" } : Jvm.MethodName)) ∈ kTbl := kW1 (List.mem_of_getElem? (i := 195) rfl) rfl
theorem kt_1_196 : (Jvm.Cond.selects "Knitstead$Balls" ({ cls := "Knitstead$Balls", name := "spend", desc := "(I)V" } : Jvm.MethodName) ({ cls := "Knitstead$Balls", name := "spend", desc := "(I)V" } : Jvm.MethodName)) ∈ kTbl := kW1 (List.mem_of_getElem? (i := 196) rfl) rfl
theorem kt_1_197 : (Jvm.Cond.code ({ cls := "Knitstead$Balls", name := "spend", desc := "(I)V" } : Jvm.MethodName) prog_2_method_7_code (2 : Nat) (Option.none : Option Jvm.ClassFile.FieldType)) ∈ kTbl := kW1 (List.mem_of_getElem? (i := 197) rfl) rfl
theorem kt_1_198 : (Jvm.Cond.methodLink "Knitstead$Balls" (30 : Nat) ({ cls := "Knitstead$Balls", name := "set", desc := "(II)V" } : Jvm.MethodName)) ∈ kTbl := kW1 (List.mem_of_getElem? (i := 198) rfl) rfl
theorem kt_1_199 : (Jvm.Cond.instanceMethod ({ cls := "Knitstead$Balls", name := "set", desc := "(II)V" } : Jvm.MethodName)) ∈ kTbl := kW1 (List.mem_of_getElem? (i := 199) rfl) rfl
theorem kt_1_200 : (Jvm.Cond.selects "Knitstead$Balls" ({ cls := "Knitstead$Balls", name := "set", desc := "(II)V" } : Jvm.MethodName) ({ cls := "Knitstead$Balls", name := "set", desc := "(II)V" } : Jvm.MethodName)) ∈ kTbl := kW1 (List.mem_of_getElem? (i := 200) rfl) rfl
theorem kt_1_201 : (Jvm.Cond.code ({ cls := "Knitstead$Balls", name := "set", desc := "(II)V" } : Jvm.MethodName) prog_2_method_5_code (3 : Nat) (Option.none : Option Jvm.ClassFile.FieldType)) ∈ kTbl := kW1 (List.mem_of_getElem? (i := 201) rfl) rfl
theorem kt_1_202 : (Jvm.Cond.methodLink "Knitstead" (195 : Nat) ({ cls := "Knitstead$Needle", name := "put", desc := "(I)V" } : Jvm.MethodName)) ∈ kTbl := kW1 (List.mem_of_getElem? (i := 202) rfl) rfl
theorem kt_1_203 : (Jvm.Cond.instanceMethod ({ cls := "Knitstead$Needle", name := "put", desc := "(I)V" } : Jvm.MethodName)) ∈ kTbl := kW1 (List.mem_of_getElem? (i := 203) rfl) rfl
theorem kt_1_204 : (Jvm.Cond.selects "Knitstead$Needle" ({ cls := "Knitstead$Needle", name := "put", desc := "(I)V" } : Jvm.MethodName) ({ cls := "Knitstead$Needle", name := "put", desc := "(I)V" } : Jvm.MethodName)) ∈ kTbl := kW1 (List.mem_of_getElem? (i := 204) rfl) rfl
theorem kt_1_205 : (Jvm.Cond.code ({ cls := "Knitstead$Needle", name := "put", desc := "(I)V" } : Jvm.MethodName) prog_4_method_5_code (2 : Nat) (Option.none : Option Jvm.ClassFile.FieldType)) ∈ kTbl := kW1 (List.mem_of_getElem? (i := 205) rfl) rfl
theorem kt_1_206 : (Jvm.Cond.methodLink "Knitstead" (316 : Nat) ({ cls := "Knitstead$Work", name := "letRunsFall", desc := "()V" } : Jvm.MethodName)) ∈ kTbl := kW1 (List.mem_of_getElem? (i := 206) rfl) rfl
theorem kt_1_207 : (Jvm.Cond.instanceMethod ({ cls := "Knitstead$Work", name := "letRunsFall", desc := "()V" } : Jvm.MethodName)) ∈ kTbl := kW1 (List.mem_of_getElem? (i := 207) rfl) rfl
theorem kt_1_208 : (Jvm.Cond.selects "Knitstead$Work" ({ cls := "Knitstead$Work", name := "letRunsFall", desc := "()V" } : Jvm.MethodName) ({ cls := "Knitstead$Work", name := "letRunsFall", desc := "()V" } : Jvm.MethodName)) ∈ kTbl := kW1 (List.mem_of_getElem? (i := 208) rfl) rfl
theorem kt_1_209 : (Jvm.Cond.code ({ cls := "Knitstead$Work", name := "letRunsFall", desc := "()V" } : Jvm.MethodName) prog_7_method_7_code (3 : Nat) (Option.none : Option Jvm.ClassFile.FieldType)) ∈ kTbl := kW1 (List.mem_of_getElem? (i := 209) rfl) rfl
theorem kt_1_210 : (Jvm.Cond.methodLink "Knitstead$Work" (44 : Nat) ({ cls := "Knitstead$Work", name := "isOpen", desc := "(I)Z" } : Jvm.MethodName)) ∈ kTbl := kW1 (List.mem_of_getElem? (i := 210) rfl) rfl
theorem kt_1_211 : (Jvm.Cond.instanceMethod ({ cls := "Knitstead$Work", name := "isOpen", desc := "(I)Z" } : Jvm.MethodName)) ∈ kTbl := kW1 (List.mem_of_getElem? (i := 211) rfl) rfl
theorem kt_1_212 : (Jvm.Cond.selects "Knitstead$Work" ({ cls := "Knitstead$Work", name := "isOpen", desc := "(I)Z" } : Jvm.MethodName) ({ cls := "Knitstead$Work", name := "isOpen", desc := "(I)Z" } : Jvm.MethodName)) ∈ kTbl := kW1 (List.mem_of_getElem? (i := 212) rfl) rfl
theorem kt_1_213 : (Jvm.Cond.code ({ cls := "Knitstead$Work", name := "isOpen", desc := "(I)Z" } : Jvm.MethodName) prog_7_method_4_code (2 : Nat) (Option.some Jvm.ClassFile.FieldType.boolean)) ∈ kTbl := kW1 (List.mem_of_getElem? (i := 213) rfl) rfl
theorem kt_1_214 : (Jvm.Cond.methodLink "Knitstead$Work" (40 : Nat) ({ cls := "Knitstead$Table", name := "get", desc := "(II)I" } : Jvm.MethodName)) ∈ kTbl := kW1 (List.mem_of_getElem? (i := 214) rfl) rfl
theorem kt_1_215 : (Jvm.Cond.instanceMethod ({ cls := "Knitstead$Table", name := "get", desc := "(II)I" } : Jvm.MethodName)) ∈ kTbl := kW1 (List.mem_of_getElem? (i := 215) rfl) rfl
theorem kt_1_216 : (Jvm.Cond.selects "Knitstead$Table" ({ cls := "Knitstead$Table", name := "get", desc := "(II)I" } : Jvm.MethodName) ({ cls := "Knitstead$Table", name := "get", desc := "(II)I" } : Jvm.MethodName)) ∈ kTbl := kW1 (List.mem_of_getElem? (i := 216) rfl) rfl
theorem kt_1_217 : (Jvm.Cond.code ({ cls := "Knitstead$Table", name := "get", desc := "(II)I" } : Jvm.MethodName) prog_5_method_3_code (4 : Nat) (Option.some Jvm.ClassFile.FieldType.int)) ∈ kTbl := kW1 (List.mem_of_getElem? (i := 217) rfl) rfl
theorem kt_1_218 : (Jvm.Cond.methodLink "Knitstead$Work" (48 : Nat) ({ cls := "java/lang/Math", name := "min", desc := "(II)I" } : Jvm.MethodName)) ∈ kTbl := kW1 (List.mem_of_getElem? (i := 218) rfl) rfl
theorem kt_1_219 : (Jvm.Cond.methodLink "Knitstead$Work" (37 : Nat) ({ cls := "Knitstead$Table", name := "set", desc := "(III)V" } : Jvm.MethodName)) ∈ kTbl := kW1 (List.mem_of_getElem? (i := 219) rfl) rfl
theorem kt_1_220 : (Jvm.Cond.arrayClass Jvm.ClassFile.FieldType.int) ∈ kTbl := kW1 (List.mem_of_getElem? (i := 220) rfl) rfl
theorem kt_1_221 : (Jvm.Cond.methodLink "KnitsteadLaw" (53 : Nat) ({ cls := "Knitstead", name := "cross", desc := "(II)I" } : Jvm.MethodName)) ∈ kTbl := kW1 (List.mem_of_getElem? (i := 221) rfl) rfl
theorem kt_1_222 : (Jvm.Cond.instanceMethod ({ cls := "Knitstead", name := "cross", desc := "(II)I" } : Jvm.MethodName)) ∈ kTbl := kW1 (List.mem_of_getElem? (i := 222) rfl) rfl
theorem kt_1_223 : (Jvm.Cond.selects "Knitstead" ({ cls := "Knitstead", name := "cross", desc := "(II)I" } : Jvm.MethodName) ({ cls := "Knitstead", name := "cross", desc := "(II)I" } : Jvm.MethodName)) ∈ kTbl := kW1 (List.mem_of_getElem? (i := 223) rfl) rfl
theorem kt_1_224 : (Jvm.Cond.code ({ cls := "Knitstead", name := "cross", desc := "(II)I" } : Jvm.MethodName) prog_1_method_9_code (3 : Nat) (Option.some Jvm.ClassFile.FieldType.int)) ∈ kTbl := kW1 (List.mem_of_getElem? (i := 224) rfl) rfl
theorem kt_1_227 : (Jvm.Cond.methodLink "Knitstead" (140 : Nat) ({ cls := "Knitstead", name := "crossNext", desc := "(II)I" } : Jvm.MethodName)) ∈ kTbl := kW1 (List.mem_of_getElem? (i := 227) rfl) rfl
theorem kt_1_229 : (Jvm.Cond.instanceMethod ({ cls := "Knitstead", name := "crossNext", desc := "(II)I" } : Jvm.MethodName)) ∈ kTbl := kW1 (List.mem_of_getElem? (i := 229) rfl) rfl
theorem kt_1_230 : (Jvm.Cond.code ({ cls := "Knitstead", name := "crossNext", desc := "(II)I" } : Jvm.MethodName) prog_1_method_35_code (4 : Nat) (Option.some Jvm.ClassFile.FieldType.int)) ∈ kTbl := kW1 (List.mem_of_getElem? (i := 230) rfl) rfl
theorem kt_1_231 : (Jvm.Cond.methodLink "Knitstead" (325 : Nat) ({ cls := "Knitstead$Needle", name := "moveTipBehind", desc := "(I)V" } : Jvm.MethodName)) ∈ kTbl := kW1 (List.mem_of_getElem? (i := 231) rfl) rfl
theorem kt_1_232 : (Jvm.Cond.instanceMethod ({ cls := "Knitstead$Needle", name := "moveTipBehind", desc := "(I)V" } : Jvm.MethodName)) ∈ kTbl := kW1 (List.mem_of_getElem? (i := 232) rfl) rfl
theorem kt_1_233 : (Jvm.Cond.selects "Knitstead$Needle" ({ cls := "Knitstead$Needle", name := "moveTipBehind", desc := "(I)V" } : Jvm.MethodName) ({ cls := "Knitstead$Needle", name := "moveTipBehind", desc := "(I)V" } : Jvm.MethodName)) ∈ kTbl := kW1 (List.mem_of_getElem? (i := 233) rfl) rfl
theorem kt_1_234 : (Jvm.Cond.code ({ cls := "Knitstead$Needle", name := "moveTipBehind", desc := "(I)V" } : Jvm.MethodName) prog_4_method_7_code (4 : Nat) (Option.none : Option Jvm.ClassFile.FieldType)) ∈ kTbl := kW1 (List.mem_of_getElem? (i := 234) rfl) rfl
theorem kt_1_235 : (Jvm.Cond.methodLink "Knitstead$Needle" (19 : Nat) ({ cls := "Knitstead$Needle", name := "at", desc := "(I)I" } : Jvm.MethodName)) ∈ kTbl := kW1 (List.mem_of_getElem? (i := 235) rfl) rfl
theorem kt_1_236 : (Jvm.Cond.instanceMethod ({ cls := "Knitstead$Needle", name := "at", desc := "(I)I" } : Jvm.MethodName)) ∈ kTbl := kW1 (List.mem_of_getElem? (i := 236) rfl) rfl
theorem kt_1_237 : (Jvm.Cond.selects "Knitstead$Needle" ({ cls := "Knitstead$Needle", name := "at", desc := "(I)I" } : Jvm.MethodName) ({ cls := "Knitstead$Needle", name := "at", desc := "(I)I" } : Jvm.MethodName)) ∈ kTbl := kW1 (List.mem_of_getElem? (i := 237) rfl) rfl
theorem kt_1_238 : (Jvm.Cond.code ({ cls := "Knitstead$Needle", name := "at", desc := "(I)I" } : Jvm.MethodName) prog_4_method_2_code (3 : Nat) (Option.some Jvm.ClassFile.FieldType.int)) ∈ kTbl := kW1 (List.mem_of_getElem? (i := 238) rfl) rfl
theorem kt_1_239 : (Jvm.Cond.methodLink "Knitstead$Needle" (23 : Nat) ({ cls := "Knitstead$Needle", name := "replace", desc := "(II)V" } : Jvm.MethodName)) ∈ kTbl := kW1 (List.mem_of_getElem? (i := 239) rfl) rfl
theorem kt_2_1 : (Jvm.Cond.instanceMethod ({ cls := "Knitstead$Needle", name := "replace", desc := "(II)V" } : Jvm.MethodName)) ∈ kTbl := kW2 (List.mem_of_getElem? (i := 1) rfl) rfl
theorem kt_2_2 : (Jvm.Cond.instantiable "Knitstead$Needle" (2 : Nat)) ∈ kTbl := kW2 (List.mem_of_getElem? (i := 2) rfl) rfl
theorem kt_2_3 : (Jvm.Cond.code ({ cls := "Knitstead$Needle", name := "replace", desc := "(II)V" } : Jvm.MethodName) prog_4_method_3_code (4 : Nat) (Option.none : Option Jvm.ClassFile.FieldType)) ∈ kTbl := kW2 (List.mem_of_getElem? (i := 3) rfl) rfl
theorem kt_2_4 : (Jvm.Cond.methodLink "Knitstead" (242 : Nat) ({ cls := "Knitstead$Needle", name := "at", desc := "(I)I" } : Jvm.MethodName)) ∈ kTbl := kW2 (List.mem_of_getElem? (i := 4) rfl) rfl
theorem kt_2_5 : (Jvm.Cond.methodLink "KnitsteadLaw" (32 : Nat) ({ cls := "Knitstead", name := "turn", desc := "()I" } : Jvm.MethodName)) ∈ kTbl := kW2 (List.mem_of_getElem? (i := 5) rfl) rfl
theorem kt_2_6 : (Jvm.Cond.instanceMethod ({ cls := "Knitstead", name := "turn", desc := "()I" } : Jvm.MethodName)) ∈ kTbl := kW2 (List.mem_of_getElem? (i := 6) rfl) rfl
theorem kt_2_7 : (Jvm.Cond.selects "Knitstead" ({ cls := "Knitstead", name := "turn", desc := "()I" } : Jvm.MethodName) ({ cls := "Knitstead", name := "turn", desc := "()I" } : Jvm.MethodName)) ∈ kTbl := kW2 (List.mem_of_getElem? (i := 7) rfl) rfl
theorem kt_2_8 : (Jvm.Cond.code ({ cls := "Knitstead", name := "turn", desc := "()I" } : Jvm.MethodName) prog_1_method_10_code (1 : Nat) (Option.some Jvm.ClassFile.FieldType.int)) ∈ kTbl := kW2 (List.mem_of_getElem? (i := 8) rfl) rfl
theorem kt_2_10 : (Jvm.Cond.methodLink "Knitstead" (151 : Nat) ({ cls := "Knitstead$Needle", name := "swapWith", desc := "(LKnitstead$Needle;)V" } : Jvm.MethodName)) ∈ kTbl := kW2 (List.mem_of_getElem? (i := 10) rfl) rfl
theorem kt_2_11 : (Jvm.Cond.instanceMethod ({ cls := "Knitstead$Needle", name := "swapWith", desc := "(LKnitstead$Needle;)V" } : Jvm.MethodName)) ∈ kTbl := kW2 (List.mem_of_getElem? (i := 11) rfl) rfl
theorem kt_2_12 : (Jvm.Cond.selects "Knitstead$Needle" ({ cls := "Knitstead$Needle", name := "swapWith", desc := "(LKnitstead$Needle;)V" } : Jvm.MethodName) ({ cls := "Knitstead$Needle", name := "swapWith", desc := "(LKnitstead$Needle;)V" } : Jvm.MethodName)) ∈ kTbl := kW2 (List.mem_of_getElem? (i := 12) rfl) rfl
theorem kt_2_13 : (Jvm.Cond.code ({ cls := "Knitstead$Needle", name := "swapWith", desc := "(LKnitstead$Needle;)V" } : Jvm.MethodName) prog_4_method_8_code (5 : Nat) (Option.none : Option Jvm.ClassFile.FieldType)) ∈ kTbl := kW2 (List.mem_of_getElem? (i := 13) rfl) rfl
theorem kt_2_14 : (Jvm.Cond.methodLink "KnitsteadLaw" (107 : Nat) ({ cls := "Knitstead", name := "bind", desc := "(I)I" } : Jvm.MethodName)) ∈ kTbl := kW2 (List.mem_of_getElem? (i := 14) rfl) rfl
theorem kt_2_15 : (Jvm.Cond.instanceMethod ({ cls := "Knitstead", name := "bind", desc := "(I)I" } : Jvm.MethodName)) ∈ kTbl := kW2 (List.mem_of_getElem? (i := 15) rfl) rfl
theorem kt_2_16 : (Jvm.Cond.selects "Knitstead" ({ cls := "Knitstead", name := "bind", desc := "(I)I" } : Jvm.MethodName) ({ cls := "Knitstead", name := "bind", desc := "(I)I" } : Jvm.MethodName)) ∈ kTbl := kW2 (List.mem_of_getElem? (i := 16) rfl) rfl
theorem kt_2_17 : (Jvm.Cond.code ({ cls := "Knitstead", name := "bind", desc := "(I)I" } : Jvm.MethodName) prog_1_method_11_code (3 : Nat) (Option.some Jvm.ClassFile.FieldType.int)) ∈ kTbl := kW2 (List.mem_of_getElem? (i := 17) rfl) rfl
theorem kt_2_21 : (Jvm.Cond.methodLink "Knitstead" (164 : Nat) ({ cls := "Knitstead", name := "bindSeconds", desc := "(I)V" } : Jvm.MethodName)) ∈ kTbl := kW2 (List.mem_of_getElem? (i := 21) rfl) rfl
theorem kt_2_23 : (Jvm.Cond.instanceMethod ({ cls := "Knitstead", name := "bindSeconds", desc := "(I)V" } : Jvm.MethodName)) ∈ kTbl := kW2 (List.mem_of_getElem? (i := 23) rfl) rfl
theorem kt_2_24 : (Jvm.Cond.code ({ cls := "Knitstead", name := "bindSeconds", desc := "(I)V" } : Jvm.MethodName) prog_1_method_36_code (3 : Nat) (Option.none : Option Jvm.ClassFile.FieldType)) ∈ kTbl := kW2 (List.mem_of_getElem? (i := 24) rfl) rfl
theorem kt_2_25 : (Jvm.Cond.methodLink "Knitstead" (331 : Nat) ({ cls := "Knitstead", name := "bindAt", desc := "(I)V" } : Jvm.MethodName)) ∈ kTbl := kW2 (List.mem_of_getElem? (i := 25) rfl) rfl
theorem kt_2_27 : (Jvm.Cond.instanceMethod ({ cls := "Knitstead", name := "bindAt", desc := "(I)V" } : Jvm.MethodName)) ∈ kTbl := kW2 (List.mem_of_getElem? (i := 27) rfl) rfl
theorem kt_2_28 : (Jvm.Cond.code ({ cls := "Knitstead", name := "bindAt", desc := "(I)V" } : Jvm.MethodName) prog_1_method_38_code (3 : Nat) (Option.none : Option Jvm.ClassFile.FieldType)) ∈ kTbl := kW2 (List.mem_of_getElem? (i := 28) rfl) rfl
theorem kt_2_29 : (Jvm.Cond.methodLink "Knitstead" (176 : Nat) ({ cls := "Knitstead$Needle", name := "takeAt", desc := "(I)I" } : Jvm.MethodName)) ∈ kTbl := kW2 (List.mem_of_getElem? (i := 29) rfl) rfl
theorem kt_2_30 : (Jvm.Cond.instanceMethod ({ cls := "Knitstead$Needle", name := "takeAt", desc := "(I)I" } : Jvm.MethodName)) ∈ kTbl := kW2 (List.mem_of_getElem? (i := 30) rfl) rfl
theorem kt_2_31 : (Jvm.Cond.selects "Knitstead$Needle" ({ cls := "Knitstead$Needle", name := "takeAt", desc := "(I)I" } : Jvm.MethodName) ({ cls := "Knitstead$Needle", name := "takeAt", desc := "(I)I" } : Jvm.MethodName)) ∈ kTbl := kW2 (List.mem_of_getElem? (i := 31) rfl) rfl
theorem kt_2_32 : (Jvm.Cond.code ({ cls := "Knitstead$Needle", name := "takeAt", desc := "(I)I" } : Jvm.MethodName) prog_4_method_6_code (4 : Nat) (Option.some Jvm.ClassFile.FieldType.int)) ∈ kTbl := kW2 (List.mem_of_getElem? (i := 32) rfl) rfl
theorem kt_2_33 : (Jvm.Cond.methodLink "Knitstead" (168 : Nat) ({ cls := "Knitstead", name := "fastenLast", desc := "()V" } : Jvm.MethodName)) ∈ kTbl := kW2 (List.mem_of_getElem? (i := 33) rfl) rfl
theorem kt_2_35 : (Jvm.Cond.instanceMethod ({ cls := "Knitstead", name := "fastenLast", desc := "()V" } : Jvm.MethodName)) ∈ kTbl := kW2 (List.mem_of_getElem? (i := 35) rfl) rfl
theorem kt_2_36 : (Jvm.Cond.code ({ cls := "Knitstead", name := "fastenLast", desc := "()V" } : Jvm.MethodName) prog_1_method_37_code (1 : Nat) (Option.none : Option Jvm.ClassFile.FieldType)) ∈ kTbl := kW2 (List.mem_of_getElem? (i := 36) rfl) rfl
theorem kt_2_37 : (Jvm.Cond.methodLink "KnitsteadLaw" (98 : Nat) ({ cls := "Knitstead", name := "drop", desc := "()I" } : Jvm.MethodName)) ∈ kTbl := kW2 (List.mem_of_getElem? (i := 37) rfl) rfl
theorem kt_2_38 : (Jvm.Cond.instanceMethod ({ cls := "Knitstead", name := "drop", desc := "()I" } : Jvm.MethodName)) ∈ kTbl := kW2 (List.mem_of_getElem? (i := 38) rfl) rfl
theorem kt_2_39 : (Jvm.Cond.selects "Knitstead" ({ cls := "Knitstead", name := "drop", desc := "()I" } : Jvm.MethodName) ({ cls := "Knitstead", name := "drop", desc := "()I" } : Jvm.MethodName)) ∈ kTbl := kW2 (List.mem_of_getElem? (i := 39) rfl) rfl
theorem kt_2_40 : (Jvm.Cond.code ({ cls := "Knitstead", name := "drop", desc := "()I" } : Jvm.MethodName) prog_1_method_12_code (2 : Nat) (Option.some Jvm.ClassFile.FieldType.int)) ∈ kTbl := kW2 (List.mem_of_getElem? (i := 40) rfl) rfl
theorem kt_2_42 : (Jvm.Cond.methodLink "Knitstead" (179 : Nat) ({ cls := "Knitstead$Table", name := "get", desc := "(II)I" } : Jvm.MethodName)) ∈ kTbl := kW2 (List.mem_of_getElem? (i := 42) rfl) rfl
theorem kt_2_43 : (Jvm.Cond.methodLink "Knitstead" (182 : Nat) ({ cls := "Knitstead$Work", name := "openRun", desc := "(II)I" } : Jvm.MethodName)) ∈ kTbl := kW2 (List.mem_of_getElem? (i := 43) rfl) rfl
theorem kt_2_44 : (Jvm.Cond.instanceMethod ({ cls := "Knitstead$Work", name := "openRun", desc := "(II)I" } : Jvm.MethodName)) ∈ kTbl := kW2 (List.mem_of_getElem? (i := 44) rfl) rfl
theorem kt_2_45 : (Jvm.Cond.selects "Knitstead$Work" ({ cls := "Knitstead$Work", name := "openRun", desc := "(II)I" } : Jvm.MethodName) ({ cls := "Knitstead$Work", name := "openRun", desc := "(II)I" } : Jvm.MethodName)) ∈ kTbl := kW2 (List.mem_of_getElem? (i := 45) rfl) rfl
theorem kt_2_46 : (Jvm.Cond.code ({ cls := "Knitstead$Work", name := "openRun", desc := "(II)I" } : Jvm.MethodName) prog_7_method_3_code (4 : Nat) (Option.some Jvm.ClassFile.FieldType.int)) ∈ kTbl := kW2 (List.mem_of_getElem? (i := 46) rfl) rfl
theorem kt_2_47 : (Jvm.Cond.methodLink "KnitsteadLaw" (104 : Nat) ({ cls := "Knitstead", name := "latch", desc := "(I)I" } : Jvm.MethodName)) ∈ kTbl := kW2 (List.mem_of_getElem? (i := 47) rfl) rfl
theorem kt_2_48 : (Jvm.Cond.instanceMethod ({ cls := "Knitstead", name := "latch", desc := "(I)I" } : Jvm.MethodName)) ∈ kTbl := kW2 (List.mem_of_getElem? (i := 48) rfl) rfl
theorem kt_2_49 : (Jvm.Cond.selects "Knitstead" ({ cls := "Knitstead", name := "latch", desc := "(I)I" } : Jvm.MethodName) ({ cls := "Knitstead", name := "latch", desc := "(I)I" } : Jvm.MethodName)) ∈ kTbl := kW2 (List.mem_of_getElem? (i := 49) rfl) rfl
theorem kt_2_50 : (Jvm.Cond.code ({ cls := "Knitstead", name := "latch", desc := "(I)I" } : Jvm.MethodName) prog_1_method_13_code (2 : Nat) (Option.some Jvm.ClassFile.FieldType.int)) ∈ kTbl := kW2 (List.mem_of_getElem? (i := 50) rfl) rfl
theorem kt_2_51 : (Jvm.Cond.classLink "Knitstead" (76 : Nat) "java/lang/IndexOutOfBoundsException") ∈ kTbl := kW2 (List.mem_of_getElem? (i := 51) rfl) rfl
theorem kt_2_61 : (Jvm.Cond.methodLink "Knitstead" (80 : Nat) ({ cls := "java/lang/IndexOutOfBoundsException", name := "<init>", desc := "(Ljava/lang/String;)V" } : Jvm.MethodName)) ∈ kTbl := kW2 (List.mem_of_getElem? (i := 61) rfl) rfl
theorem kt_2_68 : (Jvm.Cond.methodLink "KnitsteadLaw" (92 : Nat) ({ cls := "Knitstead", name := "follow", desc := "(I)I" } : Jvm.MethodName)) ∈ kTbl := kW2 (List.mem_of_getElem? (i := 68) rfl) rfl
theorem kt_2_69 : (Jvm.Cond.instanceMethod ({ cls := "Knitstead", name := "follow", desc := "(I)I" } : Jvm.MethodName)) ∈ kTbl := kW2 (List.mem_of_getElem? (i := 69) rfl) rfl
theorem kt_2_70 : (Jvm.Cond.selects "Knitstead" ({ cls := "Knitstead", name := "follow", desc := "(I)I" } : Jvm.MethodName) ({ cls := "Knitstead", name := "follow", desc := "(I)I" } : Jvm.MethodName)) ∈ kTbl := kW2 (List.mem_of_getElem? (i := 70) rfl) rfl
theorem kt_2_71 : (Jvm.Cond.code ({ cls := "Knitstead", name := "follow", desc := "(I)I" } : Jvm.MethodName) prog_1_method_15_code (4 : Nat) (Option.some Jvm.ClassFile.FieldType.int)) ∈ kTbl := kW2 (List.mem_of_getElem? (i := 71) rfl) rfl
theorem kt_2_72 : (Jvm.Cond.methodLink "Knitstead" (213 : Nat) ({ cls := "Knitstead", name := "hasPattern", desc := "(I)Z" } : Jvm.MethodName)) ∈ kTbl := kW2 (List.mem_of_getElem? (i := 72) rfl) rfl
theorem kt_2_74 : (Jvm.Cond.instanceMethod ({ cls := "Knitstead", name := "hasPattern", desc := "(I)Z" } : Jvm.MethodName)) ∈ kTbl := kW2 (List.mem_of_getElem? (i := 74) rfl) rfl
theorem kt_2_75 : (Jvm.Cond.code ({ cls := "Knitstead", name := "hasPattern", desc := "(I)Z" } : Jvm.MethodName) prog_1_method_43_code (2 : Nat) (Option.some Jvm.ClassFile.FieldType.boolean)) ∈ kTbl := kW2 (List.mem_of_getElem? (i := 75) rfl) rfl
theorem kt_2_78 : (Jvm.Cond.methodLink "Knitstead" (218 : Nat) ({ cls := "Knitstead", name := "tryOut", desc := "(I)V" } : Jvm.MethodName)) ∈ kTbl := kW2 (List.mem_of_getElem? (i := 78) rfl) rfl
theorem kt_2_80 : (Jvm.Cond.instanceMethod ({ cls := "Knitstead", name := "tryOut", desc := "(I)V" } : Jvm.MethodName)) ∈ kTbl := kW2 (List.mem_of_getElem? (i := 80) rfl) rfl
theorem kt_2_81 : (Jvm.Cond.code ({ cls := "Knitstead", name := "tryOut", desc := "(I)V" } : Jvm.MethodName) prog_1_method_48_code (3 : Nat) (Option.none : Option Jvm.ClassFile.FieldType)) ∈ kTbl := kW2 (List.mem_of_getElem? (i := 81) rfl) rfl
theorem kt_2_82 : (Jvm.Cond.methodLink "Knitstead" (361 : Nat) ({ cls := "Knitstead$Trial", name := "start", desc := "(III)V" } : Jvm.MethodName)) ∈ kTbl := kW2 (List.mem_of_getElem? (i := 82) rfl) rfl
theorem kt_2_83 : (Jvm.Cond.instanceMethod ({ cls := "Knitstead$Trial", name := "start", desc := "(III)V" } : Jvm.MethodName)) ∈ kTbl := kW2 (List.mem_of_getElem? (i := 83) rfl) rfl
theorem kt_2_84 : (Jvm.Cond.selects "Knitstead$Trial" ({ cls := "Knitstead$Trial", name := "start", desc := "(III)V" } : Jvm.MethodName) ({ cls := "Knitstead$Trial", name := "start", desc := "(III)V" } : Jvm.MethodName)) ∈ kTbl := kW2 (List.mem_of_getElem? (i := 84) rfl) rfl
theorem kt_2_85 : (Jvm.Cond.code ({ cls := "Knitstead$Trial", name := "start", desc := "(III)V" } : Jvm.MethodName) prog_6_method_2_code (4 : Nat) (Option.none : Option Jvm.ClassFile.FieldType)) ∈ kTbl := kW2 (List.mem_of_getElem? (i := 85) rfl) rfl
theorem kt_2_86 : (Jvm.Cond.methodLink "Knitstead" (224 : Nat) ({ cls := "Knitstead", name := "stepAt", desc := "(II)I" } : Jvm.MethodName)) ∈ kTbl := kW2 (List.mem_of_getElem? (i := 86) rfl) rfl
theorem kt_2_88 : (Jvm.Cond.instanceMethod ({ cls := "Knitstead", name := "stepAt", desc := "(II)I" } : Jvm.MethodName)) ∈ kTbl := kW2 (List.mem_of_getElem? (i := 88) rfl) rfl
theorem kt_2_89 : (Jvm.Cond.code ({ cls := "Knitstead", name := "stepAt", desc := "(II)I" } : Jvm.MethodName) prog_1_method_47_code (4 : Nat) (Option.some Jvm.ClassFile.FieldType.int)) ∈ kTbl := kW2 (List.mem_of_getElem? (i := 89) rfl) rfl
theorem kt_2_90 : (Jvm.Cond.methodLink "Knitstead" (364 : Nat) ({ cls := "Knitstead$Trial", name := "takesStep", desc := "(I)Z" } : Jvm.MethodName)) ∈ kTbl := kW2 (List.mem_of_getElem? (i := 90) rfl) rfl
theorem kt_2_91 : (Jvm.Cond.instanceMethod ({ cls := "Knitstead$Trial", name := "takesStep", desc := "(I)Z" } : Jvm.MethodName)) ∈ kTbl := kW2 (List.mem_of_getElem? (i := 91) rfl) rfl
theorem kt_2_92 : (Jvm.Cond.selects "Knitstead$Trial" ({ cls := "Knitstead$Trial", name := "takesStep", desc := "(I)Z" } : Jvm.MethodName) ({ cls := "Knitstead$Trial", name := "takesStep", desc := "(I)Z" } : Jvm.MethodName)) ∈ kTbl := kW2 (List.mem_of_getElem? (i := 92) rfl) rfl
theorem kt_2_93 : (Jvm.Cond.code ({ cls := "Knitstead$Trial", name := "takesStep", desc := "(I)Z" } : Jvm.MethodName) prog_6_method_3_code (4 : Nat) (Option.some Jvm.ClassFile.FieldType.boolean)) ∈ kTbl := kW2 (List.mem_of_getElem? (i := 93) rfl) rfl
theorem kt_2_94 : (Jvm.Cond.methodLinkNest "Knitstead$Trial" (25 : Nat) ({ cls := "Knitstead", name := "fits", desc := "(IIII)Z" } : Jvm.MethodName) "Knitstead") ∈ kTbl := kW2 (List.mem_of_getElem? (i := 94) rfl) rfl
theorem kt_2_95 : (Jvm.Cond.static ({ cls := "Knitstead", name := "fits", desc := "(IIII)Z" } : Jvm.MethodName)) ∈ kTbl := kW2 (List.mem_of_getElem? (i := 95) rfl) rfl
theorem kt_2_96 : (Jvm.Cond.code ({ cls := "Knitstead", name := "fits", desc := "(IIII)Z" } : Jvm.MethodName) prog_1_method_41_code (5 : Nat) (Option.some Jvm.ClassFile.FieldType.boolean)) ∈ kTbl := kW2 (List.mem_of_getElem? (i := 96) rfl) rfl
theorem kt_2_97 : (Jvm.Cond.fieldLink "Knitstead" (341 : Nat) "Knitstead" "STEP_MAKES" "[I") ∈ kTbl := kW2 (List.mem_of_getElem? (i := 97) rfl) rfl
theorem kt_2_99 : (Jvm.Cond.methodLink "Knitstead" (345 : Nat) ({ cls := "Knitstead", name := "stepFact", desc := "([II)I" } : Jvm.MethodName)) ∈ kTbl := kW2 (List.mem_of_getElem? (i := 99) rfl) rfl
theorem kt_2_100 : (Jvm.Cond.static ({ cls := "Knitstead", name := "stepFact", desc := "([II)I" } : Jvm.MethodName)) ∈ kTbl := kW2 (List.mem_of_getElem? (i := 100) rfl) rfl
theorem kt_2_101 : (Jvm.Cond.code ({ cls := "Knitstead", name := "stepFact", desc := "([II)I" } : Jvm.MethodName) prog_1_method_39_code (2 : Nat) (Option.some Jvm.ClassFile.FieldType.int)) ∈ kTbl := kW2 (List.mem_of_getElem? (i := 101) rfl) rfl
theorem kt_2_102 : (Jvm.Cond.fieldLink "Knitstead" (349 : Nat) "Knitstead" "STEP_EATS" "[I") ∈ kTbl := kW2 (List.mem_of_getElem? (i := 102) rfl) rfl
theorem kt_2_104 : (Jvm.Cond.fieldLink "Knitstead" (352 : Nat) "Knitstead" "STEP_WANTS_ON_LEFT" "[I") ∈ kTbl := kW2 (List.mem_of_getElem? (i := 104) rfl) rfl
theorem kt_2_106 : (Jvm.Cond.fieldLink "Knitstead" (355 : Nat) "Knitstead" "STEP_YARN" "[I") ∈ kTbl := kW2 (List.mem_of_getElem? (i := 106) rfl) rfl
theorem kt_2_108 : (Jvm.Cond.fieldLinkNest "Knitstead$Trial" (31 : Nat) "Knitstead" "STEP_EATS" "[I" "Knitstead") ∈ kTbl := kW2 (List.mem_of_getElem? (i := 108) rfl) rfl
theorem kt_2_109 : (Jvm.Cond.methodLinkNest "Knitstead$Trial" (35 : Nat) ({ cls := "Knitstead", name := "stepFact", desc := "([II)I" } : Jvm.MethodName) "Knitstead") ∈ kTbl := kW2 (List.mem_of_getElem? (i := 109) rfl) rfl
theorem kt_2_110 : (Jvm.Cond.fieldLinkNest "Knitstead$Trial" (39 : Nat) "Knitstead" "STEP_YARN" "[I" "Knitstead") ∈ kTbl := kW2 (List.mem_of_getElem? (i := 110) rfl) rfl
theorem kt_2_111 : (Jvm.Cond.fieldLinkNest "Knitstead$Trial" (42 : Nat) "Knitstead" "STEP_MAKES" "[I" "Knitstead") ∈ kTbl := kW2 (List.mem_of_getElem? (i := 111) rfl) rfl
theorem kt_2_112 : (Jvm.Cond.methodLink "Knitstead" (227 : Nat) ({ cls := "Knitstead", name := "doStep", desc := "(I)V" } : Jvm.MethodName)) ∈ kTbl := kW2 (List.mem_of_getElem? (i := 112) rfl) rfl
theorem kt_2_114 : (Jvm.Cond.instanceMethod ({ cls := "Knitstead", name := "doStep", desc := "(I)V" } : Jvm.MethodName)) ∈ kTbl := kW2 (List.mem_of_getElem? (i := 114) rfl) rfl
theorem kt_2_115 : (Jvm.Cond.code ({ cls := "Knitstead", name := "doStep", desc := "(I)V" } : Jvm.MethodName) prog_1_method_42_code (2 : Nat) (Option.none : Option Jvm.ClassFile.FieldType)) ∈ kTbl := kW2 (List.mem_of_getElem? (i := 115) rfl) rfl
theorem kt_2_116 : (Jvm.Cond.methodLink "Knitstead" (108 : Nat) ({ cls := "Knitstead", name := "workNext", desc := "(I)I" } : Jvm.MethodName)) ∈ kTbl := kW2 (List.mem_of_getElem? (i := 116) rfl) rfl
theorem kt_2_118 : (Jvm.Cond.instanceMethod ({ cls := "Knitstead", name := "workNext", desc := "(I)I" } : Jvm.MethodName)) ∈ kTbl := kW2 (List.mem_of_getElem? (i := 118) rfl) rfl
theorem kt_2_119 : (Jvm.Cond.code ({ cls := "Knitstead", name := "workNext", desc := "(I)I" } : Jvm.MethodName) prog_1_method_31_code (3 : Nat) (Option.some Jvm.ClassFile.FieldType.int)) ∈ kTbl := kW2 (List.mem_of_getElem? (i := 119) rfl) rfl
theorem kt_2_120 : (Jvm.Cond.methodLink "Knitstead" (319 : Nat) ({ cls := "Knitstead", name := "takeWorked", desc := "()I" } : Jvm.MethodName)) ∈ kTbl := kW2 (List.mem_of_getElem? (i := 120) rfl) rfl
theorem kt_2_122 : (Jvm.Cond.instanceMethod ({ cls := "Knitstead", name := "takeWorked", desc := "()I" } : Jvm.MethodName)) ∈ kTbl := kW2 (List.mem_of_getElem? (i := 122) rfl) rfl
theorem kt_2_123 : (Jvm.Cond.code ({ cls := "Knitstead", name := "takeWorked", desc := "()I" } : Jvm.MethodName) prog_1_method_30_code (2 : Nat) (Option.some Jvm.ClassFile.FieldType.int)) ∈ kTbl := kW2 (List.mem_of_getElem? (i := 123) rfl) rfl
theorem kt_2_124 : (Jvm.Cond.methodLink "Knitstead" (113 : Nat) ({ cls := "Knitstead", name := "makeOver", desc := "()I" } : Jvm.MethodName)) ∈ kTbl := kW2 (List.mem_of_getElem? (i := 124) rfl) rfl
theorem kt_2_126 : (Jvm.Cond.instanceMethod ({ cls := "Knitstead", name := "makeOver", desc := "()I" } : Jvm.MethodName)) ∈ kTbl := kW2 (List.mem_of_getElem? (i := 126) rfl) rfl
theorem kt_2_127 : (Jvm.Cond.code ({ cls := "Knitstead", name := "makeOver", desc := "()I" } : Jvm.MethodName) prog_1_method_32_code (1 : Nat) (Option.some Jvm.ClassFile.FieldType.int)) ∈ kTbl := kW2 (List.mem_of_getElem? (i := 127) rfl) rfl
theorem kt_2_128 : (Jvm.Cond.methodLink "Knitstead" (120 : Nat) ({ cls := "Knitstead", name := "takeTogether", desc := "(II)I" } : Jvm.MethodName)) ∈ kTbl := kW2 (List.mem_of_getElem? (i := 128) rfl) rfl
theorem kt_2_130 : (Jvm.Cond.instanceMethod ({ cls := "Knitstead", name := "takeTogether", desc := "(II)I" } : Jvm.MethodName)) ∈ kTbl := kW2 (List.mem_of_getElem? (i := 130) rfl) rfl
theorem kt_2_131 : (Jvm.Cond.code ({ cls := "Knitstead", name := "takeTogether", desc := "(II)I" } : Jvm.MethodName) prog_1_method_33_code (4 : Nat) (Option.some Jvm.ClassFile.FieldType.int)) ∈ kTbl := kW2 (List.mem_of_getElem? (i := 131) rfl) rfl
theorem kt_2_132 : (Jvm.Cond.methodLink "Knitstead" (126 : Nat) ({ cls := "Knitstead", name := "slipNext", desc := "()I" } : Jvm.MethodName)) ∈ kTbl := kW2 (List.mem_of_getElem? (i := 132) rfl) rfl
theorem kt_2_134 : (Jvm.Cond.instanceMethod ({ cls := "Knitstead", name := "slipNext", desc := "()I" } : Jvm.MethodName)) ∈ kTbl := kW2 (List.mem_of_getElem? (i := 134) rfl) rfl
theorem kt_2_135 : (Jvm.Cond.code ({ cls := "Knitstead", name := "slipNext", desc := "()I" } : Jvm.MethodName) prog_1_method_34_code (2 : Nat) (Option.some Jvm.ClassFile.FieldType.int)) ∈ kTbl := kW2 (List.mem_of_getElem? (i := 135) rfl) rfl
theorem kt_2_136 : (Jvm.Cond.methodLink "KnitsteadLaw" (95 : Nat) ({ cls := "Knitstead", name := "undo", desc := "()I" } : Jvm.MethodName)) ∈ kTbl := kW2 (List.mem_of_getElem? (i := 136) rfl) rfl
theorem kt_2_137 : (Jvm.Cond.instanceMethod ({ cls := "Knitstead", name := "undo", desc := "()I" } : Jvm.MethodName)) ∈ kTbl := kW2 (List.mem_of_getElem? (i := 137) rfl) rfl
theorem kt_2_138 : (Jvm.Cond.selects "Knitstead" ({ cls := "Knitstead", name := "undo", desc := "()I" } : Jvm.MethodName) ({ cls := "Knitstead", name := "undo", desc := "()I" } : Jvm.MethodName)) ∈ kTbl := kW2 (List.mem_of_getElem? (i := 138) rfl) rfl
theorem kt_2_139 : (Jvm.Cond.code ({ cls := "Knitstead", name := "undo", desc := "()I" } : Jvm.MethodName) prog_1_method_16_code (1 : Nat) (Option.some Jvm.ClassFile.FieldType.int)) ∈ kTbl := kW2 (List.mem_of_getElem? (i := 139) rfl) rfl
theorem kt_2_141 : (Jvm.Cond.methodLink "Knitstead" (233 : Nat) ({ cls := "Knitstead$History", name := "bringBack", desc := "(LKnitstead$Work;LKnitstead$Balls;)V" } : Jvm.MethodName)) ∈ kTbl := kW2 (List.mem_of_getElem? (i := 141) rfl) rfl
theorem kt_2_142 : (Jvm.Cond.instanceMethod ({ cls := "Knitstead$History", name := "bringBack", desc := "(LKnitstead$Work;LKnitstead$Balls;)V" } : Jvm.MethodName)) ∈ kTbl := kW2 (List.mem_of_getElem? (i := 142) rfl) rfl
theorem kt_2_143 : (Jvm.Cond.selects "Knitstead$History" ({ cls := "Knitstead$History", name := "bringBack", desc := "(LKnitstead$Work;LKnitstead$Balls;)V" } : Jvm.MethodName) ({ cls := "Knitstead$History", name := "bringBack", desc := "(LKnitstead$Work;LKnitstead$Balls;)V" } : Jvm.MethodName)) ∈ kTbl := kW2 (List.mem_of_getElem? (i := 143) rfl) rfl
theorem kt_2_144 : (Jvm.Cond.code ({ cls := "Knitstead$History", name := "bringBack", desc := "(LKnitstead$Work;LKnitstead$Balls;)V" } : Jvm.MethodName) prog_3_method_4_code (4 : Nat) (Option.none : Option Jvm.ClassFile.FieldType)) ∈ kTbl := kW2 (List.mem_of_getElem? (i := 144) rfl) rfl
theorem kt_2_145 : (Jvm.Cond.methodLink "Knitstead$History" (55 : Nat) ({ cls := "Knitstead$Balls", name := "set", desc := "(II)V" } : Jvm.MethodName)) ∈ kTbl := kW2 (List.mem_of_getElem? (i := 145) rfl) rfl
theorem kt_2_146 : (Jvm.Cond.methodLink "KnitsteadLaw" (71 : Nat) ({ cls := "Knitstead", name := "on", desc := "(ZI)I" } : Jvm.MethodName)) ∈ kTbl := kW2 (List.mem_of_getElem? (i := 146) rfl) rfl
theorem kt_2_147 : (Jvm.Cond.instanceMethod ({ cls := "Knitstead", name := "on", desc := "(ZI)I" } : Jvm.MethodName)) ∈ kTbl := kW2 (List.mem_of_getElem? (i := 147) rfl) rfl
theorem kt_2_148 : (Jvm.Cond.selects "Knitstead" ({ cls := "Knitstead", name := "on", desc := "(ZI)I" } : Jvm.MethodName) ({ cls := "Knitstead", name := "on", desc := "(ZI)I" } : Jvm.MethodName)) ∈ kTbl := kW2 (List.mem_of_getElem? (i := 148) rfl) rfl
theorem kt_2_149 : (Jvm.Cond.code ({ cls := "Knitstead", name := "on", desc := "(ZI)I" } : Jvm.MethodName) prog_1_method_17_code (3 : Nat) (Option.some Jvm.ClassFile.FieldType.int)) ∈ kTbl := kW2 (List.mem_of_getElem? (i := 149) rfl) rfl
theorem kt_2_151 : (Jvm.Cond.methodLink "Knitstead" (238 : Nat) ({ cls := "Knitstead", name := "needle", desc := "(Z)LKnitstead$Needle;" } : Jvm.MethodName)) ∈ kTbl := kW2 (List.mem_of_getElem? (i := 151) rfl) rfl
theorem kt_2_153 : (Jvm.Cond.instanceMethod ({ cls := "Knitstead", name := "needle", desc := "(Z)LKnitstead$Needle;" } : Jvm.MethodName)) ∈ kTbl := kW2 (List.mem_of_getElem? (i := 153) rfl) rfl
theorem kt_2_154 : (Jvm.Cond.code ({ cls := "Knitstead", name := "needle", desc := "(Z)LKnitstead$Needle;" } : Jvm.MethodName) prog_1_method_51_code (2 : Nat) (Option.some (Jvm.ClassFile.FieldType.object "Knitstead$Needle"))) ∈ kTbl := kW2 (List.mem_of_getElem? (i := 154) rfl) rfl
theorem kt_2_155 : (Jvm.Cond.methodLink "KnitsteadLaw" (79 : Nat) ({ cls := "Knitstead", name := "ofLoop", desc := "(II)I" } : Jvm.MethodName)) ∈ kTbl := kW2 (List.mem_of_getElem? (i := 155) rfl) rfl
theorem kt_2_156 : (Jvm.Cond.instanceMethod ({ cls := "Knitstead", name := "ofLoop", desc := "(II)I" } : Jvm.MethodName)) ∈ kTbl := kW2 (List.mem_of_getElem? (i := 156) rfl) rfl
theorem kt_2_157 : (Jvm.Cond.selects "Knitstead" ({ cls := "Knitstead", name := "ofLoop", desc := "(II)I" } : Jvm.MethodName) ({ cls := "Knitstead", name := "ofLoop", desc := "(II)I" } : Jvm.MethodName)) ∈ kTbl := kW2 (List.mem_of_getElem? (i := 157) rfl) rfl
theorem kt_2_158 : (Jvm.Cond.code ({ cls := "Knitstead", name := "ofLoop", desc := "(II)I" } : Jvm.MethodName) prog_1_method_18_code (3 : Nat) (Option.some Jvm.ClassFile.FieldType.int)) ∈ kTbl := kW2 (List.mem_of_getElem? (i := 158) rfl) rfl
theorem kt_2_161 : (Jvm.Cond.methodLink "Knitstead" (252 : Nat) ({ cls := "Knitstead", name := "loopFact", desc := "(II)I" } : Jvm.MethodName)) ∈ kTbl := kW2 (List.mem_of_getElem? (i := 161) rfl) rfl
theorem kt_2_163 : (Jvm.Cond.instanceMethod ({ cls := "Knitstead", name := "loopFact", desc := "(II)I" } : Jvm.MethodName)) ∈ kTbl := kW2 (List.mem_of_getElem? (i := 163) rfl) rfl
theorem kt_2_164 : (Jvm.Cond.code ({ cls := "Knitstead", name := "loopFact", desc := "(II)I" } : Jvm.MethodName) prog_1_method_52_code (3 : Nat) (Option.some Jvm.ClassFile.FieldType.int)) ∈ kTbl := kW2 (List.mem_of_getElem? (i := 164) rfl) rfl
theorem kt_2_165 : (Jvm.Cond.methodLink "Knitstead" (373 : Nat) ({ cls := "Knitstead", name := "whereIs", desc := "(I)I" } : Jvm.MethodName)) ∈ kTbl := kW2 (List.mem_of_getElem? (i := 165) rfl) rfl
theorem kt_2_167 : (Jvm.Cond.instanceMethod ({ cls := "Knitstead", name := "whereIs", desc := "(I)I" } : Jvm.MethodName)) ∈ kTbl := kW2 (List.mem_of_getElem? (i := 167) rfl) rfl
theorem kt_2_168 : (Jvm.Cond.code ({ cls := "Knitstead", name := "whereIs", desc := "(I)I" } : Jvm.MethodName) prog_1_method_53_code (2 : Nat) (Option.some Jvm.ClassFile.FieldType.int)) ∈ kTbl := kW2 (List.mem_of_getElem? (i := 168) rfl) rfl
theorem kt_2_169 : (Jvm.Cond.methodLink "Knitstead" (376 : Nat) ({ cls := "Knitstead$Needle", name := "holds", desc := "(I)Z" } : Jvm.MethodName)) ∈ kTbl := kW2 (List.mem_of_getElem? (i := 169) rfl) rfl
theorem kt_2_170 : (Jvm.Cond.instanceMethod ({ cls := "Knitstead$Needle", name := "holds", desc := "(I)Z" } : Jvm.MethodName)) ∈ kTbl := kW2 (List.mem_of_getElem? (i := 170) rfl) rfl
theorem kt_2_171 : (Jvm.Cond.selects "Knitstead$Needle" ({ cls := "Knitstead$Needle", name := "holds", desc := "(I)Z" } : Jvm.MethodName) ({ cls := "Knitstead$Needle", name := "holds", desc := "(I)Z" } : Jvm.MethodName)) ∈ kTbl := kW2 (List.mem_of_getElem? (i := 171) rfl) rfl
theorem kt_2_172 : (Jvm.Cond.code ({ cls := "Knitstead$Needle", name := "holds", desc := "(I)Z" } : Jvm.MethodName) prog_4_method_4_code (3 : Nat) (Option.some Jvm.ClassFile.FieldType.boolean)) ∈ kTbl := kW2 (List.mem_of_getElem? (i := 172) rfl) rfl
theorem kt_2_173 : (Jvm.Cond.methodLink "Knitstead" (379 : Nat) ({ cls := "Knitstead$Work", name := "hasInOpenRun", desc := "(I)Z" } : Jvm.MethodName)) ∈ kTbl := kW2 (List.mem_of_getElem? (i := 173) rfl) rfl
theorem kt_2_174 : (Jvm.Cond.instanceMethod ({ cls := "Knitstead$Work", name := "hasInOpenRun", desc := "(I)Z" } : Jvm.MethodName)) ∈ kTbl := kW2 (List.mem_of_getElem? (i := 174) rfl) rfl
theorem kt_2_175 : (Jvm.Cond.selects "Knitstead$Work" ({ cls := "Knitstead$Work", name := "hasInOpenRun", desc := "(I)Z" } : Jvm.MethodName) ({ cls := "Knitstead$Work", name := "hasInOpenRun", desc := "(I)Z" } : Jvm.MethodName)) ∈ kTbl := kW2 (List.mem_of_getElem? (i := 175) rfl) rfl
theorem kt_2_176 : (Jvm.Cond.code ({ cls := "Knitstead$Work", name := "hasInOpenRun", desc := "(I)Z" } : Jvm.MethodName) prog_7_method_6_code (3 : Nat) (Option.some Jvm.ClassFile.FieldType.boolean)) ∈ kTbl := kW2 (List.mem_of_getElem? (i := 176) rfl) rfl
theorem kt_2_177 : (Jvm.Cond.methodLink "KnitsteadLaw" (101 : Nat) ({ cls := "Knitstead", name := "ofRun", desc := "(II)I" } : Jvm.MethodName)) ∈ kTbl := kW2 (List.mem_of_getElem? (i := 177) rfl) rfl
theorem kt_2_178 : (Jvm.Cond.instanceMethod ({ cls := "Knitstead", name := "ofRun", desc := "(II)I" } : Jvm.MethodName)) ∈ kTbl := kW2 (List.mem_of_getElem? (i := 178) rfl) rfl
theorem kt_2_179 : (Jvm.Cond.selects "Knitstead" ({ cls := "Knitstead", name := "ofRun", desc := "(II)I" } : Jvm.MethodName) ({ cls := "Knitstead", name := "ofRun", desc := "(II)I" } : Jvm.MethodName)) ∈ kTbl := kW2 (List.mem_of_getElem? (i := 179) rfl) rfl
theorem kt_2_180 : (Jvm.Cond.code ({ cls := "Knitstead", name := "ofRun", desc := "(II)I" } : Jvm.MethodName) prog_1_method_19_code (3 : Nat) (Option.some Jvm.ClassFile.FieldType.int)) ∈ kTbl := kW2 (List.mem_of_getElem? (i := 180) rfl) rfl
theorem kt_2_182 : (Jvm.Cond.methodLink "KnitsteadLaw" (82 : Nat) ({ cls := "Knitstead", name := "width", desc := "(Z)D" } : Jvm.MethodName)) ∈ kTbl := kW2 (List.mem_of_getElem? (i := 182) rfl) rfl
theorem kt_2_183 : (Jvm.Cond.instanceMethod ({ cls := "Knitstead", name := "width", desc := "(Z)D" } : Jvm.MethodName)) ∈ kTbl := kW2 (List.mem_of_getElem? (i := 183) rfl) rfl
theorem kt_2_184 : (Jvm.Cond.selects "Knitstead" ({ cls := "Knitstead", name := "width", desc := "(Z)D" } : Jvm.MethodName) ({ cls := "Knitstead", name := "width", desc := "(Z)D" } : Jvm.MethodName)) ∈ kTbl := kW2 (List.mem_of_getElem? (i := 184) rfl) rfl
theorem kt_2_185 : (Jvm.Cond.code ({ cls := "Knitstead", name := "width", desc := "(Z)D" } : Jvm.MethodName) prog_1_method_21_code (2 : Nat) (Option.some Jvm.ClassFile.FieldType.double)) ∈ kTbl := kW2 (List.mem_of_getElem? (i := 185) rfl) rfl
theorem kt_2_186 : (Jvm.Cond.methodLink "Knitstead" (272 : Nat) ({ cls := "Knitstead", name := "widthOf", desc := "(LKnitstead$Needle;)F" } : Jvm.MethodName)) ∈ kTbl := kW2 (List.mem_of_getElem? (i := 186) rfl) rfl
theorem kt_2_188 : (Jvm.Cond.instanceMethod ({ cls := "Knitstead", name := "widthOf", desc := "(LKnitstead$Needle;)F" } : Jvm.MethodName)) ∈ kTbl := kW2 (List.mem_of_getElem? (i := 188) rfl) rfl
theorem kt_2_189 : (Jvm.Cond.code ({ cls := "Knitstead", name := "widthOf", desc := "(LKnitstead$Needle;)F" } : Jvm.MethodName) prog_1_method_57_code (4 : Nat) (Option.some Jvm.ClassFile.FieldType.float)) ∈ kTbl := kW2 (List.mem_of_getElem? (i := 189) rfl) rfl
theorem kt_2_190 : (Jvm.Cond.constantFloat "Knitstead" (388 : Nat) (1056964608 : UInt32)) ∈ kTbl := kW2 (List.mem_of_getElem? (i := 190) rfl) rfl
theorem kt_2_191 : (Jvm.Cond.methodLink "Knitstead" (385 : Nat) ({ cls := "Knitstead", name := "isSmooth", desc := "(I)Z" } : Jvm.MethodName)) ∈ kTbl := kW2 (List.mem_of_getElem? (i := 191) rfl) rfl
theorem kt_2_193 : (Jvm.Cond.instanceMethod ({ cls := "Knitstead", name := "isSmooth", desc := "(I)Z" } : Jvm.MethodName)) ∈ kTbl := kW2 (List.mem_of_getElem? (i := 193) rfl) rfl
theorem kt_2_194 : (Jvm.Cond.code ({ cls := "Knitstead", name := "isSmooth", desc := "(I)Z" } : Jvm.MethodName) prog_1_method_55_code (4 : Nat) (Option.some Jvm.ClassFile.FieldType.boolean)) ∈ kTbl := kW2 (List.mem_of_getElem? (i := 194) rfl) rfl
theorem kt_2_195 : (Jvm.Cond.methodLink "Knitstead" (382 : Nat) ({ cls := "Knitstead", name := "isAsMade", desc := "(I)Z" } : Jvm.MethodName)) ∈ kTbl := kW2 (List.mem_of_getElem? (i := 195) rfl) rfl
theorem kt_2_197 : (Jvm.Cond.instanceMethod ({ cls := "Knitstead", name := "isAsMade", desc := "(I)Z" } : Jvm.MethodName)) ∈ kTbl := kW2 (List.mem_of_getElem? (i := 197) rfl) rfl
theorem kt_2_198 : (Jvm.Cond.code ({ cls := "Knitstead", name := "isAsMade", desc := "(I)Z" } : Jvm.MethodName) prog_1_method_54_code (2 : Nat) (Option.some Jvm.ClassFile.FieldType.boolean)) ∈ kTbl := kW2 (List.mem_of_getElem? (i := 198) rfl) rfl
theorem kt_2_199 : (Jvm.Cond.constantFloat "Knitstead" (389 : Nat) (1040187392 : UInt32)) ∈ kTbl := kW2 (List.mem_of_getElem? (i := 199) rfl) rfl
theorem kt_2_200 : (Jvm.Cond.methodLink "KnitsteadLaw" (62 : Nat) ({ cls := "Knitstead", name := "many", desc := "(I)I" } : Jvm.MethodName)) ∈ kTbl := kW2 (List.mem_of_getElem? (i := 200) rfl) rfl
theorem kt_2_201 : (Jvm.Cond.instanceMethod ({ cls := "Knitstead", name := "many", desc := "(I)I" } : Jvm.MethodName)) ∈ kTbl := kW2 (List.mem_of_getElem? (i := 201) rfl) rfl
theorem kt_2_202 : (Jvm.Cond.selects "Knitstead" ({ cls := "Knitstead", name := "many", desc := "(I)I" } : Jvm.MethodName) ({ cls := "Knitstead", name := "many", desc := "(I)I" } : Jvm.MethodName)) ∈ kTbl := kW2 (List.mem_of_getElem? (i := 202) rfl) rfl
theorem kt_2_203 : (Jvm.Cond.code ({ cls := "Knitstead", name := "many", desc := "(I)I" } : Jvm.MethodName) prog_1_method_22_code (2 : Nat) (Option.some Jvm.ClassFile.FieldType.int)) ∈ kTbl := kW2 (List.mem_of_getElem? (i := 203) rfl) rfl
theorem kt_2_205 : (Jvm.Cond.methodLink "Knitstead" (278 : Nat) ({ cls := "Knitstead", name := "number", desc := "(I)I" } : Jvm.MethodName)) ∈ kTbl := kW2 (List.mem_of_getElem? (i := 205) rfl) rfl
theorem kt_2_207 : (Jvm.Cond.instanceMethod ({ cls := "Knitstead", name := "number", desc := "(I)I" } : Jvm.MethodName)) ∈ kTbl := kW2 (List.mem_of_getElem? (i := 207) rfl) rfl
theorem kt_2_208 : (Jvm.Cond.code ({ cls := "Knitstead", name := "number", desc := "(I)I" } : Jvm.MethodName) prog_1_method_58_code (2 : Nat) (Option.some Jvm.ClassFile.FieldType.int)) ∈ kTbl := kW2 (List.mem_of_getElem? (i := 208) rfl) rfl
theorem kt_2_209 : (Jvm.Cond.methodLink "Knitstead" (390 : Nat) ({ cls := "Knitstead$Balls", name := "ofAll", desc := "()I" } : Jvm.MethodName)) ∈ kTbl := kW2 (List.mem_of_getElem? (i := 209) rfl) rfl
theorem kt_2_210 : (Jvm.Cond.instanceMethod ({ cls := "Knitstead$Balls", name := "ofAll", desc := "()I" } : Jvm.MethodName)) ∈ kTbl := kW2 (List.mem_of_getElem? (i := 210) rfl) rfl
theorem kt_2_211 : (Jvm.Cond.selects "Knitstead$Balls" ({ cls := "Knitstead$Balls", name := "ofAll", desc := "()I" } : Jvm.MethodName) ({ cls := "Knitstead$Balls", name := "ofAll", desc := "()I" } : Jvm.MethodName)) ∈ kTbl := kW2 (List.mem_of_getElem? (i := 211) rfl) rfl
theorem kt_2_212 : (Jvm.Cond.code ({ cls := "Knitstead$Balls", name := "ofAll", desc := "()I" } : Jvm.MethodName) prog_2_method_8_code (3 : Nat) (Option.some Jvm.ClassFile.FieldType.int)) ∈ kTbl := kW2 (List.mem_of_getElem? (i := 212) rfl) rfl
theorem kt_2_213 : (Jvm.Cond.methodLink "Knitstead" (393 : Nat) ({ cls := "Knitstead$Work", name := "openRuns", desc := "()I" } : Jvm.MethodName)) ∈ kTbl := kW2 (List.mem_of_getElem? (i := 213) rfl) rfl
theorem kt_2_214 : (Jvm.Cond.instanceMethod ({ cls := "Knitstead$Work", name := "openRuns", desc := "()I" } : Jvm.MethodName)) ∈ kTbl := kW2 (List.mem_of_getElem? (i := 214) rfl) rfl
theorem kt_2_215 : (Jvm.Cond.selects "Knitstead$Work" ({ cls := "Knitstead$Work", name := "openRuns", desc := "()I" } : Jvm.MethodName) ({ cls := "Knitstead$Work", name := "openRuns", desc := "()I" } : Jvm.MethodName)) ∈ kTbl := kW2 (List.mem_of_getElem? (i := 215) rfl) rfl
theorem kt_2_216 : (Jvm.Cond.code ({ cls := "Knitstead$Work", name := "openRuns", desc := "()I" } : Jvm.MethodName) prog_7_method_5_code (3 : Nat) (Option.some Jvm.ClassFile.FieldType.int)) ∈ kTbl := kW2 (List.mem_of_getElem? (i := 216) rfl) rfl
theorem kt_2_217 : (Jvm.Cond.methodLink "KnitsteadLaw" (65 : Nat) ({ cls := "Knitstead", name := "left", desc := "(I)I" } : Jvm.MethodName)) ∈ kTbl := kW2 (List.mem_of_getElem? (i := 217) rfl) rfl
theorem kt_2_218 : (Jvm.Cond.instanceMethod ({ cls := "Knitstead", name := "left", desc := "(I)I" } : Jvm.MethodName)) ∈ kTbl := kW2 (List.mem_of_getElem? (i := 218) rfl) rfl
theorem kt_2_219 : (Jvm.Cond.selects "Knitstead" ({ cls := "Knitstead", name := "left", desc := "(I)I" } : Jvm.MethodName) ({ cls := "Knitstead", name := "left", desc := "(I)I" } : Jvm.MethodName)) ∈ kTbl := kW2 (List.mem_of_getElem? (i := 219) rfl) rfl
theorem kt_2_220 : (Jvm.Cond.code ({ cls := "Knitstead", name := "left", desc := "(I)I" } : Jvm.MethodName) prog_1_method_23_code (2 : Nat) (Option.some Jvm.ClassFile.FieldType.int)) ∈ kTbl := kW2 (List.mem_of_getElem? (i := 220) rfl) rfl
theorem kt_2_221 : (Jvm.Cond.methodLink "Knitstead" (72 : Nat) ({ cls := "Knitstead$Balls", name := "has", desc := "(I)Z" } : Jvm.MethodName)) ∈ kTbl := kW2 (List.mem_of_getElem? (i := 221) rfl) rfl
theorem kt_2_223 : (Jvm.Cond.methodLink "Knitstead" (281 : Nat) ({ cls := "Knitstead$Balls", name := "of", desc := "(I)I" } : Jvm.MethodName)) ∈ kTbl := kW2 (List.mem_of_getElem? (i := 223) rfl) rfl
theorem kt_2_224 : (Jvm.Cond.methodLink "KnitsteadLaw" (86 : Nat) ({ cls := "Knitstead", name := "would", desc := "(I)I" } : Jvm.MethodName)) ∈ kTbl := kW2 (List.mem_of_getElem? (i := 224) rfl) rfl
theorem kt_2_225 : (Jvm.Cond.instanceMethod ({ cls := "Knitstead", name := "would", desc := "(I)I" } : Jvm.MethodName)) ∈ kTbl := kW2 (List.mem_of_getElem? (i := 225) rfl) rfl
theorem kt_2_226 : (Jvm.Cond.selects "Knitstead" ({ cls := "Knitstead", name := "would", desc := "(I)I" } : Jvm.MethodName) ({ cls := "Knitstead", name := "would", desc := "(I)I" } : Jvm.MethodName)) ∈ kTbl := kW2 (List.mem_of_getElem? (i := 226) rfl) rfl
theorem kt_2_227 : (Jvm.Cond.code ({ cls := "Knitstead", name := "would", desc := "(I)I" } : Jvm.MethodName) prog_1_method_25_code (2 : Nat) (Option.some Jvm.ClassFile.FieldType.int)) ∈ kTbl := kW2 (List.mem_of_getElem? (i := 227) rfl) rfl
theorem kt_2_228 : (Jvm.Cond.methodLink "KnitsteadLaw" (89 : Nat) ({ cls := "Knitstead", name := "needs", desc := "(I)I" } : Jvm.MethodName)) ∈ kTbl := kW2 (List.mem_of_getElem? (i := 228) rfl) rfl
theorem kt_2_229 : (Jvm.Cond.instanceMethod ({ cls := "Knitstead", name := "needs", desc := "(I)I" } : Jvm.MethodName)) ∈ kTbl := kW2 (List.mem_of_getElem? (i := 229) rfl) rfl
theorem kt_2_230 : (Jvm.Cond.selects "Knitstead" ({ cls := "Knitstead", name := "needs", desc := "(I)I" } : Jvm.MethodName) ({ cls := "Knitstead", name := "needs", desc := "(I)I" } : Jvm.MethodName)) ∈ kTbl := kW2 (List.mem_of_getElem? (i := 230) rfl) rfl
theorem kt_2_231 : (Jvm.Cond.code ({ cls := "Knitstead", name := "needs", desc := "(I)I" } : Jvm.MethodName) prog_1_method_26_code (2 : Nat) (Option.some Jvm.ClassFile.FieldType.int)) ∈ kTbl := kW2 (List.mem_of_getElem? (i := 231) rfl) rfl
theorem kt_2_232 : (Jvm.Cond.methodLink "KnitsteadLaw" (113 : Nat) ({ cls := "Knitstead", name := "digest", desc := "()J" } : Jvm.MethodName)) ∈ kTbl := kW2 (List.mem_of_getElem? (i := 232) rfl) rfl
theorem kt_2_233 : (Jvm.Cond.instanceMethod ({ cls := "Knitstead", name := "digest", desc := "()J" } : Jvm.MethodName)) ∈ kTbl := kW2 (List.mem_of_getElem? (i := 233) rfl) rfl
theorem kt_2_234 : (Jvm.Cond.selects "Knitstead" ({ cls := "Knitstead", name := "digest", desc := "()J" } : Jvm.MethodName) ({ cls := "Knitstead", name := "digest", desc := "()J" } : Jvm.MethodName)) ∈ kTbl := kW2 (List.mem_of_getElem? (i := 234) rfl) rfl
theorem kt_2_235 : (Jvm.Cond.code ({ cls := "Knitstead", name := "digest", desc := "()J" } : Jvm.MethodName) prog_1_method_28_code (4 : Nat) (Option.some Jvm.ClassFile.FieldType.long)) ∈ kTbl := kW2 (List.mem_of_getElem? (i := 235) rfl) rfl
theorem kt_2_236 : (Jvm.Cond.constantLong "Knitstead" (294 : Nat) (58309 : Int64)) ∈ kTbl := kW2 (List.mem_of_getElem? (i := 236) rfl) rfl
theorem kt_2_237 : (Jvm.Cond.methodLink "Knitstead" (296 : Nat) ({ cls := "Knitstead", name := "mixed", desc := "(JJ)J" } : Jvm.MethodName)) ∈ kTbl := kW2 (List.mem_of_getElem? (i := 237) rfl) rfl
theorem kt_2_238 : (Jvm.Cond.static ({ cls := "Knitstead", name := "mixed", desc := "(JJ)J" } : Jvm.MethodName)) ∈ kTbl := kW2 (List.mem_of_getElem? (i := 238) rfl) rfl
theorem kt_2_239 : (Jvm.Cond.code ({ cls := "Knitstead", name := "mixed", desc := "(JJ)J" } : Jvm.MethodName) prog_1_method_59_code (4 : Nat) (Option.some Jvm.ClassFile.FieldType.long)) ∈ kTbl := kW2 (List.mem_of_getElem? (i := 239) rfl) rfl
theorem kt_3_0 : (Jvm.Cond.constantLong "Knitstead" (396 : Nat) (31 : Int64)) ∈ kTbl := kW3 (List.mem_of_getElem? (i := 0) rfl) rfl
theorem kt_3_1 : (Jvm.Cond.methodLink "Knitstead" (300 : Nat) ({ cls := "Knitstead", name := "mixedLoops", desc := "(JLKnitstead$Needle;)J" } : Jvm.MethodName)) ∈ kTbl := kW3 (List.mem_of_getElem? (i := 1) rfl) rfl
theorem kt_3_3 : (Jvm.Cond.instanceMethod ({ cls := "Knitstead", name := "mixedLoops", desc := "(JLKnitstead$Needle;)J" } : Jvm.MethodName)) ∈ kTbl := kW3 (List.mem_of_getElem? (i := 3) rfl) rfl
theorem kt_3_4 : (Jvm.Cond.code ({ cls := "Knitstead", name := "mixedLoops", desc := "(JLKnitstead$Needle;)J" } : Jvm.MethodName) prog_1_method_61_code (9 : Nat) (Option.some Jvm.ClassFile.FieldType.long)) ∈ kTbl := kW3 (List.mem_of_getElem? (i := 4) rfl) rfl
theorem kt_3_5 : (Jvm.Cond.constantFloat "Knitstead" (304 : Nat) (1090519040 : UInt32)) ∈ kTbl := kW3 (List.mem_of_getElem? (i := 5) rfl) rfl
theorem kt_3_6 : (Jvm.Cond.methodLink "Knitstead" (305 : Nat) ({ cls := "Knitstead", name := "mixedRow", desc := "(JLKnitstead$Table;II)J" } : Jvm.MethodName)) ∈ kTbl := kW3 (List.mem_of_getElem? (i := 6) rfl) rfl
theorem kt_3_7 : (Jvm.Cond.static ({ cls := "Knitstead", name := "mixedRow", desc := "(JLKnitstead$Table;II)J" } : Jvm.MethodName)) ∈ kTbl := kW3 (List.mem_of_getElem? (i := 7) rfl) rfl
theorem kt_3_8 : (Jvm.Cond.code ({ cls := "Knitstead", name := "mixedRow", desc := "(JLKnitstead$Table;II)J" } : Jvm.MethodName) prog_1_method_60_code (8 : Nat) (Option.some Jvm.ClassFile.FieldType.long)) ∈ kTbl := kW3 (List.mem_of_getElem? (i := 8) rfl) rfl
theorem kt_3_9 : (Jvm.Cond.methodLink "Knitstead" (309 : Nat) ({ cls := "Knitstead", name := "mixedPatterns", desc := "(J)J" } : Jvm.MethodName)) ∈ kTbl := kW3 (List.mem_of_getElem? (i := 9) rfl) rfl
theorem kt_3_11 : (Jvm.Cond.instanceMethod ({ cls := "Knitstead", name := "mixedPatterns", desc := "(J)J" } : Jvm.MethodName)) ∈ kTbl := kW3 (List.mem_of_getElem? (i := 11) rfl) rfl
theorem kt_3_12 : (Jvm.Cond.code ({ cls := "Knitstead", name := "mixedPatterns", desc := "(J)J" } : Jvm.MethodName) prog_1_method_62_code (6 : Nat) (Option.some Jvm.ClassFile.FieldType.long)) ∈ kTbl := kW3 (List.mem_of_getElem? (i := 12) rfl) rfl
theorem kt_3_13 : (Jvm.Cond.methodLink "Knitstead" (291 : Nat) ({ cls := "Knitstead", name := "bestPattern", desc := "()I" } : Jvm.MethodName)) ∈ kTbl := kW3 (List.mem_of_getElem? (i := 13) rfl) rfl
theorem kt_3_15 : (Jvm.Cond.instanceMethod ({ cls := "Knitstead", name := "bestPattern", desc := "()I" } : Jvm.MethodName)) ∈ kTbl := kW3 (List.mem_of_getElem? (i := 15) rfl) rfl
theorem kt_3_16 : (Jvm.Cond.code ({ cls := "Knitstead", name := "bestPattern", desc := "()I" } : Jvm.MethodName) prog_1_method_50_code (4 : Nat) (Option.some Jvm.ClassFile.FieldType.int)) ∈ kTbl := kW3 (List.mem_of_getElem? (i := 16) rfl) rfl
theorem kt_3_17 : (Jvm.Cond.methodLink "Knitstead" (370 : Nat) ({ cls := "Knitstead", name := "endsWhole", desc := "(I)Z" } : Jvm.MethodName)) ∈ kTbl := kW3 (List.mem_of_getElem? (i := 17) rfl) rfl
theorem kt_3_19 : (Jvm.Cond.instanceMethod ({ cls := "Knitstead", name := "endsWhole", desc := "(I)Z" } : Jvm.MethodName)) ∈ kTbl := kW3 (List.mem_of_getElem? (i := 19) rfl) rfl
theorem kt_3_20 : (Jvm.Cond.code ({ cls := "Knitstead", name := "endsWhole", desc := "(I)Z" } : Jvm.MethodName) prog_1_method_49_code (3 : Nat) (Option.some Jvm.ClassFile.FieldType.boolean)) ∈ kTbl := kW3 (List.mem_of_getElem? (i := 20) rfl) rfl
theorem kt_3_21 : (Jvm.Cond.methodLink "KnitsteadLaw" (18 : Nat) ({ cls := "KnitsteadLaw", name := "below", desc := "(II)I" } : Jvm.MethodName)) ∈ kTbl := kW3 (List.mem_of_getElem? (i := 21) rfl) rfl
theorem kt_3_22 : (Jvm.Cond.static ({ cls := "KnitsteadLaw", name := "below", desc := "(II)I" } : Jvm.MethodName)) ∈ kTbl := kW3 (List.mem_of_getElem? (i := 22) rfl) rfl
theorem kt_3_23 : (Jvm.Cond.code ({ cls := "KnitsteadLaw", name := "below", desc := "(II)I" } : Jvm.MethodName) method_2_code (2 : Nat) (Option.some Jvm.ClassFile.FieldType.int)) ∈ kTbl := kW3 (List.mem_of_getElem? (i := 23) rfl) rfl
theorem kt_3_24 : (Jvm.Cond.constant "KnitsteadLaw" (7 : Nat) (2147483647 : Int32)) ∈ kTbl := kW3 (List.mem_of_getElem? (i := 24) rfl) rfl
theorem kt_3_25 : (Jvm.Cond.methodLink "KnitsteadLaw" (12 : Nat) ({ cls := "KnitsteadLaw", name := "cell", desc := "([II)I" } : Jvm.MethodName)) ∈ kTbl := kW3 (List.mem_of_getElem? (i := 25) rfl) rfl
theorem kt_3_26 : (Jvm.Cond.static ({ cls := "KnitsteadLaw", name := "cell", desc := "([II)I" } : Jvm.MethodName)) ∈ kTbl := kW3 (List.mem_of_getElem? (i := 26) rfl) rfl
theorem kt_3_27 : (Jvm.Cond.code ({ cls := "KnitsteadLaw", name := "cell", desc := "([II)I" } : Jvm.MethodName) method_3_code (2 : Nat) (Option.some Jvm.ClassFile.FieldType.int)) ∈ kTbl := kW3 (List.mem_of_getElem? (i := 27) rfl) rfl
theorem kt_3_28 : (Jvm.Cond.constant "KnitsteadLaw" (8 : Nat) (790386105 : Int32)) ∈ kTbl := kW3 (List.mem_of_getElem? (i := 28) rfl) rfl
theorem kt_3_29 : (Jvm.Cond.methodLink "KnitsteadLaw" (68 : Nat) ({ cls := "KnitsteadLaw", name := "work", desc := "([II)LKnitstead;" } : Jvm.MethodName)) ∈ kTbl := kW3 (List.mem_of_getElem? (i := 29) rfl) rfl
theorem kt_3_30 : (Jvm.Cond.static ({ cls := "KnitsteadLaw", name := "work", desc := "([II)LKnitstead;" } : Jvm.MethodName)) ∈ kTbl := kW3 (List.mem_of_getElem? (i := 30) rfl) rfl
theorem kt_3_31 : (Jvm.Cond.code ({ cls := "KnitsteadLaw", name := "work", desc := "([II)LKnitstead;" } : Jvm.MethodName) method_4_code (7 : Nat) (Option.some (Jvm.ClassFile.FieldType.object "Knitstead"))) ∈ kTbl := kW3 (List.mem_of_getElem? (i := 31) rfl) rfl
theorem kt_3_32 : (Jvm.Cond.classLink "KnitsteadLaw" (9 : Nat) "Knitstead") ∈ kTbl := kW3 (List.mem_of_getElem? (i := 32) rfl) rfl
theorem kt_3_33 : (Jvm.Cond.methodLink "KnitsteadLaw" (11 : Nat) ({ cls := "Knitstead", name := "<init>", desc := "()V" } : Jvm.MethodName)) ∈ kTbl := kW3 (List.mem_of_getElem? (i := 33) rfl) rfl
theorem kt_3_34 : (Jvm.Cond.instanceMethod ({ cls := "Knitstead", name := "<init>", desc := "()V" } : Jvm.MethodName)) ∈ kTbl := kW3 (List.mem_of_getElem? (i := 34) rfl) rfl
theorem kt_3_35 : (Jvm.Cond.code ({ cls := "Knitstead", name := "<init>", desc := "()V" } : Jvm.MethodName) prog_1_method_1_code (1 : Nat) (Option.none : Option Jvm.ClassFile.FieldType)) ∈ kTbl := kW3 (List.mem_of_getElem? (i := 35) rfl) rfl
theorem kt_3_36 : (Jvm.Cond.methodLink "Knitstead" (3 : Nat) ({ cls := "java/lang/Object", name := "<init>", desc := "()V" } : Jvm.MethodName)) ∈ kTbl := kW3 (List.mem_of_getElem? (i := 36) rfl) rfl
theorem kt_3_37 : (Jvm.Cond.classLink "Knitstead" (9 : Nat) "Knitstead$Balls") ∈ kTbl := kW3 (List.mem_of_getElem? (i := 37) rfl) rfl
theorem kt_3_38 : (Jvm.Cond.instantiable "Knitstead$Balls" (3 : Nat)) ∈ kTbl := kW3 (List.mem_of_getElem? (i := 38) rfl) rfl
theorem kt_3_39 : (Jvm.Cond.methodLinkNest "Knitstead" (11 : Nat) ({ cls := "Knitstead$Balls", name := "<init>", desc := "()V" } : Jvm.MethodName) "Knitstead") ∈ kTbl := kW3 (List.mem_of_getElem? (i := 39) rfl) rfl
theorem kt_3_40 : (Jvm.Cond.instanceMethod ({ cls := "Knitstead$Balls", name := "<init>", desc := "()V" } : Jvm.MethodName)) ∈ kTbl := kW3 (List.mem_of_getElem? (i := 40) rfl) rfl
theorem kt_3_41 : (Jvm.Cond.code ({ cls := "Knitstead$Balls", name := "<init>", desc := "()V" } : Jvm.MethodName) prog_2_method_1_code (1 : Nat) (Option.none : Option Jvm.ClassFile.FieldType)) ∈ kTbl := kW3 (List.mem_of_getElem? (i := 41) rfl) rfl
theorem kt_3_42 : (Jvm.Cond.methodLink "Knitstead$Balls" (3 : Nat) ({ cls := "java/lang/Object", name := "<init>", desc := "()V" } : Jvm.MethodName)) ∈ kTbl := kW3 (List.mem_of_getElem? (i := 42) rfl) rfl
theorem kt_3_43 : (Jvm.Cond.fieldLink "Knitstead$Balls" (9 : Nat) "Knitstead$Balls" "yarn" "[I") ∈ kTbl := kW3 (List.mem_of_getElem? (i := 43) rfl) rfl
theorem kt_3_44 : (Jvm.Cond.fieldLink "Knitstead$Balls" (19 : Nat) "Knitstead$Balls" "count" "I") ∈ kTbl := kW3 (List.mem_of_getElem? (i := 44) rfl) rfl
theorem kt_3_45 : (Jvm.Cond.fieldLinkNest "Knitstead" (59 : Nat) "Knitstead$Balls" "count" "I" "Knitstead") ∈ kTbl := kW3 (List.mem_of_getElem? (i := 45) rfl) rfl
theorem kt_3_46 : (Jvm.Cond.fieldLink "Knitstead$Balls" (15 : Nat) "Knitstead$Balls" "joined" "I") ∈ kTbl := kW3 (List.mem_of_getElem? (i := 46) rfl) rfl
theorem kt_3_47 : (Jvm.Cond.fieldLinkNest "Knitstead" (81 : Nat) "Knitstead$Balls" "joined" "I" "Knitstead") ∈ kTbl := kW3 (List.mem_of_getElem? (i := 47) rfl) rfl
theorem kt_3_48 : (Jvm.Cond.fieldLinkNest "Knitstead$History" (37 : Nat) "Knitstead$Balls" "joined" "I" "Knitstead") ∈ kTbl := kW3 (List.mem_of_getElem? (i := 48) rfl) rfl
theorem kt_3_49 : (Jvm.Cond.laysFinal "Knitstead$Balls" "Knitstead$Balls" "yarn" "[I") ∈ kTbl := kW3 (List.mem_of_getElem? (i := 49) rfl) rfl
theorem kt_3_51 : (Jvm.Cond.lays "Knitstead$Balls" "Knitstead$Balls" "count" "I") ∈ kTbl := kW3 (List.mem_of_getElem? (i := 51) rfl) rfl
theorem kt_3_53 : (Jvm.Cond.lays "Knitstead$Balls" "Knitstead$Balls" "joined" "I") ∈ kTbl := kW3 (List.mem_of_getElem? (i := 53) rfl) rfl
theorem kt_3_56 : (Jvm.Cond.classLink "Knitstead" (16 : Nat) "Knitstead$Work") ∈ kTbl := kW3 (List.mem_of_getElem? (i := 56) rfl) rfl
theorem kt_3_57 : (Jvm.Cond.instantiable "Knitstead$Work" (10 : Nat)) ∈ kTbl := kW3 (List.mem_of_getElem? (i := 57) rfl) rfl
theorem kt_3_58 : (Jvm.Cond.methodLinkNest "Knitstead" (18 : Nat) ({ cls := "Knitstead$Work", name := "<init>", desc := "()V" } : Jvm.MethodName) "Knitstead") ∈ kTbl := kW3 (List.mem_of_getElem? (i := 58) rfl) rfl
theorem kt_3_59 : (Jvm.Cond.instanceMethod ({ cls := "Knitstead$Work", name := "<init>", desc := "()V" } : Jvm.MethodName)) ∈ kTbl := kW3 (List.mem_of_getElem? (i := 59) rfl) rfl
theorem kt_3_60 : (Jvm.Cond.code ({ cls := "Knitstead$Work", name := "<init>", desc := "()V" } : Jvm.MethodName) prog_7_method_1_code (1 : Nat) (Option.none : Option Jvm.ClassFile.FieldType)) ∈ kTbl := kW3 (List.mem_of_getElem? (i := 60) rfl) rfl
theorem kt_3_61 : (Jvm.Cond.methodLink "Knitstead$Work" (3 : Nat) ({ cls := "java/lang/Object", name := "<init>", desc := "()V" } : Jvm.MethodName)) ∈ kTbl := kW3 (List.mem_of_getElem? (i := 61) rfl) rfl
theorem kt_3_62 : (Jvm.Cond.classLink "Knitstead$Work" (9 : Nat) "Knitstead$Needle") ∈ kTbl := kW3 (List.mem_of_getElem? (i := 62) rfl) rfl
theorem kt_3_63 : (Jvm.Cond.methodLinkNest "Knitstead$Work" (11 : Nat) ({ cls := "Knitstead$Needle", name := "<init>", desc := "()V" } : Jvm.MethodName) "Knitstead") ∈ kTbl := kW3 (List.mem_of_getElem? (i := 63) rfl) rfl
theorem kt_3_64 : (Jvm.Cond.instanceMethod ({ cls := "Knitstead$Needle", name := "<init>", desc := "()V" } : Jvm.MethodName)) ∈ kTbl := kW3 (List.mem_of_getElem? (i := 64) rfl) rfl
theorem kt_3_65 : (Jvm.Cond.code ({ cls := "Knitstead$Needle", name := "<init>", desc := "()V" } : Jvm.MethodName) prog_4_method_1_code (1 : Nat) (Option.none : Option Jvm.ClassFile.FieldType)) ∈ kTbl := kW3 (List.mem_of_getElem? (i := 65) rfl) rfl
theorem kt_3_66 : (Jvm.Cond.methodLink "Knitstead$Needle" (3 : Nat) ({ cls := "java/lang/Object", name := "<init>", desc := "()V" } : Jvm.MethodName)) ∈ kTbl := kW3 (List.mem_of_getElem? (i := 66) rfl) rfl
theorem kt_3_67 : (Jvm.Cond.fieldLink "Knitstead$Needle" (9 : Nat) "Knitstead$Needle" "row" "[I") ∈ kTbl := kW3 (List.mem_of_getElem? (i := 67) rfl) rfl
theorem kt_3_68 : (Jvm.Cond.fieldLink "Knitstead$Needle" (15 : Nat) "Knitstead$Needle" "count" "I") ∈ kTbl := kW3 (List.mem_of_getElem? (i := 68) rfl) rfl
theorem kt_3_69 : (Jvm.Cond.fieldLinkNest "Knitstead$Work" (30 : Nat) "Knitstead$Needle" "count" "I" "Knitstead") ∈ kTbl := kW3 (List.mem_of_getElem? (i := 69) rfl) rfl
theorem kt_3_70 : (Jvm.Cond.fieldLinkNest "Knitstead" (135 : Nat) "Knitstead$Needle" "count" "I" "Knitstead") ∈ kTbl := kW3 (List.mem_of_getElem? (i := 70) rfl) rfl
theorem kt_3_71 : (Jvm.Cond.laysFinal "Knitstead$Needle" "Knitstead$Needle" "row" "[I") ∈ kTbl := kW3 (List.mem_of_getElem? (i := 71) rfl) rfl
theorem kt_3_73 : (Jvm.Cond.lays "Knitstead$Needle" "Knitstead$Needle" "count" "I") ∈ kTbl := kW3 (List.mem_of_getElem? (i := 73) rfl) rfl
theorem kt_3_76 : (Jvm.Cond.classLink "Knitstead$Work" (21 : Nat) "Knitstead$Table") ∈ kTbl := kW3 (List.mem_of_getElem? (i := 76) rfl) rfl
theorem kt_3_77 : (Jvm.Cond.methodLink "Knitstead$Work" (23 : Nat) ({ cls := "Knitstead$Table", name := "<init>", desc := "(III)V" } : Jvm.MethodName)) ∈ kTbl := kW3 (List.mem_of_getElem? (i := 77) rfl) rfl
theorem kt_3_78 : (Jvm.Cond.instanceMethod ({ cls := "Knitstead$Table", name := "<init>", desc := "(III)V" } : Jvm.MethodName)) ∈ kTbl := kW3 (List.mem_of_getElem? (i := 78) rfl) rfl
theorem kt_3_79 : (Jvm.Cond.code ({ cls := "Knitstead$Table", name := "<init>", desc := "(III)V" } : Jvm.MethodName) prog_5_method_1_code (4 : Nat) (Option.none : Option Jvm.ClassFile.FieldType)) ∈ kTbl := kW3 (List.mem_of_getElem? (i := 79) rfl) rfl
theorem kt_3_80 : (Jvm.Cond.methodLink "Knitstead$Table" (3 : Nat) ({ cls := "java/lang/Object", name := "<init>", desc := "()V" } : Jvm.MethodName)) ∈ kTbl := kW3 (List.mem_of_getElem? (i := 80) rfl) rfl
theorem kt_3_81 : (Jvm.Cond.fieldLink "Knitstead$Table" (15 : Nat) "Knitstead$Table" "facts" "I") ∈ kTbl := kW3 (List.mem_of_getElem? (i := 81) rfl) rfl
theorem kt_3_82 : (Jvm.Cond.fieldLink "Knitstead$Table" (21 : Nat) "Knitstead$Table" "mostRows" "I") ∈ kTbl := kW3 (List.mem_of_getElem? (i := 82) rfl) rfl
theorem kt_3_83 : (Jvm.Cond.fieldLink "Knitstead$Table" (24 : Nat) "Knitstead$Table" "cells" "[I") ∈ kTbl := kW3 (List.mem_of_getElem? (i := 83) rfl) rfl
theorem kt_3_84 : (Jvm.Cond.laysFinal "Knitstead$Table" "Knitstead$Table" "facts" "I") ∈ kTbl := kW3 (List.mem_of_getElem? (i := 84) rfl) rfl
theorem kt_3_86 : (Jvm.Cond.laysFinal "Knitstead$Table" "Knitstead$Table" "mostRows" "I") ∈ kTbl := kW3 (List.mem_of_getElem? (i := 86) rfl) rfl
theorem kt_3_88 : (Jvm.Cond.lays "Knitstead$Table" "Knitstead$Table" "cells" "[I") ∈ kTbl := kW3 (List.mem_of_getElem? (i := 88) rfl) rfl
theorem kt_3_91 : (Jvm.Cond.fieldLink "Knitstead$Work" (12 : Nat) "Knitstead$Work" "leftNeedle" "LKnitstead$Needle;") ∈ kTbl := kW3 (List.mem_of_getElem? (i := 91) rfl) rfl
theorem kt_3_92 : (Jvm.Cond.fieldLinkNest "Knitstead" (131 : Nat) "Knitstead$Work" "leftNeedle" "LKnitstead$Needle;" "Knitstead") ∈ kTbl := kW3 (List.mem_of_getElem? (i := 92) rfl) rfl
theorem kt_3_93 : (Jvm.Cond.fieldLink "Knitstead$Work" (18 : Nat) "Knitstead$Work" "rightNeedle" "LKnitstead$Needle;") ∈ kTbl := kW3 (List.mem_of_getElem? (i := 93) rfl) rfl
theorem kt_3_94 : (Jvm.Cond.fieldLinkNest "Knitstead" (148 : Nat) "Knitstead$Work" "rightNeedle" "LKnitstead$Needle;" "Knitstead") ∈ kTbl := kW3 (List.mem_of_getElem? (i := 94) rfl) rfl
theorem kt_3_95 : (Jvm.Cond.fieldLink "Knitstead$Work" (26 : Nat) "Knitstead$Work" "runs" "LKnitstead$Table;") ∈ kTbl := kW3 (List.mem_of_getElem? (i := 95) rfl) rfl
theorem kt_3_96 : (Jvm.Cond.fieldLinkNest "Knitstead" (187 : Nat) "Knitstead$Work" "runs" "LKnitstead$Table;" "Knitstead") ∈ kTbl := kW3 (List.mem_of_getElem? (i := 96) rfl) rfl
theorem kt_3_97 : (Jvm.Cond.fieldLink "Knitstead$Work" (34 : Nat) "Knitstead$Work" "runCount" "I") ∈ kTbl := kW3 (List.mem_of_getElem? (i := 97) rfl) rfl
theorem kt_3_98 : (Jvm.Cond.fieldLinkNest "Knitstead" (171 : Nat) "Knitstead$Work" "runCount" "I" "Knitstead") ∈ kTbl := kW3 (List.mem_of_getElem? (i := 98) rfl) rfl
theorem kt_3_99 : (Jvm.Cond.fieldLink "Knitstead$Work" (60 : Nat) "Knitstead$Work" "made" "I") ∈ kTbl := kW3 (List.mem_of_getElem? (i := 99) rfl) rfl
theorem kt_3_100 : (Jvm.Cond.fieldLinkNest "Knitstead" (245 : Nat) "Knitstead$Work" "made" "I" "Knitstead") ∈ kTbl := kW3 (List.mem_of_getElem? (i := 100) rfl) rfl
theorem kt_3_101 : (Jvm.Cond.fieldLink "Knitstead$Work" (63 : Nat) "Knitstead$Work" "row" "I") ∈ kTbl := kW3 (List.mem_of_getElem? (i := 101) rfl) rfl
theorem kt_3_102 : (Jvm.Cond.fieldLinkNest "Knitstead" (155 : Nat) "Knitstead$Work" "row" "I" "Knitstead") ∈ kTbl := kW3 (List.mem_of_getElem? (i := 102) rfl) rfl
theorem kt_3_103 : (Jvm.Cond.fieldLink "Knitstead$Work" (66 : Nat) "Knitstead$Work" "holes" "I") ∈ kTbl := kW3 (List.mem_of_getElem? (i := 103) rfl) rfl
theorem kt_3_104 : (Jvm.Cond.fieldLinkNest "Knitstead" (322 : Nat) "Knitstead$Work" "holes" "I" "Knitstead") ∈ kTbl := kW3 (List.mem_of_getElem? (i := 104) rfl) rfl
theorem kt_3_105 : (Jvm.Cond.fieldLink "Knitstead$Work" (69 : Nat) "Knitstead$Work" "cables" "I") ∈ kTbl := kW3 (List.mem_of_getElem? (i := 105) rfl) rfl
theorem kt_3_106 : (Jvm.Cond.fieldLinkNest "Knitstead" (328 : Nat) "Knitstead$Work" "cables" "I" "Knitstead") ∈ kTbl := kW3 (List.mem_of_getElem? (i := 106) rfl) rfl
theorem kt_3_107 : (Jvm.Cond.fieldLink "Knitstead$Work" (72 : Nat) "Knitstead$Work" "gaps" "I") ∈ kTbl := kW3 (List.mem_of_getElem? (i := 107) rfl) rfl
theorem kt_3_108 : (Jvm.Cond.fieldLinkNest "Knitstead" (145 : Nat) "Knitstead$Work" "gaps" "I" "Knitstead") ∈ kTbl := kW3 (List.mem_of_getElem? (i := 108) rfl) rfl
theorem kt_3_109 : (Jvm.Cond.fieldLink "Knitstead$Work" (75 : Nat) "Knitstead$Work" "bound" "I") ∈ kTbl := kW3 (List.mem_of_getElem? (i := 109) rfl) rfl
theorem kt_3_110 : (Jvm.Cond.fieldLinkNest "Knitstead" (334 : Nat) "Knitstead$Work" "bound" "I" "Knitstead") ∈ kTbl := kW3 (List.mem_of_getElem? (i := 110) rfl) rfl
theorem kt_3_111 : (Jvm.Cond.laysFinal "Knitstead$Work" "Knitstead$Work" "leftNeedle" "LKnitstead$Needle;") ∈ kTbl := kW3 (List.mem_of_getElem? (i := 111) rfl) rfl
theorem kt_3_113 : (Jvm.Cond.laysFinal "Knitstead$Work" "Knitstead$Work" "rightNeedle" "LKnitstead$Needle;") ∈ kTbl := kW3 (List.mem_of_getElem? (i := 113) rfl) rfl
theorem kt_3_115 : (Jvm.Cond.laysFinal "Knitstead$Work" "Knitstead$Work" "runs" "LKnitstead$Table;") ∈ kTbl := kW3 (List.mem_of_getElem? (i := 115) rfl) rfl
theorem kt_3_117 : (Jvm.Cond.lays "Knitstead$Work" "Knitstead$Work" "runCount" "I") ∈ kTbl := kW3 (List.mem_of_getElem? (i := 117) rfl) rfl
theorem kt_3_119 : (Jvm.Cond.lays "Knitstead$Work" "Knitstead$Work" "made" "I") ∈ kTbl := kW3 (List.mem_of_getElem? (i := 119) rfl) rfl
theorem kt_3_121 : (Jvm.Cond.lays "Knitstead$Work" "Knitstead$Work" "row" "I") ∈ kTbl := kW3 (List.mem_of_getElem? (i := 121) rfl) rfl
theorem kt_3_123 : (Jvm.Cond.lays "Knitstead$Work" "Knitstead$Work" "holes" "I") ∈ kTbl := kW3 (List.mem_of_getElem? (i := 123) rfl) rfl
theorem kt_3_125 : (Jvm.Cond.lays "Knitstead$Work" "Knitstead$Work" "cables" "I") ∈ kTbl := kW3 (List.mem_of_getElem? (i := 125) rfl) rfl
theorem kt_3_127 : (Jvm.Cond.lays "Knitstead$Work" "Knitstead$Work" "gaps" "I") ∈ kTbl := kW3 (List.mem_of_getElem? (i := 127) rfl) rfl
theorem kt_3_129 : (Jvm.Cond.lays "Knitstead$Work" "Knitstead$Work" "bound" "I") ∈ kTbl := kW3 (List.mem_of_getElem? (i := 129) rfl) rfl
theorem kt_3_132 : (Jvm.Cond.classLink "Knitstead" (23 : Nat) "Knitstead$Table") ∈ kTbl := kW3 (List.mem_of_getElem? (i := 132) rfl) rfl
theorem kt_3_133 : (Jvm.Cond.methodLink "Knitstead" (25 : Nat) ({ cls := "Knitstead$Table", name := "<init>", desc := "(III)V" } : Jvm.MethodName)) ∈ kTbl := kW3 (List.mem_of_getElem? (i := 133) rfl) rfl
theorem kt_3_134 : (Jvm.Cond.classLink "Knitstead" (38 : Nat) "Knitstead$History") ∈ kTbl := kW3 (List.mem_of_getElem? (i := 134) rfl) rfl
theorem kt_3_135 : (Jvm.Cond.methodLink "Knitstead" (40 : Nat) ({ cls := "Knitstead$History", name := "<init>", desc := "()V" } : Jvm.MethodName)) ∈ kTbl := kW3 (List.mem_of_getElem? (i := 135) rfl) rfl
theorem kt_3_136 : (Jvm.Cond.instanceMethod ({ cls := "Knitstead$History", name := "<init>", desc := "()V" } : Jvm.MethodName)) ∈ kTbl := kW3 (List.mem_of_getElem? (i := 136) rfl) rfl
theorem kt_3_137 : (Jvm.Cond.code ({ cls := "Knitstead$History", name := "<init>", desc := "()V" } : Jvm.MethodName) prog_3_method_1_code (2 : Nat) (Option.none : Option Jvm.ClassFile.FieldType)) ∈ kTbl := kW3 (List.mem_of_getElem? (i := 137) rfl) rfl
theorem kt_3_138 : (Jvm.Cond.methodLink "Knitstead$History" (3 : Nat) ({ cls := "java/lang/Object", name := "<init>", desc := "()V" } : Jvm.MethodName)) ∈ kTbl := kW3 (List.mem_of_getElem? (i := 138) rfl) rfl
theorem kt_3_139 : (Jvm.Cond.classLink "Knitstead$History" (9 : Nat) "Knitstead$Work") ∈ kTbl := kW3 (List.mem_of_getElem? (i := 139) rfl) rfl
theorem kt_3_140 : (Jvm.Cond.arrayOver (Jvm.ClassFile.FieldType.object "Knitstead$Work")) ∈ kTbl := kW3 (List.mem_of_getElem? (i := 140) rfl) rfl
theorem kt_3_141 : (Jvm.Cond.methodLinkNest "Knitstead$History" (24 : Nat) ({ cls := "Knitstead$Work", name := "<init>", desc := "()V" } : Jvm.MethodName) "Knitstead") ∈ kTbl := kW3 (List.mem_of_getElem? (i := 141) rfl) rfl
theorem kt_3_142 : (Jvm.Cond.fieldLink "Knitstead$History" (11 : Nat) "Knitstead$History" "works" "[LKnitstead$Work;") ∈ kTbl := kW3 (List.mem_of_getElem? (i := 142) rfl) rfl
theorem kt_3_143 : (Jvm.Cond.fieldLink "Knitstead$History" (17 : Nat) "Knitstead$History" "ball" "[I") ∈ kTbl := kW3 (List.mem_of_getElem? (i := 143) rfl) rfl
theorem kt_3_144 : (Jvm.Cond.fieldLink "Knitstead$History" (21 : Nat) "Knitstead$History" "yarn" "[I") ∈ kTbl := kW3 (List.mem_of_getElem? (i := 144) rfl) rfl
theorem kt_3_145 : (Jvm.Cond.fieldLink "Knitstead$History" (25 : Nat) "Knitstead$History" "next" "I") ∈ kTbl := kW3 (List.mem_of_getElem? (i := 145) rfl) rfl
theorem kt_3_146 : (Jvm.Cond.fieldLink "Knitstead$History" (46 : Nat) "Knitstead$History" "count" "I") ∈ kTbl := kW3 (List.mem_of_getElem? (i := 146) rfl) rfl
theorem kt_3_147 : (Jvm.Cond.fieldLinkNest "Knitstead" (230 : Nat) "Knitstead$History" "count" "I" "Knitstead") ∈ kTbl := kW3 (List.mem_of_getElem? (i := 147) rfl) rfl
theorem kt_3_148 : (Jvm.Cond.laysFinal "Knitstead$History" "Knitstead$History" "works" "[LKnitstead$Work;") ∈ kTbl := kW3 (List.mem_of_getElem? (i := 148) rfl) rfl
theorem kt_3_150 : (Jvm.Cond.laysFinal "Knitstead$History" "Knitstead$History" "ball" "[I") ∈ kTbl := kW3 (List.mem_of_getElem? (i := 150) rfl) rfl
theorem kt_3_152 : (Jvm.Cond.laysFinal "Knitstead$History" "Knitstead$History" "yarn" "[I") ∈ kTbl := kW3 (List.mem_of_getElem? (i := 152) rfl) rfl
theorem kt_3_154 : (Jvm.Cond.lays "Knitstead$History" "Knitstead$History" "next" "I") ∈ kTbl := kW3 (List.mem_of_getElem? (i := 154) rfl) rfl
theorem kt_3_156 : (Jvm.Cond.lays "Knitstead$History" "Knitstead$History" "count" "I") ∈ kTbl := kW3 (List.mem_of_getElem? (i := 156) rfl) rfl
theorem kt_3_159 : (Jvm.Cond.classLink "Knitstead" (45 : Nat) "Knitstead$Trial") ∈ kTbl := kW3 (List.mem_of_getElem? (i := 159) rfl) rfl
theorem kt_3_160 : (Jvm.Cond.instantiable "Knitstead$Trial" (5 : Nat)) ∈ kTbl := kW3 (List.mem_of_getElem? (i := 160) rfl) rfl
theorem kt_3_161 : (Jvm.Cond.methodLinkNest "Knitstead" (47 : Nat) ({ cls := "Knitstead$Trial", name := "<init>", desc := "()V" } : Jvm.MethodName) "Knitstead") ∈ kTbl := kW3 (List.mem_of_getElem? (i := 161) rfl) rfl
theorem kt_3_162 : (Jvm.Cond.instanceMethod ({ cls := "Knitstead$Trial", name := "<init>", desc := "()V" } : Jvm.MethodName)) ∈ kTbl := kW3 (List.mem_of_getElem? (i := 162) rfl) rfl
theorem kt_3_163 : (Jvm.Cond.code ({ cls := "Knitstead$Trial", name := "<init>", desc := "()V" } : Jvm.MethodName) prog_6_method_1_code (1 : Nat) (Option.none : Option Jvm.ClassFile.FieldType)) ∈ kTbl := kW3 (List.mem_of_getElem? (i := 163) rfl) rfl
theorem kt_3_164 : (Jvm.Cond.methodLink "Knitstead$Trial" (1 : Nat) ({ cls := "java/lang/Object", name := "<init>", desc := "()V" } : Jvm.MethodName)) ∈ kTbl := kW3 (List.mem_of_getElem? (i := 164) rfl) rfl
theorem kt_3_165 : (Jvm.Cond.fieldLink "Knitstead$Trial" (7 : Nat) "Knitstead$Trial" "onLeft" "I") ∈ kTbl := kW3 (List.mem_of_getElem? (i := 165) rfl) rfl
theorem kt_3_166 : (Jvm.Cond.fieldLinkNest "Knitstead" (367 : Nat) "Knitstead$Trial" "onLeft" "I" "Knitstead") ∈ kTbl := kW3 (List.mem_of_getElem? (i := 166) rfl) rfl
theorem kt_3_167 : (Jvm.Cond.fieldLink "Knitstead$Trial" (13 : Nat) "Knitstead$Trial" "onBoth" "I") ∈ kTbl := kW3 (List.mem_of_getElem? (i := 167) rfl) rfl
theorem kt_3_168 : (Jvm.Cond.fieldLinkNest "Knitstead" (286 : Nat) "Knitstead$Trial" "onBoth" "I" "Knitstead") ∈ kTbl := kW3 (List.mem_of_getElem? (i := 168) rfl) rfl
theorem kt_3_169 : (Jvm.Cond.fieldLink "Knitstead$Trial" (16 : Nat) "Knitstead$Trial" "yarn" "I") ∈ kTbl := kW3 (List.mem_of_getElem? (i := 169) rfl) rfl
theorem kt_3_170 : (Jvm.Cond.fieldLink "Knitstead$Trial" (19 : Nat) "Knitstead$Trial" "spent" "I") ∈ kTbl := kW3 (List.mem_of_getElem? (i := 170) rfl) rfl
theorem kt_3_171 : (Jvm.Cond.fieldLinkNest "Knitstead" (288 : Nat) "Knitstead$Trial" "spent" "I" "Knitstead") ∈ kTbl := kW3 (List.mem_of_getElem? (i := 171) rfl) rfl
theorem kt_3_172 : (Jvm.Cond.fieldLink "Knitstead$Trial" (22 : Nat) "Knitstead$Trial" "done" "I") ∈ kTbl := kW3 (List.mem_of_getElem? (i := 172) rfl) rfl
theorem kt_3_173 : (Jvm.Cond.fieldLinkNest "Knitstead" (221 : Nat) "Knitstead$Trial" "done" "I" "Knitstead") ∈ kTbl := kW3 (List.mem_of_getElem? (i := 173) rfl) rfl
theorem kt_3_174 : (Jvm.Cond.lays "Knitstead$Trial" "Knitstead$Trial" "onLeft" "I") ∈ kTbl := kW3 (List.mem_of_getElem? (i := 174) rfl) rfl
theorem kt_3_176 : (Jvm.Cond.lays "Knitstead$Trial" "Knitstead$Trial" "onBoth" "I") ∈ kTbl := kW3 (List.mem_of_getElem? (i := 176) rfl) rfl
theorem kt_3_178 : (Jvm.Cond.lays "Knitstead$Trial" "Knitstead$Trial" "yarn" "I") ∈ kTbl := kW3 (List.mem_of_getElem? (i := 178) rfl) rfl
theorem kt_3_180 : (Jvm.Cond.lays "Knitstead$Trial" "Knitstead$Trial" "spent" "I") ∈ kTbl := kW3 (List.mem_of_getElem? (i := 180) rfl) rfl
theorem kt_3_182 : (Jvm.Cond.lays "Knitstead$Trial" "Knitstead$Trial" "done" "I") ∈ kTbl := kW3 (List.mem_of_getElem? (i := 182) rfl) rfl
theorem kt_3_185 : (Jvm.Cond.fieldLink "Knitstead" (12 : Nat) "Knitstead" "balls" "LKnitstead$Balls;") ∈ kTbl := kW3 (List.mem_of_getElem? (i := 185) rfl) rfl
theorem kt_3_186 : (Jvm.Cond.fieldLink "Knitstead" (19 : Nat) "Knitstead" "now" "LKnitstead$Work;") ∈ kTbl := kW3 (List.mem_of_getElem? (i := 186) rfl) rfl
theorem kt_3_187 : (Jvm.Cond.fieldLink "Knitstead" (28 : Nat) "Knitstead" "loops" "LKnitstead$Table;") ∈ kTbl := kW3 (List.mem_of_getElem? (i := 187) rfl) rfl
theorem kt_3_188 : (Jvm.Cond.fieldLink "Knitstead" (32 : Nat) "Knitstead" "patterns" "LKnitstead$Table;") ∈ kTbl := kW3 (List.mem_of_getElem? (i := 188) rfl) rfl
theorem kt_3_189 : (Jvm.Cond.fieldLink "Knitstead" (35 : Nat) "Knitstead" "patternDigits" "LKnitstead$Table;") ∈ kTbl := kW3 (List.mem_of_getElem? (i := 189) rfl) rfl
theorem kt_3_190 : (Jvm.Cond.fieldLink "Knitstead" (41 : Nat) "Knitstead" "history" "LKnitstead$History;") ∈ kTbl := kW3 (List.mem_of_getElem? (i := 190) rfl) rfl
theorem kt_3_191 : (Jvm.Cond.fieldLink "Knitstead" (48 : Nat) "Knitstead" "trial" "LKnitstead$Trial;") ∈ kTbl := kW3 (List.mem_of_getElem? (i := 191) rfl) rfl
theorem kt_3_192 : (Jvm.Cond.fieldLink "Knitstead" (204 : Nat) "Knitstead" "patternCount" "I") ∈ kTbl := kW3 (List.mem_of_getElem? (i := 192) rfl) rfl
theorem kt_3_193 : (Jvm.Cond.laysFinal "Knitstead" "Knitstead" "balls" "LKnitstead$Balls;") ∈ kTbl := kW3 (List.mem_of_getElem? (i := 193) rfl) rfl
theorem kt_3_195 : (Jvm.Cond.laysFinal "Knitstead" "Knitstead" "now" "LKnitstead$Work;") ∈ kTbl := kW3 (List.mem_of_getElem? (i := 195) rfl) rfl
theorem kt_3_197 : (Jvm.Cond.laysFinal "Knitstead" "Knitstead" "loops" "LKnitstead$Table;") ∈ kTbl := kW3 (List.mem_of_getElem? (i := 197) rfl) rfl
theorem kt_3_199 : (Jvm.Cond.laysFinal "Knitstead" "Knitstead" "patterns" "LKnitstead$Table;") ∈ kTbl := kW3 (List.mem_of_getElem? (i := 199) rfl) rfl
theorem kt_3_201 : (Jvm.Cond.laysFinal "Knitstead" "Knitstead" "patternDigits" "LKnitstead$Table;") ∈ kTbl := kW3 (List.mem_of_getElem? (i := 201) rfl) rfl
theorem kt_3_203 : (Jvm.Cond.laysFinal "Knitstead" "Knitstead" "history" "LKnitstead$History;") ∈ kTbl := kW3 (List.mem_of_getElem? (i := 203) rfl) rfl
theorem kt_3_205 : (Jvm.Cond.laysFinal "Knitstead" "Knitstead" "trial" "LKnitstead$Trial;") ∈ kTbl := kW3 (List.mem_of_getElem? (i := 205) rfl) rfl
theorem kt_3_207 : (Jvm.Cond.lays "Knitstead" "Knitstead" "patternCount" "I") ∈ kTbl := kW3 (List.mem_of_getElem? (i := 207) rfl) rfl
theorem kt_3_210 : (Jvm.Cond.methodLink "KnitsteadLaw" (22 : Nat) ({ cls := "Knitstead", name := "buy", desc := "(I)I" } : Jvm.MethodName)) ∈ kTbl := kW3 (List.mem_of_getElem? (i := 210) rfl) rfl
theorem kt_3_211 : (Jvm.Cond.instanceMethod ({ cls := "Knitstead", name := "buy", desc := "(I)I" } : Jvm.MethodName)) ∈ kTbl := kW3 (List.mem_of_getElem? (i := 211) rfl) rfl
theorem kt_3_212 : (Jvm.Cond.selects "Knitstead" ({ cls := "Knitstead", name := "buy", desc := "(I)I" } : Jvm.MethodName) ({ cls := "Knitstead", name := "buy", desc := "(I)I" } : Jvm.MethodName)) ∈ kTbl := kW3 (List.mem_of_getElem? (i := 212) rfl) rfl
theorem kt_3_213 : (Jvm.Cond.code ({ cls := "Knitstead", name := "buy", desc := "(I)I" } : Jvm.MethodName) prog_1_method_2_code (2 : Nat) (Option.some Jvm.ClassFile.FieldType.int)) ∈ kTbl := kW3 (List.mem_of_getElem? (i := 213) rfl) rfl
theorem kt_3_216 : (Jvm.Cond.methodLink "Knitstead" (68 : Nat) ({ cls := "Knitstead$Balls", name := "add", desc := "(I)I" } : Jvm.MethodName)) ∈ kTbl := kW3 (List.mem_of_getElem? (i := 216) rfl) rfl
theorem kt_3_217 : (Jvm.Cond.instanceMethod ({ cls := "Knitstead$Balls", name := "add", desc := "(I)I" } : Jvm.MethodName)) ∈ kTbl := kW3 (List.mem_of_getElem? (i := 217) rfl) rfl
theorem kt_3_218 : (Jvm.Cond.selects "Knitstead$Balls" ({ cls := "Knitstead$Balls", name := "add", desc := "(I)I" } : Jvm.MethodName) ({ cls := "Knitstead$Balls", name := "add", desc := "(I)I" } : Jvm.MethodName)) ∈ kTbl := kW3 (List.mem_of_getElem? (i := 218) rfl) rfl
theorem kt_3_219 : (Jvm.Cond.code ({ cls := "Knitstead$Balls", name := "add", desc := "(I)I" } : Jvm.MethodName) prog_2_method_3_code (3 : Nat) (Option.some Jvm.ClassFile.FieldType.int)) ∈ kTbl := kW3 (List.mem_of_getElem? (i := 219) rfl) rfl
theorem kt_3_220 : (Jvm.Cond.methodLink "KnitsteadLaw" (26 : Nat) ({ cls := "Knitstead", name := "join", desc := "(I)I" } : Jvm.MethodName)) ∈ kTbl := kW3 (List.mem_of_getElem? (i := 220) rfl) rfl
theorem kt_3_221 : (Jvm.Cond.instanceMethod ({ cls := "Knitstead", name := "join", desc := "(I)I" } : Jvm.MethodName)) ∈ kTbl := kW3 (List.mem_of_getElem? (i := 221) rfl) rfl
theorem kt_3_222 : (Jvm.Cond.selects "Knitstead" ({ cls := "Knitstead", name := "join", desc := "(I)I" } : Jvm.MethodName) ({ cls := "Knitstead", name := "join", desc := "(I)I" } : Jvm.MethodName)) ∈ kTbl := kW3 (List.mem_of_getElem? (i := 222) rfl) rfl
theorem kt_3_223 : (Jvm.Cond.code ({ cls := "Knitstead", name := "join", desc := "(I)I" } : Jvm.MethodName) prog_1_method_3_code (3 : Nat) (Option.some Jvm.ClassFile.FieldType.int)) ∈ kTbl := kW3 (List.mem_of_getElem? (i := 223) rfl) rfl
theorem kt_3_224 : (Jvm.Cond.methodLink "KnitsteadLaw" (36 : Nat) ({ cls := "Knitstead", name := "pattern", desc := "(I)I" } : Jvm.MethodName)) ∈ kTbl := kW3 (List.mem_of_getElem? (i := 224) rfl) rfl
theorem kt_3_225 : (Jvm.Cond.instanceMethod ({ cls := "Knitstead", name := "pattern", desc := "(I)I" } : Jvm.MethodName)) ∈ kTbl := kW3 (List.mem_of_getElem? (i := 225) rfl) rfl
theorem kt_3_226 : (Jvm.Cond.selects "Knitstead" ({ cls := "Knitstead", name := "pattern", desc := "(I)I" } : Jvm.MethodName) ({ cls := "Knitstead", name := "pattern", desc := "(I)I" } : Jvm.MethodName)) ∈ kTbl := kW3 (List.mem_of_getElem? (i := 226) rfl) rfl
theorem kt_3_227 : (Jvm.Cond.code ({ cls := "Knitstead", name := "pattern", desc := "(I)I" } : Jvm.MethodName) prog_1_method_14_code (3 : Nat) (Option.some Jvm.ClassFile.FieldType.int)) ∈ kTbl := kW3 (List.mem_of_getElem? (i := 227) rfl) rfl
theorem kt_3_228 : (Jvm.Cond.constant "Knitstead" (198 : Nat) (999999999 : Int32)) ∈ kTbl := kW3 (List.mem_of_getElem? (i := 228) rfl) rfl
theorem kt_3_229 : (Jvm.Cond.methodLink "Knitstead" (199 : Nat) ({ cls := "Knitstead", name := "hasZero", desc := "(I)Z" } : Jvm.MethodName)) ∈ kTbl := kW3 (List.mem_of_getElem? (i := 229) rfl) rfl
theorem kt_3_230 : (Jvm.Cond.static ({ cls := "Knitstead", name := "hasZero", desc := "(I)Z" } : Jvm.MethodName)) ∈ kTbl := kW3 (List.mem_of_getElem? (i := 230) rfl) rfl
theorem kt_3_231 : (Jvm.Cond.code ({ cls := "Knitstead", name := "hasZero", desc := "(I)Z" } : Jvm.MethodName) prog_1_method_44_code (3 : Nat) (Option.some Jvm.ClassFile.FieldType.boolean)) ∈ kTbl := kW3 (List.mem_of_getElem? (i := 231) rfl) rfl
theorem kt_3_234 : (Jvm.Cond.methodLink "Knitstead" (209 : Nat) ({ cls := "Knitstead", name := "tellPattern", desc := "(II)V" } : Jvm.MethodName)) ∈ kTbl := kW3 (List.mem_of_getElem? (i := 234) rfl) rfl
theorem kt_3_236 : (Jvm.Cond.instanceMethod ({ cls := "Knitstead", name := "tellPattern", desc := "(II)V" } : Jvm.MethodName)) ∈ kTbl := kW3 (List.mem_of_getElem? (i := 236) rfl) rfl
theorem kt_3_237 : (Jvm.Cond.code ({ cls := "Knitstead", name := "tellPattern", desc := "(II)V" } : Jvm.MethodName) prog_1_method_46_code (10 : Nat) (Option.none : Option Jvm.ClassFile.FieldType)) ∈ kTbl := kW3 (List.mem_of_getElem? (i := 237) rfl) rfl
theorem kt_3_238 : (Jvm.Cond.methodLink "Knitstead" (358 : Nat) ({ cls := "Knitstead", name := "digitsIn", desc := "(I)I" } : Jvm.MethodName)) ∈ kTbl := kW3 (List.mem_of_getElem? (i := 238) rfl) rfl
theorem kt_3_239 : (Jvm.Cond.static ({ cls := "Knitstead", name := "digitsIn", desc := "(I)I" } : Jvm.MethodName)) ∈ kTbl := kW3 (List.mem_of_getElem? (i := 239) rfl) rfl
theorem kt_4_0 : (Jvm.Cond.code ({ cls := "Knitstead", name := "digitsIn", desc := "(I)I" } : Jvm.MethodName) prog_1_method_45_code (4 : Nat) (Option.some Jvm.ClassFile.FieldType.int)) ∈ kTbl := kW4 (List.mem_of_getElem? (i := 0) rfl) rfl
theorem kt_4_1 : (Jvm.Cond.methodLink "KnitsteadLaw" (75 : Nat) ({ cls := "KnitsteadLaw", name := "step", desc := "(LKnitstead;I)Z" } : Jvm.MethodName)) ∈ kTbl := kW4 (List.mem_of_getElem? (i := 1) rfl) rfl
theorem kt_4_2 : (Jvm.Cond.static ({ cls := "KnitsteadLaw", name := "step", desc := "(LKnitstead;I)Z" } : Jvm.MethodName)) ∈ kTbl := kW4 (List.mem_of_getElem? (i := 2) rfl) rfl
theorem kt_4_3 : (Jvm.Cond.codeWith ({ cls := "KnitsteadLaw", name := "step", desc := "(LKnitstead;I)Z" } : Jvm.MethodName) method_5_code (3 : Nat) (Option.some Jvm.ClassFile.FieldType.boolean) [((0 : Nat), (125 : Nat), (128 : Nat), (60 : Nat)), ((126 : Nat), (127 : Nat), (128 : Nat), (60 : Nat))]) ∈ kTbl := kW4 (List.mem_of_getElem? (i := 3) rfl) rfl
theorem kt_4_4 : (Jvm.Cond.classLink "KnitsteadLaw" (60 : Nat) "java/lang/IllegalStateException") ∈ kTbl := kW4 (List.mem_of_getElem? (i := 4) rfl) rfl
theorem kt_4_5 : (Jvm.Cond.methodLink "KnitsteadLaw" (39 : Nat) ({ cls := "Knitstead", name := "work", desc := "(Z)I" } : Jvm.MethodName)) ∈ kTbl := kW4 (List.mem_of_getElem? (i := 5) rfl) rfl
theorem kt_4_6 : (Jvm.Cond.instanceMethod ({ cls := "Knitstead", name := "work", desc := "(Z)I" } : Jvm.MethodName)) ∈ kTbl := kW4 (List.mem_of_getElem? (i := 6) rfl) rfl
theorem kt_4_7 : (Jvm.Cond.selects "Knitstead" ({ cls := "Knitstead", name := "work", desc := "(Z)I" } : Jvm.MethodName) ({ cls := "Knitstead", name := "work", desc := "(Z)I" } : Jvm.MethodName)) ∈ kTbl := kW4 (List.mem_of_getElem? (i := 7) rfl) rfl
theorem kt_4_8 : (Jvm.Cond.code ({ cls := "Knitstead", name := "work", desc := "(Z)I" } : Jvm.MethodName) prog_1_method_5_code (2 : Nat) (Option.some Jvm.ClassFile.FieldType.int)) ∈ kTbl := kW4 (List.mem_of_getElem? (i := 8) rfl) rfl
theorem kt_4_9 : (Jvm.Cond.methodLink "Knitstead" (103 : Nat) ({ cls := "Knitstead", name := "canDo", desc := "(I)Z" } : Jvm.MethodName)) ∈ kTbl := kW4 (List.mem_of_getElem? (i := 9) rfl) rfl
theorem kt_4_11 : (Jvm.Cond.instanceMethod ({ cls := "Knitstead", name := "canDo", desc := "(I)Z" } : Jvm.MethodName)) ∈ kTbl := kW4 (List.mem_of_getElem? (i := 11) rfl) rfl
theorem kt_4_12 : (Jvm.Cond.code ({ cls := "Knitstead", name := "canDo", desc := "(I)Z" } : Jvm.MethodName) prog_1_method_40_code (2 : Nat) (Option.some Jvm.ClassFile.FieldType.boolean)) ∈ kTbl := kW4 (List.mem_of_getElem? (i := 12) rfl) rfl
theorem kt_4_13 : (Jvm.Cond.methodLink "Knitstead" (337 : Nat) ({ cls := "Knitstead", name := "fits", desc := "(IIII)Z" } : Jvm.MethodName)) ∈ kTbl := kW4 (List.mem_of_getElem? (i := 13) rfl) rfl
theorem kt_4_15 : (Jvm.Cond.methodLink "KnitsteadLaw" (43 : Nat) ({ cls := "Knitstead", name := "over", desc := "()I" } : Jvm.MethodName)) ∈ kTbl := kW4 (List.mem_of_getElem? (i := 15) rfl) rfl
theorem kt_4_16 : (Jvm.Cond.instanceMethod ({ cls := "Knitstead", name := "over", desc := "()I" } : Jvm.MethodName)) ∈ kTbl := kW4 (List.mem_of_getElem? (i := 16) rfl) rfl
theorem kt_4_17 : (Jvm.Cond.selects "Knitstead" ({ cls := "Knitstead", name := "over", desc := "()I" } : Jvm.MethodName) ({ cls := "Knitstead", name := "over", desc := "()I" } : Jvm.MethodName)) ∈ kTbl := kW4 (List.mem_of_getElem? (i := 17) rfl) rfl
theorem kt_4_18 : (Jvm.Cond.code ({ cls := "Knitstead", name := "over", desc := "()I" } : Jvm.MethodName) prog_1_method_6_code (1 : Nat) (Option.some Jvm.ClassFile.FieldType.int)) ∈ kTbl := kW4 (List.mem_of_getElem? (i := 18) rfl) rfl
theorem kt_4_20 : (Jvm.Cond.methodLink "KnitsteadLaw" (46 : Nat) ({ cls := "Knitstead", name := "together", desc := "(IZ)I" } : Jvm.MethodName)) ∈ kTbl := kW4 (List.mem_of_getElem? (i := 20) rfl) rfl
theorem kt_4_21 : (Jvm.Cond.instanceMethod ({ cls := "Knitstead", name := "together", desc := "(IZ)I" } : Jvm.MethodName)) ∈ kTbl := kW4 (List.mem_of_getElem? (i := 21) rfl) rfl
theorem kt_4_22 : (Jvm.Cond.selects "Knitstead" ({ cls := "Knitstead", name := "together", desc := "(IZ)I" } : Jvm.MethodName) ({ cls := "Knitstead", name := "together", desc := "(IZ)I" } : Jvm.MethodName)) ∈ kTbl := kW4 (List.mem_of_getElem? (i := 22) rfl) rfl
theorem kt_4_23 : (Jvm.Cond.code ({ cls := "Knitstead", name := "together", desc := "(IZ)I" } : Jvm.MethodName) prog_1_method_7_code (3 : Nat) (Option.some Jvm.ClassFile.FieldType.int)) ∈ kTbl := kW4 (List.mem_of_getElem? (i := 23) rfl) rfl
theorem kt_4_26 : (Jvm.Cond.methodLink "KnitsteadLaw" (50 : Nat) ({ cls := "Knitstead", name := "slip", desc := "()I" } : Jvm.MethodName)) ∈ kTbl := kW4 (List.mem_of_getElem? (i := 26) rfl) rfl
theorem kt_4_27 : (Jvm.Cond.instanceMethod ({ cls := "Knitstead", name := "slip", desc := "()I" } : Jvm.MethodName)) ∈ kTbl := kW4 (List.mem_of_getElem? (i := 27) rfl) rfl
theorem kt_4_28 : (Jvm.Cond.selects "Knitstead" ({ cls := "Knitstead", name := "slip", desc := "()I" } : Jvm.MethodName) ({ cls := "Knitstead", name := "slip", desc := "()I" } : Jvm.MethodName)) ∈ kTbl := kW4 (List.mem_of_getElem? (i := 28) rfl) rfl
theorem kt_4_29 : (Jvm.Cond.code ({ cls := "Knitstead", name := "slip", desc := "()I" } : Jvm.MethodName) prog_1_method_8_code (1 : Nat) (Option.some Jvm.ClassFile.FieldType.int)) ∈ kTbl := kW4 (List.mem_of_getElem? (i := 29) rfl) rfl
theorem kt_4_30 : (Jvm.Cond.methodLink "KnitsteadLaw" (56 : Nat) ({ cls := "KnitsteadLaw", name := "nine", desc := "(LKnitstead;)Z" } : Jvm.MethodName)) ∈ kTbl := kW4 (List.mem_of_getElem? (i := 30) rfl) rfl
theorem kt_4_31 : (Jvm.Cond.static ({ cls := "KnitsteadLaw", name := "nine", desc := "(LKnitstead;)Z" } : Jvm.MethodName)) ∈ kTbl := kW4 (List.mem_of_getElem? (i := 31) rfl) rfl
theorem kt_4_32 : (Jvm.Cond.code ({ cls := "KnitsteadLaw", name := "nine", desc := "(LKnitstead;)Z" } : Jvm.MethodName) method_6_code (2 : Nat) (Option.some Jvm.ClassFile.FieldType.boolean)) ∈ kTbl := kW4 (List.mem_of_getElem? (i := 32) rfl) rfl
theorem kt_4_33 : (Jvm.Cond.methodLink "KnitsteadLaw" (110 : Nat) ({ cls := "KnitsteadLaw", name := "isSo", desc := "(LKnitstead;)Z" } : Jvm.MethodName)) ∈ kTbl := kW4 (List.mem_of_getElem? (i := 33) rfl) rfl
theorem kt_4_34 : (Jvm.Cond.static ({ cls := "KnitsteadLaw", name := "isSo", desc := "(LKnitstead;)Z" } : Jvm.MethodName)) ∈ kTbl := kW4 (List.mem_of_getElem? (i := 34) rfl) rfl
theorem kt_4_35 : (Jvm.Cond.code ({ cls := "KnitsteadLaw", name := "isSo", desc := "(LKnitstead;)Z" } : Jvm.MethodName) method_8_code (13 : Nat) (Option.some Jvm.ClassFile.FieldType.boolean)) ∈ kTbl := kW4 (List.mem_of_getElem? (i := 35) rfl) rfl
theorem kt_4_36 : (Jvm.Cond.methodLink "KnitsteadLaw" (117 : Nat) ({ cls := "Knitstead", name := "seen", desc := "(Z)Ljava/lang/String;" } : Jvm.MethodName)) ∈ kTbl := kW4 (List.mem_of_getElem? (i := 36) rfl) rfl
theorem kt_4_37 : (Jvm.Cond.instanceMethod ({ cls := "Knitstead", name := "seen", desc := "(Z)Ljava/lang/String;" } : Jvm.MethodName)) ∈ kTbl := kW4 (List.mem_of_getElem? (i := 37) rfl) rfl
theorem kt_4_38 : (Jvm.Cond.selects "Knitstead" ({ cls := "Knitstead", name := "seen", desc := "(Z)Ljava/lang/String;" } : Jvm.MethodName) ({ cls := "Knitstead", name := "seen", desc := "(Z)Ljava/lang/String;" } : Jvm.MethodName)) ∈ kTbl := kW4 (List.mem_of_getElem? (i := 38) rfl) rfl
theorem kt_4_39 : (Jvm.Cond.code ({ cls := "Knitstead", name := "seen", desc := "(Z)Ljava/lang/String;" } : Jvm.MethodName) prog_1_method_20_code (5 : Nat) (Option.some (Jvm.ClassFile.FieldType.object "java/lang/String"))) ∈ kTbl := kW4 (List.mem_of_getElem? (i := 39) rfl) rfl
theorem kt_4_40 : (Jvm.Cond.classLink "Knitstead" (257 : Nat) "java/lang/StringBuilder") ∈ kTbl := kW4 (List.mem_of_getElem? (i := 40) rfl) rfl
theorem kt_4_41 : (Jvm.Cond.instantiable "java/lang/StringBuilder" (4 : Nat)) ∈ kTbl := kW4 (List.mem_of_getElem? (i := 41) rfl) rfl
theorem kt_4_42 : (Jvm.Cond.methodLink "Knitstead" (259 : Nat) ({ cls := "java/lang/StringBuilder", name := "<init>", desc := "()V" } : Jvm.MethodName)) ∈ kTbl := kW4 (List.mem_of_getElem? (i := 42) rfl) rfl
theorem kt_4_43 : (Jvm.Cond.instanceMethod ({ cls := "java/lang/StringBuilder", name := "<init>", desc := "()V" } : Jvm.MethodName)) ∈ kTbl := kW4 (List.mem_of_getElem? (i := 43) rfl) rfl
theorem kt_4_44 : (Jvm.Cond.code ({ cls := "java/lang/StringBuilder", name := "<init>", desc := "()V" } : Jvm.MethodName) prog_21_method_1_code (1 : Nat) (Option.none : Option Jvm.ClassFile.FieldType)) ∈ kTbl := kW4 (List.mem_of_getElem? (i := 44) rfl) rfl
theorem kt_4_45 : (Jvm.Cond.methodLink "java/lang/StringBuilder" (1 : Nat) ({ cls := "java/lang/AbstractStringBuilder", name := "<init>", desc := "(I)V" } : Jvm.MethodName)) ∈ kTbl := kW4 (List.mem_of_getElem? (i := 45) rfl) rfl
theorem kt_4_46 : (Jvm.Cond.instanceMethod ({ cls := "java/lang/AbstractStringBuilder", name := "<init>", desc := "(I)V" } : Jvm.MethodName)) ∈ kTbl := kW4 (List.mem_of_getElem? (i := 46) rfl) rfl
theorem kt_4_47 : (Jvm.Cond.code ({ cls := "java/lang/AbstractStringBuilder", name := "<init>", desc := "(I)V" } : Jvm.MethodName) prog_12_method_2_code (2 : Nat) (Option.none : Option Jvm.ClassFile.FieldType)) ∈ kTbl := kW4 (List.mem_of_getElem? (i := 47) rfl) rfl
theorem kt_4_48 : (Jvm.Cond.methodLink "java/lang/AbstractStringBuilder" (3 : Nat) ({ cls := "java/lang/Object", name := "<init>", desc := "()V" } : Jvm.MethodName)) ∈ kTbl := kW4 (List.mem_of_getElem? (i := 48) rfl) rfl
theorem kt_4_49 : (Jvm.Cond.fieldLink "java/lang/AbstractStringBuilder" (18 : Nat) "java/lang/String" "COMPACT_STRINGS" "Z") ∈ kTbl := kW4 (List.mem_of_getElem? (i := 49) rfl) rfl
theorem kt_4_51 : (Jvm.Cond.methodLink "java/lang/AbstractStringBuilder" (26 : Nat) ({ cls := "java/lang/StringUTF16", name := "newBytesFor", desc := "(I)[B" } : Jvm.MethodName)) ∈ kTbl := kW4 (List.mem_of_getElem? (i := 51) rfl) rfl
theorem kt_4_58 : (Jvm.Cond.fieldLink "java/lang/AbstractStringBuilder" (15 : Nat) "java/lang/AbstractStringBuilder" "value" "[B") ∈ kTbl := kW4 (List.mem_of_getElem? (i := 58) rfl) rfl
theorem kt_4_59 : (Jvm.Cond.fieldLink "java/lang/AbstractStringBuilder" (22 : Nat) "java/lang/AbstractStringBuilder" "coder" "B") ∈ kTbl := kW4 (List.mem_of_getElem? (i := 59) rfl) rfl
theorem kt_4_60 : (Jvm.Cond.fieldLink "java/lang/String" (1048 : Nat) "java/lang/AbstractStringBuilder" "maybeLatin1" "Z") ∈ kTbl := kW4 (List.mem_of_getElem? (i := 60) rfl) rfl
theorem kt_4_61 : (Jvm.Cond.fieldLink "java/lang/AbstractStringBuilder" (79 : Nat) "java/lang/AbstractStringBuilder" "count" "I") ∈ kTbl := kW4 (List.mem_of_getElem? (i := 61) rfl) rfl
theorem kt_4_62 : (Jvm.Cond.lays "java/lang/StringBuilder" "java/lang/AbstractStringBuilder" "value" "[B") ∈ kTbl := kW4 (List.mem_of_getElem? (i := 62) rfl) rfl
theorem kt_4_64 : (Jvm.Cond.lays "java/lang/StringBuilder" "java/lang/AbstractStringBuilder" "coder" "B") ∈ kTbl := kW4 (List.mem_of_getElem? (i := 64) rfl) rfl
theorem kt_4_66 : (Jvm.Cond.lays "java/lang/StringBuilder" "java/lang/AbstractStringBuilder" "maybeLatin1" "Z") ∈ kTbl := kW4 (List.mem_of_getElem? (i := 66) rfl) rfl
theorem kt_4_68 : (Jvm.Cond.lays "java/lang/StringBuilder" "java/lang/AbstractStringBuilder" "count" "I") ∈ kTbl := kW4 (List.mem_of_getElem? (i := 68) rfl) rfl
theorem kt_4_70 : (Jvm.Cond.superclass "java/lang/StringBuilder" "java/lang/AbstractStringBuilder") ∈ kTbl := kW4 (List.mem_of_getElem? (i := 70) rfl) rfl
theorem kt_4_71 : (Jvm.Cond.methodLink "Knitstead" (260 : Nat) ({ cls := "Knitstead", name := "signOf", desc := "(I)C" } : Jvm.MethodName)) ∈ kTbl := kW4 (List.mem_of_getElem? (i := 71) rfl) rfl
theorem kt_4_73 : (Jvm.Cond.instanceMethod ({ cls := "Knitstead", name := "signOf", desc := "(I)C" } : Jvm.MethodName)) ∈ kTbl := kW4 (List.mem_of_getElem? (i := 73) rfl) rfl
theorem kt_4_74 : (Jvm.Cond.code ({ cls := "Knitstead", name := "signOf", desc := "(I)C" } : Jvm.MethodName) prog_1_method_56_code (3 : Nat) (Option.some Jvm.ClassFile.FieldType.char)) ∈ kTbl := kW4 (List.mem_of_getElem? (i := 74) rfl) rfl
theorem kt_4_75 : (Jvm.Cond.methodLink "Knitstead" (264 : Nat) ({ cls := "java/lang/StringBuilder", name := "append", desc := "(C)Ljava/lang/StringBuilder;" } : Jvm.MethodName)) ∈ kTbl := kW4 (List.mem_of_getElem? (i := 75) rfl) rfl
theorem kt_4_76 : (Jvm.Cond.instanceMethod ({ cls := "java/lang/StringBuilder", name := "append", desc := "(C)Ljava/lang/StringBuilder;" } : Jvm.MethodName)) ∈ kTbl := kW4 (List.mem_of_getElem? (i := 76) rfl) rfl
theorem kt_4_77 : (Jvm.Cond.selects "java/lang/StringBuilder" ({ cls := "java/lang/StringBuilder", name := "append", desc := "(C)Ljava/lang/StringBuilder;" } : Jvm.MethodName) ({ cls := "java/lang/StringBuilder", name := "append", desc := "(C)Ljava/lang/StringBuilder;" } : Jvm.MethodName)) ∈ kTbl := kW4 (List.mem_of_getElem? (i := 77) rfl) rfl
theorem kt_4_78 : (Jvm.Cond.code ({ cls := "java/lang/StringBuilder", name := "append", desc := "(C)Ljava/lang/StringBuilder;" } : Jvm.MethodName) prog_21_method_14_code (2 : Nat) (Option.some (Jvm.ClassFile.FieldType.object "java/lang/StringBuilder"))) ∈ kTbl := kW4 (List.mem_of_getElem? (i := 78) rfl) rfl
theorem kt_4_79 : (Jvm.Cond.methodLink "java/lang/StringBuilder" (50 : Nat) ({ cls := "java/lang/AbstractStringBuilder", name := "append", desc := "(C)Ljava/lang/AbstractStringBuilder;" } : Jvm.MethodName)) ∈ kTbl := kW4 (List.mem_of_getElem? (i := 79) rfl) rfl
theorem kt_4_80 : (Jvm.Cond.instanceMethod ({ cls := "java/lang/AbstractStringBuilder", name := "append", desc := "(C)Ljava/lang/AbstractStringBuilder;" } : Jvm.MethodName)) ∈ kTbl := kW4 (List.mem_of_getElem? (i := 80) rfl) rfl
theorem kt_4_81 : (Jvm.Cond.code ({ cls := "java/lang/AbstractStringBuilder", name := "append", desc := "(C)Ljava/lang/AbstractStringBuilder;" } : Jvm.MethodName) prog_12_method_31_code (2 : Nat) (Option.some (Jvm.ClassFile.FieldType.object "java/lang/AbstractStringBuilder"))) ∈ kTbl := kW4 (List.mem_of_getElem? (i := 81) rfl) rfl
theorem kt_4_82 : (Jvm.Cond.methodLink "java/lang/AbstractStringBuilder" (100 : Nat) ({ cls := "java/lang/AbstractStringBuilder", name := "ensureCapacityInternal", desc := "(I)V" } : Jvm.MethodName)) ∈ kTbl := kW4 (List.mem_of_getElem? (i := 82) rfl) rfl
theorem kt_4_84 : (Jvm.Cond.instanceMethod ({ cls := "java/lang/AbstractStringBuilder", name := "ensureCapacityInternal", desc := "(I)V" } : Jvm.MethodName)) ∈ kTbl := kW4 (List.mem_of_getElem? (i := 84) rfl) rfl
theorem kt_4_85 : (Jvm.Cond.code ({ cls := "java/lang/AbstractStringBuilder", name := "ensureCapacityInternal", desc := "(I)V" } : Jvm.MethodName) prog_12_method_9_code (3 : Nat) (Option.none : Option Jvm.ClassFile.FieldType)) ∈ kTbl := kW4 (List.mem_of_getElem? (i := 85) rfl) rfl
theorem kt_4_86 : (Jvm.Cond.methodLink "java/lang/AbstractStringBuilder" (104 : Nat) ({ cls := "java/lang/AbstractStringBuilder", name := "newCapacity", desc := "(I)I" } : Jvm.MethodName)) ∈ kTbl := kW4 (List.mem_of_getElem? (i := 86) rfl) rfl
theorem kt_4_88 : (Jvm.Cond.instanceMethod ({ cls := "java/lang/AbstractStringBuilder", name := "newCapacity", desc := "(I)I" } : Jvm.MethodName)) ∈ kTbl := kW4 (List.mem_of_getElem? (i := 88) rfl) rfl
theorem kt_4_89 : (Jvm.Cond.code ({ cls := "java/lang/AbstractStringBuilder", name := "newCapacity", desc := "(I)I" } : Jvm.MethodName) prog_12_method_10_code (6 : Nat) (Option.some Jvm.ClassFile.FieldType.int)) ∈ kTbl := kW4 (List.mem_of_getElem? (i := 89) rfl) rfl
theorem kt_4_90 : (Jvm.Cond.methodLink "java/lang/AbstractStringBuilder" (114 : Nat) ({ cls := "jdk/internal/util/ArraysSupport", name := "newLength", desc := "(III)I" } : Jvm.MethodName)) ∈ kTbl := kW4 (List.mem_of_getElem? (i := 90) rfl) rfl
theorem kt_4_91 : (Jvm.Cond.static ({ cls := "jdk/internal/util/ArraysSupport", name := "newLength", desc := "(III)I" } : Jvm.MethodName)) ∈ kTbl := kW4 (List.mem_of_getElem? (i := 91) rfl) rfl
theorem kt_4_92 : (Jvm.Cond.code ({ cls := "jdk/internal/util/ArraysSupport", name := "newLength", desc := "(III)I" } : Jvm.MethodName) prog_27_method_27_code (4 : Nat) (Option.some Jvm.ClassFile.FieldType.int)) ∈ kTbl := kW4 (List.mem_of_getElem? (i := 92) rfl) rfl
theorem kt_4_93 : (Jvm.Cond.methodLink "jdk/internal/util/ArraysSupport" (194 : Nat) ({ cls := "java/lang/Math", name := "max", desc := "(II)I" } : Jvm.MethodName)) ∈ kTbl := kW4 (List.mem_of_getElem? (i := 93) rfl) rfl
theorem kt_4_94 : (Jvm.Cond.constant "jdk/internal/util/ArraysSupport" (200 : Nat) (2147483639 : Int32)) ∈ kTbl := kW4 (List.mem_of_getElem? (i := 94) rfl) rfl
theorem kt_4_95 : (Jvm.Cond.methodLink "jdk/internal/util/ArraysSupport" (201 : Nat) ({ cls := "jdk/internal/util/ArraysSupport", name := "hugeLength", desc := "(II)I" } : Jvm.MethodName)) ∈ kTbl := kW4 (List.mem_of_getElem? (i := 95) rfl) rfl
theorem kt_4_96 : (Jvm.Cond.static ({ cls := "jdk/internal/util/ArraysSupport", name := "hugeLength", desc := "(II)I" } : Jvm.MethodName)) ∈ kTbl := kW4 (List.mem_of_getElem? (i := 96) rfl) rfl
theorem kt_4_97 : (Jvm.Cond.code ({ cls := "jdk/internal/util/ArraysSupport", name := "hugeLength", desc := "(II)I" } : Jvm.MethodName) prog_27_method_28_code (3 : Nat) (Option.some Jvm.ClassFile.FieldType.int)) ∈ kTbl := kW4 (List.mem_of_getElem? (i := 97) rfl) rfl
theorem kt_4_98 : (Jvm.Cond.constant "java/lang/AbstractStringBuilder" (39 : Nat) (2147483647 : Int32)) ∈ kTbl := kW4 (List.mem_of_getElem? (i := 98) rfl) rfl
theorem kt_4_99 : (Jvm.Cond.methodLink "java/lang/AbstractStringBuilder" (108 : Nat) ({ cls := "java/util/Arrays", name := "copyOf", desc := "([BI)[B" } : Jvm.MethodName)) ∈ kTbl := kW4 (List.mem_of_getElem? (i := 99) rfl) rfl
theorem kt_4_100 : (Jvm.Cond.static ({ cls := "java/util/Arrays", name := "copyOf", desc := "([BI)[B" } : Jvm.MethodName)) ∈ kTbl := kW4 (List.mem_of_getElem? (i := 100) rfl) rfl
theorem kt_4_101 : (Jvm.Cond.code ({ cls := "java/util/Arrays", name := "copyOf", desc := "([BI)[B" } : Jvm.MethodName) prog_26_method_121_code (3 : Nat) (Option.some (Jvm.ClassFile.FieldType.array Jvm.ClassFile.FieldType.byte))) ∈ kTbl := kW4 (List.mem_of_getElem? (i := 101) rfl) rfl
theorem kt_4_102 : (Jvm.Cond.methodLink "java/util/Arrays" (310 : Nat) ({ cls := "[B", name := "clone", desc := "()Ljava/lang/Object;" } : Jvm.MethodName)) ∈ kTbl := kW4 (List.mem_of_getElem? (i := 102) rfl) rfl
theorem kt_4_103 : (Jvm.Cond.sameMethod "[B" "java/lang/Object" "clone" "()Ljava/lang/Object;") ∈ kTbl := kW4 (List.mem_of_getElem? (i := 103) rfl) rfl
theorem kt_4_104 : (Jvm.Cond.selects "[B" ({ cls := "[B", name := "clone", desc := "()Ljava/lang/Object;" } : Jvm.MethodName) ({ cls := "java/lang/Object", name := "clone", desc := "()Ljava/lang/Object;" } : Jvm.MethodName)) ∈ kTbl := kW4 (List.mem_of_getElem? (i := 104) rfl) rfl
theorem kt_4_105 : (Jvm.Cond.castable "[B" "java/lang/Cloneable") ∈ kTbl := kW4 (List.mem_of_getElem? (i := 105) rfl) rfl
theorem kt_4_106 : (Jvm.Cond.classLink "java/util/Arrays" (311 : Nat) "[B") ∈ kTbl := kW4 (List.mem_of_getElem? (i := 106) rfl) rfl
theorem kt_4_107 : (Jvm.Cond.methodLink "java/lang/AbstractStringBuilder" (83 : Nat) ({ cls := "java/lang/AbstractStringBuilder", name := "isLatin1", desc := "()Z" } : Jvm.MethodName)) ∈ kTbl := kW4 (List.mem_of_getElem? (i := 107) rfl) rfl
theorem kt_4_108 : (Jvm.Cond.instanceMethod ({ cls := "java/lang/AbstractStringBuilder", name := "isLatin1", desc := "()Z" } : Jvm.MethodName)) ∈ kTbl := kW4 (List.mem_of_getElem? (i := 108) rfl) rfl
theorem kt_4_109 : (Jvm.Cond.sameMethod "java/lang/AbstractStringBuilder" "java/lang/AbstractStringBuilder" "isLatin1" "()Z") ∈ kTbl := kW4 (List.mem_of_getElem? (i := 109) rfl) rfl
theorem kt_4_110 : (Jvm.Cond.selects "java/lang/StringBuilder" ({ cls := "java/lang/AbstractStringBuilder", name := "isLatin1", desc := "()Z" } : Jvm.MethodName) ({ cls := "java/lang/AbstractStringBuilder", name := "isLatin1", desc := "()Z" } : Jvm.MethodName)) ∈ kTbl := kW4 (List.mem_of_getElem? (i := 110) rfl) rfl
theorem kt_4_111 : (Jvm.Cond.code ({ cls := "java/lang/AbstractStringBuilder", name := "isLatin1", desc := "()Z" } : Jvm.MethodName) prog_12_method_68_code (1 : Nat) (Option.some Jvm.ClassFile.FieldType.boolean)) ∈ kTbl := kW4 (List.mem_of_getElem? (i := 111) rfl) rfl
theorem kt_4_112 : (Jvm.Cond.methodLink "java/lang/AbstractStringBuilder" (191 : Nat) ({ cls := "java/lang/StringLatin1", name := "canEncode", desc := "(C)Z" } : Jvm.MethodName)) ∈ kTbl := kW4 (List.mem_of_getElem? (i := 112) rfl) rfl
theorem kt_4_113 : (Jvm.Cond.static ({ cls := "java/lang/StringLatin1", name := "canEncode", desc := "(C)Z" } : Jvm.MethodName)) ∈ kTbl := kW4 (List.mem_of_getElem? (i := 113) rfl) rfl
theorem kt_4_114 : (Jvm.Cond.code ({ cls := "java/lang/StringLatin1", name := "canEncode", desc := "(C)Z" } : Jvm.MethodName) prog_22_method_3_code (1 : Nat) (Option.some Jvm.ClassFile.FieldType.boolean)) ∈ kTbl := kW4 (List.mem_of_getElem? (i := 114) rfl) rfl
theorem kt_4_115 : (Jvm.Cond.methodLink "java/lang/AbstractStringBuilder" (195 : Nat) ({ cls := "java/lang/AbstractStringBuilder", name := "inflate", desc := "()V" } : Jvm.MethodName)) ∈ kTbl := kW4 (List.mem_of_getElem? (i := 115) rfl) rfl
theorem kt_4_119 : (Jvm.Cond.methodLink "java/lang/AbstractStringBuilder" (125 : Nat) ({ cls := "java/lang/StringLatin1", name := "inflate", desc := "([BI[BII)V" } : Jvm.MethodName)) ∈ kTbl := kW4 (List.mem_of_getElem? (i := 119) rfl) rfl
theorem kt_4_120 : (Jvm.Cond.static ({ cls := "java/lang/StringLatin1", name := "inflate", desc := "([BI[BII)V" } : Jvm.MethodName)) ∈ kTbl := kW4 (List.mem_of_getElem? (i := 120) rfl) rfl
theorem kt_4_122 : (Jvm.Cond.methodLink "java/lang/StringLatin1" (240 : Nat) ({ cls := "java/lang/StringUTF16", name := "inflate", desc := "([BI[BII)V" } : Jvm.MethodName)) ∈ kTbl := kW4 (List.mem_of_getElem? (i := 122) rfl) rfl
theorem kt_4_134 : (Jvm.Cond.fieldLink "java/lang/String" (1053 : Nat) "jdk/internal/util/Preconditions" "SIOOBE_FORMATTER" "Ljava/util/function/BiFunction;") ∈ kTbl := kW4 (List.mem_of_getElem? (i := 134) rfl) rfl
theorem kt_4_136 : (Jvm.Cond.methodLink "java/lang/String" (1065 : Nat) ({ cls := "jdk/internal/util/Preconditions", name := "checkFromIndexSize", desc := "(IIILjava/util/function/BiFunction;)I" } : Jvm.MethodName)) ∈ kTbl := kW4 (List.mem_of_getElem? (i := 136) rfl) rfl
theorem kt_4_137 : (Jvm.Cond.static ({ cls := "jdk/internal/util/Preconditions", name := "checkFromIndexSize", desc := "(IIILjava/util/function/BiFunction;)I" } : Jvm.MethodName)) ∈ kTbl := kW4 (List.mem_of_getElem? (i := 137) rfl) rfl
theorem kt_4_148 : (Jvm.Cond.methodLink "java/lang/AbstractStringBuilder" (197 : Nat) ({ cls := "java/lang/StringUTF16", name := "putCharSB", desc := "([BII)V" } : Jvm.MethodName)) ∈ kTbl := kW4 (List.mem_of_getElem? (i := 148) rfl) rfl
theorem kt_4_155 : (Jvm.Cond.static ({ cls := "java/lang/String", name := "checkIndex", desc := "(II)V" } : Jvm.MethodName)) ∈ kTbl := kW4 (List.mem_of_getElem? (i := 155) rfl) rfl
theorem kt_4_156 : (Jvm.Cond.code ({ cls := "java/lang/String", name := "checkIndex", desc := "(II)V" } : Jvm.MethodName) prog_20_method_155_code (2 : Nat) (Option.none : Option Jvm.ClassFile.FieldType)) ∈ kTbl := kW4 (List.mem_of_getElem? (i := 156) rfl) rfl
theorem kt_4_157 : (Jvm.Cond.methodLink "java/lang/String" (1059 : Nat) ({ cls := "jdk/internal/util/Preconditions", name := "checkIndex", desc := "(IILjava/util/function/BiFunction;)I" } : Jvm.MethodName)) ∈ kTbl := kW4 (List.mem_of_getElem? (i := 157) rfl) rfl
theorem kt_4_158 : (Jvm.Cond.static ({ cls := "jdk/internal/util/Preconditions", name := "checkIndex", desc := "(IILjava/util/function/BiFunction;)I" } : Jvm.MethodName)) ∈ kTbl := kW4 (List.mem_of_getElem? (i := 158) rfl) rfl
theorem kt_4_159 : (Jvm.Cond.code ({ cls := "jdk/internal/util/Preconditions", name := "checkIndex", desc := "(IILjava/util/function/BiFunction;)I" } : Jvm.MethodName) prog_28_method_11_code (3 : Nat) (Option.some Jvm.ClassFile.FieldType.int)) ∈ kTbl := kW4 (List.mem_of_getElem? (i := 159) rfl) rfl
theorem kt_4_160 : (Jvm.Cond.methodLink "Knitstead" (268 : Nat) ({ cls := "java/lang/StringBuilder", name := "toString", desc := "()Ljava/lang/String;" } : Jvm.MethodName)) ∈ kTbl := kW4 (List.mem_of_getElem? (i := 160) rfl) rfl
theorem kt_4_161 : (Jvm.Cond.instanceMethod ({ cls := "java/lang/StringBuilder", name := "toString", desc := "()Ljava/lang/String;" } : Jvm.MethodName)) ∈ kTbl := kW4 (List.mem_of_getElem? (i := 161) rfl) rfl
theorem kt_4_162 : (Jvm.Cond.selects "java/lang/StringBuilder" ({ cls := "java/lang/StringBuilder", name := "toString", desc := "()Ljava/lang/String;" } : Jvm.MethodName) ({ cls := "java/lang/StringBuilder", name := "toString", desc := "()Ljava/lang/String;" } : Jvm.MethodName)) ∈ kTbl := kW4 (List.mem_of_getElem? (i := 162) rfl) rfl
theorem kt_4_163 : (Jvm.Cond.code ({ cls := "java/lang/StringBuilder", name := "toString", desc := "()Ljava/lang/String;" } : Jvm.MethodName) prog_21_method_42_code (1 : Nat) (Option.some (Jvm.ClassFile.FieldType.object "java/lang/String"))) ∈ kTbl := kW4 (List.mem_of_getElem? (i := 163) rfl) rfl
theorem kt_4_164 : (Jvm.Cond.classLink "java/lang/StringBuilder" (18 : Nat) "java/lang/String") ∈ kTbl := kW4 (List.mem_of_getElem? (i := 164) rfl) rfl
theorem kt_4_165 : (Jvm.Cond.instantiable "java/lang/String" (4 : Nat)) ∈ kTbl := kW4 (List.mem_of_getElem? (i := 165) rfl) rfl
theorem kt_4_166 : (Jvm.Cond.methodLink "java/lang/StringBuilder" (137 : Nat) ({ cls := "java/lang/String", name := "<init>", desc := "(Ljava/lang/StringBuilder;)V" } : Jvm.MethodName)) ∈ kTbl := kW4 (List.mem_of_getElem? (i := 166) rfl) rfl
theorem kt_4_167 : (Jvm.Cond.instanceMethod ({ cls := "java/lang/String", name := "<init>", desc := "(Ljava/lang/StringBuilder;)V" } : Jvm.MethodName)) ∈ kTbl := kW4 (List.mem_of_getElem? (i := 167) rfl) rfl
theorem kt_4_168 : (Jvm.Cond.code ({ cls := "java/lang/String", name := "<init>", desc := "(Ljava/lang/StringBuilder;)V" } : Jvm.MethodName) prog_20_method_53_code (2 : Nat) (Option.none : Option Jvm.ClassFile.FieldType)) ∈ kTbl := kW4 (List.mem_of_getElem? (i := 168) rfl) rfl
theorem kt_4_169 : (Jvm.Cond.methodLink "java/lang/String" (489 : Nat) ({ cls := "java/lang/String", name := "<init>", desc := "(Ljava/lang/AbstractStringBuilder;Ljava/lang/Void;)V" } : Jvm.MethodName)) ∈ kTbl := kW4 (List.mem_of_getElem? (i := 169) rfl) rfl
theorem kt_4_170 : (Jvm.Cond.instanceMethod ({ cls := "java/lang/String", name := "<init>", desc := "(Ljava/lang/AbstractStringBuilder;Ljava/lang/Void;)V" } : Jvm.MethodName)) ∈ kTbl := kW4 (List.mem_of_getElem? (i := 170) rfl) rfl
theorem kt_4_171 : (Jvm.Cond.code ({ cls := "java/lang/String", name := "<init>", desc := "(Ljava/lang/AbstractStringBuilder;Ljava/lang/Void;)V" } : Jvm.MethodName) prog_20_method_150_code (5 : Nat) (Option.none : Option Jvm.ClassFile.FieldType)) ∈ kTbl := kW4 (List.mem_of_getElem? (i := 171) rfl) rfl
theorem kt_4_172 : (Jvm.Cond.methodLink "java/lang/String" (1 : Nat) ({ cls := "java/lang/Object", name := "<init>", desc := "()V" } : Jvm.MethodName)) ∈ kTbl := kW4 (List.mem_of_getElem? (i := 172) rfl) rfl
theorem kt_4_173 : (Jvm.Cond.methodLink "java/lang/String" (552 : Nat) ({ cls := "java/lang/AbstractStringBuilder", name := "getValue", desc := "()[B" } : Jvm.MethodName)) ∈ kTbl := kW4 (List.mem_of_getElem? (i := 173) rfl) rfl
theorem kt_4_174 : (Jvm.Cond.instanceMethod ({ cls := "java/lang/AbstractStringBuilder", name := "getValue", desc := "()[B" } : Jvm.MethodName)) ∈ kTbl := kW4 (List.mem_of_getElem? (i := 174) rfl) rfl
theorem kt_4_175 : (Jvm.Cond.sameMethod "java/lang/AbstractStringBuilder" "java/lang/AbstractStringBuilder" "getValue" "()[B") ∈ kTbl := kW4 (List.mem_of_getElem? (i := 175) rfl) rfl
theorem kt_4_176 : (Jvm.Cond.selects "java/lang/StringBuilder" ({ cls := "java/lang/AbstractStringBuilder", name := "getValue", desc := "()[B" } : Jvm.MethodName) ({ cls := "java/lang/AbstractStringBuilder", name := "getValue", desc := "()[B" } : Jvm.MethodName)) ∈ kTbl := kW4 (List.mem_of_getElem? (i := 176) rfl) rfl
theorem kt_4_177 : (Jvm.Cond.code ({ cls := "java/lang/AbstractStringBuilder", name := "getValue", desc := "()[B" } : Jvm.MethodName) prog_12_method_64_code (1 : Nat) (Option.some (Jvm.ClassFile.FieldType.array Jvm.ClassFile.FieldType.byte))) ∈ kTbl := kW4 (List.mem_of_getElem? (i := 177) rfl) rfl
theorem kt_4_178 : (Jvm.Cond.methodLink "java/lang/String" (549 : Nat) ({ cls := "java/lang/AbstractStringBuilder", name := "length", desc := "()I" } : Jvm.MethodName)) ∈ kTbl := kW4 (List.mem_of_getElem? (i := 178) rfl) rfl
theorem kt_4_179 : (Jvm.Cond.instanceMethod ({ cls := "java/lang/AbstractStringBuilder", name := "length", desc := "()I" } : Jvm.MethodName)) ∈ kTbl := kW4 (List.mem_of_getElem? (i := 179) rfl) rfl
theorem kt_4_180 : (Jvm.Cond.sameMethod "java/lang/AbstractStringBuilder" "java/lang/AbstractStringBuilder" "length" "()I") ∈ kTbl := kW4 (List.mem_of_getElem? (i := 180) rfl) rfl
theorem kt_4_181 : (Jvm.Cond.selects "java/lang/StringBuilder" ({ cls := "java/lang/AbstractStringBuilder", name := "length", desc := "()I" } : Jvm.MethodName) ({ cls := "java/lang/StringBuilder", name := "length", desc := "()I" } : Jvm.MethodName)) ∈ kTbl := kW4 (List.mem_of_getElem? (i := 181) rfl) rfl
theorem kt_4_182 : (Jvm.Cond.instanceMethod ({ cls := "java/lang/StringBuilder", name := "length", desc := "()I" } : Jvm.MethodName)) ∈ kTbl := kW4 (List.mem_of_getElem? (i := 182) rfl) rfl
theorem kt_4_183 : (Jvm.Cond.code ({ cls := "java/lang/StringBuilder", name := "length", desc := "()I" } : Jvm.MethodName) prog_21_method_93_code (1 : Nat) (Option.some Jvm.ClassFile.FieldType.int)) ∈ kTbl := kW4 (List.mem_of_getElem? (i := 183) rfl) rfl
theorem kt_4_184 : (Jvm.Cond.methodLink "java/lang/StringBuilder" (343 : Nat) ({ cls := "java/lang/AbstractStringBuilder", name := "length", desc := "()I" } : Jvm.MethodName)) ∈ kTbl := kW4 (List.mem_of_getElem? (i := 184) rfl) rfl
theorem kt_4_185 : (Jvm.Cond.code ({ cls := "java/lang/AbstractStringBuilder", name := "length", desc := "()I" } : Jvm.MethodName) prog_12_method_6_code (1 : Nat) (Option.some Jvm.ClassFile.FieldType.int)) ∈ kTbl := kW4 (List.mem_of_getElem? (i := 185) rfl) rfl
theorem kt_4_186 : (Jvm.Cond.methodLink "java/lang/String" (1047 : Nat) ({ cls := "java/lang/AbstractStringBuilder", name := "isLatin1", desc := "()Z" } : Jvm.MethodName)) ∈ kTbl := kW4 (List.mem_of_getElem? (i := 186) rfl) rfl
theorem kt_4_187 : (Jvm.Cond.methodLink "java/lang/String" (54 : Nat) ({ cls := "java/util/Arrays", name := "copyOfRange", desc := "([BII)[B" } : Jvm.MethodName)) ∈ kTbl := kW4 (List.mem_of_getElem? (i := 187) rfl) rfl
theorem kt_4_188 : (Jvm.Cond.static ({ cls := "java/util/Arrays", name := "copyOfRange", desc := "([BII)[B" } : Jvm.MethodName)) ∈ kTbl := kW4 (List.mem_of_getElem? (i := 188) rfl) rfl
theorem kt_4_189 : (Jvm.Cond.code ({ cls := "java/util/Arrays", name := "copyOfRange", desc := "([BII)[B" } : Jvm.MethodName) prog_26_method_132_code (3 : Nat) (Option.some (Jvm.ClassFile.FieldType.array Jvm.ClassFile.FieldType.byte))) ∈ kTbl := kW4 (List.mem_of_getElem? (i := 189) rfl) rfl
theorem kt_4_190 : (Jvm.Cond.methodLink "java/util/Arrays" (339 : Nat) ({ cls := "java/util/Arrays", name := "copyOfRangeByte", desc := "([BII)[B" } : Jvm.MethodName)) ∈ kTbl := kW4 (List.mem_of_getElem? (i := 190) rfl) rfl
theorem kt_4_191 : (Jvm.Cond.static ({ cls := "java/util/Arrays", name := "copyOfRangeByte", desc := "([BII)[B" } : Jvm.MethodName)) ∈ kTbl := kW4 (List.mem_of_getElem? (i := 191) rfl) rfl
theorem kt_4_192 : (Jvm.Cond.code ({ cls := "java/util/Arrays", name := "copyOfRangeByte", desc := "([BII)[B" } : Jvm.MethodName) prog_26_method_133_code (5 : Nat) (Option.some (Jvm.ClassFile.FieldType.array Jvm.ClassFile.FieldType.byte))) ∈ kTbl := kW4 (List.mem_of_getElem? (i := 192) rfl) rfl
theorem kt_4_193 : (Jvm.Cond.methodLink "java/util/Arrays" (343 : Nat) ({ cls := "java/util/Arrays", name := "checkLength", desc := "(II)V" } : Jvm.MethodName)) ∈ kTbl := kW4 (List.mem_of_getElem? (i := 193) rfl) rfl
theorem kt_4_194 : (Jvm.Cond.static ({ cls := "java/util/Arrays", name := "checkLength", desc := "(II)V" } : Jvm.MethodName)) ∈ kTbl := kW4 (List.mem_of_getElem? (i := 194) rfl) rfl
theorem kt_4_195 : (Jvm.Cond.code ({ cls := "java/util/Arrays", name := "checkLength", desc := "(II)V" } : Jvm.MethodName) prog_26_method_131_code (2 : Nat) (Option.none : Option Jvm.ClassFile.FieldType)) ∈ kTbl := kW4 (List.mem_of_getElem? (i := 195) rfl) rfl
theorem kt_4_196 : (Jvm.Cond.fieldLink "java/lang/String" (38 : Nat) "java/lang/String" "COMPACT_STRINGS" "Z") ∈ kTbl := kW4 (List.mem_of_getElem? (i := 196) rfl) rfl
theorem kt_4_197 : (Jvm.Cond.methodLink "java/lang/String" (1051 : Nat) ({ cls := "java/lang/StringUTF16", name := "compress", desc := "([BII)[B" } : Jvm.MethodName)) ∈ kTbl := kW4 (List.mem_of_getElem? (i := 197) rfl) rfl
theorem kt_4_207 : (Jvm.Cond.methodLink "java/lang/String" (47 : Nat) ({ cls := "java/lang/StringUTF16", name := "coderFromArrayLen", desc := "([BI)B" } : Jvm.MethodName)) ∈ kTbl := kW4 (List.mem_of_getElem? (i := 207) rfl) rfl
theorem kt_4_210 : (Jvm.Cond.fieldLink "java/lang/String" (9 : Nat) "java/lang/String" "value" "[B") ∈ kTbl := kW4 (List.mem_of_getElem? (i := 210) rfl) rfl
theorem kt_4_211 : (Jvm.Cond.fieldLink "java/lang/String" (15 : Nat) "java/lang/String" "coder" "B") ∈ kTbl := kW4 (List.mem_of_getElem? (i := 211) rfl) rfl
theorem kt_4_212 : (Jvm.Cond.laysFinal "java/lang/String" "java/lang/String" "value" "[B") ∈ kTbl := kW4 (List.mem_of_getElem? (i := 212) rfl) rfl
theorem kt_4_214 : (Jvm.Cond.laysFinal "java/lang/String" "java/lang/String" "coder" "B") ∈ kTbl := kW4 (List.mem_of_getElem? (i := 214) rfl) rfl
theorem kt_4_216 : (Jvm.Cond.lays "java/lang/String" "java/lang/String" "hash" "I") ∈ kTbl := kW4 (List.mem_of_getElem? (i := 216) rfl) rfl
theorem kt_4_218 : (Jvm.Cond.lays "java/lang/String" "java/lang/String" "hashIsZero" "Z") ∈ kTbl := kW4 (List.mem_of_getElem? (i := 218) rfl) rfl
theorem kt_4_221 : (Jvm.Cond.methodLink "KnitsteadLaw" (121 : Nat) ({ cls := "java/lang/String", name := "length", desc := "()I" } : Jvm.MethodName)) ∈ kTbl := kW4 (List.mem_of_getElem? (i := 221) rfl) rfl
theorem kt_4_222 : (Jvm.Cond.instanceMethod ({ cls := "java/lang/String", name := "length", desc := "()I" } : Jvm.MethodName)) ∈ kTbl := kW4 (List.mem_of_getElem? (i := 222) rfl) rfl
theorem kt_4_223 : (Jvm.Cond.selects "java/lang/String" ({ cls := "java/lang/String", name := "length", desc := "()I" } : Jvm.MethodName) ({ cls := "java/lang/String", name := "length", desc := "()I" } : Jvm.MethodName)) ∈ kTbl := kW4 (List.mem_of_getElem? (i := 223) rfl) rfl
theorem kt_4_224 : (Jvm.Cond.code ({ cls := "java/lang/String", name := "length", desc := "()I" } : Jvm.MethodName) prog_20_method_54_code (1 : Nat) (Option.some Jvm.ClassFile.FieldType.int)) ∈ kTbl := kW4 (List.mem_of_getElem? (i := 224) rfl) rfl
theorem kt_4_225 : (Jvm.Cond.methodLink "java/lang/String" (335 : Nat) ({ cls := "java/lang/String", name := "coder", desc := "()B" } : Jvm.MethodName)) ∈ kTbl := kW4 (List.mem_of_getElem? (i := 225) rfl) rfl
theorem kt_4_226 : (Jvm.Cond.instanceMethod ({ cls := "java/lang/String", name := "coder", desc := "()B" } : Jvm.MethodName)) ∈ kTbl := kW4 (List.mem_of_getElem? (i := 226) rfl) rfl
theorem kt_4_227 : (Jvm.Cond.selects "java/lang/String" ({ cls := "java/lang/String", name := "coder", desc := "()B" } : Jvm.MethodName) ({ cls := "java/lang/String", name := "coder", desc := "()B" } : Jvm.MethodName)) ∈ kTbl := kW4 (List.mem_of_getElem? (i := 227) rfl) rfl
theorem kt_4_228 : (Jvm.Cond.code ({ cls := "java/lang/String", name := "coder", desc := "()B" } : Jvm.MethodName) prog_20_method_152_code (1 : Nat) (Option.some Jvm.ClassFile.FieldType.byte)) ∈ kTbl := kW4 (List.mem_of_getElem? (i := 228) rfl) rfl
theorem kt_4_229 : (Jvm.Cond.constantDouble "KnitsteadLaw" (126 : Nat) (4602678819172646912 : UInt64)) ∈ kTbl := kW4 (List.mem_of_getElem? (i := 229) rfl) rfl
theorem kt_4_230 : (Jvm.Cond.constantDouble "KnitsteadLaw" (128 : Nat) (4593671619917905920 : UInt64)) ∈ kTbl := kW4 (List.mem_of_getElem? (i := 230) rfl) rfl
theorem kt_4_231 : (Jvm.Cond.methodLink "KnitsteadLaw" (130 : Nat) ({ cls := "java/lang/Math", name := "max", desc := "(II)I" } : Jvm.MethodName)) ∈ kTbl := kW4 (List.mem_of_getElem? (i := 231) rfl) rfl
theorem kt_4_232 : (Jvm.Cond.methodLink "KnitsteadLaw" (135 : Nat) ({ cls := "java/lang/String", name := "charAt", desc := "(I)C" } : Jvm.MethodName)) ∈ kTbl := kW4 (List.mem_of_getElem? (i := 232) rfl) rfl
theorem kt_4_233 : (Jvm.Cond.instanceMethod ({ cls := "java/lang/String", name := "charAt", desc := "(I)C" } : Jvm.MethodName)) ∈ kTbl := kW4 (List.mem_of_getElem? (i := 233) rfl) rfl
theorem kt_4_234 : (Jvm.Cond.selects "java/lang/String" ({ cls := "java/lang/String", name := "charAt", desc := "(I)C" } : Jvm.MethodName) ({ cls := "java/lang/String", name := "charAt", desc := "(I)C" } : Jvm.MethodName)) ∈ kTbl := kW4 (List.mem_of_getElem? (i := 234) rfl) rfl
theorem kt_4_235 : (Jvm.Cond.code ({ cls := "java/lang/String", name := "charAt", desc := "(I)C" } : Jvm.MethodName) prog_20_method_56_code (2 : Nat) (Option.some Jvm.ClassFile.FieldType.char)) ∈ kTbl := kW4 (List.mem_of_getElem? (i := 235) rfl) rfl
theorem kt_4_236 : (Jvm.Cond.methodLink "java/lang/String" (492 : Nat) ({ cls := "java/lang/String", name := "isLatin1", desc := "()Z" } : Jvm.MethodName)) ∈ kTbl := kW4 (List.mem_of_getElem? (i := 236) rfl) rfl
theorem kt_4_237 : (Jvm.Cond.instanceMethod ({ cls := "java/lang/String", name := "isLatin1", desc := "()Z" } : Jvm.MethodName)) ∈ kTbl := kW4 (List.mem_of_getElem? (i := 237) rfl) rfl
theorem kt_4_238 : (Jvm.Cond.selects "java/lang/String" ({ cls := "java/lang/String", name := "isLatin1", desc := "()Z" } : Jvm.MethodName) ({ cls := "java/lang/String", name := "isLatin1", desc := "()Z" } : Jvm.MethodName)) ∈ kTbl := kW4 (List.mem_of_getElem? (i := 238) rfl) rfl
theorem kt_4_239 : (Jvm.Cond.code ({ cls := "java/lang/String", name := "isLatin1", desc := "()Z" } : Jvm.MethodName) prog_20_method_154_code (1 : Nat) (Option.some Jvm.ClassFile.FieldType.boolean)) ∈ kTbl := kW4 (List.mem_of_getElem? (i := 239) rfl) rfl
theorem kt_5_0 : (Jvm.Cond.methodLink "java/lang/String" (495 : Nat) ({ cls := "java/lang/StringLatin1", name := "charAt", desc := "([BI)C" } : Jvm.MethodName)) ∈ kTbl := kW5 (List.mem_of_getElem? (i := 0) rfl) rfl
theorem kt_5_1 : (Jvm.Cond.static ({ cls := "java/lang/StringLatin1", name := "charAt", desc := "([BI)C" } : Jvm.MethodName)) ∈ kTbl := kW5 (List.mem_of_getElem? (i := 1) rfl) rfl
theorem kt_5_2 : (Jvm.Cond.code ({ cls := "java/lang/StringLatin1", name := "charAt", desc := "([BI)C" } : Jvm.MethodName) prog_22_method_2_code (2 : Nat) (Option.some Jvm.ClassFile.FieldType.char)) ∈ kTbl := kW5 (List.mem_of_getElem? (i := 2) rfl) rfl
theorem kt_5_3 : (Jvm.Cond.methodLink "java/lang/StringLatin1" (9 : Nat) ({ cls := "java/lang/String", name := "checkIndex", desc := "(II)V" } : Jvm.MethodName)) ∈ kTbl := kW5 (List.mem_of_getElem? (i := 3) rfl) rfl
theorem kt_5_4 : (Jvm.Cond.methodLink "java/lang/String" (498 : Nat) ({ cls := "java/lang/StringUTF16", name := "charAt", desc := "([BI)C" } : Jvm.MethodName)) ∈ kTbl := kW5 (List.mem_of_getElem? (i := 4) rfl) rfl
theorem kt_5_7 : (Jvm.Cond.methodLink "KnitsteadLaw" (139 : Nat) ({ cls := "Knitstead", name := "best", desc := "()I" } : Jvm.MethodName)) ∈ kTbl := kW5 (List.mem_of_getElem? (i := 7) rfl) rfl
theorem kt_5_8 : (Jvm.Cond.instanceMethod ({ cls := "Knitstead", name := "best", desc := "()I" } : Jvm.MethodName)) ∈ kTbl := kW5 (List.mem_of_getElem? (i := 8) rfl) rfl
theorem kt_5_9 : (Jvm.Cond.selects "Knitstead" ({ cls := "Knitstead", name := "best", desc := "()I" } : Jvm.MethodName) ({ cls := "Knitstead", name := "best", desc := "()I" } : Jvm.MethodName)) ∈ kTbl := kW5 (List.mem_of_getElem? (i := 9) rfl) rfl
theorem kt_5_10 : (Jvm.Cond.code ({ cls := "Knitstead", name := "best", desc := "()I" } : Jvm.MethodName) prog_1_method_27_code (1 : Nat) (Option.some Jvm.ClassFile.FieldType.int)) ∈ kTbl := kW5 (List.mem_of_getElem? (i := 10) rfl) rfl
theorem kt_5_12 : (Jvm.Cond.sameMethod "java/lang/AbstractStringBuilder" "java/lang/AbstractStringBuilder" "append" "(C)Ljava/lang/AbstractStringBuilder;") ∈ kTbl := kW5 (List.mem_of_getElem? (i := 12) rfl) rfl
theorem kt_5_13 : (Jvm.Cond.sameMethod "java/lang/AbstractStringBuilder" "java/lang/AbstractStringBuilder" "ensureCapacityInternal" "(I)V") ∈ kTbl := kW5 (List.mem_of_getElem? (i := 13) rfl) rfl
theorem kt_5_14 : (Jvm.Cond.sameMethod "java/lang/AbstractStringBuilder" "java/lang/AbstractStringBuilder" "newCapacity" "(I)I") ∈ kTbl := kW5 (List.mem_of_getElem? (i := 14) rfl) rfl
theorem ktp_1 : Jvm.Cond.selects "Knitstead$History" ⟨"Knitstead$History", "isSlot", "(I)Z"⟩ ⟨"Knitstead$History", "isSlot", "(I)Z"⟩ ∈ kTbl := kWp (q := (⟨"Knitstead$History", "isSlot", "(I)Z"⟩, _)) (List.mem_of_getElem? (i := 1) rfl) rfl
theorem ktp_2 : Jvm.Cond.selects "Knitstead" ⟨"Knitstead", "make", "(IIII)I"⟩ ⟨"Knitstead", "make", "(IIII)I"⟩ ∈ kTbl := kWp (q := (⟨"Knitstead", "make", "(IIII)I"⟩, _)) (List.mem_of_getElem? (i := 2) rfl) rfl
theorem ktp_3 : Jvm.Cond.selects "Knitstead$Table" ⟨"Knitstead$Table", "cellOf", "(II)I"⟩ ⟨"Knitstead$Table", "cellOf", "(II)I"⟩ ∈ kTbl := kWp (q := (⟨"Knitstead$Table", "cellOf", "(II)I"⟩, _)) (List.mem_of_getElem? (i := 3) rfl) rfl
theorem ktp_4 : Jvm.Cond.selects "Knitstead$Table" ⟨"Knitstead$Table", "growTo", "(I)V"⟩ ⟨"Knitstead$Table", "growTo", "(I)V"⟩ ∈ kTbl := kWp (q := (⟨"Knitstead$Table", "growTo", "(I)V"⟩, _)) (List.mem_of_getElem? (i := 4) rfl) rfl
theorem ktp_5 : Jvm.Cond.selects "Knitstead" ⟨"Knitstead", "crossNext", "(II)I"⟩ ⟨"Knitstead", "crossNext", "(II)I"⟩ ∈ kTbl := kWp (q := (⟨"Knitstead", "crossNext", "(II)I"⟩, _)) (List.mem_of_getElem? (i := 5) rfl) rfl
theorem ktp_6 : Jvm.Cond.selects "Knitstead$Needle" ⟨"Knitstead$Needle", "replace", "(II)V"⟩ ⟨"Knitstead$Needle", "replace", "(II)V"⟩ ∈ kTbl := kWp (q := (⟨"Knitstead$Needle", "replace", "(II)V"⟩, _)) (List.mem_of_getElem? (i := 6) rfl) rfl
theorem ktp_7 : Jvm.Cond.selects "Knitstead" ⟨"Knitstead", "bindSeconds", "(I)V"⟩ ⟨"Knitstead", "bindSeconds", "(I)V"⟩ ∈ kTbl := kWp (q := (⟨"Knitstead", "bindSeconds", "(I)V"⟩, _)) (List.mem_of_getElem? (i := 7) rfl) rfl
theorem ktp_8 : Jvm.Cond.selects "Knitstead" ⟨"Knitstead", "bindAt", "(I)V"⟩ ⟨"Knitstead", "bindAt", "(I)V"⟩ ∈ kTbl := kWp (q := (⟨"Knitstead", "bindAt", "(I)V"⟩, _)) (List.mem_of_getElem? (i := 8) rfl) rfl
theorem ktp_9 : Jvm.Cond.selects "Knitstead" ⟨"Knitstead", "fastenLast", "()V"⟩ ⟨"Knitstead", "fastenLast", "()V"⟩ ∈ kTbl := kWp (q := (⟨"Knitstead", "fastenLast", "()V"⟩, _)) (List.mem_of_getElem? (i := 9) rfl) rfl
theorem ktp_10 : Jvm.Cond.selects "Knitstead" ⟨"Knitstead", "hasPattern", "(I)Z"⟩ ⟨"Knitstead", "hasPattern", "(I)Z"⟩ ∈ kTbl := kWp (q := (⟨"Knitstead", "hasPattern", "(I)Z"⟩, _)) (List.mem_of_getElem? (i := 10) rfl) rfl
theorem ktp_11 : Jvm.Cond.selects "Knitstead" ⟨"Knitstead", "tryOut", "(I)V"⟩ ⟨"Knitstead", "tryOut", "(I)V"⟩ ∈ kTbl := kWp (q := (⟨"Knitstead", "tryOut", "(I)V"⟩, _)) (List.mem_of_getElem? (i := 11) rfl) rfl
theorem ktp_12 : Jvm.Cond.selects "Knitstead" ⟨"Knitstead", "stepAt", "(II)I"⟩ ⟨"Knitstead", "stepAt", "(II)I"⟩ ∈ kTbl := kWp (q := (⟨"Knitstead", "stepAt", "(II)I"⟩, _)) (List.mem_of_getElem? (i := 12) rfl) rfl
theorem ktp_13 : Jvm.Cond.selects "Knitstead" ⟨"Knitstead", "doStep", "(I)V"⟩ ⟨"Knitstead", "doStep", "(I)V"⟩ ∈ kTbl := kWp (q := (⟨"Knitstead", "doStep", "(I)V"⟩, _)) (List.mem_of_getElem? (i := 13) rfl) rfl
theorem ktp_14 : Jvm.Cond.selects "Knitstead" ⟨"Knitstead", "workNext", "(I)I"⟩ ⟨"Knitstead", "workNext", "(I)I"⟩ ∈ kTbl := kWp (q := (⟨"Knitstead", "workNext", "(I)I"⟩, _)) (List.mem_of_getElem? (i := 14) rfl) rfl
theorem ktp_15 : Jvm.Cond.selects "Knitstead" ⟨"Knitstead", "takeWorked", "()I"⟩ ⟨"Knitstead", "takeWorked", "()I"⟩ ∈ kTbl := kWp (q := (⟨"Knitstead", "takeWorked", "()I"⟩, _)) (List.mem_of_getElem? (i := 15) rfl) rfl
theorem ktp_16 : Jvm.Cond.selects "Knitstead" ⟨"Knitstead", "makeOver", "()I"⟩ ⟨"Knitstead", "makeOver", "()I"⟩ ∈ kTbl := kWp (q := (⟨"Knitstead", "makeOver", "()I"⟩, _)) (List.mem_of_getElem? (i := 16) rfl) rfl
theorem ktp_17 : Jvm.Cond.selects "Knitstead" ⟨"Knitstead", "takeTogether", "(II)I"⟩ ⟨"Knitstead", "takeTogether", "(II)I"⟩ ∈ kTbl := kWp (q := (⟨"Knitstead", "takeTogether", "(II)I"⟩, _)) (List.mem_of_getElem? (i := 17) rfl) rfl
theorem ktp_18 : Jvm.Cond.selects "Knitstead" ⟨"Knitstead", "slipNext", "()I"⟩ ⟨"Knitstead", "slipNext", "()I"⟩ ∈ kTbl := kWp (q := (⟨"Knitstead", "slipNext", "()I"⟩, _)) (List.mem_of_getElem? (i := 18) rfl) rfl
theorem ktp_19 : Jvm.Cond.selects "Knitstead" ⟨"Knitstead", "needle", "(Z)LKnitstead$Needle;"⟩ ⟨"Knitstead", "needle", "(Z)LKnitstead$Needle;"⟩ ∈ kTbl := kWp (q := (⟨"Knitstead", "needle", "(Z)LKnitstead$Needle;"⟩, _)) (List.mem_of_getElem? (i := 19) rfl) rfl
theorem ktp_20 : Jvm.Cond.selects "Knitstead" ⟨"Knitstead", "loopFact", "(II)I"⟩ ⟨"Knitstead", "loopFact", "(II)I"⟩ ∈ kTbl := kWp (q := (⟨"Knitstead", "loopFact", "(II)I"⟩, _)) (List.mem_of_getElem? (i := 20) rfl) rfl
theorem ktp_21 : Jvm.Cond.selects "Knitstead" ⟨"Knitstead", "whereIs", "(I)I"⟩ ⟨"Knitstead", "whereIs", "(I)I"⟩ ∈ kTbl := kWp (q := (⟨"Knitstead", "whereIs", "(I)I"⟩, _)) (List.mem_of_getElem? (i := 21) rfl) rfl
theorem ktp_22 : Jvm.Cond.selects "Knitstead" ⟨"Knitstead", "widthOf", "(LKnitstead$Needle;)F"⟩ ⟨"Knitstead", "widthOf", "(LKnitstead$Needle;)F"⟩ ∈ kTbl := kWp (q := (⟨"Knitstead", "widthOf", "(LKnitstead$Needle;)F"⟩, _)) (List.mem_of_getElem? (i := 22) rfl) rfl
theorem ktp_23 : Jvm.Cond.selects "Knitstead" ⟨"Knitstead", "isSmooth", "(I)Z"⟩ ⟨"Knitstead", "isSmooth", "(I)Z"⟩ ∈ kTbl := kWp (q := (⟨"Knitstead", "isSmooth", "(I)Z"⟩, _)) (List.mem_of_getElem? (i := 23) rfl) rfl
theorem ktp_24 : Jvm.Cond.selects "Knitstead" ⟨"Knitstead", "isAsMade", "(I)Z"⟩ ⟨"Knitstead", "isAsMade", "(I)Z"⟩ ∈ kTbl := kWp (q := (⟨"Knitstead", "isAsMade", "(I)Z"⟩, _)) (List.mem_of_getElem? (i := 24) rfl) rfl
theorem ktp_25 : Jvm.Cond.selects "Knitstead" ⟨"Knitstead", "number", "(I)I"⟩ ⟨"Knitstead", "number", "(I)I"⟩ ∈ kTbl := kWp (q := (⟨"Knitstead", "number", "(I)I"⟩, _)) (List.mem_of_getElem? (i := 25) rfl) rfl
theorem ktp_26 : Jvm.Cond.selects "Knitstead" ⟨"Knitstead", "mixedLoops", "(JLKnitstead$Needle;)J"⟩ ⟨"Knitstead", "mixedLoops", "(JLKnitstead$Needle;)J"⟩ ∈ kTbl := kWp (q := (⟨"Knitstead", "mixedLoops", "(JLKnitstead$Needle;)J"⟩, _)) (List.mem_of_getElem? (i := 26) rfl) rfl
theorem ktp_27 : Jvm.Cond.selects "Knitstead" ⟨"Knitstead", "mixedPatterns", "(J)J"⟩ ⟨"Knitstead", "mixedPatterns", "(J)J"⟩ ∈ kTbl := kWp (q := (⟨"Knitstead", "mixedPatterns", "(J)J"⟩, _)) (List.mem_of_getElem? (i := 27) rfl) rfl
theorem ktp_28 : Jvm.Cond.selects "Knitstead" ⟨"Knitstead", "bestPattern", "()I"⟩ ⟨"Knitstead", "bestPattern", "()I"⟩ ∈ kTbl := kWp (q := (⟨"Knitstead", "bestPattern", "()I"⟩, _)) (List.mem_of_getElem? (i := 28) rfl) rfl
theorem ktp_29 : Jvm.Cond.selects "Knitstead" ⟨"Knitstead", "endsWhole", "(I)Z"⟩ ⟨"Knitstead", "endsWhole", "(I)Z"⟩ ∈ kTbl := kWp (q := (⟨"Knitstead", "endsWhole", "(I)Z"⟩, _)) (List.mem_of_getElem? (i := 29) rfl) rfl
theorem ktp_30 : Jvm.Cond.selects "Knitstead" ⟨"Knitstead", "tellPattern", "(II)V"⟩ ⟨"Knitstead", "tellPattern", "(II)V"⟩ ∈ kTbl := kWp (q := (⟨"Knitstead", "tellPattern", "(II)V"⟩, _)) (List.mem_of_getElem? (i := 30) rfl) rfl
theorem ktp_31 : Jvm.Cond.selects "Knitstead" ⟨"Knitstead", "canDo", "(I)Z"⟩ ⟨"Knitstead", "canDo", "(I)Z"⟩ ∈ kTbl := kWp (q := (⟨"Knitstead", "canDo", "(I)Z"⟩, _)) (List.mem_of_getElem? (i := 31) rfl) rfl
theorem ktp_32 : Jvm.Cond.selects "Knitstead" ⟨"Knitstead", "signOf", "(I)C"⟩ ⟨"Knitstead", "signOf", "(I)C"⟩ ∈ kTbl := kWp (q := (⟨"Knitstead", "signOf", "(I)C"⟩, _)) (List.mem_of_getElem? (i := 32) rfl) rfl
theorem ktx_0 : Jvm.Cond.selects "java/lang/StringBuilder" ⟨"java/lang/AbstractStringBuilder", "ensureCapacityInternal", "(I)V"⟩ ⟨"java/lang/AbstractStringBuilder", "ensureCapacityInternal", "(I)V"⟩ ∈ kTbl := kWx (List.mem_of_getElem? (i := 0) rfl) rfl
theorem ktx_1 : Jvm.Cond.selects "java/lang/StringBuilder" ⟨"java/lang/AbstractStringBuilder", "newCapacity", "(I)I"⟩ ⟨"java/lang/AbstractStringBuilder", "newCapacity", "(I)I"⟩ ∈ kTbl := kWx (List.mem_of_getElem? (i := 1) rfl) rfl
