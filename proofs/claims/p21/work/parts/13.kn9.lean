/-! ===== the memory never shrinks ===== -/
def kGrow (mem mem' : kM) : Prop := mem.length ≤ mem'.length ∧ kSl mem ≤ kSl mem'
theorem kGrow_rf (mem : kM) : kGrow mem mem := ⟨Nat.le_refl _, Nat.le_refl _⟩
theorem kGrow_tr {a b c : kM} (h1 : kGrow a b) (h2 : kGrow b c) : kGrow a c := ⟨Nat.le_trans h1.1 h2.1, Nat.le_trans h1.2 h2.2⟩
theorem kGrow_app (mem : kM) (e : kE) : kGrow mem (mem ++ [e]) := ⟨by simp, by rw [kSl_app]; omega⟩
theorem kGrow_set {xm : Nat → Option kE} {mem : kM} {r : Nat} {e e' : kE} (hr : 1000 ≤ r) (hk : kLook xm mem r = some e) (hz : kSz e' = kSz e) : kGrow mem (mem.set (r - 1000) e') := by
  have h := (kLook_new (ext := fun _ => 0) (base := 0) hr hk).1
  exact ⟨by rw [List.length_set]; exact Nat.le_refl _, by rw [kSl_set mem _ _ _ h hz]; exact Nat.le_refl _⟩
section KMONO
variable {xm : Nat → Option kE} {sm : Nat → Option Value} {dfl : Nat → Option (List Value)} {fty : Nat → Nat → FieldType} {nL : Nat} {rt : Option FieldType}
variable {pc pc' : Nat} {lv lv' : kL} {st st' : List Value} {mem mem' : kM} {a b : Nat}
theorem km_nx {pc1 : Nat} {lv1 : kL} {st1 : List Value} (h : kNx pc1 lv1 st1 mem = some (.inl (pc', lv', st', mem'))) : kGrow mem mem' := by
  cases h
  exact kGrow_rf _
theorem km_nx2 {pc1 : Nat} {lv1 : kL} {st1 : List Value} {m2 : kM} (g : kGrow mem m2) (h : kNx pc1 lv1 st1 m2 = some (.inl (pc', lv', st', mem'))) : kGrow mem mem' := by
  cases h
  exact g
theorem km_unI {f : Int32 → Value} (h : kUnI st pc lv mem f = some (.inl (pc', lv', st', mem'))) : kGrow mem mem' := by
  obtain ⟨x, s1, -, h1⟩ := kTopI_some h
  exact km_nx h1
theorem km_binI {f : Int32 → Int32 → Option Value} (h : kBinI st pc lv mem f = some (.inl (pc', lv', st', mem'))) : kGrow mem mem' := by
  obtain ⟨y, s1, -, h1⟩ := kTopI_some h
  obtain ⟨x, s2, -, h2⟩ := kTopI_some h1
  split at h2
  · exact km_nx h2
  · cases h2
theorem km_load {i p1 : Nat} {ok : Value → Bool} (h : kLoad lv i p1 st mem ok = some (.inl (pc', lv', st', mem'))) : kGrow mem mem' := by
  unfold kLoad at h
  split at h
  · split at h
    · exact km_nx h
    · cases h
  · cases h
theorem km_sto1 {i p1 : Nat} {ok : Value → Bool} (h : kSto1 nL lv i p1 st mem ok = some (.inl (pc', lv', st', mem'))) : kGrow mem mem' := by
  unfold kSto1 at h
  split at h
  · split at h
    · exact km_nx h
    · cases h
  · cases h
theorem km_sto2 {i p1 : Nat} {ok : Value → Bool} (h : kSto2 nL lv i p1 st mem ok = some (.inl (pc', lv', st', mem'))) : kGrow mem mem' := by
  unfold kSto2 at h
  split at h
  · split at h
    · exact km_nx h
    · cases h
  · cases h
theorem km_spec {k : Nat} (h : kSpec xm k pc lv st mem = some (.inl (pc', lv', st', mem'))) : kGrow mem mem' := by
  unfold kSpec at h
  split at h
  · obtain ⟨x, s1, -, h1⟩ := kTopA_some h
    exact km_nx h1
  · split at h
    · split at h
      · rename_i hs hd
        split at h
        · rename_i hc
          simp only [Bool.and_eq_true, Bool.or_eq_true, beq_iff_eq, decide_eq_true_eq] at hc
          obtain ⟨⟨⟨⟨⟨g1, g2⟩, g3⟩, g4⟩, g5⟩, g6⟩ := hc
          obtain ⟨-, -, -, h4, h5⟩ := kOkR_ok g5
          exact km_nx2 (kGrow_set g4 hd (by simp [kSz, kCpy_len _ _ h4 h5])) h
        · cases h
      · rename_i hs hd
        split at h
        · rename_i hc
          simp only [Bool.and_eq_true, Bool.or_eq_true, beq_iff_eq, decide_eq_true_eq] at hc
          obtain ⟨⟨⟨⟨⟨g1, g2⟩, g3⟩, g4⟩, g5⟩, g6⟩ := hc
          obtain ⟨-, -, -, h4, h5⟩ := kOkR_ok g5
          exact km_nx2 (kGrow_set g4 hd (by simp [kSz, kCpy_len _ _ h4 h5])) h
        · cases h
      · cases h
    · cases h
  · obtain ⟨x, s1, -, h1⟩ := kTopA_some h
    split at h1
    · split at h1
      · exact km_nx2 (kGrow_app _ _) h1
      · cases h1
    · cases h1
  · obtain ⟨x, s1, -, h1⟩ := kTopA_some h
    split at h1
    · split at h1
      · exact km_nx2 (kGrow_app _ _) h1
      · cases h1
    · cases h1
  · obtain ⟨x, s1, -, h1⟩ := kTopA_some h
    split at h1
    · exact km_nx h1
    · cases h1
  · cases h
theorem km_call {k len : Nat} (h : kCall xm k b len pc lv st mem = some (.inl (pc', lv', st', mem'))) : kGrow mem mem' := by
  unfold kCall at h
  split at h
  · split at h
    · exact km_spec h
    · cases h
  · split at h
    · cases h
    · cases h
theorem km_step {ins : Instr} (h : kStep xm sm dfl fty nL rt ins a b pc lv st mem = some (.inl (pc', lv', st', mem'))) : kGrow mem mem' := by
  cases ins
  case iconst => exact km_nx h
  case bipush => exact km_nx h
  case sipush => exact km_nx h
  case aconst_null => exact km_nx h
  case ldc =>
    simp only [kStep] at h
    split at h
    · exact km_nx h
    · exact km_nx h
    · exact km_nx h
    · cases h
  case ldc_w =>
    simp only [kStep] at h
    split at h
    · exact km_nx h
    · exact km_nx h
    · cases h
  case ldc2_w =>
    simp only [kStep] at h
    split at h
    · exact km_nx h
    · exact km_nx h
    · cases h
  case iload_n => exact km_load h
  case iload => exact km_load h
  case lload_n => exact km_load h
  case lload => exact km_load h
  case dload => exact km_load h
  case fload_n => exact km_load h
  case dload_n => exact km_load h
  case aload_n => exact km_load h
  case aload => exact km_load h
  case istore_n => exact km_sto1 h
  case istore => exact km_sto1 h
  case fstore_n => exact km_sto1 h
  case astore_n => exact km_sto1 h
  case astore => exact km_sto1 h
  case lstore_n => exact km_sto2 h
  case lstore => exact km_sto2 h
  case dstore => exact km_sto2 h
  case iinc =>
    simp only [kStep] at h
    split at h
    · split at h
      · exact km_nx h
      · cases h
    · cases h
  case iadd =>
    simp only [kStep] at h
    exact km_binI h
  case isub =>
    simp only [kStep] at h
    exact km_binI h
  case imul =>
    simp only [kStep] at h
    exact km_binI h
  case iand =>
    simp only [kStep] at h
    exact km_binI h
  case ior =>
    simp only [kStep] at h
    exact km_binI h
  case ishl =>
    simp only [kStep] at h
    exact km_binI h
  case ishr =>
    simp only [kStep] at h
    exact km_binI h
  case ixor =>
    simp only [kStep] at h
    exact km_binI h
  case idiv =>
    simp only [kStep] at h
    exact km_binI h
  case irem =>
    simp only [kStep] at h
    exact km_binI h
  case ineg => exact km_unI h
  case i2l => exact km_unI h
  case i2b => exact km_unI h
  case i2c => exact km_unI h
  case i2f => exact km_unI h
  case i2d => exact km_unI h
  case ladd =>
    obtain ⟨y, s1, -, h1⟩ := kTopJ_some h
    obtain ⟨x, s2, -, h2⟩ := kTopJ_some h1
    exact km_nx h2
  case lmul =>
    obtain ⟨y, s1, -, h1⟩ := kTopJ_some h
    obtain ⟨x, s2, -, h2⟩ := kTopJ_some h1
    exact km_nx h2
  case lcmp =>
    obtain ⟨y, s1, -, h1⟩ := kTopJ_some h
    obtain ⟨x, s2, -, h2⟩ := kTopJ_some h1
    exact km_nx h2
  case dcmp =>
    obtain ⟨y, s1, -, h1⟩ := kTopD_some h
    obtain ⟨x, s2, -, h2⟩ := kTopD_some h1
    exact km_nx h2
  case fmul =>
    obtain ⟨y, s1, -, h1⟩ := kTopF_some h
    obtain ⟨x, s2, -, h2⟩ := kTopF_some h1
    split at h2
    · exact km_nx h2
    · cases h2
  case fsub =>
    obtain ⟨y, s1, -, h1⟩ := kTopF_some h
    obtain ⟨x, s2, -, h2⟩ := kTopF_some h1
    split at h2
    · exact km_nx h2
    · cases h2
  case f2l =>
    obtain ⟨x, s2, -, h2⟩ := kTopF_some h
    exact km_nx h2
  case f2d =>
    obtain ⟨x, s2, -, h2⟩ := kTopF_some h
    split at h2
    · exact km_nx h2
    · cases h2
  case ddiv =>
    obtain ⟨y, s1, -, h1⟩ := kTopD_some h
    obtain ⟨x, s2, -, h2⟩ := kTopD_some h1
    split at h2
    · exact km_nx h2
    · cases h2
  case dmul =>
    obtain ⟨y, s1, -, h1⟩ := kTopD_some h
    obtain ⟨x, s2, -, h2⟩ := kTopD_some h1
    split at h2
    · exact km_nx h2
    · cases h2
  case dsub =>
    obtain ⟨y, s1, -, h1⟩ := kTopD_some h
    obtain ⟨x, s2, -, h2⟩ := kTopD_some h1
    split at h2
    · exact km_nx h2
    · cases h2
  case dup =>
    simp only [kStep] at h
    obtain ⟨x, s2, -, -, h2⟩ := kTop1_some h
    exact km_nx h2
  case pop =>
    simp only [kStep] at h
    obtain ⟨x, s2, -, -, h2⟩ := kTop1_some h
    exact km_nx h2
  case pop2 =>
    simp only [kStep] at h
    split at h
    · exact km_nx h
    · exact km_nx h
    · cases h
  case dup_x1 =>
    simp only [kStep] at h
    obtain ⟨x, s2, -, -, h2⟩ := kTop1_some h
    obtain ⟨y, s3, -, -, h3⟩ := kTop1_some h2
    exact km_nx h3
  case dup2 =>
    simp only [kStep] at h
    obtain ⟨x, s2, -, -, h2⟩ := kTop1_some h
    obtain ⟨y, s3, -, -, h3⟩ := kTop1_some h2
    exact km_nx h3
  case goto => exact km_nx h
  case ifCond =>
    simp only [kStep] at h
    obtain ⟨x, s1, -, h1⟩ := kTopI_some h
    exact km_nx h1
  case if_icmp =>
    simp only [kStep] at h
    obtain ⟨x, s1, -, h1⟩ := kTopI_some h
    obtain ⟨y, s2, -, h2⟩ := kTopI_some h1
    exact km_nx h2
  case ifnull =>
    simp only [kStep] at h
    obtain ⟨x, s1, -, h1⟩ := kTopQ_some h
    exact km_nx h1
  case ifnonnull =>
    simp only [kStep] at h
    obtain ⟨x, s1, -, h1⟩ := kTopQ_some h
    exact km_nx h1
  case if_acmp =>
    simp only [kStep] at h
    obtain ⟨x, s1, -, h1⟩ := kTopQ_some h
    obtain ⟨y, s2, -, h2⟩ := kTopQ_some h1
    split at h2
    · exact km_nx h2
    · split at h2
      · exact km_nx h2
      · cases h2
  case tableswitch =>
    obtain ⟨x, s1, -, h1⟩ := kTopI_some h
    split at h1
    · exact km_nx h1
    · split at h1
      · exact km_nx h1
      · cases h1
  case getstatic =>
    simp only [kStep] at h
    split at h
    · exact km_nx h
    · cases h
  case getfield =>
    obtain ⟨x, s1, -, h1⟩ := kTopA_some h
    split at h1
    · split at h1
      · split at h1
        · exact km_nx h1
        · cases h1
      · cases h1
    · cases h1
  case putfield =>
    simp only [kStep] at h
    split at h
    · split at h
      · rename_i hk
        split at h
        · rename_i hc
          simp only [Bool.and_eq_true, beq_iff_eq, decide_eq_true_eq] at hc
          exact km_nx2 (kGrow_set hc.1.1.2 hk (by simp [kSz])) h
        · cases h
      · cases h
    · cases h
  case new =>
    simp only [kStep] at h
    split at h
    · split at h <;> cases h
    · split at h
      · exact km_nx2 (kGrow_app _ _) h
      · cases h
  case newarray =>
    obtain ⟨x, s1, -, h1⟩ := kTopI_some h
    split at h1
    · split at h1
      · exact km_nx2 (kGrow_app _ _) h1
      · cases h1
    · cases h1
  case anewarray =>
    obtain ⟨x, s1, -, h1⟩ := kTopI_some h
    split at h1
    · exact km_nx2 (kGrow_app _ _) h1
    · cases h1
  case arraylength =>
    obtain ⟨x, s1, -, h1⟩ := kTopA_some h
    split at h1
    · split at h1
      · exact km_nx h1
      · cases h1
    · split at h1
      · exact km_nx h1
      · cases h1
    · cases h1
  case iaload =>
    obtain ⟨x, s1, -, h1⟩ := kTopI_some h
    obtain ⟨y, s2, -, h2⟩ := kTopA_some h1
    split at h2
    · split at h2
      · exact km_nx h2
      · cases h2
    · cases h2
  case baload =>
    obtain ⟨x, s1, -, h1⟩ := kTopI_some h
    obtain ⟨y, s2, -, h2⟩ := kTopA_some h1
    split at h2
    · split at h2
      · exact km_nx h2
      · cases h2
    · cases h2
  case aaload =>
    obtain ⟨x, s1, -, h1⟩ := kTopI_some h
    obtain ⟨y, s2, -, h2⟩ := kTopA_some h1
    split at h2
    · split at h2
      · exact km_nx h2
      · cases h2
    · cases h2
  case iastore =>
    obtain ⟨x, s1, -, h1⟩ := kTopI_some h
    obtain ⟨y, s2, -, h2⟩ := kTopI_some h1
    obtain ⟨z, s3, -, h3⟩ := kTopA_some h2
    split at h3
    · rename_i hk
      split at h3
      · rename_i hc
        simp only [Bool.and_eq_true, decide_eq_true_eq] at hc
        exact km_nx2 (kGrow_set hc.2 hk (by simp [kSz])) h3
      · cases h3
    · cases h3
  case bastore =>
    obtain ⟨x, s1, -, h1⟩ := kTopI_some h
    obtain ⟨y, s2, -, h2⟩ := kTopI_some h1
    obtain ⟨z, s3, -, h3⟩ := kTopA_some h2
    split at h3
    · rename_i hk
      split at h3
      · rename_i hc
        simp only [Bool.and_eq_true, decide_eq_true_eq] at hc
        exact km_nx2 (kGrow_set hc.2 hk (by simp [kSz])) h3
      · cases h3
    · cases h3
  case aastore =>
    simp only [kStep] at h
    obtain ⟨x, s1, -, h1⟩ := kTopQ_some h
    obtain ⟨y, s2, -, h2⟩ := kTopI_some h1
    obtain ⟨z, s3, -, h3⟩ := kTopA_some h2
    split at h3
    · rename_i hk
      split at h3
      · rename_i hc
        simp only [Bool.and_eq_true, decide_eq_true_eq] at hc
        exact km_nx2 (kGrow_set hc.1.1.2 hk (by simp [kSz])) h3
      · cases h3
    · cases h3
  case checkcast =>
    simp only [kStep] at h
    split at h
    · exact km_nx h
    · split at h
      · split at h
        · exact km_nx h
        · cases h
      · split at h
        · exact km_nx h
        · cases h
      · split at h
        · exact km_nx h
        · cases h
      · cases h
    · cases h
  case invokevirtual => exact km_call h
  case invokespecial => exact km_call h
  case invokestatic => exact km_call h
  case invokeinterface => exact km_call h
  case ireturn =>
    simp only [kStep] at h
    split at h
    · split at h <;> cases h
    · cases h
  case lreturn =>
    simp only [kStep] at h
    split at h
    · split at h <;> cases h
    · cases h
  case freturn =>
    simp only [kStep] at h
    split at h
    · split at h <;> cases h
    · cases h
  case dreturn =>
    simp only [kStep] at h
    split at h
    · split at h <;> cases h
    · cases h
  case areturn =>
    simp only [kStep] at h
    split at h <;> cases h
  case return_ =>
    simp only [kStep] at h
    split at h
    · split at h <;> cases h
    · cases h
  all_goals cases h
end KMONO
section KNOEND
variable {xm : Nat → Option kE} {sm : Nat → Option Value} {dfl : Nat → Option (List Value)} {fty : Nat → Nat → FieldType} {nL : Nat} {rt : Option FieldType}
variable {pc pc' : Nat} {lv lv' : kL} {st st' : List Value} {mem mem' : kM} {a b : Nat} {z : kO × kM}
theorem kf_unI {f : Int32 → Value} (h : kUnI st pc lv mem f = some (.inr (.inl z))) : False := by
  obtain ⟨x, s1, -, h1⟩ := kTopI_some h
  cases h1
theorem kf_binI {f : Int32 → Int32 → Option Value} (h : kBinI st pc lv mem f = some (.inr (.inl z))) : False := by
  obtain ⟨y, s1, -, h1⟩ := kTopI_some h
  obtain ⟨x, s2, -, h2⟩ := kTopI_some h1
  split at h2
  · cases h2
  · cases h2
theorem kf_load {i p1 : Nat} {ok : Value → Bool} (h : kLoad lv i p1 st mem ok = some (.inr (.inl z))) : False := by
  unfold kLoad at h
  split at h
  · split at h
    · cases h
    · cases h
  · cases h
theorem kf_sto1 {i p1 : Nat} {ok : Value → Bool} (h : kSto1 nL lv i p1 st mem ok = some (.inr (.inl z))) : False := by
  unfold kSto1 at h
  split at h
  · split at h
    · cases h
    · cases h
  · cases h
theorem kf_sto2 {i p1 : Nat} {ok : Value → Bool} (h : kSto2 nL lv i p1 st mem ok = some (.inr (.inl z))) : False := by
  unfold kSto2 at h
  split at h
  · split at h
    · cases h
    · cases h
  · cases h
theorem kf_spec {k : Nat} (h : kSpec xm k pc lv st mem = some (.inr (.inl z))) : False := by
  unfold kSpec at h
  split at h
  · obtain ⟨x, s1, -, h1⟩ := kTopA_some h
    cases h1
  · split at h
    · split at h
      · rename_i hs hd
        split at h
        · rename_i hc
          simp only [Bool.and_eq_true, Bool.or_eq_true, beq_iff_eq, decide_eq_true_eq] at hc
          obtain ⟨⟨⟨⟨⟨g1, g2⟩, g3⟩, g4⟩, g5⟩, g6⟩ := hc
          obtain ⟨-, -, -, h4, h5⟩ := kOkR_ok g5
          cases h
        · cases h
      · rename_i hs hd
        split at h
        · rename_i hc
          simp only [Bool.and_eq_true, Bool.or_eq_true, beq_iff_eq, decide_eq_true_eq] at hc
          obtain ⟨⟨⟨⟨⟨g1, g2⟩, g3⟩, g4⟩, g5⟩, g6⟩ := hc
          obtain ⟨-, -, -, h4, h5⟩ := kOkR_ok g5
          cases h
        · cases h
      · cases h
    · cases h
  · obtain ⟨x, s1, -, h1⟩ := kTopA_some h
    split at h1
    · split at h1
      · cases h1
      · cases h1
    · cases h1
  · obtain ⟨x, s1, -, h1⟩ := kTopA_some h
    split at h1
    · split at h1
      · cases h1
      · cases h1
    · cases h1
  · obtain ⟨x, s1, -, h1⟩ := kTopA_some h
    split at h1
    · cases h1
    · cases h1
  · cases h
theorem kf_call {k len : Nat} (h : kCall xm k b len pc lv st mem = some (.inr (.inl z))) : False := by
  unfold kCall at h
  split at h
  · split at h
    · exact kf_spec h
    · cases h
  · split at h
    · cases h
    · cases h
theorem kf_step {ins : Instr} (hne : ins ≠ .ireturn ∧ ins ≠ .lreturn ∧ ins ≠ .freturn ∧ ins ≠ .dreturn ∧ ins ≠ .areturn ∧ ins ≠ .return_ ∧ ∀ i, ins ≠ .new i) (h : kStep xm sm dfl fty nL rt ins a b pc lv st mem = some (.inr (.inl z))) : False := by
  cases ins
  case iconst => cases h
  case bipush => cases h
  case sipush => cases h
  case aconst_null => cases h
  case ldc =>
    simp only [kStep] at h
    split at h
    · cases h
    · cases h
    · cases h
    · cases h
  case ldc_w =>
    simp only [kStep] at h
    split at h
    · cases h
    · cases h
    · cases h
  case ldc2_w =>
    simp only [kStep] at h
    split at h
    · cases h
    · cases h
    · cases h
  case iload_n => exact kf_load h
  case iload => exact kf_load h
  case lload_n => exact kf_load h
  case lload => exact kf_load h
  case dload => exact kf_load h
  case fload_n => exact kf_load h
  case dload_n => exact kf_load h
  case aload_n => exact kf_load h
  case aload => exact kf_load h
  case istore_n => exact kf_sto1 h
  case istore => exact kf_sto1 h
  case fstore_n => exact kf_sto1 h
  case astore_n => exact kf_sto1 h
  case astore => exact kf_sto1 h
  case lstore_n => exact kf_sto2 h
  case lstore => exact kf_sto2 h
  case dstore => exact kf_sto2 h
  case iinc =>
    simp only [kStep] at h
    split at h
    · split at h
      · cases h
      · cases h
    · cases h
  case iadd =>
    simp only [kStep] at h
    exact kf_binI h
  case isub =>
    simp only [kStep] at h
    exact kf_binI h
  case imul =>
    simp only [kStep] at h
    exact kf_binI h
  case iand =>
    simp only [kStep] at h
    exact kf_binI h
  case ior =>
    simp only [kStep] at h
    exact kf_binI h
  case ishl =>
    simp only [kStep] at h
    exact kf_binI h
  case ishr =>
    simp only [kStep] at h
    exact kf_binI h
  case ixor =>
    simp only [kStep] at h
    exact kf_binI h
  case idiv =>
    simp only [kStep] at h
    exact kf_binI h
  case irem =>
    simp only [kStep] at h
    exact kf_binI h
  case ineg => exact kf_unI h
  case i2l => exact kf_unI h
  case i2b => exact kf_unI h
  case i2c => exact kf_unI h
  case i2f => exact kf_unI h
  case i2d => exact kf_unI h
  case ladd =>
    obtain ⟨y, s1, -, h1⟩ := kTopJ_some h
    obtain ⟨x, s2, -, h2⟩ := kTopJ_some h1
    cases h2
  case lmul =>
    obtain ⟨y, s1, -, h1⟩ := kTopJ_some h
    obtain ⟨x, s2, -, h2⟩ := kTopJ_some h1
    cases h2
  case lcmp =>
    obtain ⟨y, s1, -, h1⟩ := kTopJ_some h
    obtain ⟨x, s2, -, h2⟩ := kTopJ_some h1
    cases h2
  case dcmp =>
    obtain ⟨y, s1, -, h1⟩ := kTopD_some h
    obtain ⟨x, s2, -, h2⟩ := kTopD_some h1
    cases h2
  case fmul =>
    obtain ⟨y, s1, -, h1⟩ := kTopF_some h
    obtain ⟨x, s2, -, h2⟩ := kTopF_some h1
    split at h2
    · cases h2
    · cases h2
  case fsub =>
    obtain ⟨y, s1, -, h1⟩ := kTopF_some h
    obtain ⟨x, s2, -, h2⟩ := kTopF_some h1
    split at h2
    · cases h2
    · cases h2
  case f2l =>
    obtain ⟨x, s2, -, h2⟩ := kTopF_some h
    cases h2
  case f2d =>
    obtain ⟨x, s2, -, h2⟩ := kTopF_some h
    split at h2
    · cases h2
    · cases h2
  case ddiv =>
    obtain ⟨y, s1, -, h1⟩ := kTopD_some h
    obtain ⟨x, s2, -, h2⟩ := kTopD_some h1
    split at h2
    · cases h2
    · cases h2
  case dmul =>
    obtain ⟨y, s1, -, h1⟩ := kTopD_some h
    obtain ⟨x, s2, -, h2⟩ := kTopD_some h1
    split at h2
    · cases h2
    · cases h2
  case dsub =>
    obtain ⟨y, s1, -, h1⟩ := kTopD_some h
    obtain ⟨x, s2, -, h2⟩ := kTopD_some h1
    split at h2
    · cases h2
    · cases h2
  case dup =>
    simp only [kStep] at h
    obtain ⟨x, s2, -, -, h2⟩ := kTop1_some h
    cases h2
  case pop =>
    simp only [kStep] at h
    obtain ⟨x, s2, -, -, h2⟩ := kTop1_some h
    cases h2
  case pop2 =>
    simp only [kStep] at h
    split at h
    · cases h
    · cases h
    · cases h
  case dup_x1 =>
    simp only [kStep] at h
    obtain ⟨x, s2, -, -, h2⟩ := kTop1_some h
    obtain ⟨y, s3, -, -, h3⟩ := kTop1_some h2
    cases h3
  case dup2 =>
    simp only [kStep] at h
    obtain ⟨x, s2, -, -, h2⟩ := kTop1_some h
    obtain ⟨y, s3, -, -, h3⟩ := kTop1_some h2
    cases h3
  case goto => cases h
  case ifCond =>
    simp only [kStep] at h
    obtain ⟨x, s1, -, h1⟩ := kTopI_some h
    cases h1
  case if_icmp =>
    simp only [kStep] at h
    obtain ⟨x, s1, -, h1⟩ := kTopI_some h
    obtain ⟨y, s2, -, h2⟩ := kTopI_some h1
    cases h2
  case ifnull =>
    simp only [kStep] at h
    obtain ⟨x, s1, -, h1⟩ := kTopQ_some h
    cases h1
  case ifnonnull =>
    simp only [kStep] at h
    obtain ⟨x, s1, -, h1⟩ := kTopQ_some h
    cases h1
  case if_acmp =>
    simp only [kStep] at h
    obtain ⟨x, s1, -, h1⟩ := kTopQ_some h
    obtain ⟨y, s2, -, h2⟩ := kTopQ_some h1
    split at h2
    · cases h2
    · split at h2
      · cases h2
      · cases h2
  case tableswitch =>
    obtain ⟨x, s1, -, h1⟩ := kTopI_some h
    split at h1
    · cases h1
    · split at h1
      · cases h1
      · cases h1
  case getstatic =>
    simp only [kStep] at h
    split at h
    · cases h
    · cases h
  case getfield =>
    obtain ⟨x, s1, -, h1⟩ := kTopA_some h
    split at h1
    · split at h1
      · split at h1
        · cases h1
        · cases h1
      · cases h1
    · cases h1
  case putfield =>
    simp only [kStep] at h
    split at h
    · split at h
      · rename_i hk
        split at h
        · rename_i hc
          simp only [Bool.and_eq_true, beq_iff_eq, decide_eq_true_eq] at hc
          cases h
        · cases h
      · cases h
    · cases h
  case new => simp at hne
  case newarray =>
    obtain ⟨x, s1, -, h1⟩ := kTopI_some h
    split at h1
    · split at h1
      · cases h1
      · cases h1
    · cases h1
  case anewarray =>
    obtain ⟨x, s1, -, h1⟩ := kTopI_some h
    split at h1
    · cases h1
    · cases h1
  case arraylength =>
    obtain ⟨x, s1, -, h1⟩ := kTopA_some h
    split at h1
    · split at h1
      · cases h1
      · cases h1
    · split at h1
      · cases h1
      · cases h1
    · cases h1
  case iaload =>
    obtain ⟨x, s1, -, h1⟩ := kTopI_some h
    obtain ⟨y, s2, -, h2⟩ := kTopA_some h1
    split at h2
    · split at h2
      · cases h2
      · cases h2
    · cases h2
  case baload =>
    obtain ⟨x, s1, -, h1⟩ := kTopI_some h
    obtain ⟨y, s2, -, h2⟩ := kTopA_some h1
    split at h2
    · split at h2
      · cases h2
      · cases h2
    · cases h2
  case aaload =>
    obtain ⟨x, s1, -, h1⟩ := kTopI_some h
    obtain ⟨y, s2, -, h2⟩ := kTopA_some h1
    split at h2
    · split at h2
      · cases h2
      · cases h2
    · cases h2
  case iastore =>
    obtain ⟨x, s1, -, h1⟩ := kTopI_some h
    obtain ⟨y, s2, -, h2⟩ := kTopI_some h1
    obtain ⟨z, s3, -, h3⟩ := kTopA_some h2
    split at h3
    · rename_i hk
      split at h3
      · rename_i hc
        simp only [Bool.and_eq_true, decide_eq_true_eq] at hc
        cases h3
      · cases h3
    · cases h3
  case bastore =>
    obtain ⟨x, s1, -, h1⟩ := kTopI_some h
    obtain ⟨y, s2, -, h2⟩ := kTopI_some h1
    obtain ⟨z, s3, -, h3⟩ := kTopA_some h2
    split at h3
    · rename_i hk
      split at h3
      · rename_i hc
        simp only [Bool.and_eq_true, decide_eq_true_eq] at hc
        cases h3
      · cases h3
    · cases h3
  case aastore =>
    simp only [kStep] at h
    obtain ⟨x, s1, -, h1⟩ := kTopQ_some h
    obtain ⟨y, s2, -, h2⟩ := kTopI_some h1
    obtain ⟨z, s3, -, h3⟩ := kTopA_some h2
    split at h3
    · rename_i hk
      split at h3
      · rename_i hc
        simp only [Bool.and_eq_true, decide_eq_true_eq] at hc
        cases h3
      · cases h3
    · cases h3
  case checkcast =>
    simp only [kStep] at h
    split at h
    · cases h
    · split at h
      · split at h
        · cases h
        · cases h
      · split at h
        · cases h
        · cases h
      · split at h
        · cases h
        · cases h
      · cases h
    · cases h
  case invokevirtual => exact kf_call h
  case invokespecial => exact kf_call h
  case invokestatic => exact kf_call h
  case invokeinterface => exact kf_call h
  case ireturn => simp at hne
  case lreturn => simp at hne
  case freturn => simp at hne
  case dreturn => simp at hne
  case areturn => simp at hne
  case return_ => simp at hne
  all_goals cases h
end KNOEND
