/-! ===== locals: what is read of them alone matters (other order, more of them) ===== -/
def lvS (lv lv' : kL) : Prop := (∀ q ∈ lv, q ∈ lv') ∧ (lv'.map (fun q => q.1)).Nodup
theorem kLv_mem2 {lv : kL} {i : Nat} {v : Value} (h : kLv lv i = some v) : (i, v) ∈ lv := by
  unfold kLv at h
  cases hf : lv.find? (fun q => q.1 == i) with
  | none => rw [hf] at h; cases h
  | some q =>
    rw [hf] at h
    have h1 := List.mem_of_find?_eq_some hf
    have h2 := List.find?_some hf
    obtain ⟨a, b⟩ := q
    simp only [beq_iff_eq] at h2
    cases h
    rw [← h2]
    exact h1
theorem kLv_of_mem2 : ∀ {lv : kL} {i : Nat} {v : Value}, (lv.map (fun q => q.1)).Nodup → (i, v) ∈ lv → kLv lv i = some v := by
  intro lv
  induction lv with
  | nil => intro i v _ h; cases h
  | cons q l ih =>
    intro i v hn hm
    rw [List.map_cons, List.nodup_cons] at hn
    unfold kLv
    rw [List.find?_cons]
    rcases List.mem_cons.mp hm with h | h
    · subst h
      simp
    · have : (q.1 == i) = false := by
        rw [beq_eq_false_iff_ne]
        intro e
        exact hn.1 (List.mem_map.mpr ⟨(i, v), h, e.symm⟩)
      rw [this]
      exact ih hn.2 h
theorem kLv_sub {lv lv' : kL} {i : Nat} {v : Value} (hs : lvS lv lv') (h : kLv lv i = some v) : kLv lv' i = some v := kLv_of_mem2 hs.2 (hs.1 _ (kLv_mem2 h))
theorem kNd_filter {lv : kL} (p : Nat × Value → Bool) (h : (lv.map (fun q => q.1)).Nodup) : ((lv.filter p).map (fun q => q.1)).Nodup := List.Nodup.sublist (List.Sublist.map _ List.filter_sublist) h
theorem lvS_put1 {lv lv' : kL} (i : Nat) (v : Value) (hs : lvS lv lv') : lvS (kPut1 lv i v) (kPut1 lv' i v) := by
  refine ⟨fun q hq => ?_, ?_⟩
  · rcases List.mem_cons.mp hq with h | h
    · exact List.mem_cons.mpr (Or.inl h)
    · obtain ⟨h1, h2⟩ := List.mem_filter.mp h
      exact List.mem_cons.mpr (Or.inr (List.mem_filter.mpr ⟨hs.1 _ h1, h2⟩))
  · unfold kPut1
    rw [List.map_cons, List.nodup_cons]
    refine ⟨fun h => ?_, kNd_filter _ hs.2⟩
    obtain ⟨q, h1, h2⟩ := List.mem_map.mp h
    have := (List.mem_filter.mp h1).2
    simp [h2] at this
theorem lvS_put2 {lv lv' : kL} (i : Nat) (v : Value) (hs : lvS lv lv') : lvS (kPut2 lv i v) (kPut2 lv' i v) := by
  refine ⟨fun q hq => ?_, ?_⟩
  · rcases List.mem_cons.mp hq with h | h
    · exact List.mem_cons.mpr (Or.inl h)
    · obtain ⟨h1, h2⟩ := List.mem_filter.mp h
      exact List.mem_cons.mpr (Or.inr (List.mem_filter.mpr ⟨hs.1 _ h1, h2⟩))
  · unfold kPut2
    rw [List.map_cons, List.nodup_cons]
    refine ⟨fun h => ?_, kNd_filter _ hs.2⟩
    obtain ⟨q, h1, h2⟩ := List.mem_map.mp h
    have := (List.mem_filter.mp h1).2
    simp [h2] at this
def kRel : kR → kR → Prop
  | .inl (a, b, c, d), .inl (a', b', c', d') => a = a' ∧ lvS b b' ∧ c = c' ∧ d = d'
  | .inr u, .inr v => u = v
  | _, _ => False
/-- what a function of the locals answers, it answers with more locals too -/
def kUn (lv lv' : kL) (x y : Option kR) : Prop := ∀ r, x = some r → ∃ r', y = some r' ∧ kRel r r'
theorem kUn_none {lv lv' : kL} (y : Option kR) : kUn lv lv' none y := fun r h => by cases h
theorem kUn_nx {lv lv' : kL} (hs : lvS lv lv') (pc : Nat) (st : List Value) (mem : kM) : kUn lv lv' (kNx pc lv st mem) (kNx pc lv' st mem) := by
  intro r h
  cases h
  exact ⟨_, rfl, rfl, hs, rfl, rfl⟩
theorem kUn_r {lv lv' : kL} (u : (kO × kM) ⊕ (Nat × List Value × List Value × Nat)) : kUn lv lv' (some (.inr u)) (some (.inr u)) := by
  intro r h
  cases h
  exact ⟨_, rfl, rfl⟩
theorem kUn_same {lv lv' : kL} {x : Option kR} (h : ∀ a, x ≠ some (.inl a)) : kUn lv lv' x x := by
  intro r e
  cases r with
  | inl a => exact absurd e (h a)
  | inr u => exact ⟨_, e, rfl⟩
theorem kUn_I {lv lv' : kL} (st : List Value) {f g : Int32 → List Value → Option kR} (h : ∀ x s, kUn lv lv' (f x s) (g x s)) : kUn lv lv' (kTopI st f) (kTopI st g) := by
  unfold kTopI
  split
  · exact h _ _
  · exact kUn_none _
theorem kUn_J {lv lv' : kL} (st : List Value) {f g : Int64 → List Value → Option kR} (h : ∀ x s, kUn lv lv' (f x s) (g x s)) : kUn lv lv' (kTopJ st f) (kTopJ st g) := by
  unfold kTopJ
  split
  · exact h _ _
  · exact kUn_none _
theorem kUn_F {lv lv' : kL} (st : List Value) {f g : UInt32 → List Value → Option kR} (h : ∀ x s, kUn lv lv' (f x s) (g x s)) : kUn lv lv' (kTopF st f) (kTopF st g) := by
  unfold kTopF
  split
  · exact h _ _
  · exact kUn_none _
theorem kUn_D {lv lv' : kL} (st : List Value) {f g : UInt64 → List Value → Option kR} (h : ∀ x s, kUn lv lv' (f x s) (g x s)) : kUn lv lv' (kTopD st f) (kTopD st g) := by
  unfold kTopD
  split
  · exact h _ _
  · exact kUn_none _
theorem kUn_A {lv lv' : kL} (st : List Value) {f g : Nat → List Value → Option kR} (h : ∀ x s, kUn lv lv' (f x s) (g x s)) : kUn lv lv' (kTopA st f) (kTopA st g) := by
  unfold kTopA
  split
  · exact h _ _
  · exact kUn_none _
theorem kUn_Q {lv lv' : kL} (st : List Value) {f g : Option Nat → List Value → Option kR} (h : ∀ x s, kUn lv lv' (f x s) (g x s)) : kUn lv lv' (kTopQ st f) (kTopQ st g) := by
  unfold kTopQ
  split
  · exact h _ _
  · exact h _ _
  · exact kUn_none _
theorem kUn_1 {lv lv' : kL} (st : List Value) {f g : Value → List Value → Option kR} (h : ∀ x s, kUn lv lv' (f x s) (g x s)) : kUn lv lv' (kTop1 st f) (kTop1 st g) := by
  unfold kTop1
  split
  · split
    · exact h _ _
    · exact kUn_none _
  · exact kUn_none _
theorem kUn_if {lv lv' : kL} {c : Prop} [Decidable c] {a b a' b' : Option kR} (h1 : kUn lv lv' a a') (h2 : kUn lv lv' b b') : kUn lv lv' (if c then a else b) (if c then a' else b') := by
  split
  · exact h1
  · exact h2
theorem kUn_load {lv lv' : kL} (hs : lvS lv lv') (i pc : Nat) (st : List Value) (mem : kM) (ok : Value → Bool) : kUn lv lv' (kLoad lv i pc st mem ok) (kLoad lv' i pc st mem ok) := by
  unfold kLoad
  cases h : kLv lv i with
  | none => exact kUn_none _
  | some v =>
    rw [kLv_sub hs h]
    exact kUn_if (kUn_nx hs _ _ _) (kUn_none _)
theorem kUn_sto1 {lv lv' : kL} (hs : lvS lv lv') (nL i pc : Nat) (st : List Value) (mem : kM) (ok : Value → Bool) : kUn lv lv' (kSto1 nL lv i pc st mem ok) (kSto1 nL lv' i pc st mem ok) := by
  unfold kSto1
  split
  · rename_i v s
    refine kUn_if (fun r h => ?_) (kUn_none _)
    cases h
    exact ⟨_, rfl, rfl, lvS_put1 i v hs, rfl, rfl⟩
  · exact kUn_none _
theorem kUn_sto2 {lv lv' : kL} (hs : lvS lv lv') (nL i pc : Nat) (st : List Value) (mem : kM) (ok : Value → Bool) : kUn lv lv' (kSto2 nL lv i pc st mem ok) (kSto2 nL lv' i pc st mem ok) := by
  unfold kSto2
  split
  · rename_i v s
    refine kUn_if (fun r h => ?_) (kUn_none _)
    cases h
    exact ⟨_, rfl, rfl, lvS_put2 i v hs, rfl, rfl⟩
  · exact kUn_none _
theorem kUn_bin {lv lv' : kL} (hs : lvS lv lv') (st : List Value) (pc : Nat) (mem : kM) (f : Int32 → Int32 → Option Value) : kUn lv lv' (kBinI st pc lv mem f) (kBinI st pc lv' mem f) := by
  unfold kBinI
  refine kUn_I _ fun y s => kUn_I _ fun x s => ?_
  split
  · exact kUn_nx hs _ _ _
  · exact kUn_none _
theorem kUn_un {lv lv' : kL} (hs : lvS lv lv') (st : List Value) (pc : Nat) (mem : kM) (f : Int32 → Value) : kUn lv lv' (kUnI st pc lv mem f) (kUnI st pc lv' mem f) := kUn_I _ fun x s => kUn_nx hs _ _ _
theorem kUn_spec {xm : Nat → Option kE} {lv lv' : kL} (hs : lvS lv lv') (k pc : Nat) (st : List Value) (mem : kM) : kUn lv lv' (kSpec xm k pc lv st mem) (kSpec xm k pc lv' st mem) := by
  unfold kSpec
  split
  · exact kUn_A _ fun _ _ => kUn_nx hs _ _ _
  · split
    · split
      · exact kUn_if (kUn_nx hs _ _ _) (kUn_none _)
      · exact kUn_if (kUn_nx hs _ _ _) (kUn_none _)
      · exact kUn_none _
    · exact kUn_none _
  · refine kUn_A _ fun _ _ => ?_
    split
    · exact kUn_if (kUn_nx hs _ _ _) (kUn_none _)
    · exact kUn_none _
  · refine kUn_A _ fun _ _ => ?_
    split
    · exact kUn_if (kUn_nx hs _ _ _) (kUn_none _)
    · exact kUn_none _
  · refine kUn_A _ fun _ _ => ?_
    split
    · exact kUn_nx hs _ _ _
    · exact kUn_none _
  · exact kUn_none _
theorem kUn_call {xm : Nat → Option kE} {lv lv' : kL} (hs : lvS lv lv') (k b len pc : Nat) (st : List Value) (mem : kM) : kUn lv lv' (kCall xm k b len pc lv st mem) (kCall xm k b len pc lv' st mem) := by
  unfold kCall
  exact kUn_if (kUn_if (kUn_spec hs _ _ _ _) (kUn_none _)) (kUn_if (kUn_r _) (kUn_none _))
theorem kStep_sub {xm : Nat → Option kE} {sm : Nat → Option Value} {dfl : Nat → Option (List Value)} {fty : Nat → Nat → FieldType} {nL : Nat} {rt : Option FieldType} {ins : Instr} {a b pc : Nat} {lv lv' : kL} {st : List Value} {mem : kM} (hs : lvS lv lv') : kUn lv lv' (kStep xm sm dfl fty nL rt ins a b pc lv st mem) (kStep xm sm dfl fty nL rt ins a b pc lv' st mem) := by
  cases ins
  all_goals first
    | exact kUn_none _
    | exact kUn_nx hs _ _ _
    | exact kUn_load hs _ _ _ _ _
    | exact kUn_sto1 hs _ _ _ _ _ _
    | exact kUn_sto2 hs _ _ _ _ _ _
    | exact kUn_bin hs _ _ _ _
    | exact kUn_un hs _ _ _ _
    | exact kUn_call hs _ _ _ _ _ _
    | exact kUn_I _ fun _ _ => kUn_nx hs _ _ _
    | exact kUn_I _ fun _ _ => kUn_I _ fun _ _ => kUn_nx hs _ _ _
    | exact kUn_J _ fun _ _ => kUn_J _ fun _ _ => kUn_nx hs _ _ _
    | exact kUn_F _ fun _ _ => kUn_F _ fun _ _ => kUn_if (kUn_nx hs _ _ _) (kUn_none _)
    | exact kUn_F _ fun _ _ => kUn_nx hs _ _ _
    | exact kUn_F _ fun _ _ => kUn_if (kUn_nx hs _ _ _) (kUn_none _)
    | exact kUn_D _ fun _ _ => kUn_D _ fun _ _ => kUn_if (kUn_nx hs _ _ _) (kUn_none _)
    | exact kUn_D _ fun _ _ => kUn_D _ fun _ _ => kUn_nx hs _ _ _
    | exact kUn_1 _ fun _ _ => kUn_nx hs _ _ _
    | exact kUn_1 _ fun _ _ => kUn_1 _ fun _ _ => kUn_nx hs _ _ _
    | exact kUn_Q _ fun _ _ => kUn_nx hs _ _ _
    | exact kUn_Q _ fun _ _ => kUn_Q _ fun _ _ => kUn_if (kUn_nx hs _ _ _) (kUn_if (kUn_nx hs _ _ _) (kUn_none _))
    | exact kUn_I _ fun _ _ => kUn_if (kUn_nx hs _ _ _) (kUn_none _)
    | skip
  case iinc i n =>
    show kUn lv lv' (match kLv lv i with | some (.int x) => if i < nL then kNx (pc + 3) (kPut1 lv i (.int (x + Int32.ofInt n))) st mem else none | _ => none) (match kLv lv' i with | some (.int x) => if i < nL then kNx (pc + 3) (kPut1 lv' i (.int (x + Int32.ofInt n))) st mem else none | _ => none)
    cases h : kLv lv i with
    | none => exact kUn_none _
    | some v =>
      rw [kLv_sub hs h]
      cases v with
      | int x =>
        refine kUn_if (fun r h => ?_) (kUn_none _)
        cases h
        exact ⟨_, rfl, rfl, lvS_put1 i _ hs, rfl, rfl⟩
      | _ => exact kUn_none _
  case ifnull o =>
    show kUn lv lv' (kTopQ st fun q st => kNx (if q.isNone then a else pc + 3) lv st mem) (kTopQ st fun q st => kNx (if q.isNone then a else pc + 3) lv' st mem)
    refine kUn_Q _ (fun q s => ?_)
    exact kUn_nx hs _ _ _
  case ifnonnull o =>
    show kUn lv lv' (kTopQ st fun q st => kNx (if q.isNone then pc + 3 else a) lv st mem) (kTopQ st fun q st => kNx (if q.isNone then pc + 3 else a) lv' st mem)
    refine kUn_Q _ (fun q s => ?_)
    exact kUn_nx hs _ _ _
  case if_acmp c o =>
    show kUn lv lv' (kTopQ st fun y st => kTopQ st fun x st => if x == y then kNx (match c with | .eq => a | .ne => pc + 3) lv st mem else if kNm x y then kNx (match c with | .eq => pc + 3 | .ne => a) lv st mem else none) (kTopQ st fun y st => kTopQ st fun x st => if x == y then kNx (match c with | .eq => a | .ne => pc + 3) lv' st mem else if kNm x y then kNx (match c with | .eq => pc + 3 | .ne => a) lv' st mem else none)
    refine kUn_Q _ (fun q s => kUn_Q _ (fun q' s' => ?_))
    exact kUn_if (kUn_nx hs _ _ _) (kUn_if (kUn_nx hs _ _ _) (kUn_none _))
  all_goals (unfold kStep; dsimp only)
  all_goals (first | refine kUn_I _ fun _ _ => kUn_I _ fun _ _ => kUn_A _ fun _ _ => ?_ | refine kUn_I _ fun _ _ => kUn_A _ fun _ _ => ?_ | refine kUn_Q _ fun _ _ => kUn_I _ fun _ _ => kUn_A _ fun _ _ => ?_ | refine kUn_I _ fun _ _ => ?_ | refine kUn_A _ fun _ _ => ?_ | skip)
  all_goals (repeat' split)
  all_goals first
    | exact kUn_none _
    | exact kUn_nx hs _ _ _
    | exact kUn_r _
    | skip
theorem kLoop_sub {xm : Nat → Option kE} {sm : Nat → Option Value} {dfl : Nat → Option (List Value)} {fty : Nat → Nat → FieldType} {G : kT} {call : Nat → List Value → kM → Option (kO × kM)} {mi : Nat} : ∀ (f pc : Nat) (lv lv' : kL) (st : List Value) (mem : kM) (r : kO × kM), lvS lv lv' → kLoop xm sm dfl fty G call mi f pc lv st mem = some r → kLoop xm sm dfl fty G call mi f pc lv' st mem = some r := by
  intro f
  induction f with
  | zero => intro pc lv lv' st mem r _ h; cases h
  | succ f ih =>
    intro pc lv lv' st mem r hs h
    rw [kLoop] at h ⊢
    cases hG : G.1 mi pc with
    | none => rw [hG] at h; cases h
    | some x =>
      obtain ⟨ins, a, b⟩ := x
      rw [hG] at h
      dsimp only at h ⊢
      cases hq : kStep xm sm dfl fty (G.2.1 mi) (G.2.2.1 mi) ins a b pc lv st mem with
      | none => rw [hq] at h; cases h
      | some q =>
        rw [hq] at h
        obtain ⟨q', e, hr⟩ := kStep_sub hs _ hq
        rw [e]
        rcases q with ⟨pc1, lv1, st1, mem1⟩ | u
        · rcases q' with ⟨pc2, lv2, st2, mem2⟩ | u'
          · obtain ⟨rfl, h2, rfl, rfl⟩ := hr
            exact ih _ _ _ _ _ _ h2 h
          · cases hr
        · rcases q' with ⟨pc2, lv2, st2, mem2⟩ | u'
          · cases hr
          · have hr : u = u' := hr
            subst hr
            rcases u with u | ⟨y, args, rest, len⟩
            · exact h
            · dsimp only at h ⊢
              cases hc : call y args mem with
              | none => rw [hc] at h; cases h
              | some z =>
                rw [hc] at h
                obtain ⟨o | E, m1⟩ := z
                · exact ih _ _ _ _ _ _ hs h
                · dsimp only at h ⊢
                  cases hh : G.2.2.2 mi pc E with
                  | none => rw [hh] at h; cases h
                  | some w =>
                    rw [hh] at h
                    exact ih _ _ _ _ _ _ ⟨fun q hq => (by obtain ⟨h1, h2⟩ := List.mem_filter.mp hq; exact List.mem_filter.mpr ⟨hs.1 _ h1, h2⟩), kNd_filter _ hs.2⟩ h
theorem kGo_sub {xm : Nat → Option kE} {sm : Nat → Option Value} {dfl : Nat → Option (List Value)} {fty : Nat → Nat → FieldType} {G : kT} {d mi pc : Nat} {lv lv' : kL} {st : List Value} {mem : kM} {P : kO → kM → Prop} (hs : lvS lv lv') (h : kGo xm sm dfl fty G d mi pc lv st mem P) : kGo xm sm dfl fty G d mi pc lv' st mem P := by
  obtain ⟨F, f, o, m1, h, hP⟩ := h
  exact ⟨F, f, o, m1, kLoop_sub f pc lv lv' st mem _ hs h, hP⟩
theorem lvS_of {lv lv' : kL} (is : List Nat) (h1 : is.filterMap (fun i => lv'[i]?) = lv) (ks : List Nat) (h2 : lv'.map (fun q => q.1) = ks) (h3 : ks.Nodup) : lvS lv lv' := by
  refine ⟨fun q hq => ?_, by rw [h2]; exact h3⟩
  rw [← h1] at hq
  obtain ⟨i, -, hi⟩ := List.mem_filterMap.mp hq
  exact List.mem_of_getElem? hi
