/-! ===== a property of its own: counting where loops are; what holds of the contents between calls ===== -/
def zCnt (P : Nat → Bool) : Nat → Nat
  | 0 => 0
  | n + 1 => zCnt P n + (if P n = true then 1 else 0)
/-- where a loop is, as a number -/
def zW (vl vr : List Int32) (rs : List (List Int32)) (bo : List Int32) (x : Int32) : Nat := if x ∈ openL rs then 4 else if x ∈ vl then 0 else if x ∈ vr then 1 else if x ∈ bo then 3 else 2
/-- how many of the first n are at each place -/
def zCw (vl vr : List Int32) (rs : List (List Int32)) (bo : List Int32) (n : Nat) : Nat → Int32 := fun k => Int32.ofNat (zCnt (fun i => decide (zW vl vr rs bo (Int32.ofNat i) = k)) n)
/-- what holds between the law's calls: two balls, one of them joined, five patterns -/
def QC (B R : Nat) (c : aC) : Prop := cOk c ∧ c.1 = 2 ∧ (∃ j : Nat, c.2.1 = Int32.ofNat j ∧ j < 2) ∧ c.2.2.2.2.1.length = 5 ∧ c.2.2.1.length ≤ 12000 ∧ c.2.2.2.1.length ≤ 12000 ∧ PJ B R c.2.2.1 c.2.2.2.1 c.2.2.2.2.2.1 c.2.2.2.2.2.2
section PD
variable {B R n k j i s m b nb : Nat} {P Q : Nat → Bool} {jo x : Int32} {lo lo' : List kLf} {bo bo' pa vl vr ya L : List Int32} {ps : List aS} {rs rs' : List (List Int32)} {sc : Nat → Int32} {st : aS} {T : Nat → Int32} {h : kHs}
theorem zCnt_le : ∀ n, zCnt P n ≤ n := by
  intro n
  induction n with
  | zero => exact Nat.le_refl _
  | succ n ih =>
    unfold zCnt
    split <;> omega
theorem zCnt_congr : ∀ n, (∀ i, i < n → P i = Q i) → zCnt P n = zCnt Q n := by
  intro n
  induction n with
  | zero => intro _; rfl
  | succ n ih =>
    intro h
    unfold zCnt
    rw [ih (fun i hi => h i (by omega)), h n (by omega)]
theorem zCnt_none : ∀ n, (∀ i, i < n → P i = false) → zCnt P n = 0 := by
  intro n
  induction n with
  | zero => intro _; rfl
  | succ n ih =>
    intro h
    unfold zCnt
    rw [ih (fun i hi => h i (by omega)), h n (by omega)]
    rfl
theorem zCnt_or : ∀ n, (∀ i, i < n → ¬ (P i = true ∧ Q i = true)) → zCnt (fun i => P i || Q i) n = zCnt P n + zCnt Q n := by
  intro n
  induction n with
  | zero => intro _; rfl
  | succ n ih =>
    intro h
    have e := ih (fun i hi => h i (by omega))
    have hn := h n (by omega)
    unfold zCnt
    rw [e]
    cases hp : P n with
    | false =>
      cases hq : Q n with
      | false => rfl
      | true => simp; omega
    | true =>
      cases hq : Q n with
      | false => simp; omega
      | true => exact absurd ⟨hp, hq⟩ hn
theorem zCnt_one : ∀ n, j < n → zCnt (fun i => decide (i = j)) n = 1 := by
  intro n
  induction n with
  | zero => intro h; exact absurd h (Nat.not_lt_zero _)
  | succ n ih =>
    intro h
    unfold zCnt
    by_cases e : n = j
    · subst e
      rw [zCnt_none n (fun i hi => decide_eq_false (by omega)), if_pos (decide_eq_true rfl)]
    · rw [ih (by omega), if_neg (by rw [decide_eq_true_eq]; exact e)]
theorem zCnt_mem (hn : n < 2 ^ 31) : ∀ L : List Int32, L.Nodup → (∀ v ∈ L, aId n v) → zCnt (fun i => decide (Int32.ofNat i ∈ L)) n = L.length := by
  intro L
  induction L with
  | nil =>
    intro _ _
    exact zCnt_none n fun i hi => decide_eq_false List.not_mem_nil
  | cons v L ih =>
    intro hd hi
    obtain ⟨hv, hd2⟩ := List.nodup_cons.mp hd
    obtain ⟨j, rfl, hj⟩ := hi v List.mem_cons_self
    have e1 : zCnt (fun i => decide (Int32.ofNat i ∈ Int32.ofNat j :: L)) n = zCnt (fun i => decide (i = j) || decide (Int32.ofNat i ∈ L)) n := by
      refine zCnt_congr n fun i hi => ?_
      rw [Bool.eq_iff_iff, Bool.or_eq_true, decide_eq_true_eq, decide_eq_true_eq, decide_eq_true_eq, List.mem_cons, i_eq (by omega) (by omega)]
    rw [e1, zCnt_or n (fun i hi h => ?_), zCnt_one n hj, ih hd2 (fun u hu => hi u (List.mem_cons_of_mem _ hu)), List.length_cons]
    · omega
    · rw [decide_eq_true_eq, decide_eq_true_eq] at h
      obtain ⟨rfl, h2⟩ := h
      exact hv h2
theorem zWhere_n : zWhere vl vr rs bo x = Int32.ofNat (zW vl vr rs bo x) := by
  unfold zWhere zW
  split
  · rfl
  · split
    · rfl
    · split
      · rfl
      · split <;> rfl
theorem zW_lt : zW vl vr rs bo x < 5 := by
  unfold zW
  split
  · decide
  · split
    · decide
    · split
      · decide
      · split <;> decide
theorem zCw_succ : kUp (zCw vl vr rs bo n) (zW vl vr rs bo (Int32.ofNat n)) (zCw vl vr rs bo n (zW vl vr rs bo (Int32.ofNat n)) + 1) = zCw vl vr rs bo (n + 1) := by
  funext k
  by_cases e : k = zW vl vr rs bo (Int32.ofNat n)
  · subst e
    rw [kUp_eq]
    unfold zCw
    rw [i_add1]
    show _ = Int32.ofNat (zCnt _ n + (if decide (zW vl vr rs bo (Int32.ofNat n) = zW vl vr rs bo (Int32.ofNat n)) = true then 1 else 0))
    rw [if_pos (decide_eq_true rfl)]
  · rw [kUp_ne e]
    unfold zCw
    show _ = Int32.ofNat (zCnt _ n + (if decide (zW vl vr rs bo (Int32.ofNat n) = k) = true then 1 else 0))
    rw [if_neg (by rw [decide_eq_true_eq]; exact fun z => e z.symm)]
    rfl
theorem INV.boId (I : INV nb jo lo bo pa ps (vl, vr, rs, ya, sc) T h) (hbo : bo.length < 2 ^ 31) (hlo : lo.length < 2 ^ 31) : ∀ v ∈ bo, aId lo.length v := by
  obtain ⟨o1, o2, o3, o4⟩ := I.2.2.2.1 _ (List.mem_append_right _ (List.mem_singleton.mpr rfl))
  have hb : sc 7 = Int32.ofNat bo.length := I.bnd
  have hm : sc 6 = Int32.ofNat lo.length := I.made
  dsimp only at o4
  rw [hb, i_nat hbo, List.take_of_length_le (Nat.le_refl _)] at o4
  intro v hv
  obtain ⟨i, rfl, g1, g2, g3, g4⟩ := o4 v hv
  dsimp only at g1
  rw [hm, i_nat hlo] at g1
  exact ⟨i, rfl, g1⟩
theorem pSt.len (h : pSt B R lo (vl, vr, rs, ya, sc)) (hm : sc 6 = Int32.ofNat lo.length) (hB : B ≤ 700) (hlo : lo.length < 2 ^ 31) : 2 * lo.length ≤ B := by
  obtain ⟨a, b, n, r, h1, h2, h3, h4, h5, h6, h7, h8⟩ := h
  dsimp only at h2
  have e := (i_eq (by omega) hlo).mp (h2.symm.trans hm)
  omega
theorem QC.len (Q : QC B R (nb, jo, lo, bo, pa, ps, (vl, vr, rs, ya, sc))) (I : INV nb jo lo bo pa ps (vl, vr, rs, ya, sc) T h) (hB : B ≤ 700) : lo.length ≤ 350 ∧ bo.length ≤ 350 := by
  obtain ⟨q1, q2, q3, q4, q5, q6, J⟩ := Q
  dsimp only at q5 q6 J
  have e := J.now.len I.made hB (by omega)
  have e2 := zCnt_mem (n := lo.length) (by omega) bo J.2.1 (I.boId (by omega) (by omega))
  have e3 := zCnt_le (P := fun i => decide (Int32.ofNat i ∈ bo)) lo.length
  omega
/-! the counts -/
theorem zW_iff (I : INV nb jo lo bo pa ps (vl, vr, rs, ya, sc) T h) (hbo : bo.length < 2 ^ 31) : (zW vl vr rs bo x = 4 ↔ x ∈ openL rs) ∧ (zW vl vr rs bo x = 0 ↔ x ∈ vl) ∧ (zW vl vr rs bo x = 1 ↔ x ∈ vr) ∧ (zW vl vr rs bo x = 3 ↔ x ∈ bo) := by
  have nd := I.nd
  have ap := I.apart hbo
  obtain ⟨d1, d2, d3⟩ := List.nodup_append.mp nd
  obtain ⟨d4, d5, d6⟩ := List.nodup_append.mp d1
  unfold zW
  by_cases g1 : x ∈ openL rs
  · have n1 : x ∉ vl := fun z => d3 x (List.mem_append_left _ z) x g1 rfl
    have n2 : x ∉ vr := fun z => d3 x (List.mem_append_right _ z) x g1 rfl
    have n3 : x ∉ bo := fun z => (ap x z).2.2 g1
    simp [g1, n1, n2, n3]
  · by_cases g2 : x ∈ vl
    · have n2 : x ∉ vr := fun z => d6 x g2 x z rfl
      have n3 : x ∉ bo := fun z => (ap x z).1 g2
      simp [g1, g2, n2, n3]
    · by_cases g3 : x ∈ vr
      · have n3 : x ∉ bo := fun z => (ap x z).2.1 g3
        simp [g1, g2, g3, n3]
      · by_cases g4 : x ∈ bo
        · simp [g1, g2, g3, g4]
        · simp [g1, g2, g3, g4]
theorem zCw_of (hn : n < 2 ^ 31) (hL : L.Nodup) (hi : ∀ v ∈ L, aId n v) (h : ∀ x, zW vl vr rs bo x = k ↔ x ∈ L) : zCw vl vr rs bo n k = Int32.ofNat L.length := by
  unfold zCw
  rw [← zCnt_mem hn L hL hi]
  refine congrArg Int32.ofNat (zCnt_congr n fun i hi => ?_)
  rw [Bool.eq_iff_iff, decide_eq_true_eq, decide_eq_true_eq]
  exact h _
theorem zCw_all (Q : QC B R (nb, jo, lo, bo, pa, ps, (vl, vr, rs, ya, sc))) (I : INV nb jo lo bo pa ps (vl, vr, rs, ya, sc) T h) : zCw vl vr rs bo lo.length 0 = Int32.ofNat vl.length ∧ zCw vl vr rs bo lo.length 1 = Int32.ofNat vr.length ∧ zCw vl vr rs bo lo.length 3 = Int32.ofNat bo.length ∧ zCw vl vr rs bo lo.length 4 = Int32.ofNat (openL rs).length := by
  obtain ⟨q1, q2, q3, q4, q5, q6, J⟩ := Q
  dsimp only at q5 q6 J
  have hbo : bo.length < 2 ^ 31 := by omega
  have hlo : lo.length < 2 ^ 31 := by omega
  obtain ⟨d1, d2, d3⟩ := List.nodup_append.mp I.nd
  obtain ⟨d4, d5, d6⟩ := List.nodup_append.mp d1
  have a := I.1.2.1
  refine ⟨zCw_of hlo d4 a.2.2.1 fun x => (zW_iff I hbo).2.1, zCw_of hlo d5 a.2.2.2.1 fun x => (zW_iff I hbo).2.2.1, zCw_of hlo J.2.1 (I.boId hbo hlo) fun x => (zW_iff I hbo).2.2.2, zCw_of hlo d2 (fun v hv => a.openId hv) fun x => (zW_iff I hbo).1⟩
theorem zOpn_len : ∀ (rs : List (List Int32)) (m : Nat), (∀ z ∈ rs, z.getD 3 0 = 0 ∨ z.getD 3 0 = 1) → rs.foldl (fun a z => a + z.getD 3 0) (Int32.ofNat m) = Int32.ofNat (m + (openL rs).length) := by
  intro rs
  induction rs with
  | nil => intro m _; rfl
  | cons z rs ih =>
    intro m h
    have ht := ih
    rw [List.foldl_cons, openL_cons]
    rcases h z List.mem_cons_self with e | e
    · rw [e, Int32.add_zero, if_neg (by decide)]
      exact ih m fun u hu => h u (List.mem_cons_of_mem _ hu)
    · rw [e, if_pos rfl, i_add1, ih (m + 1) (fun u hu => h u (List.mem_cons_of_mem _ hu)), List.length_cons]
      congr 1
      omega
theorem zSum_two {a b : Nat} : zSum [Int32.ofNat a, Int32.ofNat b, 0, 0] = Int32.ofNat (a + b) := by
  show 0 + Int32.ofNat a + Int32.ofNat b + 0 + 0 = _
  rw [Int32.zero_add, Int32.add_zero, Int32.add_zero, i_add]
end PD
