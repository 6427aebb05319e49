/-! ===== what is owned of the memory: a list of addresses and cells; the rest of it is a frame ===== -/
theorem i_toI {a : Nat} (h : a < 2 ^ 31) : (Int32.ofNat a).toInt = a := Int32.toInt_ofNat_of_lt h
theorem i_lt {a b : Nat} (ha : a < 2 ^ 31) (hb : b < 2 ^ 31) : (Int32.ofNat a < Int32.ofNat b) ↔ a < b := by
  rw [Int32.lt_iff_toInt_lt, i_toI ha, i_toI hb]; omega
theorem i_eq {a b : Nat} (ha : a < 2 ^ 31) (hb : b < 2 ^ 31) : (Int32.ofNat a = Int32.ofNat b) ↔ a = b := by
  rw [← Int32.toInt_inj, i_toI ha, i_toI hb]; omega
theorem i_add {a b : Nat} : Int32.ofNat a + Int32.ofNat b = Int32.ofNat (a + b) := (Int32.ofNat_add a b).symm
theorem i_add1 {a : Nat} : Int32.ofNat a + 1 = Int32.ofNat (a + 1) := i_add (b := 1)
theorem i_sub {a b : Nat} (h : b ≤ a) : Int32.ofNat a - Int32.ofNat b = Int32.ofNat (a - b) := by
  have : Int32.ofNat a = Int32.ofNat (a - b) + Int32.ofNat b := by rw [i_add, Nat.sub_add_cancel h]
  rw [this, Int32.add_sub_cancel]
theorem i_sub1 {a : Nat} (h : 1 ≤ a) : Int32.ofNat a - 1 = Int32.ofNat (a - 1) := i_sub (b := 1) h
theorem i_nat {a : Nat} (h : a < 2 ^ 31) : (Int32.ofNat a).toNatClampNeg = a := by
  unfold Int32.toNatClampNeg
  rw [i_toI h]
  simp
theorem i_nn {a : Nat} (h : a < 2 ^ 31) : ¬ Int32.ofNat a < 0 := by
  rw [Int32.lt_iff_toInt_lt, i_toI h]
  have : (0 : Int32).toInt = 0 := by decide
  omega
theorem i_of {x : Int32} (h : 0 ≤ x) : x = Int32.ofNat x.toNatClampNeg ∧ x.toNatClampNeg < 2 ^ 31 := by
  have h0 : 0 ≤ x.toInt := by
    have := Int32.le_iff_toInt_le.mp h
    have e : (0 : Int32).toInt = 0 := by decide
    omega
  have h1 : x.toInt < 2 ^ 31 := Int32.toInt_lt x
  have h2 : x.toNatClampNeg < 2 ^ 31 := by unfold Int32.toNatClampNeg; omega
  refine ⟨?_, h2⟩
  rw [← Int32.toInt_inj, i_toI h2]
  unfold Int32.toNatClampNeg
  omega
theorem i_inB {i n : Nat} (h : i < n) (hn : n < 2 ^ 31) : kInB (Int32.ofNat i) n = true := by
  unfold kInB
  rw [i_nat (by omega)]
  simp [i_nn (show i < 2 ^ 31 by omega), h]
def Hp (L : List (Nat × kE)) (mem : kM) : Prop := (L.map (fun q => q.1)).Nodup ∧ ∀ q ∈ L, 1000 ≤ q.1 ∧ mem[q.1 - 1000]? = some q.2
def kSh : kE → Nat × Nat
  | .inl (c, _) => (0, c)
  | .inr (.inl (t, _)) => (1, t)
  | .inr (.inr (t, _)) => (2, t)
/-- what any method keeps: the immutable objects (numbers, loops), the classes of all, and how much room it took -/
def St (xm : Nat → Option kE) (m m1 : kM) (c s : Nat) : Prop := m.length ≤ m1.length ∧ m1.length ≤ m.length + c ∧ kSl m1 ≤ kSl m + s ∧ (∀ a ci fs, ci = 2 ∨ ci = 13 → kLook xm m a = some (.inl (ci, fs)) → kLook xm m1 a = some (.inl (ci, fs))) ∧ ∀ a e, kLook xm m a = some e → ∃ e', kLook xm m1 a = some e' ∧ kSh e' = kSh e
section HP
variable {xm : Nat → Option kE} {mem : kM} {L L' F : List (Nat × kE)}
theorem St.refl : St xm mem mem 0 0 := ⟨Nat.le_refl _, Nat.le_refl _, Nat.le_refl _, fun _ _ _ _ h => h, fun _ e h => ⟨e, h, rfl⟩⟩
theorem St.trans {m m1 m2 : kM} {c s c1 s1 : Nat} (h : St xm m m1 c s) (k : St xm m1 m2 c1 s1) : St xm m m2 (c + c1) (s + s1) := by
  obtain ⟨a1, a2, a3, a4, a5⟩ := h
  obtain ⟨b1, b2, b3, b4, b5⟩ := k
  refine ⟨by omega, by omega, by omega, fun a ci fs hc h => b4 a ci fs hc (a4 a ci fs hc h), fun a e h => ?_⟩
  obtain ⟨e1, h1, h2⟩ := a5 a e h
  obtain ⟨e2, h3, h4⟩ := b5 a e1 h1
  exact ⟨e2, h3, h4.trans h2⟩
theorem St.mono {m m1 : kM} {c s c1 s1 : Nat} (h : St xm m m1 c s) (hc : c ≤ c1) (hs : s ≤ s1) : St xm m m1 c1 s1 := by
  obtain ⟨a1, a2, a3, a4, a5⟩ := h
  exact ⟨by omega, by omega, by omega, a4, a5⟩
theorem kLook_hi {a : Nat} (h : 1000 ≤ a) : kLook xm mem a = mem[a - 1000]? := by
  unfold kLook
  rw [if_neg (by omega)]
theorem St.set {a : Nat} {e e' : kE} (ha : 1000 ≤ a) (h : mem[a - 1000]? = some e) (hsz : kSz e' = kSz e) (hsh : kSh e' = kSh e) (hne : ∀ ci fs, ci = 2 ∨ ci = 13 → e ≠ .inl (ci, fs)) : St xm mem (mem.set (a - 1000) e') 0 0 := by
  refine ⟨by simp, by simp, by rw [kSl_set mem _ _ _ h hsz]; omega, fun b ci fs hc hb => ?_, fun b d hb => ?_⟩
  · rw [kLook_set]
    split
    · rename_i g
      exfalso
      have : b = a := by omega
      subst this
      rw [kLook_hi ha, h] at hb
      exact hne ci fs hc (Option.some.inj hb)
    · exact hb
  · rw [kLook_set]
    split
    · rename_i g
      have : b = a := by omega
      subst this
      rw [kLook_hi ha, h] at hb
      cases hb
      exact ⟨e', rfl, hsh⟩
    · exact ⟨d, hb, rfl⟩
theorem kLook_app2 {e : kE} {b : Nat} {d : kE} (hb : kLook xm mem b = some d) : kLook xm (mem ++ [e]) b = some d := by
  unfold kLook at hb ⊢
  split
  · rename_i g; rw [if_pos g] at hb; exact hb
  · rename_i g
    rw [if_neg g] at hb
    rw [List.getElem?_append_left (List.getElem?_eq_some_iff.mp hb).1]
    exact hb
theorem St.new (e : kE) : St xm mem (mem ++ [e]) 1 (kSz e) := ⟨by simp, by simp, by rw [kSl_app]; omega, fun b ci fs _ hb => kLook_app2 hb, fun b d hb => ⟨d, kLook_app2 hb, rfl⟩⟩
theorem St.ok {m1 : kM} {c s t : Nat} {v : Option Nat} (h : St xm mem m1 c s) (k : kStOk xm mem t v = true) : kStOk xm m1 t v = true := by
  cases v with
  | none => rfl
  | some r =>
    unfold kStOk at k ⊢
    cases hk : kLook xm mem r with
    | none => simp [hk] at k
    | some e =>
      obtain ⟨e1, h1, h2⟩ := h.2.2.2.2 r e hk
      simp only [hk] at k
      simp only [h1]
      rcases e with ⟨c, fs⟩ | ⟨ta, ys⟩ | ⟨ta, qs⟩
      · rcases e1 with ⟨c', fs'⟩ | z | z
        · have h3 : c' = c := congrArg (fun q => q.2) h2
          subst h3
          exact k
        · exact absurd (congrArg (fun q => q.1) h2) (by show ¬ (1 = 0); decide)
        · exact absurd (congrArg (fun q => q.1) h2) (by show ¬ (2 = 0); decide)
      · rcases e1 with z | ⟨c', fs'⟩ | z
        · exact absurd (congrArg (fun q => q.1) h2) (by show ¬ (0 = 1); decide)
        · have h3 : c' = ta := congrArg (fun q => q.2) h2
          subst h3
          revert k
          cases c' with
          | zero => exact id
          | succ n => exact id
        · exact absurd (congrArg (fun q => q.1) h2) (by show ¬ (2 = 1); decide)
      · rcases e1 with z | z | ⟨c', fs'⟩
        · exact absurd (congrArg (fun q => q.1) h2) (by show ¬ (0 = 2); decide)
        · exact absurd (congrArg (fun q => q.1) h2) (by show ¬ (1 = 2); decide)
        · exact k
theorem Hp.perm (h : Hp L mem) (p : L.Perm L') : Hp L' mem := ⟨(p.map (fun q => q.1)).nodup_iff.mp h.1, fun q hq => h.2 q (p.mem_iff.mpr hq)⟩
theorem Hp.look {a : Nat} {e : kE} (h : Hp L mem) (i : Nat) (hi : L[i]? = some (a, e)) : kLook xm mem a = some e := by
  obtain ⟨h1, h2⟩ := h.2 _ (List.mem_of_getElem? hi)
  rw [kLook_hi h1]
  exact h2
theorem Hp.ge {a : Nat} {e : kE} (h : Hp L mem) (i : Nat) (hi : L[i]? = some (a, e)) : 1000 ≤ a := (h.2 _ (List.mem_of_getElem? hi)).1
theorem Hp.get {a : Nat} {e : kE} (h : Hp L mem) (i : Nat) (hi : L[i]? = some (a, e)) : mem[a - 1000]? = some e := (h.2 _ (List.mem_of_getElem? hi)).2
theorem Hp.set {a : Nat} {e e' : kE} (h : Hp L mem) (i : Nat) (hi : L[i]? = some (a, e)) : Hp (L.set i (a, e')) (mem.set (a - 1000) e') := by
  have hn : (L.set i (a, e')).map (fun q => q.1) = L.map (fun q => q.1) := by
    rw [List.map_set]
    apply List.ext_getElem? 
    intro j
    rw [List.getElem?_set]
    split
    · rename_i g
      subst g
      split
      · rw [List.getElem?_map, hi]; rfl
      · rename_i g2
        rw [List.getElem?_eq_none (by omega)]
    · rfl
  refine ⟨by rw [hn]; exact h.1, fun q hq => ?_⟩
  obtain ⟨j, hj⟩ := List.mem_iff_getElem?.mp hq
  rw [List.getElem?_set] at hj
  have hge := h.ge i hi
  have hgt := h.get i hi
  split at hj
  · rename_i g
    subst g
    split at hj
    · cases hj
      refine ⟨hge, ?_⟩
      show (mem.set (a - 1000) e')[a - 1000]? = some e'
      rw [List.getElem?_set_self (List.getElem?_eq_some_iff.mp hgt).1]
    · cases hj
  · rename_i g
    obtain ⟨h1, h2⟩ := h.2 q (List.mem_of_getElem? hj)
    refine ⟨h1, ?_⟩
    rw [List.getElem?_set]
    split
    · rename_i g2
      exfalso
      have e0 : a = q.1 := by omega
      have n1 := h.1
      have hi' : (L.map (fun q => q.1))[i]? = some a := by rw [List.getElem?_map, hi]; rfl
      have hj' : (L.map (fun q => q.1))[j]? = some a := by rw [List.getElem?_map, hj, e0]; rfl
      exact g ((List.getElem?_inj (List.getElem?_eq_some_iff.mp hi').1 n1).mp (hi'.trans hj'.symm))
    · exact h2
theorem Hp.new (e : kE) (h : Hp L mem) : Hp ((kNew mem, e) :: L) (mem ++ [e]) := by
  refine ⟨?_, fun q hq => ?_⟩
  · rw [List.map_cons, List.nodup_cons]
    refine ⟨fun hm => ?_, h.1⟩
    obtain ⟨q, hq, e0⟩ := List.mem_map.mp hm
    obtain ⟨h1, h2⟩ := h.2 q hq
    have := (List.getElem?_eq_some_iff.mp h2).1
    unfold kNew at e0
    simp only at e0
    omega
  · rcases List.mem_cons.mp hq with rfl | hq
    · unfold kNew
      exact ⟨by omega, by simp⟩
    · obtain ⟨h1, h2⟩ := h.2 q hq
      exact ⟨h1, by rw [List.getElem?_append_left (List.getElem?_eq_some_iff.mp h2).1]; exact h2⟩
theorem Hp.sub (h : Hp L mem) (s : L'.Sublist L) : Hp L' mem := ⟨List.Nodup.sublist (s.map _) h.1, fun q hq => h.2 q (s.subset hq)⟩
end HP
/-! ===== a function's answer ===== -/
def dOk (X : dRes) (S : kO × kM → Prop) : Prop := ∃ r, X = some r ∧ S r
def rI (P : Int32 → kM → Prop) : kO × kM → Prop := fun r => ∃ x, r.1 = .inl (some (.int x)) ∧ P x r.2
def rJ (P : Int64 → kM → Prop) : kO × kM → Prop := fun r => ∃ x, r.1 = .inl (some (.long x)) ∧ P x r.2
def rF (P : UInt32 → kM → Prop) : kO × kM → Prop := fun r => ∃ x, r.1 = .inl (some (.float x)) ∧ P x r.2
def rD (P : UInt64 → kM → Prop) : kO × kM → Prop := fun r => ∃ x, r.1 = .inl (some (.double x)) ∧ P x r.2
def rR (P : Nat → kM → Prop) : kO × kM → Prop := fun r => ∃ x, r.1 = .inl (some (.ref x)) ∧ P x r.2
def rV (P : kM → Prop) : kO × kM → Prop := fun r => r.1 = .inl none ∧ P r.2
/-- an answer, or an exception of a class -/
def rX (P : Int32 → kM → Prop) (E : Nat → kM → Prop) : kO × kM → Prop := fun r => (∃ x, r.1 = .inl (some (.int x)) ∧ P x r.2) ∨ ∃ e, r.1 = .inr e ∧ E e r.2
section OK
variable {xm : Nat → Option kE} {mem : kM} {L : List (Nat × kE)} {S : kO × kM → Prop} {r ci k : Nat} {fs : List Value} {X : dRes}
theorem ok_mono {S' : kO × kM → Prop} (h : dOk X S) (f : ∀ r, S r → S' r) : dOk X S' := by
  obtain ⟨r, h1, h2⟩ := h
  exact ⟨r, h1, f r h2⟩
theorem ok_I {P : Int32 → kM → Prop} {x : Int32} (h : P x mem) : dOk (some (.inl (some (.int x)), mem)) (rI P) := ⟨_, rfl, x, rfl, h⟩
theorem ok_J {P : Int64 → kM → Prop} {x : Int64} (h : P x mem) : dOk (some (.inl (some (.long x)), mem)) (rJ P) := ⟨_, rfl, x, rfl, h⟩
theorem ok_F {P : UInt32 → kM → Prop} {x : UInt32} (h : P x mem) : dOk (some (.inl (some (.float x)), mem)) (rF P) := ⟨_, rfl, x, rfl, h⟩
theorem ok_D {P : UInt64 → kM → Prop} {x : UInt64} (h : P x mem) : dOk (some (.inl (some (.double x)), mem)) (rD P) := ⟨_, rfl, x, rfl, h⟩
theorem ok_R {P : Nat → kM → Prop} {x : Nat} (h : P x mem) : dOk (some (.inl (some (.ref x)), mem)) (rR P) := ⟨_, rfl, x, rfl, h⟩
theorem ok_V {P : kM → Prop} (h : P mem) : dOk (some (.inl none, mem)) (rV P) := ⟨_, rfl, rfl, h⟩
theorem ok_XI {P : Int32 → kM → Prop} {E : Nat → kM → Prop} {x : Int32} (h : P x mem) : dOk (some (.inl (some (.int x)), mem)) (rX P E) := ⟨_, rfl, Or.inl ⟨x, rfl, h⟩⟩
theorem ok_XE {P : Int32 → kM → Prop} {E : Nat → kM → Prop} {e : Nat} (h : E e mem) : dOk (some (.inr e, mem)) (rX P E) := ⟨_, rfl, Or.inr ⟨e, rfl, h⟩⟩
theorem ok_gI {x : Int32} {K : Int32 → dRes} (hk : kLook xm mem r = some (.inl (ci, fs))) (hv : fs[k]? = some (.int x)) (h : dOk (K x) S) : dOk (dGI xm mem r ci k K) S := by
  unfold dGI dG
  simp only [hk, hv, if_true]
  exact h
theorem ok_gJ {x : Int64} {K : Int64 → dRes} (hk : kLook xm mem r = some (.inl (ci, fs))) (hv : fs[k]? = some (.long x)) (h : dOk (K x) S) : dOk (dGJ xm mem r ci k K) S := by
  unfold dGJ dG
  simp only [hk, hv, if_true]
  exact h
theorem ok_gR {x : Nat} {K : Nat → dRes} (hk : kLook xm mem r = some (.inl (ci, fs))) (hv : fs[k]? = some (.ref x)) (h : dOk (K x) S) : dOk (dGR xm mem r ci k K) S := by
  unfold dGR dG
  simp only [hk, hv, if_true]
  exact h
theorem ok_rc {K : dRes} (hk : kLook xm mem r = some (.inl (ci, fs))) (h : dOk K S) : dOk (dRc xm mem r ci K) S := by
  unfold dRc
  simp only [hk, if_true]
  exact h
theorem ok_p {w : Value} {K : kM → dRes} (H : Hp L mem) (i : Nat) (hi : L[i]? = some (r, .inl (ci, fs))) (hb' : Nat.ble (k + 1) fs.length = true) (hc' : (!(Nat.beq ci 2) && !(Nat.beq ci 13)) = true) (h : ∀ m, Hp (L.set i (r, .inl (ci, fs.set k w))) m → St xm mem m 0 0 → dOk (K m) S) : dOk (dP xm mem r ci k w K) S := by
  have hb : k < fs.length := Nat.le_of_ble_eq_true hb'
  have hc : ci ≠ 2 ∧ ci ≠ 13 := by
    constructor
    · rintro rfl
      cases hc'
    · rintro rfl
      cases hc'
  unfold dP
  simp only [H.look (xm := xm) i hi]
  rw [if_pos ⟨by trivial, H.ge i hi, hb⟩]
  refine h _ (H.set i hi) (St.set (H.ge i hi) (H.get i hi) ?_ rfl ?_)
  · show kSz (.inl (ci, fs.set k w)) = kSz (.inl (ci, fs))
    simp [kSz]
  · intro c f g e
    cases e
    omega
theorem ok_lenI {xs : List Int32} {t : Nat} {K : Int32 → dRes} (hk : kLook xm mem r = some (.inr (.inl (t, xs)))) (ht : t < 2) (h : dOk (K (Int32.ofNat xs.length)) S) : dOk (dLen xm mem r K) S := by
  unfold dLen
  simp only [hk]
  rw [if_pos ht]
  exact h
theorem ok_lenQ {xs : List (Option Nat)} {t : Nat} {K : Int32 → dRes} (hk : kLook xm mem r = some (.inr (.inr (t, xs)))) (ht : t = 2 ∨ t = 3) (h : dOk (K (Int32.ofNat xs.length)) S) : dOk (dLen xm mem r K) S := by
  unfold dLen
  simp only [hk]
  rw [if_pos ht]
  exact h
theorem ok_iL {xs : List Int32} {t : Nat} {j : Int32} {K : Int32 → dRes} (hk : kLook xm mem r = some (.inr (.inl (t, xs)))) (hj : kInB j xs.length = true) (h : dOk (K (xs.getD j.toNatClampNeg 0)) S) : dOk (dIL xm t mem r j K) S := by
  unfold dIL
  simp only [hk]
  rw [if_pos ⟨by trivial, hj⟩]
  exact h
theorem ok_iS {xs : List Int32} {j x : Int32} {K : kM → dRes} (H : Hp L mem) (i : Nat) (hi : L[i]? = some (r, .inr (.inl (0, xs)))) (hj : kInB j xs.length = true) (h : ∀ m, Hp (L.set i (r, .inr (.inl (0, xs.set j.toNatClampNeg x)))) m → St xm mem m 0 0 → dOk (K m) S) : dOk (dIS xm mem r j x K) S := by
  unfold dIS
  simp only [H.look (xm := xm) i hi]
  rw [if_pos ⟨by trivial, hj, H.ge i hi⟩]
  refine h _ (H.set i hi) (St.set (H.ge i hi) (H.get i hi) ?_ rfl ?_)
  · simp [kSz]
  · intro c f g e
    cases e
theorem ok_aL {qs : List (Option Nat)} {t q : Nat} {j : Int32} {K : Nat → dRes} (hk : kLook xm mem r = some (.inr (.inr (t, qs)))) (ht : t = 2 ∨ t = 3 ∨ (t = 4 ∧ r < 1000)) (hj : kInB j qs.length = true) (hq : qs.getD j.toNatClampNeg none = some q) (h : dOk (K q) S) : dOk (dAL xm mem r j K) S := by
  unfold dAL
  simp only [hk]
  rw [if_pos ⟨ht, hj⟩]
  simp only [hq]
  exact h
theorem ok_aS {qs : List (Option Nat)} {t : Nat} {j : Int32} {v : Option Nat} {K : kM → dRes} (H : Hp L mem) (i : Nat) (hi : L[i]? = some (r, .inr (.inr (t, qs)))) (ht : t = 2 ∨ t = 3) (hj : kInB j qs.length = true) (hv : kStOk xm mem t v = true) (h : ∀ m, Hp (L.set i (r, .inr (.inr (t, qs.set j.toNatClampNeg v)))) m → St xm mem m 0 0 → dOk (K m) S) : dOk (dAS xm mem r j v K) S := by
  unfold dAS
  simp only [H.look (xm := xm) i hi]
  rw [if_pos ⟨ht, hj, H.ge i hi, hv⟩]
  refine h _ (H.set i hi) (St.set (H.ge i hi) (H.get i hi) ?_ rfl ?_)
  · simp [kSz]
  · intro c f g e
    cases e
theorem ok_n (xm : Nat → Option kE) {e : kE} {K : kM → Nat → dRes} (H : Hp L mem) (h : ∀ m p, Hp ((p, e) :: L) m → St xm mem m 1 (kSz e) → p = kNew mem → dOk (K m p) S) : dOk (dN mem e K) S := h _ _ (H.new e) (St.new e) rfl
theorem ok_nI (xm : Nat → Option kE) {t : Nat} {n : Nat} {K : kM → Nat → dRes} (H : Hp L mem) (hn : n ≤ 16777216) (h : ∀ m p, Hp ((p, .inr (.inl (t, List.replicate n 0))) :: L) m → St xm mem m 1 n → dOk (K m p) S) : dOk (dNI t mem (Int32.ofNat n) K) S := by
  unfold dNI
  have e0 := i_nat (show n < 2 ^ 31 by omega)
  rw [if_pos ⟨Int32.not_lt.mp (i_nn (show n < 2 ^ 31 by omega)), by rw [e0]; exact hn⟩, e0]
  exact h _ _ (H.new _) ((St.new _).mono (Nat.le_refl _) (by simp [kSz]))
theorem ok_nA (xm : Nat → Option kE) {t : Nat} {n : Nat} {K : kM → Nat → dRes} (H : Hp L mem) (hn : n ≤ 16777216) (h : ∀ m p, Hp ((p, .inr (.inr (t, List.replicate n none))) :: L) m → St xm mem m 1 n → dOk (K m p) S) : dOk (dNA t mem (Int32.ofNat n) K) S := by
  unfold dNA
  have e0 := i_nat (show n < 2 ^ 31 by omega)
  rw [if_pos ⟨Int32.not_lt.mp (i_nn (show n < 2 ^ 31 by omega)), by rw [e0]; exact hn⟩, e0]
  exact h _ _ (H.new _) ((St.new _).mono (Nat.le_refl _) (by simp [kSz]))
theorem ok_ccO {b : Nat} {K : dRes} (hk : kLook xm mem r = some (.inl (b, fs))) (h : dOk K S) : dOk (dCC xm mem r 0 b K) S := by
  unfold dCC
  simp only [hk]
  rw [if_pos ⟨by trivial, by trivial⟩]
  exact h
theorem ok_ccA {b : Nat} {ys : List Int32} {K : dRes} (hk : kLook xm mem r = some (.inr (.inl (b, ys)))) (hr : 1000 ≤ r) (h : dOk K S) : dOk (dCC xm mem r 1 b K) S := by
  unfold dCC
  simp only [hk]
  rw [if_pos ⟨by trivial, by trivial, hr⟩]
  exact h
theorem ok_cI {K : Int32 → kM → dRes} {P : Int32 → kM → Prop} (hc : dOk X (rI P)) (h : ∀ x m, P x m → dOk (K x m) S) : dOk (dCI X K) S := by
  obtain ⟨⟨o, m⟩, h1, x, h2, h3⟩ := hc
  cases h2
  rw [h1]
  exact h x m h3
theorem ok_cJ {K : Int64 → kM → dRes} {P : Int64 → kM → Prop} (hc : dOk X (rJ P)) (h : ∀ x m, P x m → dOk (K x m) S) : dOk (dCJ X K) S := by
  obtain ⟨⟨o, m⟩, h1, x, h2, h3⟩ := hc
  cases h2
  rw [h1]
  exact h x m h3
theorem ok_cF {K : UInt32 → kM → dRes} {P : UInt32 → kM → Prop} (hc : dOk X (rF P)) (h : ∀ x m, P x m → dOk (K x m) S) : dOk (dCF X K) S := by
  obtain ⟨⟨o, m⟩, h1, x, h2, h3⟩ := hc
  cases h2
  rw [h1]
  exact h x m h3
theorem ok_cD {K : UInt64 → kM → dRes} {P : UInt64 → kM → Prop} (hc : dOk X (rD P)) (h : ∀ x m, P x m → dOk (K x m) S) : dOk (dCD X K) S := by
  obtain ⟨⟨o, m⟩, h1, x, h2, h3⟩ := hc
  cases h2
  rw [h1]
  exact h x m h3
theorem ok_cR {K : Nat → kM → dRes} {P : Nat → kM → Prop} (hc : dOk X (rR P)) (h : ∀ x m, P x m → dOk (K x m) S) : dOk (dCR X K) S := by
  obtain ⟨⟨o, m⟩, h1, x, h2, h3⟩ := hc
  cases h2
  rw [h1]
  exact h x m h3
theorem ok_cV {K : kM → dRes} {P : kM → Prop} (hc : dOk X (rV P)) (h : ∀ m, P m → dOk (K m) S) : dOk (dCV X K) S := by
  obtain ⟨⟨o, m⟩, h1, h2, h3⟩ := hc
  cases h2
  rw [h1]
  exact h m h3
theorem ok_cX {K : Int32 → kM → dRes} {Hh : Nat → kM → dRes} {P : Int32 → kM → Prop} {E : Nat → kM → Prop} (hc : dOk X (rX P E)) (h : ∀ x m, P x m → dOk (K x m) S) (hE : ∀ e m, E e m → dOk (Hh e m) S) : dOk (dCX X K Hh) S := by
  obtain ⟨⟨o, m⟩, h1, ⟨x, h2, h3⟩ | ⟨e, h2, h3⟩⟩ := hc
  · cases h2
    rw [h1]
    exact h x m h3
  · cases h2
    rw [h1]
    exact hE e m h3
/-- a call whose answer is known -/
theorem ok_eI {K : Int32 → kM → dRes} {x : Int32} {m : kM} (e : X = some (.inl (some (.int x)), m)) (h : dOk (K x m) S) : dOk (dCI X K) S := by rw [e]; exact h
theorem ok_eR {K : Nat → kM → dRes} {x : Nat} {m : kM} (e : X = some (.inl (some (.ref x)), m)) (h : dOk (K x m) S) : dOk (dCR X K) S := by rw [e]; exact h
theorem ok_eV {K : kM → dRes} {m : kM} (e : X = some (.inl none, m)) (h : dOk (K m) S) : dOk (dCV X K) S := by rw [e]; exact h
theorem ok_if {c : Prop} [Decidable c] {A B : dRes} (h1 : c → dOk A S) (h2 : ¬ c → dOk B S) : dOk (if c then A else B) S := by
  split
  · rename_i g; exact h1 g
  · rename_i g; exact h2 g
theorem ok_nz {y : Int32} {K : dRes} (hy : y ≠ 0) (h : dOk K S) : dOk (dNz y K) S := by
  unfold dNz
  rw [if_neg hy]
  exact h
theorem ok_cpyI {s0 d0 : Nat} {sp dp n : Int32} {us ys : List Int32} {K : kM → dRes} (H : Hp L mem) (hs : kLook xm mem s0 = some (.inr (.inl (0, us)))) (hs1 : 1000 ≤ s0) (i : Nat) (hi : L[i]? = some (d0, .inr (.inl (0, ys)))) (hr : kOkR sp dp n us.length ys.length = true) (h : ∀ m, Hp (L.set i (d0, .inr (.inl (0, kCpy us ys sp.toNatClampNeg dp.toNatClampNeg n.toNatClampNeg)))) m → St xm mem m 0 0 → dOk (K m) S) : dOk (dCpy xm mem s0 sp d0 dp n K) S := by
  have hd := H.look (xm := xm) i hi
  have hd1 := H.ge i hi
  have e : kSpec xm 9001 0 [] [.int n, .int dp, .ref d0, .int sp, .ref s0] mem = some (.inl (0 + 3, [], [], mem.set (d0 - 1000) (.inr (.inl (0, kCpy us ys sp.toNatClampNeg dp.toNatClampNeg n.toNatClampNeg))))) := by
    simp [kSpec, hs, hd, hs1, hd1, hr, kNx]
  unfold dCpy
  simp only [e]
  refine h _ (H.set i hi) (St.set hd1 (H.get i hi) ?_ rfl ?_)
  · simp only [kSz]
    unfold kOkR at hr
    simp only [Bool.and_eq_true, decide_eq_true_eq] at hr
    exact kCpy_len us ys hr.1.2 hr.2
  · intro c f g e
    cases e
theorem ok_cpyQ {s0 d0 t0 t1 : Nat} {sp dp n : Int32} {us ys : List (Option Nat)} {K : kM → dRes} (H : Hp L mem) (hs : kLook xm mem s0 = some (.inr (.inr (t0, us)))) (hs1 : 1000 ≤ s0 ∨ n = 0) (i : Nat) (hi : L[i]? = some (d0, .inr (.inr (t1, ys)))) (h0 : t0 = 2 ∨ t0 = 3) (h1 : t1 = 2 ∨ t1 = 3) (hr : kOkR sp dp n us.length ys.length = true) (he : ∀ x ∈ (us.drop sp.toNatClampNeg).take n.toNatClampNeg, kStOk xm mem t1 x = true) (h : ∀ m, Hp (L.set i (d0, .inr (.inr (t1, kCpy us ys sp.toNatClampNeg dp.toNatClampNeg n.toNatClampNeg)))) m → St xm mem m 0 0 → dOk (K m) S) : dOk (dCpy xm mem s0 sp d0 dp n K) S := by
  have hd := H.look (xm := xm) i hi
  have hd1 := H.ge i hi
  have e : kSpec xm 9001 0 [] [.int n, .int dp, .ref d0, .int sp, .ref s0] mem = some (.inl (0 + 3, [], [], mem.set (d0 - 1000) (.inr (.inr (t1, kCpy us ys sp.toNatClampNeg dp.toNatClampNeg n.toNatClampNeg))))) := by
    have he' : ((us.drop sp.toNatClampNeg).take n.toNatClampNeg).all (fun x => kStOk xm mem t1 x) = true := List.all_eq_true.mpr he
    have hb0 : (t0 == 2 || t0 == 3) = true := by rcases h0 with rfl | rfl <;> rfl
    have hb1 : (t1 == 2 || t1 == 3) = true := by rcases h1 with rfl | rfl <;> rfl
    have hb2 : (decide (1000 ≤ s0) || n == 0) = true := by rcases hs1 with h | h <;> simp [h]
    simp only [kSpec, hs, hd, hb0, hb1, hb2, hr, he', hd1, decide_true, Bool.and_self, if_true, kNx]
  unfold dCpy
  simp only [e]
  refine h _ (H.set i hi) (St.set hd1 (H.get i hi) ?_ rfl ?_)
  · simp only [kSz]
    unfold kOkR at hr
    simp only [Bool.and_eq_true, decide_eq_true_eq] at hr
    exact kCpy_len us ys hr.1.2 hr.2
  · intro c f g e
    cases e
end OK
