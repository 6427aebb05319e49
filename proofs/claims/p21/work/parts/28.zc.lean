/-! ===== the class's memory by types: a cell has a type, contents may vary ===== -/
/-- a field's type: any number; this address; a number from 0 up to n; this number -/
abbrev fTy : Type := Value → Prop
def fI : fTy := fun v => ∃ x, v = .int x
def fR (a : Nat) : fTy := fun v => v = .ref a
def fB (n : Nat) : fTy := fun v => ∃ i : Nat, i ≤ n ∧ v = .int (Int32.ofNat i)
def fE (x : Int32) : fTy := fun v => v = .int x
/-- a cell's type: an object; an array of numbers so long; this array of numbers; this array of addresses -/
abbrev cTy : Type := kE → Prop
def cO (ci : Nat) (ts : List fTy) : cTy := fun e => ∃ fs, e = .inl (ci, fs) ∧ fs.length = ts.length ∧ ∀ (k : Nat) (t : fTy), ts[k]? = some t → ∃ v, fs[k]? = some v ∧ t v
def cA (n : Nat) : cTy := fun e => ∃ xs : List Int32, xs.length = n ∧ e = .inr (.inl (0, xs))
def cX (xs : List Int32) : cTy := fun e => e = .inr (.inl (0, xs))
def cQ (t : Nat) (qs : List (Option Nat)) : cTy := fun e => e = .inr (.inr (t, qs))
abbrev kTyL : Type := List (Nat × cTy)
def tOk (Ts : kTyL) (A : kSg) : Prop := A.length = Ts.length ∧ ∀ (j r : Nat) (t : cTy), Ts[j]? = some (r, t) → ∃ e, A[j]? = some (r, e) ∧ t e
def HpT (Ts : kTyL) (F : kSg) (mem : kM) : Prop := ∃ A, tOk Ts A ∧ Hp (A ++ F) mem
section KZA
variable {xm : Nat → Option kE} {mem : kM} {Ts : kTyL} {F A : kSg} {S : kO × kM → Prop} {r ci k n : Nat} {ts : List fTy} {X : dRes} {t : cTy}
theorem tOk.set {j : Nat} {t' : cTy} {e : kE} (h : tOk Ts A) (hj : Ts[j]? = some (r, t)) (he : t' e) : tOk (Ts.set j (r, t')) (A.set j (r, e)) := by
  obtain ⟨h1, h2⟩ := h
  have hl : j < Ts.length := (List.getElem?_eq_some_iff.mp hj).1
  refine ⟨by simp [h1], fun i r' t'' hi => ?_⟩
  rw [List.getElem?_set] at hi ⊢
  by_cases g : j = i
  · subst g
    rw [if_pos rfl, if_pos hl] at hi
    cases hi
    rw [if_pos rfl, if_pos (by omega)]
    exact ⟨e, rfl, he⟩
  · rw [if_neg g] at hi ⊢
    exact h2 i r' t'' hi
theorem set_self {α : Type} {l : List α} {j : Nat} {x : α} (h : l[j]? = some x) : l.set j x = l := by
  obtain ⟨h1, h2⟩ := List.getElem?_eq_some_iff.mp h
  rw [← h2]
  exact List.set_getElem_self h1
theorem HpT.cell (H : HpT Ts F mem) (j : Nat) (hj : Ts[j]? = some (r, t)) : ∃ e, kLook xm mem r = some e ∧ 1000 ≤ r ∧ t e := by
  obtain ⟨A, ⟨h1, h2⟩, h3⟩ := H
  obtain ⟨e, h4, h5⟩ := h2 j r t hj
  have hl := (List.getElem?_eq_some_iff.mp h4).1
  have h6 : (A ++ F)[j]? = some (r, e) := by rw [List.getElem?_append_left hl]; exact h4
  exact ⟨e, h3.look j h6, h3.ge j h6, h5⟩
theorem HpT.fld (H : HpT Ts F mem) (j : Nat) (hj : Ts[j]? = some (r, cO ci ts)) {t : fTy} (hk : ts[k]? = some t) : ∃ fs v, kLook xm mem r = some (.inl (ci, fs)) ∧ fs[k]? = some v ∧ t v := by
  obtain ⟨e, h1, h2, fs, rfl, h3, h4⟩ := H.cell (xm := xm) j hj
  obtain ⟨v, h5, h6⟩ := h4 k t hk
  exact ⟨fs, v, h1, h5, h6⟩
theorem t_gI {K : Int32 → dRes} (H : HpT Ts F mem) (j : Nat) (hj : Ts[j]? = some (r, cO ci ts)) (hk : ts[k]? = some fI) (h : ∀ x, dOk (K x) S) : dOk (dGI xm mem r ci k K) S := by
  obtain ⟨fs, v, h1, h2, x, rfl⟩ := H.fld (xm := xm) j hj hk
  exact ok_gI h1 h2 (h x)
theorem t_gB {K : Int32 → dRes} (H : HpT Ts F mem) (j : Nat) (hj : Ts[j]? = some (r, cO ci ts)) (hk : ts[k]? = some (fB n)) (h : ∀ i : Nat, i ≤ n → dOk (K (Int32.ofNat i)) S) : dOk (dGI xm mem r ci k K) S := by
  obtain ⟨fs, v, h1, h2, i, h3, rfl⟩ := H.fld (xm := xm) j hj hk
  exact ok_gI h1 h2 (h i h3)
theorem t_gE {K : Int32 → dRes} {x : Int32} (H : HpT Ts F mem) (j : Nat) (hj : Ts[j]? = some (r, cO ci ts)) (hk : ts[k]? = some (fE x)) (h : dOk (K x) S) : dOk (dGI xm mem r ci k K) S := by
  obtain ⟨fs, v, h1, h2, rfl⟩ := H.fld (xm := xm) j hj hk
  exact ok_gI h1 h2 h
theorem t_gR {K : Nat → dRes} {x : Nat} (H : HpT Ts F mem) (j : Nat) (hj : Ts[j]? = some (r, cO ci ts)) (hk : ts[k]? = some (fR x)) (h : dOk (K x) S) : dOk (dGR xm mem r ci k K) S := by
  obtain ⟨fs, v, h1, h2, rfl⟩ := H.fld (xm := xm) j hj hk
  exact ok_gR h1 h2 h
theorem t_rc {K : dRes} (H : HpT Ts F mem) (j : Nat) (hj : Ts[j]? = some (r, cO ci ts)) (h : dOk K S) : dOk (dRc xm mem r ci K) S := by
  obtain ⟨e, h1, h2, fs, rfl, h3, h4⟩ := H.cell (xm := xm) j hj
  exact ok_rc h1 h
theorem t_len {K : Int32 → dRes} (H : HpT Ts F mem) (j : Nat) (hj : Ts[j]? = some (r, cA n)) (h : dOk (K (Int32.ofNat n)) S) : dOk (dLen xm mem r K) S := by
  obtain ⟨e, h1, h2, xs, h3, rfl⟩ := H.cell (xm := xm) j hj
  refine ok_lenI h1 (by decide) ?_
  rw [h3]
  exact h
theorem t_lenQ {K : Int32 → dRes} {t : Nat} {qs : List (Option Nat)} (H : HpT Ts F mem) (j : Nat) (hj : Ts[j]? = some (r, cQ t qs)) (ht : t = 2 ∨ t = 3) (h : dOk (K (Int32.ofNat qs.length)) S) : dOk (dLen xm mem r K) S := by
  obtain ⟨e, h1, h2, rfl⟩ := H.cell (xm := xm) j hj
  exact ok_lenQ h1 ht h
theorem t_iL {K : Int32 → dRes} {i : Int32} (H : HpT Ts F mem) (j : Nat) (hj : Ts[j]? = some (r, cA n)) (hi : kInB i n = true) (h : ∀ x, dOk (K x) S) : dOk (dIL xm 0 mem r i K) S := by
  obtain ⟨e, h1, h2, xs, h3, rfl⟩ := H.cell (xm := xm) j hj
  exact ok_iL h1 (by rw [h3]; exact hi) (h _)
theorem t_aL {K : Nat → dRes} {t q : Nat} {qs : List (Option Nat)} {i : Int32} (H : HpT Ts F mem) (j : Nat) (hj : Ts[j]? = some (r, cQ t qs)) (ht : t = 2 ∨ t = 3) (hi : kInB i qs.length = true) (hq : qs.getD i.toNatClampNeg none = some q) (h : dOk (K q) S) : dOk (dAL xm mem r i K) S := by
  obtain ⟨e, h1, h2, rfl⟩ := H.cell (xm := xm) j hj
  exact ok_aL h1 (by omega) hi hq h
/-- a field is written, its type may change -/
theorem t_pT {w : Value} {K : kM → dRes} {t t' : fTy} (H : HpT Ts F mem) (j : Nat) (hj : Ts[j]? = some (r, cO ci ts)) (hk : ts[k]? = some t) (hc : (!(Nat.beq ci 2) && !(Nat.beq ci 13)) = true) (hw : t' w) (h : ∀ m, HpT (Ts.set j (r, cO ci (ts.set k t'))) F m → St xm mem m 0 0 → dOk (K m) S) : dOk (dP xm mem r ci k w K) S := by
  obtain ⟨A, hA, h3⟩ := H
  obtain ⟨e, h4, fs, rfl, h5, h6⟩ := hA.2 j r _ hj
  have hl := (List.getElem?_eq_some_iff.mp h4).1
  have hkl : k < ts.length := (List.getElem?_eq_some_iff.mp hk).1
  refine ok_p h3 j (by rw [List.getElem?_append_left hl]; exact h4) (Nat.ble_eq_true_of_le (by omega)) hc fun m H1 S1 => ?_
  rw [List.set_append_left _ _ hl] at H1
  refine h m ⟨_, hA.set hj ⟨_, rfl, by simp [h5], fun i t'' hi => ?_⟩, H1⟩ S1
  rw [List.getElem?_set] at hi ⊢
  by_cases g : k = i
  · subst g
    rw [if_pos rfl, if_pos hkl] at hi
    cases hi
    rw [if_pos rfl, if_pos (by omega)]
    exact ⟨w, rfl, hw⟩
  · rw [if_neg g] at hi ⊢
    exact h6 i t'' hi
theorem t_p {w : Value} {K : kM → dRes} {t : fTy} (H : HpT Ts F mem) (j : Nat) (hj : Ts[j]? = some (r, cO ci ts)) (hk : ts[k]? = some t) (hc : (!(Nat.beq ci 2) && !(Nat.beq ci 13)) = true) (hw : t w) (h : ∀ m, HpT Ts F m → St xm mem m 0 0 → dOk (K m) S) : dOk (dP xm mem r ci k w K) S := by
  refine t_pT H j hj hk hc hw fun m H1 S1 => ?_
  rw [set_self hk, set_self hj] at H1
  exact h m H1 S1
theorem t_iS {K : kM → dRes} {i x : Int32} (H : HpT Ts F mem) (j : Nat) (hj : Ts[j]? = some (r, cA n)) (hi : kInB i n = true) (h : ∀ m, HpT Ts F m → St xm mem m 0 0 → dOk (K m) S) : dOk (dIS xm mem r i x K) S := by
  obtain ⟨A, hA, h3⟩ := H
  obtain ⟨e, h4, xs, h5, rfl⟩ := hA.2 j r _ hj
  have hl := (List.getElem?_eq_some_iff.mp h4).1
  refine ok_iS h3 j (by rw [List.getElem?_append_left hl]; exact h4) (by rw [h5]; exact hi) fun m H1 S1 => ?_
  rw [List.set_append_left _ _ hl] at H1
  have h6 := hA.set (t' := cA n) (e := .inr (.inl (0, xs.set i.toNatClampNeg x))) hj ⟨_, by simp [h5], rfl⟩
  rw [set_self hj] at h6
  exact h m ⟨_, h6, H1⟩ S1
/-- between two arrays of numbers -/
theorem t_cpy {K : kM → dRes} {s0 d0 n1 n2 : Nat} {sp dp w : Int32} (H : HpT Ts F mem) (i j : Nat) (hi : Ts[i]? = some (s0, cA n1)) (hj : Ts[j]? = some (d0, cA n2)) (hr : kOkR sp dp w n1 n2 = true) (h : ∀ m, HpT Ts F m → St xm mem m 0 0 → dOk (K m) S) : dOk (dCpy xm mem s0 sp d0 dp w K) S := by
  obtain ⟨e, a1, a2, us, a3, rfl⟩ := H.cell (xm := xm) i hi
  obtain ⟨A, hA, h3⟩ := H
  obtain ⟨e, h4, xs, h5, rfl⟩ := hA.2 j d0 _ hj
  have hl := (List.getElem?_eq_some_iff.mp h4).1
  have hr' : kOkR sp dp w us.length xs.length = true := by rw [a3, h5]; exact hr
  refine ok_cpyI h3 a1 a2 j (by rw [List.getElem?_append_left hl]; exact h4) hr' fun m H1 S1 => ?_
  rw [List.set_append_left _ _ hl] at H1
  have hlen : (kCpy us xs sp.toNatClampNeg dp.toNatClampNeg w.toNatClampNeg).length = n2 := by
    unfold kOkR at hr'
    simp only [Bool.and_eq_true, decide_eq_true_eq] at hr'
    rw [kCpy_len us xs hr'.1.2 hr'.2]
    exact h5
  have h6 := hA.set (t' := cA n2) (e := .inr (.inl (0, kCpy us xs sp.toNatClampNeg dp.toNatClampNeg w.toNatClampNeg))) hj ⟨_, hlen, rfl⟩
  rw [set_self hj] at h6
  exact h m ⟨_, h6, H1⟩ S1
/-- what a bounded field holds, made exact -/
theorem HpT.pin (H : HpT Ts F mem) (j : Nat) (hj : Ts[j]? = some (r, cO ci ts)) (hk : ts[k]? = some (fB n)) : ∃ i : Nat, i ≤ n ∧ HpT (Ts.set j (r, cO ci (ts.set k (fE (Int32.ofNat i))))) F mem := by
  obtain ⟨A, hA, h3⟩ := H
  obtain ⟨e, h4, fs, rfl, h5, h6⟩ := hA.2 j r _ hj
  obtain ⟨v, h7, i, hi, rfl⟩ := h6 k _ hk
  have hkl : k < ts.length := (List.getElem?_eq_some_iff.mp hk).1
  refine ⟨i, hi, A, ?_, h3⟩
  have h8 := hA.set (t' := cO ci (ts.set k (fE (Int32.ofNat i)))) (e := .inl (ci, fs)) hj ⟨fs, rfl, by simp [h5], fun i' t'' hi' => ?_⟩
  · rw [set_self h4] at h8
    exact h8
  · rw [List.getElem?_set] at hi'
    by_cases g : k = i'
    · subst g
      rw [if_pos rfl, if_pos hkl] at hi'
      cases hi'
      exact ⟨_, h7, rfl⟩
    · rw [if_neg g] at hi'
      exact h6 i' t'' hi'
/-- .. and loosened again -/
theorem HpT.loose {x : Int32} {t' : fTy} (H : HpT Ts F mem) (j : Nat) (hj : Ts[j]? = some (r, cO ci ts)) (hk : ts[k]? = some (fE x)) (hx : t' (.int x)) : HpT (Ts.set j (r, cO ci (ts.set k t'))) F mem := by
  obtain ⟨A, hA, h3⟩ := H
  obtain ⟨e, h4, fs, rfl, h5, h6⟩ := hA.2 j r _ hj
  obtain ⟨v, h7, rfl⟩ := h6 k _ hk
  have hkl : k < ts.length := (List.getElem?_eq_some_iff.mp hk).1
  refine ⟨A, ?_, h3⟩
  have h8 := hA.set (t' := cO ci (ts.set k t')) (e := .inl (ci, fs)) hj ⟨fs, rfl, by simp [h5], fun i' t'' hi' => ?_⟩
  · rw [set_self h4] at h8
    exact h8
  · rw [List.getElem?_set] at hi'
    by_cases g : k = i'
    · subst g
      rw [if_pos rfl, if_pos hkl] at hi'
      cases hi'
      exact ⟨_, h7, hx⟩
    · rw [if_neg g] at hi'
      exact h6 i' t'' hi'
theorem i_guard {i : Int32} (h1 : ¬ i < 0) (h2 : i < Int32.ofNat n) (hn : n < 2 ^ 31) : kInB i n = true := by
  obtain ⟨e, h3⟩ := i_of (Int32.not_lt.mp h1)
  rw [e] at h2 ⊢
  exact i_inB ((i_lt h3 hn).mp h2) hn
end KZA
