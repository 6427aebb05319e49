/-! ===== contracts of the JDK's lists ===== -/
section KJDK
variable {xm : Nat → Option kE} {r q : Nat} {m n x : Int32} {qs : List (Option Nat)} {mem : kM}
theorem kj_size (h0 : kLook xm mem r = some (.inl (4, [.int m, .ref q, .int n]))) : kCa xm kSm kDfl kFty kG 1 214 [.ref r] mem (fun o m1 => m1 = mem ∧ o = .inl (some (.int n))) := by
  refine ca_of (show 1 ≤ 1 from Nat.le_refl 1) ?_
  refine wp_run 1 (pc' := 1) (lv' := [(0, .ref r)]) (st' := [.ref r]) (mem' := mem) rfl ?_
  refine wp_gf rfl h0 rfl ?_
  exact wp_end (o := .inl (some (.int n))) (m1 := mem) rfl rfl ⟨rfl, rfl⟩
theorem kj_isEmpty (h0 : kLook xm mem r = some (.inl (4, [.int m, .ref q, .int n]))) : kCa xm kSm kDfl kFty kG 1 215 [.ref r] mem (fun o m1 => m1 = mem ∧ o = .inl (some (.int (if n = 0 then 1 else 0)))) := by
  refine ca_of (show 1 ≤ 1 from Nat.le_refl 1) ?_
  refine wp_run 1 (pc' := 1) (lv' := [(0, .ref r)]) (st' := [.ref r]) (mem' := mem) rfl ?_
  refine wp_gf rfl h0 rfl ?_
  refine wp_ifc (a := 11) rfl (fun g4 => ?_) (fun g4 => ?_)
  · have g4 : ¬ n = 0 := by simpa [kIf] using g4
    refine wp_run 1 (pc' := 12) (lv' := [(0, .ref r)]) (st' := [.int 0]) (mem' := mem) rfl ?_
    exact wp_end (o := .inl (some (.int 0))) (m1 := mem) rfl rfl ⟨rfl, by rw [if_neg g4]⟩
  · have g4 : n = 0 := by simpa [kIf] using g4
    refine wp_run 2 (pc' := 12) (lv' := [(0, .ref r)]) (st' := [.int 1]) (mem' := mem) rfl ?_
    exact wp_end (o := .inl (some (.int 1))) (m1 := mem) rfl rfl ⟨rfl, by rw [if_pos g4]⟩
theorem kj_elem (h0 : kLook xm mem r = some (.inl (4, [.int m, .ref q, .int n]))) (h1 : kLook xm mem q = some (.inr (.inr (2, qs)))) (hj : kInB x qs.length = true) : kCa xm kSm kDfl kFty kG 1 217 [.ref r, .int x] mem (fun o m1 => m1 = mem ∧ o = .inl (some (kRf (qs.getD x.toNatClampNeg none)))) := by
  refine ca_of (show 2 ≤ 2 from Nat.le_refl 2) ?_
  refine wp_run 1 (pc' := 1) (lv' := [(0, .ref r), (1, .int x)]) (st' := [.ref r]) (mem' := mem) rfl ?_
  refine wp_gf rfl h0 rfl ?_
  refine wp_run 1 (pc' := 5) (lv' := [(0, .ref r), (1, .int x)]) (st' := [.int x, .ref q]) (mem' := mem) rfl ?_
  refine wp_aal rfl h1 (Or.inl rfl) hj ?_
  cases hq : qs.getD x.toNatClampNeg none with
  | none => exact wp_end (o := .inl (some .null)) (m1 := mem) rfl rfl ⟨rfl, rfl⟩
  | some z => exact wp_end (o := .inl (some (.ref z))) (m1 := mem) rfl rfl ⟨rfl, rfl⟩
theorem kj_chk (h0 : 0 ≤ x) (h1 : x < n) : kCa xm kSm kDfl kFty kG 1 238 [.int x, .int n, .null] mem (fun o m1 => m1 = mem ∧ o = .inl (some (.int x))) := by
  refine ca_of (show 3 ≤ 3 from Nat.le_refl 3) ?_
  refine wp_run 1 (pc' := 1) (lv' := [(0, .int x), (1, .int n), (2, .null)]) (st' := [.int x]) (mem' := mem) rfl ?_
  refine wp_ifc rfl (fun g => ?_) (fun g => ?_)
  · have g : x < 0 := by simpa [kIf] using g
    exact absurd h0 (Int32.not_le.mpr g)
  refine wp_run 2 (pc' := 6) (lv' := [(0, .int x), (1, .int n), (2, .null)]) (st' := [.int n, .int x]) (mem' := mem) rfl ?_
  refine wp_icmp rfl (fun g => ?_) (fun g => ?_)
  · refine wp_run 1 (lv' := [(0, .int x), (1, .int n), (2, .null)]) (st' := [.int x]) (mem' := mem) rfl ?_
    exact wp_end (o := .inl (some (.int x))) (m1 := mem) rfl rfl ⟨rfl, rfl⟩
  · have g : n ≤ x := by simpa [kIf] using g
    exact absurd h1 (Int32.not_lt.mpr g)
theorem kj_chk2 (h0 : 0 ≤ x) (h1 : x < n) : kCa xm kSm kDfl kFty kG 2 235 [.int x, .int n] mem (fun o m1 => m1 = mem ∧ o = .inl (some (.int x))) := by
  refine ca_of (show 2 ≤ 2 from Nat.le_refl 2) ?_
  refine wp_run 3 (pc' := 3) (lv' := [(0, .int x), (1, .int n)]) (st' := [.null, .int n, .int x]) (mem' := mem) rfl ?_
  refine wp_is (y := 238) (b := 3) (len := 3) (as := [.int x, .int n, .null]) (rest := []) rfl rfl rfl ⟨by decide, rfl, rfl⟩ (show 0 ≤ 8 by decide) (kj_chk h0 h1) (fun v m1 hv => ?_) (fun E m1 hE => nomatch hE.2)
  obtain ⟨rfl, hv⟩ := hv
  cases hv
  exact wp_end (o := .inl (some (.int x))) (m1 := m1) rfl rfl ⟨rfl, rfl⟩
theorem kj_get (h0 : kLook xm mem r = some (.inl (4, [.int m, .ref q, .int n]))) (h1 : kLook xm mem q = some (.inr (.inr (2, qs)))) (hx0 : 0 ≤ x) (hx1 : x < n) (hj : kInB x qs.length = true) : kCa xm kSm kDfl kFty kG 3 218 [.ref r, .int x] mem (fun o m1 => m1 = mem ∧ o = .inl (some (kRf (qs.getD x.toNatClampNeg none)))) := by
  refine ca_of (show 2 ≤ 2 from Nat.le_refl 2) ?_
  refine wp_run 2 (pc' := 2) (lv' := [(0, .ref r), (1, .int x)]) (st' := [.ref r, .int x]) (mem' := mem) rfl ?_
  refine wp_gf rfl h0 rfl ?_
  refine wp_is (y := 235) (b := 2) (len := 3) (as := [.int x, .int n]) (rest := []) rfl rfl rfl ⟨by decide, rfl, rfl⟩ (show 0 ≤ 8 by decide) (kj_chk2 hx0 hx1) (fun v m1 hv => ?_) (fun E m1 hE => nomatch hE.2)
  obtain ⟨rfl, hv⟩ := hv
  cases hv
  refine wp_run 3 (pc' := 11) (lv' := [(0, .ref r), (1, .int x)]) (st' := [.int x, .ref r]) (mem' := m1) rfl ?_
  refine wp_iv (y := 217) (b := 502) (len := 3) (as := [.int x]) (rest := []) rfl rfl rfl ⟨by decide, rfl, rfl, by decide⟩ (show 0 ≤ 8 by decide) h0 (ca_mono (show 1 ≤ 2 by decide) (fun _ _ h => h) (kj_elem h0 h1 hj)) (fun v m2 hv => ?_) (fun E m1 hE => nomatch hE.2)
  obtain ⟨rfl, hv⟩ := hv
  cases hv
  cases hq : qs.getD x.toNatClampNeg none with
  | none => exact wp_end (o := .inl (some .null)) (m1 := m2) rfl rfl ⟨rfl, rfl⟩
  | some z => exact wp_end (o := .inl (some (.ref z))) (m1 := m2) rfl rfl ⟨rfl, rfl⟩
theorem kj_col {fs : List Value} {ci : Nat} (h0 : kLook xm mem r = some (.inl (ci, fs))) : kCa xm kSm kDfl kFty kG 1 205 [.ref r] mem (fun o m1 => m1 = mem ∧ o = .inl none) := by
  refine ca_of (show 1 ≤ 1 from Nat.le_refl 1) ?_
  refine wp_run 2 (pc' := 4) (lv' := [(0, .ref r)]) (st' := []) (mem' := mem) rfl ?_
  exact wp_end (o := .inl none) (m1 := mem) rfl rfl ⟨rfl, rfl⟩
theorem kj_abs {v0 v1 v2 : Value} (hr : 1000 ≤ r) (h0 : kLook xm mem r = some (.inl (4, [v0, v1, v2]))) : kCa xm kSm kDfl kFty kG 2 206 [.ref r] mem (fun o m1 => m1 = mem.set (r - 1000) (.inl (4, [.int 0, v1, v2])) ∧ o = .inl none) := by
  refine ca_of (show 1 ≤ 1 from Nat.le_refl 1) ?_
  refine wp_run 1 (pc' := 1) (lv' := [(0, .ref r)]) (st' := [.ref r]) (mem' := mem) rfl ?_
  refine wp_in (y := 205) (b := 5001) (len := 3) (as := []) (rest := []) rfl rfl rfl ⟨by decide, rfl, rfl⟩ (show 0 ≤ 8 by decide) (kj_col h0) (fun v m1 hv => ?_) (fun E m1 hE => nomatch hE.2)
  obtain ⟨rfl, hv⟩ := hv
  cases hv
  refine wp_run 2 (pc' := 6) (lv' := [(0, .ref r)]) (st' := [.int 0, .ref r]) (mem' := m1) rfl ?_
  refine wp_pf rfl h0 hr (show 0 < 3 by decide) rfl ?_
  exact wp_end (o := .inl none) rfl rfl ⟨rfl, rfl⟩
theorem kj_new {v0 v1 v2 : Value} (hr : 1000 ≤ r) (h0 : kLook xm mem r = some (.inl (4, [v0, v1, v2]))) : kCa xm kSm kDfl kFty kG 3 211 [.ref r] mem (fun o m1 => m1 = mem.set (r - 1000) (.inl (4, [.int 0, .ref 1, v2])) ∧ o = .inl none) := by
  refine ca_of (show 1 ≤ 1 from Nat.le_refl 1) ?_
  have hl : r - 1000 < mem.length := by
    unfold kLook at h0
    rw [if_neg (by omega)] at h0
    exact (List.getElem?_eq_some_iff.mp h0).1
  refine wp_run 1 (pc' := 1) (lv' := [(0, .ref r)]) (st' := [.ref r]) (mem' := mem) rfl ?_
  refine wp_in (y := 206) (b := 5001) (len := 3) (as := []) (rest := []) rfl rfl rfl ⟨by decide, rfl, rfl⟩ (show 0 ≤ 8 by decide) (kj_abs hr h0) (fun v m1 hv => ?_) (fun E m1 hE => nomatch hE.2)
  obtain ⟨hm, hv⟩ := hv
  cases hv
  have h2 : kLook xm m1 r = some (.inl (4, [.int 0, v1, v2])) := by rw [hm, kLook_set, if_pos ⟨hr, rfl, hl⟩]
  refine wp_run 2 (pc' := 8) (lv' := [(0, .ref r)]) (st' := [.ref 1, .ref r]) (mem' := m1) rfl ?_
  refine wp_pf rfl h2 hr (show 1 < 3 by decide) rfl ?_
  exact wp_end (o := .inl none) rfl rfl ⟨by rw [hm, List.set_set]; rfl, rfl⟩
theorem kj_size1 (n x : Int32) : kCa xm kSm kDfl kFty kG 1 186 [.int n, .int x] mem (fun o m1 => m1 = mem ∧ o = .inl (some (.int (if n < x then x else n)))) := by
  refine ca_of (show 2 ≤ 2 from Nat.le_refl 2) ?_
  refine wp_run 2 (pc' := 2) (lv' := [(0, .int n), (1, .int x)]) (st' := [.int x, .int n]) (mem' := mem) rfl ?_
  refine wp_icmp rfl (fun g => ?_) (fun g => ?_)
  · have g : n < x := by simpa [kIf] using g
    refine wp_run 1 (lv' := [(0, .int n), (1, .int x)]) (st' := [.int x]) (mem' := mem) rfl ?_
    exact wp_end (o := .inl (some (.int x))) (m1 := mem) rfl rfl ⟨rfl, by rw [if_pos g]⟩
  · have g : ¬ n < x := by simpa [kIf] using g
    refine wp_run 2 (lv' := [(0, .int n), (1, .int x)]) (st' := [.int n]) (mem' := mem) rfl ?_
    exact wp_end (o := .inl (some (.int n))) (m1 := mem) rfl rfl ⟨rfl, by rw [if_neg g]⟩
theorem kj_min (n x : Int32) : kCa xm kSm kDfl kFty kG 1 187 [.int n, .int x] mem (fun o m1 => m1 = mem ∧ o = .inl (some (.int (if x < n then x else n)))) := by
  refine ca_of (show 2 ≤ 2 from Nat.le_refl 2) ?_
  refine wp_run 2 (pc' := 2) (lv' := [(0, .int n), (1, .int x)]) (st' := [.int x, .int n]) (mem' := mem) rfl ?_
  refine wp_icmp rfl (fun g => ?_) (fun g => ?_)
  · have g : x < n := by simpa [kIf] using g
    refine wp_run 1 (lv' := [(0, .int n), (1, .int x)]) (st' := [.int x]) (mem' := mem) rfl ?_
    exact wp_end (o := .inl (some (.int x))) (m1 := mem) rfl rfl ⟨rfl, by rw [if_pos g]⟩
  · have g : ¬ x < n := by simpa [kIf] using g
    refine wp_run 2 (lv' := [(0, .int n), (1, .int x)]) (st' := [.int n]) (mem' := mem) rfl ?_
    exact wp_end (o := .inl (some (.int n))) (m1 := mem) rfl rfl ⟨rfl, by rw [if_neg g]⟩
theorem kLook_app {l : kM} {e : kE} (h : kLook xm mem r = some e) : kLook xm (mem ++ l) r = some e := by
  unfold kLook at h ⊢
  by_cases h1 : r < 1000
  · rw [if_pos h1] at h ⊢; exact h
  · rw [if_neg h1] at h ⊢
    rw [List.getElem?_append_left (List.getElem?_eq_some_iff.mp h).1]
    exact h
theorem kj_lnew {e : kE} : kLook xm (mem ++ [e]) (kNew mem) = some e := by
  unfold kLook kNew
  rw [if_neg (by omega)]
  simp
theorem kNat_of {k : Nat} (h : k < 2 ^ 31) : (Int32.ofNat k).toNatClampNeg = k := by
  unfold Int32.toNatClampNeg
  rw [Int32.toInt_ofNat_of_lt h]
  simp
theorem kStOk_app {l : kM} {t : Nat} {z : Option Nat} (h : kStOk xm mem t z = true) : kStOk xm (mem ++ l) t z = true := by
  cases z with
  | none => rfl
  | some r =>
    unfold kStOk at h ⊢
    cases hk : kLook xm mem r with
    | none => simp [hk] at h
    | some e => simp only [hk] at h; simp only [kLook_app hk]; exact h
theorem kCpy_all {qs : List (Option Nat)} {N : Nat} : kCpy qs (List.replicate N none) 0 0 qs.length = qs ++ List.replicate (N - qs.length) none := by
  unfold kCpy
  simp
theorem kj_copy (h1 : kLook xm mem q = some (.inr (.inr (2, qs)))) (hx : 0 ≤ x) (hN : x.toNatClampNeg ≤ 16777216) (hle : ¬ x < Int32.ofNat qs.length) (hl : qs.length ≤ x.toNatClampNeg) (hq : 1000 ≤ q ∨ qs = []) (hs : ∀ z ∈ qs, kStOk xm mem 2 z = true) :
    kCa xm kSm kDfl kFty kG 2 229 [.ref q, .int x, .ref 2] mem (fun o m1 => m1 = mem ++ [.inr (.inr (2, qs ++ List.replicate (x.toNatClampNeg - qs.length) none))] ∧ o = .inl (some (.ref (kNew mem)))) := by
  have hb : qs.length < 2 ^ 31 := by omega
  refine ca_of (show 3 ≤ 4 by decide) ?_
  refine wp_run 4 (pc' := 7) (lv' := [(0, .ref q), (1, .int x), (2, .ref 2)]) (st' := [.int x]) (mem' := mem) rfl ?_
  refine wp_ana rfl hx hN ?_
  have g1 := kLook_app (l := [.inr (.inr (2, List.replicate x.toNatClampNeg none))]) h1
  have g2 := kj_lnew (xm := xm) (mem := mem) (e := .inr (.inr (2, List.replicate x.toNatClampNeg none)))
  refine wp_run 7 (pc' := 30) (lv' := [(3, .ref (kNew mem)), (0, .ref q), (1, .int x), (2, .ref 2)]) (st' := [.ref q, .int 0, .ref (kNew mem), .int 0, .ref q]) rfl ?_
  refine wp_lenQ rfl g1 (Or.inl rfl) ?_
  refine wp_run 1 (pc' := 32) (lv' := [(3, .ref (kNew mem)), (0, .ref q), (1, .int x), (2, .ref 2)]) (st' := [.int x, .int (Int32.ofNat qs.length), .int 0, .ref (kNew mem), .int 0, .ref q]) rfl ?_
  refine wp_is (y := 187) (b := 2) (len := 3) (as := [.int (Int32.ofNat qs.length), .int x]) (rest := [.int 0, .ref (kNew mem), .int 0, .ref q]) rfl rfl rfl ⟨by decide, rfl, rfl⟩ (show 4 ≤ 8 by decide) (kj_min _ _) (fun v m1 hv => ?_) (fun E m1 hE => nomatch hE.2)
  obtain ⟨rfl, hv⟩ := hv
  cases hv
  rw [if_neg hle]
  have e0 : (0 : Int32).toNatClampNeg = 0 := by decide
  have en := kNat_of hb
  refine wp_cpyQ rfl g1 g2 (Or.inl rfl) (Or.inl rfl) (hq.imp id fun h => by rw [h]; rfl) (by unfold kNew; omega) ?_ ?_ (show 0 ≤ 90 by decide) ?_
  · have n0 : ¬ (Int32.ofNat qs.length) < 0 := by
      intro h
      have := Int32.lt_iff_toInt_lt.mp h
      rw [Int32.toInt_ofNat_of_lt hb] at this
      have e : (0 : Int32).toInt = 0 := by decide
      omega
    unfold kOkR
    rw [e0, en]
    simp [n0, hl]
  · intro z hz
    exact kStOk_app (hs z (by rw [e0, en] at hz; simpa using hz))
  · rw [e0, en, kCpy_all]
    refine wp_run 1 (pc' := 39) (lv' := [(3, .ref (kNew mem)), (0, .ref q), (1, .int x), (2, .ref 2)]) (st' := [.ref (kNew mem)]) rfl ?_
    refine wp_end (o := .inl (some (.ref (kNew mem)))) rfl rfl ⟨?_, rfl⟩
    unfold kNew
    simp
end KJDK
