/-! ===== a property of its own: what holds of the contents ===== -/
def fOk (i : Nat) (f : kLf) : Prop := ∃ k h w : Nat, f.1 = Int32.ofNat k ∧ f.2.2.2.1 = Int32.ofNat h ∧ f.2.2.2.2.2 = Int32.ofNat w ∧ k ≤ 5 ∧ 1 ≤ h ∧ h ≤ i + 1 ∧ w ≤ 3 ∧ ((k = 1 ∨ k = 2) ↔ 1 < h) ∧ ((k = 1 ∨ k = 2) ↔ w = 1) ∧ (3 < k → 2 ≤ w) ∧ (k = 0 ∨ k = 3 → w = 0)
def pLo (lo : List kLf) : Prop := ∀ (i : Nat) (f : kLf), lo[i]? = some f → fOk i f
def rOk (z : List Int32) : Prop := z.length = 4 ∧ ∃ d e : Nat, z.getD 1 0 = Int32.ofNat d ∧ z.getD 2 0 = Int32.ofNat e ∧ e ≤ d ∧ d ≤ 20000
def pSt (B R : Nat) (lo : List kLf) (s : aS) : Prop := ∃ a b n r : Nat, s.2.2.2.1 = [Int32.ofNat a, Int32.ofNat b, 0, 0] ∧ s.2.2.2.2 6 = Int32.ofNat n ∧ s.2.2.2.2 5 = Int32.ofNat r ∧ a + b + 2 * n ≤ B ∧ r ≤ R ∧ n ≤ lo.length ∧ (∀ (i : Nat) (f : kLf), i < n → lo[i]? = some f → ∃ q : Nat, f.2.2.1 = Int32.ofNat q ∧ q ≤ r) ∧ ∀ z ∈ s.2.2.1, rOk z
def yOf (s : aS) : Nat := (s.2.2.2.1.getD 0 0).toNatClampNeg + (s.2.2.2.1.getD 1 0).toNatClampNeg
/-- loops, bound off, past and now, between calls: no more yarn than there was, no more loops than yarn for them -/
def PJ (B R : Nat) (lo : List kLf) (bo : List Int32) (ps : List aS) (st : aS) : Prop := pLo lo ∧ bo.Nodup ∧ (∀ s ∈ ps ++ [st], pSt B R lo s) ∧ ps.Pairwise (fun p s => yOf s ≤ yOf p) ∧ ∀ p ∈ ps, yOf st ≤ yOf p
/-- within a call -/
def pW (B R : Nat) (w : aW) : Prop := pLo w.1 ∧ pSt B R w.1 w.2.2 ∧ w.2.2.2.2.2.2 6 = Int32.ofNat w.1.length ∧ ∀ v ∈ w.2.2.1, aId w.1.length v
def pR (w w' : aW) : Prop := (∃ t, w'.1 = w.1 ++ t) ∧ yOf w'.2.2 ≤ yOf w.2.2
section PA
variable {B R n k j i s : Nat} {jo x k1 k2 k3 kk : Int32} {lo : List kLf} {bo pa vl vr ya vl' vr' : List Int32} {ps : List aS} {rs rs' : List (List Int32)} {sc sc' : Nat → Int32} {st st' p : aS} {w w' w'' : aW} {f : kLf} {z : List Int32}
theorem pR.refl : pR w w := ⟨⟨[], (List.append_nil _).symm⟩, Nat.le_refl _⟩
theorem pR.trans (h1 : pR w w') (h2 : pR w' w'') : pR w w'' := by
  obtain ⟨⟨t1, e1⟩, y1⟩ := h1
  obtain ⟨⟨t2, e2⟩, y2⟩ := h2
  exact ⟨⟨t1 ++ t2, by rw [e2, e1, List.append_assoc]⟩, Nat.le_trans y2 y1⟩
theorem pSt.app {t : List kLf} (h : pSt B R lo st) : pSt B R (lo ++ t) st := by
  obtain ⟨a, b, n, r, h1, h2, h3, h4, h5, h6, h7, h8⟩ := h
  refine ⟨a, b, n, r, h1, h2, h3, h4, h5, by rw [List.length_append]; omega, fun i f hi hf => ?_, h8⟩
  rw [List.getElem?_append_left (by omega)] at hf
  exact h7 i f hi hf
theorem pSt.up {R' : Nat} (h : pSt B R lo st) (hR : R ≤ R') : pSt B R' lo st := by
  obtain ⟨a, b, n, r, h1, h2, h3, h4, h5, h6, h7, h8⟩ := h
  exact ⟨a, b, n, r, h1, h2, h3, h4, by omega, h6, h7, h8⟩
theorem pSt.upB {B' : Nat} (h : pSt B R lo st) (hB : B ≤ B') : pSt B' R lo st := by
  obtain ⟨a, b, n, r, h1, h2, h3, h4, h5, h6, h7, h8⟩ := h
  exact ⟨a, b, n, r, h1, h2, h3, by omega, h5, h6, h7, h8⟩
theorem pLo.app (h : pLo lo) (hf : fOk lo.length f) : pLo (lo ++ [f]) := by
  intro i g hg
  by_cases e : i < lo.length
  · rw [List.getElem?_append_left e] at hg
    exact h i g hg
  · have hl := (List.getElem?_eq_some_iff.mp hg).1
    rw [List.length_append, List.length_singleton] at hl
    have e : i = lo.length := by omega
    subst e
    rw [List.getElem?_append_right (Nat.le_refl _), Nat.sub_self] at hg
    cases hg
    exact hf
theorem rOk.fall (h : rOk z) : rOk (kFall z) := by
  obtain ⟨h4, d, e, h1, h2, h3, h5⟩ := h
  unfold kFall
  split
  · refine ⟨by rw [List.length_set]; exact h4, d, if e + 1 < d then e + 1 else d, ?_, ?_, by split <;> omega, h5⟩
    · rw [List.getD_eq_getElem?_getD, List.getElem?_set_ne (by decide), ← List.getD_eq_getElem?_getD]
      exact h1
    · rw [List.getD_eq_getElem?_getD, List.getElem?_set_self (by omega)]
      show (if z.getD 2 0 + 1 < z.getD 1 0 then z.getD 2 0 + 1 else z.getD 1 0) = _
      rw [h1, h2, i_add1]
      by_cases g : e + 1 < d
      · rw [if_pos g, if_pos ((i_lt (by omega) (by omega)).mpr g)]
      · rw [if_neg g, if_neg (fun w => g ((i_lt (by omega) (by omega)).mp w))]
  · exact ⟨h4, d, e, h1, h2, h3, h5⟩
/-- the ball that is joined, its yarn -/
theorem pSt.bal (h : pSt B R lo st) (hj : j < 2) : ∃ q : Nat, st.2.2.2.1.getD j 0 = Int32.ofNat q ∧ q ≤ B := by
  obtain ⟨a, b, n, r, h1, h2, h3, h4, -⟩ := h
  rw [h1]
  rcases (show j = 0 ∨ j = 1 by omega) with rfl | rfl
  · exact ⟨a, rfl, by omega⟩
  · exact ⟨b, rfl, by omega⟩
theorem pSt.spend {q : Nat} (h : pSt B R lo (vl, vr, rs, ya, sc)) (hB : B ≤ 20000) (hj : j < 2) (hq : ya.getD j 0 = Int32.ofNat q) (hk : k ≤ q) (hqB : q ≤ B) : pSt (B - k) R lo (vl, vr, rs, ya.set j (ya.getD j 0 - Int32.ofNat k), sc) ∧ yOf (vl, vr, rs, ya.set j (ya.getD j 0 - Int32.ofNat k), sc) + k = yOf (vl, vr, rs, ya, sc) := by
  obtain ⟨a, b, n, r, h1, h2, h3, h4, h5, h6, h7, h8⟩ := h
  dsimp only at h1 h2 h3 h7 h8
  subst h1
  rcases (show j = 0 ∨ j = 1 by omega) with rfl | rfl
  · have e : q = a := ((i_eq (show a < 2 ^ 31 by omega) (show q < 2 ^ 31 by omega)).mp hq).symm
    subst e
    have e2 : [Int32.ofNat q, Int32.ofNat b, 0, 0].set 0 ([Int32.ofNat q, Int32.ofNat b, 0, 0].getD 0 0 - Int32.ofNat k) = [Int32.ofNat (q - k), Int32.ofNat b, 0, 0] := by
      show [Int32.ofNat q - Int32.ofNat k, Int32.ofNat b, 0, 0] = _
      rw [i_sub hk]
    rw [e2]
    refine ⟨⟨q - k, b, n, r, rfl, h2, h3, by omega, h5, h6, h7, h8⟩, ?_⟩
    show (Int32.ofNat (q - k)).toNatClampNeg + (Int32.ofNat b).toNatClampNeg + k = (Int32.ofNat q).toNatClampNeg + (Int32.ofNat b).toNatClampNeg
    rw [i_nat (by omega), i_nat (by omega), i_nat (by omega)]
    omega
  · have e : q = b := ((i_eq (show b < 2 ^ 31 by omega) (show q < 2 ^ 31 by omega)).mp hq).symm
    subst e
    have e2 : [Int32.ofNat a, Int32.ofNat q, 0, 0].set 1 ([Int32.ofNat a, Int32.ofNat q, 0, 0].getD 1 0 - Int32.ofNat k) = [Int32.ofNat a, Int32.ofNat (q - k), 0, 0] := by
      show [Int32.ofNat a, Int32.ofNat q - Int32.ofNat k, 0, 0] = _
      rw [i_sub hk]
    rw [e2]
    refine ⟨⟨a, q - k, n, r, rfl, h2, h3, by omega, h5, h6, h7, h8⟩, ?_⟩
    show (Int32.ofNat a).toNatClampNeg + (Int32.ofNat (q - k)).toNatClampNeg + k = (Int32.ofNat a).toNatClampNeg + (Int32.ofNat q).toNatClampNeg
    rw [i_nat (by omega), i_nat (by omega), i_nat (by omega)]
    omega
theorem pSt.make {q : Nat} (h : pSt B R lo (vl, vr, rs, ya, sc)) (hm : sc 6 = Int32.ofNat lo.length) (hlo : lo.length < 20000) (hB : B ≤ 20000) (hj : j < 2) (hq : ya.getD j 0 = Int32.ofNat q) (hqB : q ≤ B) (h2k : 2 ≤ k) (hk : k ≤ q) (hf : f.2.2.1 = sc 5) : pSt B R (lo ++ [f]) (vl', vr', rs.map kFall, ya.set j (ya.getD j 0 - Int32.ofNat k), kUp sc 6 (sc 6 + 1)) ∧ yOf (vl', vr', rs.map kFall, ya.set j (ya.getD j 0 - Int32.ofNat k), kUp sc 6 (sc 6 + 1)) + k = yOf (vl, vr, rs, ya, sc) := by
  obtain ⟨h1, hy⟩ := h.spend hB hj hq hk hqB
  refine ⟨?_, hy⟩
  obtain ⟨a, b, n, r, h1, h2, h3, h4, h5, h6, h7, h8⟩ := h1
  dsimp only at h1 h2 h3 h7 h8
  have en : n = lo.length := (i_eq (by omega) (by omega)).mp (h2.symm.trans hm)
  refine ⟨a, b, n + 1, r, h1, ?_, ?_, by omega, h5, by rw [List.length_append, List.length_singleton]; omega, fun i g hi hg => ?_, fun z hz => ?_⟩
  · show kUp sc 6 (sc 6 + 1) 6 = _
    rw [kUp_eq, h2, i_add1]
  · show kUp sc 6 (sc 6 + 1) 5 = _
    rw [kUp_ne (by decide)]
    exact h3
  · by_cases e : i < lo.length
    · rw [List.getElem?_append_left e] at hg
      exact h7 i g (by omega) hg
    · have e : i = lo.length := by omega
      subst e
      rw [List.getElem?_append_right (Nat.le_refl _), Nat.sub_self] at hg
      cases hg
      exact ⟨r, hf.trans h3, Nat.le_refl _⟩
  · obtain ⟨z', hz', rfl⟩ := List.mem_map.mp hz
    exact (h8 z' hz').fall
theorem bY_j (hj : jo = Int32.ofNat j) (hj2 : j < 2) : bY jo ya = ya.getD j 0 := by
  unfold bY
  rw [if_neg (by rw [hj]; exact id_ne hj2 (by decide)), hj, i_nat (by omega)]
theorem pW.q (W : pW B R w) (hB : B ≤ 20000) (hj : jo = Int32.ofNat j) (hj2 : j < 2) : ∃ q : Nat, bY jo w.2.2.2.2.2.1 = Int32.ofNat q ∧ q ≤ B := by
  obtain ⟨q, h1, h2⟩ := W.2.1.bal hj2
  exact ⟨q, (bY_j hj hj2).trans h1, h2⟩
theorem pW.make {q : Nat} (W : pW B R (lo, bo, (vl, vr, rs, ya, sc))) (hlo : lo.length < 20000) (hB : B ≤ 20000) (hj : jo = Int32.ofNat j) (hj2 : j < 2) (hq : bY jo ya = Int32.ofNat q) (hqB : q ≤ B) (h2k : 2 ≤ k) (hk : k ≤ q) (hf : fOk lo.length (k1, jo, sc 5, k2, sc 4, k3)) : pW B R (zMake jo k1 k2 k3 (Int32.ofNat k) (lo, bo, (vl, vr, rs, ya, sc))) ∧ pR (lo, bo, (vl, vr, rs, ya, sc)) (zMake jo k1 k2 k3 (Int32.ofNat k) (lo, bo, (vl, vr, rs, ya, sc))) ∧ yOf (zMake jo k1 k2 k3 (Int32.ofNat k) (lo, bo, (vl, vr, rs, ya, sc))).2.2 + k = yOf (vl, vr, rs, ya, sc) := by
  obtain ⟨w1, w2, w3, w4⟩ := W
  dsimp only at w1 w2 w3 w4
  rw [bY_j hj hj2] at hq
  rw [zMake_eq hj (by omega)]
  obtain ⟨m1, m2⟩ := w2.make (vl' := vl) (vr' := vr ++ [sc 6]) (f := (k1, jo, sc 5, k2, sc 4, k3)) w3 hlo hB hj2 hq hqB h2k hk rfl
  refine ⟨⟨w1.app hf, m1, ?_, fun v hv => (w4 v hv).mono (by rw [List.length_append]; omega)⟩, ⟨⟨_, rfl⟩, by dsimp only; omega⟩, m2⟩
  show kUp sc 6 (sc 6 + 1) 6 = Int32.ofNat (lo ++ [_]).length
  rw [kUp_eq, w3, i_add1, List.length_append, List.length_singleton]
/-- other loops on the left needle, other numbers but those that count -/
theorem pW.move {bo' : List Int32} (W : pW B R (lo, bo, (vl, vr, rs, ya, sc))) (h : ∀ v ∈ vl', v ∈ vl) (h5 : sc' 5 = sc 5) (h6 : sc' 6 = sc 6) : pW B R (lo, bo', (vl', vr', rs, ya, sc')) := by
  obtain ⟨w1, ⟨a, b, n, r, h1, h2, h3, h4, h7⟩, w3, w4⟩ := W
  dsimp only at w1 h1 h2 h3 w3 w4
  exact ⟨w1, ⟨a, b, n, r, h1, h6.trans h2, h5.trans h3, h4, h7⟩, h6.trans w3, fun v hv => w4 v (h v hv)⟩
theorem zHeight_at (hl : pLo lo) (hi : i < lo.length) (h31 : lo.length < 2 ^ 31) : ∃ q : Nat, zHeight lo (Int32.ofNat i) = Int32.ofNat q ∧ 1 ≤ q ∧ q ≤ i + 1 := by
  obtain ⟨k, q, w, -, h2, -, -, h4, h5, -⟩ := hl i lo[i] (List.getElem?_eq_getElem hi)
  refine ⟨q, ?_, h4, h5⟩
  unfold zHeight
  rw [i_nat (by omega), List.getD_eq_getElem?_getD, List.getElem?_eq_getElem hi]
  exact h2
theorem pW.work {q c : Nat} (W : pW B R w) (hlo : w.1.length < 20000) (hB : B ≤ 20000) (hj : jo = Int32.ofNat j) (hj2 : j < 2) (hq : bY jo w.2.2.2.2.2.1 = Int32.ofNat q) (hqB : q ≤ B) (hk : 4 ≤ q) (h1 : 1 ≤ w.2.2.1.length) (hc : c = 1 ∨ c = 2) : pW B R (zWork jo (Int32.ofNat c) w) ∧ pR w (zWork jo (Int32.ofNat c) w) ∧ yOf (zWork jo (Int32.ofNat c) w).2.2 + 4 = yOf w.2.2 := by
  obtain ⟨lo, bo, vl, vr, rs, ya, sc⟩ := w
  dsimp only at hlo hq h1
  obtain ⟨wl, v, rfl⟩ := len_ne (l := vl) (fun z => by rw [z] at h1; exact absurd h1 (by decide))
  obtain ⟨i, rfl, hi⟩ := W.2.2.2 v (List.mem_append_right _ (List.mem_singleton.mpr rfl))
  dsimp only at hi
  obtain ⟨h, e1, e2, e3⟩ := zHeight_at W.1 hi (by dsimp only; omega)
  have ez : zWork jo (Int32.ofNat c) (lo, bo, (wl ++ [Int32.ofNat i], vr, rs, ya, sc)) = zMake jo (Int32.ofNat c) (Int32.ofNat (h + 1)) 1 4 (lo, bo, (wl, vr, rs, ya, sc)) := by
    show zMake jo (Int32.ofNat c) (zHeight lo ((wl ++ [Int32.ofNat i]).getLastD 0) + 1) 1 4 (lo, bo, ((wl ++ [Int32.ofNat i]).dropLast, vr, rs, ya, sc)) = _
    rw [List.getLastD_concat, List.dropLast_concat, e1, i_add1]
  rw [ez]
  have W1 : pW B R (lo, bo, (wl, vr, rs, ya, sc)) := W.move (fun v hv => List.mem_append_left _ hv) rfl rfl
  exact W1.make (k := 4) (k3 := 1) hlo hB hj hj2 hq hqB (by decide) hk ⟨c, h + 1, 1, rfl, rfl, rfl, by omega, by omega, by omega, by decide, ⟨fun _ => by omega, fun _ => hc⟩, ⟨fun _ => rfl, fun _ => hc⟩, fun _ => by omega, fun _ => by omega⟩
theorem pW.over {q : Nat} (W : pW B R w) (hlo : w.1.length < 20000) (hB : B ≤ 20000) (hj : jo = Int32.ofNat j) (hj2 : j < 2) (hq : bY jo w.2.2.2.2.2.1 = Int32.ofNat q) (hqB : q ≤ B) (hk : 3 ≤ q) : pW B R (zOver jo w) ∧ pR w (zOver jo w) ∧ yOf (zOver jo w).2.2 + 3 = yOf w.2.2 := by
  obtain ⟨lo, bo, vl, vr, rs, ya, sc⟩ := w
  have W1 : pW B R (lo, bo, (vl, vr, rs, ya, kUp sc 8 (sc 8 + 1))) := W.move (fun v hv => hv) rfl rfl
  exact W1.make (k := 3) (k1 := 3) (k2 := 1) (k3 := 0) hlo hB hj hj2 hq hqB (by decide) hk ⟨3, 1, 0, rfl, rfl, rfl, by decide, by decide, by omega, by decide, by decide, by decide, by decide, by decide⟩
theorem pW.tog {q c : Nat} (W : pW B R w) (hlo : w.1.length < 20000) (hB : B ≤ 20000) (hj : jo = Int32.ofNat j) (hj2 : j < 2) (hq : bY jo w.2.2.2.2.2.1 = Int32.ofNat q) (hqB : q ≤ B) (hk : 5 ≤ q) (hc : c = 4 ∨ c = 5) (hn : n = 2 ∨ n = 3) : pW B R (zTog jo n (Int32.ofNat c) w) ∧ pR w (zTog jo n (Int32.ofNat c) w) ∧ yOf (zTog jo n (Int32.ofNat c) w).2.2 + 5 = yOf w.2.2 := by
  obtain ⟨lo, bo, vl, vr, rs, ya, sc⟩ := w
  have W1 : pW B R (lo, bo, (vl.take (vl.length - n), vr, rs, ya, sc)) := W.move (fun v hv => List.mem_of_mem_take hv) rfl rfl
  exact W1.make (k := 5) (k1 := Int32.ofNat c) (k2 := 1) (k3 := Int32.ofNat n) hlo hB hj hj2 hq hqB (by decide) hk ⟨c, 1, n, rfl, rfl, rfl, by omega, by decide, by omega, by omega, by omega, by omega, fun _ => by omega, fun _ => by omega⟩
theorem pW.slip (W : pW B R w) : pW B R (zSlip w) ∧ pR w (zSlip w) := by
  obtain ⟨lo, bo, vl, vr, rs, ya, sc⟩ := w
  refine ⟨W.move (fun v hv => ?_) rfl rfl, ⟨⟨[], (List.append_nil _).symm⟩, Nat.le_refl _⟩⟩
  by_cases e : vl = []
  · rw [e] at hv
    exact absurd hv List.not_mem_nil
  · obtain ⟨wl, x, rfl⟩ := len_ne e
    rw [List.dropLast_concat] at hv
    exact List.mem_append_left _ hv
theorem zCrossL_mem {n1 n2 : Nat} {v : Int32} (h : v ∈ zCrossL n1 n2 vl) : v ∈ vl := by
  unfold zCrossL at h
  rcases List.mem_append.mp h with h | h
  · rcases List.mem_append.mp h with h | h
    · exact List.mem_of_mem_take h
    · exact List.mem_of_mem_drop (List.mem_of_mem_drop h)
  · exact List.mem_of_mem_drop (List.mem_of_mem_take h)
theorem pW.cross {n1 n2 : Nat} (W : pW B R w) : pW B R (zCross n1 n2 w) ∧ pR w (zCross n1 n2 w) := by
  obtain ⟨lo, bo, vl, vr, rs, ya, sc⟩ := w
  exact ⟨W.move (fun v hv => zCrossL_mem hv) rfl rfl, ⟨⟨[], (List.append_nil _).symm⟩, Nat.le_refl _⟩⟩
theorem q_of {q q' t : Nat} {y : Int32} (h : y = Int32.ofNat q - Int32.ofNat t) (h2 : y = Int32.ofNat q') (ht : t ≤ q) (hq : q < 2 ^ 31) (hq' : q' < 2 ^ 31) : q' = q - t := by
  rw [i_sub ht] at h
  exact ((i_eq (by omega) hq').mp (h.symm.trans h2)).symm
theorem pW.step {q : Nat} (W : pW B R w) (hlo : w.1.length + 3 ≤ 20000) (hB : B ≤ 20000) (hj : jo = Int32.ofNat j) (hj2 : j < 2) (hq : bY jo w.2.2.2.2.2.1 = Int32.ofNat q) (hqB : q ≤ B) (h1 : 1 ≤ s) (h9 : s ≤ 9) (hk : aTake s ≤ q) (hw : aWant s ≤ w.2.2.1.length) (h4 : w.2.2.2.2.2.1.length = 4) : pW B R (zStep jo s w) ∧ pR w (zStep jo s w) ∧ yOf (zStep jo s w).2.2 + aTake s = yOf w.2.2 := by
  rcases (show s = 1 ∨ s = 2 ∨ s = 3 ∨ s = 4 ∨ s = 5 ∨ s = 6 ∨ s = 7 ∨ s = 8 ∨ s = 9 by omega) with rfl | rfl | rfl | rfl | rfl | rfl | rfl | rfl | rfl
  · exact W.work (c := 1) (by omega) hB hj hj2 hq hqB hk hw (Or.inl rfl)
  · exact W.work (c := 2) (by omega) hB hj hj2 hq hqB hk hw (Or.inr rfl)
  · exact W.over (by omega) hB hj hj2 hq hqB hk
  · exact W.tog (c := 4) (n := 2) (by omega) hB hj hj2 hq hqB hk (Or.inl rfl) (Or.inl rfl)
  · exact W.tog (c := 5) (n := 2) (by omega) hB hj hj2 hq hqB hk (Or.inr rfl) (Or.inl rfl)
  · obtain ⟨a1, a2⟩ := W.slip
    refine ⟨a1, a2, ?_⟩
    obtain ⟨lo, bo, vl, vr, rs, ya, sc⟩ := w
    rfl
  · obtain ⟨a1, a2⟩ := W.cross (n1 := 1) (n2 := 1)
    refine ⟨a1, a2, ?_⟩
    obtain ⟨lo, bo, vl, vr, rs, ya, sc⟩ := w
    rfl
  · exact W.tog (c := 4) (n := 3) (by omega) hB hj hj2 hq hqB hk (Or.inl rfl) (Or.inr rfl)
  · have hk : 11 ≤ q := hk
    have hw : 2 ≤ w.2.2.1.length := hw
    obtain ⟨a1, a2, a3, a4, a5, a6⟩ := zNum_work (kk := 1) (w := w) hj (by omega) h4 (by omega)
    obtain ⟨b1, b2, b3, b4, b5, b6⟩ := zNum_over (w := zWork jo 1 w) hj (by omega) a5
    obtain ⟨W1, R1, y1⟩ := W.work (c := 1) (by omega) hB hj hj2 hq hqB (by omega) (by omega) (Or.inl rfl)
    obtain ⟨q1, hq1, hq1B⟩ := W1.q hB hj hj2
    rw [hq] at a6
    have e1 : q1 = q - 4 := q_of (t := 4) a6 hq1 (by omega) (by omega) (by omega)
    obtain ⟨W2, R2, y2⟩ := W1.over (by rw [show (zWork jo (Int32.ofNat 1) w).1.length = _ from a1]; omega) hB hj hj2 hq1 hq1B (by omega)
    obtain ⟨q2, hq2, hq2B⟩ := W2.q hB hj hj2
    rw [show bY jo (zWork jo 1 w).2.2.2.2.2.1 = _ from hq1] at b6
    have e2 : q2 = q1 - 3 := q_of (t := 3) b6 hq2 (by omega) (by omega) (by omega)
    obtain ⟨W3, R3, y3⟩ := W2.work (c := 1) (by rw [show (zOver jo (zWork jo (Int32.ofNat 1) w)).1.length = _ from b1, a1]; omega) hB hj hj2 hq2 hq2B (by omega) (by rw [show (zOver jo (zWork jo (Int32.ofNat 1) w)).2.2.1.length = _ from b3, a3]; omega) (Or.inl rfl)
    refine ⟨W3, R1.trans (R2.trans R3), ?_⟩
    show yOf (zWork jo 1 (zOver jo (zWork jo 1 w))).2.2 + 11 = yOf w.2.2
    have y1 : yOf (zWork jo 1 w).2.2 + 4 = yOf w.2.2 := y1
    have y2 : yOf (zOver jo (zWork jo 1 w)).2.2 + 3 = yOf (zWork jo 1 w).2.2 := y2
    have y3 : yOf (zWork jo 1 (zOver jo (zWork jo 1 w))).2.2 + 4 = yOf (zOver jo (zWork jo 1 w)).2.2 := y3
    omega
theorem pW.cast : ∀ (n : Nat) (w : aW) (q : Nat), pW B R w → w.1.length + n ≤ 20000 → B ≤ 20000 → jo = Int32.ofNat j → j < 2 → w.2.2.2.2.2.1.length = 4 → bY jo w.2.2.2.2.2.1 = Int32.ofNat q → q ≤ B → 2 * n ≤ q → pW B R (zIter (zMake jo 0 1 0 2) n w) ∧ pR w (zIter (zMake jo 0 1 0 2) n w) ∧ yOf (zIter (zMake jo 0 1 0 2) n w).2.2 + 2 * n = yOf w.2.2 ∧ (zIter (zMake jo 0 1 0 2) n w).1.length = w.1.length + n := by
  intro n
  induction n with
  | zero => intro w q W _ _ _ _ _ _ _ _; exact ⟨W, pR.refl, rfl, rfl⟩
  | succ n ih =>
    intro w q W hlo hB hj hj2 h4 hq hqB hk
    obtain ⟨a1, a2, a3, a4, a5⟩ := zMake_all jo 0 1 0 2 w
    have e6 : bY jo (zMake jo 0 1 0 2 w).2.2.2.2.2.1 = bY jo w.2.2.2.2.2.1 - 2 := (congrArg (bY jo) a5).trans (bY_set hj (by omega) h4)
    have W1 : pW B R (zMake jo 0 1 0 2 w) ∧ pR w (zMake jo 0 1 0 2 w) ∧ yOf (zMake jo 0 1 0 2 w).2.2 + 2 = yOf w.2.2 := by
      obtain ⟨lo, bo, vl, vr, rs, ya, sc⟩ := w
      exact W.make (k := 2) (k1 := 0) (k2 := 1) (k3 := 0) (by dsimp only at hlo; omega) hB hj hj2 hq hqB (by decide) (by omega) ⟨0, 1, 0, rfl, rfl, rfl, by decide, by decide, by omega, by decide, by decide, by decide, by decide, by decide⟩
    obtain ⟨W1, R1, y1⟩ := W1
    obtain ⟨q1, hq1, hq1B⟩ := W1.q hB hj hj2
    rw [hq] at e6
    have e1 : q1 = q - 2 := q_of (t := 2) e6 hq1 (by omega) (by omega) (by omega)
    obtain ⟨c1, c2, c3, c4⟩ := ih (zMake jo 0 1 0 2 w) q1 W1 (by omega) hB hj hj2 (by rw [a5, List.length_set]; exact h4) hq1 hq1B (by omega)
    refine ⟨c1, R1.trans c2, ?_, ?_⟩
    · show yOf (zIter (zMake jo 0 1 0 2) n (zMake jo 0 1 0 2 w)).2.2 + 2 * (n + 1) = _
      omega
    · show (zIter (zMake jo 0 1 0 2) n (zMake jo 0 1 0 2 w)).1.length = _
      omega
/-- following: what is done is as was tried, and keeps all -/
theorem pW.follow {v : Nat} (hB : B ≤ 20000) (hj : jo = Int32.ofNat j) (hj2 : j < 2) (hx : x.toNatClampNeg = v) (h1 : 1 ≤ v) (h2 : v ≤ 999999999) (nz : aNz v) : ∀ (k d : Nat) (w : aW) (e q : Nat), pW B R w → w.1.length + 3 * k ≤ 20000 → w.2.2.2.2.2.1.length = 4 → bY jo w.2.2.2.2.2.1 = Int32.ofNat q → q ≤ B → e + q ≤ B → pW B R (zFollow jo x k d w).2 ∧ pR w (zFollow jo x k d w).2 ∧ (zFollow jo x k d w).2.2.1 = w.2.1 ∧ (zTry v k d (w.2.2.1.length, w.2.2.1.length + w.2.2.2.1.length, bY jo w.2.2.2.2.2.1, Int32.ofNat e)).1.2.1 = (zFollow jo x k d w).2.2.2.1.length + (zFollow jo x k d w).2.2.2.2.1.length ∧ ∃ t : Nat, (zTry v k d (w.2.2.1.length, w.2.2.1.length + w.2.2.2.1.length, bY jo w.2.2.2.2.2.1, Int32.ofNat e)).1.2.2.2 = Int32.ofNat t ∧ t ≤ e + q ∧ yOf (zFollow jo x k d w).2.2.2 + t = yOf w.2.2 + e := by
  intro k
  induction k with
  | zero => intro d w e q W _ _ _ _ _; exact ⟨W, pR.refl, rfl, rfl, e, rfl, by omega, rfl⟩
  | succ k ih =>
    intro d w e q W hlo h4 hq hqB heB
    obtain ⟨d1, d9⟩ := pDg_ok (i := d) h1 h2 nz
    have hjj : jOk 2 jo := Or.inr ⟨j, hj, hj2⟩
    unfold zTry zFollow
    rw [hx, zCan_y hjj d1 d9]
    by_cases g : w.2.2.1.length = 0
    · rw [if_pos g, if_pos g]
      exact ⟨W, pR.refl, rfl, rfl, e, rfl, by omega, rfl⟩
    · rw [if_neg g, if_neg g]
      by_cases gc : zCan (pDg v (d % pLen v)) w.2.2.1.length (w.2.2.1.length + w.2.2.2.1.length) (bY jo w.2.2.2.2.2.1) = true
      · rw [if_pos gc, if_pos gc]
        obtain ⟨z1, z2, z3⟩ := zCan_all gc
        obtain ⟨u1, u2, u3, u4, u5, u6⟩ := aUse_le d1 d9
        have hb : aTake (pDg v (d % pLen v)) = 0 ∨ ∃ b : Nat, jo = Int32.ofNat b ∧ b < 4 := Or.inr ⟨j, hj, by omega⟩
        have hk : aTake (pDg v (d % pLen v)) ≤ q := by
          rcases z2 with z | z
          · omega
          · rw [hq] at z
            exact Nat.not_lt.mp fun w => z ((i_lt (by omega) (by omega)).mpr w)
        obtain ⟨n1, n2, n3, n4, n5, n6⟩ := zStep_num (w := w) d1 d9 z1 hb h4
        obtain ⟨W1, R1, y1⟩ := W.step (by omega) hB hj hj2 hq hqB d1 d9 hk z1 h4
        obtain ⟨q1, hq1, hq1B⟩ := W1.q hB hj hj2
        have e1 : q1 = q - aTake (pDg v (d % pLen v)) := q_of (t := aTake (pDg v (d % pLen v))) (by rw [n6, hq]) hq1 hk (by omega) (by omega)
        have ed : w.2.2.1.length - aUse (pDg v (d % pLen v)) + (zStep jo (pDg v (d % pLen v)) w).2.2.2.1.length = w.2.2.1.length + w.2.2.2.1.length + aGive (pDg v (d % pLen v)) - aUse (pDg v (d % pLen v)) := by omega
        obtain ⟨c1, c2, c3, c4, t, c5, c6, c7⟩ := ih (d + 1) (zStep jo (pDg v (d % pLen v)) w) (e + aTake (pDg v (d % pLen v))) q1 W1 (by omega) (by omega) hq1 hq1B (by omega)
        rw [n3, n6, ed, ← i_add] at c4 c5
        exact ⟨c1, R1.trans c2, c3.trans n2, c4, t, c5, by omega, by omega⟩
      · rw [if_neg gc, if_neg gc]
        exact ⟨W, pR.refl, rfl, rfl, e, rfl, by omega, rfl⟩
end PA
