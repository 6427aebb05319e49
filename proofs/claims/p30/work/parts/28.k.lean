/-! ===== the reference: what holds of its contents, and what one step does ===== -/
/-- a number of a loop that there is -/
def aId (n : Nat) (v : Int32) : Prop := ∃ i : Nat, v = Int32.ofNat i ∧ i < n
def aSt (n b : Nat) (st : aS) : Prop := aSw st ∧ st.1.length + st.2.1.length ≤ 24 ∧ (∀ v ∈ st.1, aId n v) ∧ (∀ v ∈ st.2.1, aId n v) ∧ (∀ z ∈ st.2.2.1, aId n (z.getD 0 0)) ∧ st.2.2.2.2 6 = Int32.ofNat n ∧ st.2.2.2.2 7 = Int32.ofNat b
/-- the past, the newest first: each with no more loops and no more bound off than the next -/
def aCh : Nat → Nat → List aS → Prop
  | _, _, [] => True
  | n, b, s :: r => ∃ n' b', n' ≤ n ∧ b' ≤ b ∧ aSt n' b' s ∧ aCh n' b' r
/-- a pattern: a number of at most nine digits, none of them 0 -/
def aNz (n : Nat) : Prop := ∀ i : Nat, 0 < n / 10 ^ i → n / 10 ^ i % 10 ≠ 0
def aPat (v : Int32) : Prop := ∃ n : Nat, v = Int32.ofNat n ∧ 1 ≤ n ∧ n ≤ 999999999 ∧ aNz n
def aInv (nb : Nat) (g : Nat → Int32) (lo : List kLf) (bo pa : List Int32) (ps : List aS) (st : aS) : Prop :=
  (g 6 = Int32.ofNat nb ∧ nb ≤ 4 ∧ (g 7 = -1 ∨ ∃ b : Nat, g 7 = Int32.ofNat b ∧ b < nb)) ∧ aSt lo.length bo.length st ∧ aCh lo.length bo.length ps.reverse ∧ ps.length ≤ 12 ∧ pa.length ≤ 6 ∧ (∀ v ∈ pa, aPat v)
section KK
variable {xm : Nat → Option kE} {mem : kM} {N M0 ck nb : Nat} {g : Nat → Int32} {sum : Int64} {lo : List kLf} {bo pa : List Int32} {ps : List aS} {vl vr ya : List Int32} {rs : List (List Int32)} {sc : Nat → Int32} {F : kSg}
theorem aId.mono {n m : Nat} {v : Int32} (h : aId n v) (hm : n ≤ m) : aId m v := by
  obtain ⟨i, h1, h2⟩ := h
  exact ⟨i, h1, by omega⟩
theorem kFall_0 {z : List Int32} : (kFall z).getD 0 0 = z.getD 0 0 := by
  unfold kFall
  split
  · cases z with
    | nil => rfl
    | cons a t => simp [List.getD]
  · rfl
theorem snoc_of {α : Type} {l : List α} (h : l ≠ []) : ∃ t v, l = t ++ [v] := ⟨l.dropLast, l.getLast h, (List.dropLast_concat_getLast h).symm⟩
theorem w_gL {K : Nat → dRes} {S : kO × kM → Prop} {st : aS} (W : WR xm M0 g sum lo bo pa ps st ck F mem) (h : dOk (K (M0 + 1)) S) : dOk (dGR xm mem M0 15 1 K) S := by
  obtain ⟨L, B, P, Q, c, cs, H, R, hck, hL, hB, hP, hQ⟩ := W
  exact ok_gR (H.look 0 0 rfl rfl) (show some (Value.ref L.1) = some (.ref (M0 + 1)) by rw [hL]) h
theorem w_gB {K : Nat → dRes} {S : kO × kM → Prop} {st : aS} (W : WR xm M0 g sum lo bo pa ps st ck F mem) (h : dOk (K (M0 + 2)) S) : dOk (dGR xm mem M0 15 2 K) S := by
  obtain ⟨L, B, P, Q, c, cs, H, R, hck, hL, hB, hP, hQ⟩ := W
  exact ok_gR (H.look 0 0 rfl rfl) (show some (Value.ref B.1) = some (.ref (M0 + 2)) by rw [hB]) h
theorem w_gP {K : Nat → dRes} {S : kO × kM → Prop} {st : aS} (W : WR xm M0 g sum lo bo pa ps st ck F mem) (h : dOk (K (M0 + 3)) S) : dOk (dGR xm mem M0 15 3 K) S := by
  obtain ⟨L, B, P, Q, c, cs, H, R, hck, hL, hB, hP, hQ⟩ := W
  exact ok_gR (H.look 0 0 rfl rfl) (show some (Value.ref P.1) = some (.ref (M0 + 3)) by rw [hP]) h
theorem w_gQ {K : Nat → dRes} {S : kO × kM → Prop} {st : aS} (W : WR xm M0 g sum lo bo pa ps st ck F mem) (h : dOk (K (M0 + 4)) S) : dOk (dGR xm mem M0 15 4 K) S := by
  obtain ⟨L, B, P, Q, c, cs, H, R, hck, hL, hB, hP, hQ⟩ := W
  exact ok_gR (H.look 0 0 rfl rfl) (show some (Value.ref Q.1) = some (.ref (M0 + 4)) by rw [hQ]) h
theorem w_rc {K : dRes} {S : kO × kM → Prop} {st : aS} (W : WR xm M0 g sum lo bo pa ps st ck F mem) (h : dOk K S) : dOk (dRc xm mem M0 15 K) S := by
  obtain ⟨fs, h1⟩ := W.hd
  exact ok_rc h1 h
/-- a number of the reference -/
theorem w_g {k : Nat} {K : Int32 → dRes} {S : kO × kM → Prop} {st : aS} (W : WR xm M0 g sum lo bo pa ps st ck F mem) (hk : k = 0 ∨ k = 6 ∨ k = 7) (h : dOk (K (g k)) S) : dOk (dGI xm mem M0 15 k K) S := by
  obtain ⟨L, B, P, Q, c, cs, H, R, hck⟩ := W
  rcases hk with rfl | rfl | rfl
  · exact ok_gI (H.look 0 0 rfl rfl) rfl h
  · exact ok_gI (H.look 0 0 rfl rfl) rfl h
  · exact ok_gI (H.look 0 0 rfl rfl) rfl h
theorem aSw.pop {v : Int32} (ha : aSw (vl ++ [v], vr, rs, ya, sc)) : aSw (vl, vr, rs, ya, sc) := by
  obtain ⟨a1, a2⟩ := ha
  refine ⟨?_, a2⟩
  simp at a1
  show vl.length ≤ 24
  omega
/-- a number of the state is put -/
theorem w_sP {k : Nat} {x : Int32} {K : kM → dRes} {S : kO × kM → Prop} (W : WR xm M0 g sum lo bo pa ps (vl, vr, rs, ya, sc) ck F mem) (hk : k = 4 ∨ k = 5 ∨ k = 8 ∨ k = 9 ∨ k = 10 ∨ k = 7) {s : Nat} {fs : List Value} (h0 : kLook xm mem M0 = some (.inl (15, fs))) (hs : fs[5]? = some (.ref s)) (h : ∀ m, WR xm M0 g sum lo bo pa ps (vl, vr, rs, ya, kUp sc k x) ck F m → St xm mem m 0 0 → dOk (K m) S) : dOk (dP xm mem s 14 k (.int x) K) S := by
  obtain ⟨L, B, P, Q, ⟨s', l, r, u, y⟩, cs, H, R, hck⟩ := W
  have h3 := H.look (xm := xm) 0 0 rfl rfl
  rw [h3] at h0
  cases h0
  cases hs
  have fin : ∀ m, HpS (wSg M0 L B P Q (s', l, r, u, y) cs g sum ps (vl, vr, rs, ya, kUp sc k x) F) m → St xm mem m 0 0 → dOk (K m) S := fun m H1 S1 => h m ⟨L, B, P, Q, (s', l, r, u, y), cs, H1, R.st S1, hck⟩ S1
  rcases hk with rfl | rfl | rfl | rfl | rfl | rfl
  · exact os_p H 5 0 rfl rfl rfl rfl fun m H1 S1 => fin m H1 S1
  · exact os_p H 5 0 rfl rfl rfl rfl fun m H1 S1 => fin m H1 S1
  · exact os_p H 5 0 rfl rfl rfl rfl fun m H1 S1 => fin m H1 S1
  · exact os_p H 5 0 rfl rfl rfl rfl fun m H1 S1 => fin m H1 S1
  · exact os_p H 5 0 rfl rfl rfl rfl fun m H1 S1 => fin m H1 S1
  · exact os_p H 5 0 rfl rfl rfl rfl fun m H1 S1 => fin m H1 S1
/-- the state as it is read: its object, its fields -/
theorem w_s {K : Nat → dRes} {S : kO × kM → Prop} (W : WR xm M0 g sum lo bo pa ps (vl, vr, rs, ya, sc) ck F mem) (h : ∀ s fs la ra ua y, kLook xm mem M0 = some (.inl (15, fs)) → fs[5]? = some (.ref s) → kLook xm mem s = some (stE la ra ua y sc) → dOk (K s) S) : dOk (dGR xm mem M0 15 5 K) S := by
  obtain ⟨L, B, P, Q, ⟨s', l, r, u, y⟩, cs, H, R, hck⟩ := W
  have h3 := H.look (xm := xm) 0 0 rfl rfl
  exact ok_gR h3 rfl (h s' _ _ _ _ _ h3 rfl (H.look (xm := xm) 5 0 rfl rfl))
end KK
