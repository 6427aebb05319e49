/-! ===== the law: class and reference side by side ===== -/
def adr (n : Nat) : kM → kSg
  | [] => []
  | e :: r => (n, e) :: adr (n + 1) r
section KZT
variable {xm : Nat → Option kE} {mem m0 : kM} {F G A : kSg} {S T : kO × kM → Prop} {N r ci k n nb q cap a j O c M0 C : Nat} {S0 : Nat} {x y z : Int32} {w : Int64} {X : dRes}
theorem adr_app : ∀ (X Y : kM) (n : Nat), adr n (X ++ Y) = adr n X ++ adr (n + X.length) Y := by
  intro X
  induction X with
  | nil => intro Y n; rfl
  | cons e X ih =>
    intro Y n
    show (n, e) :: adr (n + 1) (X ++ Y) = _
    rw [ih]
    show _ = (n, e) :: (adr (n + 1) X ++ adr (n + (X.length + 1)) Y)
    rw [show n + 1 + X.length = n + (X.length + 1) by omega]
theorem adr_get : ∀ (X : kM) (n i : Nat), (adr n X)[i]? = X[i]?.map (fun e => (n + i, e)) := by
  intro X
  induction X with
  | nil => intro n i; rfl
  | cons e X ih =>
    intro n i
    cases i with
    | zero => rfl
    | succ i =>
      show (adr (n + 1) X)[i]? = _
      rw [ih]
      show _ = X[i]?.map _
      rw [show n + 1 + i = n + (i + 1) by omega]
theorem adr_nodup : ∀ (X : kM) (n : Nat), ((adr n X).map (fun q => q.1)).Nodup ∧ ∀ b ∈ (adr n X).map (fun q => q.1), n ≤ b := by
  intro X
  induction X with
  | nil => intro n; exact ⟨List.nodup_nil, fun b hb => by cases hb⟩
  | cons e X ih =>
    intro n
    obtain ⟨h1, h2⟩ := ih (n + 1)
    show (n :: (adr (n + 1) X).map (fun q => q.1)).Nodup ∧ ∀ b ∈ n :: (adr (n + 1) X).map (fun q => q.1), n ≤ b
    refine ⟨List.nodup_cons.mpr ⟨fun h => ?_, h1⟩, fun b hb => ?_⟩
    · have := h2 n h
      omega
    · rcases List.mem_cons.mp hb with rfl | hb
      · exact Nat.le_refl _
      · have := h2 b hb
        omega
theorem adr_hp (X : kM) : Hp (adr 1000 X) X := by
  refine ⟨(adr_nodup X 1000).1, fun q hq => ?_⟩
  obtain ⟨i, hi⟩ := List.mem_iff_getElem?.mp hq
  rw [adr_get] at hi
  cases h : X[i]? with
  | none => rw [h] at hi; cases hi
  | some e =>
    rw [h] at hi
    cases hi
    exact ⟨by dsimp only; omega, by dsimp only; rw [Nat.add_sub_cancel_left]; exact h⟩
theorem tOk_nil : tOk [] [] := ⟨rfl, fun j r t h => by cases h⟩
theorem tOk_cons {Ts : kTyL} {r : Nat} {t : cTy} {e : kE} (h : t e) (k : tOk Ts A) : tOk ((r, t) :: Ts) ((r, e) :: A) := by
  refine ⟨by simp [k.1], fun j r' t' hj => ?_⟩
  cases j with
  | zero => cases hj; exact ⟨e, rfl, h⟩
  | succ j => exact k.2 j r' t' hj
theorem tOk_app {Ts Us : kTyL} {B : kSg} (h : tOk Ts A) (k : tOk Us B) : tOk (Ts ++ Us) (A ++ B) := by
  refine ⟨by simp [h.1, k.1], fun j r t hj => ?_⟩
  by_cases g : j < Ts.length
  · rw [List.getElem?_append_left g] at hj
    rw [List.getElem?_append_left (by rw [h.1]; exact g)]
    exact h.2 j r t hj
  · rw [List.getElem?_append_right (by omega)] at hj
    rw [List.getElem?_append_right (by rw [h.1]; omega), h.1]
    exact k.2 _ r t hj
/-- fields by their types -/
theorem cO_nil {ci : Nat} : cO ci [] (.inl (ci, [])) := ⟨[], rfl, rfl, fun k t h => by cases h⟩
theorem cO_cons {ci : Nat} {fs : List Value} {ts : List fTy} {v : Value} {t : fTy} (h : t v) (k : cO ci ts (.inl (ci, fs))) : cO ci (t :: ts) (.inl (ci, v :: fs)) := by
  obtain ⟨gs, h1, h2, h3⟩ := k
  cases h1
  refine ⟨v :: fs, rfl, by simp [h2], fun k t' hk => ?_⟩
  cases k with
  | zero => cases hk; exact ⟨v, rfl, h⟩
  | succ k => exact h3 k t' hk
theorem fI_ (x : Int32) : fI (.int x) := ⟨x, rfl⟩
theorem fB_0 {n : Nat} : fB n (.int 0) := ⟨0, Nat.zero_le _, rfl⟩
theorem cA_0 {n : Nat} : cA n (kAr (List.replicate n 0)) := ⟨_, List.length_replicate, rfl⟩
theorem ok_Nd (a : Nat) : tOk [(a, nT (a + 1)), (a + 1, cA 24)] (adr a (mNd a)) := tOk_cons (cO_cons rfl (cO_cons fB_0 cO_nil)) (tOk_cons cA_0 tOk_nil)
theorem ok_Tb (f mr n a : Nat) : tOk [(a, tT f mr (a + 1)), (a + 1, cA n)] (adr a (mTb (Int32.ofNat f) (Int32.ofNat mr) n a)) := tOk_cons (cO_cons rfl (cO_cons rfl (cO_cons rfl cO_nil))) (tOk_cons cA_0 tOk_nil)
theorem ok_Wk (a : Nat) : tOk (wT a) (adr a (mWk a)) := tOk_cons (cO_cons rfl (cO_cons rfl (cO_cons rfl (cO_cons fB_0 (cO_cons (fI_ _) (cO_cons (fI_ _) (cO_cons (fI_ _) (cO_cons (fI_ _) (cO_cons (fI_ _) (cO_cons (fI_ _) cO_nil)))))))))) (tOk_app (ok_Nd (a + 1)) (tOk_app (ok_Nd (a + 3)) (ok_Tb 4 9 36 (a + 5))))
theorem ok_K : tOk (cT 0 1011 384) (adr 1000 (mK 1000)) := by
  have h12 : tOk (wT 1020 ++ (wT 1027 ++ (wT 1034 ++ (wT 1041 ++ (wT 1048 ++ (wT 1055 ++ (wT 1062 ++ (wT 1069 ++ (wT 1076 ++ (wT 1083 ++ (wT 1090 ++ (wT 1097 ++ [(1104, tr (fB 99))])))))))))))) (adr 1020 (mWk 1020) ++ (adr 1027 (mWk 1027) ++ (adr 1034 (mWk 1034) ++ (adr 1041 (mWk 1041) ++ (adr 1048 (mWk 1048) ++ (adr 1055 (mWk 1055) ++ (adr 1062 (mWk 1062) ++ (adr 1069 (mWk 1069) ++ (adr 1076 (mWk 1076) ++ (adr 1083 (mWk 1083) ++ (adr 1090 (mWk 1090) ++ (adr 1097 (mWk 1097) ++ [(1104, oTr)])))))))))))) := by
    iterate 12 refine tOk_app (ok_Wk _) ?_
    exact tOk_cons (cO_cons (fI_ _) (cO_cons (fI_ _) (cO_cons (fI_ _) (cO_cons (fI_ _) (cO_cons fB_0 cO_nil))))) tOk_nil
  have hhi : tOk [(1016, cO 6 [fR 1017, fR 1018, fR 1019, fI, fI]), (1017, cQ 3 kW12), (1018, cA 12), (1019, cA 12)] [(1016, hH 1016), (1017, .inr (.inr (3, hQ 1016 12))), (1018, z12), (1019, z12)] := tOk_cons (cO_cons rfl (cO_cons rfl (cO_cons rfl (cO_cons (fI_ _) (cO_cons (fI_ _) cO_nil))))) (tOk_cons (show (.inr (.inr (3, hQ 1016 12)) : kE) = .inr (.inr (3, kW12)) from rfl) (tOk_cons cA_0 (tOk_cons cA_0 tOk_nil)))
  have h1 : tOk [(1000, cO 11 [fR 1001, fR 1003, fR 1010, fR 1012, fR 1014, fR 1016, fR 1104, fB 6]), (1001, bT 1002 0), (1002, cA 4)] (adr 1000 (.inl (11, [.ref 1001, .ref 1003, .ref 1010, .ref 1012, .ref 1014, .ref 1016, .ref 1104, .int 0]) :: mBl 1001)) := tOk_cons (cO_cons rfl (cO_cons rfl (cO_cons rfl (cO_cons rfl (cO_cons rfl (cO_cons rfl (cO_cons rfl (cO_cons fB_0 cO_nil)))))))) (tOk_cons (cO_cons rfl (cO_cons rfl (cO_cons (fI_ _) cO_nil))) (tOk_cons cA_0 tOk_nil))
  exact tOk_app h1 (tOk_app (ok_Wk 1003) (tOk_app (tOk_app (ok_Tb 6 19998 384 1010) (tOk_app (ok_Tb 5 6 30 1012) (tOk_app (ok_Tb 9 6 54 1014) hhi))) h12))
/-- class and reference: how many balls, how many calls; the room so far beside that of the growing lists -/
def LI (xm : Nat → Option kE) (M0 O nb k C S : Nat) (w : Int64) (mem : kM) : Prop := ∃ q cap A, 384 ≤ cap ∧ cap ≤ 119988 ∧ tOk (cT nb q cap) A ∧ RI xm M0 nb k (C + cap) (S + kPhi cap) (A ++ [oU O w]) mem
theorem RI.swap (I : RI xm M0 nb k C S0 F mem) : ∃ G : kSg, Hp (F ++ G) mem ∧ ∀ (m : kM) (F' : kSg) (c s : Nat), Hp (F' ++ G) m → St xm mem m c s → RI xm M0 nb k (C + c) (S0 + s) F' m := by
  obtain ⟨g, sum, lo, bo, pa, ps, st, ck, ⟨L, B, P, Q, c, cs, H, R, hck, hL, hB, hP, hQ⟩, h, hl, hb, h1, h2⟩ := I
  refine ⟨((wSg M0 L B P Q c cs g sum ps st F).eraseIdx 12).flatten, H.foc 12 rfl, fun m F' c0 s0 H' S1 => ?_⟩
  have H2 := HpS.un (Ls := wSg M0 L B P Q c cs g sum ps st F) 12 rfl H'
  have H2 : HpS (wSg M0 L B P Q c cs g sum ps st F') m := H2
  exact ⟨g, sum, lo, bo, pa, ps, st, ck, ⟨L, B, P, Q, c, cs, H2, R.st S1, hck, hL, hB, hP, hQ⟩, h, hl, hb, by have := S1.2.1; omega, by have := S1.2.2.1; omega⟩
theorem RI.nb4 (I : RI xm M0 nb k C S0 F mem) : nb ≤ 4 := by
  obtain ⟨g, sum, lo, bo, pa, ps, st, ck, W, h, -⟩ := I
  exact h.1.2.1
theorem RI.room (I : RI xm M0 nb k C S0 F mem) : mem.length ≤ C ∧ kSl mem ≤ S0 + 160000 := by
  obtain ⟨g, sum, lo, bo, pa, ps, st, ck, ⟨L, B, P, Q, c, cs, H, R, hck, -⟩, h, hl, hb, h1, h2⟩ := I
  have := R.2.1
  exact ⟨h1, by omega⟩
theorem app_one : A ++ oU O w :: G = (A ++ [oU O w]) ++ G := by simp
/-- .. after a call of the class, before the reference's -/
def LM (xm : Nat → Option kE) (M0 O nb nb' k C S : Nat) (w : Int64) (mem : kM) : Prop := ∃ q cap A, 384 ≤ cap ∧ cap ≤ 119988 ∧ tOk (cT nb' q cap) A ∧ RI xm M0 nb k (C + cap) (S + kPhi cap) (A ++ [oU O w]) mem
theorem LI.cls (I : LI xm M0 O nb k C S0 w mem) : ∃ (q cap : Nat) (G : kSg), 384 ≤ cap ∧ cap ≤ 119988 ∧ HpT (cT nb q cap) (oU O w :: G) mem ∧ ∀ (m : kM) (nb' c1 s1 : Nat) (w' : Int64), c1 ≤ 30 → s1 ≤ 900 → cP xm nb' (oU O w' :: G) c1 s1 mem cap m → LM xm M0 O nb nb' k (C + 30) (S0 + 900) w' m := by
  obtain ⟨q, cap, A, h1, h2, tA, I⟩ := I
  obtain ⟨G, H, back⟩ := I.swap
  refine ⟨q, cap, G, h1, h2, ⟨A, tA, by rw [app_one]; exact H⟩, fun m nb' c1 s1 w' hc hs D => ?_⟩
  obtain ⟨q', cap', c, s, k1, k2, ⟨A', tA', H'⟩, S1, k3, k4⟩ := D
  rw [app_one] at H'
  exact ⟨q', cap', A', k1, k2, tA', (back m (A' ++ [oU O w']) c s H' S1).up (Nat.le_refl _) (by omega) (by omega)⟩
theorem LI.hd (I : LI xm M0 O nb k C S0 w mem) : ∃ fs, kLook xm mem M0 = some (.inl (15, fs)) := by
  obtain ⟨q, cap, A, h1, h2, tA, I⟩ := I
  exact I.hd
theorem LI.nb4 (I : LI xm M0 O nb k C S0 w mem) : nb ≤ 4 := by
  obtain ⟨q, cap, A, h1, h2, tA, I⟩ := I
  exact I.nb4
theorem li_rcR {K : dRes} (I : LI xm M0 O nb k C S0 w mem) (h : dOk K S) : dOk (dRc xm mem M0 15 K) S := by
  obtain ⟨fs, h1⟩ := I.hd
  exact ok_rc h1 h
theorem li_rcK {K : dRes} (I : LI xm M0 O nb k C S0 w mem) (h : dOk K S) : dOk (dRc xm mem 1000 11 K) S := by
  obtain ⟨q, cap, G, h1, h2, H, -⟩ := I.cls
  exact t_rc H 0 rfl h
/-- a law's method around a call of the class -/
theorem li_cI {K : Int32 → kM → dRes} (I : LI xm M0 O nb k C S0 w mem) (h : ∀ q cap G, 384 ≤ cap → cap ≤ 119988 → HpT (cT nb q cap) (oU O w :: G) mem → dOk X (rI fun _ m => ∃ w, cP xm nb (oU O w :: G) 1 6 mem cap m)) (K' : ∀ v m w, LI xm M0 O nb k (C + 30) (S0 + 900) w m → dOk (K v m) S) : dOk (dCI X K) S := by
  obtain ⟨q, cap, G, h1, h2, H, back⟩ := I.cls
  refine ok_cI (h q cap G h1 h2 H) fun v m hh => ?_
  obtain ⟨w', D⟩ := hh
  exact K' v m w' (back m nb 1 6 w' (by decide) (by decide) D)
theorem li_c1 {K : Int32 → kM → dRes} (I : LI xm M0 O nb k C S0 w mem) (h : ∀ q cap F, 384 ≤ cap → cap ≤ 119988 → HpT (cT nb q cap) F mem → dOk X (rI fun _ m => cP xm nb F 0 0 mem cap m)) (K' : ∀ v m w, LI xm M0 O nb k (C + 30) (S0 + 900) w m → dOk (K v m) S) : dOk (dCI X K) S := by
  obtain ⟨q, cap, G, h1, h2, H, back⟩ := I.cls
  exact ok_cI (h q cap _ h1 h2 H) fun v m D => K' v m w (back m nb 0 0 w (by decide) (by decide) D)
theorem li_cJ {K : Int64 → kM → dRes} (I : LI xm M0 O nb k C S0 w mem) (h : ∀ q cap F, 384 ≤ cap → cap ≤ 119988 → HpT (cT nb q cap) F mem → dOk X (rJ fun _ m => cP xm nb F 0 0 mem cap m)) (K' : ∀ v m w, LI xm M0 O nb k (C + 30) (S0 + 900) w m → dOk (K v m) S) : dOk (dCJ X K) S := by
  obtain ⟨q, cap, G, h1, h2, H, back⟩ := I.cls
  exact ok_cJ (h q cap _ h1 h2 H) fun v m D => K' v m w (back m nb 0 0 w (by decide) (by decide) D)
theorem li_cD {K : UInt64 → kM → dRes} (I : LI xm M0 O nb k C S0 w mem) (h : ∀ q cap F, 384 ≤ cap → cap ≤ 119988 → HpT (cT nb q cap) F mem → dOk X (rD fun _ m => cP xm nb F 0 0 mem cap m)) (K' : ∀ v m w, LI xm M0 O nb k (C + 30) (S0 + 900) w m → dOk (K v m) S) : dOk (dCD X K) S := by
  obtain ⟨q, cap, G, h1, h2, H, back⟩ := I.cls
  exact ok_cD (h q cap _ h1 h2 H) fun v m D => K' v m w (back m nb 0 0 w (by decide) (by decide) D)
theorem li_cR {K : Nat → kM → dRes} (I : LI xm M0 O nb k C S0 w mem) (h : ∀ q cap F, 384 ≤ cap → cap ≤ 119988 → HpT (cT nb q cap) F mem → dOk X (rR fun _ m => cP xm nb F 30 900 mem cap m)) (K' : ∀ v m w, LI xm M0 O nb k (C + 30) (S0 + 900) w m → dOk (K v m) S) : dOk (dCR X K) S := by
  obtain ⟨q, cap, G, h1, h2, H, back⟩ := I.cls
  exact ok_cR (h q cap _ h1 h2 H) fun v m D => K' v m w (back m nb 30 900 w (by decide) (by decide) D)
theorem LI.of {q cap c s : Nat} {m : kM} {C1 S1 : Nat} (h1 : 384 ≤ cap) (h2 : cap ≤ 119988) (tA : tOk (cT nb q cap) A) (I : RI xm M0 nb k (C1 + cap + c) (S1 + kPhi cap + s) (A ++ [oU O w]) m) (hc : C1 + c ≤ C) (hs : S1 + s ≤ S0) : LI xm M0 O nb k C S0 w m := ⟨q, cap, A, h1, h2, tA, I.up (Nat.le_refl _) (by omega) (by omega)⟩
/-- a call of the reference -/
theorem li_rI {K : Int32 → kM → dRes} {c s : Nat} (I : LI xm M0 O nb k C S0 w mem) (h : ∀ C S F, RI xm M0 nb k C S F mem → dOk X (rI fun _ m => RI xm M0 nb (k + 1) (C + c) (S + s) F m)) (hc : c ≤ 1141) (hs : s ≤ 6690) (K' : ∀ v m, LI xm M0 O nb (k + 1) (C + 1141) (S0 + 6690) w m → dOk (K v m) S) : dOk (dCI X K) S := by
  obtain ⟨q, cap, A, h1, h2, tA, I⟩ := I
  exact ok_cI (h _ _ _ I) fun v m D => K' v m (LI.of h1 h2 tA D (by omega) (by omega))
theorem li_rJ {K : Int64 → kM → dRes} {c s : Nat} (I : LI xm M0 O nb k C S0 w mem) (h : ∀ C S F, RI xm M0 nb k C S F mem → dOk X (rJ fun _ m => RI xm M0 nb (k + 1) (C + c) (S + s) F m)) (hc : c ≤ 1141) (hs : s ≤ 6690) (K' : ∀ v m, LI xm M0 O nb (k + 1) (C + 1141) (S0 + 6690) w m → dOk (K v m) S) : dOk (dCJ X K) S := by
  obtain ⟨q, cap, A, h1, h2, tA, I⟩ := I
  exact ok_cJ (h _ _ _ I) fun v m D => K' v m (LI.of h1 h2 tA D (by omega) (by omega))
theorem li_rD {K : UInt64 → kM → dRes} {c s : Nat} (I : LI xm M0 O nb k C S0 w mem) (h : ∀ C S F, RI xm M0 nb k C S F mem → dOk X (rD fun _ m => RI xm M0 nb (k + 1) (C + c) (S + s) F m)) (hc : c ≤ 1141) (hs : s ≤ 6690) (K' : ∀ v m, LI xm M0 O nb (k + 1) (C + 1141) (S0 + 6690) w m → dOk (K v m) S) : dOk (dCD X K) S := by
  obtain ⟨q, cap, A, h1, h2, tA, I⟩ := I
  exact ok_cD (h _ _ _ I) fun v m D => K' v m (LI.of h1 h2 tA D (by omega) (by omega))
theorem li_rR {K : Nat → kM → dRes} {c s : Nat} (I : LI xm M0 O nb k C S0 w mem) (h : ∀ C S F, RI xm M0 nb k C S F mem → dOk X (rR fun _ m => RI xm M0 nb (k + 1) (C + c) (S + s) F m)) (hc : c ≤ 1141) (hs : s ≤ 6690) (K' : ∀ v m, LI xm M0 O nb (k + 1) (C + 1141) (S0 + 6690) w m → dOk (K v m) S) : dOk (dCR X K) S := by
  obtain ⟨q, cap, A, h1, h2, tA, I⟩ := I
  exact ok_cR (h _ _ _ I) fun v m D => K' v m (LI.of h1 h2 tA D (by omega) (by omega))
end KZT
