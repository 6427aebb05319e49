/-! ===== the reference: a state's copy ===== -/
section KH
variable {xm : Nat → Option kE} {mem : kM} {Ls : List kSg} {N : Nat}
theorem HpS.rev6 {A B C D E G : kSg} (H : HpS (A :: B :: C :: D :: E :: G :: Ls) mem) : HpS ([G, E, D, C, B, A].flatten :: Ls) mem := by
  refine Hp.perm H ?_
  have h := (List.reverse_perm [A, B, C, D, E, G]).symm
  have h2 : ([A, B, C, D, E, G] ++ Ls).Perm ([G, E, D, C, B, A] ++ Ls) := h.append_right Ls
  have h3 := h2.flatten
  rw [List.flatten_append (L₁ := [G, E, D, C, B, A])] at h3
  exact h3
theorem kCpy4 {ya : List Int32} (h : ya.length = 4) : kCpy ya [0, 0, 0, 0] (0 : Int32).toNatClampNeg (0 : Int32).toNatClampNeg (4 : Int32).toNatClampNeg = ya := by
  match ya, h with
  | [w0, w1, w2, w3], _ => rfl
theorem ms_copy_fin {i s p0 it la ra ua y la' ra' ua' y' n k : Nat} {v1 v2 : Value} {mc : Int32} {q : Nat} {R0 R1 R2 R3 : kSg} {ya : List Int32} {sc sc0 : Nat → Int32} (H : HpS ([(it, .inl (3, [.int (Int32.ofNat k), v1, v2, .ref ua]))] :: R0 :: [(y', kAr [0, 0, 0, 0])] :: R1 :: R2 :: R3 :: [(p0, stE la' ra' ua' y' sc0)] :: Ls) mem) (h0 : Ls[i]? = some [(s, stE la ra ua y sc)]) (hu : kLook xm mem ua = some (.inl (4, [.int mc, .ref q, .int (Int32.ofNat k)]))) (hk : k < 2 ^ 31) (h5 : Ls[i + 5]? = some [(y, kAr ya)]) (hy : ya.length = 4) :
    dOk (m_MS_copy_40 xm N (n + 1) s p0 it mem) (rR fun p m => p = p0 ∧ HpS (R0 :: [(y', kAr ya)] :: R1 :: R2 :: R3 :: [(p0, stE la' ra' ua' y' sc)] :: Ls) m ∧ St xm mem m 0 0) := by
  rw [m_MS_copy_40]
  refine ok_rc (H.look 0 0 rfl rfl) ?_
  refine ok_eI (itr_has (l := 0) (H.look 0 0 rfl rfl) hu hk hk) ?_
  rw [if_pos rfl, if_pos rfl]
  refine ok_gR (H.look (i + 7) 0 h0 rfl) rfl ?_
  refine ok_gR (H.look 6 0 rfl rfl) rfl ?_
  refine os_cpyI H (H.look (i + 5 + 7) 0 h5 rfl) (H.ge (i + 5 + 7) 0 h5 rfl) 2 0 rfl rfl ?_ fun m1 H1 S1 => ?_
  · rw [hy]
    decide
  rw [kCpy4 hy] at H1
  refine ok_gI (H1.look (i + 7) 0 h0 rfl) rfl ?_
  refine os_p H1 6 0 rfl rfl rfl rfl fun m2 H2 S2 => ?_
  refine ok_gI (H2.look (i + 7) 0 h0 rfl) rfl ?_
  refine os_p H2 6 0 rfl rfl rfl rfl fun m3 H3 S3 => ?_
  refine ok_gI (H3.look (i + 7) 0 h0 rfl) rfl ?_
  refine os_p H3 6 0 rfl rfl rfl rfl fun m4 H4 S4 => ?_
  refine ok_gI (H4.look (i + 7) 0 h0 rfl) rfl ?_
  refine os_p H4 6 0 rfl rfl rfl rfl fun m5 H5 S5 => ?_
  refine ok_gI (H5.look (i + 7) 0 h0 rfl) rfl ?_
  refine os_p H5 6 0 rfl rfl rfl rfl fun m6 H6 S6 => ?_
  refine ok_gI (H6.look (i + 7) 0 h0 rfl) rfl ?_
  refine os_p H6 6 0 rfl rfl rfl rfl fun m7 H7 S7 => ?_
  refine ok_gI (H7.look (i + 7) 0 h0 rfl) rfl ?_
  refine os_p H7 6 0 rfl rfl rfl rfl fun m8 H8 S8 => ?_
  refine ok_R ⟨rfl, HpS.drop H8, ?_⟩
  exact (S1.trans (S2.trans (S3.trans (S4.trans (S5.trans (S6.trans (S7.trans S8))))))).mono (by omega) (by omega)
theorem ms_copy_loop {i s p0 it la ra ua uq ucap y la' ra' ua' y' : Nat} {um : Int32} {ue : List Nat} {R2 R3 : kSg} {ya : List Int32} {sc sc0 : Nat → Int32} {rs : List (List Int32)} (hX : kXok xm) (h0 : Ls[i]? = some [(s, stE la ra ua y sc)]) (h3 : Ls[i + 3]? = some (sAL ua uq um ucap ue)) (h4 : Ls[i + 4]? = some (sRu ue rs)) (h5 : Ls[i + 5]? = some [(y, kAr ya)]) (hy : ya.length = 4) (hw : sWf uq ucap ue) (hur : ue.length = rs.length) (hr9 : rs.length ≤ 9) (hr4 : ∀ z ∈ rs, z.length = 4) :
    ∀ (j k n : Nat) (l : Int32) (mem : kM) (es' : List Nat) (q' : Nat) (mc' : Int32), rs.length = k + j → j < n → HpS ([sIt it k l um ua] :: sRu es' (rs.take k) :: [(y', kAr [0, 0, 0, 0])] :: sAL ua' q' mc' (if k = 0 then 0 else 10) es' :: R2 :: R3 :: [(p0, stE la' ra' ua' y' sc0)] :: Ls) mem → es'.length = k → sWf q' (if k = 0 then 0 else 10) es' →
      dOk (m_MS_copy_40 xm N n s p0 it mem) (rR fun p m => p = p0 ∧ ∃ es' q' mc' cap', HpS (sRu es' rs :: [(y', kAr ya)] :: sAL ua' q' mc' cap' es' :: R2 :: R3 :: [(p0, stE la' ra' ua' y' sc)] :: Ls) m ∧ sWf q' cap' es' ∧ cap' ≤ 20 ∧ es'.length = rs.length ∧ St xm mem m (2 * j) (4 * j + (if k = 0 then 10 else 0))) := by
  intro j
  induction j with
  | zero =>
    intro k n l mem es' q' mc' hk hn H he hw'
    obtain ⟨n, rfl⟩ : ∃ n', n = n' + 1 := ⟨n - 1, by omega⟩
    have hk : k = rs.length := by omega
    subst hk
    rw [List.take_length] at H
    refine ok_mono (ms_copy_fin (k := rs.length) (i := i) H h0 (by rw [← hur]; exact H.look (i + 3 + 7) 0 h3 rfl) (by omega) h5 hy) ?_
    rintro r ⟨p, h1, h2, h6, h7⟩
    exact ⟨p, h1, h2, es', q', mc', _, h6, hw', by split <;> omega, he, h7.mono (by omega) (by omega)⟩
  | succ j ih =>
    intro k n l mem es' q' mc' hk hn H he hw'
    obtain ⟨n, rfl⟩ : ∃ n', n = n' + 1 := ⟨n - 1, by omega⟩
    rw [m_MS_copy_40]
    refine ok_rc (H.look 0 0 rfl rfl) ?_
    refine ok_eI (itr_has (l := 0) (n := ue.length) (H.look 0 0 rfl rfl) (H.look (i + 3 + 7) 0 h3 rfl) (by omega) (by omega)) ?_
    have e1 : (if k = ue.length then (0 : Int32) else 1) = 1 := if_neg (by omega)
    rw [e1, if_neg (show ¬ ((1 : Int32) = 0) by decide)]
    refine ok_rc (H.look 0 0 rfl rfl) ?_
    refine ok_cR (ls_next hw H (i + 3 + 6) h3 (by omega)) fun e m1 h => ?_
    obtain ⟨rfl, H1, S1⟩ := h
    have hku : k < ue.length := by omega
    have hkr : k < rs.length := by omega
    have hat : (sRu ue rs)[k]? = some (ue[k], kAr rs[k]) := sRu_at (List.getElem?_eq_getElem hku) (List.getElem?_eq_getElem hkr)
    have hl : kLook xm m1 ue[k] = some (kAr rs[k]) := H1.look (i + 4 + 7) k h4 hat
    have hg : 1000 ≤ ue[k] := H1.ge (i + 4 + 7) k h4 hat
    refine ok_ccA hl hg ?_
    refine ok_gR (H1.look 6 0 rfl rfl) rfl ?_
    refine ok_sp9002 xm H1 hl hg fun m2 p2 H2 S2 => ?_
    refine ok_ccA (H2.look 0 0 rfl rfl) (H2.ge 0 0 rfl rfl) ?_
    refine ok_rc (ls_hd H2 4 rfl) ?_
    have hz : rs[k].length = 4 := hr4 _ (List.getElem_mem hkr)
    have hokp : kStOk xm m2 2 (some p2) = true := by
      have h1 : kLook xm m2 p2 = some (kAr rs[k]) := H2.look 0 0 rfl rfl
      have h2 : 1000 ≤ p2 := H2.ge (e := kAr rs[k]) 0 0 rfl rfl
      unfold kStOk
      simp only [h1]
      simp [kAr, h2]
    refine ok_cI (ls_add hX hw' (by split <;> omega) H2 4 rfl (sRu_ok H2 (i := 2) rfl (by rw [List.length_take]; omega)) hokp) fun v m3 h => ?_
    obtain ⟨-, q2, H3, hw3, S3⟩ := h
    have hcap : kAc (if k = 0 then 0 else 10) es'.length = if k + 1 = 0 then 0 else 10 := by
      unfold kAc kGr
      rw [he]
      by_cases hk0 : k = 0
      · subst hk0; rfl
      · rw [if_neg hk0, if_neg (by omega), if_neg (by omega)]
    have hcst : kAs (if k = 0 then 0 else 10) es'.length ≤ if k = 0 then 10 else 0 := by
      unfold kAs kGr
      rw [he]
      by_cases hk0 : k = 0
      · subst hk0; decide
      · rw [if_neg hk0, if_neg (by omega)]
        omega
    rw [hcap] at H3 hw3
    have H4 : HpS ([(p2, kAr rs[k])] :: [sIt it (k + 1) (Int32.ofNat k) um ua] :: sRu es' (rs.take k) :: [(y', kAr [0, 0, 0, 0])] :: sAL ua' q2 (mc' + 1) (if k + 1 = 0 then 0 else 10) (es' ++ [p2]) :: R2 :: R3 :: [(p0, stE la' ra' ua' y' sc0)] :: Ls) m3 := H3
    have H5 := H4.join
    rw [← sRu_snoc (by rw [List.length_take]; omega), List.take_append_getElem hkr] at H5
    refine ok_mono (ih (k + 1) n _ m3 _ _ _ (by omega) (by omega) H5 (by simp [he]) hw3) ?_
    rintro r ⟨p, h1, h2, e1, q1, c1, cap1, h6, h7, h8, h9, S4⟩
    have S5 := S4.mono (c1 := 2 * j) (s1 := 4 * j) (Nat.le_refl _) (by rw [if_neg (by omega)]; omega)
    refine ⟨p, h1, h2, e1, q1, c1, cap1, h6, h7, h8, h9, (S1.trans (S2.trans (S3.trans S5))).mono (by omega) ?_⟩
    rw [hz]
    omega
theorem sWf_nil : sWf 1 0 [] := ⟨Nat.le_refl _, by decide, fun _ => rfl⟩
theorem ms_copy {i s y : Nat} {l r u : kLi} {st : aS} (hX : kXok xm) (hN : 10 ≤ N) (H : HpS Ls mem) (h0 : Ls[i]? = some [(s, stE l.1 r.1 u.1 y st.2.2.2.2)]) (h1 : Ls[i + 1]? = some (sL l)) (h2 : Ls[i + 2]? = some (sL r)) (h3 : Ls[i + 3]? = some (sL u)) (h4 : Ls[i + 4]? = some (sRu u.2.2.2.2 st.2.2.1)) (h5 : Ls[i + 5]? = some [(y, kAr st.2.2.2.1)]) (hr : sRl xm mem (s, l, r, u, y) st) (ha : aSw st) :
    dOk (m_MS_copy xm N s mem) (rR fun p m => ∃ c' : kCs, c'.1 = p ∧ HpS (sOwn c' st :: Ls) m ∧ sRl xm m c' st ∧ St xm mem m 30 250) := by
  obtain ⟨la, lq, lm, lc, le⟩ := l
  obtain ⟨ra, rq, rm, rc, re⟩ := r
  obtain ⟨ua, uq, um, uc, ue⟩ := u
  obtain ⟨vl, vr, rs, ya, sc⟩ := st
  obtain ⟨w1, w2, w3, ⟨c1, c2, c3⟩, i1, i2, i3⟩ := hr
  obtain ⟨a1, a2, a3, a4, a5⟩ := ha
  simp only [sLw] at w1 w2 w3
  dsimp only at c1 c2 c3 i1 i2 i3 a1 a2 a3 a4 a5 h0 h1 h2 h3 h4 h5
  have n1 := i1.1
  have n2 := i2.1
  unfold m_MS_copy
  refine os_n xm H fun m0 p0 H0 S0 => ?_
  refine ok_cV (ms_new (sc := fun _ => 0) H0) fun m4 h => ?_
  obtain ⟨la', ra', ua', y', H4, S4⟩ := h
  refine ok_gR (H4.look 4 0 rfl rfl) rfl ?_
  refine ok_gR (H4.look (i + 5) 0 h0 rfl) rfl ?_
  refine ok_rc (ls_hd H4 3 rfl) ?_
  refine ok_cI (ls_addAll hX sWf_nil w1 (by decide) (by omega) H4 3 (i + 1 + 5) (by omega) rfl h1 (fun e h => absurd h List.not_mem_nil) ((i1.st S0).st S4).ok) fun v m5 h => ?_
  obtain ⟨q5, H5, w5, S5⟩ := h
  rw [List.nil_append] at H5 w5
  refine ok_gR (H5.look 4 0 rfl rfl) rfl ?_
  refine ok_gR (H5.look (i + 5) 0 h0 rfl) rfl ?_
  refine ok_rc (ls_hd H5 2 rfl) ?_
  refine ok_cI (ls_addAll hX sWf_nil w2 (by decide) (by omega) H5 2 (i + 2 + 5) (by omega) rfl h2 (fun e h => absurd h List.not_mem_nil) (((i2.st S0).st S4).st S5).ok) fun v m6 h => ?_
  obtain ⟨q6, H6, w6, S6⟩ := h
  rw [List.nil_append] at H6 w6
  refine ok_gR (H6.look (i + 5) 0 h0 rfl) rfl ?_
  refine ok_rc (ls_hd H6 (i + 3 + 5) h3) ?_
  refine ok_cR (ls_iterator H6 (i + 3 + 5) h3) fun it m7 h => ?_
  obtain ⟨H7, S7⟩ := h
  have H8 := H7.nil
  refine ok_mono (ms_copy_loop (i := i) (rs := rs) hX h0 h3 h4 h5 a5 w3 i3 a3 a4 rs.length 0 N (-1) m7 [] 1 0 (by omega) (by omega) H8 rfl sWf_nil) ?_
  rintro ⟨o, m8⟩ ⟨p, e1, rfl, es', q', mc', cap', H9, w9, w10, w11, S8⟩
  have hB : ∀ n, n ≤ 24 → kBc 0 0 n ≤ 40 := by
    intro n hn
    unfold kBc kGr
    split
    · omega
    · split
      · rw [if_pos rfl]; omega
      · omega
  have ST := S0.trans (S4.trans (S5.trans (S6.trans (S7.trans S8))))
  have gB : ∀ n, n ≤ 24 → (if 0 - 0 < n then kGr 0 (0 + n) else 0) ≤ 24 := by
    intro n hn
    unfold kGr
    split
    · rw [if_pos rfl]; omega
    · omega
  refine ⟨p, e1, (p, (la', q5, 0 + 1, kBc 0 0 le.length, le), (ra', q6, 0 + 1, kBc 0 0 re.length, re), (ua', q', mc', cap', es'), y'), rfl, ?_, ?_, ?_⟩
  · exact H9.swap.rev6
  · refine ⟨w5, w6, w9, ⟨hB _ (by omega), hB _ (by omega), w10⟩, i1.st ST, i2.st ST, w11⟩
  · refine ST.mono (by omega) ?_
    have g1 := gB le.length (by omega)
    have g2 := gB re.length (by omega)
    have e11 : kSz (.inl (14, [.null, .null, .null, .null, .int 0, .int 0, .int 0, .int 0, .int 0, .int 0, .int 0])) = 11 := rfl
    have e12 : ([] : List Nat).length = 0 := rfl
    rw [e11, e12]
    simp only [if_true]
    omega
end KH
