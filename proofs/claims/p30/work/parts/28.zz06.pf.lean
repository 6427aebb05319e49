/-! ===== a property of its own: trials, yarn; all is as it should be, as a whole ===== -/
section PF
variable {xm : Nat → Option kE} {mem m0 : kM} {F G A : kSg} {S : kO × kM → Prop} {X : dRes} {N k n cap nb i j r t1 t2 t z B R p M s v : Nat} {c c2 : aC} {x y jo : Int32} {lo : List kLf} {bo pa vl vr ya ys vs : List Int32} {ps : List aS} {rs : List (List Int32)} {sc : Nat → Int32} {st : aS} {f : kLf} {T : Nat → Int32} {h : kHs}
theorem pSt.sum (h : pSt B R lo (vl, vr, rs, ya, sc)) (hB : B ≤ 20000) : zSum ya = Int32.ofNat (yOf (vl, vr, rs, ya, sc)) ∧ yOf (vl, vr, rs, ya, sc) ≤ B := by
  obtain ⟨a, b, n, r, h1, h2, h3, h4, h5, h6, h7, h8⟩ := h
  dsimp only at h1
  subst h1
  have e : yOf (vl, vr, rs, [Int32.ofNat a, Int32.ofNat b, 0, 0], sc) = a + b := by
    show (Int32.ofNat a).toNatClampNeg + (Int32.ofNat b).toNatClampNeg = a + b
    rw [i_nat (by omega), i_nat (by omega)]
  rw [e, zSum_two]
  exact ⟨rfl, by omega⟩
theorem zT_follow (Q : QC B R (nb, jo, lo, bo, pa, ps, (vl, vr, rs, ya, sc))) (I1 : INV nb jo lo bo pa ps (vl, vr, rs, ya, sc) T h) (hB : B ≤ 700) (hi : i < pa.length) : pW B R (zFollow jo (pa.getD i 0) 99 0 (lo, bo, (vl, vr, rs, ya, sc))).2 ∧ pR (lo, bo, (vl, vr, rs, ya, sc)) (zFollow jo (pa.getD i 0) 99 0 (lo, bo, (vl, vr, rs, ya, sc))).2 ∧ (zFollow jo (pa.getD i 0) 99 0 (lo, bo, (vl, vr, rs, ya, sc))).2.2.1 = bo ∧ (zT jo pa vl vr ya i).1.2.1 = (zFollow jo (pa.getD i 0) 99 0 (lo, bo, (vl, vr, rs, ya, sc))).2.2.2.1.length + (zFollow jo (pa.getD i 0) 99 0 (lo, bo, (vl, vr, rs, ya, sc))).2.2.2.2.1.length ∧ ∃ q t : Nat, bY jo ya = Int32.ofNat q ∧ q ≤ B ∧ zSpent jo pa vl vr ya i = Int32.ofNat t ∧ t ≤ q ∧ yOf (zFollow jo (pa.getD i 0) 99 0 (lo, bo, (vl, vr, rs, ya, sc))).2.2.2 + t = yOf (vl, vr, rs, ya, sc) := by
  obtain ⟨l1, l2⟩ := Q.len I1 hB
  obtain ⟨-, -, ⟨j, hj, hj2⟩, -, -, -, J⟩ := Q
  dsimp only at hj J
  have W := pW.of J I1
  obtain ⟨q, hq, hqB⟩ := W.q (by omega) hj hj2
  obtain ⟨v, ev, h1, h2, nz⟩ := I1.1.2.2.2.2.2 _ (List.getElem_mem hi)
  have ex : pa.getD i 0 = Int32.ofNat v := by rw [List.getD_eq_getElem?_getD, List.getElem?_eq_getElem hi, ← ev]; rfl
  have hx : (pa.getD i 0).toNatClampNeg = v := by rw [ex, i_nat (by omega)]
  obtain ⟨a1, a2, a3, a4, t, a5, a6, a7⟩ := pW.follow (B := B) (R := R) (by omega) hj hj2 hx h1 h2 nz 99 0 (lo, bo, (vl, vr, rs, ya, sc)) 0 q W (by dsimp only; omega) I1.sw.2.2.2.2 hq hqB (by omega)
  unfold zSpent zT
  rw [hx]
  exact ⟨a1, a2, a3, a4, q, t, hq, hqB, a5, by omega, by omega⟩
theorem zBestF_or {E : Nat → Bool} {Sp : Nat → Int32} : ∀ (k d : Nat) (b : Int32), zBestF E Sp k d b = b ∨ ∃ i, d ≤ i ∧ i < d + k ∧ zBestF E Sp k d b = Int32.ofNat i ∧ E i = true := by
  intro k
  induction k with
  | zero => intro d b; exact Or.inl rfl
  | succ k ih =>
    intro d b
    by_cases g : E d = true ∧ (b = -1 ∨ Sp d < Sp b.toNatClampNeg)
    · have e : zBestF E Sp (k + 1) d b = zBestF E Sp k (d + 1) (Int32.ofNat d) := by
        show zBestF E Sp k (d + 1) (if _ then _ else _) = _
        rw [if_pos g]
      rw [e]
      rcases ih (d + 1) (Int32.ofNat d) with h | ⟨i, h1, h2, h3, h4⟩
      · exact Or.inr ⟨d, Nat.le_refl _, by omega, h, g.1⟩
      · exact Or.inr ⟨i, by omega, by omega, h3, h4⟩
    · have e : zBestF E Sp (k + 1) d b = zBestF E Sp k (d + 1) b := by
        show zBestF E Sp k (d + 1) (if _ then _ else _) = _
        rw [if_neg g]
      rw [e]
      rcases ih (d + 1) b with h | ⟨i, h1, h2, h3, h4⟩
      · exact Or.inl h
      · exact Or.inr ⟨i, by omega, by omega, h3, h4⟩
theorem zBest_or : zBest jo pa vl vr ya = -1 ∨ ∃ i, i < pa.length ∧ zBest jo pa vl vr ya = Int32.ofNat i ∧ vl.length ≠ 0 := by
  unfold zBest
  rcases zBestF_or (E := zEnds jo pa vl vr ya) (Sp := zSpent jo pa vl vr ya) pa.length 0 (-1) with h | ⟨i, h1, h2, h3, h4⟩
  · exact Or.inl h
  · refine Or.inr ⟨i, by omega, h3, fun hz => ?_⟩
    have h5 := of_decide_eq_true h4
    have e : (zT jo pa vl vr ya i).2 = 0 := by
      unfold zT zTry
      rw [if_pos hz]
    omega
theorem so_685 (hN : 120 ≤ N) (Q : QC B R (nb, jo, lo, bo, pa, ps, (vl, vr, rs, ya, sc))) (hM : n + 1 ≤ M) (hb : x < 0 ∨ vl.length ≠ 0) (I : LwP xm (nb, jo, lo, bo, pa, ps, (vl, vr, rs, ya, sc)) F n mem) : dOk (m_law_isSo_685 xm N 1000 x mem) (rI fun v m => v = 1 ∧ LwP xm (nb, jo, lo, bo, pa, ps, (vl, vr, rs, ya, sc)) F M m) := by
  obtain ⟨T, h', I1⟩ := I.inv2
  have l24 : vl.length ≤ 24 := I1.sw.1
  unfold m_law_isSo_685 m_law_isSo_698
  refine lp_many hN Q.1 3 (by decide) (Int32.ofNat vl.length) rfl rfl I fun m I => ?_
  refine ok_if (fun _ => ok_I ⟨rfl, I.up hM⟩) (fun g => ?_)
  have hx : x < 0 := by
    rcases hb with h | h
    · exact h
    · exact absurd (show (0 : Int32) < Int32.ofNat vl.length from (i_lt (a := 0) (by decide) (by omega)).mpr (by omega)) g
  rw [if_pos hx]
  exact ok_I ⟨rfl, I.up hM⟩
theorem so_539 (hX : kXok xm) (hN : 120 ≤ N) (Q : QC B R (2, jo, lo, bo, pa, ps, (vl, vr, rs, ya, sc))) (hB : B ≤ 700) (hf : 3 ≤ k) (hM : n + 30 ≤ M) (I : LwP xm (2, jo, lo, bo, pa, ps, (vl, vr, rs, ya, sc)) ((p, .inr (.inl (0, (List.range 5).map (zCw vl vr rs bo lo.length)))) :: G) n mem) : dOk (m_law_isSo_539 xm N k 1000 p (Int32.ofNat (openL rs).length) 0 0 mem) (rI fun v m => v = 1 ∧ LwP xm (2, jo, lo, bo, pa, ps, (vl, vr, rs, ya, sc)) ((p, .inr (.inl (0, (List.range 5).map (zCw vl vr rs bo lo.length)))) :: G) M m) := by
  obtain ⟨f, rfl⟩ : ∃ f, k = f + 3 := ⟨k - 3, by omega⟩
  obtain ⟨T, h', I1⟩ := I.inv2
  have Q0 := Q
  obtain ⟨l1, l2⟩ := Q.len I1 hB
  obtain ⟨c0, c1, c3, c4⟩ := zCw_all Q I1
  obtain ⟨q1, -, ⟨j, hj, hj2⟩, -, -, -, J⟩ := Q0
  dsimp only at hj J
  have hY := J.now
  obtain ⟨a, b, n0, r, g1, g2, g3, g4, g5, g6, g7, g8⟩ := hY
  dsimp only at g1
  have l24 : vl.length + vr.length ≤ 24 := I1.1.2.1.2.1
  have h12 : ps.length ≤ 12 := I1.1.2.2.2.1
  have hop : zOpn rs = Int32.ofNat (openL rs).length := by
    have := zOpn_len rs 0 q1.1.2
    rw [Nat.zero_add] at this
    exact this
  have hy0 : ya.getD 0 0 = Int32.ofNat a := by rw [g1]; rfl
  have hy1 : ya.getD 1 0 = Int32.ofNat b := by rw [g1]; rfl
  have hin : ∀ i : Nat, i < 5 → kInB (Int32.ofNat i) ((List.range 5).map (zCw vl vr rs bo lo.length)).length = true := by
    intro i hi
    rw [mapR_len]
    exact i_inB hi (by decide)
  have hget : ∀ i : Nat, i < 5 → ((List.range 5).map (zCw vl vr rs bo lo.length)).getD (Int32.ofNat i).toNatClampNeg 0 = zCw vl vr rs bo lo.length i := by
    intro i hi
    rw [i_nat (by omega), mapR_get hi]
  rw [m_law_isSo_539]
  refine lp_many hN q1 0 (by decide) 2 rfl rfl I fun m I => ?_
  rw [if_pos (by decide)]
  refine lp_left 0 (by decide) (by decide) (Int32.ofNat a) hy0 rfl I fun m I => ?_
  rw [m_law_isSo_539]
  refine lp_many hN q1 0 (by decide) 2 rfl rfl I fun m I => ?_
  rw [if_pos (by decide)]
  refine lp_left 1 (by decide) (by decide) (Int32.ofNat b) hy1 (by decide) I fun m I => ?_
  rw [m_law_isSo_539]
  refine lp_many hN q1 0 (by decide) 2 rfl rfl I fun m I => ?_
  rw [if_neg (by decide)]
  refine lp_best hX hN q1 I fun m I => ?_
  refine lp_many hN q1 3 (by decide) (Int32.ofNat vl.length) rfl rfl I fun m I => ?_
  refine lp_iLv I 0 rfl (hin 0 (by decide)) (Int32.ofNat vl.length) ((hget 0 (by decide)).trans c0) ?_
  rw [if_pos rfl]
  refine lp_many hN q1 4 (by decide) (Int32.ofNat vr.length) rfl rfl I fun m I => ?_
  refine lp_iLv I 0 rfl (hin 1 (by decide)) (Int32.ofNat vr.length) ((hget 1 (by decide)).trans c1) ?_
  rw [if_pos rfl]
  refine lp_many hN q1 11 (by decide) (Int32.ofNat bo.length) I1.bnd rfl I fun m I => ?_
  refine lp_iLv I 0 rfl (hin 3 (by decide)) (Int32.ofNat bo.length) ((hget 3 (by decide)).trans c3) ?_
  rw [if_pos rfl]
  refine lp_many hN q1 13 (by decide) (Int32.ofNat (openL rs).length) hop rfl I fun m I => ?_
  refine lp_iLv I 0 rfl (hin 4 (by decide)) (Int32.ofNat (openL rs).length) ((hget 4 (by decide)).trans c4) ?_
  rw [if_pos rfl]
  refine lp_iLv I 0 rfl (hin 4 (by decide)) (Int32.ofNat (openL rs).length) ((hget 4 (by decide)).trans c4) ?_
  rw [if_pos rfl]
  refine lp_many hN q1 1 (by decide) (Int32.ofNat (a + b)) (by show zSum ya = _; rw [g1, zSum_two]) rfl I fun m I => ?_
  rw [if_pos (by rw [Int32.zero_add, i_add])]
  refine lp_many hN q1 3 (by decide) (Int32.ofNat vl.length) rfl rfl I fun m I => ?_
  refine lp_many hN q1 4 (by decide) (Int32.ofNat vr.length) rfl rfl I fun m I => ?_
  rw [i_add, if_neg (show ¬ (24 : Int32) < Int32.ofNat (vl.length + vr.length) from fun z => by have := (i_lt (a := 24) (by decide) (by omega)).mp z; omega)]
  refine lp_many hN q1 15 (by decide) (Int32.ofNat ps.length) rfl rfl I fun m I => ?_
  rw [if_neg (show ¬ (12 : Int32) < Int32.ofNat ps.length from fun z => by have := (i_lt (a := 12) (by decide) (by omega)).mp z; omega)]
  rcases zBest_or (jo := jo) (pa := pa) (vl := vl) (vr := vr) (ya := ya) with e | ⟨i, hi, e, hv⟩
  · rw [e, if_pos (by decide)]
    exact so_685 hN Q (by omega) (Or.inl (by decide)) I
  · have h6 : pa.length ≤ 6 := I1.1.2.2.2.2.1
    rw [e, if_neg (i_nn (by omega))]
    obtain ⟨-, -, -, -, q, t, hq, hqB, ht, htq, -⟩ := zT_follow Q I1 hB hi
    refine lp_needs hX hN q1 i hi rfl I fun m I => ?_
    refine lp_many hN q1 2 (by decide) jo rfl rfl I fun m I => ?_
    refine lp_left j hj2 (by decide) (Int32.ofNat q) ((bY_j hj hj2).symm.trans hq) hj I fun m I => ?_
    rw [ht, if_neg (fun z => by have := (i_lt (by omega) (by omega)).mp z; omega)]
    exact so_685 hN Q (by omega) (Or.inr hv) I
theorem so_269 (hX : kXok xm) (hN : 120 ≤ N) (Q : QC B R (2, jo, lo, bo, pa, ps, (vl, vr, rs, ya, sc))) (hB : B ≤ 700) (hf : 3 ≤ k) (hM : n + 600 ≤ M) (I : LwP xm (2, jo, lo, bo, pa, ps, (vl, vr, rs, ya, sc)) ((p, .inr (.inl (0, (List.range 5).map (zCw vl vr rs bo lo.length)))) :: G) n mem) : dOk (m_law_isSo_269 xm N k 1000 p (Int32.ofNat (openL rs).length) 0 mem) (rI fun v m => v = 1 ∧ LwP xm (2, jo, lo, bo, pa, ps, (vl, vr, rs, ya, sc)) ((p, .inr (.inl (0, (List.range 5).map (zCw vl vr rs bo lo.length)))) :: G) M m) := by
  obtain ⟨f, rfl⟩ : ∃ f, k = f + 3 := ⟨k - 3, by omega⟩
  rw [m_law_isSo_269, if_pos (by decide)]
  refine lp_many hN Q.1 3 (by decide) (Int32.ofNat vl.length) rfl (by decide) I fun m I => ?_
  rw [if_neg (by decide)]
  refine so_297 (s := 0) (vs := vl) (M := n + 231) hN Q hB (Or.inl ⟨rfl, rfl, rfl⟩) rfl (fun m n' hn' I => ?_) (by omega) I
  show dOk (m_law_isSo_269 xm N (f + 2) 1000 p (Int32.ofNat (openL rs).length) (0 + 1) m) _
  rw [m_law_isSo_269, if_pos (by decide)]
  refine lp_many hN Q.1 4 (by decide) (Int32.ofNat vr.length) rfl (by decide) I fun m I => ?_
  rw [if_pos (by decide)]
  refine so_297 (s := 1) (vs := vr) (M := n' + 231) hN Q hB (Or.inr ⟨rfl, rfl, rfl⟩) (by decide) (fun m n2 hn2 I => ?_) (by omega) I
  show dOk (m_law_isSo_269 xm N (f + 1) 1000 p (Int32.ofNat (openL rs).length) (0 + 1 + 1) m) _
  rw [m_law_isSo_269, if_neg (by decide)]
  exact so_539 hX hN Q hB (by omega) (by omega) I
theorem so_all (hX : kXok xm) (hN : 400 ≤ N) (Q : QC B R (2, jo, lo, bo, pa, ps, (vl, vr, rs, ya, sc))) (hB : B ≤ 700) (hR : R ≤ 20000) (I : LwP xm (2, jo, lo, bo, pa, ps, (vl, vr, rs, ya, sc)) G n mem) : dOk (m_law_isSo xm N 1000 mem) (rI fun v m => v = 1 ∧ LwP xm (2, jo, lo, bo, pa, ps, (vl, vr, rs, ya, sc)) G (n + 4000) m) := by
  obtain ⟨T, h', I1⟩ := I.inv2
  obtain ⟨l1, l2⟩ := Q.len I1 hB
  have h9 : rs.length ≤ 9 := I1.sw.2.2.1
  unfold m_law_isSo
  refine lp_nI (z := 5) I (by decide) fun m p I => ?_
  refine lp_many (by omega) Q.1 7 (by decide) (Int32.ofNat lo.length) I1.made rfl I fun m I => ?_
  refine ok_mono (S := rI fun v m => v = 1 ∧ LwP xm (2, jo, lo, bo, pa, ps, (vl, vr, rs, ya, sc)) ((p, .inr (.inl (0, (List.range 5).map (zCw vl vr rs bo lo.length)))) :: G) (n + 4000) m) ?_ (fun r hr => ?_)
  · refine so_13 (M := n + 3000) (by omega) Q hB hR (fun m n' hn' I => ?_) lo.length 0 N _ m (by omega) (by omega) (by omega) I
    refine so_183 (M := n + 3300) (by omega) Q hB (fun m n2 hn2 I => ?_) rs.length 0 N _ m (by omega) (by omega) (by omega) I
    exact so_269 hX (by omega) Q hB (by omega) (by omega) I
  · obtain ⟨x, h1, h2, h3⟩ := hr
    exact ⟨x, h1, h2, h3.drop1⟩
end PF
