/-! ===== the reference's calls: undo, buy ===== -/
section KR2
variable {xm : Nat → Option kE} {mem : kM} {N M0 nb k C S ck : Nat} {F : kSg} {g : Nat → Int32} {sum : Int64} {lo : List kLf} {bo pa : List Int32} {ps : List aS} {st : aS} {T : kO × kM → Prop}
theorem LVs.init {m : kM} {es : List Nat} {vs : List kLf} {v : kLf} (h : LVs xm m es (vs ++ [v])) : LVs xm m es.dropLast vs := by
  have hl : es.length = vs.length + 1 := by rw [h.1]; simp
  refine ⟨by rw [List.length_dropLast]; omega, fun i e w h1 h2 => ?_⟩
  have hi := (List.getElem?_eq_some_iff.mp h2).1
  rw [List.getElem?_dropLast, if_pos (by omega)] at h1
  exact h.2 i e w h1 (by rw [List.getElem?_append_left hi]; exact h2)
theorem IVs.init {m : kM} {es : List Nat} {vs : List Int32} {v : Int32} (h : IVs xm m es (vs ++ [v])) : IVs xm m es.dropLast vs := by
  have hl : es.length = vs.length + 1 := by rw [h.1]; simp
  refine ⟨by rw [List.length_dropLast]; omega, fun i e w h1 h2 => ?_⟩
  have hi := (List.getElem?_eq_some_iff.mp h2).1
  rw [List.getElem?_dropLast, if_pos (by omega)] at h1
  exact h.2 i e w h1 (by rw [List.getElem?_append_left hi]; exact h2)
theorem sWf.dropLast {q cap : Nat} {es : List Nat} (h : sWf q cap es) : sWf q cap es.dropLast := ⟨by have := h.1; rw [List.length_dropLast]; omega, h.2⟩
theorem w_s7 {K : Nat → dRes} (W : WR xm M0 g sum lo bo pa ps st ck F mem) (h : ∀ s la ra ua y, kLook xm mem s = some (stE la ra ua y st.2.2.2.2) → dOk (K s) T) : dOk (dGR xm mem M0 15 5 K) T := by
  obtain ⟨L, B, P, Q, ⟨s', l, r, u, y⟩, cs, H, R, hck⟩ := W
  have h3 := H.look (xm := xm) 0 0 rfl rfl
  exact ok_gR h3 rfl (h s' _ _ _ _ (H.look (xm := xm) 5 0 rfl rfl))
theorem HpS.back {a0 a1 a2 a3 a4 b0 b1 b2 b3 b4 b5 x0 x1 x2 x3 x4 x5 A : kSg} (H : HpS [a0, a1, a2, a3, a4, b0, b1, b2, b3, b4, b5, A ++ [x0, x1, x2, x3, x4, x5].flatten, F] mem) : HpS [a0, a1, a2, a3, a4, x0, x1, x2, x3, x4, x5, A, F] mem := by
  have H1 : HpS [a0, a1, a2, a3, a4, A ++ [x0, x1, x2, x3, x4, x5].flatten, F] mem := (((((H.era 5 rfl).era 5 rfl).era 5 rfl).era 5 rfl).era 5 rfl).era 5 rfl
  refine Hp.perm H1 ?_
  have e1 : [a0, a1, a2, a3, a4, A ++ [x0, x1, x2, x3, x4, x5].flatten, F].flatten = [a0, a1, a2, a3, a4].flatten ++ (A ++ ([x0, x1, x2, x3, x4, x5].flatten ++ F)) := by simp [List.append_assoc]
  have e2 : [a0, a1, a2, a3, a4, x0, x1, x2, x3, x4, x5, A, F].flatten = [a0, a1, a2, a3, a4].flatten ++ ([x0, x1, x2, x3, x4, x5].flatten ++ (A ++ F)) := by simp [List.append_assoc]
  rw [e1, e2]
  refine List.Perm.append_left _ ?_
  rw [← List.append_assoc, ← List.append_assoc]
  exact List.Perm.append_right _ List.perm_append_comm
end KR2
