/-! ===== a property of its own: the class as it is made ===== -/
/-! the beginning -/
def st0 : aS := ([], [], [], List.replicate 4 0, fun _ => 0)
def hs0 : kHs := (0, 0, List.replicate 12 0, List.replicate 12 0, fun _ => st0)
def cc0 : aC := (0, -1, [], [], [], [], st0)
theorem rep_map (n : Nat) : kAr (List.replicate n 0) = kAr ((List.range n).map fun _ => (0 : Int32)) := by
  congr 1
  apply List.ext_getElem
  · simp
  · intro i h1 h2
    simp
theorem ok_NdE (a : Nat) : tOk [(a, nE (a + 1) 0), (a + 1, cPf 24 [])] (adr a (mNd a)) := tOk_cons (cO_cons rfl (cO_cons rfl cO_nil)) (tOk_cons (show cPf 24 [] (kAr (List.replicate 24 0)) from ⟨List.replicate 24 0, by simp, rfl⟩) tOk_nil)
theorem ok_TbE {f mr n a : Nat} {t : cTy} (h : t (kAr (List.replicate n 0))) : tOk [(a, tT f mr (a + 1)), (a + 1, t)] (adr a (mTb (Int32.ofNat f) (Int32.ofNat mr) n a)) := tOk_cons (cO_cons rfl (cO_cons rfl (cO_cons rfl cO_nil))) (tOk_cons h tOk_nil)
theorem ok_WkE (a : Nat) : tOk (wE a st0) (adr a (mWk a)) := tOk_cons (cO_cons rfl (cO_cons rfl (cO_cons rfl (cO_cons rfl (cO_cons rfl (cO_cons rfl (cO_cons rfl (cO_cons rfl (cO_cons rfl (cO_cons rfl cO_nil)))))))))) (tOk_app (ok_NdE (a + 1)) (tOk_app (ok_NdE (a + 3)) (ok_TbE (f := 4) (mr := 9) (n := 36) (a := a + 5) (show cRn [] (kAr (List.replicate 36 0)) from ⟨fun _ => 0, ⟨Nat.zero_le _, fun i z h => by cases h⟩, rep_map 36⟩))))
theorem ok_KE : tOk (cE 0 (-1) [] st0 1011 384 (fun _ => 0) hs0) (adr 1000 (mK 1000)) := by
  have h12 : tOk (wE 1020 st0 ++ (wE 1027 st0 ++ (wE 1034 st0 ++ (wE 1041 st0 ++ (wE 1048 st0 ++ (wE 1055 st0 ++ (wE 1062 st0 ++ (wE 1069 st0 ++ (wE 1076 st0 ++ (wE 1083 st0 ++ (wE 1090 st0 ++ (wE 1097 st0 ++ [(1104, tr (fB 99))])))))))))))) (adr 1020 (mWk 1020) ++ (adr 1027 (mWk 1027) ++ (adr 1034 (mWk 1034) ++ (adr 1041 (mWk 1041) ++ (adr 1048 (mWk 1048) ++ (adr 1055 (mWk 1055) ++ (adr 1062 (mWk 1062) ++ (adr 1069 (mWk 1069) ++ (adr 1076 (mWk 1076) ++ (adr 1083 (mWk 1083) ++ (adr 1090 (mWk 1090) ++ (adr 1097 (mWk 1097) ++ [(1104, oTr)])))))))))))) := by
    iterate 12 refine tOk_app (ok_WkE _) ?_
    exact tOk_cons (cO_cons (fI_ _) (cO_cons (fI_ _) (cO_cons (fI_ _) (cO_cons (fI_ _) (cO_cons fB_0 cO_nil))))) tOk_nil
  have hhi : tOk [(1016, cO 6 [fR 1017, fR 1018, fR 1019, fE (Int32.ofNat 0), fE (Int32.ofNat 0)]), (1017, cQ 3 kW12), (1018, cX (List.replicate 12 0)), (1019, cX (List.replicate 12 0))] [(1016, hH 1016), (1017, .inr (.inr (3, hQ 1016 12))), (1018, z12), (1019, z12)] := tOk_cons (cO_cons rfl (cO_cons rfl (cO_cons rfl (cO_cons rfl (cO_cons rfl cO_nil))))) (tOk_cons (show (.inr (.inr (3, hQ 1016 12)) : kE) = .inr (.inr (3, kW12)) from rfl) (tOk_cons rfl (tOk_cons rfl tOk_nil)))
  have h1 : tOk [(1000, cO 11 [fR 1001, fR 1003, fR 1010, fR 1012, fR 1014, fR 1016, fR 1104, fE (Int32.ofNat 0)]), (1001, bE 1002 0 (-1)), (1002, cX (List.replicate 4 0))] (adr 1000 (.inl (11, [.ref 1001, .ref 1003, .ref 1010, .ref 1012, .ref 1014, .ref 1016, .ref 1104, .int 0]) :: mBl 1001)) := tOk_cons (cO_cons rfl (cO_cons rfl (cO_cons rfl (cO_cons rfl (cO_cons rfl (cO_cons rfl (cO_cons rfl (cO_cons rfl cO_nil)))))))) (tOk_cons (cO_cons rfl (cO_cons rfl (cO_cons rfl cO_nil))) (tOk_cons rfl tOk_nil))
  have hp : cPt [] (kAr (List.replicate 30 0)) := ⟨fun _ => 0, (fun p v h => by cases h), rep_map 30⟩
  have hd : cDg [] (kAr (List.replicate 54 0)) := ⟨fun _ => 0, (fun p v h => by cases h), rep_map 54⟩
  have hl : cF (fun _ => 0) 384 (kAr (List.replicate 384 0)) := rep_map 384
  exact tOk_app h1 (tOk_app (ok_WkE 1003) (tOk_app (tOk_app (ok_TbE (f := 6) (mr := 19998) (n := 384) (a := 1010) hl) (tOk_app (ok_TbE (f := 5) (mr := 6) (n := 30) (a := 1012) hp) (tOk_app (ok_TbE (f := 9) (mr := 6) (n := 54) (a := 1014) hd) hhi))) h12))
theorem a0_ok (g : Nat → Int32) (h6 : g 6 = 0) (h7 : g 7 = -1) : aInv 0 g [] [] [] [] st0 := ⟨⟨h6, by decide, Or.inl h7⟩, ⟨⟨by decide, by decide, by decide, (fun z hz => by cases hz), rfl⟩, by decide, (fun z hz => by cases hz), (fun z hz => by cases hz), (fun z hz => by cases hz), rfl, rfl⟩, trivial, by decide, by decide, fun z hz => by cases hz⟩
theorem INV0 : INV 0 (-1) [] [] [] [] st0 (fun _ => 0) hs0 := by
  refine ⟨a0_ok _ rfl rfl, (fun i f h => by cases h), ⟨by decide, rfl, rfl, rfl, fun i p s h1 h2 => ?_⟩, fun s hs => ?_, fun i _ => ?_⟩
  · cases h2
  · have e : s = st0 := List.mem_singleton.mp hs
    subst e
    refine ⟨by decide, List.nodup_nil, fun i hi => absurd hi.1 (Nat.not_lt_zero _), fun v hv => by cases hv⟩
  · show (List.replicate 4 (0 : Int32)).getD i 0 = 0
    rw [List.getD_eq_getElem?_getD, List.getElem?_replicate]
    split <;> rfl
theorem cOk0 : cOk cc0 := by
  refine ⟨⟨fun i => ?_, fun z hz => by cases hz⟩, fun s hs => by cases hs⟩
  show 0 ≤ (List.replicate 4 (0 : Int32)).getD i 0
  rw [List.getD_eq_getElem?_getD, List.getElem?_replicate]
  split <;> exact Int32.le_refl 0
section P0
theorem go_of_ca {xm : Nat → Option kE} {sm : Nat → Option Value} {dfl : Nat → Option (List Value)} {fty : Nat → Nat → FieldType} {G : kT} {d y : Nat} {av : List Value} {mem : kM} {P : kO → kM → Prop} (h : kCa xm sm dfl fty G (d + 1) y av mem P) : kGo xm sm dfl fty G d y 0 (lv_args 0 av) [] mem P := by
  obtain ⟨F, o, m1, h, hP⟩ := h
  rw [kExec] at h
  split at h
  · exact ⟨F, F, o, m1, h, hP⟩
  · cases h
theorem go_mono {xm : Nat → Option kE} {sm : Nat → Option Value} {dfl : Nat → Option (List Value)} {fty : Nat → Nat → FieldType} {G : kT} {d d' mi pc : Nat} {lv : kL} {st : List Value} {mem : kM} {P : kO → kM → Prop} (hd : d ≤ d') (h : kGo xm sm dfl fty G d mi pc lv st mem P) : kGo xm sm dfl fty G d' mi pc lv st mem P := by
  obtain ⟨F, f, o, m1, h, hP⟩ := h
  exact ⟨F, f, o, m1, kLoop_le xm sm dfl fty G (fun y args mem r h => kExec_le xm sm dfl fty G (Nat.le_refl F) d d' hd y args mem r h) mi f f (Nat.le_refl f) _ _ _ _ _ h, hP⟩
theorem kXok_k (L : Nat) (xs : Nat → Int32) : kXok (kXm L xs) := ⟨trivial, trivial, trivial, rfl, rfl, rfl, rfl⟩
end P0
