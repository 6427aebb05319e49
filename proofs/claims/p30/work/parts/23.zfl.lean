/-! ===== frames and locals by method (numbers by program out of the tables) ===== -/
set_option maxRecDepth 20000
def kFRl : List Nat := [11, 1, 0, 0, 1, 1, 2, 2, 2, 3, 0, 3, 3, 1, 0, 0, 1, 0, 1, 1, 0, 1, 1, 0, 1, 3, 2, 1, 1, 0, 2, 2, 0, 4, 2, 3, 3, 4, 2, 4, 8, 8, 8, 8, 8, 8, 8, 8, 8, 8, 8, 8, 8, 8, 8, 8, 8, 8, 6, 5, 8, 8, 8, 8, 5, 7, 5, 4, 6, 6, 6, 2, 2, 5, 5, 4, 0, 3, 1, 7, 0, 0, 0, 4, 2, 3, 2, 4, 0, 5, 4, 2, 3, 4, 4, 4, 0, 2, 6, 4, 1, 0, 3, 2, 0, 4, 0, 0, 0, 0, 4, 1, 3, 3, 0, 0, 1, 0, 2, 5, 5, 1, 2, 0, 0, 1, 1, 0, 2, 1, 1, 0, 0, 0, 0, 0, 9, 10, 9, 9]
def kLOl : List Nat := [401, 200, 0, 0, 21, 21, 42, 43, 42, 243, 0, 243, 243, 200, 0, 0, 22, 0, 23, 23, 0, 200, 200, 0, 23, 244, 222, 200, 200, 0, 45, 223, 0, 268, 46, 67, 67, 268, 222, 264, 200, 200, 315, 337, 335, 338, 265, 265, 265, 312, 291, 268, 297, 359, 266, 200, 200, 200, 311, 113, 200, 200, 200, 200, 114, 160, 290, 268, 315, 315, 315, 46, 46, 290, 290, 268, 0, 62, 21, 338, 0, 0, 0, 268, 46, 69, 46, 91, 0, 110, 89, 46, 67, 90, 90, 89, 0, 46, 132, 91, 200, 0, 222, 45, 0, 244, 0, 0, 0, 0, 270, 20, 64, 246, 0, 0, 22, 0, 221, 265, 291, 20, 43, 0, 0, 200, 200, 0, 224, 200, 22, 0, 0, 0, 0, 0, 337, 379, 358, 335]
def kFR (i : Nat) : Nat := kFRl.getD i 0
def kLO (i : Nat) : Nat := kLOl.getD i 0
def kFLv (mi a : Nat) : Bool := if a < 9000 then decide (kFR a + 1 ≤ kFR mi) && decide (8 + (kNL a + 11) + kLO a ≤ kLO mi) else decide (1 ≤ kFR mi) && decide (200 ≤ kLO mi)
def kFLn (mi a : Nat) : Bool := if 5000 ≤ a then decide (8 ≤ kFR mi) && decide (200 ≤ kLO mi) else true
def kFLb (mi : Nat) (e : Nat × Instr × Nat × Nat) : Bool := match e.2.1 with
  | .invokevirtual _ => kFLv mi e.2.2.1
  | .invokespecial _ => kFLv mi e.2.2.1
  | .invokestatic _ => kFLv mi e.2.2.1
  | .invokeinterface _ _ => kFLv mi e.2.2.1
  | .new _ => kFLn mi e.2.2.1
  | _ => true
theorem kFLv_ok {mi a : Nat} (h : kFLv mi a = true) : (a < 9000 → kFR a + 1 ≤ kFR mi ∧ 8 + (kNL a + 11) + kLO a ≤ kLO mi) ∧ (9000 ≤ a → 1 ≤ kFR mi ∧ 200 ≤ kLO mi) := by
  unfold kFLv at h
  by_cases ha : a < 9000
  · rw [if_pos ha, Bool.and_eq_true, decide_eq_true_eq, decide_eq_true_eq] at h
    exact ⟨fun _ => h, fun h9 => absurd ha (Nat.not_lt.mpr h9)⟩
  · rw [if_neg ha, Bool.and_eq_true, decide_eq_true_eq, decide_eq_true_eq] at h
    exact ⟨fun h9 => absurd h9 ha, fun _ => h⟩
theorem kFLb_ok {mi pc a b : Nat} {ins : Instr} (h : kFLb mi (pc, ins, a, b) = true) : kFLc kG kFR kLO mi ins a := by
  refine ⟨fun kd i hi => ?_, fun i hi ha => ?_⟩
  · subst hi
    have h1 : kFLv mi a = true := match kd, h with
      | 0, h => h
      | 1, h => h
      | 2, h => h
      | n + 3, h => h
    exact kFLv_ok h1
  · subst hi
    have h1 : kFLn mi a = true := h
    unfold kFLn at h1
    rw [if_pos ha, Bool.and_eq_true, decide_eq_true_eq, decide_eq_true_eq] at h1
    exact h1
theorem kfl_0 : kc_0.all (kFLb 0) = true := by decide +kernel
theorem kfl_1 : kc_1.all (kFLb 1) = true := by decide +kernel
theorem kfl_2 : kc_2.all (kFLb 2) = true := by decide +kernel
theorem kfl_3 : kc_3.all (kFLb 3) = true := by decide +kernel
theorem kfl_4 : kc_4.all (kFLb 4) = true := by decide +kernel
theorem kfl_5 : kc_5.all (kFLb 5) = true := by decide +kernel
theorem kfl_6 : kc_6.all (kFLb 6) = true := by decide +kernel
theorem kfl_7 : kc_7.all (kFLb 7) = true := by decide +kernel
theorem kfl_8 : kc_8.all (kFLb 8) = true := by decide +kernel
theorem kfl_9 : kc_9.all (kFLb 9) = true := by decide +kernel
theorem kfl_10 : kc_10.all (kFLb 10) = true := by decide +kernel
theorem kfl_11 : kc_11.all (kFLb 11) = true := by decide +kernel
theorem kfl_12 : kc_12.all (kFLb 12) = true := by decide +kernel
theorem kfl_13 : kc_13.all (kFLb 13) = true := by decide +kernel
theorem kfl_14 : kc_14.all (kFLb 14) = true := by decide +kernel
theorem kfl_15 : kc_15.all (kFLb 15) = true := by decide +kernel
theorem kfl_16 : kc_16.all (kFLb 16) = true := by decide +kernel
theorem kfl_17 : kc_17.all (kFLb 17) = true := by decide +kernel
theorem kfl_18 : kc_18.all (kFLb 18) = true := by decide +kernel
theorem kfl_19 : kc_19.all (kFLb 19) = true := by decide +kernel
theorem kfl_20 : kc_20.all (kFLb 20) = true := by decide +kernel
theorem kfl_21 : kc_21.all (kFLb 21) = true := by decide +kernel
theorem kfl_22 : kc_22.all (kFLb 22) = true := by decide +kernel
theorem kfl_23 : kc_23.all (kFLb 23) = true := by decide +kernel
theorem kfl_24 : kc_24.all (kFLb 24) = true := by decide +kernel
theorem kfl_25 : kc_25.all (kFLb 25) = true := by decide +kernel
theorem kfl_26 : kc_26.all (kFLb 26) = true := by decide +kernel
theorem kfl_27 : kc_27.all (kFLb 27) = true := by decide +kernel
theorem kfl_28 : kc_28.all (kFLb 28) = true := by decide +kernel
theorem kfl_29 : kc_29.all (kFLb 29) = true := by decide +kernel
theorem kfl_30 : kc_30.all (kFLb 30) = true := by decide +kernel
theorem kfl_31 : kc_31.all (kFLb 31) = true := by decide +kernel
theorem kfl_32 : kc_32.all (kFLb 32) = true := by decide +kernel
theorem kfl_33 : kc_33.all (kFLb 33) = true := by decide +kernel
theorem kfl_34 : kc_34.all (kFLb 34) = true := by decide +kernel
theorem kfl_35 : kc_35.all (kFLb 35) = true := by decide +kernel
theorem kfl_36 : kc_36.all (kFLb 36) = true := by decide +kernel
theorem kfl_37 : kc_37.all (kFLb 37) = true := by decide +kernel
theorem kfl_38 : kc_38.all (kFLb 38) = true := by decide +kernel
theorem kfl_39 : kc_39.all (kFLb 39) = true := by decide +kernel
theorem kfl_40 : kc_40.all (kFLb 40) = true := by decide +kernel
theorem kfl_41 : kc_41.all (kFLb 41) = true := by decide +kernel
theorem kfl_42 : kc_42.all (kFLb 42) = true := by decide +kernel
theorem kfl_43 : kc_43.all (kFLb 43) = true := by decide +kernel
theorem kfl_44 : kc_44.all (kFLb 44) = true := by decide +kernel
theorem kfl_45 : kc_45.all (kFLb 45) = true := by decide +kernel
theorem kfl_46 : kc_46.all (kFLb 46) = true := by decide +kernel
theorem kfl_47 : kc_47.all (kFLb 47) = true := by decide +kernel
theorem kfl_48 : kc_48.all (kFLb 48) = true := by decide +kernel
theorem kfl_49 : kc_49.all (kFLb 49) = true := by decide +kernel
theorem kfl_50 : kc_50.all (kFLb 50) = true := by decide +kernel
theorem kfl_51 : kc_51.all (kFLb 51) = true := by decide +kernel
theorem kfl_52 : kc_52.all (kFLb 52) = true := by decide +kernel
theorem kfl_53 : kc_53.all (kFLb 53) = true := by decide +kernel
theorem kfl_54 : kc_54.all (kFLb 54) = true := by decide +kernel
theorem kfl_55 : kc_55.all (kFLb 55) = true := by decide +kernel
theorem kfl_56 : kc_56.all (kFLb 56) = true := by decide +kernel
theorem kfl_57 : kc_57.all (kFLb 57) = true := by decide +kernel
theorem kfl_58 : kc_58.all (kFLb 58) = true := by decide +kernel
theorem kfl_59 : kc_59.all (kFLb 59) = true := by decide +kernel
theorem kfl_60 : kc_60.all (kFLb 60) = true := by decide +kernel
theorem kfl_61 : kc_61.all (kFLb 61) = true := by decide +kernel
theorem kfl_62 : kc_62.all (kFLb 62) = true := by decide +kernel
theorem kfl_63 : kc_63.all (kFLb 63) = true := by decide +kernel
theorem kfl_64 : kc_64.all (kFLb 64) = true := by decide +kernel
theorem kfl_65 : kc_65.all (kFLb 65) = true := by decide +kernel
theorem kfl_66 : kc_66.all (kFLb 66) = true := by decide +kernel
theorem kfl_67 : kc_67.all (kFLb 67) = true := by decide +kernel
theorem kfl_68 : kc_68.all (kFLb 68) = true := by decide +kernel
theorem kfl_69 : kc_69.all (kFLb 69) = true := by decide +kernel
theorem kfl_70 : kc_70.all (kFLb 70) = true := by decide +kernel
theorem kfl_71 : kc_71.all (kFLb 71) = true := by decide +kernel
theorem kfl_72 : kc_72.all (kFLb 72) = true := by decide +kernel
theorem kfl_73 : kc_73.all (kFLb 73) = true := by decide +kernel
theorem kfl_74 : kc_74.all (kFLb 74) = true := by decide +kernel
theorem kfl_75 : kc_75.all (kFLb 75) = true := by decide +kernel
theorem kfl_76 : kc_76.all (kFLb 76) = true := by decide +kernel
theorem kfl_77 : kc_77.all (kFLb 77) = true := by decide +kernel
theorem kfl_78 : kc_78.all (kFLb 78) = true := by decide +kernel
theorem kfl_79 : kc_79.all (kFLb 79) = true := by decide +kernel
theorem kfl_80 : kc_80.all (kFLb 80) = true := by decide +kernel
theorem kfl_81 : kc_81.all (kFLb 81) = true := by decide +kernel
theorem kfl_82 : kc_82.all (kFLb 82) = true := by decide +kernel
theorem kfl_83 : kc_83.all (kFLb 83) = true := by decide +kernel
theorem kfl_84 : kc_84.all (kFLb 84) = true := by decide +kernel
theorem kfl_85 : kc_85.all (kFLb 85) = true := by decide +kernel
theorem kfl_86 : kc_86.all (kFLb 86) = true := by decide +kernel
theorem kfl_87 : kc_87.all (kFLb 87) = true := by decide +kernel
theorem kfl_88 : kc_88.all (kFLb 88) = true := by decide +kernel
theorem kfl_89 : kc_89.all (kFLb 89) = true := by decide +kernel
theorem kfl_90 : kc_90.all (kFLb 90) = true := by decide +kernel
theorem kfl_91 : kc_91.all (kFLb 91) = true := by decide +kernel
theorem kfl_92 : kc_92.all (kFLb 92) = true := by decide +kernel
theorem kfl_93 : kc_93.all (kFLb 93) = true := by decide +kernel
theorem kfl_94 : kc_94.all (kFLb 94) = true := by decide +kernel
theorem kfl_95 : kc_95.all (kFLb 95) = true := by decide +kernel
theorem kfl_96 : kc_96.all (kFLb 96) = true := by decide +kernel
theorem kfl_97 : kc_97.all (kFLb 97) = true := by decide +kernel
theorem kfl_98 : kc_98.all (kFLb 98) = true := by decide +kernel
theorem kfl_99 : kc_99.all (kFLb 99) = true := by decide +kernel
theorem kfl_100 : kc_100.all (kFLb 100) = true := by decide +kernel
theorem kfl_101 : kc_101.all (kFLb 101) = true := by decide +kernel
theorem kfl_102 : kc_102.all (kFLb 102) = true := by decide +kernel
theorem kfl_103 : kc_103.all (kFLb 103) = true := by decide +kernel
theorem kfl_105 : kc_105.all (kFLb 105) = true := by decide +kernel
theorem kfl_106 : kc_106.all (kFLb 106) = true := by decide +kernel
theorem kfl_107 : kc_107.all (kFLb 107) = true := by decide +kernel
theorem kfl_108 : kc_108.all (kFLb 108) = true := by decide +kernel
theorem kfl_109 : kc_109.all (kFLb 109) = true := by decide +kernel
theorem kfl_110 : kc_110.all (kFLb 110) = true := by decide +kernel
theorem kfl_111 : kc_111.all (kFLb 111) = true := by decide +kernel
theorem kfl_112 : kc_112.all (kFLb 112) = true := by decide +kernel
theorem kfl_113 : kc_113.all (kFLb 113) = true := by decide +kernel
theorem kfl_114 : kc_114.all (kFLb 114) = true := by decide +kernel
theorem kfl_115 : kc_115.all (kFLb 115) = true := by decide +kernel
theorem kfl_116 : kc_116.all (kFLb 116) = true := by decide +kernel
theorem kfl_118 : kc_118.all (kFLb 118) = true := by decide +kernel
theorem kfl_119 : kc_119.all (kFLb 119) = true := by decide +kernel
theorem kfl_120 : kc_120.all (kFLb 120) = true := by decide +kernel
theorem kfl_121 : kc_121.all (kFLb 121) = true := by decide +kernel
theorem kfl_122 : kc_122.all (kFLb 122) = true := by decide +kernel
theorem kfl_123 : kc_123.all (kFLb 123) = true := by decide +kernel
theorem kfl_125 : kc_125.all (kFLb 125) = true := by decide +kernel
theorem kfl_126 : kc_126.all (kFLb 126) = true := by decide +kernel
theorem kfl_127 : kc_127.all (kFLb 127) = true := by decide +kernel
theorem kfl_128 : kc_128.all (kFLb 128) = true := by decide +kernel
theorem kfl_129 : kc_129.all (kFLb 129) = true := by decide +kernel
theorem kfl_130 : kc_130.all (kFLb 130) = true := by decide +kernel
theorem kfl_131 : kc_131.all (kFLb 131) = true := by decide +kernel
theorem kfl_132 : kc_132.all (kFLb 132) = true := by decide +kernel
theorem kfl_134 : kc_134.all (kFLb 134) = true := by decide +kernel
theorem kfl_135 : kc_135.all (kFLb 135) = true := by decide +kernel
theorem kfl_136 : kc_136.all (kFLb 136) = true := by decide +kernel
theorem kfl_137 : kc_137.all (kFLb 137) = true := by decide +kernel
theorem kfl_138 : kc_138.all (kFLb 138) = true := by decide +kernel
theorem kfl_139 : kc_139.all (kFLb 139) = true := by decide +kernel
def kFLp (q : Nat × kMI × List (Nat × Instr × Nat × Nat)) : Prop := q.2.2.all (kFLb q.1) = true
theorem kFLp_all : ∀ q ∈ kMz, kFLp q :=
  kcons (kfl_0) (kcons (kfl_1) (kcons (kfl_2) (kcons (kfl_3) (kcons (kfl_4) (kcons (kfl_5) (kcons (kfl_6) (kcons (kfl_7) (kcons (kfl_8) (kcons (kfl_9) (kcons (kfl_10) (kcons (kfl_11) (kcons (kfl_12) (kcons (kfl_13) (kcons (kfl_14) (kcons (kfl_15) (kcons (kfl_16) (kcons (kfl_17) (kcons (kfl_18) (kcons (kfl_19) (kcons (kfl_20) (kcons (kfl_21) (kcons (kfl_22) (kcons (kfl_23) (kcons (kfl_24) (kcons (kfl_25) (kcons (kfl_26) (kcons (kfl_27) (kcons (kfl_28) (kcons (kfl_29) (kcons (kfl_30) (kcons (kfl_31) (kcons (kfl_32) (kcons (kfl_33) (kcons (kfl_34) (kcons (kfl_35) (kcons (kfl_36) (kcons (kfl_37) (kcons (kfl_38) (kcons (kfl_39) (kcons (kfl_40) (kcons (kfl_41) (kcons (kfl_42) (kcons (kfl_43) (kcons (kfl_44) (kcons (kfl_45) (kcons (kfl_46) (kcons (kfl_47) (kcons (kfl_48) (kcons (kfl_49) (kcons (kfl_50) (kcons (kfl_51) (kcons (kfl_52) (kcons (kfl_53) (kcons (kfl_54) (kcons (kfl_55) (kcons (kfl_56) (kcons (kfl_57) (kcons (kfl_58) (kcons (kfl_59) (kcons (kfl_60) (kcons (kfl_61) (kcons (kfl_62) (kcons (kfl_63) (kcons (kfl_64) (kcons (kfl_65) (kcons (kfl_66) (kcons (kfl_67) (kcons (kfl_68) (kcons (kfl_69) (kcons (kfl_70) (kcons (kfl_71) (kcons (kfl_72) (kcons (kfl_73) (kcons (kfl_74) (kcons (kfl_75) (kcons (kfl_76) (kcons (kfl_77) (kcons (kfl_78) (kcons (kfl_79) (kcons (kfl_80) (kcons (kfl_81) (kcons (kfl_82) (kcons (kfl_83) (kcons (kfl_84) (kcons (kfl_85) (kcons (kfl_86) (kcons (kfl_87) (kcons (kfl_88) (kcons (kfl_89) (kcons (kfl_90) (kcons (kfl_91) (kcons (kfl_92) (kcons (kfl_93) (kcons (kfl_94) (kcons (kfl_95) (kcons (kfl_96) (kcons (kfl_97) (kcons (kfl_98) (kcons (kfl_99) (kcons (kfl_100) (kcons (kfl_101) (kcons (kfl_102) (kcons (kfl_103) (kcons (kfl_105) (kcons (kfl_106) (kcons (kfl_107) (kcons (kfl_108) (kcons (kfl_109) (kcons (kfl_110) (kcons (kfl_111) (kcons (kfl_112) (kcons (kfl_113) (kcons (kfl_114) (kcons (kfl_115) (kcons (kfl_116) (kcons (kfl_118) (kcons (kfl_119) (kcons (kfl_120) (kcons (kfl_121) (kcons (kfl_122) (kcons (kfl_123) (kcons (kfl_125) (kcons (kfl_126) (kcons (kfl_127) (kcons (kfl_128) (kcons (kfl_129) (kcons (kfl_130) (kcons (kfl_131) (kcons (kfl_132) (kcons (kfl_134) (kcons (kfl_135) (kcons (kfl_136) (kcons (kfl_137) (kcons (kfl_138) (kcons (kfl_139) (knil))))))))))))))))))))))))))))))))))))))))))))))))))))))))))))))))))))))))))))))))))))))))))))))))))))))))))))))))))))))))))))))))))))))))
theorem kFL_holds : kFLs kG kFR kLO := by
  intro mi pc ins a b hf
  obtain ⟨q, hq, h1, h2, e, he, h3, h4⟩ := kFetch_some hf
  have h5 := List.all_eq_true.mp (kFLp_all q hq) e he
  obtain ⟨pc', x⟩ := e
  subst h1
  cases h3
  cases h4
  exact kFLb_ok h5
