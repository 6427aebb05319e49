set_option maxRecDepth 20000
theorem kci_0 : kCI kFty 0 "java/lang/String" TJ0 4 := ⟨rfl, by decide, kwl (kt_4_212) (kwl (kt_4_214) (kwl (kt_4_216) (kwl (kt_4_218) (kwn)))), by decide +kernel, by decide +kernel⟩
theorem kci_1 : kCI kFty 1 "java/lang/StringBuilder" TJ4 4 := ⟨rfl, by decide, kwl (kt_4_62) (kwl (kt_4_64) (kwl (kt_4_66) (kwl (kt_4_68) (kwn)))), by decide +kernel, by decide +kernel⟩
theorem kci_2 : kCI kFty 2 "java/lang/String" TJ0 4 := ⟨rfl, by decide, kwl (kt_4_212) (kwl (kt_4_214) (kwl (kt_4_216) (kwl (kt_4_218) (kwn)))), by decide +kernel, by decide +kernel⟩
theorem kci_3 : kCI kFty 3 "java/lang/String" TJ0 4 := ⟨rfl, by decide, kwl (kt_4_212) (kwl (kt_4_214) (kwl (kt_4_216) (kwl (kt_4_218) (kwn)))), by decide +kernel, by decide +kernel⟩
theorem kci_4 : kCI kFty 4 "java/lang/String" TJ0 4 := ⟨rfl, by decide, kwl (kt_4_212) (kwl (kt_4_214) (kwl (kt_4_216) (kwl (kt_4_218) (kwn)))), by decide +kernel, by decide +kernel⟩
theorem kci_5 : kCI kFty 5 "Knitstead$Balls" TX0 3 := ⟨rfl, by decide, kwl (kt_3_49) (kwl (kt_3_51) (kwl (kt_3_53) (kwn))), by decide +kernel, by decide +kernel⟩
theorem kci_6 : kCI kFty 6 "Knitstead$History" TX1 5 := ⟨rfl, by decide, kwl (kt_3_148) (kwl (kt_3_150) (kwl (kt_3_152) (kwl (kt_3_154) (kwl (kt_3_156) (kwn))))), by decide +kernel, by decide +kernel⟩
theorem kci_7 : kCI kFty 7 "Knitstead$Needle" TX2 2 := ⟨rfl, by decide, kwl (kt_3_71) (kwl (kt_3_73) (kwn)), by decide +kernel, by decide +kernel⟩
theorem kci_8 : kCI kFty 8 "Knitstead$Table" TX3 3 := ⟨rfl, by decide, kwl (kt_3_84) (kwl (kt_3_86) (kwl (kt_3_88) (kwn))), by decide +kernel, by decide +kernel⟩
theorem kci_9 : kCI kFty 9 "Knitstead$Trial" TX4 5 := ⟨rfl, by decide, kwl (kt_3_174) (kwl (kt_3_176) (kwl (kt_3_178) (kwl (kt_3_180) (kwl (kt_3_182) (kwn))))), by decide +kernel, by decide +kernel⟩
theorem kci_10 : kCI kFty 10 "Knitstead$Work" TX5 10 := ⟨rfl, by decide, kwl (kt_3_111) (kwl (kt_3_113) (kwl (kt_3_115) (kwl (kt_3_117) (kwl (kt_3_119) (kwl (kt_3_121) (kwl (kt_3_123) (kwl (kt_3_125) (kwl (kt_3_127) (kwl (kt_3_129) (kwn)))))))))), by decide +kernel, by decide +kernel⟩
theorem kci_11 : kCI kFty 11 "Knitstead" TX6 8 := ⟨rfl, by decide, kwl (kt_3_193) (kwl (kt_3_195) (kwl (kt_3_197) (kwl (kt_3_199) (kwl (kt_3_201) (kwl (kt_3_203) (kwl (kt_3_205) (kwl (kt_3_207) (kwn)))))))), by decide +kernel, by decide +kernel⟩
theorem kdf_0 : kDfOk 0 4 := ⟨_, rfl, rfl, fun j hj => match j, hj with
  | 0, _ => ⟨rfl, fun _ => rfl⟩
  | 1, _ => ⟨rfl, fun _ => rfl⟩
  | 2, _ => ⟨rfl, fun _ => rfl⟩
  | 3, _ => ⟨rfl, fun _ => rfl⟩
  | (n + 4), h => absurd h (by omega)⟩
theorem kdf_1 : kDfOk 1 4 := ⟨_, rfl, rfl, fun j hj => match j, hj with
  | 0, _ => ⟨rfl, fun _ => rfl⟩
  | 1, _ => ⟨rfl, fun _ => rfl⟩
  | 2, _ => ⟨rfl, fun _ => rfl⟩
  | 3, _ => ⟨rfl, fun _ => rfl⟩
  | (n + 4), h => absurd h (by omega)⟩
theorem kdf_5 : kDfOk 5 3 := ⟨_, rfl, rfl, fun j hj => match j, hj with
  | 0, _ => ⟨rfl, fun _ => rfl⟩
  | 1, _ => ⟨rfl, fun _ => rfl⟩
  | 2, _ => ⟨rfl, fun _ => rfl⟩
  | (n + 3), h => absurd h (by omega)⟩
theorem kdf_6 : kDfOk 6 5 := ⟨_, rfl, rfl, fun j hj => match j, hj with
  | 0, _ => ⟨rfl, fun _ => rfl⟩
  | 1, _ => ⟨rfl, fun _ => rfl⟩
  | 2, _ => ⟨rfl, fun _ => rfl⟩
  | 3, _ => ⟨rfl, fun _ => rfl⟩
  | 4, _ => ⟨rfl, fun _ => rfl⟩
  | (n + 5), h => absurd h (by omega)⟩
theorem kdf_7 : kDfOk 7 2 := ⟨_, rfl, rfl, fun j hj => match j, hj with
  | 0, _ => ⟨rfl, fun _ => rfl⟩
  | 1, _ => ⟨rfl, fun _ => rfl⟩
  | (n + 2), h => absurd h (by omega)⟩
theorem kdf_8 : kDfOk 8 3 := ⟨_, rfl, rfl, fun j hj => match j, hj with
  | 0, _ => ⟨rfl, fun _ => rfl⟩
  | 1, _ => ⟨rfl, fun _ => rfl⟩
  | 2, _ => ⟨rfl, fun _ => rfl⟩
  | (n + 3), h => absurd h (by omega)⟩
theorem kdf_9 : kDfOk 9 5 := ⟨_, rfl, rfl, fun j hj => match j, hj with
  | 0, _ => ⟨rfl, fun _ => rfl⟩
  | 1, _ => ⟨rfl, fun _ => rfl⟩
  | 2, _ => ⟨rfl, fun _ => rfl⟩
  | 3, _ => ⟨rfl, fun _ => rfl⟩
  | 4, _ => ⟨rfl, fun _ => rfl⟩
  | (n + 5), h => absurd h (by omega)⟩
theorem kdf_10 : kDfOk 10 10 := ⟨_, rfl, rfl, fun j hj => match j, hj with
  | 0, _ => ⟨rfl, fun _ => rfl⟩
  | 1, _ => ⟨rfl, fun _ => rfl⟩
  | 2, _ => ⟨rfl, fun _ => rfl⟩
  | 3, _ => ⟨rfl, fun _ => rfl⟩
  | 4, _ => ⟨rfl, fun _ => rfl⟩
  | 5, _ => ⟨rfl, fun _ => rfl⟩
  | 6, _ => ⟨rfl, fun _ => rfl⟩
  | 7, _ => ⟨rfl, fun _ => rfl⟩
  | 8, _ => ⟨rfl, fun _ => rfl⟩
  | 9, _ => ⟨rfl, fun _ => rfl⟩
  | (n + 10), h => absurd h (by omega)⟩
theorem kdf_11 : kDfOk 11 8 := ⟨_, rfl, rfl, fun j hj => match j, hj with
  | 0, _ => ⟨rfl, fun _ => rfl⟩
  | 1, _ => ⟨rfl, fun _ => rfl⟩
  | 2, _ => ⟨rfl, fun _ => rfl⟩
  | 3, _ => ⟨rfl, fun _ => rfl⟩
  | 4, _ => ⟨rfl, fun _ => rfl⟩
  | 5, _ => ⟨rfl, fun _ => rfl⟩
  | 6, _ => ⟨rfl, fun _ => rfl⟩
  | 7, _ => ⟨rfl, fun _ => rfl⟩
  | (n + 8), h => absurd h (by omega)⟩
theorem kcal_1 : kCalOk 1 ⟨"Knitstead$Balls", "<init>", "()V"⟩ 0 (none) (none) := kCalM (by decide) (kInM (q := (1, (yX0_init, cX0_init, 1, none, none), kc_1)) rfl) kt_3_41 kt_1_2 (by decide +kernel) (by decide) (by decide +kernel)
theorem kcal_2 : kCalOk 2 ⟨"Knitstead$Balls", "has", "(I)Z"⟩ 1 (none) ((some .boolean)) := kCalM (by decide) (kInM (q := (2, (yX0_has, cX0_has, 2, (some .boolean), none), kc_2)) rfl) kt_1_109 kt_1_2 (by decide +kernel) (by decide) (by decide +kernel)
theorem kcal_3 : kCalOk 3 ⟨"Knitstead$Balls", "add", "(I)I"⟩ 1 (none) ((some .int)) := kCalM (by decide) (kInM (q := (3, (yX0_add, cX0_add, 3, (some .int), none), kc_3)) rfl) kt_3_219 kt_1_2 (by decide +kernel) (by decide) (by decide +kernel)
theorem kcal_4 : kCalOk 4 ⟨"Knitstead$Balls", "of", "(I)I"⟩ 1 (none) ((some .int)) := kCalM (by decide) (kInM (q := (4, (yX0_of, cX0_of, 2, (some .int), none), kc_4)) rfl) kt_1_105 kt_1_2 (by decide +kernel) (by decide) (by decide +kernel)
theorem kcal_5 : kCalOk 5 ⟨"Knitstead$Balls", "set", "(II)V"⟩ 2 (none) (none) := kCalM (by decide) (kInM (q := (5, (yX0_set, cX0_set, 3, none, none), kc_5)) rfl) kt_1_201 kt_1_2 (by decide +kernel) (by decide) (by decide +kernel)
theorem kcal_6 : kCalOk 6 ⟨"Knitstead$Balls", "ofJoined", "()I"⟩ 0 (none) ((some .int)) := kCalM (by decide) (kInM (q := (6, (yX0_ofJoined, cX0_ofJoined, 1, (some .int), none), kc_6)) rfl) kt_1_101 kt_1_2 (by decide +kernel) (by decide) (by decide +kernel)
theorem kcal_7 : kCalOk 7 ⟨"Knitstead$Balls", "spend", "(I)V"⟩ 1 (none) (none) := kCalM (by decide) (kInM (q := (7, (yX0_spend, cX0_spend, 2, none, none), kc_7)) rfl) kt_1_197 kt_1_2 (by decide +kernel) (by decide) (by decide +kernel)
theorem kcal_8 : kCalOk 8 ⟨"Knitstead$Balls", "ofAll", "()I"⟩ 0 (none) ((some .int)) := kCalM (by decide) (kInM (q := (8, (yX0_ofAll, cX0_ofAll, 3, (some .int), none), kc_8)) rfl) kt_2_212 kt_1_2 (by decide +kernel) (by decide) (by decide +kernel)
theorem kcal_9 : kCalOk 9 ⟨"Knitstead$History", "<init>", "()V"⟩ 0 (none) (none) := kCalM (by decide) (kInM (q := (9, (yX1_init, cX1_init, 2, none, none), kc_9)) rfl) kt_3_137 kt_1_7 (by decide +kernel) (by decide) (by decide +kernel)
theorem kcal_10 : kCalOk 10 ⟨"Knitstead$History", "isSlot", "(I)Z"⟩ 1 (none) ((some .boolean)) := kCalM (by decide) (kInM (q := (10, (yX1_isSlot, cX1_isSlot, 2, (some .boolean), none), kc_10)) rfl) kt_1_138 kt_1_7 (by decide +kernel) (by decide) (by decide +kernel)
theorem kcal_11 : kCalOk 11 ⟨"Knitstead$History", "keep", "(LKnitstead$Work;LKnitstead$Balls;)V"⟩ 2 (none) (none) := kCalM (by decide) (kInM (q := (11, (yX1_keep, cX1_keep, 3, none, none), kc_11)) rfl) kt_1_133 kt_1_7 (by decide +kernel) (by decide) (by decide +kernel)
theorem kcal_12 : kCalOk 12 ⟨"Knitstead$History", "bringBack", "(LKnitstead$Work;LKnitstead$Balls;)V"⟩ 2 (none) (none) := kCalM (by decide) (kInM (q := (12, (yX1_bringBack, cX1_bringBack, 4, none, none), kc_12)) rfl) kt_2_144 kt_1_7 (by decide +kernel) (by decide) (by decide +kernel)
theorem kcal_13 : kCalOk 13 ⟨"Knitstead$Needle", "<init>", "()V"⟩ 0 (none) (none) := kCalM (by decide) (kInM (q := (13, (yX2_init, cX2_init, 1, none, none), kc_13)) rfl) kt_3_65 kt_1_4 (by decide +kernel) (by decide) (by decide +kernel)
theorem kcal_14 : kCalOk 14 ⟨"Knitstead$Needle", "at", "(I)I"⟩ 1 (none) ((some .int)) := kCalM (by decide) (kInM (q := (14, (yX2_at, cX2_at, 3, (some .int), none), kc_14)) rfl) kt_1_238 kt_1_4 (by decide +kernel) (by decide) (by decide +kernel)
theorem kcal_15 : kCalOk 15 ⟨"Knitstead$Needle", "replace", "(II)V"⟩ 2 (none) (none) := kCalM (by decide) (kInM (q := (15, (yX2_replace, cX2_replace, 4, none, none), kc_15)) rfl) kt_2_3 kt_1_4 (by decide +kernel) (by decide) (by decide +kernel)
theorem kcal_16 : kCalOk 16 ⟨"Knitstead$Needle", "holds", "(I)Z"⟩ 1 (none) ((some .boolean)) := kCalM (by decide) (kInM (q := (16, (yX2_holds, cX2_holds, 3, (some .boolean), none), kc_16)) rfl) kt_2_172 kt_1_4 (by decide +kernel) (by decide) (by decide +kernel)
theorem kcal_17 : kCalOk 17 ⟨"Knitstead$Needle", "put", "(I)V"⟩ 1 (none) (none) := kCalM (by decide) (kInM (q := (17, (yX2_put, cX2_put, 2, none, none), kc_17)) rfl) kt_1_205 kt_1_4 (by decide +kernel) (by decide) (by decide +kernel)
theorem kcal_18 : kCalOk 18 ⟨"Knitstead$Needle", "takeAt", "(I)I"⟩ 1 (none) ((some .int)) := kCalM (by decide) (kInM (q := (18, (yX2_takeAt, cX2_takeAt, 4, (some .int), none), kc_18)) rfl) kt_2_32 kt_1_4 (by decide +kernel) (by decide) (by decide +kernel)
theorem kcal_19 : kCalOk 19 ⟨"Knitstead$Needle", "moveTipBehind", "(I)V"⟩ 1 (none) (none) := kCalM (by decide) (kInM (q := (19, (yX2_moveTipBehind, cX2_moveTipBehind, 4, none, none), kc_19)) rfl) kt_1_234 kt_1_4 (by decide +kernel) (by decide) (by decide +kernel)
theorem kcal_20 : kCalOk 20 ⟨"Knitstead$Needle", "swapWith", "(LKnitstead$Needle;)V"⟩ 1 (none) (none) := kCalM (by decide) (kInM (q := (20, (yX2_swapWith, cX2_swapWith, 5, none, none), kc_20)) rfl) kt_2_13 kt_1_4 (by decide +kernel) (by decide) (by decide +kernel)
theorem kcal_21 : kCalOk 21 ⟨"Knitstead$Needle", "copyFrom", "(LKnitstead$Needle;)V"⟩ 1 (none) (none) := kCalM (by decide) (kInM (q := (21, (yX2_copyFrom, cX2_copyFrom, 2, none, none), kc_21)) rfl) kt_1_146 kt_1_4 (by decide +kernel) (by decide) (by decide +kernel)
theorem kcal_22 : kCalOk 22 ⟨"Knitstead$Table", "<init>", "(III)V"⟩ 3 (none) (none) := kCalM (by decide) (kInM (q := (22, (yX3_init, cX3_init, 4, none, none), kc_22)) rfl) kt_3_79 kt_1_5 (by decide +kernel) (by decide) (by decide +kernel)
theorem kcal_23 : kCalOk 23 ⟨"Knitstead$Table", "cellOf", "(II)I"⟩ 2 (none) ((some .int)) := kCalM (by decide) (kInM (q := (23, (yX3_cellOf, cX3_cellOf, 4, (some .int), none), kc_23)) rfl) kt_1_174 kt_1_5 (by decide +kernel) (by decide) (by decide +kernel)
theorem kcal_24 : kCalOk 24 ⟨"Knitstead$Table", "get", "(II)I"⟩ 2 (none) ((some .int)) := kCalM (by decide) (kInM (q := (24, (yX3_get, cX3_get, 4, (some .int), none), kc_24)) rfl) kt_1_217 kt_1_5 (by decide +kernel) (by decide) (by decide +kernel)
theorem kcal_25 : kCalOk 25 ⟨"Knitstead$Table", "set", "(III)V"⟩ 3 (none) (none) := kCalM (by decide) (kInM (q := (25, (yX3_set, cX3_set, 5, none, none), kc_25)) rfl) kt_1_169 kt_1_5 (by decide +kernel) (by decide) (by decide +kernel)
theorem kcal_26 : kCalOk 26 ⟨"Knitstead$Table", "growTo", "(I)V"⟩ 1 (none) (none) := kCalM (by decide) (kInM (q := (26, (yX3_growTo, cX3_growTo, 3, none, none), kc_26)) rfl) kt_1_178 kt_1_5 (by decide +kernel) (by decide) (by decide +kernel)
theorem kcal_27 : kCalOk 27 ⟨"Knitstead$Table", "copyFrom", "(LKnitstead$Table;)V"⟩ 1 (none) (none) := kCalM (by decide) (kInM (q := (27, (yX3_copyFrom, cX3_copyFrom, 3, none, none), kc_27)) rfl) kt_1_156 kt_1_5 (by decide +kernel) (by decide) (by decide +kernel)
theorem kcal_28 : kCalOk 28 ⟨"Knitstead$Trial", "<init>", "()V"⟩ 0 (none) (none) := kCalM (by decide) (kInM (q := (28, (yX4_init, cX4_init, 1, none, none), kc_28)) rfl) kt_3_163 kt_1_8 (by decide +kernel) (by decide) (by decide +kernel)
theorem kcal_29 : kCalOk 29 ⟨"Knitstead$Trial", "start", "(III)V"⟩ 3 (none) (none) := kCalM (by decide) (kInM (q := (29, (yX4_start, cX4_start, 4, none, none), kc_29)) rfl) kt_2_85 kt_1_8 (by decide +kernel) (by decide) (by decide +kernel)
theorem kcal_30 : kCalOk 30 ⟨"Knitstead$Trial", "takesStep", "(I)Z"⟩ 1 (none) ((some .boolean)) := kCalM (by decide) (kInM (q := (30, (yX4_takesStep, cX4_takesStep, 4, (some .boolean), none), kc_30)) rfl) kt_2_93 kt_1_8 (by decide +kernel) (by decide) (by decide +kernel)
theorem kcal_31 : kCalOk 31 ⟨"Knitstead$Work", "<init>", "()V"⟩ 0 (none) (none) := kCalM (by decide) (kInM (q := (31, (yX5_init, cX5_init, 1, none, none), kc_31)) rfl) kt_3_60 kt_1_3 (by decide +kernel) (by decide) (by decide +kernel)
theorem kcal_32 : kCalOk 32 ⟨"Knitstead$Work", "onBoth", "()I"⟩ 0 (none) ((some .int)) := kCalM (by decide) (kInM (q := (32, (yX5_onBoth, cX5_onBoth, 1, (some .int), none), kc_32)) rfl) kt_1_113 kt_1_3 (by decide +kernel) (by decide) (by decide +kernel)
theorem kcal_33 : kCalOk 33 ⟨"Knitstead$Work", "openRun", "(II)I"⟩ 2 (none) ((some .int)) := kCalM (by decide) (kInM (q := (33, (yX5_openRun, cX5_openRun, 4, (some .int), none), kc_33)) rfl) kt_2_46 kt_1_3 (by decide +kernel) (by decide) (by decide +kernel)
theorem kcal_34 : kCalOk 34 ⟨"Knitstead$Work", "isOpen", "(I)Z"⟩ 1 (none) ((some .boolean)) := kCalM (by decide) (kInM (q := (34, (yX5_isOpen, cX5_isOpen, 2, (some .boolean), none), kc_34)) rfl) kt_1_213 kt_1_3 (by decide +kernel) (by decide) (by decide +kernel)
theorem kcal_35 : kCalOk 35 ⟨"Knitstead$Work", "openRuns", "()I"⟩ 0 (none) ((some .int)) := kCalM (by decide) (kInM (q := (35, (yX5_openRuns, cX5_openRuns, 3, (some .int), none), kc_35)) rfl) kt_2_216 kt_1_3 (by decide +kernel) (by decide) (by decide +kernel)
theorem kcal_36 : kCalOk 36 ⟨"Knitstead$Work", "hasInOpenRun", "(I)Z"⟩ 1 (none) ((some .boolean)) := kCalM (by decide) (kInM (q := (36, (yX5_hasInOpenRun, cX5_hasInOpenRun, 3, (some .boolean), none), kc_36)) rfl) kt_2_176 kt_1_3 (by decide +kernel) (by decide) (by decide +kernel)
theorem kcal_37 : kCalOk 37 ⟨"Knitstead$Work", "letRunsFall", "()V"⟩ 0 (none) (none) := kCalM (by decide) (kInM (q := (37, (yX5_letRunsFall, cX5_letRunsFall, 3, none, none), kc_37)) rfl) kt_1_209 kt_1_3 (by decide +kernel) (by decide) (by decide +kernel)
theorem kcal_38 : kCalOk 38 ⟨"Knitstead$Work", "copyFrom", "(LKnitstead$Work;)V"⟩ 1 (none) (none) := kCalM (by decide) (kInM (q := (38, (yX5_copyFrom, cX5_copyFrom, 2, none, none), kc_38)) rfl) kt_1_142 kt_1_3 (by decide +kernel) (by decide) (by decide +kernel)
theorem kcal_39 : kCalOk 39 ⟨"Knitstead", "<init>", "()V"⟩ 0 (none) (none) := kCalM (by decide) (kInM (q := (39, (yX6_init, cX6_init, 1, none, none), kc_39)) rfl) kt_3_35 kt_1_1 (by decide +kernel) (by decide) (by decide +kernel)
theorem kcal_40 : kCalOk 40 ⟨"Knitstead", "buy", "(I)I"⟩ 1 (none) ((some .int)) := kCalM (by decide) (kInM (q := (40, (yX6_buy, cX6_buy, 2, (some .int), none), kc_40)) rfl) kt_3_213 kt_1_1 (by decide +kernel) (by decide) (by decide +kernel)
theorem kcal_41 : kCalOk 41 ⟨"Knitstead", "join", "(I)I"⟩ 1 (none) ((some .int)) := kCalM (by decide) (kInM (q := (41, (yX6_join, cX6_join, 3, (some .int), none), kc_41)) rfl) kt_3_223 kt_1_1 (by decide +kernel) (by decide) (by decide +kernel)
theorem kcal_42 : kCalOk 42 ⟨"Knitstead", "cast", "(I)I"⟩ 1 (none) ((some .int)) := kCalM (by decide) (kInM (q := (42, (yX6_cast, cX6_cast, 3, (some .int), none), kc_42)) rfl) kt_1_27 kt_1_1 (by decide +kernel) (by decide) (by decide +kernel)
theorem kcal_43 : kCalOk 43 ⟨"Knitstead", "work", "(Z)I"⟩ 1 (none) ((some .int)) := kCalM (by decide) (kInM (q := (43, (yX6_work, cX6_work, 2, (some .int), none), kc_43)) rfl) kt_4_8 kt_1_1 (by decide +kernel) (by decide) (by decide +kernel)
theorem kcal_44 : kCalOk 44 ⟨"Knitstead", "over", "()I"⟩ 0 (none) ((some .int)) := kCalM (by decide) (kInM (q := (44, (yX6_over, cX6_over, 1, (some .int), none), kc_44)) rfl) kt_4_18 kt_1_1 (by decide +kernel) (by decide) (by decide +kernel)
theorem kcal_45 : kCalOk 45 ⟨"Knitstead", "together", "(IZ)I"⟩ 2 (none) ((some .int)) := kCalM (by decide) (kInM (q := (45, (yX6_together, cX6_together, 3, (some .int), none), kc_45)) rfl) kt_4_23 kt_1_1 (by decide +kernel) (by decide) (by decide +kernel)
theorem kcal_46 : kCalOk 46 ⟨"Knitstead", "slip", "()I"⟩ 0 (none) ((some .int)) := kCalM (by decide) (kInM (q := (46, (yX6_slip, cX6_slip, 1, (some .int), none), kc_46)) rfl) kt_4_29 kt_1_1 (by decide +kernel) (by decide) (by decide +kernel)
theorem kcal_47 : kCalOk 47 ⟨"Knitstead", "cross", "(II)I"⟩ 2 (none) ((some .int)) := kCalM (by decide) (kInM (q := (47, (yX6_cross, cX6_cross, 3, (some .int), none), kc_47)) rfl) kt_1_224 kt_1_1 (by decide +kernel) (by decide) (by decide +kernel)
theorem kcal_48 : kCalOk 48 ⟨"Knitstead", "turn", "()I"⟩ 0 (none) ((some .int)) := kCalM (by decide) (kInM (q := (48, (yX6_turn, cX6_turn, 1, (some .int), none), kc_48)) rfl) kt_2_8 kt_1_1 (by decide +kernel) (by decide) (by decide +kernel)
theorem kcal_49 : kCalOk 49 ⟨"Knitstead", "bind", "(I)I"⟩ 1 (none) ((some .int)) := kCalM (by decide) (kInM (q := (49, (yX6_bind, cX6_bind, 3, (some .int), none), kc_49)) rfl) kt_2_17 kt_1_1 (by decide +kernel) (by decide) (by decide +kernel)
theorem kcal_50 : kCalOk 50 ⟨"Knitstead", "drop", "()I"⟩ 0 (none) ((some .int)) := kCalM (by decide) (kInM (q := (50, (yX6_drop, cX6_drop, 2, (some .int), none), kc_50)) rfl) kt_2_40 kt_1_1 (by decide +kernel) (by decide) (by decide +kernel)
theorem kcal_51 : kCalOk 51 ⟨"Knitstead", "latch", "(I)I"⟩ 1 (none) ((some .int)) := kCalM (by decide) (kInM (q := (51, (yX6_latch, cX6_latch, 2, (some .int), none), kc_51)) rfl) kt_2_50 kt_1_1 (by decide +kernel) (by decide) (by decide +kernel)
theorem kcal_52 : kCalOk 52 ⟨"Knitstead", "pattern", "(I)I"⟩ 1 (none) ((some .int)) := kCalM (by decide) (kInM (q := (52, (yX6_pattern, cX6_pattern, 3, (some .int), none), kc_52)) rfl) kt_3_227 kt_1_1 (by decide +kernel) (by decide) (by decide +kernel)
theorem kcal_53 : kCalOk 53 ⟨"Knitstead", "follow", "(I)I"⟩ 1 (none) ((some .int)) := kCalM (by decide) (kInM (q := (53, (yX6_follow, cX6_follow, 4, (some .int), none), kc_53)) rfl) kt_2_71 kt_1_1 (by decide +kernel) (by decide) (by decide +kernel)
theorem kcal_54 : kCalOk 54 ⟨"Knitstead", "undo", "()I"⟩ 0 (none) ((some .int)) := kCalM (by decide) (kInM (q := (54, (yX6_undo, cX6_undo, 1, (some .int), none), kc_54)) rfl) kt_2_139 kt_1_1 (by decide +kernel) (by decide) (by decide +kernel)
theorem kcal_55 : kCalOk 55 ⟨"Knitstead", "on", "(ZI)I"⟩ 2 (none) ((some .int)) := kCalM (by decide) (kInM (q := (55, (yX6_on, cX6_on, 3, (some .int), none), kc_55)) rfl) kt_2_149 kt_1_1 (by decide +kernel) (by decide) (by decide +kernel)
theorem kcal_56 : kCalOk 56 ⟨"Knitstead", "ofLoop", "(II)I"⟩ 2 (none) ((some .int)) := kCalM (by decide) (kInM (q := (56, (yX6_ofLoop, cX6_ofLoop, 3, (some .int), none), kc_56)) rfl) kt_2_158 kt_1_1 (by decide +kernel) (by decide) (by decide +kernel)
theorem kcal_57 : kCalOk 57 ⟨"Knitstead", "ofRun", "(II)I"⟩ 2 (none) ((some .int)) := kCalM (by decide) (kInM (q := (57, (yX6_ofRun, cX6_ofRun, 3, (some .int), none), kc_57)) rfl) kt_2_180 kt_1_1 (by decide +kernel) (by decide) (by decide +kernel)
theorem kcal_58 : kCalOk 58 ⟨"Knitstead", "seen", "(Z)Ljava/lang/String;"⟩ 1 (none) ((some (.object "java/lang/String"))) := kCalM (by decide) (kInM (q := (58, (yX6_seen, cX6_seen, 5, (some (.object "java/lang/String")), none), kc_58)) rfl) kt_4_39 kt_1_1 (by decide +kernel) (by decide) (by decide +kernel)
theorem kcal_59 : kCalOk 59 ⟨"Knitstead", "width", "(Z)D"⟩ 1 (none) ((some .double)) := kCalM (by decide) (kInM (q := (59, (yX6_width, cX6_width, 2, (some .double), none), kc_59)) rfl) kt_2_185 kt_1_1 (by decide +kernel) (by decide) (by decide +kernel)
theorem kcal_60 : kCalOk 60 ⟨"Knitstead", "many", "(I)I"⟩ 1 (none) ((some .int)) := kCalM (by decide) (kInM (q := (60, (yX6_many, cX6_many, 2, (some .int), none), kc_60)) rfl) kt_2_203 kt_1_1 (by decide +kernel) (by decide) (by decide +kernel)
theorem kcal_61 : kCalOk 61 ⟨"Knitstead", "left", "(I)I"⟩ 1 (none) ((some .int)) := kCalM (by decide) (kInM (q := (61, (yX6_left, cX6_left, 2, (some .int), none), kc_61)) rfl) kt_2_220 kt_1_1 (by decide +kernel) (by decide) (by decide +kernel)
theorem kcal_62 : kCalOk 62 ⟨"Knitstead", "would", "(I)I"⟩ 1 (none) ((some .int)) := kCalM (by decide) (kInM (q := (62, (yX6_would, cX6_would, 2, (some .int), none), kc_62)) rfl) kt_2_227 kt_1_1 (by decide +kernel) (by decide) (by decide +kernel)
theorem kcal_63 : kCalOk 63 ⟨"Knitstead", "needs", "(I)I"⟩ 1 (none) ((some .int)) := kCalM (by decide) (kInM (q := (63, (yX6_needs, cX6_needs, 2, (some .int), none), kc_63)) rfl) kt_2_231 kt_1_1 (by decide +kernel) (by decide) (by decide +kernel)
theorem kcal_64 : kCalOk 64 ⟨"Knitstead", "best", "()I"⟩ 0 (none) ((some .int)) := kCalM (by decide) (kInM (q := (64, (yX6_best, cX6_best, 1, (some .int), none), kc_64)) rfl) kt_5_10 kt_1_1 (by decide +kernel) (by decide) (by decide +kernel)
theorem kcal_65 : kCalOk 65 ⟨"Knitstead", "digest", "()J"⟩ 0 (none) ((some .long)) := kCalM (by decide) (kInM (q := (65, (yX6_digest, cX6_digest, 4, (some .long), none), kc_65)) rfl) kt_2_235 kt_1_1 (by decide +kernel) (by decide) (by decide +kernel)
theorem kcal_66 : kCalOk 66 ⟨"Knitstead", "make", "(IIII)I"⟩ 4 (none) ((some .int)) := kCalM (by decide) (kInM (q := (66, (yX6_make, cX6_make, 6, (some .int), none), kc_66)) rfl) kt_1_165 kt_1_1 (by decide +kernel) (by decide) (by decide +kernel)
theorem kcal_67 : kCalOk 67 ⟨"Knitstead", "takeWorked", "()I"⟩ 0 (none) ((some .int)) := kCalM (by decide) (kInM (q := (67, (yX6_takeWorked, cX6_takeWorked, 2, (some .int), none), kc_67)) rfl) kt_2_123 kt_1_1 (by decide +kernel) (by decide) (by decide +kernel)
theorem kcal_68 : kCalOk 68 ⟨"Knitstead", "workNext", "(I)I"⟩ 1 (none) ((some .int)) := kCalM (by decide) (kInM (q := (68, (yX6_workNext, cX6_workNext, 3, (some .int), none), kc_68)) rfl) kt_2_119 kt_1_1 (by decide +kernel) (by decide) (by decide +kernel)
theorem kcal_69 : kCalOk 69 ⟨"Knitstead", "makeOver", "()I"⟩ 0 (none) ((some .int)) := kCalM (by decide) (kInM (q := (69, (yX6_makeOver, cX6_makeOver, 1, (some .int), none), kc_69)) rfl) kt_2_127 kt_1_1 (by decide +kernel) (by decide) (by decide +kernel)
theorem kcal_70 : kCalOk 70 ⟨"Knitstead", "takeTogether", "(II)I"⟩ 2 (none) ((some .int)) := kCalM (by decide) (kInM (q := (70, (yX6_takeTogether, cX6_takeTogether, 4, (some .int), none), kc_70)) rfl) kt_2_131 kt_1_1 (by decide +kernel) (by decide) (by decide +kernel)
theorem kcal_71 : kCalOk 71 ⟨"Knitstead", "slipNext", "()I"⟩ 0 (none) ((some .int)) := kCalM (by decide) (kInM (q := (71, (yX6_slipNext, cX6_slipNext, 2, (some .int), none), kc_71)) rfl) kt_2_135 kt_1_1 (by decide +kernel) (by decide) (by decide +kernel)
theorem kcal_72 : kCalOk 72 ⟨"Knitstead", "crossNext", "(II)I"⟩ 2 (none) ((some .int)) := kCalM (by decide) (kInM (q := (72, (yX6_crossNext, cX6_crossNext, 4, (some .int), none), kc_72)) rfl) kt_1_230 kt_1_1 (by decide +kernel) (by decide) (by decide +kernel)
theorem kcal_73 : kCalOk 73 ⟨"Knitstead", "bindSeconds", "(I)V"⟩ 1 (none) (none) := kCalM (by decide) (kInM (q := (73, (yX6_bindSeconds, cX6_bindSeconds, 3, none, none), kc_73)) rfl) kt_2_24 kt_1_1 (by decide +kernel) (by decide) (by decide +kernel)
theorem kcal_74 : kCalOk 74 ⟨"Knitstead", "fastenLast", "()V"⟩ 0 (none) (none) := kCalM (by decide) (kInM (q := (74, (yX6_fastenLast, cX6_fastenLast, 1, none, none), kc_74)) rfl) kt_2_36 kt_1_1 (by decide +kernel) (by decide) (by decide +kernel)
theorem kcal_75 : kCalOk 75 ⟨"Knitstead", "bindAt", "(I)V"⟩ 1 (none) (none) := kCalM (by decide) (kInM (q := (75, (yX6_bindAt, cX6_bindAt, 3, none, none), kc_75)) rfl) kt_2_28 kt_1_1 (by decide +kernel) (by decide) (by decide +kernel)
theorem kcal_76 : kCalOk 76 ⟨"Knitstead", "stepFact", "([II)I"⟩ 2 (none) ((some .int)) := kCalM (by decide) (kInM (q := (76, (yX6_stepFact, cX6_stepFact, 2, (some .int), none), kc_76)) rfl) kt_2_101 kt_1_1 (by decide +kernel) (by decide) (by decide +kernel)
theorem kcal_77 : kCalOk 77 ⟨"Knitstead", "canDo", "(I)Z"⟩ 1 (none) ((some .boolean)) := kCalM (by decide) (kInM (q := (77, (yX6_canDo, cX6_canDo, 2, (some .boolean), none), kc_77)) rfl) kt_4_12 kt_1_1 (by decide +kernel) (by decide) (by decide +kernel)
theorem kcal_78 : kCalOk 78 ⟨"Knitstead", "fits", "(IIII)Z"⟩ 4 (none) ((some .boolean)) := kCalM (by decide) (kInM (q := (78, (yX6_fits, cX6_fits, 5, (some .boolean), none), kc_78)) rfl) kt_2_96 kt_1_1 (by decide +kernel) (by decide) (by decide +kernel)
theorem kcal_79 : kCalOk 79 ⟨"Knitstead", "doStep", "(I)V"⟩ 1 (none) (none) := kCalM (by decide) (kInM (q := (79, (yX6_doStep, cX6_doStep, 2, none, none), kc_79)) rfl) kt_2_115 kt_1_1 (by decide +kernel) (by decide) (by decide +kernel)
theorem kcal_80 : kCalOk 80 ⟨"Knitstead", "hasPattern", "(I)Z"⟩ 1 (none) ((some .boolean)) := kCalM (by decide) (kInM (q := (80, (yX6_hasPattern, cX6_hasPattern, 2, (some .boolean), none), kc_80)) rfl) kt_2_75 kt_1_1 (by decide +kernel) (by decide) (by decide +kernel)
theorem kcal_81 : kCalOk 81 ⟨"Knitstead", "hasZero", "(I)Z"⟩ 1 (none) ((some .boolean)) := kCalM (by decide) (kInM (q := (81, (yX6_hasZero, cX6_hasZero, 3, (some .boolean), none), kc_81)) rfl) kt_3_231 kt_1_1 (by decide +kernel) (by decide) (by decide +kernel)
theorem kcal_82 : kCalOk 82 ⟨"Knitstead", "digitsIn", "(I)I"⟩ 1 (none) ((some .int)) := kCalM (by decide) (kInM (q := (82, (yX6_digitsIn, cX6_digitsIn, 4, (some .int), none), kc_82)) rfl) kt_4_0 kt_1_1 (by decide +kernel) (by decide) (by decide +kernel)
theorem kcal_83 : kCalOk 83 ⟨"Knitstead", "tellPattern", "(II)V"⟩ 2 (none) (none) := kCalM (by decide) (kInM (q := (83, (yX6_tellPattern, cX6_tellPattern, 10, none, none), kc_83)) rfl) kt_3_237 kt_1_1 (by decide +kernel) (by decide) (by decide +kernel)
theorem kcal_84 : kCalOk 84 ⟨"Knitstead", "stepAt", "(II)I"⟩ 2 (none) ((some .int)) := kCalM (by decide) (kInM (q := (84, (yX6_stepAt, cX6_stepAt, 4, (some .int), none), kc_84)) rfl) kt_2_89 kt_1_1 (by decide +kernel) (by decide) (by decide +kernel)
theorem kcal_85 : kCalOk 85 ⟨"Knitstead", "tryOut", "(I)V"⟩ 1 (none) (none) := kCalM (by decide) (kInM (q := (85, (yX6_tryOut, cX6_tryOut, 3, none, none), kc_85)) rfl) kt_2_81 kt_1_1 (by decide +kernel) (by decide) (by decide +kernel)
theorem kcal_86 : kCalOk 86 ⟨"Knitstead", "endsWhole", "(I)Z"⟩ 1 (none) ((some .boolean)) := kCalM (by decide) (kInM (q := (86, (yX6_endsWhole, cX6_endsWhole, 3, (some .boolean), none), kc_86)) rfl) kt_3_20 kt_1_1 (by decide +kernel) (by decide) (by decide +kernel)
theorem kcal_87 : kCalOk 87 ⟨"Knitstead", "bestPattern", "()I"⟩ 0 (none) ((some .int)) := kCalM (by decide) (kInM (q := (87, (yX6_bestPattern, cX6_bestPattern, 4, (some .int), none), kc_87)) rfl) kt_3_16 kt_1_1 (by decide +kernel) (by decide) (by decide +kernel)
theorem kcal_88 : kCalOk 88 ⟨"Knitstead", "needle", "(Z)LKnitstead$Needle;"⟩ 1 (none) ((some (.object "Knitstead$Needle"))) := kCalM (by decide) (kInM (q := (88, (yX6_needle, cX6_needle, 2, (some (.object "Knitstead$Needle")), none), kc_88)) rfl) kt_2_154 kt_1_1 (by decide +kernel) (by decide) (by decide +kernel)
theorem kcal_89 : kCalOk 89 ⟨"Knitstead", "loopFact", "(II)I"⟩ 2 (none) ((some .int)) := kCalM (by decide) (kInM (q := (89, (yX6_loopFact, cX6_loopFact, 3, (some .int), none), kc_89)) rfl) kt_2_164 kt_1_1 (by decide +kernel) (by decide) (by decide +kernel)
theorem kcal_90 : kCalOk 90 ⟨"Knitstead", "whereIs", "(I)I"⟩ 1 (none) ((some .int)) := kCalM (by decide) (kInM (q := (90, (yX6_whereIs, cX6_whereIs, 2, (some .int), none), kc_90)) rfl) kt_2_168 kt_1_1 (by decide +kernel) (by decide) (by decide +kernel)
theorem kcal_91 : kCalOk 91 ⟨"Knitstead", "isAsMade", "(I)Z"⟩ 1 (none) ((some .boolean)) := kCalM (by decide) (kInM (q := (91, (yX6_isAsMade, cX6_isAsMade, 2, (some .boolean), none), kc_91)) rfl) kt_2_198 kt_1_1 (by decide +kernel) (by decide) (by decide +kernel)
theorem kcal_92 : kCalOk 92 ⟨"Knitstead", "isSmooth", "(I)Z"⟩ 1 (none) ((some .boolean)) := kCalM (by decide) (kInM (q := (92, (yX6_isSmooth, cX6_isSmooth, 4, (some .boolean), none), kc_92)) rfl) kt_2_194 kt_1_1 (by decide +kernel) (by decide) (by decide +kernel)
theorem kcal_93 : kCalOk 93 ⟨"Knitstead", "signOf", "(I)C"⟩ 1 (none) ((some .char)) := kCalM (by decide) (kInM (q := (93, (yX6_signOf, cX6_signOf, 3, (some .char), none), kc_93)) rfl) kt_4_74 kt_1_1 (by decide +kernel) (by decide) (by decide +kernel)
theorem kcal_94 : kCalOk 94 ⟨"Knitstead", "widthOf", "(LKnitstead$Needle;)F"⟩ 1 (none) ((some .float)) := kCalM (by decide) (kInM (q := (94, (yX6_widthOf, cX6_widthOf, 4, (some .float), none), kc_94)) rfl) kt_2_189 kt_1_1 (by decide +kernel) (by decide) (by decide +kernel)
theorem kcal_95 : kCalOk 95 ⟨"Knitstead", "number", "(I)I"⟩ 1 (none) ((some .int)) := kCalM (by decide) (kInM (q := (95, (yX6_number, cX6_number, 2, (some .int), none), kc_95)) rfl) kt_2_208 kt_1_1 (by decide +kernel) (by decide) (by decide +kernel)
theorem kcal_96 : kCalOk 96 ⟨"Knitstead", "mixed", "(JJ)J"⟩ 2 (none) ((some .long)) := kCalM (by decide) (kInM (q := (96, (yX6_mixed, cX6_mixed, 4, (some .long), none), kc_96)) rfl) kt_2_239 kt_1_1 (by decide +kernel) (by decide) (by decide +kernel)
theorem kcal_97 : kCalOk 97 ⟨"Knitstead", "mixedRow", "(JLKnitstead$Table;II)J"⟩ 4 (none) ((some .long)) := kCalM (by decide) (kInM (q := (97, (yX6_mixedRow, cX6_mixedRow, 8, (some .long), none), kc_97)) rfl) kt_3_8 kt_1_1 (by decide +kernel) (by decide) (by decide +kernel)
theorem kcal_98 : kCalOk 98 ⟨"Knitstead", "mixedLoops", "(JLKnitstead$Needle;)J"⟩ 2 (none) ((some .long)) := kCalM (by decide) (kInM (q := (98, (yX6_mixedLoops, cX6_mixedLoops, 9, (some .long), none), kc_98)) rfl) kt_3_4 kt_1_1 (by decide +kernel) (by decide) (by decide +kernel)
theorem kcal_99 : kCalOk 99 ⟨"Knitstead", "mixedPatterns", "(J)J"⟩ 1 (none) ((some .long)) := kCalM (by decide) (kInM (q := (99, (yX6_mixedPatterns, cX6_mixedPatterns, 6, (some .long), none), kc_99)) rfl) kt_3_12 kt_1_1 (by decide +kernel) (by decide) (by decide +kernel)
theorem kcal_100 : kCalOk 100 ⟨"java/lang/AbstractStringBuilder", "<init>", "(I)V"⟩ 1 (none) (none) := kCalM (by decide) (kInM (q := (100, (yJ5_init_d00df, cJ5_init_d00df, 2, none, none), kc_100)) rfl) kt_4_47 kt_1_17 (by decide +kernel) (by decide) (by decide +kernel)
theorem kcal_101 : kCalOk 101 ⟨"java/lang/AbstractStringBuilder", "length", "()I"⟩ 0 (none) ((some .int)) := kCalM (by decide) (kInM (q := (101, (yJ5_length_8abf5, cJ5_length_8abf5, 1, (some .int), none), kc_101)) rfl) kt_4_185 kt_1_17 (by decide +kernel) (by decide) (by decide +kernel)
theorem kcal_102 : kCalOk 102 ⟨"java/lang/AbstractStringBuilder", "ensureCapacityInternal", "(I)V"⟩ 1 (none) (none) := kCalM (by decide) (kInM (q := (102, (yJ5_ensureCapacityInternal_d00df, cJ5_ensureCapacityInternal_d00df, 3, none, none), kc_102)) rfl) kt_4_85 kt_1_17 (by decide +kernel) (by decide) (by decide +kernel)
theorem kcal_103 : kCalOk 103 ⟨"java/lang/AbstractStringBuilder", "newCapacity", "(I)I"⟩ 1 (none) ((some .int)) := kCalM (by decide) (kInM (q := (103, (yJ5_newCapacity_0f7a4, cJ5_newCapacity_0f7a4, 6, (some .int), none), kc_103)) rfl) kt_4_89 kt_1_17 (by decide +kernel) (by decide) (by decide +kernel)
theorem kcal_105 : kCalOk 105 ⟨"java/lang/AbstractStringBuilder", "append", "(C)Ljava/lang/AbstractStringBuilder;"⟩ 1 (none) ((some (.object "java/lang/AbstractStringBuilder"))) := kCalM (by decide) (kInM (q := (105, (yJ5_append_3fe6f, cJ5_append_3fe6f, 2, (some (.object "java/lang/AbstractStringBuilder")), none), kc_105)) rfl) kt_4_81 kt_1_17 (by decide +kernel) (by decide) (by decide +kernel)
theorem kcal_106 : kCalOk 106 ⟨"java/lang/AbstractStringBuilder", "getValue", "()[B"⟩ 0 (none) ((some (.array .byte))) := kCalM (by decide) (kInM (q := (106, (yJ5_getValue_6d5f1, cJ5_getValue_6d5f1, 1, (some (.array .byte)), none), kc_106)) rfl) kt_4_177 kt_1_17 (by decide +kernel) (by decide) (by decide +kernel)
theorem kcal_107 : kCalOk 107 ⟨"java/lang/AbstractStringBuilder", "isLatin1", "()Z"⟩ 0 (none) ((some .boolean)) := kCalM (by decide) (kInM (q := (107, (yJ5_isLatin1_aae02, cJ5_isLatin1_aae02, 1, (some .boolean), none), kc_107)) rfl) kt_4_111 kt_1_17 (by decide +kernel) (by decide) (by decide +kernel)
theorem kcal_108 : kCalOk 108 ⟨"java/lang/Math", "max", "(II)I"⟩ 2 (none) ((some .int)) := kCalM (by decide) (kInM (q := (108, (yJ9_max_7cf53, cJ9_max_7cf53, 2, (some .int), none), kc_108)) rfl) kt_1_181 kt_1_6 (by decide +kernel) (by decide) (by decide +kernel)
theorem kcal_109 : kCalOk 109 ⟨"java/lang/Math", "min", "(II)I"⟩ 2 (none) ((some .int)) := kCalM (by decide) (kInM (q := (109, (yJ9_min_7cf53, cJ9_min_7cf53, 2, (some .int), none), kc_109)) rfl) kt_1_149 kt_1_6 (by decide +kernel) (by decide) (by decide +kernel)
theorem kcal_110 : kCalOk 110 ⟨"java/lang/String", "<init>", "(Ljava/lang/StringBuilder;)V"⟩ 1 (none) (none) := kCalM (by decide) (kInM (q := (110, (yJ0_init_81219, cJ0_init_81219, 2, none, none), kc_110)) rfl) kt_4_168 kt_1_19 (by decide +kernel) (by decide) (by decide +kernel)
theorem kcal_111 : kCalOk 111 ⟨"java/lang/String", "length", "()I"⟩ 0 (none) ((some .int)) := kCalM (by decide) (kInM (q := (111, (yJ0_length_8abf5, cJ0_length_8abf5, 1, (some .int), none), kc_111)) rfl) kt_4_224 kt_1_19 (by decide +kernel) (by decide) (by decide +kernel)
theorem kcal_112 : kCalOk 112 ⟨"java/lang/String", "charAt", "(I)C"⟩ 1 (none) ((some .char)) := kCalM (by decide) (kInM (q := (112, (yJ0_charAt_5068e, cJ0_charAt_5068e, 2, (some .char), none), kc_112)) rfl) kt_4_235 kt_1_19 (by decide +kernel) (by decide) (by decide +kernel)
theorem kcal_113 : kCalOk 113 ⟨"java/lang/String", "<init>", "(Ljava/lang/AbstractStringBuilder;Ljava/lang/Void;)V"⟩ 2 (none) (none) := kCalM (by decide) (kInM (q := (113, (yJ0_init_db425, cJ0_init_db425, 5, none, none), kc_113)) rfl) kt_4_171 kt_1_19 (by decide +kernel) (by decide) (by decide +kernel)
theorem kcal_114 : kCalOk 114 ⟨"java/lang/String", "coder", "()B"⟩ 0 (none) ((some .byte)) := kCalM (by decide) (kInM (q := (114, (yJ0_coder_7d493, cJ0_coder_7d493, 1, (some .byte), none), kc_114)) rfl) kt_4_228 kt_1_19 (by decide +kernel) (by decide) (by decide +kernel)
theorem kcal_115 : kCalOk 115 ⟨"java/lang/String", "isLatin1", "()Z"⟩ 0 (none) ((some .boolean)) := kCalM (by decide) (kInM (q := (115, (yJ0_isLatin1_aae02, cJ0_isLatin1_aae02, 1, (some .boolean), none), kc_115)) rfl) kt_4_239 kt_1_19 (by decide +kernel) (by decide) (by decide +kernel)
theorem kcal_116 : kCalOk 116 ⟨"java/lang/String", "checkIndex", "(II)V"⟩ 2 (none) (none) := kCalM (by decide) (kInM (q := (116, (yJ0_checkIndex_df160, cJ0_checkIndex_df160, 2, none, none), kc_116)) rfl) kt_4_156 kt_1_19 (by decide +kernel) (by decide) (by decide +kernel)
theorem kcal_118 : kCalOk 118 ⟨"java/lang/StringBuilder", "<init>", "()V"⟩ 0 (none) (none) := kCalM (by decide) (kInM (q := (118, (yJ4_init_da8c8, cJ4_init_da8c8, 1, none, none), kc_118)) rfl) kt_4_44 kt_1_18 (by decide +kernel) (by decide) (by decide +kernel)
theorem kcal_119 : kCalOk 119 ⟨"java/lang/StringBuilder", "append", "(C)Ljava/lang/StringBuilder;"⟩ 1 (none) ((some (.object "java/lang/StringBuilder"))) := kCalM (by decide) (kInM (q := (119, (yJ4_append_cf468, cJ4_append_cf468, 2, (some (.object "java/lang/StringBuilder")), none), kc_119)) rfl) kt_4_78 kt_1_18 (by decide +kernel) (by decide) (by decide +kernel)
theorem kcal_120 : kCalOk 120 ⟨"java/lang/StringBuilder", "toString", "()Ljava/lang/String;"⟩ 0 (none) ((some (.object "java/lang/String"))) := kCalM (by decide) (kInM (q := (120, (yJ4_toString_0e30d, cJ4_toString_0e30d, 1, (some (.object "java/lang/String")), none), kc_120)) rfl) kt_4_163 kt_1_18 (by decide +kernel) (by decide) (by decide +kernel)
theorem kcal_121 : kCalOk 121 ⟨"java/lang/StringBuilder", "length", "()I"⟩ 0 (none) ((some .int)) := kCalM (by decide) (kInM (q := (121, (yJ4_length_8abf5, cJ4_length_8abf5, 1, (some .int), none), kc_121)) rfl) kt_4_183 kt_1_18 (by decide +kernel) (by decide) (by decide +kernel)
theorem kcal_122 : kCalOk 122 ⟨"java/lang/StringLatin1", "charAt", "([BI)C"⟩ 2 (none) ((some .char)) := kCalM (by decide) (kInM (q := (122, (yJ1_charAt_3b067, cJ1_charAt_3b067, 2, (some .char), none), kc_122)) rfl) kt_5_2 kt_1_22 (by decide +kernel) (by decide) (by decide +kernel)
theorem kcal_123 : kCalOk 123 ⟨"java/lang/StringLatin1", "canEncode", "(C)Z"⟩ 1 (none) ((some .boolean)) := kCalM (by decide) (kInM (q := (123, (yJ1_canEncode_fc78d, cJ1_canEncode_fc78d, 1, (some .boolean), none), kc_123)) rfl) kt_4_114 kt_1_22 (by decide +kernel) (by decide) (by decide +kernel)
theorem kcal_125 : kCalOk 125 ⟨"java/util/Arrays", "copyOf", "([BI)[B"⟩ 2 (none) ((some (.array .byte))) := kCalM (by decide) (kInM (q := (125, (yJ7_copyOf_9075b, cJ7_copyOf_9075b, 3, (some (.array .byte)), none), kc_125)) rfl) kt_4_101 kt_1_16 (by decide +kernel) (by decide) (by decide +kernel)
theorem kcal_126 : kCalOk 126 ⟨"java/util/Arrays", "copyOf", "([II)[I"⟩ 2 (none) ((some (.array .int))) := kCalM (by decide) (kInM (q := (126, (yJ7_copyOf_59c91, cJ7_copyOf_59c91, 3, (some (.array .int)), none), kc_126)) rfl) kt_1_184 kt_1_16 (by decide +kernel) (by decide) (by decide +kernel)
theorem kcal_127 : kCalOk 127 ⟨"java/util/Arrays", "checkLength", "(II)V"⟩ 2 (none) (none) := kCalM (by decide) (kInM (q := (127, (yJ7_checkLength_df160, cJ7_checkLength_df160, 2, none, none), kc_127)) rfl) kt_4_195 kt_1_16 (by decide +kernel) (by decide) (by decide +kernel)
theorem kcal_128 : kCalOk 128 ⟨"java/util/Arrays", "copyOfRange", "([BII)[B"⟩ 3 (none) ((some (.array .byte))) := kCalM (by decide) (kInM (q := (128, (yJ7_copyOfRange_39247, cJ7_copyOfRange_39247, 3, (some (.array .byte)), none), kc_128)) rfl) kt_4_189 kt_1_16 (by decide +kernel) (by decide) (by decide +kernel)
theorem kcal_129 : kCalOk 129 ⟨"java/util/Arrays", "copyOfRangeByte", "([BII)[B"⟩ 3 (none) ((some (.array .byte))) := kCalM (by decide) (kInM (q := (129, (yJ7_copyOfRangeByte_39247, cJ7_copyOfRangeByte_39247, 5, (some (.array .byte)), none), kc_129)) rfl) kt_4_192 kt_1_16 (by decide +kernel) (by decide) (by decide +kernel)
theorem kcal_130 : kCalOk 130 ⟨"jdk/internal/util/ArraysSupport", "newLength", "(III)I"⟩ 3 (none) ((some .int)) := kCalM (by decide) (kInM (q := (130, (yJ8_newLength_cabcc, cJ8_newLength_cabcc, 4, (some .int), none), kc_130)) rfl) kt_4_92 kt_1_21 (by decide +kernel) (by decide) (by decide +kernel)
theorem kcal_131 : kCalOk 131 ⟨"jdk/internal/util/ArraysSupport", "hugeLength", "(II)I"⟩ 2 (none) ((some .int)) := kCalM (by decide) (kInM (q := (131, (yJ8_hugeLength_7cf53, cJ8_hugeLength_7cf53, 3, (some .int), none), kc_131)) rfl) kt_4_97 kt_1_21 (by decide +kernel) (by decide) (by decide +kernel)
theorem kcal_132 : kCalOk 132 ⟨"jdk/internal/util/Preconditions", "checkIndex", "(IILjava/util/function/BiFunction;)I"⟩ 3 (none) ((some .int)) := kCalM (by decide) (kInM (q := (132, (yJ3_checkIndex_8e157, cJ3_checkIndex_8e157, 3, (some .int), none), kc_132)) rfl) kt_4_159 kt_1_23 (by decide +kernel) (by decide) (by decide +kernel)
theorem kcal_134 : kCalOk 134 ⟨"KnitsteadLaw", "below", "(II)I"⟩ 2 (none) ((some .int)) := kCalM (by decide) (kInM (q := (134, (yL_below, cL_below, 2, (some .int), none), kc_134)) rfl) kt_3_23 kt_1_0 (by decide +kernel) (by decide) (by decide +kernel)
theorem kcal_135 : kCalOk 135 ⟨"KnitsteadLaw", "cell", "([II)I"⟩ 2 (none) ((some .int)) := kCalM (by decide) (kInM (q := (135, (yL_cell, cL_cell, 2, (some .int), none), kc_135)) rfl) kt_3_27 kt_1_0 (by decide +kernel) (by decide) (by decide +kernel)
theorem kcal_136 : kCalOk 136 ⟨"KnitsteadLaw", "work", "([II)LKnitstead;"⟩ 2 (none) ((some (.object "Knitstead"))) := kCalM (by decide) (kInM (q := (136, (yL_work, cL_work, 7, (some (.object "Knitstead")), none), kc_136)) rfl) kt_3_31 kt_1_0 (by decide +kernel) (by decide) (by decide +kernel)
theorem kcal_137 : kCalOk 137 ⟨"KnitsteadLaw", "step", "(LKnitstead;I)Z"⟩ 2 (some [(0, 125, 128, 60), (126, 127, 128, 60)]) ((some .boolean)) := kCalMH (by decide) (kInM (q := (137, (yL_step, cL_step, 3, (some .boolean), some [(0, 125, 128, 60), (126, 127, 128, 60)]), kc_137)) rfl) kt_4_3 kt_1_0 (by decide +kernel) (by decide) (by decide +kernel)
theorem kcal_138 : kCalOk 138 ⟨"KnitsteadLaw", "nine", "(LKnitstead;)Z"⟩ 1 (none) ((some .boolean)) := kCalM (by decide) (kInM (q := (138, (yL_nine, cL_nine, 2, (some .boolean), none), kc_138)) rfl) kt_4_32 kt_1_0 (by decide +kernel) (by decide) (by decide +kernel)
theorem kcal_139 : kCalOk 139 ⟨"KnitsteadLaw", "isSo", "(LKnitstead;)Z"⟩ 1 (none) ((some .boolean)) := kCalM (by decide) (kInM (q := (139, (yL_isSo, cL_isSo, 13, (some .boolean), none), kc_139)) rfl) kt_4_35 kt_1_0 (by decide +kernel) (by decide) (by decide +kernel)
theorem kxf_0 : Bundle.fit "java/lang/IllegalArgumentException" = true := by decide +kernel
theorem kxf_1 : Bundle.fit "java/lang/IllegalStateException" = true := by decide +kernel
theorem kxf_2 : Bundle.fit "java/lang/IndexOutOfBoundsException" = true := by decide +kernel
theorem kxn : ∀ n ∈ (["java/lang/RuntimeException", "java/lang/Exception"] : List String), Bundle.fit n = true := by decide +kernel
theorem kx_0 : ∀ w ∈ vx_atS "Knitstead" 56 "java/lang/IllegalArgumentException" ["java/lang/RuntimeException", "java/lang/Exception"], w ∈ kTbl ∧ vx_ot w = true := kxW (by decide +kernel)
theorem kx_1 : ∀ w ∈ vx_atS "Knitstead" 67 "java/lang/IllegalStateException" ["java/lang/RuntimeException", "java/lang/Exception"], w ∈ kTbl ∧ vx_ot w = true := kxW (by decide +kernel)
theorem kx_2 : ∀ w ∈ vx_atS "Knitstead" 80 "java/lang/IndexOutOfBoundsException" ["java/lang/RuntimeException", "java/lang/Exception"], w ∈ kTbl ∧ vx_ot w = true := kxW (by decide +kernel)
