theorem kci_0 : kCI kFty 0 "java/lang/String" TJ0 4 := ⟨rfl, by decide, kwl (kt_3_94) (kwl (kt_3_96) (kwl (kt_3_98) (kwl (kt_3_100) (kwn)))), by decide +kernel, by decide +kernel⟩
theorem kci_1 : kCI kFty 1 "java/lang/StringBuilder" TJ4 4 := ⟨rfl, by decide, kwl (kt_2_14) (kwl (kt_2_16) (kwl (kt_2_18) (kwl (kt_2_20) (kwn)))), by decide +kernel, by decide +kernel⟩
theorem kci_2 : kCI kFty 2 "java/lang/Integer" TJ6 1 := ⟨rfl, by decide, kwl (kt_7_7) (kwn), by decide +kernel, by decide +kernel⟩
theorem kci_3 : kCI kFty 3 "java/util/ArrayList$Itr" TJx35411 4 := ⟨rfl, by decide, kwl (kt_6_45) (kwl (kt_6_47) (kwl (kt_6_49) (kwl (kt_6_51) (kwn)))), by decide +kernel, by decide +kernel⟩
theorem kci_4 : kCI kFty 4 "java/util/ArrayList" TJx4a65c 3 := ⟨rfl, by decide, kwl (kt_5_172) (kwl (kt_5_168) (kwl (kt_5_170) (kwn))), by decide +kernel, by decide +kernel⟩
theorem kci_5 : kCI kFty 5 "Knitstead$Balls" TX0 3 := ⟨rfl, by decide, kwl (kt_1_56) (kwl (kt_1_58) (kwl (kt_1_60) (kwn))), by decide +kernel, by decide +kernel⟩
theorem kci_6 : kCI kFty 6 "Knitstead$History" TX1 5 := ⟨rfl, by decide, kwl (kt_1_162) (kwl (kt_1_164) (kwl (kt_1_166) (kwl (kt_1_168) (kwl (kt_1_170) (kwn))))), by decide +kernel, by decide +kernel⟩
theorem kci_7 : kCI kFty 7 "Knitstead$Needle" TX2 2 := ⟨rfl, by decide, kwl (kt_1_80) (kwl (kt_1_82) (kwn)), by decide +kernel, by decide +kernel⟩
theorem kci_8 : kCI kFty 8 "Knitstead$Table" TX3 3 := ⟨rfl, by decide, kwl (kt_1_97) (kwl (kt_1_99) (kwl (kt_1_101) (kwn))), by decide +kernel, by decide +kernel⟩
theorem kci_9 : kCI kFty 9 "Knitstead$Trial" TX4 5 := ⟨rfl, by decide, kwl (kt_1_188) (kwl (kt_1_190) (kwl (kt_1_192) (kwl (kt_1_194) (kwl (kt_1_196) (kwn))))), by decide +kernel, by decide +kernel⟩
theorem kci_10 : kCI kFty 10 "Knitstead$Work" TX5 10 := ⟨rfl, by decide, kwl (kt_1_124) (kwl (kt_1_126) (kwl (kt_1_128) (kwl (kt_1_130) (kwl (kt_1_132) (kwl (kt_1_134) (kwl (kt_1_136) (kwl (kt_1_138) (kwl (kt_1_140) (kwl (kt_1_142) (kwn)))))))))), by decide +kernel, by decide +kernel⟩
theorem kci_11 : kCI kFty 11 "Knitstead" TX6 8 := ⟨rfl, by decide, kwl (kt_1_207) (kwl (kt_1_209) (kwl (kt_1_211) (kwl (kt_1_213) (kwl (kt_1_215) (kwl (kt_1_217) (kwl (kt_1_219) (kwl (kt_1_221) (kwn)))))))), by decide +kernel, by decide +kernel⟩
theorem kci_12 : kCI kFty 12 "KnitsteadLaw$Out" TX7 1 := ⟨rfl, by decide, kwl (kt_3_238) (kwn), by decide +kernel, by decide +kernel⟩
theorem kci_13 : kCI kFty 13 "KnitsteadModel$Loop" TX8 6 := ⟨rfl, by decide, kwl (kt_6_217) (kwl (kt_6_219) (kwl (kt_6_221) (kwl (kt_6_223) (kwl (kt_6_225) (kwl (kt_6_227) (kwn)))))), by decide +kernel, by decide +kernel⟩
theorem kci_14 : kCI kFty 14 "KnitsteadModel$State" TX9 11 := ⟨rfl, by decide, kwl (kt_5_205) (kwl (kt_5_207) (kwl (kt_5_209) (kwl (kt_5_211) (kwl (kt_5_213) (kwl (kt_5_215) (kwl (kt_5_217) (kwl (kt_5_219) (kwl (kt_5_221) (kwl (kt_5_223) (kwl (kt_5_225) (kwn))))))))))), by decide +kernel, by decide +kernel⟩
theorem kci_15 : kCI kFty 15 "KnitsteadModel" TX10 9 := ⟨rfl, by decide, kwl (kt_5_237) (kwl (kt_5_239) (kwl (kt_6_1) (kwl (kt_6_3) (kwl (kt_6_5) (kwl (kt_6_7) (kwl (kt_6_9) (kwl (kt_6_11) (kwl (kt_6_13) (kwn))))))))), by decide +kernel, by decide +kernel⟩
theorem kdf_0 : kDfOk 0 4 := ⟨_, rfl, rfl, fun j hj => match j, hj with
  | 0, _ => ⟨rfl, fun _ => rfl⟩
  | 1, _ => ⟨rfl, fun _ => rfl⟩
  | 2, _ => ⟨rfl, fun _ => rfl⟩
  | 3, _ => ⟨rfl, fun _ => rfl⟩
  | (n + 4), h => absurd h (by omega)⟩
theorem kdf_1 : kDfOk 1 4 := ⟨_, rfl, rfl, fun j hj => match j, hj with
  | 0, _ => ⟨rfl, fun _ => rfl⟩
  | 1, _ => ⟨rfl, fun _ => rfl⟩
  | 2, _ => ⟨rfl, fun _ => rfl⟩
  | 3, _ => ⟨rfl, fun _ => rfl⟩
  | (n + 4), h => absurd h (by omega)⟩
theorem kdf_2 : kDfOk 2 1 := ⟨_, rfl, rfl, fun j hj => match j, hj with
  | 0, _ => ⟨rfl, fun _ => rfl⟩
  | (n + 1), h => absurd h (by omega)⟩
theorem kdf_3 : kDfOk 3 4 := ⟨_, rfl, rfl, fun j hj => match j, hj with
  | 0, _ => ⟨rfl, fun _ => rfl⟩
  | 1, _ => ⟨rfl, fun _ => rfl⟩
  | 2, _ => ⟨rfl, fun _ => rfl⟩
  | 3, _ => ⟨rfl, fun _ => rfl⟩
  | (n + 4), h => absurd h (by omega)⟩
theorem kdf_4 : kDfOk 4 3 := ⟨_, rfl, rfl, fun j hj => match j, hj with
  | 0, _ => ⟨rfl, fun _ => rfl⟩
  | 1, _ => ⟨rfl, fun _ => rfl⟩
  | 2, _ => ⟨rfl, fun _ => rfl⟩
  | (n + 3), h => absurd h (by omega)⟩
theorem kdf_5 : kDfOk 5 3 := ⟨_, rfl, rfl, fun j hj => match j, hj with
  | 0, _ => ⟨rfl, fun _ => rfl⟩
  | 1, _ => ⟨rfl, fun _ => rfl⟩
  | 2, _ => ⟨rfl, fun _ => rfl⟩
  | (n + 3), h => absurd h (by omega)⟩
theorem kdf_6 : kDfOk 6 5 := ⟨_, rfl, rfl, fun j hj => match j, hj with
  | 0, _ => ⟨rfl, fun _ => rfl⟩
  | 1, _ => ⟨rfl, fun _ => rfl⟩
  | 2, _ => ⟨rfl, fun _ => rfl⟩
  | 3, _ => ⟨rfl, fun _ => rfl⟩
  | 4, _ => ⟨rfl, fun _ => rfl⟩
  | (n + 5), h => absurd h (by omega)⟩
theorem kdf_7 : kDfOk 7 2 := ⟨_, rfl, rfl, fun j hj => match j, hj with
  | 0, _ => ⟨rfl, fun _ => rfl⟩
  | 1, _ => ⟨rfl, fun _ => rfl⟩
  | (n + 2), h => absurd h (by omega)⟩
theorem kdf_8 : kDfOk 8 3 := ⟨_, rfl, rfl, fun j hj => match j, hj with
  | 0, _ => ⟨rfl, fun _ => rfl⟩
  | 1, _ => ⟨rfl, fun _ => rfl⟩
  | 2, _ => ⟨rfl, fun _ => rfl⟩
  | (n + 3), h => absurd h (by omega)⟩
theorem kdf_9 : kDfOk 9 5 := ⟨_, rfl, rfl, fun j hj => match j, hj with
  | 0, _ => ⟨rfl, fun _ => rfl⟩
  | 1, _ => ⟨rfl, fun _ => rfl⟩
  | 2, _ => ⟨rfl, fun _ => rfl⟩
  | 3, _ => ⟨rfl, fun _ => rfl⟩
  | 4, _ => ⟨rfl, fun _ => rfl⟩
  | (n + 5), h => absurd h (by omega)⟩
theorem kdf_10 : kDfOk 10 10 := ⟨_, rfl, rfl, fun j hj => match j, hj with
  | 0, _ => ⟨rfl, fun _ => rfl⟩
  | 1, _ => ⟨rfl, fun _ => rfl⟩
  | 2, _ => ⟨rfl, fun _ => rfl⟩
  | 3, _ => ⟨rfl, fun _ => rfl⟩
  | 4, _ => ⟨rfl, fun _ => rfl⟩
  | 5, _ => ⟨rfl, fun _ => rfl⟩
  | 6, _ => ⟨rfl, fun _ => rfl⟩
  | 7, _ => ⟨rfl, fun _ => rfl⟩
  | 8, _ => ⟨rfl, fun _ => rfl⟩
  | 9, _ => ⟨rfl, fun _ => rfl⟩
  | (n + 10), h => absurd h (by omega)⟩
theorem kdf_11 : kDfOk 11 8 := ⟨_, rfl, rfl, fun j hj => match j, hj with
  | 0, _ => ⟨rfl, fun _ => rfl⟩
  | 1, _ => ⟨rfl, fun _ => rfl⟩
  | 2, _ => ⟨rfl, fun _ => rfl⟩
  | 3, _ => ⟨rfl, fun _ => rfl⟩
  | 4, _ => ⟨rfl, fun _ => rfl⟩
  | 5, _ => ⟨rfl, fun _ => rfl⟩
  | 6, _ => ⟨rfl, fun _ => rfl⟩
  | 7, _ => ⟨rfl, fun _ => rfl⟩
  | (n + 8), h => absurd h (by omega)⟩
theorem kdf_12 : kDfOk 12 1 := ⟨_, rfl, rfl, fun j hj => match j, hj with
  | 0, _ => ⟨rfl, fun _ => rfl⟩
  | (n + 1), h => absurd h (by omega)⟩
theorem kdf_13 : kDfOk 13 6 := ⟨_, rfl, rfl, fun j hj => match j, hj with
  | 0, _ => ⟨rfl, fun _ => rfl⟩
  | 1, _ => ⟨rfl, fun _ => rfl⟩
  | 2, _ => ⟨rfl, fun _ => rfl⟩
  | 3, _ => ⟨rfl, fun _ => rfl⟩
  | 4, _ => ⟨rfl, fun _ => rfl⟩
  | 5, _ => ⟨rfl, fun _ => rfl⟩
  | (n + 6), h => absurd h (by omega)⟩
theorem kdf_14 : kDfOk 14 11 := ⟨_, rfl, rfl, fun j hj => match j, hj with
  | 0, _ => ⟨rfl, fun _ => rfl⟩
  | 1, _ => ⟨rfl, fun _ => rfl⟩
  | 2, _ => ⟨rfl, fun _ => rfl⟩
  | 3, _ => ⟨rfl, fun _ => rfl⟩
  | 4, _ => ⟨rfl, fun _ => rfl⟩
  | 5, _ => ⟨rfl, fun _ => rfl⟩
  | 6, _ => ⟨rfl, fun _ => rfl⟩
  | 7, _ => ⟨rfl, fun _ => rfl⟩
  | 8, _ => ⟨rfl, fun _ => rfl⟩
  | 9, _ => ⟨rfl, fun _ => rfl⟩
  | 10, _ => ⟨rfl, fun _ => rfl⟩
  | (n + 11), h => absurd h (by omega)⟩
theorem kdf_15 : kDfOk 15 9 := ⟨_, rfl, rfl, fun j hj => match j, hj with
  | 0, _ => ⟨rfl, fun _ => rfl⟩
  | 1, _ => ⟨rfl, fun _ => rfl⟩
  | 2, _ => ⟨rfl, fun _ => rfl⟩
  | 3, _ => ⟨rfl, fun _ => rfl⟩
  | 4, _ => ⟨rfl, fun _ => rfl⟩
  | 5, _ => ⟨rfl, fun _ => rfl⟩
  | 6, _ => ⟨rfl, fun _ => rfl⟩
  | 7, _ => ⟨rfl, fun _ => rfl⟩
  | 8, _ => ⟨rfl, fun _ => rfl⟩
  | (n + 9), h => absurd h (by omega)⟩
theorem kcal_1 : kCalOk 1 ⟨"Knitstead$Balls", "<init>", "()V"⟩ 0 (none) (none) := kCalM (by decide) (kInM rfl) kt_1_48 kt_1_2 (by decide +kernel) (by decide) (by decide +kernel)
theorem kcal_2 : kCalOk 2 ⟨"Knitstead$Balls", "has", "(I)Z"⟩ 1 (none) ((some .boolean)) := kCalM (by decide) (kInM rfl) kt_3_140 kt_1_2 (by decide +kernel) (by decide) (by decide +kernel)
theorem kcal_3 : kCalOk 3 ⟨"Knitstead$Balls", "add", "(I)I"⟩ 1 (none) ((some .int)) := kCalM (by decide) (kInM rfl) kt_4_32 kt_1_2 (by decide +kernel) (by decide) (by decide +kernel)
theorem kcal_4 : kCalOk 4 ⟨"Knitstead$Balls", "of", "(I)I"⟩ 1 (none) ((some .int)) := kCalM (by decide) (kInM rfl) kt_3_136 kt_1_2 (by decide +kernel) (by decide) (by decide +kernel)
theorem kcal_5 : kCalOk 5 ⟨"Knitstead$Balls", "set", "(II)V"⟩ 2 (none) (none) := kCalM (by decide) (kInM rfl) kt_4_120 kt_1_2 (by decide +kernel) (by decide) (by decide +kernel)
theorem kcal_6 : kCalOk 6 ⟨"Knitstead$Balls", "ofJoined", "()I"⟩ 0 (none) ((some .int)) := kCalM (by decide) (kInM rfl) kt_3_132 kt_1_2 (by decide +kernel) (by decide) (by decide +kernel)
theorem kcal_7 : kCalOk 7 ⟨"Knitstead$Balls", "spend", "(I)V"⟩ 1 (none) (none) := kCalM (by decide) (kInM rfl) kt_4_116 kt_1_2 (by decide +kernel) (by decide) (by decide +kernel)
theorem kcal_8 : kCalOk 8 ⟨"Knitstead$Balls", "ofAll", "()I"⟩ 0 (none) ((some .int)) := kCalM (by decide) (kInM rfl) kt_3_187 kt_1_2 (by decide +kernel) (by decide) (by decide +kernel)
theorem kcal_9 : kCalOk 9 ⟨"Knitstead$History", "<init>", "()V"⟩ 0 (none) (none) := kCalM (by decide) (kInM rfl) kt_1_151 kt_1_7 (by decide +kernel) (by decide) (by decide +kernel)
theorem kcal_10 : kCalOk 10 ⟨"Knitstead$History", "isSlot", "(I)Z"⟩ 1 (none) ((some .boolean)) := kCalM (by decide) (kInM rfl) kt_4_74 kt_1_7 (by decide +kernel) (by decide) (by decide +kernel)
theorem kcal_11 : kCalOk 11 ⟨"Knitstead$History", "keep", "(LKnitstead$Work;LKnitstead$Balls;)V"⟩ 2 (none) (none) := kCalM (by decide) (kInM rfl) kt_4_70 kt_1_7 (by decide +kernel) (by decide) (by decide +kernel)
theorem kcal_12 : kCalOk 12 ⟨"Knitstead$History", "bringBack", "(LKnitstead$Work;LKnitstead$Balls;)V"⟩ 2 (none) (none) := kCalM (by decide) (kInM rfl) kt_5_76 kt_1_7 (by decide +kernel) (by decide) (by decide +kernel)
theorem kcal_13 : kCalOk 13 ⟨"Knitstead$Needle", "<init>", "()V"⟩ 0 (none) (none) := kCalM (by decide) (kInM rfl) kt_1_74 kt_1_4 (by decide +kernel) (by decide) (by decide +kernel)
theorem kcal_14 : kCalOk 14 ⟨"Knitstead$Needle", "at", "(I)I"⟩ 1 (none) ((some .int)) := kCalM (by decide) (kInM rfl) kt_2_27 kt_1_4 (by decide +kernel) (by decide) (by decide +kernel)
theorem kcal_15 : kCalOk 15 ⟨"Knitstead$Needle", "replace", "(II)V"⟩ 2 (none) (none) := kCalM (by decide) (kInM rfl) kt_4_159 kt_1_4 (by decide +kernel) (by decide) (by decide +kernel)
theorem kcal_16 : kCalOk 16 ⟨"Knitstead$Needle", "holds", "(I)Z"⟩ 1 (none) ((some .boolean)) := kCalM (by decide) (kInM rfl) kt_3_217 kt_1_4 (by decide +kernel) (by decide) (by decide +kernel)
theorem kcal_17 : kCalOk 17 ⟨"Knitstead$Needle", "put", "(I)V"⟩ 1 (none) (none) := kCalM (by decide) (kInM rfl) kt_4_124 kt_1_4 (by decide +kernel) (by decide) (by decide +kernel)
theorem kcal_18 : kCalOk 18 ⟨"Knitstead$Needle", "takeAt", "(I)I"⟩ 1 (none) ((some .int)) := kCalM (by decide) (kInM rfl) kt_4_155 kt_1_4 (by decide +kernel) (by decide) (by decide +kernel)
theorem kcal_19 : kCalOk 19 ⟨"Knitstead$Needle", "moveTipBehind", "(I)V"⟩ 1 (none) (none) := kCalM (by decide) (kInM rfl) kt_4_213 kt_1_4 (by decide +kernel) (by decide) (by decide +kernel)
theorem kcal_20 : kCalOk 20 ⟨"Knitstead$Needle", "swapWith", "(LKnitstead$Needle;)V"⟩ 1 (none) (none) := kCalM (by decide) (kInM rfl) kt_4_225 kt_1_4 (by decide +kernel) (by decide) (by decide +kernel)
theorem kcal_21 : kCalOk 21 ⟨"Knitstead$Needle", "copyFrom", "(LKnitstead$Needle;)V"⟩ 1 (none) (none) := kCalM (by decide) (kInM rfl) kt_4_82 kt_1_4 (by decide +kernel) (by decide) (by decide +kernel)
theorem kcal_22 : kCalOk 22 ⟨"Knitstead$Table", "<init>", "(III)V"⟩ 3 (none) (none) := kCalM (by decide) (kInM rfl) kt_1_89 kt_1_5 (by decide +kernel) (by decide) (by decide +kernel)
theorem kcal_23 : kCalOk 23 ⟨"Knitstead$Table", "cellOf", "(II)I"⟩ 2 (none) ((some .int)) := kCalM (by decide) (kInM rfl) kt_2_39 kt_1_5 (by decide +kernel) (by decide) (by decide +kernel)
theorem kcal_24 : kCalOk 24 ⟨"Knitstead$Table", "get", "(II)I"⟩ 2 (none) ((some .int)) := kCalM (by decide) (kInM rfl) kt_2_35 kt_1_5 (by decide +kernel) (by decide) (by decide +kernel)
theorem kcal_25 : kCalOk 25 ⟨"Knitstead$Table", "set", "(III)V"⟩ 3 (none) (none) := kCalM (by decide) (kInM rfl) kt_4_100 kt_1_5 (by decide +kernel) (by decide) (by decide +kernel)
theorem kcal_26 : kCalOk 26 ⟨"Knitstead$Table", "growTo", "(I)V"⟩ 1 (none) (none) := kCalM (by decide) (kInM rfl) kt_4_104 kt_1_5 (by decide +kernel) (by decide) (by decide +kernel)
theorem kcal_27 : kCalOk 27 ⟨"Knitstead$Table", "copyFrom", "(LKnitstead$Table;)V"⟩ 1 (none) (none) := kCalM (by decide) (kInM rfl) kt_4_88 kt_1_5 (by decide +kernel) (by decide) (by decide +kernel)
theorem kcal_28 : kCalOk 28 ⟨"Knitstead$Trial", "<init>", "()V"⟩ 0 (none) (none) := kCalM (by decide) (kInM rfl) kt_1_177 kt_1_8 (by decide +kernel) (by decide) (by decide +kernel)
theorem kcal_29 : kCalOk 29 ⟨"Knitstead$Trial", "start", "(III)V"⟩ 3 (none) (none) := kCalM (by decide) (kInM rfl) kt_3_144 kt_1_8 (by decide +kernel) (by decide) (by decide +kernel)
theorem kcal_30 : kCalOk 30 ⟨"Knitstead$Trial", "takesStep", "(I)Z"⟩ 1 (none) ((some .boolean)) := kCalM (by decide) (kInM rfl) kt_3_152 kt_1_8 (by decide +kernel) (by decide) (by decide +kernel)
theorem kcal_31 : kCalOk 31 ⟨"Knitstead$Work", "<init>", "()V"⟩ 0 (none) (none) := kCalM (by decide) (kInM rfl) kt_1_68 kt_1_3 (by decide +kernel) (by decide) (by decide +kernel)
theorem kcal_32 : kCalOk 32 ⟨"Knitstead$Work", "onBoth", "()I"⟩ 0 (none) ((some .int)) := kCalM (by decide) (kInM rfl) kt_3_128 kt_1_3 (by decide +kernel) (by decide) (by decide +kernel)
theorem kcal_33 : kCalOk 33 ⟨"Knitstead$Work", "openRun", "(II)I"⟩ 2 (none) ((some .int)) := kCalM (by decide) (kInM rfl) kt_5_19 kt_1_3 (by decide +kernel) (by decide) (by decide +kernel)
theorem kcal_34 : kCalOk 34 ⟨"Knitstead$Work", "isOpen", "(I)Z"⟩ 1 (none) ((some .boolean)) := kCalM (by decide) (kInM rfl) kt_3_195 kt_1_3 (by decide +kernel) (by decide) (by decide +kernel)
theorem kcal_35 : kCalOk 35 ⟨"Knitstead$Work", "openRuns", "()I"⟩ 0 (none) ((some .int)) := kCalM (by decide) (kInM rfl) kt_3_191 kt_1_3 (by decide +kernel) (by decide) (by decide +kernel)
theorem kcal_36 : kCalOk 36 ⟨"Knitstead$Work", "hasInOpenRun", "(I)Z"⟩ 1 (none) ((some .boolean)) := kCalM (by decide) (kInM rfl) kt_3_222 kt_1_3 (by decide +kernel) (by decide) (by decide +kernel)
theorem kcal_37 : kCalOk 37 ⟨"Knitstead$Work", "letRunsFall", "()V"⟩ 0 (none) (none) := kCalM (by decide) (kInM rfl) kt_4_128 kt_1_3 (by decide +kernel) (by decide) (by decide +kernel)
theorem kcal_38 : kCalOk 38 ⟨"Knitstead$Work", "copyFrom", "(LKnitstead$Work;)V"⟩ 1 (none) (none) := kCalM (by decide) (kInM rfl) kt_4_78 kt_1_3 (by decide +kernel) (by decide) (by decide +kernel)
theorem kcal_39 : kCalOk 39 ⟨"Knitstead", "<init>", "()V"⟩ 0 (none) (none) := kCalM (by decide) (kInM rfl) kt_1_40 kt_1_1 (by decide +kernel) (by decide) (by decide +kernel)
theorem kcal_40 : kCalOk 40 ⟨"Knitstead", "buy", "(I)I"⟩ 1 (none) ((some .int)) := kCalM (by decide) (kInM rfl) kt_4_9 kt_1_1 (by decide +kernel) (by decide) (by decide +kernel)
theorem kcal_41 : kCalOk 41 ⟨"Knitstead", "join", "(I)I"⟩ 1 (none) ((some .int)) := kCalM (by decide) (kInM rfl) kt_4_40 kt_1_1 (by decide +kernel) (by decide) (by decide +kernel)
theorem kcal_42 : kCalOk 42 ⟨"Knitstead", "cast", "(I)I"⟩ 1 (none) ((some .int)) := kCalM (by decide) (kInM rfl) kt_4_64 kt_1_1 (by decide +kernel) (by decide) (by decide +kernel)
theorem kcal_43 : kCalOk 43 ⟨"Knitstead", "work", "(Z)I"⟩ 1 (none) ((some .int)) := kCalM (by decide) (kInM rfl) kt_4_137 kt_1_1 (by decide +kernel) (by decide) (by decide +kernel)
theorem kcal_44 : kCalOk 44 ⟨"Knitstead", "over", "()I"⟩ 0 (none) ((some .int)) := kCalM (by decide) (kInM rfl) kt_4_166 kt_1_1 (by decide +kernel) (by decide) (by decide +kernel)
theorem kcal_45 : kCalOk 45 ⟨"Knitstead", "together", "(IZ)I"⟩ 2 (none) ((some .int)) := kCalM (by decide) (kInM rfl) kt_4_178 kt_1_1 (by decide +kernel) (by decide) (by decide +kernel)
theorem kcal_46 : kCalOk 46 ⟨"Knitstead", "slip", "()I"⟩ 0 (none) ((some .int)) := kCalM (by decide) (kInM rfl) kt_4_191 kt_1_1 (by decide +kernel) (by decide) (by decide +kernel)
theorem kcal_47 : kCalOk 47 ⟨"Knitstead", "cross", "(II)I"⟩ 2 (none) ((some .int)) := kCalM (by decide) (kInM rfl) kt_4_203 kt_1_1 (by decide +kernel) (by decide) (by decide +kernel)
theorem kcal_48 : kCalOk 48 ⟨"Knitstead", "turn", "()I"⟩ 0 (none) ((some .int)) := kCalM (by decide) (kInM rfl) kt_4_220 kt_1_1 (by decide +kernel) (by decide) (by decide +kernel)
theorem kcal_49 : kCalOk 49 ⟨"Knitstead", "bind", "(I)I"⟩ 1 (none) ((some .int)) := kCalM (by decide) (kInM rfl) kt_4_232 kt_1_1 (by decide +kernel) (by decide) (by decide +kernel)
theorem kcal_50 : kCalOk 50 ⟨"Knitstead", "drop", "()I"⟩ 0 (none) ((some .int)) := kCalM (by decide) (kInM rfl) kt_5_14 kt_1_1 (by decide +kernel) (by decide) (by decide +kernel)
theorem kcal_51 : kCalOk 51 ⟨"Knitstead", "latch", "(I)I"⟩ 1 (none) ((some .int)) := kCalM (by decide) (kInM rfl) kt_5_26 kt_1_1 (by decide +kernel) (by decide) (by decide +kernel)
theorem kcal_52 : kCalOk 52 ⟨"Knitstead", "pattern", "(I)I"⟩ 1 (none) ((some .int)) := kCalM (by decide) (kInM rfl) kt_5_35 kt_1_1 (by decide +kernel) (by decide) (by decide +kernel)
theorem kcal_53 : kCalOk 53 ⟨"Knitstead", "follow", "(I)I"⟩ 1 (none) ((some .int)) := kCalM (by decide) (kInM rfl) kt_5_55 kt_1_1 (by decide +kernel) (by decide) (by decide +kernel)
theorem kcal_54 : kCalOk 54 ⟨"Knitstead", "undo", "()I"⟩ 0 (none) ((some .int)) := kCalM (by decide) (kInM rfl) kt_5_71 kt_1_1 (by decide +kernel) (by decide) (by decide +kernel)
theorem kcal_55 : kCalOk 55 ⟨"Knitstead", "on", "(ZI)I"⟩ 2 (none) ((some .int)) := kCalM (by decide) (kInM rfl) kt_5_84 kt_1_1 (by decide +kernel) (by decide) (by decide +kernel)
theorem kcal_56 : kCalOk 56 ⟨"Knitstead", "ofLoop", "(II)I"⟩ 2 (none) ((some .int)) := kCalM (by decide) (kInM rfl) kt_5_92 kt_1_1 (by decide +kernel) (by decide) (by decide +kernel)
theorem kcal_57 : kCalOk 57 ⟨"Knitstead", "ofRun", "(II)I"⟩ 2 (none) ((some .int)) := kCalM (by decide) (kInM rfl) kt_5_101 kt_1_1 (by decide +kernel) (by decide) (by decide +kernel)
theorem kcal_58 : kCalOk 58 ⟨"Knitstead", "seen", "(Z)Ljava/lang/String;"⟩ 1 (none) ((some (.object "java/lang/String"))) := kCalM (by decide) (kInM rfl) kt_1_227 kt_1_1 (by decide +kernel) (by decide) (by decide +kernel)
theorem kcal_59 : kCalOk 59 ⟨"Knitstead", "width", "(Z)D"⟩ 1 (none) ((some .double)) := kCalM (by decide) (kInM rfl) kt_3_106 kt_1_1 (by decide +kernel) (by decide) (by decide +kernel)
theorem kcal_60 : kCalOk 60 ⟨"Knitstead", "many", "(I)I"⟩ 1 (none) ((some .int)) := kCalM (by decide) (kInM rfl) kt_5_109 kt_1_1 (by decide +kernel) (by decide) (by decide +kernel)
theorem kcal_61 : kCalOk 61 ⟨"Knitstead", "left", "(I)I"⟩ 1 (none) ((some .int)) := kCalM (by decide) (kInM rfl) kt_5_117 kt_1_1 (by decide +kernel) (by decide) (by decide +kernel)
theorem kcal_62 : kCalOk 62 ⟨"Knitstead", "ofPattern", "(II)I"⟩ 2 (none) ((some .int)) := kCalM (by decide) (kInM rfl) kt_5_124 kt_1_1 (by decide +kernel) (by decide) (by decide +kernel)
theorem kcal_63 : kCalOk 63 ⟨"Knitstead", "would", "(I)I"⟩ 1 (none) ((some .int)) := kCalM (by decide) (kInM rfl) kt_5_132 kt_1_1 (by decide +kernel) (by decide) (by decide +kernel)
theorem kcal_64 : kCalOk 64 ⟨"Knitstead", "needs", "(I)I"⟩ 1 (none) ((some .int)) := kCalM (by decide) (kInM rfl) kt_5_139 kt_1_1 (by decide +kernel) (by decide) (by decide +kernel)
theorem kcal_65 : kCalOk 65 ⟨"Knitstead", "best", "()I"⟩ 0 (none) ((some .int)) := kCalM (by decide) (kInM rfl) kt_3_116 kt_1_1 (by decide +kernel) (by decide) (by decide +kernel)
theorem kcal_66 : kCalOk 66 ⟨"Knitstead", "digest", "()J"⟩ 0 (none) ((some .long)) := kCalM (by decide) (kInM rfl) kt_3_178 kt_1_1 (by decide +kernel) (by decide) (by decide +kernel)
theorem kcal_67 : kCalOk 67 ⟨"Knitstead", "make", "(IIII)I"⟩ 4 (none) ((some .int)) := kCalM (by decide) (kInM rfl) kt_4_96 kt_1_1 (by decide +kernel) (by decide) (by decide +kernel)
theorem kcal_68 : kCalOk 68 ⟨"Knitstead", "takeWorked", "()I"⟩ 0 (none) ((some .int)) := kCalM (by decide) (kInM rfl) kt_4_151 kt_1_1 (by decide +kernel) (by decide) (by decide +kernel)
theorem kcal_69 : kCalOk 69 ⟨"Knitstead", "workNext", "(I)I"⟩ 1 (none) ((some .int)) := kCalM (by decide) (kInM rfl) kt_4_147 kt_1_1 (by decide +kernel) (by decide) (by decide +kernel)
theorem kcal_70 : kCalOk 70 ⟨"Knitstead", "makeOver", "()I"⟩ 0 (none) ((some .int)) := kCalM (by decide) (kInM rfl) kt_4_171 kt_1_1 (by decide +kernel) (by decide) (by decide +kernel)
theorem kcal_71 : kCalOk 71 ⟨"Knitstead", "takeTogether", "(II)I"⟩ 2 (none) ((some .int)) := kCalM (by decide) (kInM rfl) kt_4_184 kt_1_1 (by decide +kernel) (by decide) (by decide +kernel)
theorem kcal_72 : kCalOk 72 ⟨"Knitstead", "slipNext", "()I"⟩ 0 (none) ((some .int)) := kCalM (by decide) (kInM rfl) kt_4_196 kt_1_1 (by decide +kernel) (by decide) (by decide +kernel)
theorem kcal_73 : kCalOk 73 ⟨"Knitstead", "crossNext", "(II)I"⟩ 2 (none) ((some .int)) := kCalM (by decide) (kInM rfl) kt_4_209 kt_1_1 (by decide +kernel) (by decide) (by decide +kernel)
theorem kcal_74 : kCalOk 74 ⟨"Knitstead", "bindSeconds", "(I)V"⟩ 1 (none) (none) := kCalM (by decide) (kInM rfl) kt_4_239 kt_1_1 (by decide +kernel) (by decide) (by decide +kernel)
theorem kcal_75 : kCalOk 75 ⟨"Knitstead", "fastenLast", "()V"⟩ 0 (none) (none) := kCalM (by decide) (kInM rfl) kt_5_7 kt_1_1 (by decide +kernel) (by decide) (by decide +kernel)
theorem kcal_76 : kCalOk 76 ⟨"Knitstead", "bindAt", "(I)V"⟩ 1 (none) (none) := kCalM (by decide) (kInM rfl) kt_5_3 kt_1_1 (by decide +kernel) (by decide) (by decide +kernel)
theorem kcal_77 : kCalOk 77 ⟨"Knitstead", "stepFact", "([II)I"⟩ 2 (none) ((some .int)) := kCalM (by decide) (kInM rfl) kt_3_160 kt_1_1 (by decide +kernel) (by decide) (by decide +kernel)
theorem kcal_78 : kCalOk 78 ⟨"Knitstead", "canDo", "(I)Z"⟩ 1 (none) ((some .boolean)) := kCalM (by decide) (kInM rfl) kt_4_141 kt_1_1 (by decide +kernel) (by decide) (by decide +kernel)
theorem kcal_79 : kCalOk 79 ⟨"Knitstead", "fits", "(IIII)Z"⟩ 4 (none) ((some .boolean)) := kCalM (by decide) (kInM rfl) kt_3_155 kt_1_1 (by decide +kernel) (by decide) (by decide +kernel)
theorem kcal_80 : kCalOk 80 ⟨"Knitstead", "doStep", "(I)V"⟩ 1 (none) (none) := kCalM (by decide) (kInM rfl) kt_5_64 kt_1_1 (by decide +kernel) (by decide) (by decide +kernel)
theorem kcal_81 : kCalOk 81 ⟨"Knitstead", "hasPattern", "(I)Z"⟩ 1 (none) ((some .boolean)) := kCalM (by decide) (kInM rfl) kt_5_59 kt_1_1 (by decide +kernel) (by decide) (by decide +kernel)
theorem kcal_82 : kCalOk 82 ⟨"Knitstead", "hasZero", "(I)Z"⟩ 1 (none) ((some .boolean)) := kCalM (by decide) (kInM rfl) kt_5_39 kt_1_1 (by decide +kernel) (by decide) (by decide +kernel)
theorem kcal_83 : kCalOk 83 ⟨"Knitstead", "digitsIn", "(I)I"⟩ 1 (none) ((some .int)) := kCalM (by decide) (kInM rfl) kt_5_48 kt_1_1 (by decide +kernel) (by decide) (by decide +kernel)
theorem kcal_84 : kCalOk 84 ⟨"Knitstead", "tellPattern", "(II)V"⟩ 2 (none) (none) := kCalM (by decide) (kInM rfl) kt_5_45 kt_1_1 (by decide +kernel) (by decide) (by decide +kernel)
theorem kcal_85 : kCalOk 85 ⟨"Knitstead", "stepAt", "(II)I"⟩ 2 (none) ((some .int)) := kCalM (by decide) (kInM rfl) kt_3_148 kt_1_1 (by decide +kernel) (by decide) (by decide +kernel)
theorem kcal_86 : kCalOk 86 ⟨"Knitstead", "tryOut", "(I)V"⟩ 1 (none) (none) := kCalM (by decide) (kInM rfl) kt_3_124 kt_1_1 (by decide +kernel) (by decide) (by decide +kernel)
theorem kcal_87 : kCalOk 87 ⟨"Knitstead", "endsWhole", "(I)Z"⟩ 1 (none) ((some .boolean)) := kCalM (by decide) (kInM rfl) kt_3_174 kt_1_1 (by decide +kernel) (by decide) (by decide +kernel)
theorem kcal_88 : kCalOk 88 ⟨"Knitstead", "bestPattern", "()I"⟩ 0 (none) ((some .int)) := kCalM (by decide) (kInM rfl) kt_3_120 kt_1_1 (by decide +kernel) (by decide) (by decide +kernel)
theorem kcal_89 : kCalOk 89 ⟨"Knitstead", "needle", "(Z)LKnitstead$Needle;"⟩ 1 (none) ((some (.object "Knitstead$Needle"))) := kCalM (by decide) (kInM rfl) kt_1_231 kt_1_1 (by decide +kernel) (by decide) (by decide +kernel)
theorem kcal_90 : kCalOk 90 ⟨"Knitstead", "loopFact", "(II)I"⟩ 2 (none) ((some .int)) := kCalM (by decide) (kInM rfl) kt_3_209 kt_1_1 (by decide +kernel) (by decide) (by decide +kernel)
theorem kcal_91 : kCalOk 91 ⟨"Knitstead", "whereIs", "(I)I"⟩ 1 (none) ((some .int)) := kCalM (by decide) (kInM rfl) kt_3_213 kt_1_1 (by decide +kernel) (by decide) (by decide +kernel)
theorem kcal_92 : kCalOk 92 ⟨"Knitstead", "isAsMade", "(I)Z"⟩ 1 (none) ((some .boolean)) := kCalM (by decide) (kInM rfl) kt_2_43 kt_1_1 (by decide +kernel) (by decide) (by decide +kernel)
theorem kcal_93 : kCalOk 93 ⟨"Knitstead", "isSmooth", "(I)Z"⟩ 1 (none) ((some .boolean)) := kCalM (by decide) (kInM rfl) kt_2_47 kt_1_1 (by decide +kernel) (by decide) (by decide +kernel)
theorem kcal_94 : kCalOk 94 ⟨"Knitstead", "signOf", "(I)C"⟩ 1 (none) ((some .char)) := kCalM (by decide) (kInM rfl) kt_2_31 kt_1_1 (by decide +kernel) (by decide) (by decide +kernel)
theorem kcal_95 : kCalOk 95 ⟨"Knitstead", "widthOf", "(LKnitstead$Needle;)F"⟩ 1 (none) ((some .float)) := kCalM (by decide) (kInM rfl) kt_3_110 kt_1_1 (by decide +kernel) (by decide) (by decide +kernel)
theorem kcal_96 : kCalOk 96 ⟨"Knitstead", "number", "(I)I"⟩ 1 (none) ((some .int)) := kCalM (by decide) (kInM rfl) kt_3_183 kt_1_1 (by decide +kernel) (by decide) (by decide +kernel)
theorem kcal_97 : kCalOk 97 ⟨"Knitstead", "mixed", "(JJ)J"⟩ 2 (none) ((some .long)) := kCalM (by decide) (kInM rfl) kt_3_199 kt_1_1 (by decide +kernel) (by decide) (by decide +kernel)
theorem kcal_98 : kCalOk 98 ⟨"Knitstead", "mixedRow", "(JLKnitstead$Table;II)J"⟩ 4 (none) ((some .long)) := kCalM (by decide) (kInM rfl) kt_3_226 kt_1_1 (by decide +kernel) (by decide) (by decide +kernel)
theorem kcal_99 : kCalOk 99 ⟨"Knitstead", "mixedLoops", "(JLKnitstead$Needle;)J"⟩ 2 (none) ((some .long)) := kCalM (by decide) (kInM rfl) kt_3_205 kt_1_1 (by decide +kernel) (by decide) (by decide +kernel)
theorem kcal_100 : kCalOk 100 ⟨"Knitstead", "mixedPatterns", "(J)J"⟩ 1 (none) ((some .long)) := kCalM (by decide) (kInM rfl) kt_3_230 kt_1_1 (by decide +kernel) (by decide) (by decide +kernel)
theorem kcal_101 : kCalOk 101 ⟨"KnitsteadLaw$Out", "<init>", "()V"⟩ 0 (none) (none) := kCalM (by decide) (kInM rfl) kt_3_235 kt_1_14 (by decide +kernel) (by decide) (by decide +kernel)
theorem kcal_102 : kCalOk 102 ⟨"KnitsteadModel$Loop", "<init>", "(IIIIII)V"⟩ 6 (none) (none) := kCalM (by decide) (kInM rfl) kt_6_203 kt_1_27 (by decide +kernel) (by decide) (by decide +kernel)
theorem kcal_103 : kCalOk 103 ⟨"KnitsteadModel$Loop", "isSmooth", "(I)Z"⟩ 1 (none) ((some .boolean)) := kCalM (by decide) (kInM rfl) kt_7_190 kt_1_27 (by decide +kernel) (by decide) (by decide +kernel)
theorem kcal_104 : kCalOk 104 ⟨"KnitsteadModel$State", "<init>", "()V"⟩ 0 (none) (none) := kCalM (by decide) (kInM rfl) kt_5_179 kt_1_13 (by decide +kernel) (by decide) (by decide +kernel)
theorem kcal_105 : kCalOk 105 ⟨"KnitsteadModel$State", "copy", "()LKnitsteadModel$State;"⟩ 0 (none) ((some (.object "KnitsteadModel$State"))) := kCalM (by decide) (kInM rfl) kt_6_118 kt_1_13 (by decide +kernel) (by decide) (by decide +kernel)
theorem kcal_106 : kCalOk 106 ⟨"KnitsteadModel$State", "all", "()I"⟩ 0 (none) ((some .int)) := kCalM (by decide) (kInM rfl) kt_6_92 kt_1_13 (by decide +kernel) (by decide) (by decide +kernel)
theorem kcal_107 : kCalOk 107 ⟨"KnitsteadModel", "<init>", "()V"⟩ 0 (none) (none) := kCalM (by decide) (kInM rfl) kt_5_144 kt_1_9 (by decide +kernel) (by decide) (by decide +kernel)
theorem kcal_108 : kCalOk 108 ⟨"KnitsteadModel", "thrown", "()I"⟩ 0 (none) ((some .int)) := kCalM (by decide) (kInM rfl) kt_6_19 kt_1_9 (by decide +kernel) (by decide) (by decide +kernel)
theorem kcal_109 : kCalOk 109 ⟨"KnitsteadModel", "refuse", "(I)I"⟩ 1 (none) ((some .int)) := kCalM (by decide) (kInM rfl) kt_6_30 kt_1_9 (by decide +kernel) (by decide) (by decide +kernel)
theorem kcal_110 : kCalOk 110 ⟨"KnitsteadModel", "is", "(III)Z"⟩ 3 (none) ((some .boolean)) := kCalM (by decide) (kInM rfl) kt_6_26 kt_1_9 (by decide +kernel) (by decide) (by decide +kernel)
theorem kcal_111 : kCalOk 111 ⟨"KnitsteadModel", "pull", "(Ljava/util/ArrayList;)I"⟩ 1 (none) ((some .int)) := kCalM (by decide) (kInM rfl) kt_7_26 kt_1_9 (by decide +kernel) (by decide) (by decide +kernel)
theorem kcal_112 : kCalOk 112 ⟨"KnitsteadModel", "yarn", "()I"⟩ 0 (none) ((some .int)) := kCalM (by decide) (kInM rfl) kt_6_88 kt_1_9 (by decide +kernel) (by decide) (by decide +kernel)
theorem kcal_113 : kCalOk 113 ⟨"KnitsteadModel", "keep", "()V"⟩ 0 (none) (none) := kCalM (by decide) (kInM rfl) kt_6_100 kt_1_9 (by decide +kernel) (by decide) (by decide +kernel)
theorem kcal_114 : kCalOk 114 ⟨"KnitsteadModel", "make", "(IIII)I"⟩ 4 (none) ((some .int)) := kCalM (by decide) (kInM rfl) kt_6_198 kt_1_9 (by decide +kernel) (by decide) (by decide +kernel)
theorem kcal_115 : kCalOk 115 ⟨"KnitsteadModel", "buy", "(I)I"⟩ 1 (none) ((some .int)) := kCalM (by decide) (kInM rfl) kt_6_23 kt_1_9 (by decide +kernel) (by decide) (by decide +kernel)
theorem kcal_116 : kCalOk 116 ⟨"KnitsteadModel", "join", "(I)I"⟩ 1 (none) ((some .int)) := kCalM (by decide) (kInM rfl) kt_6_80 kt_1_9 (by decide +kernel) (by decide) (by decide +kernel)
theorem kcal_117 : kCalOk 117 ⟨"KnitsteadModel", "cast", "(I)I"⟩ 1 (none) ((some .int)) := kCalM (by decide) (kInM rfl) kt_6_84 kt_1_9 (by decide +kernel) (by decide) (by decide +kernel)
theorem kcal_118 : kCalOk 118 ⟨"KnitsteadModel", "workNow", "(Z)I"⟩ 1 (none) ((some .int)) := kCalM (by decide) (kInM rfl) kt_7_23 kt_1_9 (by decide +kernel) (by decide) (by decide +kernel)
theorem kcal_119 : kCalOk 119 ⟨"KnitsteadModel", "work", "(Z)I"⟩ 1 (none) ((some .int)) := kCalM (by decide) (kInM rfl) kt_7_15 kt_1_9 (by decide +kernel) (by decide) (by decide +kernel)
theorem kcal_120 : kCalOk 120 ⟨"KnitsteadModel", "overNow", "()I"⟩ 0 (none) ((some .int)) := kCalM (by decide) (kInM rfl) kt_7_47 kt_1_9 (by decide +kernel) (by decide) (by decide +kernel)
theorem kcal_121 : kCalOk 121 ⟨"KnitsteadModel", "over", "()I"⟩ 0 (none) ((some .int)) := kCalM (by decide) (kInM rfl) kt_7_43 kt_1_9 (by decide +kernel) (by decide) (by decide +kernel)
theorem kcal_122 : kCalOk 122 ⟨"KnitsteadModel", "togetherNow", "(IZ)I"⟩ 2 (none) ((some .int)) := kCalM (by decide) (kInM rfl) kt_7_55 kt_1_9 (by decide +kernel) (by decide) (by decide +kernel)
theorem kcal_123 : kCalOk 123 ⟨"KnitsteadModel", "together", "(IZ)I"⟩ 2 (none) ((some .int)) := kCalM (by decide) (kInM rfl) kt_7_51 kt_1_9 (by decide +kernel) (by decide) (by decide +kernel)
theorem kcal_124 : kCalOk 124 ⟨"KnitsteadModel", "slipNow", "()I"⟩ 0 (none) ((some .int)) := kCalM (by decide) (kInM rfl) kt_7_63 kt_1_9 (by decide +kernel) (by decide) (by decide +kernel)
theorem kcal_125 : kCalOk 125 ⟨"KnitsteadModel", "slip", "()I"⟩ 0 (none) ((some .int)) := kCalM (by decide) (kInM rfl) kt_7_59 kt_1_9 (by decide +kernel) (by decide) (by decide +kernel)
theorem kcal_126 : kCalOk 126 ⟨"KnitsteadModel", "crossNow", "(II)I"⟩ 2 (none) ((some .int)) := kCalM (by decide) (kInM rfl) kt_7_71 kt_1_9 (by decide +kernel) (by decide) (by decide +kernel)
theorem kcal_127 : kCalOk 127 ⟨"KnitsteadModel", "cross", "(II)I"⟩ 2 (none) ((some .int)) := kCalM (by decide) (kInM rfl) kt_7_67 kt_1_9 (by decide +kernel) (by decide) (by decide +kernel)
theorem kcal_128 : kCalOk 128 ⟨"KnitsteadModel", "turn", "()I"⟩ 0 (none) ((some .int)) := kCalM (by decide) (kInM rfl) kt_7_97 kt_1_9 (by decide +kernel) (by decide) (by decide +kernel)
theorem kcal_129 : kCalOk 129 ⟨"KnitsteadModel", "bind", "(I)I"⟩ 1 (none) ((some .int)) := kCalM (by decide) (kInM rfl) kt_7_101 kt_1_9 (by decide +kernel) (by decide) (by decide +kernel)
theorem kcal_130 : kCalOk 130 ⟨"KnitsteadModel", "drop", "()I"⟩ 0 (none) ((some .int)) := kCalM (by decide) (kInM rfl) kt_7_105 kt_1_9 (by decide +kernel) (by decide) (by decide +kernel)
theorem kcal_131 : kCalOk 131 ⟨"KnitsteadModel", "isRun", "(I)Z"⟩ 1 (none) ((some .boolean)) := kCalM (by decide) (kInM rfl) kt_7_113 kt_1_9 (by decide +kernel) (by decide) (by decide +kernel)
theorem kcal_132 : kCalOk 132 ⟨"KnitsteadModel", "latch", "(I)I"⟩ 1 (none) ((some .int)) := kCalM (by decide) (kInM rfl) kt_7_109 kt_1_9 (by decide +kernel) (by decide) (by decide +kernel)
theorem kcal_133 : kCalOk 133 ⟨"KnitsteadModel", "pattern", "(I)I"⟩ 1 (none) ((some .int)) := kCalM (by decide) (kInM rfl) kt_7_117 kt_1_9 (by decide +kernel) (by decide) (by decide +kernel)
theorem kcal_134 : kCalOk 134 ⟨"KnitsteadModel", "isPattern", "(I)Z"⟩ 1 (none) ((some .boolean)) := kCalM (by decide) (kInM rfl) kt_7_126 kt_1_9 (by decide +kernel) (by decide) (by decide +kernel)
theorem kcal_135 : kCalOk 135 ⟨"KnitsteadModel", "length", "(I)I"⟩ 1 (none) ((some .int)) := kCalM (by decide) (kInM rfl) kt_7_129 kt_1_9 (by decide +kernel) (by decide) (by decide +kernel)
theorem kcal_136 : kCalOk 136 ⟨"KnitsteadModel", "step", "(II)I"⟩ 2 (none) ((some .int)) := kCalM (by decide) (kInM rfl) kt_7_132 kt_1_9 (by decide +kernel) (by decide) (by decide +kernel)
theorem kcal_137 : kCalOk 137 ⟨"KnitsteadModel", "eats", "(I)I"⟩ 1 (none) ((some .int)) := kCalM (by decide) (kInM rfl) kt_7_141 kt_1_9 (by decide +kernel) (by decide) (by decide +kernel)
theorem kcal_138 : kCalOk 138 ⟨"KnitsteadModel", "makes", "(I)I"⟩ 1 (none) ((some .int)) := kCalM (by decide) (kInM rfl) kt_7_224 kt_1_9 (by decide +kernel) (by decide) (by decide +kernel)
theorem kcal_139 : kCalOk 139 ⟨"KnitsteadModel", "takes", "(I)I"⟩ 1 (none) ((some .int)) := kCalM (by decide) (kInM rfl) kt_7_138 kt_1_9 (by decide +kernel) (by decide) (by decide +kernel)
theorem kcal_140 : kCalOk 140 ⟨"KnitsteadModel", "can", "(IIII)Z"⟩ 4 (none) ((some .boolean)) := kCalM (by decide) (kInM rfl) kt_7_135 kt_1_9 (by decide +kernel) (by decide) (by decide +kernel)
theorem kcal_141 : kCalOk 141 ⟨"KnitsteadModel", "doStep", "(I)V"⟩ 1 (none) (none) := kCalM (by decide) (kInM rfl) kt_7_145 kt_1_9 (by decide +kernel) (by decide) (by decide +kernel)
theorem kcal_142 : kCalOk 142 ⟨"KnitsteadModel", "follow", "(I)I"⟩ 1 (none) ((some .int)) := kCalM (by decide) (kInM rfl) kt_7_122 kt_1_9 (by decide +kernel) (by decide) (by decide +kernel)
theorem kcal_143 : kCalOk 143 ⟨"KnitsteadModel", "undo", "()I"⟩ 0 (none) ((some .int)) := kCalM (by decide) (kInM rfl) kt_7_149 kt_1_9 (by decide +kernel) (by decide) (by decide +kernel)
theorem kcal_144 : kCalOk 144 ⟨"KnitsteadModel", "needle", "(Z)Ljava/util/ArrayList;"⟩ 1 (none) ((some (.object "java/util/ArrayList"))) := kCalM (by decide) (kInM rfl) kt_7_157 kt_1_9 (by decide +kernel) (by decide) (by decide +kernel)
theorem kcal_145 : kCalOk 145 ⟨"KnitsteadModel", "on", "(ZI)I"⟩ 2 (none) ((some .int)) := kCalM (by decide) (kInM rfl) kt_7_153 kt_1_9 (by decide +kernel) (by decide) (by decide +kernel)
theorem kcal_146 : kCalOk 146 ⟨"KnitsteadModel", "has", "(Ljava/util/ArrayList;I)Z"⟩ 2 (none) ((some .boolean)) := kCalM (by decide) (kInM rfl) kt_7_172 kt_1_9 (by decide +kernel) (by decide) (by decide +kernel)
theorem kcal_147 : kCalOk 147 ⟨"KnitsteadModel", "where", "(I)I"⟩ 1 (none) ((some .int)) := kCalM (by decide) (kInM rfl) kt_7_169 kt_1_9 (by decide +kernel) (by decide) (by decide +kernel)
theorem kcal_148 : kCalOk 148 ⟨"KnitsteadModel", "ofLoopNow", "(II)I"⟩ 2 (none) ((some .int)) := kCalM (by decide) (kInM rfl) kt_7_165 kt_1_9 (by decide +kernel) (by decide) (by decide +kernel)
theorem kcal_149 : kCalOk 149 ⟨"KnitsteadModel", "ofLoop", "(II)I"⟩ 2 (none) ((some .int)) := kCalM (by decide) (kInM rfl) kt_7_161 kt_1_9 (by decide +kernel) (by decide) (by decide +kernel)
theorem kcal_150 : kCalOk 150 ⟨"KnitsteadModel", "ofRun", "(II)I"⟩ 2 (none) ((some .int)) := kCalM (by decide) (kInM rfl) kt_7_176 kt_1_9 (by decide +kernel) (by decide) (by decide +kernel)
theorem kcal_151 : kCalOk 151 ⟨"KnitsteadModel", "sign", "(LKnitsteadModel$Loop;)C"⟩ 1 (none) ((some .char)) := kCalM (by decide) (kInM rfl) kt_7_186 kt_1_9 (by decide +kernel) (by decide) (by decide +kernel)
theorem kcal_152 : kCalOk 152 ⟨"KnitsteadModel", "seen", "(Z)Ljava/lang/String;"⟩ 1 (none) ((some (.object "java/lang/String"))) := kCalM (by decide) (kInM rfl) kt_7_180 kt_1_9 (by decide +kernel) (by decide) (by decide +kernel)
theorem kcal_153 : kCalOk 153 ⟨"KnitsteadModel", "widthNow", "(Z)I"⟩ 1 (none) ((some .int)) := kCalM (by decide) (kInM rfl) kt_7_200 kt_1_9 (by decide +kernel) (by decide) (by decide +kernel)
theorem kcal_154 : kCalOk 154 ⟨"KnitsteadModel", "width", "(Z)D"⟩ 1 (none) ((some .double)) := kCalM (by decide) (kInM rfl) kt_7_196 kt_1_9 (by decide +kernel) (by decide) (by decide +kernel)
theorem kcal_155 : kCalOk 155 ⟨"KnitsteadModel", "manyNow", "(I)I"⟩ 1 (none) ((some .int)) := kCalM (by decide) (kInM rfl) kt_7_209 kt_1_9 (by decide +kernel) (by decide) (by decide +kernel)
theorem kcal_156 : kCalOk 156 ⟨"KnitsteadModel", "many", "(I)I"⟩ 1 (none) ((some .int)) := kCalM (by decide) (kInM rfl) kt_7_205 kt_1_9 (by decide +kernel) (by decide) (by decide +kernel)
theorem kcal_157 : kCalOk 157 ⟨"KnitsteadModel", "left", "(I)I"⟩ 1 (none) ((some .int)) := kCalM (by decide) (kInM rfl) kt_7_213 kt_1_9 (by decide +kernel) (by decide) (by decide +kernel)
theorem kcal_158 : kCalOk 158 ⟨"KnitsteadModel", "ofPatternNow", "(II)I"⟩ 2 (none) ((some .int)) := kCalM (by decide) (kInM rfl) kt_7_221 kt_1_9 (by decide +kernel) (by decide) (by decide +kernel)
theorem kcal_159 : kCalOk 159 ⟨"KnitsteadModel", "ofPattern", "(II)I"⟩ 2 (none) ((some .int)) := kCalM (by decide) (kInM rfl) kt_7_217 kt_1_9 (by decide +kernel) (by decide) (by decide +kernel)
theorem kcal_160 : kCalOk 160 ⟨"KnitsteadModel", "wouldNow", "(II)I"⟩ 2 (none) ((some .int)) := kCalM (by decide) (kInM rfl) kt_7_232 kt_1_9 (by decide +kernel) (by decide) (by decide +kernel)
theorem kcal_161 : kCalOk 161 ⟨"KnitsteadModel", "would", "(I)I"⟩ 1 (none) ((some .int)) := kCalM (by decide) (kInM rfl) kt_7_228 kt_1_9 (by decide +kernel) (by decide) (by decide +kernel)
theorem kcal_162 : kCalOk 162 ⟨"KnitsteadModel", "needs", "(I)I"⟩ 1 (none) ((some .int)) := kCalM (by decide) (kInM rfl) kt_7_236 kt_1_9 (by decide +kernel) (by decide) (by decide +kernel)
theorem kcal_163 : kCalOk 163 ⟨"KnitsteadModel", "bestNow", "()I"⟩ 0 (none) ((some .int)) := kCalM (by decide) (kInM rfl) kt_8_4 kt_1_9 (by decide +kernel) (by decide) (by decide +kernel)
theorem kcal_164 : kCalOk 164 ⟨"KnitsteadModel", "best", "()I"⟩ 0 (none) ((some .int)) := kCalM (by decide) (kInM rfl) kt_8_0 kt_1_9 (by decide +kernel) (by decide) (by decide +kernel)
theorem kcal_165 : kCalOk 165 ⟨"KnitsteadModel", "add", "(I)V"⟩ 1 (none) (none) := kCalM (by decide) (kInM rfl) kt_8_13 kt_1_9 (by decide +kernel) (by decide) (by decide +kernel)
theorem kcal_166 : kCalOk 166 ⟨"KnitsteadModel", "addNeedle", "(Z)V"⟩ 1 (none) (none) := kCalM (by decide) (kInM rfl) kt_8_18 kt_1_9 (by decide +kernel) (by decide) (by decide +kernel)
theorem kcal_167 : kCalOk 167 ⟨"KnitsteadModel", "digest", "()J"⟩ 0 (none) ((some .long)) := kCalM (by decide) (kInM rfl) kt_8_8 kt_1_9 (by decide +kernel) (by decide) (by decide +kernel)
theorem kcal_168 : kCalOk 168 ⟨"java/lang/AbstractStringBuilder", "<init>", "(I)V"⟩ 1 (none) (none) := kCalM (by decide) (kInM rfl) kt_1_239 kt_1_31 (by decide +kernel) (by decide) (by decide +kernel)
theorem kcal_169 : kCalOk 169 ⟨"java/lang/AbstractStringBuilder", "length", "()I"⟩ 0 (none) ((some .int)) := kCalM (by decide) (kInM rfl) kt_2_166 kt_1_31 (by decide +kernel) (by decide) (by decide +kernel)
theorem kcal_170 : kCalOk 170 ⟨"java/lang/AbstractStringBuilder", "ensureCapacityInternal", "(I)V"⟩ 1 (none) (none) := kCalM (by decide) (kInM rfl) kt_2_58 kt_1_31 (by decide +kernel) (by decide) (by decide +kernel)
theorem kcal_171 : kCalOk 171 ⟨"java/lang/AbstractStringBuilder", "newCapacity", "(I)I"⟩ 1 (none) ((some .int)) := kCalM (by decide) (kInM rfl) kt_2_62 kt_1_31 (by decide +kernel) (by decide) (by decide +kernel)
theorem kcal_173 : kCalOk 173 ⟨"java/lang/AbstractStringBuilder", "append", "(Ljava/lang/String;)Ljava/lang/AbstractStringBuilder;"⟩ 1 (none) ((some (.object "java/lang/AbstractStringBuilder"))) := kCalM (by decide) (kInM rfl) kt_3_21 kt_1_31 (by decide +kernel) (by decide) (by decide +kernel)
theorem kcal_175 : kCalOk 175 ⟨"java/lang/AbstractStringBuilder", "append", "(C)Ljava/lang/AbstractStringBuilder;"⟩ 1 (none) ((some (.object "java/lang/AbstractStringBuilder"))) := kCalM (by decide) (kInM rfl) kt_2_54 kt_1_31 (by decide +kernel) (by decide) (by decide +kernel)
theorem kcal_176 : kCalOk 176 ⟨"java/lang/AbstractStringBuilder", "append", "(I)Ljava/lang/AbstractStringBuilder;"⟩ 1 (none) ((some (.object "java/lang/AbstractStringBuilder"))) := kCalM (by decide) (kInM rfl) kt_2_226 kt_1_31 (by decide +kernel) (by decide) (by decide +kernel)
theorem kcal_177 : kCalOk 177 ⟨"java/lang/AbstractStringBuilder", "getValue", "()[B"⟩ 0 (none) ((some (.array .byte))) := kCalM (by decide) (kInM rfl) kt_2_158 kt_1_31 (by decide +kernel) (by decide) (by decide +kernel)
theorem kcal_178 : kCalOk 178 ⟨"java/lang/AbstractStringBuilder", "isLatin1", "()Z"⟩ 0 (none) ((some .boolean)) := kCalM (by decide) (kInM rfl) kt_2_92 kt_1_31 (by decide +kernel) (by decide) (by decide +kernel)
theorem kcal_181 : kCalOk 181 ⟨"java/lang/Integer", "getChars", "(II[B)I"⟩ 3 (none) ((some .int)) := kCalM (by decide) (kInM rfl) kt_2_232 kt_1_29 (by decide +kernel) (by decide) (by decide +kernel)
theorem kcal_182 : kCalOk 182 ⟨"java/lang/Integer", "stringSize", "(I)I"⟩ 1 (none) ((some .int)) := kCalM (by decide) (kInM rfl) kt_2_229 kt_1_29 (by decide +kernel) (by decide) (by decide +kernel)
theorem kcal_183 : kCalOk 183 ⟨"java/lang/Integer", "valueOf", "(I)Ljava/lang/Integer;"⟩ 1 (none) ((some (.object "java/lang/Integer"))) := kCalM (by decide) (kInM rfl) kt_6_232 kt_1_29 (by decide +kernel) (by decide) (by decide +kernel)
theorem kcal_184 : kCalOk 184 ⟨"java/lang/Integer", "<init>", "(I)V"⟩ 1 (none) (none) := kCalM (by decide) (kInM rfl) kt_7_1 kt_1_29 (by decide +kernel) (by decide) (by decide +kernel)
theorem kcal_185 : kCalOk 185 ⟨"java/lang/Integer", "intValue", "()I"⟩ 0 (none) ((some .int)) := kCalM (by decide) (kInM rfl) kt_7_31 kt_1_29 (by decide +kernel) (by decide) (by decide +kernel)
theorem kcal_186 : kCalOk 186 ⟨"java/lang/Math", "max", "(II)I"⟩ 2 (none) ((some .int)) := kCalM (by decide) (kInM rfl) kt_1_93 kt_1_6 (by decide +kernel) (by decide) (by decide +kernel)
theorem kcal_187 : kCalOk 187 ⟨"java/lang/Math", "min", "(II)I"⟩ 2 (none) ((some .int)) := kCalM (by decide) (kInM rfl) kt_2_84 kt_1_6 (by decide +kernel) (by decide) (by decide +kernel)
theorem kcal_188 : kCalOk 188 ⟨"java/lang/Number", "<init>", "()V"⟩ 0 (none) (none) := kCalM (by decide) (kInM rfl) kt_7_4 kt_1_28 (by decide +kernel) (by decide) (by decide +kernel)
theorem kcal_189 : kCalOk 189 ⟨"java/lang/String", "<init>", "(Ljava/lang/StringBuilder;)V"⟩ 1 (none) (none) := kCalM (by decide) (kInM rfl) kt_2_149 kt_1_33 (by decide +kernel) (by decide) (by decide +kernel)
theorem kcal_190 : kCalOk 190 ⟨"java/lang/String", "length", "()I"⟩ 0 (none) ((some .int)) := kCalM (by decide) (kInM rfl) kt_3_32 kt_1_33 (by decide +kernel) (by decide) (by decide +kernel)
theorem kcal_192 : kCalOk 192 ⟨"java/lang/String", "<init>", "(Ljava/lang/AbstractStringBuilder;Ljava/lang/Void;)V"⟩ 2 (none) (none) := kCalM (by decide) (kInM rfl) kt_2_152 kt_1_33 (by decide +kernel) (by decide) (by decide +kernel)
theorem kcal_193 : kCalOk 193 ⟨"java/lang/String", "coder", "()B"⟩ 0 (none) ((some .byte)) := kCalM (by decide) (kInM rfl) kt_3_36 kt_1_33 (by decide +kernel) (by decide) (by decide +kernel)
theorem kcal_197 : kCalOk 197 ⟨"java/lang/StringBuilder", "<init>", "()V"⟩ 0 (none) (none) := kCalM (by decide) (kInM rfl) kt_1_236 kt_1_32 (by decide +kernel) (by decide) (by decide +kernel)
theorem kcal_198 : kCalOk 198 ⟨"java/lang/StringBuilder", "append", "(Ljava/lang/String;)Ljava/lang/StringBuilder;"⟩ 1 (none) ((some (.object "java/lang/StringBuilder"))) := kCalM (by decide) (kInM rfl) kt_3_18 kt_1_32 (by decide +kernel) (by decide) (by decide +kernel)
theorem kcal_199 : kCalOk 199 ⟨"java/lang/StringBuilder", "append", "(C)Ljava/lang/StringBuilder;"⟩ 1 (none) ((some (.object "java/lang/StringBuilder"))) := kCalM (by decide) (kInM rfl) kt_2_51 kt_1_32 (by decide +kernel) (by decide) (by decide +kernel)
theorem kcal_200 : kCalOk 200 ⟨"java/lang/StringBuilder", "append", "(I)Ljava/lang/StringBuilder;"⟩ 1 (none) ((some (.object "java/lang/StringBuilder"))) := kCalM (by decide) (kInM rfl) kt_2_223 kt_1_32 (by decide +kernel) (by decide) (by decide +kernel)
theorem kcal_201 : kCalOk 201 ⟨"java/lang/StringBuilder", "toString", "()Ljava/lang/String;"⟩ 0 (none) ((some (.object "java/lang/String"))) := kCalM (by decide) (kInM rfl) kt_2_144 kt_1_32 (by decide +kernel) (by decide) (by decide +kernel)
theorem kcal_202 : kCalOk 202 ⟨"java/lang/StringBuilder", "length", "()I"⟩ 0 (none) ((some .int)) := kCalM (by decide) (kInM rfl) kt_2_164 kt_1_32 (by decide +kernel) (by decide) (by decide +kernel)
theorem kcal_203 : kCalOk 203 ⟨"java/lang/StringLatin1", "canEncode", "(C)Z"⟩ 1 (none) ((some .boolean)) := kCalM (by decide) (kInM rfl) kt_2_95 kt_1_35 (by decide +kernel) (by decide) (by decide +kernel)
theorem kcal_205 : kCalOk 205 ⟨"java/util/AbstractCollection", "<init>", "()V"⟩ 0 (none) (none) := kCalM (by decide) (kInM rfl) kt_5_156 kt_1_10 (by decide +kernel) (by decide) (by decide +kernel)
theorem kcal_206 : kCalOk 206 ⟨"java/util/AbstractList", "<init>", "()V"⟩ 0 (none) (none) := kCalM (by decide) (kInM rfl) kt_5_153 kt_1_11 (by decide +kernel) (by decide) (by decide +kernel)
theorem kcal_207 : kCalOk 207 ⟨"java/util/ArrayList$Itr", "<init>", "(Ljava/util/ArrayList;)V"⟩ 1 (none) (none) := kCalM (by decide) (kInM rfl) kt_6_39 kt_1_20 (by decide +kernel) (by decide) (by decide +kernel)
theorem kcal_208 : kCalOk 208 ⟨"java/util/ArrayList$Itr", "hasNext", "()Z"⟩ 0 (none) ((some .boolean)) := kCalM (by decide) (kInM rfl) kt_6_63 kt_1_20 (by decide +kernel) (by decide) (by decide +kernel)
theorem kcal_209 : kCalOk 209 ⟨"java/util/ArrayList$Itr", "next", "()Ljava/lang/Object;"⟩ 0 (none) ((some (.object "java/lang/Object"))) := kCalM (by decide) (kInM rfl) kt_6_72 kt_1_20 (by decide +kernel) (by decide) (by decide +kernel)
theorem kcal_210 : kCalOk 210 ⟨"java/util/ArrayList$Itr", "checkForComodification", "()V"⟩ 0 (none) (none) := kCalM (by decide) (kInM rfl) kt_6_76 kt_1_20 (by decide +kernel) (by decide) (by decide +kernel)
theorem kcal_211 : kCalOk 211 ⟨"java/util/ArrayList", "<init>", "()V"⟩ 0 (none) (none) := kCalM (by decide) (kInM rfl) kt_5_150 kt_1_12 (by decide +kernel) (by decide) (by decide +kernel)
theorem kcal_212 : kCalOk 212 ⟨"java/util/ArrayList", "grow", "(I)[Ljava/lang/Object;"⟩ 1 (none) ((some (.array (.object "java/lang/Object")))) := kCalM (by decide) (kInM rfl) kt_6_170 kt_1_12 (by decide +kernel) (by decide) (by decide +kernel)
theorem kcal_213 : kCalOk 213 ⟨"java/util/ArrayList", "grow", "()[Ljava/lang/Object;"⟩ 0 (none) ((some (.array (.object "java/lang/Object")))) := kCalM (by decide) (kInM rfl) kt_6_192 kt_1_12 (by decide +kernel) (by decide) (by decide +kernel)
theorem kcal_214 : kCalOk 214 ⟨"java/util/ArrayList", "size", "()I"⟩ 0 (none) ((some .int)) := kCalM (by decide) (kInM rfl) kt_6_96 kt_1_12 (by decide +kernel) (by decide) (by decide +kernel)
theorem kcal_215 : kCalOk 215 ⟨"java/util/ArrayList", "isEmpty", "()Z"⟩ 0 (none) ((some .boolean)) := kCalM (by decide) (kInM rfl) kt_7_19 kt_1_12 (by decide +kernel) (by decide) (by decide +kernel)
theorem kcal_216 : kCalOk 216 ⟨"java/util/ArrayList", "toArray", "()[Ljava/lang/Object;"⟩ 0 (none) ((some (.array (.object "java/lang/Object")))) := kCalM (by decide) (kInM rfl) kt_6_134 kt_1_12 (by decide +kernel) (by decide) (by decide +kernel)
theorem kcal_217 : kCalOk 217 ⟨"java/util/ArrayList", "elementData", "(I)Ljava/lang/Object;"⟩ 1 (none) ((some (.object "java/lang/Object"))) := kCalM (by decide) (kInM rfl) kt_7_39 kt_1_12 (by decide +kernel) (by decide) (by decide +kernel)
theorem kcal_218 : kCalOk 218 ⟨"java/util/ArrayList", "get", "(I)Ljava/lang/Object;"⟩ 1 (none) ((some (.object "java/lang/Object"))) := kCalM (by decide) (kInM rfl) kt_7_35 kt_1_12 (by decide +kernel) (by decide) (by decide +kernel)
theorem kcal_219 : kCalOk 219 ⟨"java/util/ArrayList", "add", "(Ljava/lang/Object;[Ljava/lang/Object;I)V"⟩ 3 (none) (none) := kCalM (by decide) (kInM rfl) kt_6_188 kt_1_12 (by decide +kernel) (by decide) (by decide +kernel)
theorem kcal_220 : kCalOk 220 ⟨"java/util/ArrayList", "add", "(Ljava/lang/Object;)Z"⟩ 1 (none) ((some .boolean)) := kCalM (by decide) (kInM rfl) kt_6_184 kt_1_12 (by decide +kernel) (by decide) (by decide +kernel)
theorem kcal_221 : kCalOk 221 ⟨"java/util/ArrayList", "add", "(ILjava/lang/Object;)V"⟩ 2 (none) (none) := kCalM (by decide) (kInM rfl) kt_7_75 kt_1_12 (by decide +kernel) (by decide) (by decide +kernel)
theorem kcal_222 : kCalOk 222 ⟨"java/util/ArrayList", "remove", "(I)Ljava/lang/Object;"⟩ 1 (none) ((some (.object "java/lang/Object"))) := kCalM (by decide) (kInM rfl) kt_6_105 kt_1_12 (by decide +kernel) (by decide) (by decide +kernel)
theorem kcal_223 : kCalOk 223 ⟨"java/util/ArrayList", "fastRemove", "([Ljava/lang/Object;I)V"⟩ 2 (none) (none) := kCalM (by decide) (kInM rfl) kt_6_113 kt_1_12 (by decide +kernel) (by decide) (by decide +kernel)
theorem kcal_224 : kCalOk 224 ⟨"java/util/ArrayList", "addAll", "(Ljava/util/Collection;)Z"⟩ 1 (none) ((some .boolean)) := kCalM (by decide) (kInM rfl) kt_6_124 kt_1_12 (by decide +kernel) (by decide) (by decide +kernel)
theorem kcal_225 : kCalOk 225 ⟨"java/util/ArrayList", "rangeCheckForAdd", "(I)V"⟩ 1 (none) (none) := kCalM (by decide) (kInM rfl) kt_7_79 kt_1_12 (by decide +kernel) (by decide) (by decide +kernel)
theorem kcal_226 : kCalOk 226 ⟨"java/util/ArrayList", "outOfBoundsMsg", "(I)Ljava/lang/String;"⟩ 1 (none) ((some (.object "java/lang/String"))) := kCalM (by decide) (kInM rfl) kt_7_84 kt_1_12 (by decide +kernel) (by decide) (by decide +kernel)
theorem kcal_227 : kCalOk 227 ⟨"java/util/ArrayList", "iterator", "()Ljava/util/Iterator;"⟩ 0 (none) ((some (.object "java/util/Iterator"))) := kCalM (by decide) (kInM rfl) kt_6_34 kt_1_12 (by decide +kernel) (by decide) (by decide +kernel)
theorem kcal_228 : kCalOk 228 ⟨"java/util/Arrays", "copyOf", "([Ljava/lang/Object;I)[Ljava/lang/Object;"⟩ 2 (none) ((some (.array (.object "java/lang/Object")))) := kCalM (by decide) (kInM rfl) kt_6_137 kt_1_23 (by decide +kernel) (by decide) (by decide +kernel)
theorem kcal_229 : kCalOk 229 ⟨"java/util/Arrays", "copyOf", "([Ljava/lang/Object;ILjava/lang/Class;)[Ljava/lang/Object;"⟩ 3 (none) ((some (.array (.object "java/lang/Object")))) := kCalM (by decide) (kInM rfl) kt_6_163 kt_1_23 (by decide +kernel) (by decide) (by decide +kernel)
theorem kcal_230 : kCalOk 230 ⟨"java/util/Arrays", "copyOf", "([BI)[B"⟩ 2 (none) ((some (.array .byte))) := kCalM (by decide) (kInM rfl) kt_2_74 kt_1_23 (by decide +kernel) (by decide) (by decide +kernel)
theorem kcal_231 : kCalOk 231 ⟨"java/util/Arrays", "copyOf", "([II)[I"⟩ 2 (none) ((some (.array .int))) := kCalM (by decide) (kInM rfl) kt_4_107 kt_1_23 (by decide +kernel) (by decide) (by decide +kernel)
theorem kcal_232 : kCalOk 232 ⟨"java/util/Arrays", "checkLength", "(II)V"⟩ 2 (none) (none) := kCalM (by decide) (kInM rfl) kt_2_176 kt_1_23 (by decide +kernel) (by decide) (by decide +kernel)
theorem kcal_233 : kCalOk 233 ⟨"java/util/Arrays", "copyOfRange", "([BII)[B"⟩ 3 (none) ((some (.array .byte))) := kCalM (by decide) (kInM rfl) kt_2_170 kt_1_23 (by decide +kernel) (by decide) (by decide +kernel)
theorem kcal_234 : kCalOk 234 ⟨"java/util/Arrays", "copyOfRangeByte", "([BII)[B"⟩ 3 (none) ((some (.array .byte))) := kCalM (by decide) (kInM rfl) kt_2_173 kt_1_23 (by decide +kernel) (by decide) (by decide +kernel)
theorem kcal_235 : kCalOk 235 ⟨"java/util/Objects", "checkIndex", "(II)I"⟩ 2 (none) ((some .int)) := kCalM (by decide) (kInM rfl) kt_6_108 kt_1_24 (by decide +kernel) (by decide) (by decide +kernel)
theorem kcal_236 : kCalOk 236 ⟨"jdk/internal/util/ArraysSupport", "newLength", "(III)I"⟩ 3 (none) ((some .int)) := kCalM (by decide) (kInM rfl) kt_2_65 kt_1_26 (by decide +kernel) (by decide) (by decide +kernel)
theorem kcal_237 : kCalOk 237 ⟨"jdk/internal/util/ArraysSupport", "hugeLength", "(II)I"⟩ 2 (none) ((some .int)) := kCalM (by decide) (kInM rfl) kt_2_70 kt_1_26 (by decide +kernel) (by decide) (by decide +kernel)
theorem kcal_238 : kCalOk 238 ⟨"jdk/internal/util/Preconditions", "checkIndex", "(IILjava/util/function/BiFunction;)I"⟩ 3 (none) ((some .int)) := kCalM (by decide) (kInM rfl) kt_2_140 kt_1_25 (by decide +kernel) (by decide) (by decide +kernel)
theorem kcal_241 : kCalOk 241 ⟨"KnitsteadLaw", "buy", "(LKnitstead;ILKnitsteadLaw$Out;)I"⟩ 3 (some [(0, 10, 13, 19), (0, 10, 16, 21)]) ((some .int)) := kCalMH (by decide) (kInM rfl) kt_4_3 kt_1_0 (by decide +kernel) (by decide) (by decide +kernel)
theorem kcal_242 : kCalOk 242 ⟨"KnitsteadLaw", "join", "(LKnitstead;ILKnitsteadLaw$Out;)I"⟩ 3 (some [(0, 10, 13, 26)]) ((some .int)) := kCalMH (by decide) (kInM rfl) kt_4_35 kt_1_0 (by decide +kernel) (by decide) (by decide +kernel)
theorem kcal_243 : kCalOk 243 ⟨"KnitsteadLaw", "cast", "(LKnitstead;ILKnitsteadLaw$Out;)I"⟩ 3 (some [(0, 10, 13, 19), (0, 10, 16, 21)]) ((some .int)) := kCalMH (by decide) (kInM rfl) kt_4_60 kt_1_0 (by decide +kernel) (by decide) (by decide +kernel)
theorem kcal_244 : kCalOk 244 ⟨"KnitsteadLaw", "work", "(LKnitstead;ZLKnitsteadLaw$Out;)I"⟩ 3 (some [(0, 10, 13, 21)]) ((some .int)) := kCalMH (by decide) (kInM rfl) kt_4_133 kt_1_0 (by decide +kernel) (by decide) (by decide +kernel)
theorem kcal_245 : kCalOk 245 ⟨"KnitsteadLaw", "over", "(LKnitstead;LKnitsteadLaw$Out;)I"⟩ 2 (some [(0, 9, 12, 21)]) ((some .int)) := kCalMH (by decide) (kInM rfl) kt_4_162 kt_1_0 (by decide +kernel) (by decide) (by decide +kernel)
theorem kcal_246 : kCalOk 246 ⟨"KnitsteadLaw", "together", "(LKnitstead;IZLKnitsteadLaw$Out;)I"⟩ 4 (some [(0, 11, 14, 19), (0, 11, 18, 21)]) ((some .int)) := kCalMH (by decide) (kInM rfl) kt_4_174 kt_1_0 (by decide +kernel) (by decide) (by decide +kernel)
theorem kcal_247 : kCalOk 247 ⟨"KnitsteadLaw", "slip", "(LKnitstead;LKnitsteadLaw$Out;)I"⟩ 2 (some [(0, 9, 12, 21)]) ((some .int)) := kCalMH (by decide) (kInM rfl) kt_4_187 kt_1_0 (by decide +kernel) (by decide) (by decide +kernel)
theorem kcal_248 : kCalOk 248 ⟨"KnitsteadLaw", "cross", "(LKnitstead;IILKnitsteadLaw$Out;)I"⟩ 4 (some [(0, 11, 14, 19), (0, 11, 18, 21)]) ((some .int)) := kCalMH (by decide) (kInM rfl) kt_4_199 kt_1_0 (by decide +kernel) (by decide) (by decide +kernel)
theorem kcal_249 : kCalOk 249 ⟨"KnitsteadLaw", "turn", "(LKnitstead;LKnitsteadLaw$Out;)I"⟩ 2 (some [(0, 9, 12, 21)]) ((some .int)) := kCalMH (by decide) (kInM rfl) kt_4_216 kt_1_0 (by decide +kernel) (by decide) (by decide +kernel)
theorem kcal_250 : kCalOk 250 ⟨"KnitsteadLaw", "bind", "(LKnitstead;ILKnitsteadLaw$Out;)I"⟩ 3 (some [(0, 10, 13, 19), (0, 10, 16, 21)]) ((some .int)) := kCalMH (by decide) (kInM rfl) kt_4_228 kt_1_0 (by decide +kernel) (by decide) (by decide +kernel)
theorem kcal_251 : kCalOk 251 ⟨"KnitsteadLaw", "drop", "(LKnitstead;LKnitsteadLaw$Out;)I"⟩ 2 (some [(0, 9, 12, 21)]) ((some .int)) := kCalMH (by decide) (kInM rfl) kt_5_10 kt_1_0 (by decide +kernel) (by decide) (by decide +kernel)
theorem kcal_252 : kCalOk 252 ⟨"KnitsteadLaw", "latch", "(LKnitstead;ILKnitsteadLaw$Out;)I"⟩ 3 (some [(0, 10, 13, 26), (0, 10, 16, 21)]) ((some .int)) := kCalMH (by decide) (kInM rfl) kt_5_22 kt_1_0 (by decide +kernel) (by decide) (by decide +kernel)
theorem kcal_253 : kCalOk 253 ⟨"KnitsteadLaw", "pattern", "(LKnitstead;ILKnitsteadLaw$Out;)I"⟩ 3 (some [(0, 10, 13, 19), (0, 10, 16, 21)]) ((some .int)) := kCalMH (by decide) (kInM rfl) kt_5_31 kt_1_0 (by decide +kernel) (by decide) (by decide +kernel)
theorem kcal_254 : kCalOk 254 ⟨"KnitsteadLaw", "follow", "(LKnitstead;ILKnitsteadLaw$Out;)I"⟩ 3 (some [(0, 10, 13, 26), (0, 10, 16, 21)]) ((some .int)) := kCalMH (by decide) (kInM rfl) kt_5_51 kt_1_0 (by decide +kernel) (by decide) (by decide +kernel)
theorem kcal_255 : kCalOk 255 ⟨"KnitsteadLaw", "undo", "(LKnitstead;LKnitsteadLaw$Out;)I"⟩ 2 (some [(0, 9, 12, 21)]) ((some .int)) := kCalMH (by decide) (kInM rfl) kt_5_67 kt_1_0 (by decide +kernel) (by decide) (by decide +kernel)
theorem kcal_256 : kCalOk 256 ⟨"KnitsteadLaw", "on", "(LKnitstead;ZILKnitsteadLaw$Out;)I"⟩ 4 (some [(0, 11, 14, 26)]) ((some .int)) := kCalMH (by decide) (kInM rfl) kt_5_80 kt_1_0 (by decide +kernel) (by decide) (by decide +kernel)
theorem kcal_257 : kCalOk 257 ⟨"KnitsteadLaw", "ofLoop", "(LKnitstead;IILKnitsteadLaw$Out;)I"⟩ 4 (some [(0, 11, 14, 26), (0, 11, 18, 19)]) ((some .int)) := kCalMH (by decide) (kInM rfl) kt_5_88 kt_1_0 (by decide +kernel) (by decide) (by decide +kernel)
theorem kcal_258 : kCalOk 258 ⟨"KnitsteadLaw", "ofRun", "(LKnitstead;IILKnitsteadLaw$Out;)I"⟩ 4 (some [(0, 11, 14, 26), (0, 11, 18, 19)]) ((some .int)) := kCalMH (by decide) (kInM rfl) kt_5_97 kt_1_0 (by decide +kernel) (by decide) (by decide +kernel)
theorem kcal_259 : kCalOk 259 ⟨"KnitsteadLaw", "many", "(LKnitstead;ILKnitsteadLaw$Out;)I"⟩ 3 (some [(0, 10, 13, 19)]) ((some .int)) := kCalMH (by decide) (kInM rfl) kt_5_105 kt_1_0 (by decide +kernel) (by decide) (by decide +kernel)
theorem kcal_260 : kCalOk 260 ⟨"KnitsteadLaw", "left", "(LKnitstead;ILKnitsteadLaw$Out;)I"⟩ 3 (some [(0, 10, 13, 26)]) ((some .int)) := kCalMH (by decide) (kInM rfl) kt_5_113 kt_1_0 (by decide +kernel) (by decide) (by decide +kernel)
theorem kcal_261 : kCalOk 261 ⟨"KnitsteadLaw", "ofPattern", "(LKnitstead;IILKnitsteadLaw$Out;)I"⟩ 4 (some [(0, 11, 14, 26), (0, 11, 18, 19)]) ((some .int)) := kCalMH (by decide) (kInM rfl) kt_5_120 kt_1_0 (by decide +kernel) (by decide) (by decide +kernel)
theorem kcal_262 : kCalOk 262 ⟨"KnitsteadLaw", "would", "(LKnitstead;ILKnitsteadLaw$Out;)I"⟩ 3 (some [(0, 10, 13, 26)]) ((some .int)) := kCalMH (by decide) (kInM rfl) kt_5_128 kt_1_0 (by decide +kernel) (by decide) (by decide +kernel)
theorem kcal_263 : kCalOk 263 ⟨"KnitsteadLaw", "needs", "(LKnitstead;ILKnitsteadLaw$Out;)I"⟩ 3 (some [(0, 10, 13, 26)]) ((some .int)) := kCalMH (by decide) (kInM rfl) kt_5_135 kt_1_0 (by decide +kernel) (by decide) (by decide +kernel)
theorem kxf_0 : Bundle.fit "java/lang/IllegalArgumentException" = true := by decide +kernel
theorem kxf_1 : Bundle.fit "java/lang/IllegalStateException" = true := by decide +kernel
theorem kxf_2 : Bundle.fit "java/lang/IndexOutOfBoundsException" = true := by decide +kernel
theorem kxn : ∀ n ∈ (["java/lang/RuntimeException", "java/lang/Exception"] : List String), Bundle.fit n = true := by decide +kernel
theorem kx_0 : ∀ w ∈ vx_atS "Knitstead" 56 "java/lang/IllegalArgumentException" ["java/lang/RuntimeException", "java/lang/Exception"], w ∈ kTbl ∧ vx_ot w = true := kxW (by decide +kernel)
theorem kx_1 : ∀ w ∈ vx_atS "Knitstead" 67 "java/lang/IllegalStateException" ["java/lang/RuntimeException", "java/lang/Exception"], w ∈ kTbl ∧ vx_ot w = true := kxW (by decide +kernel)
theorem kx_2 : ∀ w ∈ vx_atS "Knitstead" 80 "java/lang/IndexOutOfBoundsException" ["java/lang/RuntimeException", "java/lang/Exception"], w ∈ kTbl ∧ vx_ot w = true := kxW (by decide +kernel)
