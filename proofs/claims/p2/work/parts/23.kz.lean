set_option maxRecDepth 20000
def kPm (q : Nat × kMI × List (Nat × Instr × Nat × Nat)) : Prop := ∀ e ∈ q.2.2, kEnt q.2.1.1.cls q.2.1.1.name q.2.1.2.1 q.2.1.2.2.2.1 q.2.1.2.2.2.2 e
theorem kPm_all : ∀ q ∈ kMz, kPm q :=
  kcons (kp_0) (kcons (kp_1) (kcons (kp_2) (kcons (kp_3) (kcons (kp_4) (kcons (kp_5) (kcons (kp_6) (kcons (kp_7) (kcons (kp_8) (kcons (kp_9) (kcons (kp_10) (kcons (kp_11) (kcons (kp_12) (kcons (kp_13) (kcons (kp_14) (kcons (kp_15) (kcons (kp_16) (kcons (kp_17) (kcons (kp_18) (kcons (kp_19) (kcons (kp_20) (kcons (kp_21) (kcons (kp_22) (kcons (kp_23) (kcons (kp_24) (kcons (kp_25) (kcons (kp_26) (kcons (kp_27) (kcons (kp_28) (kcons (kp_29) (kcons (kp_30) (kcons (kp_31) (kcons (kp_32) (kcons (kp_33) (kcons (kp_34) (kcons (kp_35) (kcons (kp_36) (kcons (kp_37) (kcons (kp_38) (kcons (kp_39) (kcons (kp_40) (kcons (kp_41) (kcons (kp_42) (kcons (kp_43) (kcons (kp_44) (kcons (kp_45) (kcons (kp_46) (kcons (kp_47) (kcons (kp_48) (kcons (kp_49) (kcons (kp_50) (kcons (kp_51) (kcons (kp_52) (kcons (kp_53) (kcons (kp_54) (kcons (kp_55) (kcons (kp_56) (kcons (kp_57) (kcons (kp_58) (kcons (kp_59) (kcons (kp_60) (kcons (kp_61) (kcons (kp_62) (kcons (kp_63) (kcons (kp_64) (kcons (kp_65) (kcons (kp_66) (kcons (kp_67) (kcons (kp_68) (kcons (kp_69) (kcons (kp_70) (kcons (kp_71) (kcons (kp_72) (kcons (kp_73) (kcons (kp_74) (kcons (kp_75) (kcons (kp_76) (kcons (kp_77) (kcons (kp_78) (kcons (kp_79) (kcons (kp_80) (kcons (kp_81) (kcons (kp_82) (kcons (kp_83) (kcons (kp_84) (kcons (kp_85) (kcons (kp_86) (kcons (kp_87) (kcons (kp_88) (kcons (kp_89) (kcons (kp_90) (kcons (kp_91) (kcons (kp_92) (kcons (kp_93) (kcons (kp_94) (kcons (kp_95) (kcons (kp_96) (kcons (kp_97) (kcons (kp_98) (kcons (kp_99) (kcons (kp_100) (kcons (kp_101) (kcons (kp_102) (kcons (kp_103) (kcons (kp_104) (kcons (kp_105) (kcons (kp_106) (kcons (kp_107) (kcons (kp_108) (kcons (kp_109) (kcons (kp_110) (kcons (kp_111) (kcons (kp_112) (kcons (kp_113) (kcons (kp_114) (kcons (kp_115) (kcons (kp_116) (kcons (kp_117) (kcons (kp_118) (kcons (kp_119) (kcons (kp_120) (kcons (kp_121) (kcons (kp_122) (kcons (kp_123) (kcons (kp_124) (kcons (kp_125) (kcons (kp_126) (kcons (kp_127) (kcons (kp_128) (kcons (kp_129) (kcons (kp_130) (kcons (kp_131) (kcons (kp_132) (kcons (kp_133) (kcons (kp_134) (kcons (kp_135) (kcons (kp_136) (kcons (kp_137) (kcons (kp_138) (kcons (kp_139) (kcons (kp_140) (kcons (kp_141) (kcons (kp_142) (kcons (kp_143) (kcons (kp_144) (kcons (kp_145) (kcons (kp_146) (kcons (kp_147) (kcons (kp_148) (kcons (kp_149) (kcons (kp_150) (kcons (kp_151) (kcons (kp_152) (kcons (kp_153) (kcons (kp_154) (kcons (kp_155) (kcons (kp_156) (kcons (kp_157) (kcons (kp_158) (kcons (kp_159) (kcons (kp_160) (kcons (kp_161) (kcons (kp_162) (kcons (kp_163) (kcons (kp_164) (kcons (kp_165) (kcons (kp_166) (kcons (kp_167) (kcons (kp_168) (kcons (kp_169) (kcons (kp_170) (kcons (kp_171) (kcons (kp_173) (kcons (kp_175) (kcons (kp_176) (kcons (kp_177) (kcons (kp_178) (kcons (kp_181) (kcons (kp_182) (kcons (kp_183) (kcons (kp_184) (kcons (kp_185) (kcons (kp_186) (kcons (kp_187) (kcons (kp_188) (kcons (kp_189) (kcons (kp_190) (kcons (kp_192) (kcons (kp_193) (kcons (kp_197) (kcons (kp_198) (kcons (kp_199) (kcons (kp_200) (kcons (kp_201) (kcons (kp_202) (kcons (kp_203) (kcons (kp_205) (kcons (kp_206) (kcons (kp_207) (kcons (kp_208) (kcons (kp_209) (kcons (kp_210) (kcons (kp_211) (kcons (kp_212) (kcons (kp_213) (kcons (kp_214) (kcons (kp_215) (kcons (kp_216) (kcons (kp_217) (kcons (kp_218) (kcons (kp_219) (kcons (kp_220) (kcons (kp_221) (kcons (kp_222) (kcons (kp_223) (kcons (kp_224) (kcons (kp_225) (kcons (kp_226) (kcons (kp_227) (kcons (kp_228) (kcons (kp_229) (kcons (kp_230) (kcons (kp_231) (kcons (kp_232) (kcons (kp_233) (kcons (kp_234) (kcons (kp_235) (kcons (kp_236) (kcons (kp_237) (kcons (kp_238) (kcons (kp_241) (kcons (kp_242) (kcons (kp_243) (kcons (kp_244) (kcons (kp_245) (kcons (kp_246) (kcons (kp_247) (kcons (kp_248) (kcons (kp_249) (kcons (kp_250) (kcons (kp_251) (kcons (kp_252) (kcons (kp_253) (kcons (kp_254) (kcons (kp_255) (kcons (kp_256) (kcons (kp_257) (kcons (kp_258) (kcons (kp_259) (kcons (kp_260) (kcons (kp_261) (kcons (kp_262) (kcons (kp_263) (knil)))))))))))))))))))))))))))))))))))))))))))))))))))))))))))))))))))))))))))))))))))))))))))))))))))))))))))))))))))))))))))))))))))))))))))))))))))))))))))))))))))))))))))))))))))))))))))))))))))))))))))))))))))))))))))))))))))))))))))))))))))))))))))))
def kPn (q : Nat × kMI × List (Nat × Instr × Nat × Nat)) : Prop := q.1 ≠ 0 → plainName q.2.1.1.cls = true ∧ kHd kNL kRT kY kBy kHH q.1 ∈ kTbl
theorem kPn_all : ∀ q ∈ kMz, kPn q :=
  kcons (fun h => absurd rfl h) (kcons (fun _ => ⟨by decide +kernel, kcal_1.2.2.1⟩) (kcons (fun _ => ⟨by decide +kernel, kcal_2.2.2.1⟩) (kcons (fun _ => ⟨by decide +kernel, kcal_3.2.2.1⟩) (kcons (fun _ => ⟨by decide +kernel, kcal_4.2.2.1⟩) (kcons (fun _ => ⟨by decide +kernel, kcal_5.2.2.1⟩) (kcons (fun _ => ⟨by decide +kernel, kcal_6.2.2.1⟩) (kcons (fun _ => ⟨by decide +kernel, kcal_7.2.2.1⟩) (kcons (fun _ => ⟨by decide +kernel, kcal_8.2.2.1⟩) (kcons (fun _ => ⟨by decide +kernel, kcal_9.2.2.1⟩) (kcons (fun _ => ⟨by decide +kernel, kcal_10.2.2.1⟩) (kcons (fun _ => ⟨by decide +kernel, kcal_11.2.2.1⟩) (kcons (fun _ => ⟨by decide +kernel, kcal_12.2.2.1⟩) (kcons (fun _ => ⟨by decide +kernel, kcal_13.2.2.1⟩) (kcons (fun _ => ⟨by decide +kernel, kcal_14.2.2.1⟩) (kcons (fun _ => ⟨by decide +kernel, kcal_15.2.2.1⟩) (kcons (fun _ => ⟨by decide +kernel, kcal_16.2.2.1⟩) (kcons (fun _ => ⟨by decide +kernel, kcal_17.2.2.1⟩) (kcons (fun _ => ⟨by decide +kernel, kcal_18.2.2.1⟩) (kcons (fun _ => ⟨by decide +kernel, kcal_19.2.2.1⟩) (kcons (fun _ => ⟨by decide +kernel, kcal_20.2.2.1⟩) (kcons (fun _ => ⟨by decide +kernel, kcal_21.2.2.1⟩) (kcons (fun _ => ⟨by decide +kernel, kcal_22.2.2.1⟩) (kcons (fun _ => ⟨by decide +kernel, kcal_23.2.2.1⟩) (kcons (fun _ => ⟨by decide +kernel, kcal_24.2.2.1⟩) (kcons (fun _ => ⟨by decide +kernel, kcal_25.2.2.1⟩) (kcons (fun _ => ⟨by decide +kernel, kcal_26.2.2.1⟩) (kcons (fun _ => ⟨by decide +kernel, kcal_27.2.2.1⟩) (kcons (fun _ => ⟨by decide +kernel, kcal_28.2.2.1⟩) (kcons (fun _ => ⟨by decide +kernel, kcal_29.2.2.1⟩) (kcons (fun _ => ⟨by decide +kernel, kcal_30.2.2.1⟩) (kcons (fun _ => ⟨by decide +kernel, kcal_31.2.2.1⟩) (kcons (fun _ => ⟨by decide +kernel, kcal_32.2.2.1⟩) (kcons (fun _ => ⟨by decide +kernel, kcal_33.2.2.1⟩) (kcons (fun _ => ⟨by decide +kernel, kcal_34.2.2.1⟩) (kcons (fun _ => ⟨by decide +kernel, kcal_35.2.2.1⟩) (kcons (fun _ => ⟨by decide +kernel, kcal_36.2.2.1⟩) (kcons (fun _ => ⟨by decide +kernel, kcal_37.2.2.1⟩) (kcons (fun _ => ⟨by decide +kernel, kcal_38.2.2.1⟩) (kcons (fun _ => ⟨by decide +kernel, kcal_39.2.2.1⟩) (kcons (fun _ => ⟨by decide +kernel, kcal_40.2.2.1⟩) (kcons (fun _ => ⟨by decide +kernel, kcal_41.2.2.1⟩) (kcons (fun _ => ⟨by decide +kernel, kcal_42.2.2.1⟩) (kcons (fun _ => ⟨by decide +kernel, kcal_43.2.2.1⟩) (kcons (fun _ => ⟨by decide +kernel, kcal_44.2.2.1⟩) (kcons (fun _ => ⟨by decide +kernel, kcal_45.2.2.1⟩) (kcons (fun _ => ⟨by decide +kernel, kcal_46.2.2.1⟩) (kcons (fun _ => ⟨by decide +kernel, kcal_47.2.2.1⟩) (kcons (fun _ => ⟨by decide +kernel, kcal_48.2.2.1⟩) (kcons (fun _ => ⟨by decide +kernel, kcal_49.2.2.1⟩) (kcons (fun _ => ⟨by decide +kernel, kcal_50.2.2.1⟩) (kcons (fun _ => ⟨by decide +kernel, kcal_51.2.2.1⟩) (kcons (fun _ => ⟨by decide +kernel, kcal_52.2.2.1⟩) (kcons (fun _ => ⟨by decide +kernel, kcal_53.2.2.1⟩) (kcons (fun _ => ⟨by decide +kernel, kcal_54.2.2.1⟩) (kcons (fun _ => ⟨by decide +kernel, kcal_55.2.2.1⟩) (kcons (fun _ => ⟨by decide +kernel, kcal_56.2.2.1⟩) (kcons (fun _ => ⟨by decide +kernel, kcal_57.2.2.1⟩) (kcons (fun _ => ⟨by decide +kernel, kcal_58.2.2.1⟩) (kcons (fun _ => ⟨by decide +kernel, kcal_59.2.2.1⟩) (kcons (fun _ => ⟨by decide +kernel, kcal_60.2.2.1⟩) (kcons (fun _ => ⟨by decide +kernel, kcal_61.2.2.1⟩) (kcons (fun _ => ⟨by decide +kernel, kcal_62.2.2.1⟩) (kcons (fun _ => ⟨by decide +kernel, kcal_63.2.2.1⟩) (kcons (fun _ => ⟨by decide +kernel, kcal_64.2.2.1⟩) (kcons (fun _ => ⟨by decide +kernel, kcal_65.2.2.1⟩) (kcons (fun _ => ⟨by decide +kernel, kcal_66.2.2.1⟩) (kcons (fun _ => ⟨by decide +kernel, kcal_67.2.2.1⟩) (kcons (fun _ => ⟨by decide +kernel, kcal_68.2.2.1⟩) (kcons (fun _ => ⟨by decide +kernel, kcal_69.2.2.1⟩) (kcons (fun _ => ⟨by decide +kernel, kcal_70.2.2.1⟩) (kcons (fun _ => ⟨by decide +kernel, kcal_71.2.2.1⟩) (kcons (fun _ => ⟨by decide +kernel, kcal_72.2.2.1⟩) (kcons (fun _ => ⟨by decide +kernel, kcal_73.2.2.1⟩) (kcons (fun _ => ⟨by decide +kernel, kcal_74.2.2.1⟩) (kcons (fun _ => ⟨by decide +kernel, kcal_75.2.2.1⟩) (kcons (fun _ => ⟨by decide +kernel, kcal_76.2.2.1⟩) (kcons (fun _ => ⟨by decide +kernel, kcal_77.2.2.1⟩) (kcons (fun _ => ⟨by decide +kernel, kcal_78.2.2.1⟩) (kcons (fun _ => ⟨by decide +kernel, kcal_79.2.2.1⟩) (kcons (fun _ => ⟨by decide +kernel, kcal_80.2.2.1⟩) (kcons (fun _ => ⟨by decide +kernel, kcal_81.2.2.1⟩) (kcons (fun _ => ⟨by decide +kernel, kcal_82.2.2.1⟩) (kcons (fun _ => ⟨by decide +kernel, kcal_83.2.2.1⟩) (kcons (fun _ => ⟨by decide +kernel, kcal_84.2.2.1⟩) (kcons (fun _ => ⟨by decide +kernel, kcal_85.2.2.1⟩) (kcons (fun _ => ⟨by decide +kernel, kcal_86.2.2.1⟩) (kcons (fun _ => ⟨by decide +kernel, kcal_87.2.2.1⟩) (kcons (fun _ => ⟨by decide +kernel, kcal_88.2.2.1⟩) (kcons (fun _ => ⟨by decide +kernel, kcal_89.2.2.1⟩) (kcons (fun _ => ⟨by decide +kernel, kcal_90.2.2.1⟩) (kcons (fun _ => ⟨by decide +kernel, kcal_91.2.2.1⟩) (kcons (fun _ => ⟨by decide +kernel, kcal_92.2.2.1⟩) (kcons (fun _ => ⟨by decide +kernel, kcal_93.2.2.1⟩) (kcons (fun _ => ⟨by decide +kernel, kcal_94.2.2.1⟩) (kcons (fun _ => ⟨by decide +kernel, kcal_95.2.2.1⟩) (kcons (fun _ => ⟨by decide +kernel, kcal_96.2.2.1⟩) (kcons (fun _ => ⟨by decide +kernel, kcal_97.2.2.1⟩) (kcons (fun _ => ⟨by decide +kernel, kcal_98.2.2.1⟩) (kcons (fun _ => ⟨by decide +kernel, kcal_99.2.2.1⟩) (kcons (fun _ => ⟨by decide +kernel, kcal_100.2.2.1⟩) (kcons (fun _ => ⟨by decide +kernel, kcal_101.2.2.1⟩) (kcons (fun _ => ⟨by decide +kernel, kcal_102.2.2.1⟩) (kcons (fun _ => ⟨by decide +kernel, kcal_103.2.2.1⟩) (kcons (fun _ => ⟨by decide +kernel, kcal_104.2.2.1⟩) (kcons (fun _ => ⟨by decide +kernel, kcal_105.2.2.1⟩) (kcons (fun _ => ⟨by decide +kernel, kcal_106.2.2.1⟩) (kcons (fun _ => ⟨by decide +kernel, kcal_107.2.2.1⟩) (kcons (fun _ => ⟨by decide +kernel, kcal_108.2.2.1⟩) (kcons (fun _ => ⟨by decide +kernel, kcal_109.2.2.1⟩) (kcons (fun _ => ⟨by decide +kernel, kcal_110.2.2.1⟩) (kcons (fun _ => ⟨by decide +kernel, kcal_111.2.2.1⟩) (kcons (fun _ => ⟨by decide +kernel, kcal_112.2.2.1⟩) (kcons (fun _ => ⟨by decide +kernel, kcal_113.2.2.1⟩) (kcons (fun _ => ⟨by decide +kernel, kcal_114.2.2.1⟩) (kcons (fun _ => ⟨by decide +kernel, kcal_115.2.2.1⟩) (kcons (fun _ => ⟨by decide +kernel, kcal_116.2.2.1⟩) (kcons (fun _ => ⟨by decide +kernel, kcal_117.2.2.1⟩) (kcons (fun _ => ⟨by decide +kernel, kcal_118.2.2.1⟩) (kcons (fun _ => ⟨by decide +kernel, kcal_119.2.2.1⟩) (kcons (fun _ => ⟨by decide +kernel, kcal_120.2.2.1⟩) (kcons (fun _ => ⟨by decide +kernel, kcal_121.2.2.1⟩) (kcons (fun _ => ⟨by decide +kernel, kcal_122.2.2.1⟩) (kcons (fun _ => ⟨by decide +kernel, kcal_123.2.2.1⟩) (kcons (fun _ => ⟨by decide +kernel, kcal_124.2.2.1⟩) (kcons (fun _ => ⟨by decide +kernel, kcal_125.2.2.1⟩) (kcons (fun _ => ⟨by decide +kernel, kcal_126.2.2.1⟩) (kcons (fun _ => ⟨by decide +kernel, kcal_127.2.2.1⟩) (kcons (fun _ => ⟨by decide +kernel, kcal_128.2.2.1⟩) (kcons (fun _ => ⟨by decide +kernel, kcal_129.2.2.1⟩) (kcons (fun _ => ⟨by decide +kernel, kcal_130.2.2.1⟩) (kcons (fun _ => ⟨by decide +kernel, kcal_131.2.2.1⟩) (kcons (fun _ => ⟨by decide +kernel, kcal_132.2.2.1⟩) (kcons (fun _ => ⟨by decide +kernel, kcal_133.2.2.1⟩) (kcons (fun _ => ⟨by decide +kernel, kcal_134.2.2.1⟩) (kcons (fun _ => ⟨by decide +kernel, kcal_135.2.2.1⟩) (kcons (fun _ => ⟨by decide +kernel, kcal_136.2.2.1⟩) (kcons (fun _ => ⟨by decide +kernel, kcal_137.2.2.1⟩) (kcons (fun _ => ⟨by decide +kernel, kcal_138.2.2.1⟩) (kcons (fun _ => ⟨by decide +kernel, kcal_139.2.2.1⟩) (kcons (fun _ => ⟨by decide +kernel, kcal_140.2.2.1⟩) (kcons (fun _ => ⟨by decide +kernel, kcal_141.2.2.1⟩) (kcons (fun _ => ⟨by decide +kernel, kcal_142.2.2.1⟩) (kcons (fun _ => ⟨by decide +kernel, kcal_143.2.2.1⟩) (kcons (fun _ => ⟨by decide +kernel, kcal_144.2.2.1⟩) (kcons (fun _ => ⟨by decide +kernel, kcal_145.2.2.1⟩) (kcons (fun _ => ⟨by decide +kernel, kcal_146.2.2.1⟩) (kcons (fun _ => ⟨by decide +kernel, kcal_147.2.2.1⟩) (kcons (fun _ => ⟨by decide +kernel, kcal_148.2.2.1⟩) (kcons (fun _ => ⟨by decide +kernel, kcal_149.2.2.1⟩) (kcons (fun _ => ⟨by decide +kernel, kcal_150.2.2.1⟩) (kcons (fun _ => ⟨by decide +kernel, kcal_151.2.2.1⟩) (kcons (fun _ => ⟨by decide +kernel, kcal_152.2.2.1⟩) (kcons (fun _ => ⟨by decide +kernel, kcal_153.2.2.1⟩) (kcons (fun _ => ⟨by decide +kernel, kcal_154.2.2.1⟩) (kcons (fun _ => ⟨by decide +kernel, kcal_155.2.2.1⟩) (kcons (fun _ => ⟨by decide +kernel, kcal_156.2.2.1⟩) (kcons (fun _ => ⟨by decide +kernel, kcal_157.2.2.1⟩) (kcons (fun _ => ⟨by decide +kernel, kcal_158.2.2.1⟩) (kcons (fun _ => ⟨by decide +kernel, kcal_159.2.2.1⟩) (kcons (fun _ => ⟨by decide +kernel, kcal_160.2.2.1⟩) (kcons (fun _ => ⟨by decide +kernel, kcal_161.2.2.1⟩) (kcons (fun _ => ⟨by decide +kernel, kcal_162.2.2.1⟩) (kcons (fun _ => ⟨by decide +kernel, kcal_163.2.2.1⟩) (kcons (fun _ => ⟨by decide +kernel, kcal_164.2.2.1⟩) (kcons (fun _ => ⟨by decide +kernel, kcal_165.2.2.1⟩) (kcons (fun _ => ⟨by decide +kernel, kcal_166.2.2.1⟩) (kcons (fun _ => ⟨by decide +kernel, kcal_167.2.2.1⟩) (kcons (fun _ => ⟨by decide +kernel, kcal_168.2.2.1⟩) (kcons (fun _ => ⟨by decide +kernel, kcal_169.2.2.1⟩) (kcons (fun _ => ⟨by decide +kernel, kcal_170.2.2.1⟩) (kcons (fun _ => ⟨by decide +kernel, kcal_171.2.2.1⟩) (kcons (fun _ => ⟨by decide +kernel, kcal_173.2.2.1⟩) (kcons (fun _ => ⟨by decide +kernel, kcal_175.2.2.1⟩) (kcons (fun _ => ⟨by decide +kernel, kcal_176.2.2.1⟩) (kcons (fun _ => ⟨by decide +kernel, kcal_177.2.2.1⟩) (kcons (fun _ => ⟨by decide +kernel, kcal_178.2.2.1⟩) (kcons (fun _ => ⟨by decide +kernel, kcal_181.2.2.1⟩) (kcons (fun _ => ⟨by decide +kernel, kcal_182.2.2.1⟩) (kcons (fun _ => ⟨by decide +kernel, kcal_183.2.2.1⟩) (kcons (fun _ => ⟨by decide +kernel, kcal_184.2.2.1⟩) (kcons (fun _ => ⟨by decide +kernel, kcal_185.2.2.1⟩) (kcons (fun _ => ⟨by decide +kernel, kcal_186.2.2.1⟩) (kcons (fun _ => ⟨by decide +kernel, kcal_187.2.2.1⟩) (kcons (fun _ => ⟨by decide +kernel, kcal_188.2.2.1⟩) (kcons (fun _ => ⟨by decide +kernel, kcal_189.2.2.1⟩) (kcons (fun _ => ⟨by decide +kernel, kcal_190.2.2.1⟩) (kcons (fun _ => ⟨by decide +kernel, kcal_192.2.2.1⟩) (kcons (fun _ => ⟨by decide +kernel, kcal_193.2.2.1⟩) (kcons (fun _ => ⟨by decide +kernel, kcal_197.2.2.1⟩) (kcons (fun _ => ⟨by decide +kernel, kcal_198.2.2.1⟩) (kcons (fun _ => ⟨by decide +kernel, kcal_199.2.2.1⟩) (kcons (fun _ => ⟨by decide +kernel, kcal_200.2.2.1⟩) (kcons (fun _ => ⟨by decide +kernel, kcal_201.2.2.1⟩) (kcons (fun _ => ⟨by decide +kernel, kcal_202.2.2.1⟩) (kcons (fun _ => ⟨by decide +kernel, kcal_203.2.2.1⟩) (kcons (fun _ => ⟨by decide +kernel, kcal_205.2.2.1⟩) (kcons (fun _ => ⟨by decide +kernel, kcal_206.2.2.1⟩) (kcons (fun _ => ⟨by decide +kernel, kcal_207.2.2.1⟩) (kcons (fun _ => ⟨by decide +kernel, kcal_208.2.2.1⟩) (kcons (fun _ => ⟨by decide +kernel, kcal_209.2.2.1⟩) (kcons (fun _ => ⟨by decide +kernel, kcal_210.2.2.1⟩) (kcons (fun _ => ⟨by decide +kernel, kcal_211.2.2.1⟩) (kcons (fun _ => ⟨by decide +kernel, kcal_212.2.2.1⟩) (kcons (fun _ => ⟨by decide +kernel, kcal_213.2.2.1⟩) (kcons (fun _ => ⟨by decide +kernel, kcal_214.2.2.1⟩) (kcons (fun _ => ⟨by decide +kernel, kcal_215.2.2.1⟩) (kcons (fun _ => ⟨by decide +kernel, kcal_216.2.2.1⟩) (kcons (fun _ => ⟨by decide +kernel, kcal_217.2.2.1⟩) (kcons (fun _ => ⟨by decide +kernel, kcal_218.2.2.1⟩) (kcons (fun _ => ⟨by decide +kernel, kcal_219.2.2.1⟩) (kcons (fun _ => ⟨by decide +kernel, kcal_220.2.2.1⟩) (kcons (fun _ => ⟨by decide +kernel, kcal_221.2.2.1⟩) (kcons (fun _ => ⟨by decide +kernel, kcal_222.2.2.1⟩) (kcons (fun _ => ⟨by decide +kernel, kcal_223.2.2.1⟩) (kcons (fun _ => ⟨by decide +kernel, kcal_224.2.2.1⟩) (kcons (fun _ => ⟨by decide +kernel, kcal_225.2.2.1⟩) (kcons (fun _ => ⟨by decide +kernel, kcal_226.2.2.1⟩) (kcons (fun _ => ⟨by decide +kernel, kcal_227.2.2.1⟩) (kcons (fun _ => ⟨by decide +kernel, kcal_228.2.2.1⟩) (kcons (fun _ => ⟨by decide +kernel, kcal_229.2.2.1⟩) (kcons (fun _ => ⟨by decide +kernel, kcal_230.2.2.1⟩) (kcons (fun _ => ⟨by decide +kernel, kcal_231.2.2.1⟩) (kcons (fun _ => ⟨by decide +kernel, kcal_232.2.2.1⟩) (kcons (fun _ => ⟨by decide +kernel, kcal_233.2.2.1⟩) (kcons (fun _ => ⟨by decide +kernel, kcal_234.2.2.1⟩) (kcons (fun _ => ⟨by decide +kernel, kcal_235.2.2.1⟩) (kcons (fun _ => ⟨by decide +kernel, kcal_236.2.2.1⟩) (kcons (fun _ => ⟨by decide +kernel, kcal_237.2.2.1⟩) (kcons (fun _ => ⟨by decide +kernel, kcal_238.2.2.1⟩) (kcons (fun _ => ⟨by decide +kernel, kcal_241.2.2.1⟩) (kcons (fun _ => ⟨by decide +kernel, kcal_242.2.2.1⟩) (kcons (fun _ => ⟨by decide +kernel, kcal_243.2.2.1⟩) (kcons (fun _ => ⟨by decide +kernel, kcal_244.2.2.1⟩) (kcons (fun _ => ⟨by decide +kernel, kcal_245.2.2.1⟩) (kcons (fun _ => ⟨by decide +kernel, kcal_246.2.2.1⟩) (kcons (fun _ => ⟨by decide +kernel, kcal_247.2.2.1⟩) (kcons (fun _ => ⟨by decide +kernel, kcal_248.2.2.1⟩) (kcons (fun _ => ⟨by decide +kernel, kcal_249.2.2.1⟩) (kcons (fun _ => ⟨by decide +kernel, kcal_250.2.2.1⟩) (kcons (fun _ => ⟨by decide +kernel, kcal_251.2.2.1⟩) (kcons (fun _ => ⟨by decide +kernel, kcal_252.2.2.1⟩) (kcons (fun _ => ⟨by decide +kernel, kcal_253.2.2.1⟩) (kcons (fun _ => ⟨by decide +kernel, kcal_254.2.2.1⟩) (kcons (fun _ => ⟨by decide +kernel, kcal_255.2.2.1⟩) (kcons (fun _ => ⟨by decide +kernel, kcal_256.2.2.1⟩) (kcons (fun _ => ⟨by decide +kernel, kcal_257.2.2.1⟩) (kcons (fun _ => ⟨by decide +kernel, kcal_258.2.2.1⟩) (kcons (fun _ => ⟨by decide +kernel, kcal_259.2.2.1⟩) (kcons (fun _ => ⟨by decide +kernel, kcal_260.2.2.1⟩) (kcons (fun _ => ⟨by decide +kernel, kcal_261.2.2.1⟩) (kcons (fun _ => ⟨by decide +kernel, kcal_262.2.2.1⟩) (kcons (fun _ => ⟨by decide +kernel, kcal_263.2.2.1⟩) (knil)))))))))))))))))))))))))))))))))))))))))))))))))))))))))))))))))))))))))))))))))))))))))))))))))))))))))))))))))))))))))))))))))))))))))))))))))))))))))))))))))))))))))))))))))))))))))))))))))))))))))))))))))))))))))))))))))))))))))))))))))))))))))))))
def kPh (q : Nat × Nat × Nat × Nat × Nat) : Prop := ∀ ins a b, kFetch q.1 q.2.1 = some (ins, a, b) → kHnd kNcs kHH (kBy q.1) (kY q.1).cls (kEx q.2.2.1) (kNL q.1) q.1 q.2.1 q.2.2.2.1 q.2.2.2.2 ∧ ∃ i, ins = .invokevirtual i ∧ ∃ (ci : Nat) (C : String) (T : u_T) (N : Nat), b / 100 = ci + 1 ∧ vwCl[ci]? = some (C, T, N) ∧ ci < 40 ∧ kHH a = none ∧ 1 ≤ b % 100 ∧ (parseMethodDescriptor (kY a).desc).map (fun d => d.parameters.length) = some (b % 100 - 1) ∧ Jvm.Cond.methodLink (kY q.1).cls i (kY a) ∈ kTbl ∧ Jvm.Cond.instanceMethod (kY a) ∈ kTbl ∧ Jvm.Cond.selects C (kY a) (kY a) ∈ kTbl
theorem kh_241_0 : kPh (241, 3, 0, 14, 3) := by
  intro ins a b h
  cases (show some (Instr.invokevirtual 7, 40, 1202) = some (ins, a, b) from h)
  have hv := kvf (own := "KnitsteadLaw") (i := 7) (b := 1202) (ci := 11) kcal_40 rfl (by decide) (by decide) kt_4_6 kt_4_7 kt_4_8
  exact ⟨(show kHnd kNcs kHH cL_buy "KnitsteadLaw" "java/lang/IllegalArgumentException" 4 241 3 14 3 from ⟨_, [], ⟨0, 10, 13, 19⟩, [⟨0, 10, 16, 21⟩], _, rfl, rfl, (fun z hz => by simp at hz), rfl, by decide, kt_4_4, kt_2_179, by decide, Or.inl ⟨3, rfl, dL_buy_13, rfl⟩⟩), 7, rfl, hv⟩
theorem kh_241_1 : kPh (241, 3, 1, 17, 3) := by
  intro ins a b h
  cases (show some (Instr.invokevirtual 7, 40, 1202) = some (ins, a, b) from h)
  have hv := kvf (own := "KnitsteadLaw") (i := 7) (b := 1202) (ci := 11) kcal_40 rfl (by decide) (by decide) kt_4_6 kt_4_7 kt_4_8
  exact ⟨(show kHnd kNcs kHH cL_buy "KnitsteadLaw" "java/lang/IllegalStateException" 4 241 3 17 3 from ⟨_, [⟨0, 10, 13, 19⟩], ⟨0, 10, 16, 21⟩, [], _, rfl, rfl, (fun z hz => by obtain rfl : z = ⟨0, 10, 13, 19⟩ := (by simpa using hz); exact Or.inr ⟨by decide, _, kt_4_4, by decide +kernel⟩), rfl, by decide, kt_4_5, kt_4_15, by decide, Or.inl ⟨3, rfl, dL_buy_16, rfl⟩⟩), 7, rfl, hv⟩
theorem kh_242_2 : kPh (242, 3, 2, 14, 3) := by
  intro ins a b h
  cases (show some (Instr.invokevirtual 23, 41, 1202) = some (ins, a, b) from h)
  have hv := kvf (own := "KnitsteadLaw") (i := 23) (b := 1202) (ci := 11) kcal_41 rfl (by decide) (by decide) kt_4_37 kt_4_38 kt_4_39
  exact ⟨(show kHnd kNcs kHH cL_join "KnitsteadLaw" "java/lang/IndexOutOfBoundsException" 4 242 3 14 3 from ⟨_, [], ⟨0, 10, 13, 26⟩, [], _, rfl, rfl, (fun z hz => by simp at hz), rfl, by decide, kt_4_36, kt_4_44, by decide, Or.inl ⟨3, rfl, dL_join_13, rfl⟩⟩), 23, rfl, hv⟩
theorem kh_243_0 : kPh (243, 3, 0, 14, 3) := by
  intro ins a b h
  cases (show some (Instr.invokevirtual 28, 42, 1202) = some (ins, a, b) from h)
  have hv := kvf (own := "KnitsteadLaw") (i := 28) (b := 1202) (ci := 11) kcal_42 rfl (by decide) (by decide) kt_4_61 kt_4_62 kt_4_63
  exact ⟨(show kHnd kNcs kHH cL_cast "KnitsteadLaw" "java/lang/IllegalArgumentException" 4 243 3 14 3 from ⟨_, [], ⟨0, 10, 13, 19⟩, [⟨0, 10, 16, 21⟩], _, rfl, rfl, (fun z hz => by simp at hz), rfl, by decide, kt_4_4, kt_2_179, by decide, Or.inl ⟨3, rfl, dL_cast_13, rfl⟩⟩), 28, rfl, hv⟩
theorem kh_243_1 : kPh (243, 3, 1, 17, 3) := by
  intro ins a b h
  cases (show some (Instr.invokevirtual 28, 42, 1202) = some (ins, a, b) from h)
  have hv := kvf (own := "KnitsteadLaw") (i := 28) (b := 1202) (ci := 11) kcal_42 rfl (by decide) (by decide) kt_4_61 kt_4_62 kt_4_63
  exact ⟨(show kHnd kNcs kHH cL_cast "KnitsteadLaw" "java/lang/IllegalStateException" 4 243 3 17 3 from ⟨_, [⟨0, 10, 13, 19⟩], ⟨0, 10, 16, 21⟩, [], _, rfl, rfl, (fun z hz => by obtain rfl : z = ⟨0, 10, 13, 19⟩ := (by simpa using hz); exact Or.inr ⟨by decide, _, kt_4_4, by decide +kernel⟩), rfl, by decide, kt_4_5, kt_4_15, by decide, Or.inl ⟨3, rfl, dL_cast_16, rfl⟩⟩), 28, rfl, hv⟩
theorem kh_244_1 : kPh (244, 3, 1, 14, 3) := by
  intro ins a b h
  cases (show some (Instr.invokevirtual 31, 43, 1202) = some (ins, a, b) from h)
  have hv := kvf (own := "KnitsteadLaw") (i := 31) (b := 1202) (ci := 11) kcal_43 rfl (by decide) (by decide) kt_4_134 kt_4_135 kt_4_136
  exact ⟨(show kHnd kNcs kHH cL_work "KnitsteadLaw" "java/lang/IllegalStateException" 4 244 3 14 3 from ⟨_, [], ⟨0, 10, 13, 21⟩, [], _, rfl, rfl, (fun z hz => by simp at hz), rfl, by decide, kt_4_5, kt_4_15, by decide, Or.inl ⟨3, rfl, dL_work_13, rfl⟩⟩), 31, rfl, hv⟩
theorem kh_245_1 : kPh (245, 2, 1, 13, 2) := by
  intro ins a b h
  cases (show some (Instr.invokevirtual 35, 44, 1201) = some (ins, a, b) from h)
  have hv := kvf (own := "KnitsteadLaw") (i := 35) (b := 1201) (ci := 11) kcal_44 rfl (by decide) (by decide) kt_4_163 kt_4_164 kt_4_165
  exact ⟨(show kHnd kNcs kHH cL_over "KnitsteadLaw" "java/lang/IllegalStateException" 3 245 2 13 2 from ⟨_, [], ⟨0, 9, 12, 21⟩, [], _, rfl, rfl, (fun z hz => by simp at hz), rfl, by decide, kt_4_5, kt_4_15, by decide, Or.inl ⟨2, rfl, dL_over_12, rfl⟩⟩), 35, rfl, hv⟩
theorem kh_246_0 : kPh (246, 4, 0, 16, 4) := by
  intro ins a b h
  cases (show some (Instr.invokevirtual 39, 45, 1203) = some (ins, a, b) from h)
  have hv := kvf (own := "KnitsteadLaw") (i := 39) (b := 1203) (ci := 11) kcal_45 rfl (by decide) (by decide) kt_4_175 kt_4_176 kt_4_177
  exact ⟨(show kHnd kNcs kHH cL_together "KnitsteadLaw" "java/lang/IllegalArgumentException" 5 246 4 16 4 from ⟨_, [], ⟨0, 11, 14, 19⟩, [⟨0, 11, 18, 21⟩], _, rfl, rfl, (fun z hz => by simp at hz), rfl, by decide, kt_4_4, kt_2_179, by decide, Or.inr ⟨dL_together_14, rfl⟩⟩), 39, rfl, hv⟩
theorem kh_246_1 : kPh (246, 4, 1, 20, 4) := by
  intro ins a b h
  cases (show some (Instr.invokevirtual 39, 45, 1203) = some (ins, a, b) from h)
  have hv := kvf (own := "KnitsteadLaw") (i := 39) (b := 1203) (ci := 11) kcal_45 rfl (by decide) (by decide) kt_4_175 kt_4_176 kt_4_177
  exact ⟨(show kHnd kNcs kHH cL_together "KnitsteadLaw" "java/lang/IllegalStateException" 5 246 4 20 4 from ⟨_, [⟨0, 11, 14, 19⟩], ⟨0, 11, 18, 21⟩, [], _, rfl, rfl, (fun z hz => by obtain rfl : z = ⟨0, 11, 14, 19⟩ := (by simpa using hz); exact Or.inr ⟨by decide, _, kt_4_4, by decide +kernel⟩), rfl, by decide, kt_4_5, kt_4_15, by decide, Or.inr ⟨dL_together_18, rfl⟩⟩), 39, rfl, hv⟩
theorem kh_247_1 : kPh (247, 2, 1, 13, 2) := by
  intro ins a b h
  cases (show some (Instr.invokevirtual 43, 46, 1201) = some (ins, a, b) from h)
  have hv := kvf (own := "KnitsteadLaw") (i := 43) (b := 1201) (ci := 11) kcal_46 rfl (by decide) (by decide) kt_4_188 kt_4_189 kt_4_190
  exact ⟨(show kHnd kNcs kHH cL_slip "KnitsteadLaw" "java/lang/IllegalStateException" 3 247 2 13 2 from ⟨_, [], ⟨0, 9, 12, 21⟩, [], _, rfl, rfl, (fun z hz => by simp at hz), rfl, by decide, kt_4_5, kt_4_15, by decide, Or.inl ⟨2, rfl, dL_slip_12, rfl⟩⟩), 43, rfl, hv⟩
theorem kh_248_0 : kPh (248, 4, 0, 16, 4) := by
  intro ins a b h
  cases (show some (Instr.invokevirtual 46, 47, 1203) = some (ins, a, b) from h)
  have hv := kvf (own := "KnitsteadLaw") (i := 46) (b := 1203) (ci := 11) kcal_47 rfl (by decide) (by decide) kt_4_200 kt_4_201 kt_4_202
  exact ⟨(show kHnd kNcs kHH cL_cross "KnitsteadLaw" "java/lang/IllegalArgumentException" 5 248 4 16 4 from ⟨_, [], ⟨0, 11, 14, 19⟩, [⟨0, 11, 18, 21⟩], _, rfl, rfl, (fun z hz => by simp at hz), rfl, by decide, kt_4_4, kt_2_179, by decide, Or.inr ⟨dL_cross_14, rfl⟩⟩), 46, rfl, hv⟩
theorem kh_248_1 : kPh (248, 4, 1, 20, 4) := by
  intro ins a b h
  cases (show some (Instr.invokevirtual 46, 47, 1203) = some (ins, a, b) from h)
  have hv := kvf (own := "KnitsteadLaw") (i := 46) (b := 1203) (ci := 11) kcal_47 rfl (by decide) (by decide) kt_4_200 kt_4_201 kt_4_202
  exact ⟨(show kHnd kNcs kHH cL_cross "KnitsteadLaw" "java/lang/IllegalStateException" 5 248 4 20 4 from ⟨_, [⟨0, 11, 14, 19⟩], ⟨0, 11, 18, 21⟩, [], _, rfl, rfl, (fun z hz => by obtain rfl : z = ⟨0, 11, 14, 19⟩ := (by simpa using hz); exact Or.inr ⟨by decide, _, kt_4_4, by decide +kernel⟩), rfl, by decide, kt_4_5, kt_4_15, by decide, Or.inr ⟨dL_cross_18, rfl⟩⟩), 46, rfl, hv⟩
theorem kh_249_1 : kPh (249, 2, 1, 13, 2) := by
  intro ins a b h
  cases (show some (Instr.invokevirtual 50, 48, 1201) = some (ins, a, b) from h)
  have hv := kvf (own := "KnitsteadLaw") (i := 50) (b := 1201) (ci := 11) kcal_48 rfl (by decide) (by decide) kt_4_217 kt_4_218 kt_4_219
  exact ⟨(show kHnd kNcs kHH cL_turn "KnitsteadLaw" "java/lang/IllegalStateException" 3 249 2 13 2 from ⟨_, [], ⟨0, 9, 12, 21⟩, [], _, rfl, rfl, (fun z hz => by simp at hz), rfl, by decide, kt_4_5, kt_4_15, by decide, Or.inl ⟨2, rfl, dL_turn_12, rfl⟩⟩), 50, rfl, hv⟩
theorem kh_250_0 : kPh (250, 3, 0, 14, 3) := by
  intro ins a b h
  cases (show some (Instr.invokevirtual 53, 49, 1202) = some (ins, a, b) from h)
  have hv := kvf (own := "KnitsteadLaw") (i := 53) (b := 1202) (ci := 11) kcal_49 rfl (by decide) (by decide) kt_4_229 kt_4_230 kt_4_231
  exact ⟨(show kHnd kNcs kHH cL_bind "KnitsteadLaw" "java/lang/IllegalArgumentException" 4 250 3 14 3 from ⟨_, [], ⟨0, 10, 13, 19⟩, [⟨0, 10, 16, 21⟩], _, rfl, rfl, (fun z hz => by simp at hz), rfl, by decide, kt_4_4, kt_2_179, by decide, Or.inl ⟨3, rfl, dL_bind_13, rfl⟩⟩), 53, rfl, hv⟩
theorem kh_250_1 : kPh (250, 3, 1, 17, 3) := by
  intro ins a b h
  cases (show some (Instr.invokevirtual 53, 49, 1202) = some (ins, a, b) from h)
  have hv := kvf (own := "KnitsteadLaw") (i := 53) (b := 1202) (ci := 11) kcal_49 rfl (by decide) (by decide) kt_4_229 kt_4_230 kt_4_231
  exact ⟨(show kHnd kNcs kHH cL_bind "KnitsteadLaw" "java/lang/IllegalStateException" 4 250 3 17 3 from ⟨_, [⟨0, 10, 13, 19⟩], ⟨0, 10, 16, 21⟩, [], _, rfl, rfl, (fun z hz => by obtain rfl : z = ⟨0, 10, 13, 19⟩ := (by simpa using hz); exact Or.inr ⟨by decide, _, kt_4_4, by decide +kernel⟩), rfl, by decide, kt_4_5, kt_4_15, by decide, Or.inl ⟨3, rfl, dL_bind_16, rfl⟩⟩), 53, rfl, hv⟩
theorem kh_251_1 : kPh (251, 2, 1, 13, 2) := by
  intro ins a b h
  cases (show some (Instr.invokevirtual 56, 50, 1201) = some (ins, a, b) from h)
  have hv := kvf (own := "KnitsteadLaw") (i := 56) (b := 1201) (ci := 11) kcal_50 rfl (by decide) (by decide) kt_5_11 kt_5_12 kt_5_13
  exact ⟨(show kHnd kNcs kHH cL_drop "KnitsteadLaw" "java/lang/IllegalStateException" 3 251 2 13 2 from ⟨_, [], ⟨0, 9, 12, 21⟩, [], _, rfl, rfl, (fun z hz => by simp at hz), rfl, by decide, kt_4_5, kt_4_15, by decide, Or.inl ⟨2, rfl, dL_drop_12, rfl⟩⟩), 56, rfl, hv⟩
theorem kh_252_1 : kPh (252, 3, 1, 17, 3) := by
  intro ins a b h
  cases (show some (Instr.invokevirtual 59, 51, 1202) = some (ins, a, b) from h)
  have hv := kvf (own := "KnitsteadLaw") (i := 59) (b := 1202) (ci := 11) kcal_51 rfl (by decide) (by decide) kt_5_23 kt_5_24 kt_5_25
  exact ⟨(show kHnd kNcs kHH cL_latch "KnitsteadLaw" "java/lang/IllegalStateException" 4 252 3 17 3 from ⟨_, [⟨0, 10, 13, 26⟩], ⟨0, 10, 16, 21⟩, [], _, rfl, rfl, (fun z hz => by obtain rfl : z = ⟨0, 10, 13, 26⟩ := (by simpa using hz); exact Or.inr ⟨by decide, _, kt_4_36, by decide +kernel⟩), rfl, by decide, kt_4_5, kt_4_15, by decide, Or.inl ⟨3, rfl, dL_latch_16, rfl⟩⟩), 59, rfl, hv⟩
theorem kh_252_2 : kPh (252, 3, 2, 14, 3) := by
  intro ins a b h
  cases (show some (Instr.invokevirtual 59, 51, 1202) = some (ins, a, b) from h)
  have hv := kvf (own := "KnitsteadLaw") (i := 59) (b := 1202) (ci := 11) kcal_51 rfl (by decide) (by decide) kt_5_23 kt_5_24 kt_5_25
  exact ⟨(show kHnd kNcs kHH cL_latch "KnitsteadLaw" "java/lang/IndexOutOfBoundsException" 4 252 3 14 3 from ⟨_, [], ⟨0, 10, 13, 26⟩, [⟨0, 10, 16, 21⟩], _, rfl, rfl, (fun z hz => by simp at hz), rfl, by decide, kt_4_36, kt_4_44, by decide, Or.inl ⟨3, rfl, dL_latch_13, rfl⟩⟩), 59, rfl, hv⟩
theorem kh_253_0 : kPh (253, 3, 0, 14, 3) := by
  intro ins a b h
  cases (show some (Instr.invokevirtual 62, 52, 1202) = some (ins, a, b) from h)
  have hv := kvf (own := "KnitsteadLaw") (i := 62) (b := 1202) (ci := 11) kcal_52 rfl (by decide) (by decide) kt_5_32 kt_5_33 kt_5_34
  exact ⟨(show kHnd kNcs kHH cL_pattern "KnitsteadLaw" "java/lang/IllegalArgumentException" 4 253 3 14 3 from ⟨_, [], ⟨0, 10, 13, 19⟩, [⟨0, 10, 16, 21⟩], _, rfl, rfl, (fun z hz => by simp at hz), rfl, by decide, kt_4_4, kt_2_179, by decide, Or.inl ⟨3, rfl, dL_pattern_13, rfl⟩⟩), 62, rfl, hv⟩
theorem kh_253_1 : kPh (253, 3, 1, 17, 3) := by
  intro ins a b h
  cases (show some (Instr.invokevirtual 62, 52, 1202) = some (ins, a, b) from h)
  have hv := kvf (own := "KnitsteadLaw") (i := 62) (b := 1202) (ci := 11) kcal_52 rfl (by decide) (by decide) kt_5_32 kt_5_33 kt_5_34
  exact ⟨(show kHnd kNcs kHH cL_pattern "KnitsteadLaw" "java/lang/IllegalStateException" 4 253 3 17 3 from ⟨_, [⟨0, 10, 13, 19⟩], ⟨0, 10, 16, 21⟩, [], _, rfl, rfl, (fun z hz => by obtain rfl : z = ⟨0, 10, 13, 19⟩ := (by simpa using hz); exact Or.inr ⟨by decide, _, kt_4_4, by decide +kernel⟩), rfl, by decide, kt_4_5, kt_4_15, by decide, Or.inl ⟨3, rfl, dL_pattern_16, rfl⟩⟩), 62, rfl, hv⟩
theorem kh_254_1 : kPh (254, 3, 1, 17, 3) := by
  intro ins a b h
  cases (show some (Instr.invokevirtual 65, 53, 1202) = some (ins, a, b) from h)
  have hv := kvf (own := "KnitsteadLaw") (i := 65) (b := 1202) (ci := 11) kcal_53 rfl (by decide) (by decide) kt_5_52 kt_5_53 kt_5_54
  exact ⟨(show kHnd kNcs kHH cL_follow "KnitsteadLaw" "java/lang/IllegalStateException" 4 254 3 17 3 from ⟨_, [⟨0, 10, 13, 26⟩], ⟨0, 10, 16, 21⟩, [], _, rfl, rfl, (fun z hz => by obtain rfl : z = ⟨0, 10, 13, 26⟩ := (by simpa using hz); exact Or.inr ⟨by decide, _, kt_4_36, by decide +kernel⟩), rfl, by decide, kt_4_5, kt_4_15, by decide, Or.inl ⟨3, rfl, dL_follow_16, rfl⟩⟩), 65, rfl, hv⟩
theorem kh_254_2 : kPh (254, 3, 2, 14, 3) := by
  intro ins a b h
  cases (show some (Instr.invokevirtual 65, 53, 1202) = some (ins, a, b) from h)
  have hv := kvf (own := "KnitsteadLaw") (i := 65) (b := 1202) (ci := 11) kcal_53 rfl (by decide) (by decide) kt_5_52 kt_5_53 kt_5_54
  exact ⟨(show kHnd kNcs kHH cL_follow "KnitsteadLaw" "java/lang/IndexOutOfBoundsException" 4 254 3 14 3 from ⟨_, [], ⟨0, 10, 13, 26⟩, [⟨0, 10, 16, 21⟩], _, rfl, rfl, (fun z hz => by simp at hz), rfl, by decide, kt_4_36, kt_4_44, by decide, Or.inl ⟨3, rfl, dL_follow_13, rfl⟩⟩), 65, rfl, hv⟩
theorem kh_255_1 : kPh (255, 2, 1, 13, 2) := by
  intro ins a b h
  cases (show some (Instr.invokevirtual 68, 54, 1201) = some (ins, a, b) from h)
  have hv := kvf (own := "KnitsteadLaw") (i := 68) (b := 1201) (ci := 11) kcal_54 rfl (by decide) (by decide) kt_5_68 kt_5_69 kt_5_70
  exact ⟨(show kHnd kNcs kHH cL_undo "KnitsteadLaw" "java/lang/IllegalStateException" 3 255 2 13 2 from ⟨_, [], ⟨0, 9, 12, 21⟩, [], _, rfl, rfl, (fun z hz => by simp at hz), rfl, by decide, kt_4_5, kt_4_15, by decide, Or.inl ⟨2, rfl, dL_undo_12, rfl⟩⟩), 68, rfl, hv⟩
theorem kh_256_2 : kPh (256, 4, 2, 16, 4) := by
  intro ins a b h
  cases (show some (Instr.invokevirtual 71, 55, 1203) = some (ins, a, b) from h)
  have hv := kvf (own := "KnitsteadLaw") (i := 71) (b := 1203) (ci := 11) kcal_55 rfl (by decide) (by decide) kt_5_81 kt_5_82 kt_5_83
  exact ⟨(show kHnd kNcs kHH cL_on "KnitsteadLaw" "java/lang/IndexOutOfBoundsException" 5 256 4 16 4 from ⟨_, [], ⟨0, 11, 14, 26⟩, [], _, rfl, rfl, (fun z hz => by simp at hz), rfl, by decide, kt_4_36, kt_4_44, by decide, Or.inr ⟨dL_on_14, rfl⟩⟩), 71, rfl, hv⟩
theorem kh_257_0 : kPh (257, 4, 0, 20, 4) := by
  intro ins a b h
  cases (show some (Instr.invokevirtual 75, 56, 1203) = some (ins, a, b) from h)
  have hv := kvf (own := "KnitsteadLaw") (i := 75) (b := 1203) (ci := 11) kcal_56 rfl (by decide) (by decide) kt_5_89 kt_5_90 kt_5_91
  exact ⟨(show kHnd kNcs kHH cL_ofLoop "KnitsteadLaw" "java/lang/IllegalArgumentException" 5 257 4 20 4 from ⟨_, [⟨0, 11, 14, 26⟩], ⟨0, 11, 18, 19⟩, [], _, rfl, rfl, (fun z hz => by obtain rfl : z = ⟨0, 11, 14, 26⟩ := (by simpa using hz); exact Or.inr ⟨by decide, _, kt_4_36, by decide +kernel⟩), rfl, by decide, kt_4_4, kt_2_179, by decide, Or.inr ⟨dL_ofLoop_18, rfl⟩⟩), 75, rfl, hv⟩
theorem kh_257_2 : kPh (257, 4, 2, 16, 4) := by
  intro ins a b h
  cases (show some (Instr.invokevirtual 75, 56, 1203) = some (ins, a, b) from h)
  have hv := kvf (own := "KnitsteadLaw") (i := 75) (b := 1203) (ci := 11) kcal_56 rfl (by decide) (by decide) kt_5_89 kt_5_90 kt_5_91
  exact ⟨(show kHnd kNcs kHH cL_ofLoop "KnitsteadLaw" "java/lang/IndexOutOfBoundsException" 5 257 4 16 4 from ⟨_, [], ⟨0, 11, 14, 26⟩, [⟨0, 11, 18, 19⟩], _, rfl, rfl, (fun z hz => by simp at hz), rfl, by decide, kt_4_36, kt_4_44, by decide, Or.inr ⟨dL_ofLoop_14, rfl⟩⟩), 75, rfl, hv⟩
theorem kh_258_0 : kPh (258, 4, 0, 20, 4) := by
  intro ins a b h
  cases (show some (Instr.invokevirtual 78, 57, 1203) = some (ins, a, b) from h)
  have hv := kvf (own := "KnitsteadLaw") (i := 78) (b := 1203) (ci := 11) kcal_57 rfl (by decide) (by decide) kt_5_98 kt_5_99 kt_5_100
  exact ⟨(show kHnd kNcs kHH cL_ofRun "KnitsteadLaw" "java/lang/IllegalArgumentException" 5 258 4 20 4 from ⟨_, [⟨0, 11, 14, 26⟩], ⟨0, 11, 18, 19⟩, [], _, rfl, rfl, (fun z hz => by obtain rfl : z = ⟨0, 11, 14, 26⟩ := (by simpa using hz); exact Or.inr ⟨by decide, _, kt_4_36, by decide +kernel⟩), rfl, by decide, kt_4_4, kt_2_179, by decide, Or.inr ⟨dL_ofRun_18, rfl⟩⟩), 78, rfl, hv⟩
theorem kh_258_2 : kPh (258, 4, 2, 16, 4) := by
  intro ins a b h
  cases (show some (Instr.invokevirtual 78, 57, 1203) = some (ins, a, b) from h)
  have hv := kvf (own := "KnitsteadLaw") (i := 78) (b := 1203) (ci := 11) kcal_57 rfl (by decide) (by decide) kt_5_98 kt_5_99 kt_5_100
  exact ⟨(show kHnd kNcs kHH cL_ofRun "KnitsteadLaw" "java/lang/IndexOutOfBoundsException" 5 258 4 16 4 from ⟨_, [], ⟨0, 11, 14, 26⟩, [⟨0, 11, 18, 19⟩], _, rfl, rfl, (fun z hz => by simp at hz), rfl, by decide, kt_4_36, kt_4_44, by decide, Or.inr ⟨dL_ofRun_14, rfl⟩⟩), 78, rfl, hv⟩
theorem kh_259_0 : kPh (259, 3, 0, 14, 3) := by
  intro ins a b h
  cases (show some (Instr.invokevirtual 81, 60, 1202) = some (ins, a, b) from h)
  have hv := kvf (own := "KnitsteadLaw") (i := 81) (b := 1202) (ci := 11) kcal_60 rfl (by decide) (by decide) kt_5_106 kt_5_107 kt_5_108
  exact ⟨(show kHnd kNcs kHH cL_many "KnitsteadLaw" "java/lang/IllegalArgumentException" 4 259 3 14 3 from ⟨_, [], ⟨0, 10, 13, 19⟩, [], _, rfl, rfl, (fun z hz => by simp at hz), rfl, by decide, kt_4_4, kt_2_179, by decide, Or.inl ⟨3, rfl, dL_many_13, rfl⟩⟩), 81, rfl, hv⟩
theorem kh_260_2 : kPh (260, 3, 2, 14, 3) := by
  intro ins a b h
  cases (show some (Instr.invokevirtual 84, 61, 1202) = some (ins, a, b) from h)
  have hv := kvf (own := "KnitsteadLaw") (i := 84) (b := 1202) (ci := 11) kcal_61 rfl (by decide) (by decide) kt_5_114 kt_5_115 kt_5_116
  exact ⟨(show kHnd kNcs kHH cL_left "KnitsteadLaw" "java/lang/IndexOutOfBoundsException" 4 260 3 14 3 from ⟨_, [], ⟨0, 10, 13, 26⟩, [], _, rfl, rfl, (fun z hz => by simp at hz), rfl, by decide, kt_4_36, kt_4_44, by decide, Or.inl ⟨3, rfl, dL_left_13, rfl⟩⟩), 84, rfl, hv⟩
theorem kh_261_0 : kPh (261, 4, 0, 20, 4) := by
  intro ins a b h
  cases (show some (Instr.invokevirtual 87, 62, 1203) = some (ins, a, b) from h)
  have hv := kvf (own := "KnitsteadLaw") (i := 87) (b := 1203) (ci := 11) kcal_62 rfl (by decide) (by decide) kt_5_121 kt_5_122 kt_5_123
  exact ⟨(show kHnd kNcs kHH cL_ofPattern "KnitsteadLaw" "java/lang/IllegalArgumentException" 5 261 4 20 4 from ⟨_, [⟨0, 11, 14, 26⟩], ⟨0, 11, 18, 19⟩, [], _, rfl, rfl, (fun z hz => by obtain rfl : z = ⟨0, 11, 14, 26⟩ := (by simpa using hz); exact Or.inr ⟨by decide, _, kt_4_36, by decide +kernel⟩), rfl, by decide, kt_4_4, kt_2_179, by decide, Or.inr ⟨dL_ofPattern_18, rfl⟩⟩), 87, rfl, hv⟩
theorem kh_261_2 : kPh (261, 4, 2, 16, 4) := by
  intro ins a b h
  cases (show some (Instr.invokevirtual 87, 62, 1203) = some (ins, a, b) from h)
  have hv := kvf (own := "KnitsteadLaw") (i := 87) (b := 1203) (ci := 11) kcal_62 rfl (by decide) (by decide) kt_5_121 kt_5_122 kt_5_123
  exact ⟨(show kHnd kNcs kHH cL_ofPattern "KnitsteadLaw" "java/lang/IndexOutOfBoundsException" 5 261 4 16 4 from ⟨_, [], ⟨0, 11, 14, 26⟩, [⟨0, 11, 18, 19⟩], _, rfl, rfl, (fun z hz => by simp at hz), rfl, by decide, kt_4_36, kt_4_44, by decide, Or.inr ⟨dL_ofPattern_14, rfl⟩⟩), 87, rfl, hv⟩
theorem kh_262_2 : kPh (262, 3, 2, 14, 3) := by
  intro ins a b h
  cases (show some (Instr.invokevirtual 90, 63, 1202) = some (ins, a, b) from h)
  have hv := kvf (own := "KnitsteadLaw") (i := 90) (b := 1202) (ci := 11) kcal_63 rfl (by decide) (by decide) kt_5_129 kt_5_130 kt_5_131
  exact ⟨(show kHnd kNcs kHH cL_would "KnitsteadLaw" "java/lang/IndexOutOfBoundsException" 4 262 3 14 3 from ⟨_, [], ⟨0, 10, 13, 26⟩, [], _, rfl, rfl, (fun z hz => by simp at hz), rfl, by decide, kt_4_36, kt_4_44, by decide, Or.inl ⟨3, rfl, dL_would_13, rfl⟩⟩), 90, rfl, hv⟩
theorem kh_263_2 : kPh (263, 3, 2, 14, 3) := by
  intro ins a b h
  cases (show some (Instr.invokevirtual 93, 64, 1202) = some (ins, a, b) from h)
  have hv := kvf (own := "KnitsteadLaw") (i := 93) (b := 1202) (ci := 11) kcal_64 rfl (by decide) (by decide) kt_5_136 kt_5_137 kt_5_138
  exact ⟨(show kHnd kNcs kHH cL_needs "KnitsteadLaw" "java/lang/IndexOutOfBoundsException" 4 263 3 14 3 from ⟨_, [], ⟨0, 10, 13, 26⟩, [], _, rfl, rfl, (fun z hz => by simp at hz), rfl, by decide, kt_4_36, kt_4_44, by decide, Or.inl ⟨3, rfl, dL_needs_13, rfl⟩⟩), 93, rfl, hv⟩
theorem kPh_all : ∀ q ∈ kHz, kPh q :=
  kcons (kh_241_0) (kcons (kh_241_1) (kcons (kh_242_2) (kcons (kh_243_0) (kcons (kh_243_1) (kcons (kh_244_1) (kcons (kh_245_1) (kcons (kh_246_0) (kcons (kh_246_1) (kcons (kh_247_1) (kcons (kh_248_0) (kcons (kh_248_1) (kcons (kh_249_1) (kcons (kh_250_0) (kcons (kh_250_1) (kcons (kh_251_1) (kcons (kh_252_1) (kcons (kh_252_2) (kcons (kh_253_0) (kcons (kh_253_1) (kcons (kh_254_1) (kcons (kh_254_2) (kcons (kh_255_1) (kcons (kh_256_2) (kcons (kh_257_0) (kcons (kh_257_2) (kcons (kh_258_0) (kcons (kh_258_2) (kcons (kh_259_0) (kcons (kh_260_2) (kcons (kh_261_0) (kcons (kh_261_2) (kcons (kh_262_2) (kcons (kh_263_2) (knil))))))))))))))))))))))))))))))))))
theorem kOb_all : ∀ q ∈ vwCl, Jvm.Cond.castable q.1 "java/lang/Object" ∈ kTbl :=
  kcons (kt_8_47) (kcons (kt_8_46) (kcons (kt_8_30) (kcons (kt_8_43) (kcons (kt_8_38) (kcons (kt_8_32) (kcons (kt_8_35) (kcons (kt_8_33) (kcons (kt_8_34) (kcons (kt_8_36) (kcons (kt_8_29) (kcons (kt_8_31) (kcons (kt_8_40) (kcons (kt_8_45) (kcons (kt_8_39) (kcons (kt_8_37) (knil))))))))))))))))
theorem kOb : kObj := ⟨fun ci C T N h => kOb_all (C, T, N) (List.mem_of_getElem? h), kt_8_52, ⟨_, _, rfl⟩⟩
theorem kTOk_holds : kTOk kSn kStrs kNcs kDfl kFty kG kY kBy kHH kEx := by
  refine ⟨fun w hw => (List.mem_filter.mp hw).2, kOb, ?_, ?_⟩
  · intro mi pc x h0 hf
    obtain ⟨q, hq, h1, h2, -⟩ := kFetch_some hf
    subst h1
    have := kPn_all q hq h0
    exact ⟨by rw [show kY q.1 = q.2.1.1 from congrArg (·.1) h2]; exact this.1, this.2⟩
  · intro mi pc ins a b hf
    obtain ⟨q, hq, h1, h2, e, he, h3, h4⟩ := kFetch_some hf
    have hp := kPm_all q hq e he
    obtain ⟨pc', x⟩ := e
    subst h1
    cases h3
    cases h4
    rw [show q.2.1 = kInf q.1 from h2.symm] at hp
    obtain ⟨p1, p2, p3, p4, p5⟩ := hp
    refine ⟨p1, p2, p3, p4, p5, fun n h1 i1 hh => ?_⟩
    obtain ⟨r, hr, e1, e2, e3, e4, e5⟩ := kHand_some hh
    have := kPh_all r hr
    obtain ⟨r1, r2, r3, r4, r5⟩ := r
    cases e1
    cases e2
    cases e3
    cases e4
    cases e5
    exact this ins a b hf
