theorem dX10_pattern_55 : decode cX10_pattern 55 = .ok (.bipush 6, 2) := by decide +kernel
theorem dX10_pattern_57 : decode cX10_pattern 57 = .ok (.if_icmp .ne 9, 3) := by decide +kernel
theorem dX10_pattern_60 : decode cX10_pattern 60 = .ok (.aload_n 0, 1) := by decide +kernel
theorem dX10_pattern_61 : decode cX10_pattern 61 = .ok (.iconst 2, 1) := by decide +kernel
theorem dX10_pattern_62 : decode cX10_pattern 62 = .ok (.invokevirtual 113, 3) := by decide +kernel
theorem dX10_pattern_65 : decode cX10_pattern 65 = .ok (.ireturn, 1) := by decide +kernel
theorem dX10_pattern_66 : decode cX10_pattern 66 = .ok (.aload_n 0, 1) := by decide +kernel
theorem dX10_pattern_67 : decode cX10_pattern 67 = .ok (.getfield 19, 3) := by decide +kernel
theorem dX10_pattern_70 : decode cX10_pattern 70 = .ok (.iload_n 1, 1) := by decide +kernel
theorem dX10_pattern_71 : decode cX10_pattern 71 = .ok (.invokestatic 81, 3) := by decide +kernel
theorem dX10_pattern_74 : decode cX10_pattern 74 = .ok (.invokevirtual 60, 3) := by decide +kernel
theorem dX10_pattern_77 : decode cX10_pattern 77 = .ok (.pop, 1) := by decide +kernel
theorem dX10_pattern_78 : decode cX10_pattern 78 = .ok (.aload_n 0, 1) := by decide +kernel
theorem dX10_pattern_79 : decode cX10_pattern 79 = .ok (.getfield 19, 3) := by decide +kernel
theorem dX10_pattern_82 : decode cX10_pattern 82 = .ok (.invokevirtual 39, 3) := by decide +kernel
theorem dX10_pattern_85 : decode cX10_pattern 85 = .ok (.iconst 1, 1) := by decide +kernel
theorem dX10_pattern_86 : decode cX10_pattern 86 = .ok (.isub, 1) := by decide +kernel
theorem dX10_pattern_87 : decode cX10_pattern 87 = .ok (.ireturn, 1) := by decide +kernel
theorem dX10_isPattern_0 : decode cX10_isPattern 0 = .ok (.iload_n 1, 1) := by decide +kernel
theorem dX10_isPattern_1 : decode cX10_isPattern 1 = .ok (.iconst 0, 1) := by decide +kernel
theorem dX10_isPattern_2 : decode cX10_isPattern 2 = .ok (.aload_n 0, 1) := by decide +kernel
theorem dX10_isPattern_3 : decode cX10_isPattern 3 = .ok (.getfield 19, 3) := by decide +kernel
theorem dX10_isPattern_6 : decode cX10_isPattern 6 = .ok (.invokevirtual 39, 3) := by decide +kernel
theorem dX10_isPattern_9 : decode cX10_isPattern 9 = .ok (.iconst 1, 1) := by decide +kernel
theorem dX10_isPattern_10 : decode cX10_isPattern 10 = .ok (.isub, 1) := by decide +kernel
theorem dX10_isPattern_11 : decode cX10_isPattern 11 = .ok (.invokestatic 109, 3) := by decide +kernel
theorem dX10_isPattern_14 : decode cX10_isPattern 14 = .ok (.ireturn, 1) := by decide +kernel
theorem dX10_length_0 : decode cX10_length 0 = .ok (.iconst 0, 1) := by decide +kernel
theorem dX10_length_1 : decode cX10_length 1 = .ok (.istore_n 1, 1) := by decide +kernel
theorem dX10_length_2 : decode cX10_length 2 = .ok (.iload_n 0, 1) := by decide +kernel
theorem dX10_length_3 : decode cX10_length 3 = .ok (.istore_n 2, 1) := by decide +kernel
theorem dX10_length_4 : decode cX10_length 4 = .ok (.iload_n 2, 1) := by decide +kernel
theorem dX10_length_5 : decode cX10_length 5 = .ok (.ifCond .le 14, 3) := by decide +kernel
theorem dX10_length_8 : decode cX10_length 8 = .ok (.iinc 1 1, 3) := by decide +kernel
theorem dX10_length_11 : decode cX10_length 11 = .ok (.iload_n 2, 1) := by decide +kernel
theorem dX10_length_12 : decode cX10_length 12 = .ok (.bipush 10, 2) := by decide +kernel
theorem dX10_length_14 : decode cX10_length 14 = .ok (.idiv, 1) := by decide +kernel
theorem dX10_length_15 : decode cX10_length 15 = .ok (.istore_n 2, 1) := by decide +kernel
theorem dX10_length_16 : decode cX10_length 16 = .ok (.goto (-12), 3) := by decide +kernel
theorem dX10_length_19 : decode cX10_length 19 = .ok (.iload_n 1, 1) := by decide +kernel
theorem dX10_length_20 : decode cX10_length 20 = .ok (.ireturn, 1) := by decide +kernel
theorem dX10_step_0 : decode cX10_step 0 = .ok (.iload_n 0, 1) := by decide +kernel
theorem dX10_step_1 : decode cX10_step 1 = .ok (.istore_n 2, 1) := by decide +kernel
theorem dX10_step_2 : decode cX10_step 2 = .ok (.iload_n 0, 1) := by decide +kernel
theorem dX10_step_3 : decode cX10_step 3 = .ok (.invokestatic 188, 3) := by decide +kernel
theorem dX10_step_6 : decode cX10_step 6 = .ok (.iconst 1, 1) := by decide +kernel
theorem dX10_step_7 : decode cX10_step 7 = .ok (.isub, 1) := by decide +kernel
theorem dX10_step_8 : decode cX10_step 8 = .ok (.istore_n 3, 1) := by decide +kernel
theorem dX10_step_9 : decode cX10_step 9 = .ok (.iload_n 3, 1) := by decide +kernel
theorem dX10_step_10 : decode cX10_step 10 = .ok (.iload_n 1, 1) := by decide +kernel
theorem dX10_step_11 : decode cX10_step 11 = .ok (.if_icmp .le 14, 3) := by decide +kernel
theorem dX10_step_14 : decode cX10_step 14 = .ok (.iload_n 2, 1) := by decide +kernel
theorem dX10_step_15 : decode cX10_step 15 = .ok (.bipush 10, 2) := by decide +kernel
theorem dX10_step_17 : decode cX10_step 17 = .ok (.idiv, 1) := by decide +kernel
theorem dX10_step_18 : decode cX10_step 18 = .ok (.istore_n 2, 1) := by decide +kernel
theorem dX10_step_19 : decode cX10_step 19 = .ok (.iinc 3 (-1), 3) := by decide +kernel
theorem dX10_step_22 : decode cX10_step 22 = .ok (.goto (-13), 3) := by decide +kernel
theorem dX10_step_25 : decode cX10_step 25 = .ok (.iload_n 2, 1) := by decide +kernel
theorem dX10_step_26 : decode cX10_step 26 = .ok (.bipush 10, 2) := by decide +kernel
theorem dX10_step_28 : decode cX10_step 28 = .ok (.irem, 1) := by decide +kernel
theorem dX10_step_29 : decode cX10_step 29 = .ok (.ireturn, 1) := by decide +kernel
theorem dX10_eats_0 : decode cX10_eats 0 = .ok (.iload_n 0, 1) := by decide +kernel
theorem dX10_eats_1 : decode cX10_eats 1 = .ok (.iconst 3, 1) := by decide +kernel
theorem dX10_eats_2 : decode cX10_eats 2 = .ok (.if_icmp .eq 9, 3) := by decide +kernel
theorem dX10_eats_5 : decode cX10_eats 5 = .ok (.iload_n 0, 1) := by decide +kernel
theorem dX10_eats_6 : decode cX10_eats 6 = .ok (.bipush 7, 2) := by decide +kernel
theorem dX10_eats_8 : decode cX10_eats 8 = .ok (.if_icmp .ne 7, 3) := by decide +kernel
theorem dX10_eats_11 : decode cX10_eats 11 = .ok (.iconst 0, 1) := by decide +kernel
theorem dX10_eats_12 : decode cX10_eats 12 = .ok (.goto 34, 3) := by decide +kernel
theorem dX10_eats_15 : decode cX10_eats 15 = .ok (.iload_n 0, 1) := by decide +kernel
theorem dX10_eats_16 : decode cX10_eats 16 = .ok (.iconst 4, 1) := by decide +kernel
theorem dX10_eats_17 : decode cX10_eats 17 = .ok (.if_icmp .eq 14, 3) := by decide +kernel
theorem dX10_eats_20 : decode cX10_eats 20 = .ok (.iload_n 0, 1) := by decide +kernel
theorem dX10_eats_21 : decode cX10_eats 21 = .ok (.iconst 5, 1) := by decide +kernel
theorem dX10_eats_22 : decode cX10_eats 22 = .ok (.if_icmp .eq 9, 3) := by decide +kernel
theorem dX10_eats_25 : decode cX10_eats 25 = .ok (.iload_n 0, 1) := by decide +kernel
theorem dX10_eats_26 : decode cX10_eats 26 = .ok (.bipush 9, 2) := by decide +kernel
theorem dX10_eats_28 : decode cX10_eats 28 = .ok (.if_icmp .ne 7, 3) := by decide +kernel
theorem dX10_eats_31 : decode cX10_eats 31 = .ok (.iconst 2, 1) := by decide +kernel
theorem dX10_eats_32 : decode cX10_eats 32 = .ok (.goto 14, 3) := by decide +kernel
theorem dX10_eats_35 : decode cX10_eats 35 = .ok (.iload_n 0, 1) := by decide +kernel
theorem dX10_eats_36 : decode cX10_eats 36 = .ok (.bipush 8, 2) := by decide +kernel
theorem dX10_eats_38 : decode cX10_eats 38 = .ok (.if_icmp .ne 7, 3) := by decide +kernel
theorem dX10_eats_41 : decode cX10_eats 41 = .ok (.iconst 3, 1) := by decide +kernel
theorem dX10_eats_42 : decode cX10_eats 42 = .ok (.goto 4, 3) := by decide +kernel
theorem dX10_eats_45 : decode cX10_eats 45 = .ok (.iconst 1, 1) := by decide +kernel
theorem dX10_eats_46 : decode cX10_eats 46 = .ok (.ireturn, 1) := by decide +kernel
theorem dX10_makes_0 : decode cX10_makes 0 = .ok (.iload_n 0, 1) := by decide +kernel
theorem dX10_makes_1 : decode cX10_makes 1 = .ok (.bipush 7, 2) := by decide +kernel
theorem dX10_makes_3 : decode cX10_makes 3 = .ok (.if_icmp .ne 7, 3) := by decide +kernel
theorem dX10_makes_6 : decode cX10_makes 6 = .ok (.iconst 0, 1) := by decide +kernel
theorem dX10_makes_7 : decode cX10_makes 7 = .ok (.goto 14, 3) := by decide +kernel
theorem dX10_makes_10 : decode cX10_makes 10 = .ok (.iload_n 0, 1) := by decide +kernel
theorem dX10_makes_11 : decode cX10_makes 11 = .ok (.bipush 9, 2) := by decide +kernel
theorem dX10_makes_13 : decode cX10_makes 13 = .ok (.if_icmp .ne 7, 3) := by decide +kernel
theorem dX10_makes_16 : decode cX10_makes 16 = .ok (.iconst 3, 1) := by decide +kernel
theorem dX10_makes_17 : decode cX10_makes 17 = .ok (.goto 4, 3) := by decide +kernel
theorem dX10_makes_20 : decode cX10_makes 20 = .ok (.iconst 1, 1) := by decide +kernel
theorem dX10_makes_21 : decode cX10_makes 21 = .ok (.ireturn, 1) := by decide +kernel
theorem dX10_takes_0 : decode cX10_takes 0 = .ok (.iload_n 0, 1) := by decide +kernel
theorem dX10_takes_1 : decode cX10_takes 1 = .ok (.iconst 3, 1) := by decide +kernel
theorem dX10_takes_2 : decode cX10_takes 2 = .ok (.if_icmp .ge 7, 3) := by decide +kernel
theorem dX10_takes_5 : decode cX10_takes 5 = .ok (.iconst 4, 1) := by decide +kernel
theorem dX10_takes_6 : decode cX10_takes 6 = .ok (.goto 40, 3) := by decide +kernel
theorem dX10_takes_9 : decode cX10_takes 9 = .ok (.iload_n 0, 1) := by decide +kernel
theorem dX10_takes_10 : decode cX10_takes 10 = .ok (.iconst 3, 1) := by decide +kernel
theorem dX10_takes_11 : decode cX10_takes 11 = .ok (.if_icmp .ne 7, 3) := by decide +kernel
theorem dX10_takes_14 : decode cX10_takes 14 = .ok (.iconst 3, 1) := by decide +kernel
theorem dX10_takes_15 : decode cX10_takes 15 = .ok (.goto 31, 3) := by decide +kernel
theorem dX10_takes_18 : decode cX10_takes 18 = .ok (.iload_n 0, 1) := by decide +kernel
theorem dX10_takes_19 : decode cX10_takes 19 = .ok (.bipush 6, 2) := by decide +kernel
theorem dX10_takes_21 : decode cX10_takes 21 = .ok (.if_icmp .eq 9, 3) := by decide +kernel
theorem dX10_takes_24 : decode cX10_takes 24 = .ok (.iload_n 0, 1) := by decide +kernel
theorem dX10_takes_25 : decode cX10_takes 25 = .ok (.bipush 7, 2) := by decide +kernel
theorem dX10_takes_27 : decode cX10_takes 27 = .ok (.if_icmp .ne 7, 3) := by decide +kernel
theorem dX10_takes_30 : decode cX10_takes 30 = .ok (.iconst 0, 1) := by decide +kernel
theorem dX10_takes_31 : decode cX10_takes 31 = .ok (.goto 15, 3) := by decide +kernel
theorem dX10_takes_34 : decode cX10_takes 34 = .ok (.iload_n 0, 1) := by decide +kernel
theorem dX10_takes_35 : decode cX10_takes 35 = .ok (.bipush 9, 2) := by decide +kernel
theorem dX10_takes_37 : decode cX10_takes 37 = .ok (.if_icmp .ne 8, 3) := by decide +kernel
theorem dX10_takes_40 : decode cX10_takes 40 = .ok (.bipush 11, 2) := by decide +kernel
theorem dX10_takes_42 : decode cX10_takes 42 = .ok (.goto 4, 3) := by decide +kernel
theorem dX10_takes_45 : decode cX10_takes 45 = .ok (.iconst 5, 1) := by decide +kernel
theorem dX10_takes_46 : decode cX10_takes 46 = .ok (.ireturn, 1) := by decide +kernel
theorem dX10_can_0 : decode cX10_can 0 = .ok (.iload_n 0, 1) := by decide +kernel
theorem dX10_can_1 : decode cX10_can 1 = .ok (.invokestatic 191, 3) := by decide +kernel
theorem dX10_can_4 : decode cX10_can 4 = .ok (.istore 4, 2) := by decide +kernel
theorem dX10_can_6 : decode cX10_can 6 = .ok (.iload_n 1, 1) := by decide +kernel
theorem dX10_can_7 : decode cX10_can 7 = .ok (.iload_n 0, 1) := by decide +kernel
theorem dX10_can_8 : decode cX10_can 8 = .ok (.bipush 7, 2) := by decide +kernel
theorem dX10_can_10 : decode cX10_can 10 = .ok (.if_icmp .ne 7, 3) := by decide +kernel
theorem dX10_can_13 : decode cX10_can 13 = .ok (.iconst 2, 1) := by decide +kernel
theorem dX10_can_14 : decode cX10_can 14 = .ok (.goto 7, 3) := by decide +kernel
theorem dX10_can_17 : decode cX10_can 17 = .ok (.iload_n 0, 1) := by decide +kernel
theorem dX10_can_18 : decode cX10_can 18 = .ok (.invokestatic 194, 3) := by decide +kernel
theorem dX10_can_21 : decode cX10_can 21 = .ok (.if_icmp .lt 35, 3) := by decide +kernel
theorem dX10_can_24 : decode cX10_can 24 = .ok (.iload 4, 2) := by decide +kernel
theorem dX10_can_26 : decode cX10_can 26 = .ok (.ifCond .eq 9, 3) := by decide +kernel
theorem dX10_can_29 : decode cX10_can 29 = .ok (.iload_n 3, 1) := by decide +kernel
theorem dX10_can_30 : decode cX10_can 30 = .ok (.iload 4, 2) := by decide +kernel
theorem dX10_can_32 : decode cX10_can 32 = .ok (.if_icmp .lt 24, 3) := by decide +kernel
theorem dX10_can_35 : decode cX10_can 35 = .ok (.iload_n 0, 1) := by decide +kernel
theorem dX10_can_36 : decode cX10_can 36 = .ok (.iconst 3, 1) := by decide +kernel
theorem dX10_can_37 : decode cX10_can 37 = .ok (.if_icmp .eq 9, 3) := by decide +kernel
theorem dX10_can_40 : decode cX10_can 40 = .ok (.iload_n 0, 1) := by decide +kernel
theorem dX10_can_41 : decode cX10_can 41 = .ok (.bipush 9, 2) := by decide +kernel
theorem dX10_can_43 : decode cX10_can 43 = .ok (.if_icmp .ne 9, 3) := by decide +kernel
theorem dX10_can_46 : decode cX10_can 46 = .ok (.iload_n 2, 1) := by decide +kernel
theorem dX10_can_47 : decode cX10_can 47 = .ok (.bipush 24, 2) := by decide +kernel
theorem dX10_can_49 : decode cX10_can 49 = .ok (.if_icmp .ge 7, 3) := by decide +kernel
theorem dX10_can_52 : decode cX10_can 52 = .ok (.iconst 1, 1) := by decide +kernel
theorem dX10_can_53 : decode cX10_can 53 = .ok (.goto 4, 3) := by decide +kernel
theorem dX10_can_56 : decode cX10_can 56 = .ok (.iconst 0, 1) := by decide +kernel
theorem dX10_can_57 : decode cX10_can 57 = .ok (.ireturn, 1) := by decide +kernel
theorem dX10_doStep_0 : decode cX10_doStep 0 = .ok (.iload_n 1, 1) := by decide +kernel
theorem dX10_doStep_1 : decode cX10_doStep 1 = .ok (.tableswitch 120 1 8 #[47, 47, 65, 73, 73, 92, 100, 110], 47) := by decide +kernel
theorem dX10_doStep_48 : decode cX10_doStep 48 = .ok (.aload_n 0, 1) := by decide +kernel
theorem dX10_doStep_49 : decode cX10_doStep 49 = .ok (.iload_n 1, 1) := by decide +kernel
theorem dX10_doStep_50 : decode cX10_doStep 50 = .ok (.iconst 2, 1) := by decide +kernel
theorem dX10_doStep_51 : decode cX10_doStep 51 = .ok (.if_icmp .ne 7, 3) := by decide +kernel
theorem dX10_doStep_54 : decode cX10_doStep 54 = .ok (.iconst 1, 1) := by decide +kernel
theorem dX10_doStep_55 : decode cX10_doStep 55 = .ok (.goto 4, 3) := by decide +kernel
theorem dX10_doStep_58 : decode cX10_doStep 58 = .ok (.iconst 0, 1) := by decide +kernel
theorem dX10_doStep_59 : decode cX10_doStep 59 = .ok (.invokevirtual 148, 3) := by decide +kernel
theorem dX10_doStep_62 : decode cX10_doStep 62 = .ok (.pop, 1) := by decide +kernel
theorem dX10_doStep_63 : decode cX10_doStep 63 = .ok (.goto 75, 3) := by decide +kernel
theorem dX10_doStep_66 : decode cX10_doStep 66 = .ok (.aload_n 0, 1) := by decide +kernel
theorem dX10_doStep_67 : decode cX10_doStep 67 = .ok (.invokevirtual 155, 3) := by decide +kernel
theorem dX10_doStep_70 : decode cX10_doStep 70 = .ok (.pop, 1) := by decide +kernel
theorem dX10_doStep_71 : decode cX10_doStep 71 = .ok (.goto 67, 3) := by decide +kernel
theorem dX10_doStep_74 : decode cX10_doStep 74 = .ok (.aload_n 0, 1) := by decide +kernel
theorem dX10_doStep_75 : decode cX10_doStep 75 = .ok (.iconst 2, 1) := by decide +kernel
theorem dX10_doStep_76 : decode cX10_doStep 76 = .ok (.iload_n 1, 1) := by decide +kernel
theorem dX10_doStep_77 : decode cX10_doStep 77 = .ok (.iconst 5, 1) := by decide +kernel
theorem dX10_doStep_78 : decode cX10_doStep 78 = .ok (.if_icmp .ne 7, 3) := by decide +kernel
theorem dX10_doStep_81 : decode cX10_doStep 81 = .ok (.iconst 1, 1) := by decide +kernel
theorem dX10_doStep_82 : decode cX10_doStep 82 = .ok (.goto 4, 3) := by decide +kernel
theorem dX10_doStep_85 : decode cX10_doStep 85 = .ok (.iconst 0, 1) := by decide +kernel
theorem dX10_doStep_86 : decode cX10_doStep 86 = .ok (.invokevirtual 158, 3) := by decide +kernel
theorem dX10_doStep_89 : decode cX10_doStep 89 = .ok (.pop, 1) := by decide +kernel
theorem dX10_doStep_90 : decode cX10_doStep 90 = .ok (.goto 48, 3) := by decide +kernel
theorem dX10_doStep_93 : decode cX10_doStep 93 = .ok (.aload_n 0, 1) := by decide +kernel
theorem dX10_doStep_94 : decode cX10_doStep 94 = .ok (.invokevirtual 162, 3) := by decide +kernel
theorem dX10_doStep_97 : decode cX10_doStep 97 = .ok (.pop, 1) := by decide +kernel
theorem dX10_doStep_98 : decode cX10_doStep 98 = .ok (.goto 40, 3) := by decide +kernel
theorem dX10_doStep_101 : decode cX10_doStep 101 = .ok (.aload_n 0, 1) := by decide +kernel
theorem dX10_doStep_102 : decode cX10_doStep 102 = .ok (.iconst 1, 1) := by decide +kernel
theorem dX10_doStep_103 : decode cX10_doStep 103 = .ok (.iconst 1, 1) := by decide +kernel
theorem dX10_doStep_104 : decode cX10_doStep 104 = .ok (.invokevirtual 175, 3) := by decide +kernel
theorem dX10_doStep_107 : decode cX10_doStep 107 = .ok (.pop, 1) := by decide +kernel
theorem dX10_doStep_108 : decode cX10_doStep 108 = .ok (.goto 30, 3) := by decide +kernel
theorem dX10_doStep_111 : decode cX10_doStep 111 = .ok (.aload_n 0, 1) := by decide +kernel
theorem dX10_doStep_112 : decode cX10_doStep 112 = .ok (.iconst 3, 1) := by decide +kernel
theorem dX10_doStep_113 : decode cX10_doStep 113 = .ok (.iconst 0, 1) := by decide +kernel
theorem dX10_doStep_114 : decode cX10_doStep 114 = .ok (.invokevirtual 158, 3) := by decide +kernel
theorem dX10_doStep_117 : decode cX10_doStep 117 = .ok (.pop, 1) := by decide +kernel
theorem dX10_doStep_118 : decode cX10_doStep 118 = .ok (.goto 20, 3) := by decide +kernel
theorem dX10_doStep_121 : decode cX10_doStep 121 = .ok (.aload_n 0, 1) := by decide +kernel
theorem dX10_doStep_122 : decode cX10_doStep 122 = .ok (.iconst 0, 1) := by decide +kernel
theorem dX10_doStep_123 : decode cX10_doStep 123 = .ok (.invokevirtual 148, 3) := by decide +kernel
theorem dX10_doStep_126 : decode cX10_doStep 126 = .ok (.pop, 1) := by decide +kernel
theorem dX10_doStep_127 : decode cX10_doStep 127 = .ok (.aload_n 0, 1) := by decide +kernel
theorem dX10_doStep_128 : decode cX10_doStep 128 = .ok (.invokevirtual 155, 3) := by decide +kernel
theorem dX10_doStep_131 : decode cX10_doStep 131 = .ok (.pop, 1) := by decide +kernel
theorem dX10_doStep_132 : decode cX10_doStep 132 = .ok (.aload_n 0, 1) := by decide +kernel
theorem dX10_doStep_133 : decode cX10_doStep 133 = .ok (.iconst 0, 1) := by decide +kernel
theorem dX10_doStep_134 : decode cX10_doStep 134 = .ok (.invokevirtual 148, 3) := by decide +kernel
theorem dX10_doStep_137 : decode cX10_doStep 137 = .ok (.pop, 1) := by decide +kernel
theorem dX10_doStep_138 : decode cX10_doStep 138 = .ok (.return_, 1) := by decide +kernel
theorem dX10_follow_0 : decode cX10_follow 0 = .ok (.aload_n 0, 1) := by decide +kernel
theorem dX10_follow_1 : decode cX10_follow 1 = .ok (.iconst 0, 1) := by decide +kernel
theorem dX10_follow_2 : decode cX10_follow 2 = .ok (.putfield 36, 3) := by decide +kernel
theorem dX10_follow_5 : decode cX10_follow 5 = .ok (.aload_n 0, 1) := by decide +kernel
theorem dX10_follow_6 : decode cX10_follow 6 = .ok (.iload_n 1, 1) := by decide +kernel
theorem dX10_follow_7 : decode cX10_follow 7 = .ok (.invokevirtual 197, 3) := by decide +kernel
theorem dX10_follow_10 : decode cX10_follow 10 = .ok (.ifCond .ne 9, 3) := by decide +kernel
theorem dX10_follow_13 : decode cX10_follow 13 = .ok (.aload_n 0, 1) := by decide +kernel
theorem dX10_follow_14 : decode cX10_follow 14 = .ok (.iconst 1, 1) := by decide +kernel
theorem dX10_follow_15 : decode cX10_follow 15 = .ok (.invokevirtual 113, 3) := by decide +kernel
theorem dX10_follow_18 : decode cX10_follow 18 = .ok (.ireturn, 1) := by decide +kernel
theorem dX10_follow_19 : decode cX10_follow 19 = .ok (.aload_n 0, 1) := by decide +kernel
theorem dX10_follow_20 : decode cX10_follow 20 = .ok (.getfield 28, 3) := by decide +kernel
theorem dX10_follow_23 : decode cX10_follow 23 = .ok (.getfield 132, 3) := by decide +kernel
theorem dX10_follow_26 : decode cX10_follow 26 = .ok (.invokevirtual 145, 3) := by decide +kernel
theorem dX10_follow_29 : decode cX10_follow 29 = .ok (.ifCond .eq 9, 3) := by decide +kernel
theorem dX10_follow_32 : decode cX10_follow 32 = .ok (.aload_n 0, 1) := by decide +kernel
theorem dX10_follow_33 : decode cX10_follow 33 = .ok (.iconst 2, 1) := by decide +kernel
theorem dX10_follow_34 : decode cX10_follow 34 = .ok (.invokevirtual 113, 3) := by decide +kernel
theorem dX10_follow_37 : decode cX10_follow 37 = .ok (.ireturn, 1) := by decide +kernel
theorem dX10_follow_38 : decode cX10_follow 38 = .ok (.aload_n 0, 1) := by decide +kernel
theorem dX10_follow_39 : decode cX10_follow 39 = .ok (.invokevirtual 125, 3) := by decide +kernel
theorem dX10_follow_42 : decode cX10_follow 42 = .ok (.aload_n 0, 1) := by decide +kernel
theorem dX10_follow_43 : decode cX10_follow 43 = .ok (.getfield 19, 3) := by decide +kernel
theorem dX10_follow_46 : decode cX10_follow 46 = .ok (.iload_n 1, 1) := by decide +kernel
theorem dX10_follow_47 : decode cX10_follow 47 = .ok (.invokevirtual 139, 3) := by decide +kernel
theorem dX10_follow_50 : decode cX10_follow 50 = .ok (.checkcast 47, 3) := by decide +kernel
theorem dX10_follow_53 : decode cX10_follow 53 = .ok (.invokevirtual 49, 3) := by decide +kernel
theorem dX10_follow_56 : decode cX10_follow 56 = .ok (.istore_n 2, 1) := by decide +kernel
theorem dX10_follow_57 : decode cX10_follow 57 = .ok (.iconst 0, 1) := by decide +kernel
theorem dX10_follow_58 : decode cX10_follow 58 = .ok (.istore_n 3, 1) := by decide +kernel
theorem dX10_follow_59 : decode cX10_follow 59 = .ok (.iload_n 3, 1) := by decide +kernel
theorem dX10_follow_60 : decode cX10_follow 60 = .ok (.bipush 99, 2) := by decide +kernel
theorem dX10_follow_62 : decode cX10_follow 62 = .ok (.if_icmp .ge 72, 3) := by decide +kernel
theorem dX10_follow_65 : decode cX10_follow 65 = .ok (.aload_n 0, 1) := by decide +kernel
theorem dX10_follow_66 : decode cX10_follow 66 = .ok (.getfield 28, 3) := by decide +kernel
theorem dX10_follow_69 : decode cX10_follow 69 = .ok (.getfield 132, 3) := by decide +kernel
theorem dX10_follow_72 : decode cX10_follow 72 = .ok (.invokevirtual 145, 3) := by decide +kernel
theorem dX10_follow_75 : decode cX10_follow 75 = .ok (.ifCond .ne 59, 3) := by decide +kernel
theorem dX10_follow_78 : decode cX10_follow 78 = .ok (.iload_n 2, 1) := by decide +kernel
theorem dX10_follow_79 : decode cX10_follow 79 = .ok (.iload_n 3, 1) := by decide +kernel
theorem dX10_follow_80 : decode cX10_follow 80 = .ok (.iload_n 2, 1) := by decide +kernel
theorem dX10_follow_81 : decode cX10_follow 81 = .ok (.invokestatic 188, 3) := by decide +kernel
theorem dX10_follow_84 : decode cX10_follow 84 = .ok (.irem, 1) := by decide +kernel
theorem dX10_follow_85 : decode cX10_follow 85 = .ok (.invokestatic 200, 3) := by decide +kernel
theorem dX10_follow_88 : decode cX10_follow 88 = .ok (.istore 4, 2) := by decide +kernel
theorem dX10_follow_90 : decode cX10_follow 90 = .ok (.iload 4, 2) := by decide +kernel
theorem dX10_follow_92 : decode cX10_follow 92 = .ok (.aload_n 0, 1) := by decide +kernel
theorem dX10_follow_93 : decode cX10_follow 93 = .ok (.getfield 28, 3) := by decide +kernel
theorem dX10_follow_96 : decode cX10_follow 96 = .ok (.getfield 132, 3) := by decide +kernel
theorem dX10_follow_99 : decode cX10_follow 99 = .ok (.invokevirtual 39, 3) := by decide +kernel
theorem dX10_follow_102 : decode cX10_follow 102 = .ok (.aload_n 0, 1) := by decide +kernel
theorem dX10_follow_103 : decode cX10_follow 103 = .ok (.getfield 28, 3) := by decide +kernel
theorem dX10_follow_106 : decode cX10_follow 106 = .ok (.invokevirtual 122, 3) := by decide +kernel
theorem dX10_follow_109 : decode cX10_follow 109 = .ok (.aload_n 0, 1) := by decide +kernel
theorem dX10_follow_110 : decode cX10_follow 110 = .ok (.invokevirtual 120, 3) := by decide +kernel
theorem dX10_follow_113 : decode cX10_follow 113 = .ok (.invokestatic 203, 3) := by decide +kernel
theorem dX10_follow_116 : decode cX10_follow 116 = .ok (.ifCond .ne 6, 3) := by decide +kernel
theorem dX10_follow_119 : decode cX10_follow 119 = .ok (.goto 15, 3) := by decide +kernel
theorem dX10_follow_122 : decode cX10_follow 122 = .ok (.aload_n 0, 1) := by decide +kernel
theorem dX10_follow_123 : decode cX10_follow 123 = .ok (.iload 4, 2) := by decide +kernel
theorem dX10_follow_125 : decode cX10_follow 125 = .ok (.invokevirtual 207, 3) := by decide +kernel
theorem dX10_follow_128 : decode cX10_follow 128 = .ok (.iinc 3 1, 3) := by decide +kernel
theorem dX10_follow_131 : decode cX10_follow 131 = .ok (.goto (-72), 3) := by decide +kernel
theorem dX10_follow_134 : decode cX10_follow 134 = .ok (.iload_n 3, 1) := by decide +kernel
theorem dX10_follow_135 : decode cX10_follow 135 = .ok (.ireturn, 1) := by decide +kernel
theorem dX10_undo_0 : decode cX10_undo 0 = .ok (.aload_n 0, 1) := by decide +kernel
theorem dX10_undo_1 : decode cX10_undo 1 = .ok (.iconst 0, 1) := by decide +kernel
theorem dX10_undo_2 : decode cX10_undo 2 = .ok (.putfield 36, 3) := by decide +kernel
theorem dX10_undo_5 : decode cX10_undo 5 = .ok (.aload_n 0, 1) := by decide +kernel
theorem dX10_undo_6 : decode cX10_undo 6 = .ok (.getfield 22, 3) := by decide +kernel
theorem dX10_undo_9 : decode cX10_undo 9 = .ok (.invokevirtual 145, 3) := by decide +kernel
theorem dX10_undo_12 : decode cX10_undo 12 = .ok (.ifCond .eq 9, 3) := by decide +kernel
theorem dX10_undo_15 : decode cX10_undo 15 = .ok (.aload_n 0, 1) := by decide +kernel
theorem dX10_undo_16 : decode cX10_undo 16 = .ok (.iconst 1, 1) := by decide +kernel
theorem dX10_undo_17 : decode cX10_undo 17 = .ok (.invokevirtual 113, 3) := by decide +kernel
theorem dX10_undo_20 : decode cX10_undo 20 = .ok (.ireturn, 1) := by decide +kernel
theorem dX10_undo_21 : decode cX10_undo 21 = .ok (.aload_n 0, 1) := by decide +kernel
theorem dX10_undo_22 : decode cX10_undo 22 = .ok (.aload_n 0, 1) := by decide +kernel
theorem dX10_undo_23 : decode cX10_undo 23 = .ok (.getfield 22, 3) := by decide +kernel
theorem dX10_undo_26 : decode cX10_undo 26 = .ok (.aload_n 0, 1) := by decide +kernel
theorem dX10_undo_27 : decode cX10_undo 27 = .ok (.getfield 22, 3) := by decide +kernel
theorem dX10_undo_30 : decode cX10_undo 30 = .ok (.invokevirtual 39, 3) := by decide +kernel
theorem dX10_undo_33 : decode cX10_undo 33 = .ok (.iconst 1, 1) := by decide +kernel
theorem dX10_undo_34 : decode cX10_undo 34 = .ok (.isub, 1) := by decide +kernel
theorem dX10_undo_35 : decode cX10_undo 35 = .ok (.invokevirtual 43, 3) := by decide +kernel
theorem dX10_undo_38 : decode cX10_undo 38 = .ok (.checkcast 25, 3) := by decide +kernel
theorem dX10_undo_41 : decode cX10_undo 41 = .ok (.putfield 28, 3) := by decide +kernel
theorem dX10_undo_44 : decode cX10_undo 44 = .ok (.aload_n 0, 1) := by decide +kernel
theorem dX10_undo_45 : decode cX10_undo 45 = .ok (.getfield 10, 3) := by decide +kernel
theorem dX10_undo_48 : decode cX10_undo 48 = .ok (.invokevirtual 39, 3) := by decide +kernel
theorem dX10_undo_51 : decode cX10_undo 51 = .ok (.aload_n 0, 1) := by decide +kernel
theorem dX10_undo_52 : decode cX10_undo 52 = .ok (.getfield 28, 3) := by decide +kernel
theorem dX10_undo_55 : decode cX10_undo 55 = .ok (.getfield 78, 3) := by decide +kernel
theorem dX10_undo_58 : decode cX10_undo 58 = .ok (.if_icmp .le 23, 3) := by decide +kernel
theorem dX10_undo_61 : decode cX10_undo 61 = .ok (.aload_n 0, 1) := by decide +kernel
theorem dX10_undo_62 : decode cX10_undo 62 = .ok (.getfield 10, 3) := by decide +kernel
theorem dX10_undo_65 : decode cX10_undo 65 = .ok (.aload_n 0, 1) := by decide +kernel
theorem dX10_undo_66 : decode cX10_undo 66 = .ok (.getfield 10, 3) := by decide +kernel
theorem dX10_undo_69 : decode cX10_undo 69 = .ok (.invokevirtual 39, 3) := by decide +kernel
theorem dX10_undo_72 : decode cX10_undo 72 = .ok (.iconst 1, 1) := by decide +kernel
theorem dX10_undo_73 : decode cX10_undo 73 = .ok (.isub, 1) := by decide +kernel
theorem dX10_undo_74 : decode cX10_undo 74 = .ok (.invokevirtual 43, 3) := by decide +kernel
theorem dX10_undo_77 : decode cX10_undo 77 = .ok (.pop, 1) := by decide +kernel
theorem dX10_undo_78 : decode cX10_undo 78 = .ok (.goto (-34), 3) := by decide +kernel
theorem dX10_undo_81 : decode cX10_undo 81 = .ok (.aload_n 0, 1) := by decide +kernel
theorem dX10_undo_82 : decode cX10_undo 82 = .ok (.getfield 16, 3) := by decide +kernel
theorem dX10_undo_85 : decode cX10_undo 85 = .ok (.invokevirtual 39, 3) := by decide +kernel
theorem dX10_undo_88 : decode cX10_undo 88 = .ok (.aload_n 0, 1) := by decide +kernel
theorem dX10_undo_89 : decode cX10_undo 89 = .ok (.getfield 28, 3) := by decide +kernel
theorem dX10_undo_92 : decode cX10_undo 92 = .ok (.getfield 181, 3) := by decide +kernel
theorem dX10_undo_95 : decode cX10_undo 95 = .ok (.if_icmp .le 23, 3) := by decide +kernel
theorem dX10_undo_98 : decode cX10_undo 98 = .ok (.aload_n 0, 1) := by decide +kernel
theorem dX10_undo_99 : decode cX10_undo 99 = .ok (.getfield 16, 3) := by decide +kernel
theorem dX10_undo_102 : decode cX10_undo 102 = .ok (.aload_n 0, 1) := by decide +kernel
theorem dX10_undo_103 : decode cX10_undo 103 = .ok (.getfield 16, 3) := by decide +kernel
theorem dX10_undo_106 : decode cX10_undo 106 = .ok (.invokevirtual 39, 3) := by decide +kernel
theorem dX10_undo_109 : decode cX10_undo 109 = .ok (.iconst 1, 1) := by decide +kernel
theorem dX10_undo_110 : decode cX10_undo 110 = .ok (.isub, 1) := by decide +kernel
theorem dX10_undo_111 : decode cX10_undo 111 = .ok (.invokevirtual 43, 3) := by decide +kernel
theorem dX10_undo_114 : decode cX10_undo 114 = .ok (.pop, 1) := by decide +kernel
theorem dX10_undo_115 : decode cX10_undo 115 = .ok (.goto (-34), 3) := by decide +kernel
theorem dX10_undo_118 : decode cX10_undo 118 = .ok (.aload_n 0, 1) := by decide +kernel
theorem dX10_undo_119 : decode cX10_undo 119 = .ok (.getfield 22, 3) := by decide +kernel
theorem dX10_undo_122 : decode cX10_undo 122 = .ok (.invokevirtual 39, 3) := by decide +kernel
theorem dX10_undo_125 : decode cX10_undo 125 = .ok (.ireturn, 1) := by decide +kernel
theorem dX10_needle_0 : decode cX10_needle 0 = .ok (.iload_n 1, 1) := by decide +kernel
theorem dX10_needle_1 : decode cX10_needle 1 = .ok (.ifCond .eq 13, 3) := by decide +kernel
theorem dX10_needle_4 : decode cX10_needle 4 = .ok (.aload_n 0, 1) := by decide +kernel
theorem dX10_needle_5 : decode cX10_needle 5 = .ok (.getfield 28, 3) := by decide +kernel
theorem dX10_needle_8 : decode cX10_needle 8 = .ok (.getfield 75, 3) := by decide +kernel
theorem dX10_needle_11 : decode cX10_needle 11 = .ok (.goto 10, 3) := by decide +kernel
theorem dX10_needle_14 : decode cX10_needle 14 = .ok (.aload_n 0, 1) := by decide +kernel
theorem dX10_needle_15 : decode cX10_needle 15 = .ok (.getfield 28, 3) := by decide +kernel
theorem dX10_needle_18 : decode cX10_needle 18 = .ok (.getfield 132, 3) := by decide +kernel
theorem dX10_needle_21 : decode cX10_needle 21 = .ok (.areturn, 1) := by decide +kernel
theorem dX10_on_0 : decode cX10_on 0 = .ok (.aload_n 0, 1) := by decide +kernel
theorem dX10_on_1 : decode cX10_on 1 = .ok (.iconst 0, 1) := by decide +kernel
theorem dX10_on_2 : decode cX10_on 2 = .ok (.putfield 36, 3) := by decide +kernel
theorem dX10_on_5 : decode cX10_on 5 = .ok (.iload_n 2, 1) := by decide +kernel
theorem dX10_on_6 : decode cX10_on 6 = .ok (.iconst 0, 1) := by decide +kernel
theorem dX10_on_7 : decode cX10_on 7 = .ok (.bipush 23, 2) := by decide +kernel
theorem dX10_on_9 : decode cX10_on 9 = .ok (.invokestatic 109, 3) := by decide +kernel
theorem dX10_on_12 : decode cX10_on 12 = .ok (.ifCond .ne 9, 3) := by decide +kernel
theorem dX10_on_15 : decode cX10_on 15 = .ok (.aload_n 0, 1) := by decide +kernel
theorem dX10_on_16 : decode cX10_on 16 = .ok (.iconst 1, 1) := by decide +kernel
theorem dX10_on_17 : decode cX10_on 17 = .ok (.invokevirtual 113, 3) := by decide +kernel
theorem dX10_on_20 : decode cX10_on 20 = .ok (.ireturn, 1) := by decide +kernel
theorem dX10_on_21 : decode cX10_on 21 = .ok (.aload_n 0, 1) := by decide +kernel
theorem dX10_on_22 : decode cX10_on 22 = .ok (.iload_n 1, 1) := by decide +kernel
theorem dX10_on_23 : decode cX10_on 23 = .ok (.invokevirtual 211, 3) := by decide +kernel
theorem dX10_on_26 : decode cX10_on 26 = .ok (.astore_n 3, 1) := by decide +kernel
theorem dX10_on_27 : decode cX10_on 27 = .ok (.iload_n 2, 1) := by decide +kernel
theorem dX10_on_28 : decode cX10_on 28 = .ok (.aload_n 3, 1) := by decide +kernel
theorem dX10_on_29 : decode cX10_on 29 = .ok (.invokevirtual 39, 3) := by decide +kernel
theorem dX10_on_32 : decode cX10_on 32 = .ok (.if_icmp .ge 24, 3) := by decide +kernel
theorem dX10_on_35 : decode cX10_on 35 = .ok (.aload_n 3, 1) := by decide +kernel
theorem dX10_on_36 : decode cX10_on 36 = .ok (.aload_n 3, 1) := by decide +kernel
theorem dX10_on_37 : decode cX10_on 37 = .ok (.invokevirtual 39, 3) := by decide +kernel
theorem dX10_on_40 : decode cX10_on 40 = .ok (.iconst 1, 1) := by decide +kernel
theorem dX10_on_41 : decode cX10_on 41 = .ok (.isub, 1) := by decide +kernel
theorem dX10_on_42 : decode cX10_on 42 = .ok (.iload_n 2, 1) := by decide +kernel
theorem dX10_on_43 : decode cX10_on 43 = .ok (.isub, 1) := by decide +kernel
theorem dX10_on_44 : decode cX10_on 44 = .ok (.invokevirtual 139, 3) := by decide +kernel
theorem dX10_on_47 : decode cX10_on 47 = .ok (.checkcast 47, 3) := by decide +kernel
theorem dX10_on_50 : decode cX10_on 50 = .ok (.invokevirtual 49, 3) := by decide +kernel
theorem dX10_on_53 : decode cX10_on 53 = .ok (.goto 4, 3) := by decide +kernel
theorem dX10_on_56 : decode cX10_on 56 = .ok (.iconst (-1), 1) := by decide +kernel
theorem dX10_on_57 : decode cX10_on 57 = .ok (.ireturn, 1) := by decide +kernel
theorem dX10_has_0 : decode cX10_has 0 = .ok (.aload_n 0, 1) := by decide +kernel
theorem dX10_has_1 : decode cX10_has 1 = .ok (.invokevirtual 88, 3) := by decide +kernel
theorem dX10_has_4 : decode cX10_has 4 = .ok (.astore_n 2, 1) := by decide +kernel
theorem dX10_has_5 : decode cX10_has 5 = .ok (.aload_n 2, 1) := by decide +kernel
theorem dX10_has_6 : decode cX10_has 6 = .ok (.invokeinterface 92 1, 5) := by decide +kernel
theorem dX10_has_11 : decode cX10_has 11 = .ok (.ifCond .eq 26, 3) := by decide +kernel
theorem dX10_has_14 : decode cX10_has 14 = .ok (.aload_n 2, 1) := by decide +kernel
theorem dX10_has_15 : decode cX10_has 15 = .ok (.invokeinterface 98 1, 5) := by decide +kernel
theorem dX10_has_20 : decode cX10_has 20 = .ok (.checkcast 47, 3) := by decide +kernel
theorem dX10_has_23 : decode cX10_has 23 = .ok (.invokevirtual 49, 3) := by decide +kernel
theorem dX10_has_26 : decode cX10_has 26 = .ok (.istore_n 3, 1) := by decide +kernel
theorem dX10_has_27 : decode cX10_has 27 = .ok (.iload_n 3, 1) := by decide +kernel
theorem dX10_has_28 : decode cX10_has 28 = .ok (.iload_n 1, 1) := by decide +kernel
theorem dX10_has_29 : decode cX10_has 29 = .ok (.if_icmp .ne 5, 3) := by decide +kernel
theorem dX10_has_32 : decode cX10_has 32 = .ok (.iconst 1, 1) := by decide +kernel
theorem dX10_has_33 : decode cX10_has 33 = .ok (.ireturn, 1) := by decide +kernel
theorem dX10_has_34 : decode cX10_has 34 = .ok (.goto (-29), 3) := by decide +kernel
theorem dX10_has_37 : decode cX10_has 37 = .ok (.iconst 0, 1) := by decide +kernel
theorem dX10_has_38 : decode cX10_has 38 = .ok (.ireturn, 1) := by decide +kernel
theorem dX10_where_0 : decode cX10_where 0 = .ok (.aload_n 0, 1) := by decide +kernel
theorem dX10_where_1 : decode cX10_where 1 = .ok (.getfield 28, 3) := by decide +kernel
theorem dX10_where_4 : decode cX10_where 4 = .ok (.getfield 85, 3) := by decide +kernel
theorem dX10_where_7 : decode cX10_where 7 = .ok (.invokevirtual 88, 3) := by decide +kernel
theorem dX10_where_10 : decode cX10_where 10 = .ok (.astore_n 2, 1) := by decide +kernel
theorem dX10_where_11 : decode cX10_where 11 = .ok (.aload_n 2, 1) := by decide +kernel
theorem dX10_where_12 : decode cX10_where 12 = .ok (.invokeinterface 92 1, 5) := by decide +kernel
theorem dX10_where_17 : decode cX10_where 17 = .ok (.ifCond .eq 32, 3) := by decide +kernel
theorem dX10_where_20 : decode cX10_where 20 = .ok (.aload_n 2, 1) := by decide +kernel
theorem dX10_where_21 : decode cX10_where 21 = .ok (.invokeinterface 98 1, 5) := by decide +kernel
theorem dX10_where_26 : decode cX10_where 26 = .ok (.checkcast 102, 3) := by decide +kernel
theorem dX10_where_29 : decode cX10_where 29 = .ok (.astore_n 3, 1) := by decide +kernel
theorem dX10_where_30 : decode cX10_where 30 = .ok (.aload_n 3, 1) := by decide +kernel
theorem dX10_where_31 : decode cX10_where 31 = .ok (.iconst 0, 1) := by decide +kernel
theorem dX10_where_32 : decode cX10_where 32 = .ok (.iaload, 1) := by decide +kernel
theorem dX10_where_33 : decode cX10_where 33 = .ok (.iload_n 1, 1) := by decide +kernel
theorem dX10_where_34 : decode cX10_where 34 = .ok (.if_icmp .ne 12, 3) := by decide +kernel
theorem dX10_where_37 : decode cX10_where 37 = .ok (.aload_n 3, 1) := by decide +kernel
theorem dX10_where_38 : decode cX10_where 38 = .ok (.iconst 3, 1) := by decide +kernel
theorem dX10_where_39 : decode cX10_where 39 = .ok (.iaload, 1) := by decide +kernel
theorem dX10_where_40 : decode cX10_where 40 = .ok (.iconst 1, 1) := by decide +kernel
theorem dX10_where_41 : decode cX10_where 41 = .ok (.if_icmp .ne 5, 3) := by decide +kernel
theorem dX10_where_44 : decode cX10_where 44 = .ok (.iconst 4, 1) := by decide +kernel
theorem dX10_where_45 : decode cX10_where 45 = .ok (.ireturn, 1) := by decide +kernel
theorem dX10_where_46 : decode cX10_where 46 = .ok (.goto (-35), 3) := by decide +kernel
theorem dX10_where_49 : decode cX10_where 49 = .ok (.aload_n 0, 1) := by decide +kernel
theorem dX10_where_50 : decode cX10_where 50 = .ok (.getfield 28, 3) := by decide +kernel
theorem dX10_where_53 : decode cX10_where 53 = .ok (.getfield 132, 3) := by decide +kernel
theorem dX10_where_56 : decode cX10_where 56 = .ok (.iload_n 1, 1) := by decide +kernel
theorem dX10_where_57 : decode cX10_where 57 = .ok (.invokestatic 215, 3) := by decide +kernel
theorem dX10_where_60 : decode cX10_where 60 = .ok (.ifCond .eq 7, 3) := by decide +kernel
theorem dX10_where_63 : decode cX10_where 63 = .ok (.iconst 0, 1) := by decide +kernel
theorem dX10_where_64 : decode cX10_where 64 = .ok (.goto 37, 3) := by decide +kernel
theorem dX10_where_67 : decode cX10_where 67 = .ok (.aload_n 0, 1) := by decide +kernel
theorem dX10_where_68 : decode cX10_where 68 = .ok (.getfield 28, 3) := by decide +kernel
theorem dX10_where_71 : decode cX10_where 71 = .ok (.getfield 75, 3) := by decide +kernel
theorem dX10_where_74 : decode cX10_where 74 = .ok (.iload_n 1, 1) := by decide +kernel
theorem dX10_where_75 : decode cX10_where 75 = .ok (.invokestatic 215, 3) := by decide +kernel
theorem dX10_where_78 : decode cX10_where 78 = .ok (.ifCond .eq 7, 3) := by decide +kernel
theorem dX10_where_81 : decode cX10_where 81 = .ok (.iconst 1, 1) := by decide +kernel
theorem dX10_where_82 : decode cX10_where 82 = .ok (.goto 19, 3) := by decide +kernel
theorem dX10_where_85 : decode cX10_where 85 = .ok (.aload_n 0, 1) := by decide +kernel
theorem dX10_where_86 : decode cX10_where 86 = .ok (.getfield 16, 3) := by decide +kernel
theorem dX10_where_89 : decode cX10_where 89 = .ok (.iload_n 1, 1) := by decide +kernel
theorem dX10_where_90 : decode cX10_where 90 = .ok (.invokestatic 215, 3) := by decide +kernel
theorem dX10_where_93 : decode cX10_where 93 = .ok (.ifCond .eq 7, 3) := by decide +kernel
theorem dX10_where_96 : decode cX10_where 96 = .ok (.iconst 3, 1) := by decide +kernel
theorem dX10_where_97 : decode cX10_where 97 = .ok (.goto 4, 3) := by decide +kernel
theorem dX10_where_100 : decode cX10_where 100 = .ok (.iconst 2, 1) := by decide +kernel
theorem dX10_where_101 : decode cX10_where 101 = .ok (.ireturn, 1) := by decide +kernel
theorem dX10_ofLoopNow_0 : decode cX10_ofLoopNow 0 = .ok (.aload_n 0, 1) := by decide +kernel
theorem dX10_ofLoopNow_1 : decode cX10_ofLoopNow 1 = .ok (.getfield 10, 3) := by decide +kernel
theorem dX10_ofLoopNow_4 : decode cX10_ofLoopNow 4 = .ok (.iload_n 1, 1) := by decide +kernel
theorem dX10_ofLoopNow_5 : decode cX10_ofLoopNow 5 = .ok (.invokevirtual 139, 3) := by decide +kernel
theorem dX10_ofLoopNow_8 : decode cX10_ofLoopNow 8 = .ok (.checkcast 64, 3) := by decide +kernel
theorem dX10_ofLoopNow_11 : decode cX10_ofLoopNow 11 = .ok (.astore_n 3, 1) := by decide +kernel
theorem dX10_ofLoopNow_12 : decode cX10_ofLoopNow 12 = .ok (.bipush 6, 2) := by decide +kernel
theorem dX10_ofLoopNow_14 : decode cX10_ofLoopNow 14 = .ok (.newarray .int, 2) := by decide +kernel
theorem dX10_ofLoopNow_16 : decode cX10_ofLoopNow 16 = .ok (.dup, 1) := by decide +kernel
theorem dX10_ofLoopNow_17 : decode cX10_ofLoopNow 17 = .ok (.iconst 0, 1) := by decide +kernel
theorem dX10_ofLoopNow_18 : decode cX10_ofLoopNow 18 = .ok (.aload_n 3, 1) := by decide +kernel
theorem dX10_ofLoopNow_19 : decode cX10_ofLoopNow 19 = .ok (.getfield 219, 3) := by decide +kernel
theorem dX10_ofLoopNow_22 : decode cX10_ofLoopNow 22 = .ok (.iastore, 1) := by decide +kernel
theorem dX10_ofLoopNow_23 : decode cX10_ofLoopNow 23 = .ok (.dup, 1) := by decide +kernel
theorem dX10_ofLoopNow_24 : decode cX10_ofLoopNow 24 = .ok (.iconst 1, 1) := by decide +kernel
theorem dX10_ofLoopNow_25 : decode cX10_ofLoopNow 25 = .ok (.aload_n 3, 1) := by decide +kernel
theorem dX10_ofLoopNow_26 : decode cX10_ofLoopNow 26 = .ok (.getfield 222, 3) := by decide +kernel
theorem dX10_ofLoopNow_29 : decode cX10_ofLoopNow 29 = .ok (.iastore, 1) := by decide +kernel
theorem dX10_ofLoopNow_30 : decode cX10_ofLoopNow 30 = .ok (.dup, 1) := by decide +kernel
theorem dX10_ofLoopNow_31 : decode cX10_ofLoopNow 31 = .ok (.iconst 2, 1) := by decide +kernel
theorem dX10_ofLoopNow_32 : decode cX10_ofLoopNow 32 = .ok (.aload_n 3, 1) := by decide +kernel
theorem dX10_ofLoopNow_33 : decode cX10_ofLoopNow 33 = .ok (.getfield 225, 3) := by decide +kernel
theorem dX10_ofLoopNow_36 : decode cX10_ofLoopNow 36 = .ok (.iastore, 1) := by decide +kernel
theorem dX10_ofLoopNow_37 : decode cX10_ofLoopNow 37 = .ok (.dup, 1) := by decide +kernel
theorem dX10_ofLoopNow_38 : decode cX10_ofLoopNow 38 = .ok (.iconst 3, 1) := by decide +kernel
theorem dX10_ofLoopNow_39 : decode cX10_ofLoopNow 39 = .ok (.aload_n 3, 1) := by decide +kernel
theorem dX10_ofLoopNow_40 : decode cX10_ofLoopNow 40 = .ok (.getfield 142, 3) := by decide +kernel
theorem dX10_ofLoopNow_43 : decode cX10_ofLoopNow 43 = .ok (.iastore, 1) := by decide +kernel
theorem dX10_ofLoopNow_44 : decode cX10_ofLoopNow 44 = .ok (.dup, 1) := by decide +kernel
theorem dX10_ofLoopNow_45 : decode cX10_ofLoopNow 45 = .ok (.iconst 4, 1) := by decide +kernel
theorem dX10_ofLoopNow_46 : decode cX10_ofLoopNow 46 = .ok (.aload_n 3, 1) := by decide +kernel
theorem dX10_ofLoopNow_47 : decode cX10_ofLoopNow 47 = .ok (.getfield 226, 3) := by decide +kernel
theorem dX10_ofLoopNow_50 : decode cX10_ofLoopNow 50 = .ok (.iastore, 1) := by decide +kernel
theorem dX10_ofLoopNow_51 : decode cX10_ofLoopNow 51 = .ok (.dup, 1) := by decide +kernel
theorem dX10_ofLoopNow_52 : decode cX10_ofLoopNow 52 = .ok (.iconst 5, 1) := by decide +kernel
theorem dX10_ofLoopNow_53 : decode cX10_ofLoopNow 53 = .ok (.aload_n 0, 1) := by decide +kernel
theorem dX10_ofLoopNow_54 : decode cX10_ofLoopNow 54 = .ok (.iload_n 1, 1) := by decide +kernel
theorem dX10_ofLoopNow_55 : decode cX10_ofLoopNow 55 = .ok (.invokevirtual 229, 3) := by decide +kernel
theorem dX10_ofLoopNow_58 : decode cX10_ofLoopNow 58 = .ok (.iastore, 1) := by decide +kernel
theorem dX10_ofLoopNow_59 : decode cX10_ofLoopNow 59 = .ok (.astore 4, 2) := by decide +kernel
theorem dX10_ofLoopNow_61 : decode cX10_ofLoopNow 61 = .ok (.aload 4, 2) := by decide +kernel
theorem dX10_ofLoopNow_63 : decode cX10_ofLoopNow 63 = .ok (.iload_n 2, 1) := by decide +kernel
theorem dX10_ofLoopNow_64 : decode cX10_ofLoopNow 64 = .ok (.iaload, 1) := by decide +kernel
theorem dX10_ofLoopNow_65 : decode cX10_ofLoopNow 65 = .ok (.ireturn, 1) := by decide +kernel
theorem dX10_ofLoop_0 : decode cX10_ofLoop 0 = .ok (.aload_n 0, 1) := by decide +kernel
theorem dX10_ofLoop_1 : decode cX10_ofLoop 1 = .ok (.iconst 0, 1) := by decide +kernel
theorem dX10_ofLoop_2 : decode cX10_ofLoop 2 = .ok (.putfield 36, 3) := by decide +kernel
theorem dX10_ofLoop_5 : decode cX10_ofLoop 5 = .ok (.iload_n 1, 1) := by decide +kernel
theorem dX10_ofLoop_6 : decode cX10_ofLoop 6 = .ok (.iconst 0, 1) := by decide +kernel
theorem dX10_ofLoop_7 : decode cX10_ofLoop 7 = .ok (.aload_n 0, 1) := by decide +kernel
theorem dX10_ofLoop_8 : decode cX10_ofLoop 8 = .ok (.getfield 10, 3) := by decide +kernel
theorem dX10_ofLoop_11 : decode cX10_ofLoop 11 = .ok (.invokevirtual 39, 3) := by decide +kernel
theorem dX10_ofLoop_14 : decode cX10_ofLoop 14 = .ok (.iconst 1, 1) := by decide +kernel
theorem dX10_ofLoop_15 : decode cX10_ofLoop 15 = .ok (.isub, 1) := by decide +kernel
theorem dX10_ofLoop_16 : decode cX10_ofLoop 16 = .ok (.invokestatic 109, 3) := by decide +kernel
theorem dX10_ofLoop_19 : decode cX10_ofLoop 19 = .ok (.ifCond .ne 9, 3) := by decide +kernel
theorem dX10_ofLoop_22 : decode cX10_ofLoop 22 = .ok (.aload_n 0, 1) := by decide +kernel
theorem dX10_ofLoop_23 : decode cX10_ofLoop 23 = .ok (.iconst 1, 1) := by decide +kernel
theorem dX10_ofLoop_24 : decode cX10_ofLoop 24 = .ok (.invokevirtual 113, 3) := by decide +kernel
theorem dX10_ofLoop_27 : decode cX10_ofLoop 27 = .ok (.ireturn, 1) := by decide +kernel
theorem dX10_ofLoop_28 : decode cX10_ofLoop 28 = .ok (.iload_n 2, 1) := by decide +kernel
theorem dX10_ofLoop_29 : decode cX10_ofLoop 29 = .ok (.iconst 0, 1) := by decide +kernel
theorem dX10_ofLoop_30 : decode cX10_ofLoop 30 = .ok (.iconst 5, 1) := by decide +kernel
theorem dX10_ofLoop_31 : decode cX10_ofLoop 31 = .ok (.invokestatic 109, 3) := by decide +kernel
theorem dX10_ofLoop_34 : decode cX10_ofLoop 34 = .ok (.ifCond .eq 12, 3) := by decide +kernel
theorem dX10_ofLoop_37 : decode cX10_ofLoop 37 = .ok (.aload_n 0, 1) := by decide +kernel
theorem dX10_ofLoop_38 : decode cX10_ofLoop 38 = .ok (.iload_n 1, 1) := by decide +kernel
theorem dX10_ofLoop_39 : decode cX10_ofLoop 39 = .ok (.iload_n 2, 1) := by decide +kernel
theorem dX10_ofLoop_40 : decode cX10_ofLoop 40 = .ok (.invokevirtual 232, 3) := by decide +kernel
theorem dX10_ofLoop_43 : decode cX10_ofLoop 43 = .ok (.goto 8, 3) := by decide +kernel
theorem dX10_ofLoop_46 : decode cX10_ofLoop 46 = .ok (.aload_n 0, 1) := by decide +kernel
theorem dX10_ofLoop_47 : decode cX10_ofLoop 47 = .ok (.iconst 2, 1) := by decide +kernel
theorem dX10_ofLoop_48 : decode cX10_ofLoop 48 = .ok (.invokevirtual 113, 3) := by decide +kernel
theorem dX10_ofLoop_51 : decode cX10_ofLoop 51 = .ok (.ireturn, 1) := by decide +kernel
theorem dX10_ofRun_0 : decode cX10_ofRun 0 = .ok (.aload_n 0, 1) := by decide +kernel
theorem dX10_ofRun_1 : decode cX10_ofRun 1 = .ok (.iconst 0, 1) := by decide +kernel
theorem dX10_ofRun_2 : decode cX10_ofRun 2 = .ok (.putfield 36, 3) := by decide +kernel
theorem dX10_ofRun_5 : decode cX10_ofRun 5 = .ok (.aload_n 0, 1) := by decide +kernel
theorem dX10_ofRun_6 : decode cX10_ofRun 6 = .ok (.iload_n 1, 1) := by decide +kernel
theorem dX10_ofRun_7 : decode cX10_ofRun 7 = .ok (.invokevirtual 183, 3) := by decide +kernel
theorem dX10_ofRun_10 : decode cX10_ofRun 10 = .ok (.ifCond .ne 9, 3) := by decide +kernel
theorem dX10_ofRun_13 : decode cX10_ofRun 13 = .ok (.aload_n 0, 1) := by decide +kernel
theorem dX10_ofRun_14 : decode cX10_ofRun 14 = .ok (.iconst 1, 1) := by decide +kernel
theorem dX10_ofRun_15 : decode cX10_ofRun 15 = .ok (.invokevirtual 113, 3) := by decide +kernel
theorem dX10_ofRun_18 : decode cX10_ofRun 18 = .ok (.ireturn, 1) := by decide +kernel
theorem dX10_ofRun_19 : decode cX10_ofRun 19 = .ok (.iload_n 2, 1) := by decide +kernel
theorem dX10_ofRun_20 : decode cX10_ofRun 20 = .ok (.iconst 0, 1) := by decide +kernel
theorem dX10_ofRun_21 : decode cX10_ofRun 21 = .ok (.iconst 3, 1) := by decide +kernel
theorem dX10_ofRun_22 : decode cX10_ofRun 22 = .ok (.invokestatic 109, 3) := by decide +kernel
theorem dX10_ofRun_25 : decode cX10_ofRun 25 = .ok (.ifCond .eq 22, 3) := by decide +kernel
theorem dX10_ofRun_28 : decode cX10_ofRun 28 = .ok (.aload_n 0, 1) := by decide +kernel
theorem dX10_ofRun_29 : decode cX10_ofRun 29 = .ok (.getfield 28, 3) := by decide +kernel
theorem dX10_ofRun_32 : decode cX10_ofRun 32 = .ok (.getfield 85, 3) := by decide +kernel
theorem dX10_ofRun_35 : decode cX10_ofRun 35 = .ok (.iload_n 1, 1) := by decide +kernel
theorem dX10_ofRun_36 : decode cX10_ofRun 36 = .ok (.invokevirtual 139, 3) := by decide +kernel
theorem dX10_ofRun_39 : decode cX10_ofRun 39 = .ok (.checkcast 102, 3) := by decide +kernel
theorem dX10_ofRun_42 : decode cX10_ofRun 42 = .ok (.iload_n 2, 1) := by decide +kernel
theorem dX10_ofRun_43 : decode cX10_ofRun 43 = .ok (.iaload, 1) := by decide +kernel
theorem dX10_ofRun_44 : decode cX10_ofRun 44 = .ok (.goto 8, 3) := by decide +kernel
theorem dX10_ofRun_47 : decode cX10_ofRun 47 = .ok (.aload_n 0, 1) := by decide +kernel
theorem dX10_ofRun_48 : decode cX10_ofRun 48 = .ok (.iconst 2, 1) := by decide +kernel
theorem dX10_ofRun_49 : decode cX10_ofRun 49 = .ok (.invokevirtual 113, 3) := by decide +kernel
theorem dX10_ofRun_52 : decode cX10_ofRun 52 = .ok (.ireturn, 1) := by decide +kernel
theorem dX10_sign_0 : decode cX10_sign 0 = .ok (.aload_n 1, 1) := by decide +kernel
theorem dX10_sign_1 : decode cX10_sign 1 = .ok (.getfield 235, 3) := by decide +kernel
theorem dX10_sign_4 : decode cX10_sign 4 = .ok (.aload_n 0, 1) := by decide +kernel
theorem dX10_sign_5 : decode cX10_sign 5 = .ok (.getfield 28, 3) := by decide +kernel
theorem dX10_sign_8 : decode cX10_sign 8 = .ok (.getfield 69, 3) := by decide +kernel
theorem dX10_sign_11 : decode cX10_sign 11 = .ok (.if_icmp .ne 7, 3) := by decide +kernel
theorem dX10_sign_14 : decode cX10_sign 14 = .ok (.iconst 1, 1) := by decide +kernel
theorem dX10_sign_15 : decode cX10_sign 15 = .ok (.goto 4, 3) := by decide +kernel
theorem dX10_sign_18 : decode cX10_sign 18 = .ok (.iconst 0, 1) := by decide +kernel
theorem dX10_sign_19 : decode cX10_sign 19 = .ok (.istore_n 2, 1) := by decide +kernel
theorem dX10_sign_20 : decode cX10_sign 20 = .ok (.aload_n 1, 1) := by decide +kernel
theorem dX10_sign_21 : decode cX10_sign 21 = .ok (.getfield 219, 3) := by decide +kernel
theorem dX10_sign_24 : decode cX10_sign 24 = .ok (.iconst 3, 1) := by decide +kernel
theorem dX10_sign_25 : decode cX10_sign 25 = .ok (.if_icmp .ne 6, 3) := by decide +kernel
theorem dX10_sign_28 : decode cX10_sign 28 = .ok (.bipush 111, 2) := by decide +kernel
theorem dX10_sign_30 : decode cX10_sign 30 = .ok (.ireturn, 1) := by decide +kernel
theorem dX10_sign_31 : decode cX10_sign 31 = .ok (.aload_n 1, 1) := by decide +kernel
theorem dX10_sign_32 : decode cX10_sign 32 = .ok (.getfield 219, 3) := by decide +kernel
theorem dX10_sign_35 : decode cX10_sign 35 = .ok (.iconst 4, 1) := by decide +kernel
theorem dX10_sign_36 : decode cX10_sign 36 = .ok (.if_icmp .ne 15, 3) := by decide +kernel
theorem dX10_sign_39 : decode cX10_sign 39 = .ok (.iload_n 2, 1) := by decide +kernel
theorem dX10_sign_40 : decode cX10_sign 40 = .ok (.ifCond .eq 8, 3) := by decide +kernel
theorem dX10_sign_43 : decode cX10_sign 43 = .ok (.bipush 60, 2) := by decide +kernel
theorem dX10_sign_45 : decode cX10_sign 45 = .ok (.goto 5, 3) := by decide +kernel
theorem dX10_sign_48 : decode cX10_sign 48 = .ok (.bipush 62, 2) := by decide +kernel
theorem dX10_sign_50 : decode cX10_sign 50 = .ok (.ireturn, 1) := by decide +kernel
theorem dX10_sign_51 : decode cX10_sign 51 = .ok (.aload_n 1, 1) := by decide +kernel
theorem dX10_sign_52 : decode cX10_sign 52 = .ok (.getfield 219, 3) := by decide +kernel
theorem dX10_sign_55 : decode cX10_sign 55 = .ok (.iconst 5, 1) := by decide +kernel
theorem dX10_sign_56 : decode cX10_sign 56 = .ok (.if_icmp .ne 15, 3) := by decide +kernel
theorem dX10_sign_59 : decode cX10_sign 59 = .ok (.iload_n 2, 1) := by decide +kernel
theorem dX10_sign_60 : decode cX10_sign 60 = .ok (.ifCond .eq 8, 3) := by decide +kernel
theorem dX10_sign_63 : decode cX10_sign 63 = .ok (.bipush 62, 2) := by decide +kernel
theorem dX10_sign_65 : decode cX10_sign 65 = .ok (.goto 5, 3) := by decide +kernel
theorem dX10_sign_68 : decode cX10_sign 68 = .ok (.bipush 60, 2) := by decide +kernel
theorem dX10_sign_70 : decode cX10_sign 70 = .ok (.ireturn, 1) := by decide +kernel
theorem dX10_sign_71 : decode cX10_sign 71 = .ok (.aload_n 1, 1) := by decide +kernel
theorem dX10_sign_72 : decode cX10_sign 72 = .ok (.aload_n 0, 1) := by decide +kernel
theorem dX10_sign_73 : decode cX10_sign 73 = .ok (.getfield 28, 3) := by decide +kernel
theorem dX10_sign_76 : decode cX10_sign 76 = .ok (.getfield 69, 3) := by decide +kernel
theorem dX10_sign_79 : decode cX10_sign 79 = .ok (.invokevirtual 236, 3) := by decide +kernel
theorem dX10_sign_82 : decode cX10_sign 82 = .ok (.ifCond .eq 8, 3) := by decide +kernel
theorem dX10_sign_85 : decode cX10_sign 85 = .ok (.bipush 118, 2) := by decide +kernel
theorem dX10_sign_87 : decode cX10_sign 87 = .ok (.goto 5, 3) := by decide +kernel
theorem dX10_sign_90 : decode cX10_sign 90 = .ok (.bipush 45, 2) := by decide +kernel
theorem dX10_sign_92 : decode cX10_sign 92 = .ok (.ireturn, 1) := by decide +kernel
theorem dX10_seen_0 : decode cX10_seen 0 = .ok (.aload_n 0, 1) := by decide +kernel
theorem dX10_seen_1 : decode cX10_seen 1 = .ok (.iconst 0, 1) := by decide +kernel
theorem dX10_seen_2 : decode cX10_seen 2 = .ok (.putfield 36, 3) := by decide +kernel
theorem dX10_seen_5 : decode cX10_seen 5 = .ok (.aload_n 0, 1) := by decide +kernel
theorem dX10_seen_6 : decode cX10_seen 6 = .ok (.iload_n 1, 1) := by decide +kernel
theorem dX10_seen_7 : decode cX10_seen 7 = .ok (.invokevirtual 211, 3) := by decide +kernel
theorem dX10_seen_10 : decode cX10_seen 10 = .ok (.astore_n 2, 1) := by decide +kernel
theorem dX10_seen_11 : decode cX10_seen 11 = .ok (.new 239, 3) := by decide +kernel
theorem dX10_seen_14 : decode cX10_seen 14 = .ok (.dup, 1) := by decide +kernel
theorem dX10_seen_15 : decode cX10_seen 15 = .ok (.invokespecial 241, 3) := by decide +kernel
theorem dX10_seen_18 : decode cX10_seen 18 = .ok (.astore_n 3, 1) := by decide +kernel
theorem dX10_seen_19 : decode cX10_seen 19 = .ok (.aload_n 2, 1) := by decide +kernel
theorem dX10_seen_20 : decode cX10_seen 20 = .ok (.invokevirtual 39, 3) := by decide +kernel
theorem dX10_seen_23 : decode cX10_seen 23 = .ok (.iconst 1, 1) := by decide +kernel
theorem dX10_seen_24 : decode cX10_seen 24 = .ok (.isub, 1) := by decide +kernel
theorem dX10_seen_25 : decode cX10_seen 25 = .ok (.istore 4, 2) := by decide +kernel
theorem dX10_seen_27 : decode cX10_seen 27 = .ok (.iload 4, 2) := by decide +kernel
theorem dX10_seen_29 : decode cX10_seen 29 = .ok (.ifCond .lt 40, 3) := by decide +kernel
theorem dX10_seen_32 : decode cX10_seen 32 = .ok (.aload_n 3, 1) := by decide +kernel
theorem dX10_seen_33 : decode cX10_seen 33 = .ok (.aload_n 0, 1) := by decide +kernel
theorem dX10_seen_34 : decode cX10_seen 34 = .ok (.aload_n 0, 1) := by decide +kernel
theorem dX10_seen_35 : decode cX10_seen 35 = .ok (.getfield 10, 3) := by decide +kernel
theorem dX10_seen_38 : decode cX10_seen 38 = .ok (.aload_n 2, 1) := by decide +kernel
theorem dX10_seen_39 : decode cX10_seen 39 = .ok (.iload 4, 2) := by decide +kernel
theorem dX10_seen_41 : decode cX10_seen 41 = .ok (.invokevirtual 139, 3) := by decide +kernel
theorem dX10_seen_44 : decode cX10_seen 44 = .ok (.checkcast 47, 3) := by decide +kernel
theorem dX10_seen_47 : decode cX10_seen 47 = .ok (.invokevirtual 49, 3) := by decide +kernel
theorem dX10_seen_50 : decode cX10_seen 50 = .ok (.invokevirtual 139, 3) := by decide +kernel
theorem dX10_seen_53 : decode cX10_seen 53 = .ok (.checkcast 64, 3) := by decide +kernel
theorem dX10_seen_56 : decode cX10_seen 56 = .ok (.invokevirtual 242, 3) := by decide +kernel
theorem dX10_seen_59 : decode cX10_seen 59 = .ok (.invokevirtual 246, 3) := by decide +kernel
theorem dX10_seen_62 : decode cX10_seen 62 = .ok (.pop, 1) := by decide +kernel
theorem dX10_seen_63 : decode cX10_seen 63 = .ok (.iinc 4 (-1), 3) := by decide +kernel
theorem dX10_seen_66 : decode cX10_seen 66 = .ok (.goto (-39), 3) := by decide +kernel
theorem dX10_seen_69 : decode cX10_seen 69 = .ok (.aload_n 3, 1) := by decide +kernel
theorem dX10_seen_70 : decode cX10_seen 70 = .ok (.invokevirtual 250, 3) := by decide +kernel
theorem dX10_seen_73 : decode cX10_seen 73 = .ok (.areturn, 1) := by decide +kernel
theorem dX10_widthNow_0 : decode cX10_widthNow 0 = .ok (.aload_n 0, 1) := by decide +kernel
theorem dX10_widthNow_1 : decode cX10_widthNow 1 = .ok (.iload_n 1, 1) := by decide +kernel
theorem dX10_widthNow_2 : decode cX10_widthNow 2 = .ok (.invokevirtual 211, 3) := by decide +kernel
theorem dX10_widthNow_5 : decode cX10_widthNow 5 = .ok (.astore_n 2, 1) := by decide +kernel
theorem dX10_widthNow_6 : decode cX10_widthNow 6 = .ok (.iconst 4, 1) := by decide +kernel
theorem dX10_widthNow_7 : decode cX10_widthNow 7 = .ok (.aload_n 2, 1) := by decide +kernel
theorem dX10_widthNow_8 : decode cX10_widthNow 8 = .ok (.invokevirtual 39, 3) := by decide +kernel
theorem dX10_widthNow_11 : decode cX10_widthNow 11 = .ok (.imul, 1) := by decide +kernel
theorem dX10_widthNow_12 : decode cX10_widthNow 12 = .ok (.istore_n 3, 1) := by decide +kernel
theorem dX10_widthNow_13 : decode cX10_widthNow 13 = .ok (.iconst 1, 1) := by decide +kernel
theorem dX10_widthNow_14 : decode cX10_widthNow 14 = .ok (.istore 4, 2) := by decide +kernel
theorem dX10_widthNow_16 : decode cX10_widthNow 16 = .ok (.iload 4, 2) := by decide +kernel
theorem dX10_widthNow_18 : decode cX10_widthNow 18 = .ok (.aload_n 2, 1) := by decide +kernel
theorem dX10_widthNow_19 : decode cX10_widthNow 19 = .ok (.invokevirtual 39, 3) := by decide +kernel
theorem dX10_widthNow_22 : decode cX10_widthNow 22 = .ok (.if_icmp .ge 86, 3) := by decide +kernel
theorem dX10_widthNow_25 : decode cX10_widthNow 25 = .ok (.iload_n 3, 1) := by decide +kernel
theorem dX10_widthNow_26 : decode cX10_widthNow 26 = .ok (.aload_n 0, 1) := by decide +kernel
theorem dX10_widthNow_27 : decode cX10_widthNow 27 = .ok (.getfield 10, 3) := by decide +kernel
theorem dX10_widthNow_30 : decode cX10_widthNow 30 = .ok (.aload_n 2, 1) := by decide +kernel
theorem dX10_widthNow_31 : decode cX10_widthNow 31 = .ok (.iload 4, 2) := by decide +kernel
theorem dX10_widthNow_33 : decode cX10_widthNow 33 = .ok (.invokevirtual 139, 3) := by decide +kernel
theorem dX10_widthNow_36 : decode cX10_widthNow 36 = .ok (.checkcast 47, 3) := by decide +kernel
theorem dX10_widthNow_39 : decode cX10_widthNow 39 = .ok (.invokevirtual 49, 3) := by decide +kernel
theorem dX10_widthNow_42 : decode cX10_widthNow 42 = .ok (.invokevirtual 139, 3) := by decide +kernel
theorem dX10_widthNow_45 : decode cX10_widthNow 45 = .ok (.checkcast 64, 3) := by decide +kernel
theorem dX10_widthNow_48 : decode cX10_widthNow 48 = .ok (.aload_n 0, 1) := by decide +kernel
theorem dX10_widthNow_49 : decode cX10_widthNow 49 = .ok (.getfield 28, 3) := by decide +kernel
theorem dX10_widthNow_52 : decode cX10_widthNow 52 = .ok (.getfield 69, 3) := by decide +kernel
theorem dX10_widthNow_55 : decode cX10_widthNow 55 = .ok (.invokevirtual 236, 3) := by decide +kernel
theorem dX10_widthNow_58 : decode cX10_widthNow 58 = .ok (.aload_n 0, 1) := by decide +kernel
theorem dX10_widthNow_59 : decode cX10_widthNow 59 = .ok (.getfield 10, 3) := by decide +kernel
theorem dX10_widthNow_62 : decode cX10_widthNow 62 = .ok (.aload_n 2, 1) := by decide +kernel
theorem dX10_widthNow_63 : decode cX10_widthNow 63 = .ok (.iload 4, 2) := by decide +kernel
theorem dX10_widthNow_65 : decode cX10_widthNow 65 = .ok (.iconst 1, 1) := by decide +kernel
theorem dX10_widthNow_66 : decode cX10_widthNow 66 = .ok (.isub, 1) := by decide +kernel
theorem dX10_widthNow_67 : decode cX10_widthNow 67 = .ok (.invokevirtual 139, 3) := by decide +kernel
theorem dX10_widthNow_70 : decode cX10_widthNow 70 = .ok (.checkcast 47, 3) := by decide +kernel
theorem dX10_widthNow_73 : decode cX10_widthNow 73 = .ok (.invokevirtual 49, 3) := by decide +kernel
theorem dX10_widthNow_76 : decode cX10_widthNow 76 = .ok (.invokevirtual 139, 3) := by decide +kernel
theorem dX10_widthNow_79 : decode cX10_widthNow 79 = .ok (.checkcast 64, 3) := by decide +kernel
theorem dX10_widthNow_82 : decode cX10_widthNow 82 = .ok (.aload_n 0, 1) := by decide +kernel
theorem dX10_widthNow_83 : decode cX10_widthNow 83 = .ok (.getfield 28, 3) := by decide +kernel
theorem dX10_widthNow_86 : decode cX10_widthNow 86 = .ok (.getfield 69, 3) := by decide +kernel
theorem dX10_widthNow_89 : decode cX10_widthNow 89 = .ok (.invokevirtual 236, 3) := by decide +kernel
theorem dX10_widthNow_92 : decode cX10_widthNow 92 = .ok (.if_icmp .ne 7, 3) := by decide +kernel
theorem dX10_widthNow_95 : decode cX10_widthNow 95 = .ok (.iconst 0, 1) := by decide +kernel
theorem dX10_widthNow_96 : decode cX10_widthNow 96 = .ok (.goto 4, 3) := by decide +kernel
theorem dX10_widthNow_99 : decode cX10_widthNow 99 = .ok (.iconst 1, 1) := by decide +kernel
theorem dX10_widthNow_100 : decode cX10_widthNow 100 = .ok (.isub, 1) := by decide +kernel
theorem dX10_widthNow_101 : decode cX10_widthNow 101 = .ok (.istore_n 3, 1) := by decide +kernel
theorem dX10_widthNow_102 : decode cX10_widthNow 102 = .ok (.iinc 4 1, 3) := by decide +kernel
theorem dX10_widthNow_105 : decode cX10_widthNow 105 = .ok (.goto (-89), 3) := by decide +kernel
theorem dX10_widthNow_108 : decode cX10_widthNow 108 = .ok (.iload_n 3, 1) := by decide +kernel
theorem dX10_widthNow_109 : decode cX10_widthNow 109 = .ok (.ireturn, 1) := by decide +kernel
theorem dX10_width_0 : decode cX10_width 0 = .ok (.aload_n 0, 1) := by decide +kernel
theorem dX10_width_1 : decode cX10_width 1 = .ok (.iconst 0, 1) := by decide +kernel
theorem dX10_width_2 : decode cX10_width 2 = .ok (.putfield 36, 3) := by decide +kernel
theorem dX10_width_5 : decode cX10_width 5 = .ok (.aload_n 0, 1) := by decide +kernel
theorem dX10_width_6 : decode cX10_width 6 = .ok (.iload_n 1, 1) := by decide +kernel
theorem dX10_width_7 : decode cX10_width 7 = .ok (.invokevirtual 254, 3) := by decide +kernel
theorem dX10_width_10 : decode cX10_width 10 = .ok (.i2d, 1) := by decide +kernel
theorem dX10_width_11 : decode cX10_width 11 = .ok (.ldc2_w 257, 3) := by decide +kernel
theorem dX10_width_14 : decode cX10_width 14 = .ok (.ddiv, 1) := by decide +kernel
theorem dX10_width_15 : decode cX10_width 15 = .ok (.dreturn, 1) := by decide +kernel
theorem dX10_manyNow_0 : decode cX10_manyNow 0 = .ok (.iconst 0, 1) := by decide +kernel
theorem dX10_manyNow_1 : decode cX10_manyNow 1 = .ok (.istore_n 2, 1) := by decide +kernel
theorem dX10_manyNow_2 : decode cX10_manyNow 2 = .ok (.iconst 0, 1) := by decide +kernel
theorem dX10_manyNow_3 : decode cX10_manyNow 3 = .ok (.istore_n 3, 1) := by decide +kernel
theorem dX10_manyNow_4 : decode cX10_manyNow 4 = .ok (.aload_n 0, 1) := by decide +kernel
theorem dX10_manyNow_5 : decode cX10_manyNow 5 = .ok (.getfield 28, 3) := by decide +kernel
theorem dX10_manyNow_8 : decode cX10_manyNow 8 = .ok (.getfield 85, 3) := by decide +kernel
theorem dX10_manyNow_11 : decode cX10_manyNow 11 = .ok (.invokevirtual 88, 3) := by decide +kernel
theorem dX10_manyNow_14 : decode cX10_manyNow 14 = .ok (.astore 4, 2) := by decide +kernel
theorem dX10_manyNow_16 : decode cX10_manyNow 16 = .ok (.aload 4, 2) := by decide +kernel
theorem dX10_manyNow_18 : decode cX10_manyNow 18 = .ok (.invokeinterface 92 1, 5) := by decide +kernel
theorem dX10_manyNow_23 : decode cX10_manyNow 23 = .ok (.ifCond .eq 25, 3) := by decide +kernel
theorem dX10_manyNow_26 : decode cX10_manyNow 26 = .ok (.aload 4, 2) := by decide +kernel
theorem dX10_manyNow_28 : decode cX10_manyNow 28 = .ok (.invokeinterface 98 1, 5) := by decide +kernel
theorem dX10_manyNow_33 : decode cX10_manyNow 33 = .ok (.checkcast 102, 3) := by decide +kernel
theorem dX10_manyNow_36 : decode cX10_manyNow 36 = .ok (.astore 5, 2) := by decide +kernel
theorem dX10_manyNow_38 : decode cX10_manyNow 38 = .ok (.iload_n 2, 1) := by decide +kernel
theorem dX10_manyNow_39 : decode cX10_manyNow 39 = .ok (.aload 5, 2) := by decide +kernel
theorem dX10_manyNow_41 : decode cX10_manyNow 41 = .ok (.iconst 3, 1) := by decide +kernel
theorem dX10_manyNow_42 : decode cX10_manyNow 42 = .ok (.iaload, 1) := by decide +kernel
theorem dX10_manyNow_43 : decode cX10_manyNow 43 = .ok (.iadd, 1) := by decide +kernel
theorem dX10_manyNow_44 : decode cX10_manyNow 44 = .ok (.istore_n 2, 1) := by decide +kernel
theorem dX10_manyNow_45 : decode cX10_manyNow 45 = .ok (.goto (-29), 3) := by decide +kernel
theorem dX10_manyNow_48 : decode cX10_manyNow 48 = .ok (.aload_n 0, 1) := by decide +kernel
theorem dX10_manyNow_49 : decode cX10_manyNow 49 = .ok (.getfield 28, 3) := by decide +kernel
theorem dX10_manyNow_52 : decode cX10_manyNow 52 = .ok (.getfield 52, 3) := by decide +kernel
theorem dX10_manyNow_55 : decode cX10_manyNow 55 = .ok (.astore 4, 2) := by decide +kernel
theorem dX10_manyNow_57 : decode cX10_manyNow 57 = .ok (.aload 4, 2) := by decide +kernel
theorem dX10_manyNow_59 : decode cX10_manyNow 59 = .ok (.arraylength, 1) := by decide +kernel
theorem dX10_manyNow_60 : decode cX10_manyNow 60 = .ok (.istore 5, 2) := by decide +kernel
theorem dX10_manyNow_62 : decode cX10_manyNow 62 = .ok (.iconst 0, 1) := by decide +kernel
theorem dX10_manyNow_63 : decode cX10_manyNow 63 = .ok (.istore 6, 2) := by decide +kernel
theorem dX10_manyNow_65 : decode cX10_manyNow 65 = .ok (.iload 6, 2) := by decide +kernel
theorem dX10_manyNow_67 : decode cX10_manyNow 67 = .ok (.iload 5, 2) := by decide +kernel
theorem dX10_manyNow_69 : decode cX10_manyNow 69 = .ok (.if_icmp .ge 21, 3) := by decide +kernel
theorem dX10_manyNow_72 : decode cX10_manyNow 72 = .ok (.aload 4, 2) := by decide +kernel
theorem dX10_manyNow_74 : decode cX10_manyNow 74 = .ok (.iload 6, 2) := by decide +kernel
theorem dX10_manyNow_76 : decode cX10_manyNow 76 = .ok (.iaload, 1) := by decide +kernel
theorem dX10_manyNow_77 : decode cX10_manyNow 77 = .ok (.istore 7, 2) := by decide +kernel
theorem dX10_manyNow_79 : decode cX10_manyNow 79 = .ok (.iload_n 3, 1) := by decide +kernel
theorem dX10_manyNow_80 : decode cX10_manyNow 80 = .ok (.iload 7, 2) := by decide +kernel
theorem dX10_manyNow_82 : decode cX10_manyNow 82 = .ok (.iadd, 1) := by decide +kernel
theorem dX10_manyNow_83 : decode cX10_manyNow 83 = .ok (.istore_n 3, 1) := by decide +kernel
theorem dX10_manyNow_84 : decode cX10_manyNow 84 = .ok (.iinc 6 1, 3) := by decide +kernel
theorem dX10_manyNow_87 : decode cX10_manyNow 87 = .ok (.goto (-22), 3) := by decide +kernel
theorem dX10_manyNow_90 : decode cX10_manyNow 90 = .ok (.bipush 16, 2) := by decide +kernel
theorem dX10_manyNow_92 : decode cX10_manyNow 92 = .ok (.newarray .int, 2) := by decide +kernel
theorem dX10_manyNow_94 : decode cX10_manyNow 94 = .ok (.dup, 1) := by decide +kernel
theorem dX10_manyNow_95 : decode cX10_manyNow 95 = .ok (.iconst 0, 1) := by decide +kernel
theorem dX10_manyNow_96 : decode cX10_manyNow 96 = .ok (.aload_n 0, 1) := by decide +kernel
theorem dX10_manyNow_97 : decode cX10_manyNow 97 = .ok (.getfield 117, 3) := by decide +kernel
theorem dX10_manyNow_100 : decode cX10_manyNow 100 = .ok (.iastore, 1) := by decide +kernel
theorem dX10_manyNow_101 : decode cX10_manyNow 101 = .ok (.dup, 1) := by decide +kernel
theorem dX10_manyNow_102 : decode cX10_manyNow 102 = .ok (.iconst 1, 1) := by decide +kernel
theorem dX10_manyNow_103 : decode cX10_manyNow 103 = .ok (.iload_n 3, 1) := by decide +kernel
theorem dX10_manyNow_104 : decode cX10_manyNow 104 = .ok (.iastore, 1) := by decide +kernel
theorem dX10_manyNow_105 : decode cX10_manyNow 105 = .ok (.dup, 1) := by decide +kernel
theorem dX10_manyNow_106 : decode cX10_manyNow 106 = .ok (.iconst 2, 1) := by decide +kernel
theorem dX10_manyNow_107 : decode cX10_manyNow 107 = .ok (.aload_n 0, 1) := by decide +kernel
theorem dX10_manyNow_108 : decode cX10_manyNow 108 = .ok (.getfield 32, 3) := by decide +kernel
theorem dX10_manyNow_111 : decode cX10_manyNow 111 = .ok (.iastore, 1) := by decide +kernel
theorem dX10_manyNow_112 : decode cX10_manyNow 112 = .ok (.dup, 1) := by decide +kernel
theorem dX10_manyNow_113 : decode cX10_manyNow 113 = .ok (.iconst 3, 1) := by decide +kernel
theorem dX10_manyNow_114 : decode cX10_manyNow 114 = .ok (.aload_n 0, 1) := by decide +kernel
theorem dX10_manyNow_115 : decode cX10_manyNow 115 = .ok (.getfield 28, 3) := by decide +kernel
theorem dX10_manyNow_118 : decode cX10_manyNow 118 = .ok (.getfield 132, 3) := by decide +kernel
theorem dX10_manyNow_121 : decode cX10_manyNow 121 = .ok (.invokevirtual 39, 3) := by decide +kernel
theorem dX10_manyNow_124 : decode cX10_manyNow 124 = .ok (.iastore, 1) := by decide +kernel
theorem dX10_manyNow_125 : decode cX10_manyNow 125 = .ok (.dup, 1) := by decide +kernel
theorem dX10_manyNow_126 : decode cX10_manyNow 126 = .ok (.iconst 4, 1) := by decide +kernel
theorem dX10_manyNow_127 : decode cX10_manyNow 127 = .ok (.aload_n 0, 1) := by decide +kernel
theorem dX10_manyNow_128 : decode cX10_manyNow 128 = .ok (.getfield 28, 3) := by decide +kernel
theorem dX10_manyNow_131 : decode cX10_manyNow 131 = .ok (.getfield 75, 3) := by decide +kernel
theorem dX10_manyNow_134 : decode cX10_manyNow 134 = .ok (.invokevirtual 39, 3) := by decide +kernel
theorem dX10_manyNow_137 : decode cX10_manyNow 137 = .ok (.iastore, 1) := by decide +kernel
theorem dX10_manyNow_138 : decode cX10_manyNow 138 = .ok (.dup, 1) := by decide +kernel
theorem dX10_manyNow_139 : decode cX10_manyNow 139 = .ok (.iconst 5, 1) := by decide +kernel
theorem dX10_manyNow_140 : decode cX10_manyNow 140 = .ok (.aload_n 0, 1) := by decide +kernel
theorem dX10_manyNow_141 : decode cX10_manyNow 141 = .ok (.getfield 28, 3) := by decide +kernel
theorem dX10_manyNow_144 : decode cX10_manyNow 144 = .ok (.getfield 69, 3) := by decide +kernel
theorem dX10_manyNow_147 : decode cX10_manyNow 147 = .ok (.iastore, 1) := by decide +kernel
theorem dX10_manyNow_148 : decode cX10_manyNow 148 = .ok (.dup, 1) := by decide +kernel
theorem dX10_manyNow_149 : decode cX10_manyNow 149 = .ok (.bipush 6, 2) := by decide +kernel
theorem dX10_manyNow_151 : decode cX10_manyNow 151 = .ok (.aload_n 0, 1) := by decide +kernel
theorem dX10_manyNow_152 : decode cX10_manyNow 152 = .ok (.getfield 28, 3) := by decide +kernel
theorem dX10_manyNow_155 : decode cX10_manyNow 155 = .ok (.getfield 66, 3) := by decide +kernel
theorem dX10_manyNow_158 : decode cX10_manyNow 158 = .ok (.iastore, 1) := by decide +kernel
theorem dX10_manyNow_159 : decode cX10_manyNow 159 = .ok (.dup, 1) := by decide +kernel
theorem dX10_manyNow_160 : decode cX10_manyNow 160 = .ok (.bipush 7, 2) := by decide +kernel
theorem dX10_manyNow_162 : decode cX10_manyNow 162 = .ok (.aload_n 0, 1) := by decide +kernel
theorem dX10_manyNow_163 : decode cX10_manyNow 163 = .ok (.getfield 28, 3) := by decide +kernel
theorem dX10_manyNow_166 : decode cX10_manyNow 166 = .ok (.getfield 78, 3) := by decide +kernel
theorem dX10_manyNow_169 : decode cX10_manyNow 169 = .ok (.iastore, 1) := by decide +kernel
theorem dX10_manyNow_170 : decode cX10_manyNow 170 = .ok (.dup, 1) := by decide +kernel
theorem dX10_manyNow_171 : decode cX10_manyNow 171 = .ok (.bipush 8, 2) := by decide +kernel
theorem dX10_manyNow_173 : decode cX10_manyNow 173 = .ok (.aload_n 0, 1) := by decide +kernel
theorem dX10_manyNow_174 : decode cX10_manyNow 174 = .ok (.getfield 28, 3) := by decide +kernel
theorem dX10_manyNow_177 : decode cX10_manyNow 177 = .ok (.getfield 152, 3) := by decide +kernel
theorem dX10_manyNow_180 : decode cX10_manyNow 180 = .ok (.iastore, 1) := by decide +kernel
theorem dX10_manyNow_181 : decode cX10_manyNow 181 = .ok (.dup, 1) := by decide +kernel
theorem dX10_manyNow_182 : decode cX10_manyNow 182 = .ok (.bipush 9, 2) := by decide +kernel
theorem dX10_manyNow_184 : decode cX10_manyNow 184 = .ok (.aload_n 0, 1) := by decide +kernel
theorem dX10_manyNow_185 : decode cX10_manyNow 185 = .ok (.getfield 28, 3) := by decide +kernel
theorem dX10_manyNow_188 : decode cX10_manyNow 188 = .ok (.getfield 172, 3) := by decide +kernel
theorem dX10_manyNow_191 : decode cX10_manyNow 191 = .ok (.iastore, 1) := by decide +kernel
theorem dX10_manyNow_192 : decode cX10_manyNow 192 = .ok (.dup, 1) := by decide +kernel
theorem dX10_manyNow_193 : decode cX10_manyNow 193 = .ok (.bipush 10, 2) := by decide +kernel
theorem dX10_manyNow_195 : decode cX10_manyNow 195 = .ok (.aload_n 0, 1) := by decide +kernel
theorem dX10_manyNow_196 : decode cX10_manyNow 196 = .ok (.getfield 28, 3) := by decide +kernel
theorem dX10_manyNow_199 : decode cX10_manyNow 199 = .ok (.getfield 178, 3) := by decide +kernel
theorem dX10_manyNow_202 : decode cX10_manyNow 202 = .ok (.iastore, 1) := by decide +kernel
theorem dX10_manyNow_203 : decode cX10_manyNow 203 = .ok (.dup, 1) := by decide +kernel
theorem dX10_manyNow_204 : decode cX10_manyNow 204 = .ok (.bipush 11, 2) := by decide +kernel
theorem dX10_manyNow_206 : decode cX10_manyNow 206 = .ok (.aload_n 0, 1) := by decide +kernel
theorem dX10_manyNow_207 : decode cX10_manyNow 207 = .ok (.getfield 28, 3) := by decide +kernel
theorem dX10_manyNow_210 : decode cX10_manyNow 210 = .ok (.getfield 181, 3) := by decide +kernel
theorem dX10_manyNow_213 : decode cX10_manyNow 213 = .ok (.iastore, 1) := by decide +kernel
theorem dX10_manyNow_214 : decode cX10_manyNow 214 = .ok (.dup, 1) := by decide +kernel
theorem dX10_manyNow_215 : decode cX10_manyNow 215 = .ok (.bipush 12, 2) := by decide +kernel
theorem dX10_manyNow_217 : decode cX10_manyNow 217 = .ok (.aload_n 0, 1) := by decide +kernel
theorem dX10_manyNow_218 : decode cX10_manyNow 218 = .ok (.getfield 28, 3) := by decide +kernel
theorem dX10_manyNow_221 : decode cX10_manyNow 221 = .ok (.getfield 85, 3) := by decide +kernel
theorem dX10_manyNow_224 : decode cX10_manyNow 224 = .ok (.invokevirtual 39, 3) := by decide +kernel
theorem dX10_manyNow_227 : decode cX10_manyNow 227 = .ok (.iastore, 1) := by decide +kernel
theorem dX10_manyNow_228 : decode cX10_manyNow 228 = .ok (.dup, 1) := by decide +kernel
theorem dX10_manyNow_229 : decode cX10_manyNow 229 = .ok (.bipush 13, 2) := by decide +kernel
theorem dX10_manyNow_231 : decode cX10_manyNow 231 = .ok (.iload_n 2, 1) := by decide +kernel
theorem dX10_manyNow_232 : decode cX10_manyNow 232 = .ok (.iastore, 1) := by decide +kernel
theorem dX10_manyNow_233 : decode cX10_manyNow 233 = .ok (.dup, 1) := by decide +kernel
theorem dX10_manyNow_234 : decode cX10_manyNow 234 = .ok (.bipush 14, 2) := by decide +kernel
theorem dX10_manyNow_236 : decode cX10_manyNow 236 = .ok (.aload_n 0, 1) := by decide +kernel
theorem dX10_manyNow_237 : decode cX10_manyNow 237 = .ok (.getfield 19, 3) := by decide +kernel
theorem dX10_manyNow_240 : decode cX10_manyNow 240 = .ok (.invokevirtual 39, 3) := by decide +kernel
theorem dX10_manyNow_243 : decode cX10_manyNow 243 = .ok (.iastore, 1) := by decide +kernel
theorem dX10_manyNow_244 : decode cX10_manyNow 244 = .ok (.dup, 1) := by decide +kernel
theorem dX10_manyNow_245 : decode cX10_manyNow 245 = .ok (.bipush 15, 2) := by decide +kernel
theorem dX10_manyNow_247 : decode cX10_manyNow 247 = .ok (.aload_n 0, 1) := by decide +kernel
theorem dX10_manyNow_248 : decode cX10_manyNow 248 = .ok (.getfield 22, 3) := by decide +kernel
theorem dX10_manyNow_251 : decode cX10_manyNow 251 = .ok (.invokevirtual 39, 3) := by decide +kernel
theorem dX10_manyNow_254 : decode cX10_manyNow 254 = .ok (.iastore, 1) := by decide +kernel
theorem dX10_manyNow_255 : decode cX10_manyNow 255 = .ok (.astore 4, 2) := by decide +kernel
theorem dX10_manyNow_257 : decode cX10_manyNow 257 = .ok (.aload 4, 2) := by decide +kernel
theorem dX10_manyNow_259 : decode cX10_manyNow 259 = .ok (.iload_n 1, 1) := by decide +kernel
theorem dX10_manyNow_260 : decode cX10_manyNow 260 = .ok (.iaload, 1) := by decide +kernel
theorem dX10_manyNow_261 : decode cX10_manyNow 261 = .ok (.ireturn, 1) := by decide +kernel
theorem dX10_many_0 : decode cX10_many 0 = .ok (.aload_n 0, 1) := by decide +kernel
theorem dX10_many_1 : decode cX10_many 1 = .ok (.iconst 0, 1) := by decide +kernel
theorem dX10_many_2 : decode cX10_many 2 = .ok (.putfield 36, 3) := by decide +kernel
theorem dX10_many_5 : decode cX10_many 5 = .ok (.iload_n 1, 1) := by decide +kernel
theorem dX10_many_6 : decode cX10_many 6 = .ok (.iconst 0, 1) := by decide +kernel
theorem dX10_many_7 : decode cX10_many 7 = .ok (.bipush 15, 2) := by decide +kernel
theorem dX10_many_9 : decode cX10_many 9 = .ok (.invokestatic 109, 3) := by decide +kernel
theorem dX10_many_12 : decode cX10_many 12 = .ok (.ifCond .eq 11, 3) := by decide +kernel
theorem dX10_many_15 : decode cX10_many 15 = .ok (.aload_n 0, 1) := by decide +kernel
theorem dX10_many_16 : decode cX10_many 16 = .ok (.iload_n 1, 1) := by decide +kernel
theorem dX10_many_17 : decode cX10_many 17 = .ok (.invokevirtual 259, 3) := by decide +kernel
theorem dX10_many_20 : decode cX10_many 20 = .ok (.goto 8, 3) := by decide +kernel
theorem dX10_many_23 : decode cX10_many 23 = .ok (.aload_n 0, 1) := by decide +kernel
theorem dX10_many_24 : decode cX10_many 24 = .ok (.iconst 1, 1) := by decide +kernel
theorem dX10_many_25 : decode cX10_many 25 = .ok (.invokevirtual 113, 3) := by decide +kernel
theorem dX10_many_28 : decode cX10_many 28 = .ok (.ireturn, 1) := by decide +kernel
theorem dX10_left_0 : decode cX10_left 0 = .ok (.aload_n 0, 1) := by decide +kernel
theorem dX10_left_1 : decode cX10_left 1 = .ok (.iconst 0, 1) := by decide +kernel
theorem dX10_left_2 : decode cX10_left 2 = .ok (.putfield 36, 3) := by decide +kernel
theorem dX10_left_5 : decode cX10_left 5 = .ok (.iload_n 1, 1) := by decide +kernel
theorem dX10_left_6 : decode cX10_left 6 = .ok (.iconst 0, 1) := by decide +kernel
theorem dX10_left_7 : decode cX10_left 7 = .ok (.aload_n 0, 1) := by decide +kernel
theorem dX10_left_8 : decode cX10_left 8 = .ok (.getfield 117, 3) := by decide +kernel
theorem dX10_left_11 : decode cX10_left 11 = .ok (.iconst 1, 1) := by decide +kernel
theorem dX10_left_12 : decode cX10_left 12 = .ok (.isub, 1) := by decide +kernel
theorem dX10_left_13 : decode cX10_left 13 = .ok (.invokestatic 109, 3) := by decide +kernel
theorem dX10_left_16 : decode cX10_left 16 = .ok (.ifCond .eq 15, 3) := by decide +kernel
theorem dX10_left_19 : decode cX10_left 19 = .ok (.aload_n 0, 1) := by decide +kernel
theorem dX10_left_20 : decode cX10_left 20 = .ok (.getfield 28, 3) := by decide +kernel
theorem dX10_left_23 : decode cX10_left 23 = .ok (.getfield 52, 3) := by decide +kernel
theorem dX10_left_26 : decode cX10_left 26 = .ok (.iload_n 1, 1) := by decide +kernel
theorem dX10_left_27 : decode cX10_left 27 = .ok (.iaload, 1) := by decide +kernel
theorem dX10_left_28 : decode cX10_left 28 = .ok (.goto 8, 3) := by decide +kernel
theorem dX10_left_31 : decode cX10_left 31 = .ok (.aload_n 0, 1) := by decide +kernel
theorem dX10_left_32 : decode cX10_left 32 = .ok (.iconst 1, 1) := by decide +kernel
theorem dX10_left_33 : decode cX10_left 33 = .ok (.invokevirtual 113, 3) := by decide +kernel
theorem dX10_left_36 : decode cX10_left 36 = .ok (.ireturn, 1) := by decide +kernel
theorem dX10_ofPatternNow_0 : decode cX10_ofPatternNow 0 = .ok (.aload_n 0, 1) := by decide +kernel
theorem dX10_ofPatternNow_1 : decode cX10_ofPatternNow 1 = .ok (.getfield 19, 3) := by decide +kernel
theorem dX10_ofPatternNow_4 : decode cX10_ofPatternNow 4 = .ok (.iload_n 1, 1) := by decide +kernel
theorem dX10_ofPatternNow_5 : decode cX10_ofPatternNow 5 = .ok (.invokevirtual 139, 3) := by decide +kernel
theorem dX10_ofPatternNow_8 : decode cX10_ofPatternNow 8 = .ok (.checkcast 47, 3) := by decide +kernel
theorem dX10_ofPatternNow_11 : decode cX10_ofPatternNow 11 = .ok (.invokevirtual 49, 3) := by decide +kernel
theorem dX10_ofPatternNow_14 : decode cX10_ofPatternNow 14 = .ok (.istore_n 3, 1) := by decide +kernel
theorem dX10_ofPatternNow_15 : decode cX10_ofPatternNow 15 = .ok (.iconst 5, 1) := by decide +kernel
theorem dX10_ofPatternNow_16 : decode cX10_ofPatternNow 16 = .ok (.newarray .int, 2) := by decide +kernel
theorem dX10_ofPatternNow_18 : decode cX10_ofPatternNow 18 = .ok (.dup, 1) := by decide +kernel
theorem dX10_ofPatternNow_19 : decode cX10_ofPatternNow 19 = .ok (.iconst 0, 1) := by decide +kernel
theorem dX10_ofPatternNow_20 : decode cX10_ofPatternNow 20 = .ok (.iload_n 3, 1) := by decide +kernel
theorem dX10_ofPatternNow_21 : decode cX10_ofPatternNow 21 = .ok (.iastore, 1) := by decide +kernel
theorem dX10_ofPatternNow_22 : decode cX10_ofPatternNow 22 = .ok (.dup, 1) := by decide +kernel
theorem dX10_ofPatternNow_23 : decode cX10_ofPatternNow 23 = .ok (.iconst 1, 1) := by decide +kernel
theorem dX10_ofPatternNow_24 : decode cX10_ofPatternNow 24 = .ok (.iload_n 3, 1) := by decide +kernel
theorem dX10_ofPatternNow_25 : decode cX10_ofPatternNow 25 = .ok (.invokestatic 188, 3) := by decide +kernel
theorem dX10_ofPatternNow_28 : decode cX10_ofPatternNow 28 = .ok (.iastore, 1) := by decide +kernel
theorem dX10_ofPatternNow_29 : decode cX10_ofPatternNow 29 = .ok (.dup, 1) := by decide +kernel
theorem dX10_ofPatternNow_30 : decode cX10_ofPatternNow 30 = .ok (.iconst 2, 1) := by decide +kernel
theorem dX10_ofPatternNow_31 : decode cX10_ofPatternNow 31 = .ok (.iconst 0, 1) := by decide +kernel
theorem dX10_ofPatternNow_32 : decode cX10_ofPatternNow 32 = .ok (.iastore, 1) := by decide +kernel
theorem dX10_ofPatternNow_33 : decode cX10_ofPatternNow 33 = .ok (.dup, 1) := by decide +kernel
theorem dX10_ofPatternNow_34 : decode cX10_ofPatternNow 34 = .ok (.iconst 3, 1) := by decide +kernel
theorem dX10_ofPatternNow_35 : decode cX10_ofPatternNow 35 = .ok (.iconst 0, 1) := by decide +kernel
theorem dX10_ofPatternNow_36 : decode cX10_ofPatternNow 36 = .ok (.iastore, 1) := by decide +kernel
theorem dX10_ofPatternNow_37 : decode cX10_ofPatternNow 37 = .ok (.dup, 1) := by decide +kernel
theorem dX10_ofPatternNow_38 : decode cX10_ofPatternNow 38 = .ok (.iconst 4, 1) := by decide +kernel
theorem dX10_ofPatternNow_39 : decode cX10_ofPatternNow 39 = .ok (.iconst 0, 1) := by decide +kernel
theorem dX10_ofPatternNow_40 : decode cX10_ofPatternNow 40 = .ok (.iastore, 1) := by decide +kernel
theorem dX10_ofPatternNow_41 : decode cX10_ofPatternNow 41 = .ok (.astore 4, 2) := by decide +kernel
theorem dX10_ofPatternNow_43 : decode cX10_ofPatternNow 43 = .ok (.iload_n 3, 1) := by decide +kernel
theorem dX10_ofPatternNow_44 : decode cX10_ofPatternNow 44 = .ok (.istore 5, 2) := by decide +kernel
theorem dX10_ofPatternNow_46 : decode cX10_ofPatternNow 46 = .ok (.iload 5, 2) := by decide +kernel
theorem dX10_ofPatternNow_48 : decode cX10_ofPatternNow 48 = .ok (.ifCond .le 58, 3) := by decide +kernel
theorem dX10_ofPatternNow_51 : decode cX10_ofPatternNow 51 = .ok (.aload 4, 2) := by decide +kernel
theorem dX10_ofPatternNow_53 : decode cX10_ofPatternNow 53 = .ok (.iconst 2, 1) := by decide +kernel
theorem dX10_ofPatternNow_54 : decode cX10_ofPatternNow 54 = .ok (.dup2, 1) := by decide +kernel
theorem dX10_ofPatternNow_55 : decode cX10_ofPatternNow 55 = .ok (.iaload, 1) := by decide +kernel
theorem dX10_ofPatternNow_56 : decode cX10_ofPatternNow 56 = .ok (.iload 5, 2) := by decide +kernel
theorem dX10_ofPatternNow_58 : decode cX10_ofPatternNow 58 = .ok (.bipush 10, 2) := by decide +kernel
theorem dX10_ofPatternNow_60 : decode cX10_ofPatternNow 60 = .ok (.irem, 1) := by decide +kernel
theorem dX10_ofPatternNow_61 : decode cX10_ofPatternNow 61 = .ok (.invokestatic 194, 3) := by decide +kernel
theorem dX10_ofPatternNow_64 : decode cX10_ofPatternNow 64 = .ok (.iadd, 1) := by decide +kernel
theorem dX10_ofPatternNow_65 : decode cX10_ofPatternNow 65 = .ok (.iastore, 1) := by decide +kernel
theorem dX10_ofPatternNow_66 : decode cX10_ofPatternNow 66 = .ok (.aload 4, 2) := by decide +kernel
theorem dX10_ofPatternNow_68 : decode cX10_ofPatternNow 68 = .ok (.iconst 3, 1) := by decide +kernel
theorem dX10_ofPatternNow_69 : decode cX10_ofPatternNow 69 = .ok (.dup2, 1) := by decide +kernel
theorem dX10_ofPatternNow_70 : decode cX10_ofPatternNow 70 = .ok (.iaload, 1) := by decide +kernel
theorem dX10_ofPatternNow_71 : decode cX10_ofPatternNow 71 = .ok (.iload 5, 2) := by decide +kernel
theorem dX10_ofPatternNow_73 : decode cX10_ofPatternNow 73 = .ok (.bipush 10, 2) := by decide +kernel
theorem dX10_ofPatternNow_75 : decode cX10_ofPatternNow 75 = .ok (.irem, 1) := by decide +kernel
theorem dX10_ofPatternNow_76 : decode cX10_ofPatternNow 76 = .ok (.invokestatic 262, 3) := by decide +kernel
theorem dX10_ofPatternNow_79 : decode cX10_ofPatternNow 79 = .ok (.iadd, 1) := by decide +kernel
theorem dX10_ofPatternNow_80 : decode cX10_ofPatternNow 80 = .ok (.iastore, 1) := by decide +kernel
theorem dX10_ofPatternNow_81 : decode cX10_ofPatternNow 81 = .ok (.aload 4, 2) := by decide +kernel
theorem dX10_ofPatternNow_83 : decode cX10_ofPatternNow 83 = .ok (.iconst 4, 1) := by decide +kernel
theorem dX10_ofPatternNow_84 : decode cX10_ofPatternNow 84 = .ok (.dup2, 1) := by decide +kernel
theorem dX10_ofPatternNow_85 : decode cX10_ofPatternNow 85 = .ok (.iaload, 1) := by decide +kernel
theorem dX10_ofPatternNow_86 : decode cX10_ofPatternNow 86 = .ok (.iload 5, 2) := by decide +kernel
theorem dX10_ofPatternNow_88 : decode cX10_ofPatternNow 88 = .ok (.bipush 10, 2) := by decide +kernel
theorem dX10_ofPatternNow_90 : decode cX10_ofPatternNow 90 = .ok (.irem, 1) := by decide +kernel
theorem dX10_ofPatternNow_91 : decode cX10_ofPatternNow 91 = .ok (.invokestatic 191, 3) := by decide +kernel
theorem dX10_ofPatternNow_94 : decode cX10_ofPatternNow 94 = .ok (.iadd, 1) := by decide +kernel
theorem dX10_ofPatternNow_95 : decode cX10_ofPatternNow 95 = .ok (.iastore, 1) := by decide +kernel
theorem dX10_ofPatternNow_96 : decode cX10_ofPatternNow 96 = .ok (.iload 5, 2) := by decide +kernel
theorem dX10_ofPatternNow_98 : decode cX10_ofPatternNow 98 = .ok (.bipush 10, 2) := by decide +kernel
theorem dX10_ofPatternNow_100 : decode cX10_ofPatternNow 100 = .ok (.idiv, 1) := by decide +kernel
theorem dX10_ofPatternNow_101 : decode cX10_ofPatternNow 101 = .ok (.istore 5, 2) := by decide +kernel
theorem dX10_ofPatternNow_103 : decode cX10_ofPatternNow 103 = .ok (.goto (-57), 3) := by decide +kernel
theorem dX10_ofPatternNow_106 : decode cX10_ofPatternNow 106 = .ok (.aload 4, 2) := by decide +kernel
theorem dX10_ofPatternNow_108 : decode cX10_ofPatternNow 108 = .ok (.iload_n 2, 1) := by decide +kernel
theorem dX10_ofPatternNow_109 : decode cX10_ofPatternNow 109 = .ok (.iaload, 1) := by decide +kernel
theorem dX10_ofPatternNow_110 : decode cX10_ofPatternNow 110 = .ok (.ireturn, 1) := by decide +kernel
theorem dX10_ofPattern_0 : decode cX10_ofPattern 0 = .ok (.aload_n 0, 1) := by decide +kernel
theorem dX10_ofPattern_1 : decode cX10_ofPattern 1 = .ok (.iconst 0, 1) := by decide +kernel
theorem dX10_ofPattern_2 : decode cX10_ofPattern 2 = .ok (.putfield 36, 3) := by decide +kernel
theorem dX10_ofPattern_5 : decode cX10_ofPattern 5 = .ok (.aload_n 0, 1) := by decide +kernel
theorem dX10_ofPattern_6 : decode cX10_ofPattern 6 = .ok (.iload_n 1, 1) := by decide +kernel
theorem dX10_ofPattern_7 : decode cX10_ofPattern 7 = .ok (.invokevirtual 197, 3) := by decide +kernel
theorem dX10_ofPattern_10 : decode cX10_ofPattern 10 = .ok (.ifCond .ne 9, 3) := by decide +kernel
theorem dX10_ofPattern_13 : decode cX10_ofPattern 13 = .ok (.aload_n 0, 1) := by decide +kernel
theorem dX10_ofPattern_14 : decode cX10_ofPattern 14 = .ok (.iconst 1, 1) := by decide +kernel
theorem dX10_ofPattern_15 : decode cX10_ofPattern 15 = .ok (.invokevirtual 113, 3) := by decide +kernel
theorem dX10_ofPattern_18 : decode cX10_ofPattern 18 = .ok (.ireturn, 1) := by decide +kernel
theorem dX10_ofPattern_19 : decode cX10_ofPattern 19 = .ok (.iload_n 2, 1) := by decide +kernel
theorem dX10_ofPattern_20 : decode cX10_ofPattern 20 = .ok (.iconst 0, 1) := by decide +kernel
theorem dX10_ofPattern_21 : decode cX10_ofPattern 21 = .ok (.iconst 4, 1) := by decide +kernel
theorem dX10_ofPattern_22 : decode cX10_ofPattern 22 = .ok (.invokestatic 109, 3) := by decide +kernel
theorem dX10_ofPattern_25 : decode cX10_ofPattern 25 = .ok (.ifCond .eq 12, 3) := by decide +kernel
theorem dX10_ofPattern_28 : decode cX10_ofPattern 28 = .ok (.aload_n 0, 1) := by decide +kernel
theorem dX10_ofPattern_29 : decode cX10_ofPattern 29 = .ok (.iload_n 1, 1) := by decide +kernel
theorem dX10_ofPattern_30 : decode cX10_ofPattern 30 = .ok (.iload_n 2, 1) := by decide +kernel
theorem dX10_ofPattern_31 : decode cX10_ofPattern 31 = .ok (.invokevirtual 265, 3) := by decide +kernel
theorem dX10_ofPattern_34 : decode cX10_ofPattern 34 = .ok (.goto 8, 3) := by decide +kernel
theorem dX10_ofPattern_37 : decode cX10_ofPattern 37 = .ok (.aload_n 0, 1) := by decide +kernel
theorem dX10_ofPattern_38 : decode cX10_ofPattern 38 = .ok (.iconst 2, 1) := by decide +kernel
theorem dX10_ofPattern_39 : decode cX10_ofPattern 39 = .ok (.invokevirtual 113, 3) := by decide +kernel
theorem dX10_ofPattern_42 : decode cX10_ofPattern 42 = .ok (.ireturn, 1) := by decide +kernel
theorem dX10_wouldNow_0 : decode cX10_wouldNow 0 = .ok (.aload_n 0, 1) := by decide +kernel
theorem dX10_wouldNow_1 : decode cX10_wouldNow 1 = .ok (.getfield 19, 3) := by decide +kernel
theorem dX10_wouldNow_4 : decode cX10_wouldNow 4 = .ok (.iload_n 1, 1) := by decide +kernel
theorem dX10_wouldNow_5 : decode cX10_wouldNow 5 = .ok (.invokevirtual 139, 3) := by decide +kernel
theorem dX10_wouldNow_8 : decode cX10_wouldNow 8 = .ok (.checkcast 47, 3) := by decide +kernel
theorem dX10_wouldNow_11 : decode cX10_wouldNow 11 = .ok (.invokevirtual 49, 3) := by decide +kernel
theorem dX10_wouldNow_14 : decode cX10_wouldNow 14 = .ok (.istore_n 3, 1) := by decide +kernel
theorem dX10_wouldNow_15 : decode cX10_wouldNow 15 = .ok (.aload_n 0, 1) := by decide +kernel
theorem dX10_wouldNow_16 : decode cX10_wouldNow 16 = .ok (.getfield 28, 3) := by decide +kernel
theorem dX10_wouldNow_19 : decode cX10_wouldNow 19 = .ok (.getfield 132, 3) := by decide +kernel
theorem dX10_wouldNow_22 : decode cX10_wouldNow 22 = .ok (.invokevirtual 39, 3) := by decide +kernel
theorem dX10_wouldNow_25 : decode cX10_wouldNow 25 = .ok (.istore 4, 2) := by decide +kernel
theorem dX10_wouldNow_27 : decode cX10_wouldNow 27 = .ok (.aload_n 0, 1) := by decide +kernel
theorem dX10_wouldNow_28 : decode cX10_wouldNow 28 = .ok (.getfield 28, 3) := by decide +kernel
theorem dX10_wouldNow_31 : decode cX10_wouldNow 31 = .ok (.invokevirtual 122, 3) := by decide +kernel
theorem dX10_wouldNow_34 : decode cX10_wouldNow 34 = .ok (.istore 5, 2) := by decide +kernel
theorem dX10_wouldNow_36 : decode cX10_wouldNow 36 = .ok (.aload_n 0, 1) := by decide +kernel
theorem dX10_wouldNow_37 : decode cX10_wouldNow 37 = .ok (.invokevirtual 120, 3) := by decide +kernel
theorem dX10_wouldNow_40 : decode cX10_wouldNow 40 = .ok (.istore 6, 2) := by decide +kernel
theorem dX10_wouldNow_42 : decode cX10_wouldNow 42 = .ok (.iconst 0, 1) := by decide +kernel
theorem dX10_wouldNow_43 : decode cX10_wouldNow 43 = .ok (.istore 7, 2) := by decide +kernel
theorem dX10_wouldNow_45 : decode cX10_wouldNow 45 = .ok (.iload 7, 2) := by decide +kernel
theorem dX10_wouldNow_47 : decode cX10_wouldNow 47 = .ok (.bipush 99, 2) := by decide +kernel
theorem dX10_wouldNow_49 : decode cX10_wouldNow 49 = .ok (.if_icmp .ge 80, 3) := by decide +kernel
theorem dX10_wouldNow_52 : decode cX10_wouldNow 52 = .ok (.iload 4, 2) := by decide +kernel
theorem dX10_wouldNow_54 : decode cX10_wouldNow 54 = .ok (.ifCond .le 75, 3) := by decide +kernel
theorem dX10_wouldNow_57 : decode cX10_wouldNow 57 = .ok (.iload_n 3, 1) := by decide +kernel
theorem dX10_wouldNow_58 : decode cX10_wouldNow 58 = .ok (.iload 7, 2) := by decide +kernel
theorem dX10_wouldNow_60 : decode cX10_wouldNow 60 = .ok (.iload_n 3, 1) := by decide +kernel
theorem dX10_wouldNow_61 : decode cX10_wouldNow 61 = .ok (.invokestatic 188, 3) := by decide +kernel
theorem dX10_wouldNow_64 : decode cX10_wouldNow 64 = .ok (.irem, 1) := by decide +kernel
theorem dX10_wouldNow_65 : decode cX10_wouldNow 65 = .ok (.invokestatic 200, 3) := by decide +kernel
theorem dX10_wouldNow_68 : decode cX10_wouldNow 68 = .ok (.istore 8, 2) := by decide +kernel
theorem dX10_wouldNow_70 : decode cX10_wouldNow 70 = .ok (.iload 8, 2) := by decide +kernel
theorem dX10_wouldNow_72 : decode cX10_wouldNow 72 = .ok (.iload 4, 2) := by decide +kernel
theorem dX10_wouldNow_74 : decode cX10_wouldNow 74 = .ok (.iload 5, 2) := by decide +kernel
theorem dX10_wouldNow_76 : decode cX10_wouldNow 76 = .ok (.iload 6, 2) := by decide +kernel
theorem dX10_wouldNow_78 : decode cX10_wouldNow 78 = .ok (.invokestatic 203, 3) := by decide +kernel
theorem dX10_wouldNow_81 : decode cX10_wouldNow 81 = .ok (.ifCond .ne 6, 3) := by decide +kernel
theorem dX10_wouldNow_84 : decode cX10_wouldNow 84 = .ok (.goto 45, 3) := by decide +kernel
theorem dX10_wouldNow_87 : decode cX10_wouldNow 87 = .ok (.iload 4, 2) := by decide +kernel
theorem dX10_wouldNow_89 : decode cX10_wouldNow 89 = .ok (.iload 8, 2) := by decide +kernel
theorem dX10_wouldNow_91 : decode cX10_wouldNow 91 = .ok (.invokestatic 194, 3) := by decide +kernel
theorem dX10_wouldNow_94 : decode cX10_wouldNow 94 = .ok (.isub, 1) := by decide +kernel
theorem dX10_wouldNow_95 : decode cX10_wouldNow 95 = .ok (.istore 4, 2) := by decide +kernel
theorem dX10_wouldNow_97 : decode cX10_wouldNow 97 = .ok (.iload 5, 2) := by decide +kernel
theorem dX10_wouldNow_99 : decode cX10_wouldNow 99 = .ok (.iload 8, 2) := by decide +kernel
theorem dX10_wouldNow_101 : decode cX10_wouldNow 101 = .ok (.invokestatic 262, 3) := by decide +kernel
theorem dX10_wouldNow_104 : decode cX10_wouldNow 104 = .ok (.iload 8, 2) := by decide +kernel
theorem dX10_wouldNow_106 : decode cX10_wouldNow 106 = .ok (.invokestatic 194, 3) := by decide +kernel
theorem dX10_wouldNow_109 : decode cX10_wouldNow 109 = .ok (.isub, 1) := by decide +kernel
theorem dX10_wouldNow_110 : decode cX10_wouldNow 110 = .ok (.iadd, 1) := by decide +kernel
theorem dX10_wouldNow_111 : decode cX10_wouldNow 111 = .ok (.istore 5, 2) := by decide +kernel
theorem dX10_wouldNow_113 : decode cX10_wouldNow 113 = .ok (.iload 6, 2) := by decide +kernel
theorem dX10_wouldNow_115 : decode cX10_wouldNow 115 = .ok (.iload 8, 2) := by decide +kernel
theorem dX10_wouldNow_117 : decode cX10_wouldNow 117 = .ok (.invokestatic 191, 3) := by decide +kernel
theorem dX10_wouldNow_120 : decode cX10_wouldNow 120 = .ok (.isub, 1) := by decide +kernel
theorem dX10_wouldNow_121 : decode cX10_wouldNow 121 = .ok (.istore 6, 2) := by decide +kernel
theorem dX10_wouldNow_123 : decode cX10_wouldNow 123 = .ok (.iinc 7 1, 3) := by decide +kernel
theorem dX10_wouldNow_126 : decode cX10_wouldNow 126 = .ok (.goto (-81), 3) := by decide +kernel
theorem dX10_wouldNow_129 : decode cX10_wouldNow 129 = .ok (.iload_n 2, 1) := by decide +kernel
theorem dX10_wouldNow_130 : decode cX10_wouldNow 130 = .ok (.ifCond .ne 6, 3) := by decide +kernel
theorem dX10_wouldNow_133 : decode cX10_wouldNow 133 = .ok (.iload 5, 2) := by decide +kernel
theorem dX10_wouldNow_135 : decode cX10_wouldNow 135 = .ok (.ireturn, 1) := by decide +kernel
theorem dX10_wouldNow_136 : decode cX10_wouldNow 136 = .ok (.iload_n 2, 1) := by decide +kernel
theorem dX10_wouldNow_137 : decode cX10_wouldNow 137 = .ok (.iconst 1, 1) := by decide +kernel
theorem dX10_wouldNow_138 : decode cX10_wouldNow 138 = .ok (.if_icmp .ne 13, 3) := by decide +kernel
theorem dX10_wouldNow_141 : decode cX10_wouldNow 141 = .ok (.aload_n 0, 1) := by decide +kernel
theorem dX10_wouldNow_142 : decode cX10_wouldNow 142 = .ok (.invokevirtual 120, 3) := by decide +kernel
theorem dX10_wouldNow_145 : decode cX10_wouldNow 145 = .ok (.iload 6, 2) := by decide +kernel
theorem dX10_wouldNow_147 : decode cX10_wouldNow 147 = .ok (.isub, 1) := by decide +kernel
theorem dX10_wouldNow_148 : decode cX10_wouldNow 148 = .ok (.goto 28, 3) := by decide +kernel
theorem dX10_wouldNow_151 : decode cX10_wouldNow 151 = .ok (.iload 4, 2) := by decide +kernel
theorem dX10_wouldNow_153 : decode cX10_wouldNow 153 = .ok (.ifCond .ne 22, 3) := by decide +kernel
theorem dX10_wouldNow_156 : decode cX10_wouldNow 156 = .ok (.iload 7, 2) := by decide +kernel
theorem dX10_wouldNow_158 : decode cX10_wouldNow 158 = .ok (.ifCond .le 17, 3) := by decide +kernel
theorem dX10_wouldNow_161 : decode cX10_wouldNow 161 = .ok (.iload 7, 2) := by decide +kernel
theorem dX10_wouldNow_163 : decode cX10_wouldNow 163 = .ok (.iload_n 3, 1) := by decide +kernel
theorem dX10_wouldNow_164 : decode cX10_wouldNow 164 = .ok (.invokestatic 188, 3) := by decide +kernel
theorem dX10_wouldNow_167 : decode cX10_wouldNow 167 = .ok (.irem, 1) := by decide +kernel
theorem dX10_wouldNow_168 : decode cX10_wouldNow 168 = .ok (.ifCond .ne 7, 3) := by decide +kernel
theorem dX10_wouldNow_171 : decode cX10_wouldNow 171 = .ok (.iconst 1, 1) := by decide +kernel
theorem dX10_wouldNow_172 : decode cX10_wouldNow 172 = .ok (.goto 4, 3) := by decide +kernel
theorem dX10_wouldNow_175 : decode cX10_wouldNow 175 = .ok (.iconst 0, 1) := by decide +kernel
theorem dX10_wouldNow_176 : decode cX10_wouldNow 176 = .ok (.ireturn, 1) := by decide +kernel
theorem dX10_would_0 : decode cX10_would 0 = .ok (.aload_n 0, 1) := by decide +kernel
theorem dX10_would_1 : decode cX10_would 1 = .ok (.iconst 0, 1) := by decide +kernel
theorem dX10_would_2 : decode cX10_would 2 = .ok (.putfield 36, 3) := by decide +kernel
theorem dX10_would_5 : decode cX10_would 5 = .ok (.aload_n 0, 1) := by decide +kernel
theorem dX10_would_6 : decode cX10_would 6 = .ok (.iload_n 1, 1) := by decide +kernel
theorem dX10_would_7 : decode cX10_would 7 = .ok (.invokevirtual 197, 3) := by decide +kernel
theorem dX10_would_10 : decode cX10_would 10 = .ok (.ifCond .eq 12, 3) := by decide +kernel
theorem dX10_would_13 : decode cX10_would 13 = .ok (.aload_n 0, 1) := by decide +kernel
theorem dX10_would_14 : decode cX10_would 14 = .ok (.iload_n 1, 1) := by decide +kernel
theorem dX10_would_15 : decode cX10_would 15 = .ok (.iconst 0, 1) := by decide +kernel
theorem dX10_would_16 : decode cX10_would 16 = .ok (.invokevirtual 268, 3) := by decide +kernel
theorem dX10_would_19 : decode cX10_would 19 = .ok (.goto 8, 3) := by decide +kernel
theorem dX10_would_22 : decode cX10_would 22 = .ok (.aload_n 0, 1) := by decide +kernel
theorem dX10_would_23 : decode cX10_would 23 = .ok (.iconst 1, 1) := by decide +kernel
theorem dX10_would_24 : decode cX10_would 24 = .ok (.invokevirtual 113, 3) := by decide +kernel
theorem dX10_would_27 : decode cX10_would 27 = .ok (.ireturn, 1) := by decide +kernel
theorem dX10_needs_0 : decode cX10_needs 0 = .ok (.aload_n 0, 1) := by decide +kernel
theorem dX10_needs_1 : decode cX10_needs 1 = .ok (.iconst 0, 1) := by decide +kernel
theorem dX10_needs_2 : decode cX10_needs 2 = .ok (.putfield 36, 3) := by decide +kernel
theorem dX10_needs_5 : decode cX10_needs 5 = .ok (.aload_n 0, 1) := by decide +kernel
theorem dX10_needs_6 : decode cX10_needs 6 = .ok (.iload_n 1, 1) := by decide +kernel
theorem dX10_needs_7 : decode cX10_needs 7 = .ok (.invokevirtual 197, 3) := by decide +kernel
theorem dX10_needs_10 : decode cX10_needs 10 = .ok (.ifCond .eq 12, 3) := by decide +kernel
theorem dX10_needs_13 : decode cX10_needs 13 = .ok (.aload_n 0, 1) := by decide +kernel
theorem dX10_needs_14 : decode cX10_needs 14 = .ok (.iload_n 1, 1) := by decide +kernel
theorem dX10_needs_15 : decode cX10_needs 15 = .ok (.iconst 1, 1) := by decide +kernel
theorem dX10_needs_16 : decode cX10_needs 16 = .ok (.invokevirtual 268, 3) := by decide +kernel
theorem dX10_needs_19 : decode cX10_needs 19 = .ok (.goto 8, 3) := by decide +kernel
theorem dX10_needs_22 : decode cX10_needs 22 = .ok (.aload_n 0, 1) := by decide +kernel
theorem dX10_needs_23 : decode cX10_needs 23 = .ok (.iconst 1, 1) := by decide +kernel
theorem dX10_needs_24 : decode cX10_needs 24 = .ok (.invokevirtual 113, 3) := by decide +kernel
theorem dX10_needs_27 : decode cX10_needs 27 = .ok (.ireturn, 1) := by decide +kernel
theorem dX10_bestNow_0 : decode cX10_bestNow 0 = .ok (.iconst (-1), 1) := by decide +kernel
theorem dX10_bestNow_1 : decode cX10_bestNow 1 = .ok (.istore_n 1, 1) := by decide +kernel
theorem dX10_bestNow_2 : decode cX10_bestNow 2 = .ok (.iconst 0, 1) := by decide +kernel
theorem dX10_bestNow_3 : decode cX10_bestNow 3 = .ok (.istore_n 2, 1) := by decide +kernel
theorem dX10_bestNow_4 : decode cX10_bestNow 4 = .ok (.iload_n 2, 1) := by decide +kernel
theorem dX10_bestNow_5 : decode cX10_bestNow 5 = .ok (.aload_n 0, 1) := by decide +kernel
theorem dX10_bestNow_6 : decode cX10_bestNow 6 = .ok (.getfield 19, 3) := by decide +kernel
theorem dX10_bestNow_9 : decode cX10_bestNow 9 = .ok (.invokevirtual 39, 3) := by decide +kernel
theorem dX10_bestNow_12 : decode cX10_bestNow 12 = .ok (.if_icmp .ge 41, 3) := by decide +kernel
theorem dX10_bestNow_15 : decode cX10_bestNow 15 = .ok (.aload_n 0, 1) := by decide +kernel
theorem dX10_bestNow_16 : decode cX10_bestNow 16 = .ok (.iload_n 2, 1) := by decide +kernel
theorem dX10_bestNow_17 : decode cX10_bestNow 17 = .ok (.iconst 2, 1) := by decide +kernel
theorem dX10_bestNow_18 : decode cX10_bestNow 18 = .ok (.invokevirtual 268, 3) := by decide +kernel
theorem dX10_bestNow_21 : decode cX10_bestNow 21 = .ok (.iconst 1, 1) := by decide +kernel
theorem dX10_bestNow_22 : decode cX10_bestNow 22 = .ok (.if_icmp .ne 25, 3) := by decide +kernel
theorem dX10_bestNow_25 : decode cX10_bestNow 25 = .ok (.iload_n 1, 1) := by decide +kernel
theorem dX10_bestNow_26 : decode cX10_bestNow 26 = .ok (.iconst (-1), 1) := by decide +kernel
theorem dX10_bestNow_27 : decode cX10_bestNow 27 = .ok (.if_icmp .eq 18, 3) := by decide +kernel
theorem dX10_bestNow_30 : decode cX10_bestNow 30 = .ok (.aload_n 0, 1) := by decide +kernel
theorem dX10_bestNow_31 : decode cX10_bestNow 31 = .ok (.iload_n 2, 1) := by decide +kernel
theorem dX10_bestNow_32 : decode cX10_bestNow 32 = .ok (.iconst 1, 1) := by decide +kernel
theorem dX10_bestNow_33 : decode cX10_bestNow 33 = .ok (.invokevirtual 268, 3) := by decide +kernel
theorem dX10_bestNow_36 : decode cX10_bestNow 36 = .ok (.aload_n 0, 1) := by decide +kernel
theorem dX10_bestNow_37 : decode cX10_bestNow 37 = .ok (.iload_n 1, 1) := by decide +kernel
theorem dX10_bestNow_38 : decode cX10_bestNow 38 = .ok (.iconst 1, 1) := by decide +kernel
theorem dX10_bestNow_39 : decode cX10_bestNow 39 = .ok (.invokevirtual 268, 3) := by decide +kernel
theorem dX10_bestNow_42 : decode cX10_bestNow 42 = .ok (.if_icmp .ge 5, 3) := by decide +kernel
theorem dX10_bestNow_45 : decode cX10_bestNow 45 = .ok (.iload_n 2, 1) := by decide +kernel
theorem dX10_bestNow_46 : decode cX10_bestNow 46 = .ok (.istore_n 1, 1) := by decide +kernel
theorem dX10_bestNow_47 : decode cX10_bestNow 47 = .ok (.iinc 2 1, 3) := by decide +kernel
theorem dX10_bestNow_50 : decode cX10_bestNow 50 = .ok (.goto (-46), 3) := by decide +kernel
theorem dX10_bestNow_53 : decode cX10_bestNow 53 = .ok (.iload_n 1, 1) := by decide +kernel
theorem dX10_bestNow_54 : decode cX10_bestNow 54 = .ok (.ireturn, 1) := by decide +kernel
theorem dX10_best_0 : decode cX10_best 0 = .ok (.aload_n 0, 1) := by decide +kernel
theorem dX10_best_1 : decode cX10_best 1 = .ok (.iconst 0, 1) := by decide +kernel
theorem dX10_best_2 : decode cX10_best 2 = .ok (.putfield 36, 3) := by decide +kernel
theorem dX10_best_5 : decode cX10_best 5 = .ok (.aload_n 0, 1) := by decide +kernel
theorem dX10_best_6 : decode cX10_best 6 = .ok (.invokevirtual 271, 3) := by decide +kernel
theorem dX10_best_9 : decode cX10_best 9 = .ok (.ireturn, 1) := by decide +kernel
theorem dX10_add_0 : decode cX10_add 0 = .ok (.aload_n 0, 1) := by decide +kernel
theorem dX10_add_1 : decode cX10_add 1 = .ok (.aload_n 0, 1) := by decide +kernel
theorem dX10_add_2 : decode cX10_add 2 = .ok (.getfield 274, 3) := by decide +kernel
theorem dX10_add_5 : decode cX10_add 5 = .ok (.ldc2_w 278, 3) := by decide +kernel
theorem dX10_add_8 : decode cX10_add 8 = .ok (.lmul, 1) := by decide +kernel
theorem dX10_add_9 : decode cX10_add 9 = .ok (.iload_n 1, 1) := by decide +kernel
theorem dX10_add_10 : decode cX10_add 10 = .ok (.i2l, 1) := by decide +kernel
theorem dX10_add_11 : decode cX10_add 11 = .ok (.ladd, 1) := by decide +kernel
theorem dX10_add_12 : decode cX10_add 12 = .ok (.putfield 274, 3) := by decide +kernel
theorem dX10_add_15 : decode cX10_add 15 = .ok (.return_, 1) := by decide +kernel
theorem dX10_addNeedle_0 : decode cX10_addNeedle 0 = .ok (.aload_n 0, 1) := by decide +kernel
theorem dX10_addNeedle_1 : decode cX10_addNeedle 1 = .ok (.iload_n 1, 1) := by decide +kernel
theorem dX10_addNeedle_2 : decode cX10_addNeedle 2 = .ok (.invokevirtual 211, 3) := by decide +kernel
theorem dX10_addNeedle_5 : decode cX10_addNeedle 5 = .ok (.astore_n 2, 1) := by decide +kernel
theorem dX10_addNeedle_6 : decode cX10_addNeedle 6 = .ok (.aload_n 2, 1) := by decide +kernel
theorem dX10_addNeedle_7 : decode cX10_addNeedle 7 = .ok (.invokevirtual 39, 3) := by decide +kernel
theorem dX10_addNeedle_10 : decode cX10_addNeedle 10 = .ok (.iconst 1, 1) := by decide +kernel
theorem dX10_addNeedle_11 : decode cX10_addNeedle 11 = .ok (.isub, 1) := by decide +kernel
theorem dX10_addNeedle_12 : decode cX10_addNeedle 12 = .ok (.istore_n 3, 1) := by decide +kernel
theorem dX10_addNeedle_13 : decode cX10_addNeedle 13 = .ok (.iload_n 3, 1) := by decide +kernel
theorem dX10_addNeedle_14 : decode cX10_addNeedle 14 = .ok (.ifCond .lt 61, 3) := by decide +kernel
theorem dX10_addNeedle_17 : decode cX10_addNeedle 17 = .ok (.aload_n 0, 1) := by decide +kernel
theorem dX10_addNeedle_18 : decode cX10_addNeedle 18 = .ok (.aload_n 2, 1) := by decide +kernel
theorem dX10_addNeedle_19 : decode cX10_addNeedle 19 = .ok (.iload_n 3, 1) := by decide +kernel
theorem dX10_addNeedle_20 : decode cX10_addNeedle 20 = .ok (.invokevirtual 139, 3) := by decide +kernel
theorem dX10_addNeedle_23 : decode cX10_addNeedle 23 = .ok (.checkcast 47, 3) := by decide +kernel
theorem dX10_addNeedle_26 : decode cX10_addNeedle 26 = .ok (.invokevirtual 49, 3) := by decide +kernel
theorem dX10_addNeedle_29 : decode cX10_addNeedle 29 = .ok (.invokevirtual 280, 3) := by decide +kernel
theorem dX10_addNeedle_32 : decode cX10_addNeedle 32 = .ok (.iconst 0, 1) := by decide +kernel
theorem dX10_addNeedle_33 : decode cX10_addNeedle 33 = .ok (.istore 4, 2) := by decide +kernel
theorem dX10_addNeedle_35 : decode cX10_addNeedle 35 = .ok (.iload 4, 2) := by decide +kernel
theorem dX10_addNeedle_37 : decode cX10_addNeedle 37 = .ok (.bipush 6, 2) := by decide +kernel
theorem dX10_addNeedle_39 : decode cX10_addNeedle 39 = .ok (.if_icmp .ge 30, 3) := by decide +kernel
theorem dX10_addNeedle_42 : decode cX10_addNeedle 42 = .ok (.aload_n 0, 1) := by decide +kernel
theorem dX10_addNeedle_43 : decode cX10_addNeedle 43 = .ok (.aload_n 0, 1) := by decide +kernel
theorem dX10_addNeedle_44 : decode cX10_addNeedle 44 = .ok (.aload_n 2, 1) := by decide +kernel
theorem dX10_addNeedle_45 : decode cX10_addNeedle 45 = .ok (.iload_n 3, 1) := by decide +kernel
theorem dX10_addNeedle_46 : decode cX10_addNeedle 46 = .ok (.invokevirtual 139, 3) := by decide +kernel
theorem dX10_addNeedle_49 : decode cX10_addNeedle 49 = .ok (.checkcast 47, 3) := by decide +kernel
theorem dX10_addNeedle_52 : decode cX10_addNeedle 52 = .ok (.invokevirtual 49, 3) := by decide +kernel
theorem dX10_addNeedle_55 : decode cX10_addNeedle 55 = .ok (.iload 4, 2) := by decide +kernel
theorem dX10_addNeedle_57 : decode cX10_addNeedle 57 = .ok (.invokevirtual 232, 3) := by decide +kernel
theorem dX10_addNeedle_60 : decode cX10_addNeedle 60 = .ok (.invokevirtual 280, 3) := by decide +kernel
theorem dX10_addNeedle_63 : decode cX10_addNeedle 63 = .ok (.iinc 4 1, 3) := by decide +kernel
theorem dX10_addNeedle_66 : decode cX10_addNeedle 66 = .ok (.goto (-31), 3) := by decide +kernel
theorem dX10_addNeedle_69 : decode cX10_addNeedle 69 = .ok (.iinc 3 (-1), 3) := by decide +kernel
theorem dX10_addNeedle_72 : decode cX10_addNeedle 72 = .ok (.goto (-59), 3) := by decide +kernel
theorem dX10_addNeedle_75 : decode cX10_addNeedle 75 = .ok (.return_, 1) := by decide +kernel
theorem dX10_digest_0 : decode cX10_digest 0 = .ok (.aload_n 0, 1) := by decide +kernel
theorem dX10_digest_1 : decode cX10_digest 1 = .ok (.iconst 0, 1) := by decide +kernel
theorem dX10_digest_2 : decode cX10_digest 2 = .ok (.putfield 36, 3) := by decide +kernel
theorem dX10_digest_5 : decode cX10_digest 5 = .ok (.aload_n 0, 1) := by decide +kernel
theorem dX10_digest_6 : decode cX10_digest 6 = .ok (.ldc2_w 282, 3) := by decide +kernel
theorem dX10_digest_9 : decode cX10_digest 9 = .ok (.putfield 274, 3) := by decide +kernel
theorem dX10_digest_12 : decode cX10_digest 12 = .ok (.iconst 0, 1) := by decide +kernel
theorem dX10_digest_13 : decode cX10_digest 13 = .ok (.istore_n 1, 1) := by decide +kernel
theorem dX10_digest_14 : decode cX10_digest 14 = .ok (.iload_n 1, 1) := by decide +kernel
theorem dX10_digest_15 : decode cX10_digest 15 = .ok (.bipush 16, 2) := by decide +kernel
theorem dX10_digest_17 : decode cX10_digest 17 = .ok (.if_icmp .ge 18, 3) := by decide +kernel
theorem dX10_digest_20 : decode cX10_digest 20 = .ok (.aload_n 0, 1) := by decide +kernel
theorem dX10_digest_21 : decode cX10_digest 21 = .ok (.aload_n 0, 1) := by decide +kernel
theorem dX10_digest_22 : decode cX10_digest 22 = .ok (.iload_n 1, 1) := by decide +kernel
theorem dX10_digest_23 : decode cX10_digest 23 = .ok (.invokevirtual 259, 3) := by decide +kernel
theorem dX10_digest_26 : decode cX10_digest 26 = .ok (.invokevirtual 280, 3) := by decide +kernel
theorem dX10_digest_29 : decode cX10_digest 29 = .ok (.iinc 1 1, 3) := by decide +kernel
theorem dX10_digest_32 : decode cX10_digest 32 = .ok (.goto (-18), 3) := by decide +kernel
theorem dX10_digest_35 : decode cX10_digest 35 = .ok (.iconst 0, 1) := by decide +kernel
theorem dX10_digest_36 : decode cX10_digest 36 = .ok (.istore_n 1, 1) := by decide +kernel
theorem dX10_digest_37 : decode cX10_digest 37 = .ok (.iload_n 1, 1) := by decide +kernel
theorem dX10_digest_38 : decode cX10_digest 38 = .ok (.aload_n 0, 1) := by decide +kernel
theorem dX10_digest_39 : decode cX10_digest 39 = .ok (.getfield 117, 3) := by decide +kernel
theorem dX10_digest_42 : decode cX10_digest 42 = .ok (.if_icmp .ge 22, 3) := by decide +kernel
theorem dX10_digest_45 : decode cX10_digest 45 = .ok (.aload_n 0, 1) := by decide +kernel
theorem dX10_digest_46 : decode cX10_digest 46 = .ok (.aload_n 0, 1) := by decide +kernel
theorem dX10_digest_47 : decode cX10_digest 47 = .ok (.getfield 28, 3) := by decide +kernel
theorem dX10_digest_50 : decode cX10_digest 50 = .ok (.getfield 52, 3) := by decide +kernel
theorem dX10_digest_53 : decode cX10_digest 53 = .ok (.iload_n 1, 1) := by decide +kernel
theorem dX10_digest_54 : decode cX10_digest 54 = .ok (.iaload, 1) := by decide +kernel
theorem dX10_digest_55 : decode cX10_digest 55 = .ok (.invokevirtual 280, 3) := by decide +kernel
theorem dX10_digest_58 : decode cX10_digest 58 = .ok (.iinc 1 1, 3) := by decide +kernel
theorem dX10_digest_61 : decode cX10_digest 61 = .ok (.goto (-24), 3) := by decide +kernel
theorem dX10_digest_64 : decode cX10_digest 64 = .ok (.aload_n 0, 1) := by decide +kernel
theorem dX10_digest_65 : decode cX10_digest 65 = .ok (.iconst 0, 1) := by decide +kernel
theorem dX10_digest_66 : decode cX10_digest 66 = .ok (.invokevirtual 284, 3) := by decide +kernel
theorem dX10_digest_69 : decode cX10_digest 69 = .ok (.aload_n 0, 1) := by decide +kernel
theorem dX10_digest_70 : decode cX10_digest 70 = .ok (.iconst 1, 1) := by decide +kernel
theorem dX10_digest_71 : decode cX10_digest 71 = .ok (.invokevirtual 284, 3) := by decide +kernel
theorem dX10_digest_74 : decode cX10_digest 74 = .ok (.aload_n 0, 1) := by decide +kernel
theorem dX10_digest_75 : decode cX10_digest 75 = .ok (.aload_n 0, 1) := by decide +kernel
theorem dX10_digest_76 : decode cX10_digest 76 = .ok (.iconst 0, 1) := by decide +kernel
theorem dX10_digest_77 : decode cX10_digest 77 = .ok (.invokevirtual 254, 3) := by decide +kernel
theorem dX10_digest_80 : decode cX10_digest 80 = .ok (.invokevirtual 280, 3) := by decide +kernel
theorem dX10_digest_83 : decode cX10_digest 83 = .ok (.aload_n 0, 1) := by decide +kernel
theorem dX10_digest_84 : decode cX10_digest 84 = .ok (.aload_n 0, 1) := by decide +kernel
theorem dX10_digest_85 : decode cX10_digest 85 = .ok (.iconst 1, 1) := by decide +kernel
theorem dX10_digest_86 : decode cX10_digest 86 = .ok (.invokevirtual 254, 3) := by decide +kernel
theorem dX10_digest_89 : decode cX10_digest 89 = .ok (.invokevirtual 280, 3) := by decide +kernel
theorem dX10_digest_92 : decode cX10_digest 92 = .ok (.aload_n 0, 1) := by decide +kernel
theorem dX10_digest_93 : decode cX10_digest 93 = .ok (.getfield 28, 3) := by decide +kernel
theorem dX10_digest_96 : decode cX10_digest 96 = .ok (.getfield 85, 3) := by decide +kernel
theorem dX10_digest_99 : decode cX10_digest 99 = .ok (.invokevirtual 88, 3) := by decide +kernel
theorem dX10_digest_102 : decode cX10_digest 102 = .ok (.astore_n 1, 1) := by decide +kernel
theorem dX10_digest_103 : decode cX10_digest 103 = .ok (.aload_n 1, 1) := by decide +kernel
theorem dX10_digest_104 : decode cX10_digest 104 = .ok (.invokeinterface 92 1, 5) := by decide +kernel
theorem dX10_digest_109 : decode cX10_digest 109 = .ok (.ifCond .eq 50, 3) := by decide +kernel
theorem dX10_digest_112 : decode cX10_digest 112 = .ok (.aload_n 1, 1) := by decide +kernel
theorem dX10_digest_113 : decode cX10_digest 113 = .ok (.invokeinterface 98 1, 5) := by decide +kernel
theorem dX10_digest_118 : decode cX10_digest 118 = .ok (.checkcast 102, 3) := by decide +kernel
theorem dX10_digest_121 : decode cX10_digest 121 = .ok (.astore_n 2, 1) := by decide +kernel
theorem dX10_digest_122 : decode cX10_digest 122 = .ok (.aload_n 2, 1) := by decide +kernel
theorem dX10_digest_123 : decode cX10_digest 123 = .ok (.astore_n 3, 1) := by decide +kernel
theorem dX10_digest_124 : decode cX10_digest 124 = .ok (.aload_n 3, 1) := by decide +kernel
theorem dX10_digest_125 : decode cX10_digest 125 = .ok (.arraylength, 1) := by decide +kernel
theorem dX10_digest_126 : decode cX10_digest 126 = .ok (.istore 4, 2) := by decide +kernel
theorem dX10_digest_128 : decode cX10_digest 128 = .ok (.iconst 0, 1) := by decide +kernel
theorem dX10_digest_129 : decode cX10_digest 129 = .ok (.istore 5, 2) := by decide +kernel
theorem dX10_digest_131 : decode cX10_digest 131 = .ok (.iload 5, 2) := by decide +kernel
theorem dX10_digest_133 : decode cX10_digest 133 = .ok (.iload 4, 2) := by decide +kernel
theorem dX10_digest_135 : decode cX10_digest 135 = .ok (.if_icmp .ge 21, 3) := by decide +kernel
theorem dX10_digest_138 : decode cX10_digest 138 = .ok (.aload_n 3, 1) := by decide +kernel
theorem dX10_digest_139 : decode cX10_digest 139 = .ok (.iload 5, 2) := by decide +kernel
theorem dX10_digest_141 : decode cX10_digest 141 = .ok (.iaload, 1) := by decide +kernel
theorem dX10_digest_142 : decode cX10_digest 142 = .ok (.istore 6, 2) := by decide +kernel
theorem dX10_digest_144 : decode cX10_digest 144 = .ok (.aload_n 0, 1) := by decide +kernel
theorem dX10_digest_145 : decode cX10_digest 145 = .ok (.iload 6, 2) := by decide +kernel
theorem dX10_digest_147 : decode cX10_digest 147 = .ok (.invokevirtual 280, 3) := by decide +kernel
theorem dX10_digest_150 : decode cX10_digest 150 = .ok (.iinc 5 1, 3) := by decide +kernel
theorem dX10_digest_153 : decode cX10_digest 153 = .ok (.goto (-22), 3) := by decide +kernel
theorem dX10_digest_156 : decode cX10_digest 156 = .ok (.goto (-53), 3) := by decide +kernel
theorem dX10_digest_159 : decode cX10_digest 159 = .ok (.iconst 0, 1) := by decide +kernel
theorem dX10_digest_160 : decode cX10_digest 160 = .ok (.istore_n 1, 1) := by decide +kernel
theorem dX10_digest_161 : decode cX10_digest 161 = .ok (.iload_n 1, 1) := by decide +kernel
theorem dX10_digest_162 : decode cX10_digest 162 = .ok (.aload_n 0, 1) := by decide +kernel
theorem dX10_digest_163 : decode cX10_digest 163 = .ok (.getfield 19, 3) := by decide +kernel
theorem dX10_digest_166 : decode cX10_digest 166 = .ok (.invokevirtual 39, 3) := by decide +kernel
theorem dX10_digest_169 : decode cX10_digest 169 = .ok (.if_icmp .ge 52, 3) := by decide +kernel
theorem dX10_digest_172 : decode cX10_digest 172 = .ok (.iconst 0, 1) := by decide +kernel
theorem dX10_digest_173 : decode cX10_digest 173 = .ok (.istore_n 2, 1) := by decide +kernel
theorem dX10_digest_174 : decode cX10_digest 174 = .ok (.iload_n 2, 1) := by decide +kernel
theorem dX10_digest_175 : decode cX10_digest 175 = .ok (.iconst 5, 1) := by decide +kernel
theorem dX10_digest_176 : decode cX10_digest 176 = .ok (.if_icmp .ge 19, 3) := by decide +kernel
theorem dX10_digest_179 : decode cX10_digest 179 = .ok (.aload_n 0, 1) := by decide +kernel
theorem dX10_digest_180 : decode cX10_digest 180 = .ok (.aload_n 0, 1) := by decide +kernel
theorem dX10_digest_181 : decode cX10_digest 181 = .ok (.iload_n 1, 1) := by decide +kernel
theorem dX10_digest_182 : decode cX10_digest 182 = .ok (.iload_n 2, 1) := by decide +kernel
theorem dX10_digest_183 : decode cX10_digest 183 = .ok (.invokevirtual 265, 3) := by decide +kernel
theorem dX10_digest_186 : decode cX10_digest 186 = .ok (.invokevirtual 280, 3) := by decide +kernel
theorem dX10_digest_189 : decode cX10_digest 189 = .ok (.iinc 2 1, 3) := by decide +kernel
theorem dX10_digest_192 : decode cX10_digest 192 = .ok (.goto (-18), 3) := by decide +kernel
theorem dX10_digest_195 : decode cX10_digest 195 = .ok (.aload_n 0, 1) := by decide +kernel
theorem dX10_digest_196 : decode cX10_digest 196 = .ok (.aload_n 0, 1) := by decide +kernel
theorem dX10_digest_197 : decode cX10_digest 197 = .ok (.iload_n 1, 1) := by decide +kernel
theorem dX10_digest_198 : decode cX10_digest 198 = .ok (.iconst 0, 1) := by decide +kernel
theorem dX10_digest_199 : decode cX10_digest 199 = .ok (.invokevirtual 268, 3) := by decide +kernel
theorem dX10_digest_202 : decode cX10_digest 202 = .ok (.invokevirtual 280, 3) := by decide +kernel
theorem dX10_digest_205 : decode cX10_digest 205 = .ok (.aload_n 0, 1) := by decide +kernel
theorem dX10_digest_206 : decode cX10_digest 206 = .ok (.aload_n 0, 1) := by decide +kernel
theorem dX10_digest_207 : decode cX10_digest 207 = .ok (.iload_n 1, 1) := by decide +kernel
theorem dX10_digest_208 : decode cX10_digest 208 = .ok (.iconst 1, 1) := by decide +kernel
theorem dX10_digest_209 : decode cX10_digest 209 = .ok (.invokevirtual 268, 3) := by decide +kernel
theorem dX10_digest_212 : decode cX10_digest 212 = .ok (.invokevirtual 280, 3) := by decide +kernel
theorem dX10_digest_215 : decode cX10_digest 215 = .ok (.iinc 1 1, 3) := by decide +kernel
theorem dX10_digest_218 : decode cX10_digest 218 = .ok (.goto (-57), 3) := by decide +kernel
theorem dX10_digest_221 : decode cX10_digest 221 = .ok (.aload_n 0, 1) := by decide +kernel
theorem dX10_digest_222 : decode cX10_digest 222 = .ok (.aload_n 0, 1) := by decide +kernel
theorem dX10_digest_223 : decode cX10_digest 223 = .ok (.invokevirtual 271, 3) := by decide +kernel
theorem dX10_digest_226 : decode cX10_digest 226 = .ok (.invokevirtual 280, 3) := by decide +kernel
theorem dX10_digest_229 : decode cX10_digest 229 = .ok (.aload_n 0, 1) := by decide +kernel
theorem dX10_digest_230 : decode cX10_digest 230 = .ok (.getfield 274, 3) := by decide +kernel
theorem dX10_digest_233 : decode cX10_digest 233 = .ok (.lreturn, 1) := by decide +kernel
theorem dJ5_init_d00df_0 : decode cJ5_init_d00df 0 = .ok (.aload_n 0, 1) := by decide +kernel
theorem dJ5_init_d00df_1 : decode cJ5_init_d00df 1 = .ok (.invokespecial 3, 3) := by decide +kernel
theorem dJ5_init_d00df_4 : decode cJ5_init_d00df 4 = .ok (.getstatic 18, 3) := by decide +kernel
theorem dJ5_init_d00df_7 : decode cJ5_init_d00df 7 = .ok (.ifCond .eq 18, 3) := by decide +kernel
theorem dJ5_init_d00df_10 : decode cJ5_init_d00df 10 = .ok (.aload_n 0, 1) := by decide +kernel
theorem dJ5_init_d00df_11 : decode cJ5_init_d00df 11 = .ok (.iload_n 1, 1) := by decide +kernel
theorem dJ5_init_d00df_12 : decode cJ5_init_d00df 12 = .ok (.newarray .byte, 2) := by decide +kernel
theorem dJ5_init_d00df_14 : decode cJ5_init_d00df 14 = .ok (.putfield 15, 3) := by decide +kernel
theorem dJ5_init_d00df_17 : decode cJ5_init_d00df 17 = .ok (.aload_n 0, 1) := by decide +kernel
theorem dJ5_init_d00df_18 : decode cJ5_init_d00df 18 = .ok (.iconst 0, 1) := by decide +kernel
theorem dJ5_init_d00df_19 : decode cJ5_init_d00df 19 = .ok (.putfield 22, 3) := by decide +kernel
theorem dJ5_init_d00df_22 : decode cJ5_init_d00df 22 = .ok (.goto 16, 3) := by decide +kernel
theorem dJ5_init_d00df_25 : decode cJ5_init_d00df 25 = .ok (.aload_n 0, 1) := by decide +kernel
theorem dJ5_init_d00df_26 : decode cJ5_init_d00df 26 = .ok (.iload_n 1, 1) := by decide +kernel
theorem dJ5_init_d00df_27 : decode cJ5_init_d00df 27 = .ok (.invokestatic 26, 3) := by decide +kernel
theorem dJ5_init_d00df_30 : decode cJ5_init_d00df 30 = .ok (.putfield 15, 3) := by decide +kernel
theorem dJ5_init_d00df_33 : decode cJ5_init_d00df 33 = .ok (.aload_n 0, 1) := by decide +kernel
theorem dJ5_init_d00df_34 : decode cJ5_init_d00df 34 = .ok (.iconst 1, 1) := by decide +kernel
theorem dJ5_init_d00df_35 : decode cJ5_init_d00df 35 = .ok (.putfield 22, 3) := by decide +kernel
theorem dJ5_init_d00df_38 : decode cJ5_init_d00df 38 = .ok (.return_, 1) := by decide +kernel
theorem dJ5_length_8abf5_0 : decode cJ5_length_8abf5 0 = .ok (.aload_n 0, 1) := by decide +kernel
theorem dJ5_length_8abf5_1 : decode cJ5_length_8abf5 1 = .ok (.getfield 79, 3) := by decide +kernel
theorem dJ5_length_8abf5_4 : decode cJ5_length_8abf5 4 = .ok (.ireturn, 1) := by decide +kernel
theorem dJ5_ensureCapacityInternal_d00df_0 : decode cJ5_ensureCapacityInternal_d00df 0 = .ok (.aload_n 0, 1) := by decide +kernel
theorem dJ5_ensureCapacityInternal_d00df_1 : decode cJ5_ensureCapacityInternal_d00df 1 = .ok (.getfield 15, 3) := by decide +kernel
theorem dJ5_ensureCapacityInternal_d00df_4 : decode cJ5_ensureCapacityInternal_d00df 4 = .ok (.arraylength, 1) := by decide +kernel
theorem dJ5_ensureCapacityInternal_d00df_5 : decode cJ5_ensureCapacityInternal_d00df 5 = .ok (.aload_n 0, 1) := by decide +kernel
theorem dJ5_ensureCapacityInternal_d00df_6 : decode cJ5_ensureCapacityInternal_d00df 6 = .ok (.getfield 22, 3) := by decide +kernel
theorem dJ5_ensureCapacityInternal_d00df_9 : decode cJ5_ensureCapacityInternal_d00df 9 = .ok (.ishr, 1) := by decide +kernel
theorem dJ5_ensureCapacityInternal_d00df_10 : decode cJ5_ensureCapacityInternal_d00df 10 = .ok (.istore_n 2, 1) := by decide +kernel
theorem dJ5_ensureCapacityInternal_d00df_11 : decode cJ5_ensureCapacityInternal_d00df 11 = .ok (.iload_n 1, 1) := by decide +kernel
theorem dJ5_ensureCapacityInternal_d00df_12 : decode cJ5_ensureCapacityInternal_d00df 12 = .ok (.iload_n 2, 1) := by decide +kernel
theorem dJ5_ensureCapacityInternal_d00df_13 : decode cJ5_ensureCapacityInternal_d00df 13 = .ok (.isub, 1) := by decide +kernel
theorem dJ5_ensureCapacityInternal_d00df_14 : decode cJ5_ensureCapacityInternal_d00df 14 = .ok (.ifCond .le 24, 3) := by decide +kernel
theorem dJ5_ensureCapacityInternal_d00df_17 : decode cJ5_ensureCapacityInternal_d00df 17 = .ok (.aload_n 0, 1) := by decide +kernel
theorem dJ5_ensureCapacityInternal_d00df_18 : decode cJ5_ensureCapacityInternal_d00df 18 = .ok (.aload_n 0, 1) := by decide +kernel
theorem dJ5_ensureCapacityInternal_d00df_19 : decode cJ5_ensureCapacityInternal_d00df 19 = .ok (.getfield 15, 3) := by decide +kernel
theorem dJ5_ensureCapacityInternal_d00df_22 : decode cJ5_ensureCapacityInternal_d00df 22 = .ok (.aload_n 0, 1) := by decide +kernel
theorem dJ5_ensureCapacityInternal_d00df_23 : decode cJ5_ensureCapacityInternal_d00df 23 = .ok (.iload_n 1, 1) := by decide +kernel
theorem dJ5_ensureCapacityInternal_d00df_24 : decode cJ5_ensureCapacityInternal_d00df 24 = .ok (.invokevirtual 104, 3) := by decide +kernel
theorem dJ5_ensureCapacityInternal_d00df_27 : decode cJ5_ensureCapacityInternal_d00df 27 = .ok (.aload_n 0, 1) := by decide +kernel
theorem dJ5_ensureCapacityInternal_d00df_28 : decode cJ5_ensureCapacityInternal_d00df 28 = .ok (.getfield 22, 3) := by decide +kernel
theorem dJ5_ensureCapacityInternal_d00df_31 : decode cJ5_ensureCapacityInternal_d00df 31 = .ok (.ishl, 1) := by decide +kernel
theorem dJ5_ensureCapacityInternal_d00df_32 : decode cJ5_ensureCapacityInternal_d00df 32 = .ok (.invokestatic 108, 3) := by decide +kernel
theorem dJ5_ensureCapacityInternal_d00df_35 : decode cJ5_ensureCapacityInternal_d00df 35 = .ok (.putfield 15, 3) := by decide +kernel
theorem dJ5_ensureCapacityInternal_d00df_38 : decode cJ5_ensureCapacityInternal_d00df 38 = .ok (.return_, 1) := by decide +kernel
theorem dJ5_newCapacity_0f7a4_0 : decode cJ5_newCapacity_0f7a4 0 = .ok (.aload_n 0, 1) := by decide +kernel
theorem dJ5_newCapacity_0f7a4_1 : decode cJ5_newCapacity_0f7a4 1 = .ok (.getfield 15, 3) := by decide +kernel
theorem dJ5_newCapacity_0f7a4_4 : decode cJ5_newCapacity_0f7a4 4 = .ok (.arraylength, 1) := by decide +kernel
theorem dJ5_newCapacity_0f7a4_5 : decode cJ5_newCapacity_0f7a4 5 = .ok (.istore_n 2, 1) := by decide +kernel
theorem dJ5_newCapacity_0f7a4_6 : decode cJ5_newCapacity_0f7a4 6 = .ok (.iload_n 1, 1) := by decide +kernel
theorem dJ5_newCapacity_0f7a4_7 : decode cJ5_newCapacity_0f7a4 7 = .ok (.aload_n 0, 1) := by decide +kernel
theorem dJ5_newCapacity_0f7a4_8 : decode cJ5_newCapacity_0f7a4 8 = .ok (.getfield 22, 3) := by decide +kernel
theorem dJ5_newCapacity_0f7a4_11 : decode cJ5_newCapacity_0f7a4 11 = .ok (.ishl, 1) := by decide +kernel
theorem dJ5_newCapacity_0f7a4_12 : decode cJ5_newCapacity_0f7a4 12 = .ok (.istore_n 3, 1) := by decide +kernel
theorem dJ5_newCapacity_0f7a4_13 : decode cJ5_newCapacity_0f7a4 13 = .ok (.iload_n 3, 1) := by decide +kernel
theorem dJ5_newCapacity_0f7a4_14 : decode cJ5_newCapacity_0f7a4 14 = .ok (.iload_n 2, 1) := by decide +kernel
theorem dJ5_newCapacity_0f7a4_15 : decode cJ5_newCapacity_0f7a4 15 = .ok (.isub, 1) := by decide +kernel
theorem dJ5_newCapacity_0f7a4_16 : decode cJ5_newCapacity_0f7a4 16 = .ok (.istore 4, 2) := by decide +kernel
theorem dJ5_newCapacity_0f7a4_18 : decode cJ5_newCapacity_0f7a4 18 = .ok (.iload_n 2, 1) := by decide +kernel
theorem dJ5_newCapacity_0f7a4_19 : decode cJ5_newCapacity_0f7a4 19 = .ok (.iload 4, 2) := by decide +kernel
theorem dJ5_newCapacity_0f7a4_21 : decode cJ5_newCapacity_0f7a4 21 = .ok (.iload_n 2, 1) := by decide +kernel
theorem dJ5_newCapacity_0f7a4_22 : decode cJ5_newCapacity_0f7a4 22 = .ok (.iconst 2, 1) := by decide +kernel
theorem dJ5_newCapacity_0f7a4_23 : decode cJ5_newCapacity_0f7a4 23 = .ok (.aload_n 0, 1) := by decide +kernel
theorem dJ5_newCapacity_0f7a4_24 : decode cJ5_newCapacity_0f7a4 24 = .ok (.getfield 22, 3) := by decide +kernel
theorem dJ5_newCapacity_0f7a4_27 : decode cJ5_newCapacity_0f7a4 27 = .ok (.ishl, 1) := by decide +kernel
theorem dJ5_newCapacity_0f7a4_28 : decode cJ5_newCapacity_0f7a4 28 = .ok (.iadd, 1) := by decide +kernel
theorem dJ5_newCapacity_0f7a4_29 : decode cJ5_newCapacity_0f7a4 29 = .ok (.invokestatic 114, 3) := by decide +kernel
theorem dJ5_newCapacity_0f7a4_32 : decode cJ5_newCapacity_0f7a4 32 = .ok (.istore 5, 2) := by decide +kernel
theorem dJ5_newCapacity_0f7a4_34 : decode cJ5_newCapacity_0f7a4 34 = .ok (.iload 5, 2) := by decide +kernel
theorem dJ5_newCapacity_0f7a4_36 : decode cJ5_newCapacity_0f7a4 36 = .ok (.ldc 39, 2) := by decide +kernel
theorem dJ5_newCapacity_0f7a4_38 : decode cJ5_newCapacity_0f7a4 38 = .ok (.if_icmp .ne 13, 3) := by decide +kernel
theorem dJ5_newCapacity_0f7a4_41 : decode cJ5_newCapacity_0f7a4 41 = .ok (.new 120, 3) := by decide +kernel
theorem dJ5_newCapacity_0f7a4_44 : decode cJ5_newCapacity_0f7a4 44 = .ok (.dup, 1) := by decide +kernel
theorem dJ5_newCapacity_0f7a4_45 : decode cJ5_newCapacity_0f7a4 45 = .ok (.ldc 122, 2) := by decide +kernel
theorem dJ5_newCapacity_0f7a4_47 : decode cJ5_newCapacity_0f7a4 47 = .ok (.invokespecial 124, 3) := by decide +kernel
theorem dJ5_newCapacity_0f7a4_50 : decode cJ5_newCapacity_0f7a4 50 = .ok (.athrow, 1) := by decide +kernel
theorem dJ5_newCapacity_0f7a4_51 : decode cJ5_newCapacity_0f7a4 51 = .ok (.iload 5, 2) := by decide +kernel
theorem dJ5_newCapacity_0f7a4_53 : decode cJ5_newCapacity_0f7a4 53 = .ok (.aload_n 0, 1) := by decide +kernel
theorem dJ5_newCapacity_0f7a4_54 : decode cJ5_newCapacity_0f7a4 54 = .ok (.getfield 22, 3) := by decide +kernel
theorem dJ5_newCapacity_0f7a4_57 : decode cJ5_newCapacity_0f7a4 57 = .ok (.ishr, 1) := by decide +kernel
theorem dJ5_newCapacity_0f7a4_58 : decode cJ5_newCapacity_0f7a4 58 = .ok (.ireturn, 1) := by decide +kernel
theorem dJ5_inflate_da8c8_0 : decode cJ5_inflate_da8c8 0 = .ok (.aload_n 0, 1) := by decide +kernel
theorem dJ5_inflate_da8c8_1 : decode cJ5_inflate_da8c8 1 = .ok (.invokevirtual 83, 3) := by decide +kernel
theorem dJ5_inflate_da8c8_4 : decode cJ5_inflate_da8c8 4 = .ok (.ifCond .ne 4, 3) := by decide +kernel
theorem dJ5_inflate_da8c8_7 : decode cJ5_inflate_da8c8 7 = .ok (.return_, 1) := by decide +kernel
theorem dJ5_inflate_da8c8_8 : decode cJ5_inflate_da8c8 8 = .ok (.aload_n 0, 1) := by decide +kernel
theorem dJ5_inflate_da8c8_9 : decode cJ5_inflate_da8c8 9 = .ok (.getfield 15, 3) := by decide +kernel
theorem dJ5_inflate_da8c8_12 : decode cJ5_inflate_da8c8 12 = .ok (.arraylength, 1) := by decide +kernel
theorem dJ5_inflate_da8c8_13 : decode cJ5_inflate_da8c8 13 = .ok (.invokestatic 26, 3) := by decide +kernel
theorem dJ5_inflate_da8c8_16 : decode cJ5_inflate_da8c8 16 = .ok (.astore_n 1, 1) := by decide +kernel
theorem dJ5_inflate_da8c8_17 : decode cJ5_inflate_da8c8 17 = .ok (.aload_n 0, 1) := by decide +kernel
theorem dJ5_inflate_da8c8_18 : decode cJ5_inflate_da8c8 18 = .ok (.getfield 15, 3) := by decide +kernel
theorem dJ5_inflate_da8c8_21 : decode cJ5_inflate_da8c8 21 = .ok (.iconst 0, 1) := by decide +kernel
theorem dJ5_inflate_da8c8_22 : decode cJ5_inflate_da8c8 22 = .ok (.aload_n 1, 1) := by decide +kernel
theorem dJ5_inflate_da8c8_23 : decode cJ5_inflate_da8c8 23 = .ok (.iconst 0, 1) := by decide +kernel
theorem dJ5_inflate_da8c8_24 : decode cJ5_inflate_da8c8 24 = .ok (.aload_n 0, 1) := by decide +kernel
theorem dJ5_inflate_da8c8_25 : decode cJ5_inflate_da8c8 25 = .ok (.getfield 79, 3) := by decide +kernel
theorem dJ5_inflate_da8c8_28 : decode cJ5_inflate_da8c8 28 = .ok (.invokestatic 125, 3) := by decide +kernel
theorem dJ5_inflate_da8c8_31 : decode cJ5_inflate_da8c8 31 = .ok (.aload_n 0, 1) := by decide +kernel
theorem dJ5_inflate_da8c8_32 : decode cJ5_inflate_da8c8 32 = .ok (.aload_n 1, 1) := by decide +kernel
theorem dJ5_inflate_da8c8_33 : decode cJ5_inflate_da8c8 33 = .ok (.putfield 15, 3) := by decide +kernel
theorem dJ5_inflate_da8c8_36 : decode cJ5_inflate_da8c8 36 = .ok (.aload_n 0, 1) := by decide +kernel
theorem dJ5_inflate_da8c8_37 : decode cJ5_inflate_da8c8 37 = .ok (.iconst 1, 1) := by decide +kernel
theorem dJ5_inflate_da8c8_38 : decode cJ5_inflate_da8c8 38 = .ok (.putfield 22, 3) := by decide +kernel
theorem dJ5_inflate_da8c8_41 : decode cJ5_inflate_da8c8 41 = .ok (.return_, 1) := by decide +kernel
theorem dJ5_append_cf1ce_0 : decode cJ5_append_cf1ce 0 = .ok (.aload_n 1, 1) := by decide +kernel
theorem dJ5_append_cf1ce_1 : decode cJ5_append_cf1ce 1 = .ok (.ifnonnull 8, 3) := by decide +kernel
theorem dJ5_append_cf1ce_4 : decode cJ5_append_cf1ce 4 = .ok (.aload_n 0, 1) := by decide +kernel
theorem dJ5_append_cf1ce_5 : decode cJ5_append_cf1ce 5 = .ok (.invokevirtual 204, 3) := by decide +kernel
theorem dJ5_append_cf1ce_8 : decode cJ5_append_cf1ce 8 = .ok (.areturn, 1) := by decide +kernel
theorem dJ5_append_cf1ce_9 : decode cJ5_append_cf1ce 9 = .ok (.aload_n 1, 1) := by decide +kernel
theorem dJ5_append_cf1ce_10 : decode cJ5_append_cf1ce 10 = .ok (.invokevirtual 32, 3) := by decide +kernel
theorem dJ5_append_cf1ce_13 : decode cJ5_append_cf1ce 13 = .ok (.istore_n 2, 1) := by decide +kernel
theorem dJ5_append_cf1ce_14 : decode cJ5_append_cf1ce 14 = .ok (.aload_n 0, 1) := by decide +kernel
theorem dJ5_append_cf1ce_15 : decode cJ5_append_cf1ce 15 = .ok (.aload_n 0, 1) := by decide +kernel
theorem dJ5_append_cf1ce_16 : decode cJ5_append_cf1ce 16 = .ok (.getfield 79, 3) := by decide +kernel
theorem dJ5_append_cf1ce_19 : decode cJ5_append_cf1ce 19 = .ok (.iload_n 2, 1) := by decide +kernel
theorem dJ5_append_cf1ce_20 : decode cJ5_append_cf1ce 20 = .ok (.iadd, 1) := by decide +kernel
theorem dJ5_append_cf1ce_21 : decode cJ5_append_cf1ce 21 = .ok (.invokevirtual 100, 3) := by decide +kernel
theorem dJ5_append_cf1ce_24 : decode cJ5_append_cf1ce 24 = .ok (.aload_n 0, 1) := by decide +kernel
theorem dJ5_append_cf1ce_25 : decode cJ5_append_cf1ce 25 = .ok (.aload_n 0, 1) := by decide +kernel
theorem dJ5_append_cf1ce_26 : decode cJ5_append_cf1ce 26 = .ok (.getfield 79, 3) := by decide +kernel
theorem dJ5_append_cf1ce_29 : decode cJ5_append_cf1ce 29 = .ok (.aload_n 1, 1) := by decide +kernel
theorem dJ5_append_cf1ce_30 : decode cJ5_append_cf1ce 30 = .ok (.invokevirtual 208, 3) := by decide +kernel
theorem dJ5_append_cf1ce_33 : decode cJ5_append_cf1ce 33 = .ok (.aload_n 0, 1) := by decide +kernel
theorem dJ5_append_cf1ce_34 : decode cJ5_append_cf1ce 34 = .ok (.dup, 1) := by decide +kernel
theorem dJ5_append_cf1ce_35 : decode cJ5_append_cf1ce 35 = .ok (.getfield 79, 3) := by decide +kernel
theorem dJ5_append_cf1ce_38 : decode cJ5_append_cf1ce 38 = .ok (.iload_n 2, 1) := by decide +kernel
theorem dJ5_append_cf1ce_39 : decode cJ5_append_cf1ce 39 = .ok (.iadd, 1) := by decide +kernel
theorem dJ5_append_cf1ce_40 : decode cJ5_append_cf1ce 40 = .ok (.putfield 79, 3) := by decide +kernel
theorem dJ5_append_cf1ce_43 : decode cJ5_append_cf1ce 43 = .ok (.aload_n 0, 1) := by decide +kernel
theorem dJ5_append_cf1ce_44 : decode cJ5_append_cf1ce 44 = .ok (.areturn, 1) := by decide +kernel
theorem dJ5_appendNull_278bc_0 : decode cJ5_appendNull_278bc 0 = .ok (.aload_n 0, 1) := by decide +kernel
theorem dJ5_appendNull_278bc_1 : decode cJ5_appendNull_278bc 1 = .ok (.aload_n 0, 1) := by decide +kernel
theorem dJ5_appendNull_278bc_2 : decode cJ5_appendNull_278bc 2 = .ok (.getfield 79, 3) := by decide +kernel
theorem dJ5_appendNull_278bc_5 : decode cJ5_appendNull_278bc 5 = .ok (.iconst 4, 1) := by decide +kernel
theorem dJ5_appendNull_278bc_6 : decode cJ5_appendNull_278bc 6 = .ok (.iadd, 1) := by decide +kernel
theorem dJ5_appendNull_278bc_7 : decode cJ5_appendNull_278bc 7 = .ok (.invokevirtual 100, 3) := by decide +kernel
theorem dJ5_appendNull_278bc_10 : decode cJ5_appendNull_278bc 10 = .ok (.aload_n 0, 1) := by decide +kernel
theorem dJ5_appendNull_278bc_11 : decode cJ5_appendNull_278bc 11 = .ok (.getfield 79, 3) := by decide +kernel
theorem dJ5_appendNull_278bc_14 : decode cJ5_appendNull_278bc 14 = .ok (.istore_n 1, 1) := by decide +kernel
theorem dJ5_appendNull_278bc_15 : decode cJ5_appendNull_278bc 15 = .ok (.aload_n 0, 1) := by decide +kernel
theorem dJ5_appendNull_278bc_16 : decode cJ5_appendNull_278bc 16 = .ok (.getfield 15, 3) := by decide +kernel
theorem dJ5_appendNull_278bc_19 : decode cJ5_appendNull_278bc 19 = .ok (.astore_n 2, 1) := by decide +kernel
theorem dJ5_appendNull_278bc_20 : decode cJ5_appendNull_278bc 20 = .ok (.aload_n 0, 1) := by decide +kernel
theorem dJ5_appendNull_278bc_21 : decode cJ5_appendNull_278bc 21 = .ok (.invokevirtual 83, 3) := by decide +kernel
theorem dJ5_appendNull_278bc_24 : decode cJ5_appendNull_278bc 24 = .ok (.ifCond .eq 38, 3) := by decide +kernel
theorem dJ5_appendNull_278bc_27 : decode cJ5_appendNull_278bc 27 = .ok (.aload_n 2, 1) := by decide +kernel
theorem dJ5_appendNull_278bc_28 : decode cJ5_appendNull_278bc 28 = .ok (.iload_n 1, 1) := by decide +kernel
theorem dJ5_appendNull_278bc_29 : decode cJ5_appendNull_278bc 29 = .ok (.iinc 1 1, 3) := by decide +kernel
theorem dJ5_appendNull_278bc_32 : decode cJ5_appendNull_278bc 32 = .ok (.bipush 110, 2) := by decide +kernel
theorem dJ5_appendNull_278bc_34 : decode cJ5_appendNull_278bc 34 = .ok (.bastore, 1) := by decide +kernel
theorem dJ5_appendNull_278bc_35 : decode cJ5_appendNull_278bc 35 = .ok (.aload_n 2, 1) := by decide +kernel
theorem dJ5_appendNull_278bc_36 : decode cJ5_appendNull_278bc 36 = .ok (.iload_n 1, 1) := by decide +kernel
theorem dJ5_appendNull_278bc_37 : decode cJ5_appendNull_278bc 37 = .ok (.iinc 1 1, 3) := by decide +kernel
theorem dJ5_appendNull_278bc_40 : decode cJ5_appendNull_278bc 40 = .ok (.bipush 117, 2) := by decide +kernel
theorem dJ5_appendNull_278bc_42 : decode cJ5_appendNull_278bc 42 = .ok (.bastore, 1) := by decide +kernel
theorem dJ5_appendNull_278bc_43 : decode cJ5_appendNull_278bc 43 = .ok (.aload_n 2, 1) := by decide +kernel
theorem dJ5_appendNull_278bc_44 : decode cJ5_appendNull_278bc 44 = .ok (.iload_n 1, 1) := by decide +kernel
theorem dJ5_appendNull_278bc_45 : decode cJ5_appendNull_278bc 45 = .ok (.iinc 1 1, 3) := by decide +kernel
theorem dJ5_appendNull_278bc_48 : decode cJ5_appendNull_278bc 48 = .ok (.bipush 108, 2) := by decide +kernel
theorem dJ5_appendNull_278bc_50 : decode cJ5_appendNull_278bc 50 = .ok (.bastore, 1) := by decide +kernel
theorem dJ5_appendNull_278bc_51 : decode cJ5_appendNull_278bc 51 = .ok (.aload_n 2, 1) := by decide +kernel
theorem dJ5_appendNull_278bc_52 : decode cJ5_appendNull_278bc 52 = .ok (.iload_n 1, 1) := by decide +kernel
theorem dJ5_appendNull_278bc_53 : decode cJ5_appendNull_278bc 53 = .ok (.iinc 1 1, 3) := by decide +kernel
theorem dJ5_appendNull_278bc_56 : decode cJ5_appendNull_278bc 56 = .ok (.bipush 108, 2) := by decide +kernel
theorem dJ5_appendNull_278bc_58 : decode cJ5_appendNull_278bc 58 = .ok (.bastore, 1) := by decide +kernel
theorem dJ5_appendNull_278bc_59 : decode cJ5_appendNull_278bc 59 = .ok (.goto 17, 3) := by decide +kernel
theorem dJ5_appendNull_278bc_62 : decode cJ5_appendNull_278bc 62 = .ok (.aload_n 2, 1) := by decide +kernel
theorem dJ5_appendNull_278bc_63 : decode cJ5_appendNull_278bc 63 = .ok (.iload_n 1, 1) := by decide +kernel
theorem dJ5_appendNull_278bc_64 : decode cJ5_appendNull_278bc 64 = .ok (.bipush 110, 2) := by decide +kernel
theorem dJ5_appendNull_278bc_66 : decode cJ5_appendNull_278bc 66 = .ok (.bipush 117, 2) := by decide +kernel
theorem dJ5_appendNull_278bc_68 : decode cJ5_appendNull_278bc 68 = .ok (.bipush 108, 2) := by decide +kernel
theorem dJ5_appendNull_278bc_70 : decode cJ5_appendNull_278bc 70 = .ok (.bipush 108, 2) := by decide +kernel
theorem dJ5_appendNull_278bc_72 : decode cJ5_appendNull_278bc 72 = .ok (.invokestatic 226, 3) := by decide +kernel
theorem dJ5_appendNull_278bc_75 : decode cJ5_appendNull_278bc 75 = .ok (.istore_n 1, 1) := by decide +kernel
theorem dJ5_appendNull_278bc_76 : decode cJ5_appendNull_278bc 76 = .ok (.aload_n 0, 1) := by decide +kernel
theorem dJ5_appendNull_278bc_77 : decode cJ5_appendNull_278bc 77 = .ok (.iload_n 1, 1) := by decide +kernel
theorem dJ5_appendNull_278bc_78 : decode cJ5_appendNull_278bc 78 = .ok (.putfield 79, 3) := by decide +kernel
theorem dJ5_appendNull_278bc_81 : decode cJ5_appendNull_278bc 81 = .ok (.aload_n 0, 1) := by decide +kernel
theorem dJ5_appendNull_278bc_82 : decode cJ5_appendNull_278bc 82 = .ok (.areturn, 1) := by decide +kernel
theorem dJ5_append_3fe6f_0 : decode cJ5_append_3fe6f 0 = .ok (.aload_n 0, 1) := by decide +kernel
theorem dJ5_append_3fe6f_1 : decode cJ5_append_3fe6f 1 = .ok (.aload_n 0, 1) := by decide +kernel
theorem dJ5_append_3fe6f_2 : decode cJ5_append_3fe6f 2 = .ok (.getfield 79, 3) := by decide +kernel
theorem dJ5_append_3fe6f_5 : decode cJ5_append_3fe6f 5 = .ok (.iconst 1, 1) := by decide +kernel
theorem dJ5_append_3fe6f_6 : decode cJ5_append_3fe6f 6 = .ok (.iadd, 1) := by decide +kernel
theorem dJ5_append_3fe6f_7 : decode cJ5_append_3fe6f 7 = .ok (.invokevirtual 100, 3) := by decide +kernel
theorem dJ5_append_3fe6f_10 : decode cJ5_append_3fe6f 10 = .ok (.aload_n 0, 1) := by decide +kernel
theorem dJ5_append_3fe6f_11 : decode cJ5_append_3fe6f 11 = .ok (.invokevirtual 83, 3) := by decide +kernel
theorem dJ5_append_3fe6f_14 : decode cJ5_append_3fe6f 14 = .ok (.ifCond .eq 31, 3) := by decide +kernel
theorem dJ5_append_3fe6f_17 : decode cJ5_append_3fe6f 17 = .ok (.iload_n 1, 1) := by decide +kernel
theorem dJ5_append_3fe6f_18 : decode cJ5_append_3fe6f 18 = .ok (.invokestatic 191, 3) := by decide +kernel
theorem dJ5_append_3fe6f_21 : decode cJ5_append_3fe6f 21 = .ok (.ifCond .eq 24, 3) := by decide +kernel
theorem dJ5_append_3fe6f_24 : decode cJ5_append_3fe6f 24 = .ok (.aload_n 0, 1) := by decide +kernel
theorem dJ5_append_3fe6f_25 : decode cJ5_append_3fe6f 25 = .ok (.getfield 15, 3) := by decide +kernel
theorem dJ5_append_3fe6f_28 : decode cJ5_append_3fe6f 28 = .ok (.aload_n 0, 1) := by decide +kernel
theorem dJ5_append_3fe6f_29 : decode cJ5_append_3fe6f 29 = .ok (.dup, 1) := by decide +kernel
theorem dJ5_append_3fe6f_30 : decode cJ5_append_3fe6f 30 = .ok (.getfield 79, 3) := by decide +kernel
theorem dJ5_append_3fe6f_33 : decode cJ5_append_3fe6f 33 = .ok (.dup_x1, 1) := by decide +kernel
theorem dJ5_append_3fe6f_34 : decode cJ5_append_3fe6f 34 = .ok (.iconst 1, 1) := by decide +kernel
theorem dJ5_append_3fe6f_35 : decode cJ5_append_3fe6f 35 = .ok (.iadd, 1) := by decide +kernel
theorem dJ5_append_3fe6f_36 : decode cJ5_append_3fe6f 36 = .ok (.putfield 79, 3) := by decide +kernel
theorem dJ5_append_3fe6f_39 : decode cJ5_append_3fe6f 39 = .ok (.iload_n 1, 1) := by decide +kernel
theorem dJ5_append_3fe6f_40 : decode cJ5_append_3fe6f 40 = .ok (.i2b, 1) := by decide +kernel
theorem dJ5_append_3fe6f_41 : decode cJ5_append_3fe6f 41 = .ok (.bastore, 1) := by decide +kernel
theorem dJ5_append_3fe6f_42 : decode cJ5_append_3fe6f 42 = .ok (.goto 33, 3) := by decide +kernel
theorem dJ5_append_3fe6f_45 : decode cJ5_append_3fe6f 45 = .ok (.aload_n 0, 1) := by decide +kernel
theorem dJ5_append_3fe6f_46 : decode cJ5_append_3fe6f 46 = .ok (.invokevirtual 83, 3) := by decide +kernel
theorem dJ5_append_3fe6f_49 : decode cJ5_append_3fe6f 49 = .ok (.ifCond .eq 7, 3) := by decide +kernel
theorem dJ5_append_3fe6f_52 : decode cJ5_append_3fe6f 52 = .ok (.aload_n 0, 1) := by decide +kernel
theorem dJ5_append_3fe6f_53 : decode cJ5_append_3fe6f 53 = .ok (.invokevirtual 195, 3) := by decide +kernel
theorem dJ5_append_3fe6f_56 : decode cJ5_append_3fe6f 56 = .ok (.aload_n 0, 1) := by decide +kernel
theorem dJ5_append_3fe6f_57 : decode cJ5_append_3fe6f 57 = .ok (.getfield 15, 3) := by decide +kernel
theorem dJ5_append_3fe6f_60 : decode cJ5_append_3fe6f 60 = .ok (.aload_n 0, 1) := by decide +kernel
theorem dJ5_append_3fe6f_61 : decode cJ5_append_3fe6f 61 = .ok (.dup, 1) := by decide +kernel
theorem dJ5_append_3fe6f_62 : decode cJ5_append_3fe6f 62 = .ok (.getfield 79, 3) := by decide +kernel
theorem dJ5_append_3fe6f_65 : decode cJ5_append_3fe6f 65 = .ok (.dup_x1, 1) := by decide +kernel
theorem dJ5_append_3fe6f_66 : decode cJ5_append_3fe6f 66 = .ok (.iconst 1, 1) := by decide +kernel
theorem dJ5_append_3fe6f_67 : decode cJ5_append_3fe6f 67 = .ok (.iadd, 1) := by decide +kernel
theorem dJ5_append_3fe6f_68 : decode cJ5_append_3fe6f 68 = .ok (.putfield 79, 3) := by decide +kernel
theorem dJ5_append_3fe6f_71 : decode cJ5_append_3fe6f 71 = .ok (.iload_n 1, 1) := by decide +kernel
theorem dJ5_append_3fe6f_72 : decode cJ5_append_3fe6f 72 = .ok (.invokestatic 197, 3) := by decide +kernel
theorem dJ5_append_3fe6f_75 : decode cJ5_append_3fe6f 75 = .ok (.aload_n 0, 1) := by decide +kernel
theorem dJ5_append_3fe6f_76 : decode cJ5_append_3fe6f 76 = .ok (.areturn, 1) := by decide +kernel
theorem dJ5_append_c97b9_0 : decode cJ5_append_c97b9 0 = .ok (.aload_n 0, 1) := by decide +kernel
theorem dJ5_append_c97b9_1 : decode cJ5_append_c97b9 1 = .ok (.getfield 79, 3) := by decide +kernel
theorem dJ5_append_c97b9_4 : decode cJ5_append_c97b9 4 = .ok (.istore_n 2, 1) := by decide +kernel
theorem dJ5_append_c97b9_5 : decode cJ5_append_c97b9 5 = .ok (.iload_n 2, 1) := by decide +kernel
theorem dJ5_append_c97b9_6 : decode cJ5_append_c97b9 6 = .ok (.iload_n 1, 1) := by decide +kernel
theorem dJ5_append_c97b9_7 : decode cJ5_append_c97b9 7 = .ok (.invokestatic 245, 3) := by decide +kernel
theorem dJ5_append_c97b9_10 : decode cJ5_append_c97b9 10 = .ok (.iadd, 1) := by decide +kernel
theorem dJ5_append_c97b9_11 : decode cJ5_append_c97b9 11 = .ok (.istore_n 3, 1) := by decide +kernel
theorem dJ5_append_c97b9_12 : decode cJ5_append_c97b9 12 = .ok (.aload_n 0, 1) := by decide +kernel
theorem dJ5_append_c97b9_13 : decode cJ5_append_c97b9 13 = .ok (.iload_n 3, 1) := by decide +kernel
theorem dJ5_append_c97b9_14 : decode cJ5_append_c97b9 14 = .ok (.invokevirtual 100, 3) := by decide +kernel
theorem dJ5_append_c97b9_17 : decode cJ5_append_c97b9 17 = .ok (.aload_n 0, 1) := by decide +kernel
theorem dJ5_append_c97b9_18 : decode cJ5_append_c97b9 18 = .ok (.invokevirtual 83, 3) := by decide +kernel
theorem dJ5_append_c97b9_21 : decode cJ5_append_c97b9 21 = .ok (.ifCond .eq 16, 3) := by decide +kernel
theorem dJ5_append_c97b9_24 : decode cJ5_append_c97b9 24 = .ok (.iload_n 1, 1) := by decide +kernel
theorem dJ5_append_c97b9_25 : decode cJ5_append_c97b9 25 = .ok (.iload_n 3, 1) := by decide +kernel
theorem dJ5_append_c97b9_26 : decode cJ5_append_c97b9 26 = .ok (.aload_n 0, 1) := by decide +kernel
theorem dJ5_append_c97b9_27 : decode cJ5_append_c97b9 27 = .ok (.getfield 15, 3) := by decide +kernel
theorem dJ5_append_c97b9_30 : decode cJ5_append_c97b9 30 = .ok (.invokestatic 248, 3) := by decide +kernel
theorem dJ5_append_c97b9_33 : decode cJ5_append_c97b9 33 = .ok (.pop, 1) := by decide +kernel
theorem dJ5_append_c97b9_34 : decode cJ5_append_c97b9 34 = .ok (.goto 14, 3) := by decide +kernel
theorem dJ5_append_c97b9_37 : decode cJ5_append_c97b9 37 = .ok (.iload_n 1, 1) := by decide +kernel
theorem dJ5_append_c97b9_38 : decode cJ5_append_c97b9 38 = .ok (.iload_n 2, 1) := by decide +kernel
theorem dJ5_append_c97b9_39 : decode cJ5_append_c97b9 39 = .ok (.iload_n 3, 1) := by decide +kernel
theorem dJ5_append_c97b9_40 : decode cJ5_append_c97b9 40 = .ok (.aload_n 0, 1) := by decide +kernel
theorem dJ5_append_c97b9_41 : decode cJ5_append_c97b9 41 = .ok (.getfield 15, 3) := by decide +kernel
theorem dJ5_append_c97b9_44 : decode cJ5_append_c97b9 44 = .ok (.invokestatic 251, 3) := by decide +kernel
theorem dJ5_append_c97b9_47 : decode cJ5_append_c97b9 47 = .ok (.pop, 1) := by decide +kernel
theorem dJ5_append_c97b9_48 : decode cJ5_append_c97b9 48 = .ok (.aload_n 0, 1) := by decide +kernel
theorem dJ5_append_c97b9_49 : decode cJ5_append_c97b9 49 = .ok (.iload_n 3, 1) := by decide +kernel
theorem dJ5_append_c97b9_50 : decode cJ5_append_c97b9 50 = .ok (.putfield 79, 3) := by decide +kernel
theorem dJ5_append_c97b9_53 : decode cJ5_append_c97b9 53 = .ok (.aload_n 0, 1) := by decide +kernel
theorem dJ5_append_c97b9_54 : decode cJ5_append_c97b9 54 = .ok (.areturn, 1) := by decide +kernel
theorem dJ5_getValue_6d5f1_0 : decode cJ5_getValue_6d5f1 0 = .ok (.aload_n 0, 1) := by decide +kernel
theorem dJ5_getValue_6d5f1_1 : decode cJ5_getValue_6d5f1 1 = .ok (.getfield 15, 3) := by decide +kernel
theorem dJ5_getValue_6d5f1_4 : decode cJ5_getValue_6d5f1 4 = .ok (.areturn, 1) := by decide +kernel
theorem dJ5_isLatin1_aae02_0 : decode cJ5_isLatin1_aae02 0 = .ok (.getstatic 18, 3) := by decide +kernel
theorem dJ5_isLatin1_aae02_3 : decode cJ5_isLatin1_aae02 3 = .ok (.ifCond .eq 14, 3) := by decide +kernel
theorem dJ5_isLatin1_aae02_6 : decode cJ5_isLatin1_aae02 6 = .ok (.aload_n 0, 1) := by decide +kernel
theorem dJ5_isLatin1_aae02_7 : decode cJ5_isLatin1_aae02 7 = .ok (.getfield 22, 3) := by decide +kernel
theorem dJ5_isLatin1_aae02_10 : decode cJ5_isLatin1_aae02 10 = .ok (.ifCond .ne 7, 3) := by decide +kernel
theorem dJ5_isLatin1_aae02_13 : decode cJ5_isLatin1_aae02 13 = .ok (.iconst 1, 1) := by decide +kernel
theorem dJ5_isLatin1_aae02_14 : decode cJ5_isLatin1_aae02 14 = .ok (.goto 4, 3) := by decide +kernel
theorem dJ5_isLatin1_aae02_17 : decode cJ5_isLatin1_aae02 17 = .ok (.iconst 0, 1) := by decide +kernel
theorem dJ5_isLatin1_aae02_18 : decode cJ5_isLatin1_aae02 18 = .ok (.ireturn, 1) := by decide +kernel
theorem dJ5_inflateIfNeededFor_a7421_0 : decode cJ5_inflateIfNeededFor_a7421 0 = .ok (.getstatic 18, 3) := by decide +kernel
theorem dJ5_inflateIfNeededFor_a7421_3 : decode cJ5_inflateIfNeededFor_a7421 3 = .ok (.ifCond .eq 18, 3) := by decide +kernel
theorem dJ5_inflateIfNeededFor_a7421_6 : decode cJ5_inflateIfNeededFor_a7421 6 = .ok (.aload_n 0, 1) := by decide +kernel
theorem dJ5_inflateIfNeededFor_a7421_7 : decode cJ5_inflateIfNeededFor_a7421 7 = .ok (.getfield 22, 3) := by decide +kernel
theorem dJ5_inflateIfNeededFor_a7421_10 : decode cJ5_inflateIfNeededFor_a7421 10 = .ok (.aload_n 1, 1) := by decide +kernel
theorem dJ5_inflateIfNeededFor_a7421_11 : decode cJ5_inflateIfNeededFor_a7421 11 = .ok (.invokevirtual 40, 3) := by decide +kernel
theorem dJ5_inflateIfNeededFor_a7421_14 : decode cJ5_inflateIfNeededFor_a7421 14 = .ok (.if_icmp .eq 7, 3) := by decide +kernel
theorem dJ5_inflateIfNeededFor_a7421_17 : decode cJ5_inflateIfNeededFor_a7421 17 = .ok (.aload_n 0, 1) := by decide +kernel
theorem dJ5_inflateIfNeededFor_a7421_18 : decode cJ5_inflateIfNeededFor_a7421 18 = .ok (.invokevirtual 195, 3) := by decide +kernel
theorem dJ5_inflateIfNeededFor_a7421_21 : decode cJ5_inflateIfNeededFor_a7421 21 = .ok (.return_, 1) := by decide +kernel
theorem dJ5_putStringAt_47b60_0 : decode cJ5_putStringAt_47b60 0 = .ok (.aload_n 0, 1) := by decide +kernel
theorem dJ5_putStringAt_47b60_1 : decode cJ5_putStringAt_47b60 1 = .ok (.aload_n 2, 1) := by decide +kernel
theorem dJ5_putStringAt_47b60_2 : decode cJ5_putStringAt_47b60 2 = .ok (.invokevirtual 397, 3) := by decide +kernel
theorem dJ5_putStringAt_47b60_5 : decode cJ5_putStringAt_47b60 5 = .ok (.aload_n 2, 1) := by decide +kernel
theorem dJ5_putStringAt_47b60_6 : decode cJ5_putStringAt_47b60 6 = .ok (.aload_n 0, 1) := by decide +kernel
theorem dJ5_putStringAt_47b60_7 : decode cJ5_putStringAt_47b60 7 = .ok (.getfield 15, 3) := by decide +kernel
theorem dJ5_putStringAt_47b60_10 : decode cJ5_putStringAt_47b60 10 = .ok (.iload_n 1, 1) := by decide +kernel
theorem dJ5_putStringAt_47b60_11 : decode cJ5_putStringAt_47b60 11 = .ok (.aload_n 0, 1) := by decide +kernel
theorem dJ5_putStringAt_47b60_12 : decode cJ5_putStringAt_47b60 12 = .ok (.getfield 22, 3) := by decide +kernel
theorem dJ5_putStringAt_47b60_15 : decode cJ5_putStringAt_47b60 15 = .ok (.invokevirtual 399, 3) := by decide +kernel
theorem dJ5_putStringAt_47b60_18 : decode cJ5_putStringAt_47b60 18 = .ok (.return_, 1) := by decide +kernel
theorem dJ6_getChars_ba4f3_0 : decode cJ6_getChars_ba4f3 0 = .ok (.iload_n 1, 1) := by decide +kernel
theorem dJ6_getChars_ba4f3_1 : decode cJ6_getChars_ba4f3 1 = .ok (.istore 5, 2) := by decide +kernel
theorem dJ6_getChars_ba4f3_3 : decode cJ6_getChars_ba4f3 3 = .ok (.iload_n 0, 1) := by decide +kernel
theorem dJ6_getChars_ba4f3_4 : decode cJ6_getChars_ba4f3 4 = .ok (.ifCond .ge 7, 3) := by decide +kernel
theorem dJ6_getChars_ba4f3_7 : decode cJ6_getChars_ba4f3 7 = .ok (.iconst 1, 1) := by decide +kernel
theorem dJ6_getChars_ba4f3_8 : decode cJ6_getChars_ba4f3 8 = .ok (.goto 4, 3) := by decide +kernel
theorem dJ6_getChars_ba4f3_11 : decode cJ6_getChars_ba4f3 11 = .ok (.iconst 0, 1) := by decide +kernel
theorem dJ6_getChars_ba4f3_12 : decode cJ6_getChars_ba4f3 12 = .ok (.istore 6, 2) := by decide +kernel
theorem dJ6_getChars_ba4f3_14 : decode cJ6_getChars_ba4f3 14 = .ok (.iload 6, 2) := by decide +kernel
theorem dJ6_getChars_ba4f3_16 : decode cJ6_getChars_ba4f3 16 = .ok (.ifCond .ne 6, 3) := by decide +kernel
theorem dJ6_getChars_ba4f3_19 : decode cJ6_getChars_ba4f3 19 = .ok (.iload_n 0, 1) := by decide +kernel
theorem dJ6_getChars_ba4f3_20 : decode cJ6_getChars_ba4f3 20 = .ok (.ineg, 1) := by decide +kernel
theorem dJ6_getChars_ba4f3_21 : decode cJ6_getChars_ba4f3 21 = .ok (.istore_n 0, 1) := by decide +kernel
theorem dJ6_getChars_ba4f3_22 : decode cJ6_getChars_ba4f3 22 = .ok (.iload_n 0, 1) := by decide +kernel
theorem dJ6_getChars_ba4f3_23 : decode cJ6_getChars_ba4f3 23 = .ok (.bipush (-100), 2) := by decide +kernel
theorem dJ6_getChars_ba4f3_25 : decode cJ6_getChars_ba4f3 25 = .ok (.if_icmp .gt 47, 3) := by decide +kernel
theorem dJ6_getChars_ba4f3_28 : decode cJ6_getChars_ba4f3 28 = .ok (.iload_n 0, 1) := by decide +kernel
theorem dJ6_getChars_ba4f3_29 : decode cJ6_getChars_ba4f3 29 = .ok (.bipush 100, 2) := by decide +kernel
theorem dJ6_getChars_ba4f3_31 : decode cJ6_getChars_ba4f3 31 = .ok (.idiv, 1) := by decide +kernel
theorem dJ6_getChars_ba4f3_32 : decode cJ6_getChars_ba4f3 32 = .ok (.istore_n 3, 1) := by decide +kernel
theorem dJ6_getChars_ba4f3_33 : decode cJ6_getChars_ba4f3 33 = .ok (.iload_n 3, 1) := by decide +kernel
theorem dJ6_getChars_ba4f3_34 : decode cJ6_getChars_ba4f3 34 = .ok (.bipush 100, 2) := by decide +kernel
theorem dJ6_getChars_ba4f3_36 : decode cJ6_getChars_ba4f3 36 = .ok (.imul, 1) := by decide +kernel
theorem dJ6_getChars_ba4f3_37 : decode cJ6_getChars_ba4f3 37 = .ok (.iload_n 0, 1) := by decide +kernel
theorem dJ6_getChars_ba4f3_38 : decode cJ6_getChars_ba4f3 38 = .ok (.isub, 1) := by decide +kernel
theorem dJ6_getChars_ba4f3_39 : decode cJ6_getChars_ba4f3 39 = .ok (.istore 4, 2) := by decide +kernel
theorem dJ6_getChars_ba4f3_41 : decode cJ6_getChars_ba4f3 41 = .ok (.iload_n 3, 1) := by decide +kernel
theorem dJ6_getChars_ba4f3_42 : decode cJ6_getChars_ba4f3 42 = .ok (.istore_n 0, 1) := by decide +kernel
theorem dJ6_getChars_ba4f3_43 : decode cJ6_getChars_ba4f3 43 = .ok (.aload_n 2, 1) := by decide +kernel
theorem dJ6_getChars_ba4f3_44 : decode cJ6_getChars_ba4f3 44 = .ok (.iinc 5 (-1), 3) := by decide +kernel
theorem dJ6_getChars_ba4f3_47 : decode cJ6_getChars_ba4f3 47 = .ok (.iload 5, 2) := by decide +kernel
theorem dJ6_getChars_ba4f3_49 : decode cJ6_getChars_ba4f3 49 = .ok (.getstatic 83, 3) := by decide +kernel
theorem dJ6_getChars_ba4f3_52 : decode cJ6_getChars_ba4f3 52 = .ok (.iload 4, 2) := by decide +kernel
theorem dJ6_getChars_ba4f3_54 : decode cJ6_getChars_ba4f3 54 = .ok (.baload, 1) := by decide +kernel
theorem dJ6_getChars_ba4f3_55 : decode cJ6_getChars_ba4f3 55 = .ok (.bastore, 1) := by decide +kernel
theorem dJ6_getChars_ba4f3_56 : decode cJ6_getChars_ba4f3 56 = .ok (.aload_n 2, 1) := by decide +kernel
theorem dJ6_getChars_ba4f3_57 : decode cJ6_getChars_ba4f3 57 = .ok (.iinc 5 (-1), 3) := by decide +kernel
theorem dJ6_getChars_ba4f3_60 : decode cJ6_getChars_ba4f3 60 = .ok (.iload 5, 2) := by decide +kernel
theorem dJ6_getChars_ba4f3_62 : decode cJ6_getChars_ba4f3 62 = .ok (.getstatic 87, 3) := by decide +kernel
theorem dJ6_getChars_ba4f3_65 : decode cJ6_getChars_ba4f3 65 = .ok (.iload 4, 2) := by decide +kernel
theorem dJ6_getChars_ba4f3_67 : decode cJ6_getChars_ba4f3 67 = .ok (.baload, 1) := by decide +kernel
theorem dJ6_getChars_ba4f3_68 : decode cJ6_getChars_ba4f3 68 = .ok (.bastore, 1) := by decide +kernel
theorem dJ6_getChars_ba4f3_69 : decode cJ6_getChars_ba4f3 69 = .ok (.goto (-47), 3) := by decide +kernel
theorem dJ6_getChars_ba4f3_72 : decode cJ6_getChars_ba4f3 72 = .ok (.aload_n 2, 1) := by decide +kernel
theorem dJ6_getChars_ba4f3_73 : decode cJ6_getChars_ba4f3 73 = .ok (.iinc 5 (-1), 3) := by decide +kernel
theorem dJ6_getChars_ba4f3_76 : decode cJ6_getChars_ba4f3 76 = .ok (.iload 5, 2) := by decide +kernel
theorem dJ6_getChars_ba4f3_78 : decode cJ6_getChars_ba4f3 78 = .ok (.getstatic 83, 3) := by decide +kernel
theorem dJ6_getChars_ba4f3_81 : decode cJ6_getChars_ba4f3 81 = .ok (.iload_n 0, 1) := by decide +kernel
theorem dJ6_getChars_ba4f3_82 : decode cJ6_getChars_ba4f3 82 = .ok (.ineg, 1) := by decide +kernel
theorem dJ6_getChars_ba4f3_83 : decode cJ6_getChars_ba4f3 83 = .ok (.baload, 1) := by decide +kernel
theorem dJ6_getChars_ba4f3_84 : decode cJ6_getChars_ba4f3 84 = .ok (.bastore, 1) := by decide +kernel
theorem dJ6_getChars_ba4f3_85 : decode cJ6_getChars_ba4f3 85 = .ok (.iload_n 0, 1) := by decide +kernel
theorem dJ6_getChars_ba4f3_86 : decode cJ6_getChars_ba4f3 86 = .ok (.bipush (-9), 2) := by decide +kernel
theorem dJ6_getChars_ba4f3_88 : decode cJ6_getChars_ba4f3 88 = .ok (.if_icmp .ge 16, 3) := by decide +kernel
theorem dJ6_getChars_ba4f3_91 : decode cJ6_getChars_ba4f3 91 = .ok (.aload_n 2, 1) := by decide +kernel
theorem dJ6_getChars_ba4f3_92 : decode cJ6_getChars_ba4f3 92 = .ok (.iinc 5 (-1), 3) := by decide +kernel
theorem dJ6_getChars_ba4f3_95 : decode cJ6_getChars_ba4f3 95 = .ok (.iload 5, 2) := by decide +kernel
theorem dJ6_getChars_ba4f3_97 : decode cJ6_getChars_ba4f3 97 = .ok (.getstatic 87, 3) := by decide +kernel
theorem dJ6_getChars_ba4f3_100 : decode cJ6_getChars_ba4f3 100 = .ok (.iload_n 0, 1) := by decide +kernel
theorem dJ6_getChars_ba4f3_101 : decode cJ6_getChars_ba4f3 101 = .ok (.ineg, 1) := by decide +kernel
theorem dJ6_getChars_ba4f3_102 : decode cJ6_getChars_ba4f3 102 = .ok (.baload, 1) := by decide +kernel
theorem dJ6_getChars_ba4f3_103 : decode cJ6_getChars_ba4f3 103 = .ok (.bastore, 1) := by decide +kernel
theorem dJ6_getChars_ba4f3_104 : decode cJ6_getChars_ba4f3 104 = .ok (.iload 6, 2) := by decide +kernel
theorem dJ6_getChars_ba4f3_106 : decode cJ6_getChars_ba4f3 106 = .ok (.ifCond .eq 12, 3) := by decide +kernel
theorem dJ6_getChars_ba4f3_109 : decode cJ6_getChars_ba4f3 109 = .ok (.aload_n 2, 1) := by decide +kernel
theorem dJ6_getChars_ba4f3_110 : decode cJ6_getChars_ba4f3 110 = .ok (.iinc 5 (-1), 3) := by decide +kernel
theorem dJ6_getChars_ba4f3_113 : decode cJ6_getChars_ba4f3 113 = .ok (.iload 5, 2) := by decide +kernel
theorem dJ6_getChars_ba4f3_115 : decode cJ6_getChars_ba4f3 115 = .ok (.bipush 45, 2) := by decide +kernel
theorem dJ6_getChars_ba4f3_117 : decode cJ6_getChars_ba4f3 117 = .ok (.bastore, 1) := by decide +kernel
theorem dJ6_getChars_ba4f3_118 : decode cJ6_getChars_ba4f3 118 = .ok (.iload 5, 2) := by decide +kernel
theorem dJ6_getChars_ba4f3_120 : decode cJ6_getChars_ba4f3 120 = .ok (.ireturn, 1) := by decide +kernel
theorem dJ6_stringSize_0f7a4_0 : decode cJ6_stringSize_0f7a4 0 = .ok (.iconst 1, 1) := by decide +kernel
theorem dJ6_stringSize_0f7a4_1 : decode cJ6_stringSize_0f7a4 1 = .ok (.istore_n 1, 1) := by decide +kernel
theorem dJ6_stringSize_0f7a4_2 : decode cJ6_stringSize_0f7a4 2 = .ok (.iload_n 0, 1) := by decide +kernel
theorem dJ6_stringSize_0f7a4_3 : decode cJ6_stringSize_0f7a4 3 = .ok (.ifCond .lt 8, 3) := by decide +kernel
theorem dJ6_stringSize_0f7a4_6 : decode cJ6_stringSize_0f7a4 6 = .ok (.iconst 0, 1) := by decide +kernel
theorem dJ6_stringSize_0f7a4_7 : decode cJ6_stringSize_0f7a4 7 = .ok (.istore_n 1, 1) := by decide +kernel
theorem dJ6_stringSize_0f7a4_8 : decode cJ6_stringSize_0f7a4 8 = .ok (.iload_n 0, 1) := by decide +kernel
theorem dJ6_stringSize_0f7a4_9 : decode cJ6_stringSize_0f7a4 9 = .ok (.ineg, 1) := by decide +kernel
theorem dJ6_stringSize_0f7a4_10 : decode cJ6_stringSize_0f7a4 10 = .ok (.istore_n 0, 1) := by decide +kernel
theorem dJ6_stringSize_0f7a4_11 : decode cJ6_stringSize_0f7a4 11 = .ok (.bipush (-10), 2) := by decide +kernel
theorem dJ6_stringSize_0f7a4_13 : decode cJ6_stringSize_0f7a4 13 = .ok (.istore_n 2, 1) := by decide +kernel
theorem dJ6_stringSize_0f7a4_14 : decode cJ6_stringSize_0f7a4 14 = .ok (.iconst 1, 1) := by decide +kernel
theorem dJ6_stringSize_0f7a4_15 : decode cJ6_stringSize_0f7a4 15 = .ok (.istore_n 3, 1) := by decide +kernel
theorem dJ6_stringSize_0f7a4_16 : decode cJ6_stringSize_0f7a4 16 = .ok (.iload_n 3, 1) := by decide +kernel
theorem dJ6_stringSize_0f7a4_17 : decode cJ6_stringSize_0f7a4 17 = .ok (.bipush 10, 2) := by decide +kernel
theorem dJ6_stringSize_0f7a4_19 : decode cJ6_stringSize_0f7a4 19 = .ok (.if_icmp .ge 23, 3) := by decide +kernel
theorem dJ6_stringSize_0f7a4_22 : decode cJ6_stringSize_0f7a4 22 = .ok (.iload_n 0, 1) := by decide +kernel
theorem dJ6_stringSize_0f7a4_23 : decode cJ6_stringSize_0f7a4 23 = .ok (.iload_n 2, 1) := by decide +kernel
theorem dJ6_stringSize_0f7a4_24 : decode cJ6_stringSize_0f7a4 24 = .ok (.if_icmp .le 7, 3) := by decide +kernel
theorem dJ6_stringSize_0f7a4_27 : decode cJ6_stringSize_0f7a4 27 = .ok (.iload_n 3, 1) := by decide +kernel
theorem dJ6_stringSize_0f7a4_28 : decode cJ6_stringSize_0f7a4 28 = .ok (.iload_n 1, 1) := by decide +kernel
theorem dJ6_stringSize_0f7a4_29 : decode cJ6_stringSize_0f7a4 29 = .ok (.iadd, 1) := by decide +kernel
theorem dJ6_stringSize_0f7a4_30 : decode cJ6_stringSize_0f7a4 30 = .ok (.ireturn, 1) := by decide +kernel
theorem dJ6_stringSize_0f7a4_31 : decode cJ6_stringSize_0f7a4 31 = .ok (.bipush 10, 2) := by decide +kernel
theorem dJ6_stringSize_0f7a4_33 : decode cJ6_stringSize_0f7a4 33 = .ok (.iload_n 2, 1) := by decide +kernel
theorem dJ6_stringSize_0f7a4_34 : decode cJ6_stringSize_0f7a4 34 = .ok (.imul, 1) := by decide +kernel
theorem dJ6_stringSize_0f7a4_35 : decode cJ6_stringSize_0f7a4 35 = .ok (.istore_n 2, 1) := by decide +kernel
theorem dJ6_stringSize_0f7a4_36 : decode cJ6_stringSize_0f7a4 36 = .ok (.iinc 3 1, 3) := by decide +kernel
theorem dJ6_stringSize_0f7a4_39 : decode cJ6_stringSize_0f7a4 39 = .ok (.goto (-23), 3) := by decide +kernel
theorem dJ6_stringSize_0f7a4_42 : decode cJ6_stringSize_0f7a4 42 = .ok (.bipush 10, 2) := by decide +kernel
theorem dJ6_stringSize_0f7a4_44 : decode cJ6_stringSize_0f7a4 44 = .ok (.iload_n 1, 1) := by decide +kernel
theorem dJ6_stringSize_0f7a4_45 : decode cJ6_stringSize_0f7a4 45 = .ok (.iadd, 1) := by decide +kernel
theorem dJ6_stringSize_0f7a4_46 : decode cJ6_stringSize_0f7a4 46 = .ok (.ireturn, 1) := by decide +kernel
theorem dJ6_valueOf_2dffe_0 : decode cJ6_valueOf_2dffe 0 = .ok (.iload_n 0, 1) := by decide +kernel
theorem dJ6_valueOf_2dffe_1 : decode cJ6_valueOf_2dffe 1 = .ok (.bipush (-128), 2) := by decide +kernel
theorem dJ6_valueOf_2dffe_3 : decode cJ6_valueOf_2dffe 3 = .ok (.if_icmp .lt 20, 3) := by decide +kernel
theorem dJ6_valueOf_2dffe_6 : decode cJ6_valueOf_2dffe 6 = .ok (.iload_n 0, 1) := by decide +kernel
theorem dJ6_valueOf_2dffe_7 : decode cJ6_valueOf_2dffe 7 = .ok (.getstatic 191, 3) := by decide +kernel
theorem dJ6_valueOf_2dffe_10 : decode cJ6_valueOf_2dffe 10 = .ok (.if_icmp .gt 13, 3) := by decide +kernel
theorem dJ6_valueOf_2dffe_13 : decode cJ6_valueOf_2dffe 13 = .ok (.getstatic 195, 3) := by decide +kernel
theorem dJ6_valueOf_2dffe_16 : decode cJ6_valueOf_2dffe 16 = .ok (.iload_n 0, 1) := by decide +kernel
theorem dJ6_valueOf_2dffe_17 : decode cJ6_valueOf_2dffe 17 = .ok (.sipush 128, 3) := by decide +kernel
theorem dJ6_valueOf_2dffe_20 : decode cJ6_valueOf_2dffe 20 = .ok (.iadd, 1) := by decide +kernel
theorem dJ6_valueOf_2dffe_21 : decode cJ6_valueOf_2dffe 21 = .ok (.aaload, 1) := by decide +kernel
theorem dJ6_valueOf_2dffe_22 : decode cJ6_valueOf_2dffe 22 = .ok (.areturn, 1) := by decide +kernel
theorem dJ6_valueOf_2dffe_23 : decode cJ6_valueOf_2dffe 23 = .ok (.new 1, 3) := by decide +kernel
theorem dJ6_valueOf_2dffe_26 : decode cJ6_valueOf_2dffe 26 = .ok (.dup, 1) := by decide +kernel
theorem dJ6_valueOf_2dffe_27 : decode cJ6_valueOf_2dffe 27 = .ok (.iload_n 0, 1) := by decide +kernel
theorem dJ6_valueOf_2dffe_28 : decode cJ6_valueOf_2dffe 28 = .ok (.invokespecial 199, 3) := by decide +kernel
theorem dJ6_valueOf_2dffe_31 : decode cJ6_valueOf_2dffe 31 = .ok (.areturn, 1) := by decide +kernel
theorem dJ6_init_d00df_0 : decode cJ6_init_d00df 0 = .ok (.aload_n 0, 1) := by decide +kernel
theorem dJ6_init_d00df_1 : decode cJ6_init_d00df 1 = .ok (.invokespecial 202, 3) := by decide +kernel
theorem dJ6_init_d00df_4 : decode cJ6_init_d00df 4 = .ok (.aload_n 0, 1) := by decide +kernel
theorem dJ6_init_d00df_5 : decode cJ6_init_d00df 5 = .ok (.iload_n 1, 1) := by decide +kernel
theorem dJ6_init_d00df_6 : decode cJ6_init_d00df 6 = .ok (.putfield 205, 3) := by decide +kernel
theorem dJ6_init_d00df_9 : decode cJ6_init_d00df 9 = .ok (.return_, 1) := by decide +kernel
theorem dJ6_intValue_8abf5_0 : decode cJ6_intValue_8abf5 0 = .ok (.aload_n 0, 1) := by decide +kernel
theorem dJ6_intValue_8abf5_1 : decode cJ6_intValue_8abf5 1 = .ok (.getfield 205, 3) := by decide +kernel
theorem dJ6_intValue_8abf5_4 : decode cJ6_intValue_8abf5 4 = .ok (.ireturn, 1) := by decide +kernel
theorem dJ9_max_7cf53_0 : decode cJ9_max_7cf53 0 = .ok (.iload_n 0, 1) := by decide +kernel
theorem dJ9_max_7cf53_1 : decode cJ9_max_7cf53 1 = .ok (.iload_n 1, 1) := by decide +kernel
theorem dJ9_max_7cf53_2 : decode cJ9_max_7cf53 2 = .ok (.if_icmp .lt 7, 3) := by decide +kernel
theorem dJ9_max_7cf53_5 : decode cJ9_max_7cf53 5 = .ok (.iload_n 0, 1) := by decide +kernel
theorem dJ9_max_7cf53_6 : decode cJ9_max_7cf53 6 = .ok (.goto 4, 3) := by decide +kernel
theorem dJ9_max_7cf53_9 : decode cJ9_max_7cf53 9 = .ok (.iload_n 1, 1) := by decide +kernel
theorem dJ9_max_7cf53_10 : decode cJ9_max_7cf53 10 = .ok (.ireturn, 1) := by decide +kernel
theorem dJ9_min_7cf53_0 : decode cJ9_min_7cf53 0 = .ok (.iload_n 0, 1) := by decide +kernel
theorem dJ9_min_7cf53_1 : decode cJ9_min_7cf53 1 = .ok (.iload_n 1, 1) := by decide +kernel
theorem dJ9_min_7cf53_2 : decode cJ9_min_7cf53 2 = .ok (.if_icmp .gt 7, 3) := by decide +kernel
theorem dJ9_min_7cf53_5 : decode cJ9_min_7cf53 5 = .ok (.iload_n 0, 1) := by decide +kernel
theorem dJ9_min_7cf53_6 : decode cJ9_min_7cf53 6 = .ok (.goto 4, 3) := by decide +kernel
theorem dJ9_min_7cf53_9 : decode cJ9_min_7cf53 9 = .ok (.iload_n 1, 1) := by decide +kernel
theorem dJ9_min_7cf53_10 : decode cJ9_min_7cf53 10 = .ok (.ireturn, 1) := by decide +kernel
theorem dJxd2413_init_da8c8_0 : decode cJxd2413_init_da8c8 0 = .ok (.aload_n 0, 1) := by decide +kernel
theorem dJxd2413_init_da8c8_1 : decode cJxd2413_init_da8c8 1 = .ok (.invokespecial 1, 3) := by decide +kernel
theorem dJxd2413_init_da8c8_4 : decode cJxd2413_init_da8c8 4 = .ok (.return_, 1) := by decide +kernel
theorem dJ0_init_81219_0 : decode cJ0_init_81219 0 = .ok (.aload_n 0, 1) := by decide +kernel
theorem dJ0_init_81219_1 : decode cJ0_init_81219 1 = .ok (.aload_n 1, 1) := by decide +kernel
theorem dJ0_init_81219_2 : decode cJ0_init_81219 2 = .ok (.aconst_null, 1) := by decide +kernel
theorem dJ0_init_81219_3 : decode cJ0_init_81219 3 = .ok (.invokespecial 489, 3) := by decide +kernel
theorem dJ0_init_81219_6 : decode cJ0_init_81219 6 = .ok (.return_, 1) := by decide +kernel
theorem dJ0_length_8abf5_0 : decode cJ0_length_8abf5 0 = .ok (.aload_n 0, 1) := by decide +kernel
theorem dJ0_length_8abf5_1 : decode cJ0_length_8abf5 1 = .ok (.getfield 9, 3) := by decide +kernel
theorem dJ0_length_8abf5_4 : decode cJ0_length_8abf5 4 = .ok (.arraylength, 1) := by decide +kernel
theorem dJ0_length_8abf5_5 : decode cJ0_length_8abf5 5 = .ok (.aload_n 0, 1) := by decide +kernel
theorem dJ0_length_8abf5_6 : decode cJ0_length_8abf5 6 = .ok (.invokevirtual 335, 3) := by decide +kernel
theorem dJ0_length_8abf5_9 : decode cJ0_length_8abf5 9 = .ok (.ishr, 1) := by decide +kernel
theorem dJ0_length_8abf5_10 : decode cJ0_length_8abf5 10 = .ok (.ireturn, 1) := by decide +kernel
theorem dJ0_getBytes_840e7_0 : decode cJ0_getBytes_840e7 0 = .ok (.aload_n 0, 1) := by decide +kernel
theorem dJ0_getBytes_840e7_1 : decode cJ0_getBytes_840e7 1 = .ok (.invokevirtual 335, 3) := by decide +kernel
theorem dJ0_getBytes_840e7_4 : decode cJ0_getBytes_840e7 4 = .ok (.iload_n 3, 1) := by decide +kernel
theorem dJ0_getBytes_840e7_5 : decode cJ0_getBytes_840e7 5 = .ok (.if_icmp .ne 23, 3) := by decide +kernel
theorem dJ0_getBytes_840e7_8 : decode cJ0_getBytes_840e7 8 = .ok (.aload_n 0, 1) := by decide +kernel
theorem dJ0_getBytes_840e7_9 : decode cJ0_getBytes_840e7 9 = .ok (.getfield 9, 3) := by decide +kernel
theorem dJ0_getBytes_840e7_12 : decode cJ0_getBytes_840e7 12 = .ok (.iconst 0, 1) := by decide +kernel
theorem dJ0_getBytes_840e7_13 : decode cJ0_getBytes_840e7 13 = .ok (.aload_n 1, 1) := by decide +kernel
theorem dJ0_getBytes_840e7_14 : decode cJ0_getBytes_840e7 14 = .ok (.iload_n 2, 1) := by decide +kernel
theorem dJ0_getBytes_840e7_15 : decode cJ0_getBytes_840e7 15 = .ok (.iload_n 3, 1) := by decide +kernel
theorem dJ0_getBytes_840e7_16 : decode cJ0_getBytes_840e7 16 = .ok (.ishl, 1) := by decide +kernel
theorem dJ0_getBytes_840e7_17 : decode cJ0_getBytes_840e7 17 = .ok (.aload_n 0, 1) := by decide +kernel
theorem dJ0_getBytes_840e7_18 : decode cJ0_getBytes_840e7 18 = .ok (.getfield 9, 3) := by decide +kernel
theorem dJ0_getBytes_840e7_21 : decode cJ0_getBytes_840e7 21 = .ok (.arraylength, 1) := by decide +kernel
theorem dJ0_getBytes_840e7_22 : decode cJ0_getBytes_840e7 22 = .ok (.invokestatic 212, 3) := by decide +kernel
theorem dJ0_getBytes_840e7_25 : decode cJ0_getBytes_840e7 25 = .ok (.goto 18, 3) := by decide +kernel
theorem dJ0_getBytes_840e7_28 : decode cJ0_getBytes_840e7 28 = .ok (.aload_n 0, 1) := by decide +kernel
theorem dJ0_getBytes_840e7_29 : decode cJ0_getBytes_840e7 29 = .ok (.getfield 9, 3) := by decide +kernel
theorem dJ0_getBytes_840e7_32 : decode cJ0_getBytes_840e7 32 = .ok (.iconst 0, 1) := by decide +kernel
theorem dJ0_getBytes_840e7_33 : decode cJ0_getBytes_840e7 33 = .ok (.aload_n 1, 1) := by decide +kernel
theorem dJ0_getBytes_840e7_34 : decode cJ0_getBytes_840e7 34 = .ok (.iload_n 2, 1) := by decide +kernel
theorem dJ0_getBytes_840e7_35 : decode cJ0_getBytes_840e7 35 = .ok (.aload_n 0, 1) := by decide +kernel
theorem dJ0_getBytes_840e7_36 : decode cJ0_getBytes_840e7 36 = .ok (.getfield 9, 3) := by decide +kernel
theorem dJ0_getBytes_840e7_39 : decode cJ0_getBytes_840e7 39 = .ok (.arraylength, 1) := by decide +kernel
theorem dJ0_getBytes_840e7_40 : decode cJ0_getBytes_840e7 40 = .ok (.invokestatic 106, 3) := by decide +kernel
theorem dJ0_getBytes_840e7_43 : decode cJ0_getBytes_840e7 43 = .ok (.return_, 1) := by decide +kernel
theorem dJ0_init_db425_0 : decode cJ0_init_db425 0 = .ok (.aload_n 0, 1) := by decide +kernel
theorem dJ0_init_db425_1 : decode cJ0_init_db425 1 = .ok (.invokespecial 1, 3) := by decide +kernel
theorem dJ0_init_db425_4 : decode cJ0_init_db425 4 = .ok (.aload_n 1, 1) := by decide +kernel
theorem dJ0_init_db425_5 : decode cJ0_init_db425 5 = .ok (.invokevirtual 552, 3) := by decide +kernel
theorem dJ0_init_db425_8 : decode cJ0_init_db425 8 = .ok (.astore_n 3, 1) := by decide +kernel
theorem dJ0_init_db425_9 : decode cJ0_init_db425 9 = .ok (.aload_n 1, 1) := by decide +kernel
theorem dJ0_init_db425_10 : decode cJ0_init_db425 10 = .ok (.invokevirtual 549, 3) := by decide +kernel
theorem dJ0_init_db425_13 : decode cJ0_init_db425 13 = .ok (.istore 4, 2) := by decide +kernel
theorem dJ0_init_db425_15 : decode cJ0_init_db425 15 = .ok (.aload_n 1, 1) := by decide +kernel
theorem dJ0_init_db425_16 : decode cJ0_init_db425 16 = .ok (.invokevirtual 1047, 3) := by decide +kernel
theorem dJ0_init_db425_19 : decode cJ0_init_db425 19 = .ok (.ifCond .eq 22, 3) := by decide +kernel
theorem dJ0_init_db425_22 : decode cJ0_init_db425 22 = .ok (.aload_n 0, 1) := by decide +kernel
theorem dJ0_init_db425_23 : decode cJ0_init_db425 23 = .ok (.iconst 0, 1) := by decide +kernel
theorem dJ0_init_db425_24 : decode cJ0_init_db425 24 = .ok (.putfield 15, 3) := by decide +kernel
theorem dJ0_init_db425_27 : decode cJ0_init_db425 27 = .ok (.aload_n 0, 1) := by decide +kernel
theorem dJ0_init_db425_28 : decode cJ0_init_db425 28 = .ok (.aload_n 3, 1) := by decide +kernel
theorem dJ0_init_db425_29 : decode cJ0_init_db425 29 = .ok (.iconst 0, 1) := by decide +kernel
theorem dJ0_init_db425_30 : decode cJ0_init_db425 30 = .ok (.iload 4, 2) := by decide +kernel
theorem dJ0_init_db425_32 : decode cJ0_init_db425 32 = .ok (.invokestatic 54, 3) := by decide +kernel
theorem dJ0_init_db425_35 : decode cJ0_init_db425 35 = .ok (.putfield 9, 3) := by decide +kernel
theorem dJ0_init_db425_38 : decode cJ0_init_db425 38 = .ok (.goto 59, 3) := by decide +kernel
theorem dJ0_init_db425_41 : decode cJ0_init_db425 41 = .ok (.getstatic 38, 3) := by decide +kernel
theorem dJ0_init_db425_44 : decode cJ0_init_db425 44 = .ok (.ifCond .eq 35, 3) := by decide +kernel
theorem dJ0_init_db425_47 : decode cJ0_init_db425 47 = .ok (.aload_n 1, 1) := by decide +kernel
theorem dJ0_init_db425_48 : decode cJ0_init_db425 48 = .ok (.getfield 1048, 3) := by decide +kernel
theorem dJ0_init_db425_51 : decode cJ0_init_db425 51 = .ok (.ifCond .eq 28, 3) := by decide +kernel
theorem dJ0_init_db425_54 : decode cJ0_init_db425 54 = .ok (.aload_n 0, 1) := by decide +kernel
theorem dJ0_init_db425_55 : decode cJ0_init_db425 55 = .ok (.aload_n 3, 1) := by decide +kernel
theorem dJ0_init_db425_56 : decode cJ0_init_db425 56 = .ok (.iconst 0, 1) := by decide +kernel
theorem dJ0_init_db425_57 : decode cJ0_init_db425 57 = .ok (.iload 4, 2) := by decide +kernel
theorem dJ0_init_db425_59 : decode cJ0_init_db425 59 = .ok (.invokestatic 1051, 3) := by decide +kernel
theorem dJ0_init_db425_62 : decode cJ0_init_db425 62 = .ok (.putfield 9, 3) := by decide +kernel
theorem dJ0_init_db425_65 : decode cJ0_init_db425 65 = .ok (.aload_n 0, 1) := by decide +kernel
theorem dJ0_init_db425_66 : decode cJ0_init_db425 66 = .ok (.aload_n 0, 1) := by decide +kernel
theorem dJ0_init_db425_67 : decode cJ0_init_db425 67 = .ok (.getfield 9, 3) := by decide +kernel
theorem dJ0_init_db425_70 : decode cJ0_init_db425 70 = .ok (.iload 4, 2) := by decide +kernel
theorem dJ0_init_db425_72 : decode cJ0_init_db425 72 = .ok (.invokestatic 47, 3) := by decide +kernel
theorem dJ0_init_db425_75 : decode cJ0_init_db425 75 = .ok (.putfield 15, 3) := by decide +kernel
theorem dJ0_init_db425_78 : decode cJ0_init_db425 78 = .ok (.return_, 1) := by decide +kernel
theorem dJ0_init_db425_79 : decode cJ0_init_db425 79 = .ok (.aload_n 0, 1) := by decide +kernel
theorem dJ0_init_db425_80 : decode cJ0_init_db425 80 = .ok (.iconst 1, 1) := by decide +kernel
theorem dJ0_init_db425_81 : decode cJ0_init_db425 81 = .ok (.putfield 15, 3) := by decide +kernel
theorem dJ0_init_db425_84 : decode cJ0_init_db425 84 = .ok (.aload_n 0, 1) := by decide +kernel
theorem dJ0_init_db425_85 : decode cJ0_init_db425 85 = .ok (.aload_n 3, 1) := by decide +kernel
theorem dJ0_init_db425_86 : decode cJ0_init_db425 86 = .ok (.iconst 0, 1) := by decide +kernel
theorem dJ0_init_db425_87 : decode cJ0_init_db425 87 = .ok (.iload 4, 2) := by decide +kernel
theorem dJ0_init_db425_89 : decode cJ0_init_db425 89 = .ok (.iconst 1, 1) := by decide +kernel
theorem dJ0_init_db425_90 : decode cJ0_init_db425 90 = .ok (.ishl, 1) := by decide +kernel
theorem dJ0_init_db425_91 : decode cJ0_init_db425 91 = .ok (.invokestatic 54, 3) := by decide +kernel
theorem dJ0_init_db425_94 : decode cJ0_init_db425 94 = .ok (.putfield 9, 3) := by decide +kernel
theorem dJ0_init_db425_97 : decode cJ0_init_db425 97 = .ok (.return_, 1) := by decide +kernel
theorem dJ0_coder_7d493_0 : decode cJ0_coder_7d493 0 = .ok (.getstatic 38, 3) := by decide +kernel
theorem dJ0_coder_7d493_3 : decode cJ0_coder_7d493 3 = .ok (.ifCond .eq 10, 3) := by decide +kernel
theorem dJ0_coder_7d493_6 : decode cJ0_coder_7d493 6 = .ok (.aload_n 0, 1) := by decide +kernel
theorem dJ0_coder_7d493_7 : decode cJ0_coder_7d493 7 = .ok (.getfield 15, 3) := by decide +kernel
theorem dJ0_coder_7d493_10 : decode cJ0_coder_7d493 10 = .ok (.goto 4, 3) := by decide +kernel
theorem dJ0_coder_7d493_13 : decode cJ0_coder_7d493 13 = .ok (.iconst 1, 1) := by decide +kernel
theorem dJ0_coder_7d493_14 : decode cJ0_coder_7d493 14 = .ok (.ireturn, 1) := by decide +kernel
theorem dJ0_checkIndex_df160_0 : decode cJ0_checkIndex_df160 0 = .ok (.iload_n 0, 1) := by decide +kernel
theorem dJ0_checkIndex_df160_1 : decode cJ0_checkIndex_df160 1 = .ok (.iload_n 1, 1) := by decide +kernel
theorem dJ0_checkIndex_df160_2 : decode cJ0_checkIndex_df160 2 = .ok (.getstatic 1053, 3) := by decide +kernel
theorem dJ0_checkIndex_df160_5 : decode cJ0_checkIndex_df160 5 = .ok (.invokestatic 1059, 3) := by decide +kernel
theorem dJ0_checkIndex_df160_8 : decode cJ0_checkIndex_df160 8 = .ok (.pop, 1) := by decide +kernel
theorem dJ0_checkIndex_df160_9 : decode cJ0_checkIndex_df160 9 = .ok (.return_, 1) := by decide +kernel
theorem dJ0_checkBoundsOffCount_cabcc_0 : decode cJ0_checkBoundsOffCount_cabcc 0 = .ok (.iload_n 0, 1) := by decide +kernel
theorem dJ0_checkBoundsOffCount_cabcc_1 : decode cJ0_checkBoundsOffCount_cabcc 1 = .ok (.iload_n 1, 1) := by decide +kernel
theorem dJ0_checkBoundsOffCount_cabcc_2 : decode cJ0_checkBoundsOffCount_cabcc 2 = .ok (.iload_n 2, 1) := by decide +kernel
theorem dJ0_checkBoundsOffCount_cabcc_3 : decode cJ0_checkBoundsOffCount_cabcc 3 = .ok (.getstatic 1053, 3) := by decide +kernel
theorem dJ0_checkBoundsOffCount_cabcc_6 : decode cJ0_checkBoundsOffCount_cabcc 6 = .ok (.invokestatic 1065, 3) := by decide +kernel
theorem dJ0_checkBoundsOffCount_cabcc_9 : decode cJ0_checkBoundsOffCount_cabcc 9 = .ok (.ireturn, 1) := by decide +kernel
theorem dJ0_checkBoundsBeginEnd_23922_0 : decode cJ0_checkBoundsBeginEnd_23922 0 = .ok (.iload_n 0, 1) := by decide +kernel
theorem dJ0_checkBoundsBeginEnd_23922_1 : decode cJ0_checkBoundsBeginEnd_23922 1 = .ok (.iload_n 1, 1) := by decide +kernel
theorem dJ0_checkBoundsBeginEnd_23922_2 : decode cJ0_checkBoundsBeginEnd_23922 2 = .ok (.iload_n 2, 1) := by decide +kernel
theorem dJ0_checkBoundsBeginEnd_23922_3 : decode cJ0_checkBoundsBeginEnd_23922 3 = .ok (.getstatic 1053, 3) := by decide +kernel
theorem dJ0_checkBoundsBeginEnd_23922_6 : decode cJ0_checkBoundsBeginEnd_23922 6 = .ok (.invokestatic 1062, 3) := by decide +kernel
theorem dJ0_checkBoundsBeginEnd_23922_9 : decode cJ0_checkBoundsBeginEnd_23922 9 = .ok (.pop, 1) := by decide +kernel
theorem dJ0_checkBoundsBeginEnd_23922_10 : decode cJ0_checkBoundsBeginEnd_23922 10 = .ok (.return_, 1) := by decide +kernel
theorem dJ4_init_da8c8_0 : decode cJ4_init_da8c8 0 = .ok (.aload_n 0, 1) := by decide +kernel
theorem dJ4_init_da8c8_1 : decode cJ4_init_da8c8 1 = .ok (.bipush 16, 2) := by decide +kernel
theorem dJ4_init_da8c8_3 : decode cJ4_init_da8c8 3 = .ok (.invokespecial 1, 3) := by decide +kernel
theorem dJ4_init_da8c8_6 : decode cJ4_init_da8c8 6 = .ok (.return_, 1) := by decide +kernel
theorem dJ4_append_15ec4_0 : decode cJ4_append_15ec4 0 = .ok (.aload_n 0, 1) := by decide +kernel
