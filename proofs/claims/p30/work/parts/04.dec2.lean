theorem dX6_cross_71 : decode cX6_cross 71 = .ok (.aload_n 0, 1) := by decide +kernel
theorem dX6_cross_72 : decode cX6_cross 72 = .ok (.iload_n 1, 1) := by decide +kernel
theorem dX6_cross_73 : decode cX6_cross 73 = .ok (.iload_n 2, 1) := by decide +kernel
theorem dX6_cross_74 : decode cX6_cross 74 = .ok (.invokevirtual 140, 3) := by decide +kernel
theorem dX6_cross_77 : decode cX6_cross 77 = .ok (.ireturn, 1) := by decide +kernel
theorem dX6_turn_0 : decode cX6_turn 0 = .ok (.aload_n 0, 1) := by decide +kernel
theorem dX6_turn_1 : decode cX6_turn 1 = .ok (.getfield 19, 3) := by decide +kernel
theorem dX6_turn_4 : decode cX6_turn 4 = .ok (.invokevirtual 90, 3) := by decide +kernel
theorem dX6_turn_7 : decode cX6_turn 7 = .ok (.ifCond .ne 13, 3) := by decide +kernel
theorem dX6_turn_10 : decode cX6_turn 10 = .ok (.new 63, 3) := by decide +kernel
theorem dX6_turn_13 : decode cX6_turn 13 = .ok (.dup, 1) := by decide +kernel
theorem dX6_turn_14 : decode cX6_turn 14 = .ok (.ldc 143, 2) := by decide +kernel
theorem dX6_turn_16 : decode cX6_turn 16 = .ok (.invokespecial 67, 3) := by decide +kernel
theorem dX6_turn_19 : decode cX6_turn 19 = .ok (.athrow, 1) := by decide +kernel
theorem dX6_turn_20 : decode cX6_turn 20 = .ok (.aload_n 0, 1) := by decide +kernel
theorem dX6_turn_21 : decode cX6_turn 21 = .ok (.getfield 41, 3) := by decide +kernel
theorem dX6_turn_24 : decode cX6_turn 24 = .ok (.aload_n 0, 1) := by decide +kernel
theorem dX6_turn_25 : decode cX6_turn 25 = .ok (.getfield 19, 3) := by decide +kernel
theorem dX6_turn_28 : decode cX6_turn 28 = .ok (.aload_n 0, 1) := by decide +kernel
theorem dX6_turn_29 : decode cX6_turn 29 = .ok (.getfield 12, 3) := by decide +kernel
theorem dX6_turn_32 : decode cX6_turn 32 = .ok (.invokevirtual 95, 3) := by decide +kernel
theorem dX6_turn_35 : decode cX6_turn 35 = .ok (.aload_n 0, 1) := by decide +kernel
theorem dX6_turn_36 : decode cX6_turn 36 = .ok (.getfield 19, 3) := by decide +kernel
theorem dX6_turn_39 : decode cX6_turn 39 = .ok (.getfield 131, 3) := by decide +kernel
theorem dX6_turn_42 : decode cX6_turn 42 = .ok (.getfield 135, 3) := by decide +kernel
theorem dX6_turn_45 : decode cX6_turn 45 = .ok (.ifCond .le 16, 3) := by decide +kernel
theorem dX6_turn_48 : decode cX6_turn 48 = .ok (.aload_n 0, 1) := by decide +kernel
theorem dX6_turn_49 : decode cX6_turn 49 = .ok (.getfield 19, 3) := by decide +kernel
theorem dX6_turn_52 : decode cX6_turn 52 = .ok (.dup, 1) := by decide +kernel
theorem dX6_turn_53 : decode cX6_turn 53 = .ok (.getfield 145, 3) := by decide +kernel
theorem dX6_turn_56 : decode cX6_turn 56 = .ok (.iconst 1, 1) := by decide +kernel
theorem dX6_turn_57 : decode cX6_turn 57 = .ok (.iadd, 1) := by decide +kernel
theorem dX6_turn_58 : decode cX6_turn 58 = .ok (.putfield 145, 3) := by decide +kernel
theorem dX6_turn_61 : decode cX6_turn 61 = .ok (.aload_n 0, 1) := by decide +kernel
theorem dX6_turn_62 : decode cX6_turn 62 = .ok (.getfield 19, 3) := by decide +kernel
theorem dX6_turn_65 : decode cX6_turn 65 = .ok (.getfield 131, 3) := by decide +kernel
theorem dX6_turn_68 : decode cX6_turn 68 = .ok (.aload_n 0, 1) := by decide +kernel
theorem dX6_turn_69 : decode cX6_turn 69 = .ok (.getfield 19, 3) := by decide +kernel
theorem dX6_turn_72 : decode cX6_turn 72 = .ok (.getfield 148, 3) := by decide +kernel
theorem dX6_turn_75 : decode cX6_turn 75 = .ok (.invokevirtual 151, 3) := by decide +kernel
theorem dX6_turn_78 : decode cX6_turn 78 = .ok (.aload_n 0, 1) := by decide +kernel
theorem dX6_turn_79 : decode cX6_turn 79 = .ok (.getfield 19, 3) := by decide +kernel
theorem dX6_turn_82 : decode cX6_turn 82 = .ok (.dup, 1) := by decide +kernel
theorem dX6_turn_83 : decode cX6_turn 83 = .ok (.getfield 155, 3) := by decide +kernel
theorem dX6_turn_86 : decode cX6_turn 86 = .ok (.iconst 1, 1) := by decide +kernel
theorem dX6_turn_87 : decode cX6_turn 87 = .ok (.iadd, 1) := by decide +kernel
theorem dX6_turn_88 : decode cX6_turn 88 = .ok (.putfield 155, 3) := by decide +kernel
theorem dX6_turn_91 : decode cX6_turn 91 = .ok (.aload_n 0, 1) := by decide +kernel
theorem dX6_turn_92 : decode cX6_turn 92 = .ok (.getfield 19, 3) := by decide +kernel
theorem dX6_turn_95 : decode cX6_turn 95 = .ok (.getfield 131, 3) := by decide +kernel
theorem dX6_turn_98 : decode cX6_turn 98 = .ok (.getfield 135, 3) := by decide +kernel
theorem dX6_turn_101 : decode cX6_turn 101 = .ok (.ireturn, 1) := by decide +kernel
theorem dX6_bind_0 : decode cX6_bind 0 = .ok (.iload_n 1, 1) := by decide +kernel
theorem dX6_bind_1 : decode cX6_bind 1 = .ok (.iconst 1, 1) := by decide +kernel
theorem dX6_bind_2 : decode cX6_bind 2 = .ok (.if_icmp .lt 9, 3) := by decide +kernel
theorem dX6_bind_5 : decode cX6_bind 5 = .ok (.iload_n 1, 1) := by decide +kernel
theorem dX6_bind_6 : decode cX6_bind 6 = .ok (.bipush 24, 2) := by decide +kernel
theorem dX6_bind_8 : decode cX6_bind 8 = .ok (.if_icmp .le 13, 3) := by decide +kernel
theorem dX6_bind_11 : decode cX6_bind 11 = .ok (.new 52, 3) := by decide +kernel
theorem dX6_bind_14 : decode cX6_bind 14 = .ok (.dup, 1) := by decide +kernel
theorem dX6_bind_15 : decode cX6_bind 15 = .ok (.ldc 158, 2) := by decide +kernel
theorem dX6_bind_17 : decode cX6_bind 17 = .ok (.invokespecial 56, 3) := by decide +kernel
theorem dX6_bind_20 : decode cX6_bind 20 = .ok (.athrow, 1) := by decide +kernel
theorem dX6_bind_21 : decode cX6_bind 21 = .ok (.iload_n 1, 1) := by decide +kernel
theorem dX6_bind_22 : decode cX6_bind 22 = .ok (.aload_n 0, 1) := by decide +kernel
theorem dX6_bind_23 : decode cX6_bind 23 = .ok (.getfield 19, 3) := by decide +kernel
theorem dX6_bind_26 : decode cX6_bind 26 = .ok (.getfield 148, 3) := by decide +kernel
theorem dX6_bind_29 : decode cX6_bind 29 = .ok (.getfield 135, 3) := by decide +kernel
theorem dX6_bind_32 : decode cX6_bind 32 = .ok (.if_icmp .ne 20, 3) := by decide +kernel
theorem dX6_bind_35 : decode cX6_bind 35 = .ok (.aload_n 0, 1) := by decide +kernel
theorem dX6_bind_36 : decode cX6_bind 36 = .ok (.getfield 19, 3) := by decide +kernel
theorem dX6_bind_39 : decode cX6_bind 39 = .ok (.getfield 131, 3) := by decide +kernel
theorem dX6_bind_42 : decode cX6_bind 42 = .ok (.getfield 135, 3) := by decide +kernel
theorem dX6_bind_45 : decode cX6_bind 45 = .ok (.ifCond .ne 7, 3) := by decide +kernel
theorem dX6_bind_48 : decode cX6_bind 48 = .ok (.iconst 1, 1) := by decide +kernel
theorem dX6_bind_49 : decode cX6_bind 49 = .ok (.goto 4, 3) := by decide +kernel
theorem dX6_bind_52 : decode cX6_bind 52 = .ok (.iconst 0, 1) := by decide +kernel
theorem dX6_bind_53 : decode cX6_bind 53 = .ok (.istore_n 2, 1) := by decide +kernel
theorem dX6_bind_54 : decode cX6_bind 54 = .ok (.iload_n 2, 1) := by decide +kernel
theorem dX6_bind_55 : decode cX6_bind 55 = .ok (.ifCond .ne 29, 3) := by decide +kernel
theorem dX6_bind_58 : decode cX6_bind 58 = .ok (.iload_n 1, 1) := by decide +kernel
theorem dX6_bind_59 : decode cX6_bind 59 = .ok (.aload_n 0, 1) := by decide +kernel
theorem dX6_bind_60 : decode cX6_bind 60 = .ok (.getfield 19, 3) := by decide +kernel
theorem dX6_bind_63 : decode cX6_bind 63 = .ok (.getfield 148, 3) := by decide +kernel
theorem dX6_bind_66 : decode cX6_bind 66 = .ok (.getfield 135, 3) := by decide +kernel
theorem dX6_bind_69 : decode cX6_bind 69 = .ok (.iconst 1, 1) := by decide +kernel
theorem dX6_bind_70 : decode cX6_bind 70 = .ok (.isub, 1) := by decide +kernel
theorem dX6_bind_71 : decode cX6_bind 71 = .ok (.if_icmp .le 13, 3) := by decide +kernel
theorem dX6_bind_74 : decode cX6_bind 74 = .ok (.new 63, 3) := by decide +kernel
theorem dX6_bind_77 : decode cX6_bind 77 = .ok (.dup, 1) := by decide +kernel
theorem dX6_bind_78 : decode cX6_bind 78 = .ok (.ldc 160, 2) := by decide +kernel
theorem dX6_bind_80 : decode cX6_bind 80 = .ok (.invokespecial 67, 3) := by decide +kernel
theorem dX6_bind_83 : decode cX6_bind 83 = .ok (.athrow, 1) := by decide +kernel
theorem dX6_bind_84 : decode cX6_bind 84 = .ok (.iload_n 2, 1) := by decide +kernel
theorem dX6_bind_85 : decode cX6_bind 85 = .ok (.ifCond .eq 25, 3) := by decide +kernel
theorem dX6_bind_88 : decode cX6_bind 88 = .ok (.aload_n 0, 1) := by decide +kernel
theorem dX6_bind_89 : decode cX6_bind 89 = .ok (.getfield 12, 3) := by decide +kernel
theorem dX6_bind_92 : decode cX6_bind 92 = .ok (.invokevirtual 86, 3) := by decide +kernel
theorem dX6_bind_95 : decode cX6_bind 95 = .ok (.bipush 6, 2) := by decide +kernel
theorem dX6_bind_97 : decode cX6_bind 97 = .ok (.if_icmp .ge 13, 3) := by decide +kernel
theorem dX6_bind_100 : decode cX6_bind 100 = .ok (.new 63, 3) := by decide +kernel
theorem dX6_bind_103 : decode cX6_bind 103 = .ok (.dup, 1) := by decide +kernel
theorem dX6_bind_104 : decode cX6_bind 104 = .ok (.ldc 162, 2) := by decide +kernel
theorem dX6_bind_106 : decode cX6_bind 106 = .ok (.invokespecial 67, 3) := by decide +kernel
theorem dX6_bind_109 : decode cX6_bind 109 = .ok (.athrow, 1) := by decide +kernel
theorem dX6_bind_110 : decode cX6_bind 110 = .ok (.aload_n 0, 1) := by decide +kernel
theorem dX6_bind_111 : decode cX6_bind 111 = .ok (.getfield 41, 3) := by decide +kernel
theorem dX6_bind_114 : decode cX6_bind 114 = .ok (.aload_n 0, 1) := by decide +kernel
theorem dX6_bind_115 : decode cX6_bind 115 = .ok (.getfield 19, 3) := by decide +kernel
theorem dX6_bind_118 : decode cX6_bind 118 = .ok (.aload_n 0, 1) := by decide +kernel
theorem dX6_bind_119 : decode cX6_bind 119 = .ok (.getfield 12, 3) := by decide +kernel
theorem dX6_bind_122 : decode cX6_bind 122 = .ok (.invokevirtual 95, 3) := by decide +kernel
theorem dX6_bind_125 : decode cX6_bind 125 = .ok (.aload_n 0, 1) := by decide +kernel
theorem dX6_bind_126 : decode cX6_bind 126 = .ok (.iload_n 2, 1) := by decide +kernel
theorem dX6_bind_127 : decode cX6_bind 127 = .ok (.ifCond .eq 9, 3) := by decide +kernel
theorem dX6_bind_130 : decode cX6_bind 130 = .ok (.iload_n 1, 1) := by decide +kernel
theorem dX6_bind_131 : decode cX6_bind 131 = .ok (.iconst 1, 1) := by decide +kernel
theorem dX6_bind_132 : decode cX6_bind 132 = .ok (.isub, 1) := by decide +kernel
theorem dX6_bind_133 : decode cX6_bind 133 = .ok (.goto 4, 3) := by decide +kernel
theorem dX6_bind_136 : decode cX6_bind 136 = .ok (.iload_n 1, 1) := by decide +kernel
theorem dX6_bind_137 : decode cX6_bind 137 = .ok (.invokevirtual 164, 3) := by decide +kernel
theorem dX6_bind_140 : decode cX6_bind 140 = .ok (.iload_n 2, 1) := by decide +kernel
theorem dX6_bind_141 : decode cX6_bind 141 = .ok (.ifCond .eq 7, 3) := by decide +kernel
theorem dX6_bind_144 : decode cX6_bind 144 = .ok (.aload_n 0, 1) := by decide +kernel
theorem dX6_bind_145 : decode cX6_bind 145 = .ok (.invokevirtual 168, 3) := by decide +kernel
theorem dX6_bind_148 : decode cX6_bind 148 = .ok (.aload_n 0, 1) := by decide +kernel
theorem dX6_bind_149 : decode cX6_bind 149 = .ok (.getfield 19, 3) := by decide +kernel
theorem dX6_bind_152 : decode cX6_bind 152 = .ok (.invokevirtual 90, 3) := by decide +kernel
theorem dX6_bind_155 : decode cX6_bind 155 = .ok (.ireturn, 1) := by decide +kernel
theorem dX6_drop_0 : decode cX6_drop 0 = .ok (.aload_n 0, 1) := by decide +kernel
theorem dX6_drop_1 : decode cX6_drop 1 = .ok (.getfield 19, 3) := by decide +kernel
theorem dX6_drop_4 : decode cX6_drop 4 = .ok (.getfield 131, 3) := by decide +kernel
theorem dX6_drop_7 : decode cX6_drop 7 = .ok (.getfield 135, 3) := by decide +kernel
theorem dX6_drop_10 : decode cX6_drop 10 = .ok (.iconst 1, 1) := by decide +kernel
theorem dX6_drop_11 : decode cX6_drop 11 = .ok (.if_icmp .lt 15, 3) := by decide +kernel
theorem dX6_drop_14 : decode cX6_drop 14 = .ok (.aload_n 0, 1) := by decide +kernel
theorem dX6_drop_15 : decode cX6_drop 15 = .ok (.getfield 19, 3) := by decide +kernel
theorem dX6_drop_18 : decode cX6_drop 18 = .ok (.getfield 171, 3) := by decide +kernel
theorem dX6_drop_21 : decode cX6_drop 21 = .ok (.bipush 9, 2) := by decide +kernel
theorem dX6_drop_23 : decode cX6_drop 23 = .ok (.if_icmp .lt 13, 3) := by decide +kernel
theorem dX6_drop_26 : decode cX6_drop 26 = .ok (.new 63, 3) := by decide +kernel
theorem dX6_drop_29 : decode cX6_drop 29 = .ok (.dup, 1) := by decide +kernel
theorem dX6_drop_30 : decode cX6_drop 30 = .ok (.ldc 174, 2) := by decide +kernel
theorem dX6_drop_32 : decode cX6_drop 32 = .ok (.invokespecial 67, 3) := by decide +kernel
theorem dX6_drop_35 : decode cX6_drop 35 = .ok (.athrow, 1) := by decide +kernel
theorem dX6_drop_36 : decode cX6_drop 36 = .ok (.aload_n 0, 1) := by decide +kernel
theorem dX6_drop_37 : decode cX6_drop 37 = .ok (.getfield 41, 3) := by decide +kernel
theorem dX6_drop_40 : decode cX6_drop 40 = .ok (.aload_n 0, 1) := by decide +kernel
theorem dX6_drop_41 : decode cX6_drop 41 = .ok (.getfield 19, 3) := by decide +kernel
theorem dX6_drop_44 : decode cX6_drop 44 = .ok (.aload_n 0, 1) := by decide +kernel
theorem dX6_drop_45 : decode cX6_drop 45 = .ok (.getfield 12, 3) := by decide +kernel
theorem dX6_drop_48 : decode cX6_drop 48 = .ok (.invokevirtual 95, 3) := by decide +kernel
theorem dX6_drop_51 : decode cX6_drop 51 = .ok (.aload_n 0, 1) := by decide +kernel
theorem dX6_drop_52 : decode cX6_drop 52 = .ok (.getfield 19, 3) := by decide +kernel
theorem dX6_drop_55 : decode cX6_drop 55 = .ok (.getfield 131, 3) := by decide +kernel
theorem dX6_drop_58 : decode cX6_drop 58 = .ok (.iconst 0, 1) := by decide +kernel
theorem dX6_drop_59 : decode cX6_drop 59 = .ok (.invokevirtual 176, 3) := by decide +kernel
theorem dX6_drop_62 : decode cX6_drop 62 = .ok (.istore_n 1, 1) := by decide +kernel
theorem dX6_drop_63 : decode cX6_drop 63 = .ok (.aload_n 0, 1) := by decide +kernel
theorem dX6_drop_64 : decode cX6_drop 64 = .ok (.getfield 19, 3) := by decide +kernel
theorem dX6_drop_67 : decode cX6_drop 67 = .ok (.iload_n 1, 1) := by decide +kernel
theorem dX6_drop_68 : decode cX6_drop 68 = .ok (.aload_n 0, 1) := by decide +kernel
theorem dX6_drop_69 : decode cX6_drop 69 = .ok (.getfield 28, 3) := by decide +kernel
theorem dX6_drop_72 : decode cX6_drop 72 = .ok (.iload_n 1, 1) := by decide +kernel
theorem dX6_drop_73 : decode cX6_drop 73 = .ok (.iconst 3, 1) := by decide +kernel
theorem dX6_drop_74 : decode cX6_drop 74 = .ok (.invokevirtual 179, 3) := by decide +kernel
theorem dX6_drop_77 : decode cX6_drop 77 = .ok (.invokevirtual 182, 3) := by decide +kernel
theorem dX6_drop_80 : decode cX6_drop 80 = .ok (.ireturn, 1) := by decide +kernel
theorem dX6_latch_0 : decode cX6_latch 0 = .ok (.iload_n 1, 1) := by decide +kernel
theorem dX6_latch_1 : decode cX6_latch 1 = .ok (.ifCond .lt 14, 3) := by decide +kernel
theorem dX6_latch_4 : decode cX6_latch 4 = .ok (.iload_n 1, 1) := by decide +kernel
theorem dX6_latch_5 : decode cX6_latch 5 = .ok (.aload_n 0, 1) := by decide +kernel
theorem dX6_latch_6 : decode cX6_latch 6 = .ok (.getfield 19, 3) := by decide +kernel
theorem dX6_latch_9 : decode cX6_latch 9 = .ok (.getfield 171, 3) := by decide +kernel
theorem dX6_latch_12 : decode cX6_latch 12 = .ok (.if_icmp .lt 13, 3) := by decide +kernel
theorem dX6_latch_15 : decode cX6_latch 15 = .ok (.new 76, 3) := by decide +kernel
theorem dX6_latch_18 : decode cX6_latch 18 = .ok (.dup, 1) := by decide +kernel
theorem dX6_latch_19 : decode cX6_latch 19 = .ok (.ldc 185, 2) := by decide +kernel
theorem dX6_latch_21 : decode cX6_latch 21 = .ok (.invokespecial 80, 3) := by decide +kernel
theorem dX6_latch_24 : decode cX6_latch 24 = .ok (.athrow, 1) := by decide +kernel
theorem dX6_latch_25 : decode cX6_latch 25 = .ok (.aload_n 0, 1) := by decide +kernel
theorem dX6_latch_26 : decode cX6_latch 26 = .ok (.getfield 19, 3) := by decide +kernel
theorem dX6_latch_29 : decode cX6_latch 29 = .ok (.getfield 187, 3) := by decide +kernel
theorem dX6_latch_32 : decode cX6_latch 32 = .ok (.iload_n 1, 1) := by decide +kernel
theorem dX6_latch_33 : decode cX6_latch 33 = .ok (.iconst 3, 1) := by decide +kernel
theorem dX6_latch_34 : decode cX6_latch 34 = .ok (.invokevirtual 179, 3) := by decide +kernel
theorem dX6_latch_37 : decode cX6_latch 37 = .ok (.ifCond .eq 15, 3) := by decide +kernel
theorem dX6_latch_40 : decode cX6_latch 40 = .ok (.aload_n 0, 1) := by decide +kernel
theorem dX6_latch_41 : decode cX6_latch 41 = .ok (.getfield 19, 3) := by decide +kernel
theorem dX6_latch_44 : decode cX6_latch 44 = .ok (.invokevirtual 90, 3) := by decide +kernel
theorem dX6_latch_47 : decode cX6_latch 47 = .ok (.bipush 24, 2) := by decide +kernel
theorem dX6_latch_49 : decode cX6_latch 49 = .ok (.if_icmp .lt 13, 3) := by decide +kernel
theorem dX6_latch_52 : decode cX6_latch 52 = .ok (.new 63, 3) := by decide +kernel
theorem dX6_latch_55 : decode cX6_latch 55 = .ok (.dup, 1) := by decide +kernel
theorem dX6_latch_56 : decode cX6_latch 56 = .ok (.ldc 190, 2) := by decide +kernel
theorem dX6_latch_58 : decode cX6_latch 58 = .ok (.invokespecial 67, 3) := by decide +kernel
theorem dX6_latch_61 : decode cX6_latch 61 = .ok (.athrow, 1) := by decide +kernel
theorem dX6_latch_62 : decode cX6_latch 62 = .ok (.aload_n 0, 1) := by decide +kernel
theorem dX6_latch_63 : decode cX6_latch 63 = .ok (.getfield 41, 3) := by decide +kernel
theorem dX6_latch_66 : decode cX6_latch 66 = .ok (.aload_n 0, 1) := by decide +kernel
theorem dX6_latch_67 : decode cX6_latch 67 = .ok (.getfield 19, 3) := by decide +kernel
theorem dX6_latch_70 : decode cX6_latch 70 = .ok (.aload_n 0, 1) := by decide +kernel
theorem dX6_latch_71 : decode cX6_latch 71 = .ok (.getfield 12, 3) := by decide +kernel
theorem dX6_latch_74 : decode cX6_latch 74 = .ok (.invokevirtual 95, 3) := by decide +kernel
theorem dX6_latch_77 : decode cX6_latch 77 = .ok (.aload_n 0, 1) := by decide +kernel
theorem dX6_latch_78 : decode cX6_latch 78 = .ok (.getfield 19, 3) := by decide +kernel
theorem dX6_latch_81 : decode cX6_latch 81 = .ok (.getfield 187, 3) := by decide +kernel
theorem dX6_latch_84 : decode cX6_latch 84 = .ok (.iload_n 1, 1) := by decide +kernel
theorem dX6_latch_85 : decode cX6_latch 85 = .ok (.iconst 3, 1) := by decide +kernel
theorem dX6_latch_86 : decode cX6_latch 86 = .ok (.iconst 0, 1) := by decide +kernel
theorem dX6_latch_87 : decode cX6_latch 87 = .ok (.invokevirtual 192, 3) := by decide +kernel
theorem dX6_latch_90 : decode cX6_latch 90 = .ok (.aload_n 0, 1) := by decide +kernel
theorem dX6_latch_91 : decode cX6_latch 91 = .ok (.getfield 19, 3) := by decide +kernel
theorem dX6_latch_94 : decode cX6_latch 94 = .ok (.getfield 131, 3) := by decide +kernel
theorem dX6_latch_97 : decode cX6_latch 97 = .ok (.aload_n 0, 1) := by decide +kernel
theorem dX6_latch_98 : decode cX6_latch 98 = .ok (.getfield 19, 3) := by decide +kernel
theorem dX6_latch_101 : decode cX6_latch 101 = .ok (.getfield 187, 3) := by decide +kernel
theorem dX6_latch_104 : decode cX6_latch 104 = .ok (.iload_n 1, 1) := by decide +kernel
theorem dX6_latch_105 : decode cX6_latch 105 = .ok (.iconst 0, 1) := by decide +kernel
theorem dX6_latch_106 : decode cX6_latch 106 = .ok (.invokevirtual 179, 3) := by decide +kernel
theorem dX6_latch_109 : decode cX6_latch 109 = .ok (.invokevirtual 195, 3) := by decide +kernel
theorem dX6_latch_112 : decode cX6_latch 112 = .ok (.aload_n 0, 1) := by decide +kernel
theorem dX6_latch_113 : decode cX6_latch 113 = .ok (.getfield 19, 3) := by decide +kernel
theorem dX6_latch_116 : decode cX6_latch 116 = .ok (.getfield 187, 3) := by decide +kernel
theorem dX6_latch_119 : decode cX6_latch 119 = .ok (.iload_n 1, 1) := by decide +kernel
theorem dX6_latch_120 : decode cX6_latch 120 = .ok (.iconst 2, 1) := by decide +kernel
theorem dX6_latch_121 : decode cX6_latch 121 = .ok (.invokevirtual 179, 3) := by decide +kernel
theorem dX6_latch_124 : decode cX6_latch 124 = .ok (.ireturn, 1) := by decide +kernel
theorem dX6_pattern_0 : decode cX6_pattern 0 = .ok (.iload_n 1, 1) := by decide +kernel
theorem dX6_pattern_1 : decode cX6_pattern 1 = .ok (.iconst 1, 1) := by decide +kernel
theorem dX6_pattern_2 : decode cX6_pattern 2 = .ok (.if_icmp .lt 16, 3) := by decide +kernel
theorem dX6_pattern_5 : decode cX6_pattern 5 = .ok (.iload_n 1, 1) := by decide +kernel
theorem dX6_pattern_6 : decode cX6_pattern 6 = .ok (.ldc 198, 2) := by decide +kernel
theorem dX6_pattern_8 : decode cX6_pattern 8 = .ok (.if_icmp .gt 10, 3) := by decide +kernel
theorem dX6_pattern_11 : decode cX6_pattern 11 = .ok (.iload_n 1, 1) := by decide +kernel
theorem dX6_pattern_12 : decode cX6_pattern 12 = .ok (.invokestatic 199, 3) := by decide +kernel
theorem dX6_pattern_15 : decode cX6_pattern 15 = .ok (.ifCond .eq 13, 3) := by decide +kernel
theorem dX6_pattern_18 : decode cX6_pattern 18 = .ok (.new 52, 3) := by decide +kernel
theorem dX6_pattern_21 : decode cX6_pattern 21 = .ok (.dup, 1) := by decide +kernel
theorem dX6_pattern_22 : decode cX6_pattern 22 = .ok (.ldc 202, 2) := by decide +kernel
theorem dX6_pattern_24 : decode cX6_pattern 24 = .ok (.invokespecial 56, 3) := by decide +kernel
theorem dX6_pattern_27 : decode cX6_pattern 27 = .ok (.athrow, 1) := by decide +kernel
theorem dX6_pattern_28 : decode cX6_pattern 28 = .ok (.aload_n 0, 1) := by decide +kernel
theorem dX6_pattern_29 : decode cX6_pattern 29 = .ok (.getfield 204, 3) := by decide +kernel
theorem dX6_pattern_32 : decode cX6_pattern 32 = .ok (.bipush 6, 2) := by decide +kernel
theorem dX6_pattern_34 : decode cX6_pattern 34 = .ok (.if_icmp .lt 13, 3) := by decide +kernel
theorem dX6_pattern_37 : decode cX6_pattern 37 = .ok (.new 63, 3) := by decide +kernel
theorem dX6_pattern_40 : decode cX6_pattern 40 = .ok (.dup, 1) := by decide +kernel
theorem dX6_pattern_41 : decode cX6_pattern 41 = .ok (.ldc 207, 2) := by decide +kernel
theorem dX6_pattern_43 : decode cX6_pattern 43 = .ok (.invokespecial 67, 3) := by decide +kernel
theorem dX6_pattern_46 : decode cX6_pattern 46 = .ok (.athrow, 1) := by decide +kernel
theorem dX6_pattern_47 : decode cX6_pattern 47 = .ok (.aload_n 0, 1) := by decide +kernel
theorem dX6_pattern_48 : decode cX6_pattern 48 = .ok (.getfield 204, 3) := by decide +kernel
theorem dX6_pattern_51 : decode cX6_pattern 51 = .ok (.istore_n 2, 1) := by decide +kernel
theorem dX6_pattern_52 : decode cX6_pattern 52 = .ok (.aload_n 0, 1) := by decide +kernel
theorem dX6_pattern_53 : decode cX6_pattern 53 = .ok (.dup, 1) := by decide +kernel
theorem dX6_pattern_54 : decode cX6_pattern 54 = .ok (.getfield 204, 3) := by decide +kernel
theorem dX6_pattern_57 : decode cX6_pattern 57 = .ok (.iconst 1, 1) := by decide +kernel
theorem dX6_pattern_58 : decode cX6_pattern 58 = .ok (.iadd, 1) := by decide +kernel
theorem dX6_pattern_59 : decode cX6_pattern 59 = .ok (.putfield 204, 3) := by decide +kernel
theorem dX6_pattern_62 : decode cX6_pattern 62 = .ok (.aload_n 0, 1) := by decide +kernel
theorem dX6_pattern_63 : decode cX6_pattern 63 = .ok (.iload_n 2, 1) := by decide +kernel
theorem dX6_pattern_64 : decode cX6_pattern 64 = .ok (.iload_n 1, 1) := by decide +kernel
theorem dX6_pattern_65 : decode cX6_pattern 65 = .ok (.invokevirtual 209, 3) := by decide +kernel
theorem dX6_pattern_68 : decode cX6_pattern 68 = .ok (.iload_n 2, 1) := by decide +kernel
theorem dX6_pattern_69 : decode cX6_pattern 69 = .ok (.ireturn, 1) := by decide +kernel
theorem dX6_follow_0 : decode cX6_follow 0 = .ok (.aload_n 0, 1) := by decide +kernel
theorem dX6_follow_1 : decode cX6_follow 1 = .ok (.iload_n 1, 1) := by decide +kernel
theorem dX6_follow_2 : decode cX6_follow 2 = .ok (.invokevirtual 213, 3) := by decide +kernel
theorem dX6_follow_5 : decode cX6_follow 5 = .ok (.ifCond .ne 13, 3) := by decide +kernel
theorem dX6_follow_8 : decode cX6_follow 8 = .ok (.new 76, 3) := by decide +kernel
theorem dX6_follow_11 : decode cX6_follow 11 = .ok (.dup, 1) := by decide +kernel
theorem dX6_follow_12 : decode cX6_follow 12 = .ok (.ldc 216, 2) := by decide +kernel
theorem dX6_follow_14 : decode cX6_follow 14 = .ok (.invokespecial 80, 3) := by decide +kernel
theorem dX6_follow_17 : decode cX6_follow 17 = .ok (.athrow, 1) := by decide +kernel
theorem dX6_follow_18 : decode cX6_follow 18 = .ok (.aload_n 0, 1) := by decide +kernel
theorem dX6_follow_19 : decode cX6_follow 19 = .ok (.getfield 19, 3) := by decide +kernel
theorem dX6_follow_22 : decode cX6_follow 22 = .ok (.getfield 131, 3) := by decide +kernel
theorem dX6_follow_25 : decode cX6_follow 25 = .ok (.getfield 135, 3) := by decide +kernel
theorem dX6_follow_28 : decode cX6_follow 28 = .ok (.iconst 1, 1) := by decide +kernel
theorem dX6_follow_29 : decode cX6_follow 29 = .ok (.if_icmp .ge 13, 3) := by decide +kernel
theorem dX6_follow_32 : decode cX6_follow 32 = .ok (.new 63, 3) := by decide +kernel
theorem dX6_follow_35 : decode cX6_follow 35 = .ok (.dup, 1) := by decide +kernel
theorem dX6_follow_36 : decode cX6_follow 36 = .ok (.ldc 124, 2) := by decide +kernel
theorem dX6_follow_38 : decode cX6_follow 38 = .ok (.invokespecial 67, 3) := by decide +kernel
theorem dX6_follow_41 : decode cX6_follow 41 = .ok (.athrow, 1) := by decide +kernel
theorem dX6_follow_42 : decode cX6_follow 42 = .ok (.aload_n 0, 1) := by decide +kernel
theorem dX6_follow_43 : decode cX6_follow 43 = .ok (.getfield 41, 3) := by decide +kernel
theorem dX6_follow_46 : decode cX6_follow 46 = .ok (.aload_n 0, 1) := by decide +kernel
theorem dX6_follow_47 : decode cX6_follow 47 = .ok (.getfield 19, 3) := by decide +kernel
theorem dX6_follow_50 : decode cX6_follow 50 = .ok (.aload_n 0, 1) := by decide +kernel
theorem dX6_follow_51 : decode cX6_follow 51 = .ok (.getfield 12, 3) := by decide +kernel
theorem dX6_follow_54 : decode cX6_follow 54 = .ok (.invokevirtual 95, 3) := by decide +kernel
theorem dX6_follow_57 : decode cX6_follow 57 = .ok (.aload_n 0, 1) := by decide +kernel
theorem dX6_follow_58 : decode cX6_follow 58 = .ok (.iload_n 1, 1) := by decide +kernel
theorem dX6_follow_59 : decode cX6_follow 59 = .ok (.invokevirtual 218, 3) := by decide +kernel
theorem dX6_follow_62 : decode cX6_follow 62 = .ok (.aload_n 0, 1) := by decide +kernel
theorem dX6_follow_63 : decode cX6_follow 63 = .ok (.getfield 48, 3) := by decide +kernel
theorem dX6_follow_66 : decode cX6_follow 66 = .ok (.getfield 221, 3) := by decide +kernel
theorem dX6_follow_69 : decode cX6_follow 69 = .ok (.istore_n 2, 1) := by decide +kernel
theorem dX6_follow_70 : decode cX6_follow 70 = .ok (.iconst 0, 1) := by decide +kernel
theorem dX6_follow_71 : decode cX6_follow 71 = .ok (.istore_n 3, 1) := by decide +kernel
theorem dX6_follow_72 : decode cX6_follow 72 = .ok (.iload_n 3, 1) := by decide +kernel
theorem dX6_follow_73 : decode cX6_follow 73 = .ok (.iload_n 2, 1) := by decide +kernel
theorem dX6_follow_74 : decode cX6_follow 74 = .ok (.if_icmp .ge 19, 3) := by decide +kernel
theorem dX6_follow_77 : decode cX6_follow 77 = .ok (.aload_n 0, 1) := by decide +kernel
theorem dX6_follow_78 : decode cX6_follow 78 = .ok (.aload_n 0, 1) := by decide +kernel
theorem dX6_follow_79 : decode cX6_follow 79 = .ok (.iload_n 1, 1) := by decide +kernel
theorem dX6_follow_80 : decode cX6_follow 80 = .ok (.iload_n 3, 1) := by decide +kernel
theorem dX6_follow_81 : decode cX6_follow 81 = .ok (.invokevirtual 224, 3) := by decide +kernel
theorem dX6_follow_84 : decode cX6_follow 84 = .ok (.invokevirtual 227, 3) := by decide +kernel
theorem dX6_follow_87 : decode cX6_follow 87 = .ok (.iinc 3 1, 3) := by decide +kernel
theorem dX6_follow_90 : decode cX6_follow 90 = .ok (.goto (-18), 3) := by decide +kernel
theorem dX6_follow_93 : decode cX6_follow 93 = .ok (.iload_n 2, 1) := by decide +kernel
theorem dX6_follow_94 : decode cX6_follow 94 = .ok (.ireturn, 1) := by decide +kernel
theorem dX6_undo_0 : decode cX6_undo 0 = .ok (.aload_n 0, 1) := by decide +kernel
theorem dX6_undo_1 : decode cX6_undo 1 = .ok (.getfield 41, 3) := by decide +kernel
theorem dX6_undo_4 : decode cX6_undo 4 = .ok (.getfield 230, 3) := by decide +kernel
theorem dX6_undo_7 : decode cX6_undo 7 = .ok (.iconst 1, 1) := by decide +kernel
theorem dX6_undo_8 : decode cX6_undo 8 = .ok (.if_icmp .ge 13, 3) := by decide +kernel
theorem dX6_undo_11 : decode cX6_undo 11 = .ok (.new 63, 3) := by decide +kernel
theorem dX6_undo_14 : decode cX6_undo 14 = .ok (.dup, 1) := by decide +kernel
theorem dX6_undo_15 : decode cX6_undo 15 = .ok (.ldc 231, 2) := by decide +kernel
theorem dX6_undo_17 : decode cX6_undo 17 = .ok (.invokespecial 67, 3) := by decide +kernel
theorem dX6_undo_20 : decode cX6_undo 20 = .ok (.athrow, 1) := by decide +kernel
theorem dX6_undo_21 : decode cX6_undo 21 = .ok (.aload_n 0, 1) := by decide +kernel
theorem dX6_undo_22 : decode cX6_undo 22 = .ok (.getfield 41, 3) := by decide +kernel
theorem dX6_undo_25 : decode cX6_undo 25 = .ok (.aload_n 0, 1) := by decide +kernel
theorem dX6_undo_26 : decode cX6_undo 26 = .ok (.getfield 19, 3) := by decide +kernel
theorem dX6_undo_29 : decode cX6_undo 29 = .ok (.aload_n 0, 1) := by decide +kernel
theorem dX6_undo_30 : decode cX6_undo 30 = .ok (.getfield 12, 3) := by decide +kernel
theorem dX6_undo_33 : decode cX6_undo 33 = .ok (.invokevirtual 233, 3) := by decide +kernel
theorem dX6_undo_36 : decode cX6_undo 36 = .ok (.aload_n 0, 1) := by decide +kernel
theorem dX6_undo_37 : decode cX6_undo 37 = .ok (.getfield 41, 3) := by decide +kernel
theorem dX6_undo_40 : decode cX6_undo 40 = .ok (.getfield 230, 3) := by decide +kernel
theorem dX6_undo_43 : decode cX6_undo 43 = .ok (.ireturn, 1) := by decide +kernel
theorem dX6_on_0 : decode cX6_on 0 = .ok (.iload_n 2, 1) := by decide +kernel
theorem dX6_on_1 : decode cX6_on 1 = .ok (.ifCond .lt 9, 3) := by decide +kernel
theorem dX6_on_4 : decode cX6_on 4 = .ok (.iload_n 2, 1) := by decide +kernel
theorem dX6_on_5 : decode cX6_on 5 = .ok (.bipush 24, 2) := by decide +kernel
theorem dX6_on_7 : decode cX6_on 7 = .ok (.if_icmp .lt 13, 3) := by decide +kernel
theorem dX6_on_10 : decode cX6_on 10 = .ok (.new 76, 3) := by decide +kernel
theorem dX6_on_13 : decode cX6_on 13 = .ok (.dup, 1) := by decide +kernel
theorem dX6_on_14 : decode cX6_on 14 = .ok (.ldc 236, 2) := by decide +kernel
theorem dX6_on_16 : decode cX6_on 16 = .ok (.invokespecial 80, 3) := by decide +kernel
theorem dX6_on_19 : decode cX6_on 19 = .ok (.athrow, 1) := by decide +kernel
theorem dX6_on_20 : decode cX6_on 20 = .ok (.aload_n 0, 1) := by decide +kernel
theorem dX6_on_21 : decode cX6_on 21 = .ok (.iload_n 1, 1) := by decide +kernel
theorem dX6_on_22 : decode cX6_on 22 = .ok (.invokevirtual 238, 3) := by decide +kernel
theorem dX6_on_25 : decode cX6_on 25 = .ok (.iload_n 2, 1) := by decide +kernel
theorem dX6_on_26 : decode cX6_on 26 = .ok (.invokevirtual 242, 3) := by decide +kernel
theorem dX6_on_29 : decode cX6_on 29 = .ok (.ireturn, 1) := by decide +kernel
theorem dX6_ofLoop_0 : decode cX6_ofLoop 0 = .ok (.iload_n 1, 1) := by decide +kernel
theorem dX6_ofLoop_1 : decode cX6_ofLoop 1 = .ok (.ifCond .lt 14, 3) := by decide +kernel
theorem dX6_ofLoop_4 : decode cX6_ofLoop 4 = .ok (.iload_n 1, 1) := by decide +kernel
theorem dX6_ofLoop_5 : decode cX6_ofLoop 5 = .ok (.aload_n 0, 1) := by decide +kernel
theorem dX6_ofLoop_6 : decode cX6_ofLoop 6 = .ok (.getfield 19, 3) := by decide +kernel
theorem dX6_ofLoop_9 : decode cX6_ofLoop 9 = .ok (.getfield 245, 3) := by decide +kernel
theorem dX6_ofLoop_12 : decode cX6_ofLoop 12 = .ok (.if_icmp .lt 13, 3) := by decide +kernel
theorem dX6_ofLoop_15 : decode cX6_ofLoop 15 = .ok (.new 76, 3) := by decide +kernel
theorem dX6_ofLoop_18 : decode cX6_ofLoop 18 = .ok (.dup, 1) := by decide +kernel
theorem dX6_ofLoop_19 : decode cX6_ofLoop 19 = .ok (.ldc 248, 2) := by decide +kernel
theorem dX6_ofLoop_21 : decode cX6_ofLoop 21 = .ok (.invokespecial 80, 3) := by decide +kernel
theorem dX6_ofLoop_24 : decode cX6_ofLoop 24 = .ok (.athrow, 1) := by decide +kernel
theorem dX6_ofLoop_25 : decode cX6_ofLoop 25 = .ok (.iload_n 2, 1) := by decide +kernel
theorem dX6_ofLoop_26 : decode cX6_ofLoop 26 = .ok (.ifCond .lt 9, 3) := by decide +kernel
theorem dX6_ofLoop_29 : decode cX6_ofLoop 29 = .ok (.iload_n 2, 1) := by decide +kernel
theorem dX6_ofLoop_30 : decode cX6_ofLoop 30 = .ok (.bipush 6, 2) := by decide +kernel
theorem dX6_ofLoop_32 : decode cX6_ofLoop 32 = .ok (.if_icmp .lt 13, 3) := by decide +kernel
theorem dX6_ofLoop_35 : decode cX6_ofLoop 35 = .ok (.new 52, 3) := by decide +kernel
theorem dX6_ofLoop_38 : decode cX6_ofLoop 38 = .ok (.dup, 1) := by decide +kernel
theorem dX6_ofLoop_39 : decode cX6_ofLoop 39 = .ok (.ldc 250, 2) := by decide +kernel
theorem dX6_ofLoop_41 : decode cX6_ofLoop 41 = .ok (.invokespecial 56, 3) := by decide +kernel
theorem dX6_ofLoop_44 : decode cX6_ofLoop 44 = .ok (.athrow, 1) := by decide +kernel
theorem dX6_ofLoop_45 : decode cX6_ofLoop 45 = .ok (.aload_n 0, 1) := by decide +kernel
theorem dX6_ofLoop_46 : decode cX6_ofLoop 46 = .ok (.iload_n 1, 1) := by decide +kernel
theorem dX6_ofLoop_47 : decode cX6_ofLoop 47 = .ok (.iload_n 2, 1) := by decide +kernel
theorem dX6_ofLoop_48 : decode cX6_ofLoop 48 = .ok (.invokevirtual 252, 3) := by decide +kernel
theorem dX6_ofLoop_51 : decode cX6_ofLoop 51 = .ok (.ireturn, 1) := by decide +kernel
theorem dX6_ofRun_0 : decode cX6_ofRun 0 = .ok (.iload_n 1, 1) := by decide +kernel
theorem dX6_ofRun_1 : decode cX6_ofRun 1 = .ok (.ifCond .lt 14, 3) := by decide +kernel
theorem dX6_ofRun_4 : decode cX6_ofRun 4 = .ok (.iload_n 1, 1) := by decide +kernel
theorem dX6_ofRun_5 : decode cX6_ofRun 5 = .ok (.aload_n 0, 1) := by decide +kernel
theorem dX6_ofRun_6 : decode cX6_ofRun 6 = .ok (.getfield 19, 3) := by decide +kernel
theorem dX6_ofRun_9 : decode cX6_ofRun 9 = .ok (.getfield 171, 3) := by decide +kernel
theorem dX6_ofRun_12 : decode cX6_ofRun 12 = .ok (.if_icmp .lt 13, 3) := by decide +kernel
theorem dX6_ofRun_15 : decode cX6_ofRun 15 = .ok (.new 76, 3) := by decide +kernel
theorem dX6_ofRun_18 : decode cX6_ofRun 18 = .ok (.dup, 1) := by decide +kernel
theorem dX6_ofRun_19 : decode cX6_ofRun 19 = .ok (.ldc 185, 2) := by decide +kernel
theorem dX6_ofRun_21 : decode cX6_ofRun 21 = .ok (.invokespecial 80, 3) := by decide +kernel
theorem dX6_ofRun_24 : decode cX6_ofRun 24 = .ok (.athrow, 1) := by decide +kernel
theorem dX6_ofRun_25 : decode cX6_ofRun 25 = .ok (.iload_n 2, 1) := by decide +kernel
theorem dX6_ofRun_26 : decode cX6_ofRun 26 = .ok (.ifCond .lt 8, 3) := by decide +kernel
theorem dX6_ofRun_29 : decode cX6_ofRun 29 = .ok (.iload_n 2, 1) := by decide +kernel
theorem dX6_ofRun_30 : decode cX6_ofRun 30 = .ok (.iconst 4, 1) := by decide +kernel
theorem dX6_ofRun_31 : decode cX6_ofRun 31 = .ok (.if_icmp .lt 13, 3) := by decide +kernel
theorem dX6_ofRun_34 : decode cX6_ofRun 34 = .ok (.new 52, 3) := by decide +kernel
theorem dX6_ofRun_37 : decode cX6_ofRun 37 = .ok (.dup, 1) := by decide +kernel
theorem dX6_ofRun_38 : decode cX6_ofRun 38 = .ok (.ldc 255, 2) := by decide +kernel
theorem dX6_ofRun_40 : decode cX6_ofRun 40 = .ok (.invokespecial 56, 3) := by decide +kernel
theorem dX6_ofRun_43 : decode cX6_ofRun 43 = .ok (.athrow, 1) := by decide +kernel
theorem dX6_ofRun_44 : decode cX6_ofRun 44 = .ok (.aload_n 0, 1) := by decide +kernel
theorem dX6_ofRun_45 : decode cX6_ofRun 45 = .ok (.getfield 19, 3) := by decide +kernel
theorem dX6_ofRun_48 : decode cX6_ofRun 48 = .ok (.getfield 187, 3) := by decide +kernel
theorem dX6_ofRun_51 : decode cX6_ofRun 51 = .ok (.iload_n 1, 1) := by decide +kernel
theorem dX6_ofRun_52 : decode cX6_ofRun 52 = .ok (.iload_n 2, 1) := by decide +kernel
theorem dX6_ofRun_53 : decode cX6_ofRun 53 = .ok (.invokevirtual 179, 3) := by decide +kernel
theorem dX6_ofRun_56 : decode cX6_ofRun 56 = .ok (.ireturn, 1) := by decide +kernel
theorem dX6_seen_0 : decode cX6_seen 0 = .ok (.aload_n 0, 1) := by decide +kernel
theorem dX6_seen_1 : decode cX6_seen 1 = .ok (.iload_n 1, 1) := by decide +kernel
theorem dX6_seen_2 : decode cX6_seen 2 = .ok (.invokevirtual 238, 3) := by decide +kernel
theorem dX6_seen_5 : decode cX6_seen 5 = .ok (.astore_n 2, 1) := by decide +kernel
theorem dX6_seen_6 : decode cX6_seen 6 = .ok (.new 257, 3) := by decide +kernel
theorem dX6_seen_9 : decode cX6_seen 9 = .ok (.dup, 1) := by decide +kernel
theorem dX6_seen_10 : decode cX6_seen 10 = .ok (.invokespecial 259, 3) := by decide +kernel
theorem dX6_seen_13 : decode cX6_seen 13 = .ok (.astore_n 3, 1) := by decide +kernel
theorem dX6_seen_14 : decode cX6_seen 14 = .ok (.iconst 0, 1) := by decide +kernel
theorem dX6_seen_15 : decode cX6_seen 15 = .ok (.istore 4, 2) := by decide +kernel
theorem dX6_seen_17 : decode cX6_seen 17 = .ok (.iload 4, 2) := by decide +kernel
theorem dX6_seen_19 : decode cX6_seen 19 = .ok (.aload_n 2, 1) := by decide +kernel
theorem dX6_seen_20 : decode cX6_seen 20 = .ok (.getfield 135, 3) := by decide +kernel
theorem dX6_seen_23 : decode cX6_seen 23 = .ok (.if_icmp .ge 24, 3) := by decide +kernel
theorem dX6_seen_26 : decode cX6_seen 26 = .ok (.aload_n 3, 1) := by decide +kernel
theorem dX6_seen_27 : decode cX6_seen 27 = .ok (.aload_n 0, 1) := by decide +kernel
theorem dX6_seen_28 : decode cX6_seen 28 = .ok (.aload_n 2, 1) := by decide +kernel
theorem dX6_seen_29 : decode cX6_seen 29 = .ok (.iload 4, 2) := by decide +kernel
theorem dX6_seen_31 : decode cX6_seen 31 = .ok (.invokevirtual 242, 3) := by decide +kernel
theorem dX6_seen_34 : decode cX6_seen 34 = .ok (.invokevirtual 260, 3) := by decide +kernel
theorem dX6_seen_37 : decode cX6_seen 37 = .ok (.invokevirtual 264, 3) := by decide +kernel
theorem dX6_seen_40 : decode cX6_seen 40 = .ok (.pop, 1) := by decide +kernel
theorem dX6_seen_41 : decode cX6_seen 41 = .ok (.iinc 4 1, 3) := by decide +kernel
theorem dX6_seen_44 : decode cX6_seen 44 = .ok (.goto (-27), 3) := by decide +kernel
theorem dX6_seen_47 : decode cX6_seen 47 = .ok (.aload_n 3, 1) := by decide +kernel
theorem dX6_seen_48 : decode cX6_seen 48 = .ok (.invokevirtual 268, 3) := by decide +kernel
theorem dX6_seen_51 : decode cX6_seen 51 = .ok (.areturn, 1) := by decide +kernel
theorem dX6_width_0 : decode cX6_width 0 = .ok (.aload_n 0, 1) := by decide +kernel
theorem dX6_width_1 : decode cX6_width 1 = .ok (.aload_n 0, 1) := by decide +kernel
theorem dX6_width_2 : decode cX6_width 2 = .ok (.iload_n 1, 1) := by decide +kernel
theorem dX6_width_3 : decode cX6_width 3 = .ok (.invokevirtual 238, 3) := by decide +kernel
theorem dX6_width_6 : decode cX6_width 6 = .ok (.invokevirtual 272, 3) := by decide +kernel
theorem dX6_width_9 : decode cX6_width 9 = .ok (.f2d, 1) := by decide +kernel
theorem dX6_width_10 : decode cX6_width 10 = .ok (.dreturn, 1) := by decide +kernel
theorem dX6_many_0 : decode cX6_many 0 = .ok (.iload_n 1, 1) := by decide +kernel
theorem dX6_many_1 : decode cX6_many 1 = .ok (.ifCond .lt 9, 3) := by decide +kernel
theorem dX6_many_4 : decode cX6_many 4 = .ok (.iload_n 1, 1) := by decide +kernel
theorem dX6_many_5 : decode cX6_many 5 = .ok (.bipush 16, 2) := by decide +kernel
theorem dX6_many_7 : decode cX6_many 7 = .ok (.if_icmp .lt 14, 3) := by decide +kernel
theorem dX6_many_10 : decode cX6_many 10 = .ok (.new 52, 3) := by decide +kernel
theorem dX6_many_13 : decode cX6_many 13 = .ok (.dup, 1) := by decide +kernel
theorem dX6_many_14 : decode cX6_many 14 = .ok (.ldc_w 276, 3) := by decide +kernel
theorem dX6_many_17 : decode cX6_many 17 = .ok (.invokespecial 56, 3) := by decide +kernel
theorem dX6_many_20 : decode cX6_many 20 = .ok (.athrow, 1) := by decide +kernel
theorem dX6_many_21 : decode cX6_many 21 = .ok (.aload_n 0, 1) := by decide +kernel
theorem dX6_many_22 : decode cX6_many 22 = .ok (.iload_n 1, 1) := by decide +kernel
theorem dX6_many_23 : decode cX6_many 23 = .ok (.invokevirtual 278, 3) := by decide +kernel
theorem dX6_many_26 : decode cX6_many 26 = .ok (.ireturn, 1) := by decide +kernel
theorem dX6_left_0 : decode cX6_left 0 = .ok (.aload_n 0, 1) := by decide +kernel
theorem dX6_left_1 : decode cX6_left 1 = .ok (.getfield 12, 3) := by decide +kernel
theorem dX6_left_4 : decode cX6_left 4 = .ok (.iload_n 1, 1) := by decide +kernel
theorem dX6_left_5 : decode cX6_left 5 = .ok (.invokevirtual 72, 3) := by decide +kernel
theorem dX6_left_8 : decode cX6_left 8 = .ok (.ifCond .ne 13, 3) := by decide +kernel
theorem dX6_left_11 : decode cX6_left 11 = .ok (.new 76, 3) := by decide +kernel
theorem dX6_left_14 : decode cX6_left 14 = .ok (.dup, 1) := by decide +kernel
theorem dX6_left_15 : decode cX6_left 15 = .ok (.ldc 78, 2) := by decide +kernel
theorem dX6_left_17 : decode cX6_left 17 = .ok (.invokespecial 80, 3) := by decide +kernel
theorem dX6_left_20 : decode cX6_left 20 = .ok (.athrow, 1) := by decide +kernel
theorem dX6_left_21 : decode cX6_left 21 = .ok (.aload_n 0, 1) := by decide +kernel
theorem dX6_left_22 : decode cX6_left 22 = .ok (.getfield 12, 3) := by decide +kernel
theorem dX6_left_25 : decode cX6_left 25 = .ok (.iload_n 1, 1) := by decide +kernel
theorem dX6_left_26 : decode cX6_left 26 = .ok (.invokevirtual 281, 3) := by decide +kernel
theorem dX6_left_29 : decode cX6_left 29 = .ok (.ireturn, 1) := by decide +kernel
theorem dX6_would_0 : decode cX6_would 0 = .ok (.aload_n 0, 1) := by decide +kernel
theorem dX6_would_1 : decode cX6_would 1 = .ok (.iload_n 1, 1) := by decide +kernel
theorem dX6_would_2 : decode cX6_would 2 = .ok (.invokevirtual 213, 3) := by decide +kernel
theorem dX6_would_5 : decode cX6_would 5 = .ok (.ifCond .ne 13, 3) := by decide +kernel
theorem dX6_would_8 : decode cX6_would 8 = .ok (.new 76, 3) := by decide +kernel
theorem dX6_would_11 : decode cX6_would 11 = .ok (.dup, 1) := by decide +kernel
theorem dX6_would_12 : decode cX6_would 12 = .ok (.ldc 216, 2) := by decide +kernel
theorem dX6_would_14 : decode cX6_would 14 = .ok (.invokespecial 80, 3) := by decide +kernel
theorem dX6_would_17 : decode cX6_would 17 = .ok (.athrow, 1) := by decide +kernel
theorem dX6_would_18 : decode cX6_would 18 = .ok (.aload_n 0, 1) := by decide +kernel
theorem dX6_would_19 : decode cX6_would 19 = .ok (.iload_n 1, 1) := by decide +kernel
theorem dX6_would_20 : decode cX6_would 20 = .ok (.invokevirtual 218, 3) := by decide +kernel
theorem dX6_would_23 : decode cX6_would 23 = .ok (.aload_n 0, 1) := by decide +kernel
theorem dX6_would_24 : decode cX6_would 24 = .ok (.getfield 48, 3) := by decide +kernel
theorem dX6_would_27 : decode cX6_would 27 = .ok (.getfield 286, 3) := by decide +kernel
theorem dX6_would_30 : decode cX6_would 30 = .ok (.ireturn, 1) := by decide +kernel
theorem dX6_needs_0 : decode cX6_needs 0 = .ok (.aload_n 0, 1) := by decide +kernel
theorem dX6_needs_1 : decode cX6_needs 1 = .ok (.iload_n 1, 1) := by decide +kernel
theorem dX6_needs_2 : decode cX6_needs 2 = .ok (.invokevirtual 213, 3) := by decide +kernel
theorem dX6_needs_5 : decode cX6_needs 5 = .ok (.ifCond .ne 13, 3) := by decide +kernel
theorem dX6_needs_8 : decode cX6_needs 8 = .ok (.new 76, 3) := by decide +kernel
theorem dX6_needs_11 : decode cX6_needs 11 = .ok (.dup, 1) := by decide +kernel
theorem dX6_needs_12 : decode cX6_needs 12 = .ok (.ldc 216, 2) := by decide +kernel
theorem dX6_needs_14 : decode cX6_needs 14 = .ok (.invokespecial 80, 3) := by decide +kernel
theorem dX6_needs_17 : decode cX6_needs 17 = .ok (.athrow, 1) := by decide +kernel
theorem dX6_needs_18 : decode cX6_needs 18 = .ok (.aload_n 0, 1) := by decide +kernel
theorem dX6_needs_19 : decode cX6_needs 19 = .ok (.iload_n 1, 1) := by decide +kernel
theorem dX6_needs_20 : decode cX6_needs 20 = .ok (.invokevirtual 218, 3) := by decide +kernel
theorem dX6_needs_23 : decode cX6_needs 23 = .ok (.aload_n 0, 1) := by decide +kernel
theorem dX6_needs_24 : decode cX6_needs 24 = .ok (.getfield 48, 3) := by decide +kernel
theorem dX6_needs_27 : decode cX6_needs 27 = .ok (.getfield 288, 3) := by decide +kernel
theorem dX6_needs_30 : decode cX6_needs 30 = .ok (.ireturn, 1) := by decide +kernel
theorem dX6_best_0 : decode cX6_best 0 = .ok (.aload_n 0, 1) := by decide +kernel
theorem dX6_best_1 : decode cX6_best 1 = .ok (.invokevirtual 291, 3) := by decide +kernel
theorem dX6_best_4 : decode cX6_best 4 = .ok (.ireturn, 1) := by decide +kernel
theorem dX6_digest_0 : decode cX6_digest 0 = .ok (.ldc2_w 294, 3) := by decide +kernel
theorem dX6_digest_3 : decode cX6_digest 3 = .ok (.lstore_n 1, 1) := by decide +kernel
theorem dX6_digest_4 : decode cX6_digest 4 = .ok (.iconst 0, 1) := by decide +kernel
theorem dX6_digest_5 : decode cX6_digest 5 = .ok (.istore_n 3, 1) := by decide +kernel
theorem dX6_digest_6 : decode cX6_digest 6 = .ok (.iload_n 3, 1) := by decide +kernel
theorem dX6_digest_7 : decode cX6_digest 7 = .ok (.bipush 16, 2) := by decide +kernel
theorem dX6_digest_9 : decode cX6_digest 9 = .ok (.if_icmp .ge 20, 3) := by decide +kernel
theorem dX6_digest_12 : decode cX6_digest 12 = .ok (.lload_n 1, 1) := by decide +kernel
theorem dX6_digest_13 : decode cX6_digest 13 = .ok (.aload_n 0, 1) := by decide +kernel
theorem dX6_digest_14 : decode cX6_digest 14 = .ok (.iload_n 3, 1) := by decide +kernel
theorem dX6_digest_15 : decode cX6_digest 15 = .ok (.invokevirtual 278, 3) := by decide +kernel
theorem dX6_digest_18 : decode cX6_digest 18 = .ok (.i2l, 1) := by decide +kernel
theorem dX6_digest_19 : decode cX6_digest 19 = .ok (.invokestatic 296, 3) := by decide +kernel
theorem dX6_digest_22 : decode cX6_digest 22 = .ok (.lstore_n 1, 1) := by decide +kernel
theorem dX6_digest_23 : decode cX6_digest 23 = .ok (.iinc 3 1, 3) := by decide +kernel
theorem dX6_digest_26 : decode cX6_digest 26 = .ok (.goto (-20), 3) := by decide +kernel
theorem dX6_digest_29 : decode cX6_digest 29 = .ok (.iconst 0, 1) := by decide +kernel
theorem dX6_digest_30 : decode cX6_digest 30 = .ok (.istore_n 3, 1) := by decide +kernel
theorem dX6_digest_31 : decode cX6_digest 31 = .ok (.iload_n 3, 1) := by decide +kernel
theorem dX6_digest_32 : decode cX6_digest 32 = .ok (.aload_n 0, 1) := by decide +kernel
theorem dX6_digest_33 : decode cX6_digest 33 = .ok (.getfield 12, 3) := by decide +kernel
theorem dX6_digest_36 : decode cX6_digest 36 = .ok (.getfield 59, 3) := by decide +kernel
theorem dX6_digest_39 : decode cX6_digest 39 = .ok (.if_icmp .ge 23, 3) := by decide +kernel
theorem dX6_digest_42 : decode cX6_digest 42 = .ok (.lload_n 1, 1) := by decide +kernel
theorem dX6_digest_43 : decode cX6_digest 43 = .ok (.aload_n 0, 1) := by decide +kernel
theorem dX6_digest_44 : decode cX6_digest 44 = .ok (.getfield 12, 3) := by decide +kernel
theorem dX6_digest_47 : decode cX6_digest 47 = .ok (.iload_n 3, 1) := by decide +kernel
theorem dX6_digest_48 : decode cX6_digest 48 = .ok (.invokevirtual 281, 3) := by decide +kernel
theorem dX6_digest_51 : decode cX6_digest 51 = .ok (.i2l, 1) := by decide +kernel
theorem dX6_digest_52 : decode cX6_digest 52 = .ok (.invokestatic 296, 3) := by decide +kernel
theorem dX6_digest_55 : decode cX6_digest 55 = .ok (.lstore_n 1, 1) := by decide +kernel
theorem dX6_digest_56 : decode cX6_digest 56 = .ok (.iinc 3 1, 3) := by decide +kernel
theorem dX6_digest_59 : decode cX6_digest 59 = .ok (.goto (-28), 3) := by decide +kernel
theorem dX6_digest_62 : decode cX6_digest 62 = .ok (.aload_n 0, 1) := by decide +kernel
theorem dX6_digest_63 : decode cX6_digest 63 = .ok (.lload_n 1, 1) := by decide +kernel
theorem dX6_digest_64 : decode cX6_digest 64 = .ok (.aload_n 0, 1) := by decide +kernel
theorem dX6_digest_65 : decode cX6_digest 65 = .ok (.getfield 19, 3) := by decide +kernel
theorem dX6_digest_68 : decode cX6_digest 68 = .ok (.getfield 131, 3) := by decide +kernel
theorem dX6_digest_71 : decode cX6_digest 71 = .ok (.invokevirtual 300, 3) := by decide +kernel
theorem dX6_digest_74 : decode cX6_digest 74 = .ok (.lstore_n 1, 1) := by decide +kernel
theorem dX6_digest_75 : decode cX6_digest 75 = .ok (.aload_n 0, 1) := by decide +kernel
theorem dX6_digest_76 : decode cX6_digest 76 = .ok (.lload_n 1, 1) := by decide +kernel
theorem dX6_digest_77 : decode cX6_digest 77 = .ok (.aload_n 0, 1) := by decide +kernel
theorem dX6_digest_78 : decode cX6_digest 78 = .ok (.getfield 19, 3) := by decide +kernel
theorem dX6_digest_81 : decode cX6_digest 81 = .ok (.getfield 148, 3) := by decide +kernel
theorem dX6_digest_84 : decode cX6_digest 84 = .ok (.invokevirtual 300, 3) := by decide +kernel
theorem dX6_digest_87 : decode cX6_digest 87 = .ok (.lstore_n 1, 1) := by decide +kernel
theorem dX6_digest_88 : decode cX6_digest 88 = .ok (.lload_n 1, 1) := by decide +kernel
theorem dX6_digest_89 : decode cX6_digest 89 = .ok (.ldc_w 304, 3) := by decide +kernel
theorem dX6_digest_92 : decode cX6_digest 92 = .ok (.aload_n 0, 1) := by decide +kernel
theorem dX6_digest_93 : decode cX6_digest 93 = .ok (.aload_n 0, 1) := by decide +kernel
theorem dX6_digest_94 : decode cX6_digest 94 = .ok (.getfield 19, 3) := by decide +kernel
theorem dX6_digest_97 : decode cX6_digest 97 = .ok (.getfield 131, 3) := by decide +kernel
theorem dX6_digest_100 : decode cX6_digest 100 = .ok (.invokevirtual 272, 3) := by decide +kernel
theorem dX6_digest_103 : decode cX6_digest 103 = .ok (.fmul, 1) := by decide +kernel
theorem dX6_digest_104 : decode cX6_digest 104 = .ok (.f2l, 1) := by decide +kernel
theorem dX6_digest_105 : decode cX6_digest 105 = .ok (.invokestatic 296, 3) := by decide +kernel
theorem dX6_digest_108 : decode cX6_digest 108 = .ok (.lstore_n 1, 1) := by decide +kernel
theorem dX6_digest_109 : decode cX6_digest 109 = .ok (.lload_n 1, 1) := by decide +kernel
theorem dX6_digest_110 : decode cX6_digest 110 = .ok (.ldc_w 304, 3) := by decide +kernel
theorem dX6_digest_113 : decode cX6_digest 113 = .ok (.aload_n 0, 1) := by decide +kernel
theorem dX6_digest_114 : decode cX6_digest 114 = .ok (.aload_n 0, 1) := by decide +kernel
theorem dX6_digest_115 : decode cX6_digest 115 = .ok (.getfield 19, 3) := by decide +kernel
theorem dX6_digest_118 : decode cX6_digest 118 = .ok (.getfield 148, 3) := by decide +kernel
theorem dX6_digest_121 : decode cX6_digest 121 = .ok (.invokevirtual 272, 3) := by decide +kernel
theorem dX6_digest_124 : decode cX6_digest 124 = .ok (.fmul, 1) := by decide +kernel
theorem dX6_digest_125 : decode cX6_digest 125 = .ok (.f2l, 1) := by decide +kernel
theorem dX6_digest_126 : decode cX6_digest 126 = .ok (.invokestatic 296, 3) := by decide +kernel
theorem dX6_digest_129 : decode cX6_digest 129 = .ok (.lstore_n 1, 1) := by decide +kernel
theorem dX6_digest_130 : decode cX6_digest 130 = .ok (.iconst 0, 1) := by decide +kernel
theorem dX6_digest_131 : decode cX6_digest 131 = .ok (.istore_n 3, 1) := by decide +kernel
theorem dX6_digest_132 : decode cX6_digest 132 = .ok (.iload_n 3, 1) := by decide +kernel
theorem dX6_digest_133 : decode cX6_digest 133 = .ok (.aload_n 0, 1) := by decide +kernel
theorem dX6_digest_134 : decode cX6_digest 134 = .ok (.getfield 19, 3) := by decide +kernel
theorem dX6_digest_137 : decode cX6_digest 137 = .ok (.getfield 171, 3) := by decide +kernel
theorem dX6_digest_140 : decode cX6_digest 140 = .ok (.if_icmp .ge 23, 3) := by decide +kernel
theorem dX6_digest_143 : decode cX6_digest 143 = .ok (.lload_n 1, 1) := by decide +kernel
theorem dX6_digest_144 : decode cX6_digest 144 = .ok (.aload_n 0, 1) := by decide +kernel
theorem dX6_digest_145 : decode cX6_digest 145 = .ok (.getfield 19, 3) := by decide +kernel
theorem dX6_digest_148 : decode cX6_digest 148 = .ok (.getfield 187, 3) := by decide +kernel
theorem dX6_digest_151 : decode cX6_digest 151 = .ok (.iload_n 3, 1) := by decide +kernel
theorem dX6_digest_152 : decode cX6_digest 152 = .ok (.iconst 4, 1) := by decide +kernel
theorem dX6_digest_153 : decode cX6_digest 153 = .ok (.invokestatic 305, 3) := by decide +kernel
theorem dX6_digest_156 : decode cX6_digest 156 = .ok (.lstore_n 1, 1) := by decide +kernel
theorem dX6_digest_157 : decode cX6_digest 157 = .ok (.iinc 3 1, 3) := by decide +kernel
theorem dX6_digest_160 : decode cX6_digest 160 = .ok (.goto (-28), 3) := by decide +kernel
theorem dX6_digest_163 : decode cX6_digest 163 = .ok (.aload_n 0, 1) := by decide +kernel
theorem dX6_digest_164 : decode cX6_digest 164 = .ok (.lload_n 1, 1) := by decide +kernel
theorem dX6_digest_165 : decode cX6_digest 165 = .ok (.invokevirtual 309, 3) := by decide +kernel
theorem dX6_digest_168 : decode cX6_digest 168 = .ok (.lstore_n 1, 1) := by decide +kernel
theorem dX6_digest_169 : decode cX6_digest 169 = .ok (.lload_n 1, 1) := by decide +kernel
theorem dX6_digest_170 : decode cX6_digest 170 = .ok (.aload_n 0, 1) := by decide +kernel
theorem dX6_digest_171 : decode cX6_digest 171 = .ok (.invokevirtual 291, 3) := by decide +kernel
theorem dX6_digest_174 : decode cX6_digest 174 = .ok (.i2l, 1) := by decide +kernel
theorem dX6_digest_175 : decode cX6_digest 175 = .ok (.invokestatic 296, 3) := by decide +kernel
theorem dX6_digest_178 : decode cX6_digest 178 = .ok (.lreturn, 1) := by decide +kernel
theorem dX6_make_0 : decode cX6_make 0 = .ok (.aload_n 0, 1) := by decide +kernel
theorem dX6_make_1 : decode cX6_make 1 = .ok (.getfield 19, 3) := by decide +kernel
theorem dX6_make_4 : decode cX6_make 4 = .ok (.getfield 245, 3) := by decide +kernel
theorem dX6_make_7 : decode cX6_make 7 = .ok (.istore 5, 2) := by decide +kernel
theorem dX6_make_9 : decode cX6_make 9 = .ok (.aload_n 0, 1) := by decide +kernel
theorem dX6_make_10 : decode cX6_make 10 = .ok (.getfield 19, 3) := by decide +kernel
theorem dX6_make_13 : decode cX6_make 13 = .ok (.dup, 1) := by decide +kernel
theorem dX6_make_14 : decode cX6_make 14 = .ok (.getfield 245, 3) := by decide +kernel
theorem dX6_make_17 : decode cX6_make 17 = .ok (.iconst 1, 1) := by decide +kernel
theorem dX6_make_18 : decode cX6_make 18 = .ok (.iadd, 1) := by decide +kernel
theorem dX6_make_19 : decode cX6_make 19 = .ok (.putfield 245, 3) := by decide +kernel
theorem dX6_make_22 : decode cX6_make 22 = .ok (.aload_n 0, 1) := by decide +kernel
theorem dX6_make_23 : decode cX6_make 23 = .ok (.getfield 28, 3) := by decide +kernel
theorem dX6_make_26 : decode cX6_make 26 = .ok (.iload 5, 2) := by decide +kernel
theorem dX6_make_28 : decode cX6_make 28 = .ok (.iconst 0, 1) := by decide +kernel
theorem dX6_make_29 : decode cX6_make 29 = .ok (.iload_n 1, 1) := by decide +kernel
theorem dX6_make_30 : decode cX6_make 30 = .ok (.invokevirtual 192, 3) := by decide +kernel
theorem dX6_make_33 : decode cX6_make 33 = .ok (.aload_n 0, 1) := by decide +kernel
theorem dX6_make_34 : decode cX6_make 34 = .ok (.getfield 28, 3) := by decide +kernel
theorem dX6_make_37 : decode cX6_make 37 = .ok (.iload 5, 2) := by decide +kernel
theorem dX6_make_39 : decode cX6_make 39 = .ok (.iconst 1, 1) := by decide +kernel
theorem dX6_make_40 : decode cX6_make 40 = .ok (.aload_n 0, 1) := by decide +kernel
theorem dX6_make_41 : decode cX6_make 41 = .ok (.getfield 12, 3) := by decide +kernel
theorem dX6_make_44 : decode cX6_make 44 = .ok (.getfield 81, 3) := by decide +kernel
theorem dX6_make_47 : decode cX6_make 47 = .ok (.invokevirtual 192, 3) := by decide +kernel
theorem dX6_make_50 : decode cX6_make 50 = .ok (.aload_n 0, 1) := by decide +kernel
theorem dX6_make_51 : decode cX6_make 51 = .ok (.getfield 28, 3) := by decide +kernel
theorem dX6_make_54 : decode cX6_make 54 = .ok (.iload 5, 2) := by decide +kernel
theorem dX6_make_56 : decode cX6_make 56 = .ok (.iconst 2, 1) := by decide +kernel
theorem dX6_make_57 : decode cX6_make 57 = .ok (.aload_n 0, 1) := by decide +kernel
theorem dX6_make_58 : decode cX6_make 58 = .ok (.getfield 19, 3) := by decide +kernel
theorem dX6_make_61 : decode cX6_make 61 = .ok (.getfield 155, 3) := by decide +kernel
theorem dX6_make_64 : decode cX6_make 64 = .ok (.invokevirtual 192, 3) := by decide +kernel
theorem dX6_make_67 : decode cX6_make 67 = .ok (.aload_n 0, 1) := by decide +kernel
theorem dX6_make_68 : decode cX6_make 68 = .ok (.getfield 28, 3) := by decide +kernel
theorem dX6_make_71 : decode cX6_make 71 = .ok (.iload 5, 2) := by decide +kernel
theorem dX6_make_73 : decode cX6_make 73 = .ok (.iconst 3, 1) := by decide +kernel
theorem dX6_make_74 : decode cX6_make 74 = .ok (.iload_n 2, 1) := by decide +kernel
theorem dX6_make_75 : decode cX6_make 75 = .ok (.invokevirtual 192, 3) := by decide +kernel
theorem dX6_make_78 : decode cX6_make 78 = .ok (.aload_n 0, 1) := by decide +kernel
theorem dX6_make_79 : decode cX6_make 79 = .ok (.getfield 28, 3) := by decide +kernel
theorem dX6_make_82 : decode cX6_make 82 = .ok (.iload 5, 2) := by decide +kernel
theorem dX6_make_84 : decode cX6_make 84 = .ok (.iconst 4, 1) := by decide +kernel
theorem dX6_make_85 : decode cX6_make 85 = .ok (.iload_n 3, 1) := by decide +kernel
theorem dX6_make_86 : decode cX6_make 86 = .ok (.invokevirtual 192, 3) := by decide +kernel
theorem dX6_make_89 : decode cX6_make 89 = .ok (.aload_n 0, 1) := by decide +kernel
theorem dX6_make_90 : decode cX6_make 90 = .ok (.getfield 12, 3) := by decide +kernel
theorem dX6_make_93 : decode cX6_make 93 = .ok (.iload 4, 2) := by decide +kernel
theorem dX6_make_95 : decode cX6_make 95 = .ok (.invokevirtual 313, 3) := by decide +kernel
theorem dX6_make_98 : decode cX6_make 98 = .ok (.aload_n 0, 1) := by decide +kernel
theorem dX6_make_99 : decode cX6_make 99 = .ok (.getfield 19, 3) := by decide +kernel
theorem dX6_make_102 : decode cX6_make 102 = .ok (.getfield 148, 3) := by decide +kernel
theorem dX6_make_105 : decode cX6_make 105 = .ok (.iload 5, 2) := by decide +kernel
theorem dX6_make_107 : decode cX6_make 107 = .ok (.invokevirtual 195, 3) := by decide +kernel
theorem dX6_make_110 : decode cX6_make 110 = .ok (.aload_n 0, 1) := by decide +kernel
theorem dX6_make_111 : decode cX6_make 111 = .ok (.getfield 19, 3) := by decide +kernel
theorem dX6_make_114 : decode cX6_make 114 = .ok (.invokevirtual 316, 3) := by decide +kernel
theorem dX6_make_117 : decode cX6_make 117 = .ok (.iload 5, 2) := by decide +kernel
theorem dX6_make_119 : decode cX6_make 119 = .ok (.ireturn, 1) := by decide +kernel
theorem dX6_takeWorked_0 : decode cX6_takeWorked 0 = .ok (.aload_n 0, 1) := by decide +kernel
theorem dX6_takeWorked_1 : decode cX6_takeWorked 1 = .ok (.getfield 19, 3) := by decide +kernel
theorem dX6_takeWorked_4 : decode cX6_takeWorked 4 = .ok (.getfield 131, 3) := by decide +kernel
theorem dX6_takeWorked_7 : decode cX6_takeWorked 7 = .ok (.iconst 0, 1) := by decide +kernel
theorem dX6_takeWorked_8 : decode cX6_takeWorked 8 = .ok (.invokevirtual 176, 3) := by decide +kernel
theorem dX6_takeWorked_11 : decode cX6_takeWorked 11 = .ok (.istore_n 1, 1) := by decide +kernel
theorem dX6_takeWorked_12 : decode cX6_takeWorked 12 = .ok (.aload_n 0, 1) := by decide +kernel
theorem dX6_takeWorked_13 : decode cX6_takeWorked 13 = .ok (.getfield 28, 3) := by decide +kernel
theorem dX6_takeWorked_16 : decode cX6_takeWorked 16 = .ok (.iload_n 1, 1) := by decide +kernel
theorem dX6_takeWorked_17 : decode cX6_takeWorked 17 = .ok (.iconst 5, 1) := by decide +kernel
theorem dX6_takeWorked_18 : decode cX6_takeWorked 18 = .ok (.iconst 2, 1) := by decide +kernel
theorem dX6_takeWorked_19 : decode cX6_takeWorked 19 = .ok (.invokevirtual 192, 3) := by decide +kernel
theorem dX6_takeWorked_22 : decode cX6_takeWorked 22 = .ok (.iload_n 1, 1) := by decide +kernel
theorem dX6_takeWorked_23 : decode cX6_takeWorked 23 = .ok (.ireturn, 1) := by decide +kernel
theorem dX6_workNext_0 : decode cX6_workNext 0 = .ok (.aload_n 0, 1) := by decide +kernel
theorem dX6_workNext_1 : decode cX6_workNext 1 = .ok (.invokevirtual 319, 3) := by decide +kernel
theorem dX6_workNext_4 : decode cX6_workNext 4 = .ok (.istore_n 2, 1) := by decide +kernel
theorem dX6_workNext_5 : decode cX6_workNext 5 = .ok (.aload_n 0, 1) := by decide +kernel
theorem dX6_workNext_6 : decode cX6_workNext 6 = .ok (.iload_n 1, 1) := by decide +kernel
theorem dX6_workNext_7 : decode cX6_workNext 7 = .ok (.aload_n 0, 1) := by decide +kernel
theorem dX6_workNext_8 : decode cX6_workNext 8 = .ok (.getfield 28, 3) := by decide +kernel
theorem dX6_workNext_11 : decode cX6_workNext 11 = .ok (.iload_n 2, 1) := by decide +kernel
theorem dX6_workNext_12 : decode cX6_workNext 12 = .ok (.iconst 3, 1) := by decide +kernel
theorem dX6_workNext_13 : decode cX6_workNext 13 = .ok (.invokevirtual 179, 3) := by decide +kernel
theorem dX6_workNext_16 : decode cX6_workNext 16 = .ok (.iconst 1, 1) := by decide +kernel
theorem dX6_workNext_17 : decode cX6_workNext 17 = .ok (.iadd, 1) := by decide +kernel
theorem dX6_workNext_18 : decode cX6_workNext 18 = .ok (.iconst 1, 1) := by decide +kernel
theorem dX6_workNext_19 : decode cX6_workNext 19 = .ok (.iconst 4, 1) := by decide +kernel
theorem dX6_workNext_20 : decode cX6_workNext 20 = .ok (.invokevirtual 99, 3) := by decide +kernel
theorem dX6_workNext_23 : decode cX6_workNext 23 = .ok (.ireturn, 1) := by decide +kernel
theorem dX6_makeOver_0 : decode cX6_makeOver 0 = .ok (.aload_n 0, 1) := by decide +kernel
theorem dX6_makeOver_1 : decode cX6_makeOver 1 = .ok (.getfield 19, 3) := by decide +kernel
theorem dX6_makeOver_4 : decode cX6_makeOver 4 = .ok (.dup, 1) := by decide +kernel
theorem dX6_makeOver_5 : decode cX6_makeOver 5 = .ok (.getfield 322, 3) := by decide +kernel
theorem dX6_makeOver_8 : decode cX6_makeOver 8 = .ok (.iconst 1, 1) := by decide +kernel
theorem dX6_makeOver_9 : decode cX6_makeOver 9 = .ok (.iadd, 1) := by decide +kernel
theorem dX6_makeOver_10 : decode cX6_makeOver 10 = .ok (.putfield 322, 3) := by decide +kernel
theorem dX6_makeOver_13 : decode cX6_makeOver 13 = .ok (.aload_n 0, 1) := by decide +kernel
theorem dX6_makeOver_14 : decode cX6_makeOver 14 = .ok (.iconst 3, 1) := by decide +kernel
theorem dX6_makeOver_15 : decode cX6_makeOver 15 = .ok (.iconst 1, 1) := by decide +kernel
theorem dX6_makeOver_16 : decode cX6_makeOver 16 = .ok (.iconst 0, 1) := by decide +kernel
theorem dX6_makeOver_17 : decode cX6_makeOver 17 = .ok (.iconst 3, 1) := by decide +kernel
theorem dX6_makeOver_18 : decode cX6_makeOver 18 = .ok (.invokevirtual 99, 3) := by decide +kernel
theorem dX6_makeOver_21 : decode cX6_makeOver 21 = .ok (.ireturn, 1) := by decide +kernel
theorem dX6_takeTogether_0 : decode cX6_takeTogether 0 = .ok (.iconst 0, 1) := by decide +kernel
theorem dX6_takeTogether_1 : decode cX6_takeTogether 1 = .ok (.istore_n 3, 1) := by decide +kernel
theorem dX6_takeTogether_2 : decode cX6_takeTogether 2 = .ok (.iload_n 3, 1) := by decide +kernel
theorem dX6_takeTogether_3 : decode cX6_takeTogether 3 = .ok (.iload_n 1, 1) := by decide +kernel
theorem dX6_takeTogether_4 : decode cX6_takeTogether 4 = .ok (.if_icmp .ge 14, 3) := by decide +kernel
theorem dX6_takeTogether_7 : decode cX6_takeTogether 7 = .ok (.aload_n 0, 1) := by decide +kernel
theorem dX6_takeTogether_8 : decode cX6_takeTogether 8 = .ok (.invokevirtual 319, 3) := by decide +kernel
theorem dX6_takeTogether_11 : decode cX6_takeTogether 11 = .ok (.pop, 1) := by decide +kernel
theorem dX6_takeTogether_12 : decode cX6_takeTogether 12 = .ok (.iinc 3 1, 3) := by decide +kernel
theorem dX6_takeTogether_15 : decode cX6_takeTogether 15 = .ok (.goto (-13), 3) := by decide +kernel
theorem dX6_takeTogether_18 : decode cX6_takeTogether 18 = .ok (.aload_n 0, 1) := by decide +kernel
theorem dX6_takeTogether_19 : decode cX6_takeTogether 19 = .ok (.iload_n 2, 1) := by decide +kernel
theorem dX6_takeTogether_20 : decode cX6_takeTogether 20 = .ok (.iconst 1, 1) := by decide +kernel
theorem dX6_takeTogether_21 : decode cX6_takeTogether 21 = .ok (.iload_n 1, 1) := by decide +kernel
theorem dX6_takeTogether_22 : decode cX6_takeTogether 22 = .ok (.iconst 5, 1) := by decide +kernel
theorem dX6_takeTogether_23 : decode cX6_takeTogether 23 = .ok (.invokevirtual 99, 3) := by decide +kernel
theorem dX6_takeTogether_26 : decode cX6_takeTogether 26 = .ok (.ireturn, 1) := by decide +kernel
theorem dX6_slipNext_0 : decode cX6_slipNext 0 = .ok (.aload_n 0, 1) := by decide +kernel
theorem dX6_slipNext_1 : decode cX6_slipNext 1 = .ok (.getfield 19, 3) := by decide +kernel
theorem dX6_slipNext_4 : decode cX6_slipNext 4 = .ok (.getfield 131, 3) := by decide +kernel
theorem dX6_slipNext_7 : decode cX6_slipNext 7 = .ok (.iconst 0, 1) := by decide +kernel
theorem dX6_slipNext_8 : decode cX6_slipNext 8 = .ok (.invokevirtual 176, 3) := by decide +kernel
theorem dX6_slipNext_11 : decode cX6_slipNext 11 = .ok (.istore_n 1, 1) := by decide +kernel
theorem dX6_slipNext_12 : decode cX6_slipNext 12 = .ok (.aload_n 0, 1) := by decide +kernel
theorem dX6_slipNext_13 : decode cX6_slipNext 13 = .ok (.getfield 19, 3) := by decide +kernel
theorem dX6_slipNext_16 : decode cX6_slipNext 16 = .ok (.getfield 148, 3) := by decide +kernel
theorem dX6_slipNext_19 : decode cX6_slipNext 19 = .ok (.iload_n 1, 1) := by decide +kernel
theorem dX6_slipNext_20 : decode cX6_slipNext 20 = .ok (.invokevirtual 195, 3) := by decide +kernel
theorem dX6_slipNext_23 : decode cX6_slipNext 23 = .ok (.iload_n 1, 1) := by decide +kernel
theorem dX6_slipNext_24 : decode cX6_slipNext 24 = .ok (.ireturn, 1) := by decide +kernel
theorem dX6_crossNext_0 : decode cX6_crossNext 0 = .ok (.iconst 0, 1) := by decide +kernel
theorem dX6_crossNext_1 : decode cX6_crossNext 1 = .ok (.istore_n 3, 1) := by decide +kernel
theorem dX6_crossNext_2 : decode cX6_crossNext 2 = .ok (.iload_n 3, 1) := by decide +kernel
theorem dX6_crossNext_3 : decode cX6_crossNext 3 = .ok (.iload_n 1, 1) := by decide +kernel
theorem dX6_crossNext_4 : decode cX6_crossNext 4 = .ok (.if_icmp .ge 24, 3) := by decide +kernel
theorem dX6_crossNext_7 : decode cX6_crossNext 7 = .ok (.aload_n 0, 1) := by decide +kernel
theorem dX6_crossNext_8 : decode cX6_crossNext 8 = .ok (.getfield 19, 3) := by decide +kernel
theorem dX6_crossNext_11 : decode cX6_crossNext 11 = .ok (.getfield 131, 3) := by decide +kernel
theorem dX6_crossNext_14 : decode cX6_crossNext 14 = .ok (.iload_n 1, 1) := by decide +kernel
theorem dX6_crossNext_15 : decode cX6_crossNext 15 = .ok (.iload_n 2, 1) := by decide +kernel
theorem dX6_crossNext_16 : decode cX6_crossNext 16 = .ok (.iadd, 1) := by decide +kernel
theorem dX6_crossNext_17 : decode cX6_crossNext 17 = .ok (.iconst 1, 1) := by decide +kernel
theorem dX6_crossNext_18 : decode cX6_crossNext 18 = .ok (.isub, 1) := by decide +kernel
theorem dX6_crossNext_19 : decode cX6_crossNext 19 = .ok (.invokevirtual 325, 3) := by decide +kernel
theorem dX6_crossNext_22 : decode cX6_crossNext 22 = .ok (.iinc 3 1, 3) := by decide +kernel
theorem dX6_crossNext_25 : decode cX6_crossNext 25 = .ok (.goto (-23), 3) := by decide +kernel
theorem dX6_crossNext_28 : decode cX6_crossNext 28 = .ok (.aload_n 0, 1) := by decide +kernel
theorem dX6_crossNext_29 : decode cX6_crossNext 29 = .ok (.getfield 19, 3) := by decide +kernel
theorem dX6_crossNext_32 : decode cX6_crossNext 32 = .ok (.dup, 1) := by decide +kernel
theorem dX6_crossNext_33 : decode cX6_crossNext 33 = .ok (.getfield 328, 3) := by decide +kernel
theorem dX6_crossNext_36 : decode cX6_crossNext 36 = .ok (.iconst 1, 1) := by decide +kernel
theorem dX6_crossNext_37 : decode cX6_crossNext 37 = .ok (.iadd, 1) := by decide +kernel
theorem dX6_crossNext_38 : decode cX6_crossNext 38 = .ok (.putfield 328, 3) := by decide +kernel
theorem dX6_crossNext_41 : decode cX6_crossNext 41 = .ok (.aload_n 0, 1) := by decide +kernel
theorem dX6_crossNext_42 : decode cX6_crossNext 42 = .ok (.getfield 19, 3) := by decide +kernel
theorem dX6_crossNext_45 : decode cX6_crossNext 45 = .ok (.getfield 131, 3) := by decide +kernel
theorem dX6_crossNext_48 : decode cX6_crossNext 48 = .ok (.iconst 0, 1) := by decide +kernel
theorem dX6_crossNext_49 : decode cX6_crossNext 49 = .ok (.invokevirtual 242, 3) := by decide +kernel
theorem dX6_crossNext_52 : decode cX6_crossNext 52 = .ok (.ireturn, 1) := by decide +kernel
theorem dX6_bindSeconds_0 : decode cX6_bindSeconds 0 = .ok (.iconst 0, 1) := by decide +kernel
theorem dX6_bindSeconds_1 : decode cX6_bindSeconds 1 = .ok (.istore_n 2, 1) := by decide +kernel
theorem dX6_bindSeconds_2 : decode cX6_bindSeconds 2 = .ok (.iload_n 2, 1) := by decide +kernel
theorem dX6_bindSeconds_3 : decode cX6_bindSeconds 3 = .ok (.iload_n 1, 1) := by decide +kernel
theorem dX6_bindSeconds_4 : decode cX6_bindSeconds 4 = .ok (.if_icmp .ge 14, 3) := by decide +kernel
theorem dX6_bindSeconds_7 : decode cX6_bindSeconds 7 = .ok (.aload_n 0, 1) := by decide +kernel
theorem dX6_bindSeconds_8 : decode cX6_bindSeconds 8 = .ok (.iconst 1, 1) := by decide +kernel
theorem dX6_bindSeconds_9 : decode cX6_bindSeconds 9 = .ok (.invokevirtual 331, 3) := by decide +kernel
theorem dX6_bindSeconds_12 : decode cX6_bindSeconds 12 = .ok (.iinc 2 1, 3) := by decide +kernel
theorem dX6_bindSeconds_15 : decode cX6_bindSeconds 15 = .ok (.goto (-13), 3) := by decide +kernel
theorem dX6_bindSeconds_18 : decode cX6_bindSeconds 18 = .ok (.return_, 1) := by decide +kernel
theorem dX6_fastenLast_0 : decode cX6_fastenLast 0 = .ok (.aload_n 0, 1) := by decide +kernel
theorem dX6_fastenLast_1 : decode cX6_fastenLast 1 = .ok (.getfield 12, 3) := by decide +kernel
theorem dX6_fastenLast_4 : decode cX6_fastenLast 4 = .ok (.bipush 6, 2) := by decide +kernel
theorem dX6_fastenLast_6 : decode cX6_fastenLast 6 = .ok (.invokevirtual 313, 3) := by decide +kernel
theorem dX6_fastenLast_9 : decode cX6_fastenLast 9 = .ok (.aload_n 0, 1) := by decide +kernel
theorem dX6_fastenLast_10 : decode cX6_fastenLast 10 = .ok (.iconst 0, 1) := by decide +kernel
theorem dX6_fastenLast_11 : decode cX6_fastenLast 11 = .ok (.invokevirtual 331, 3) := by decide +kernel
theorem dX6_fastenLast_14 : decode cX6_fastenLast 14 = .ok (.return_, 1) := by decide +kernel
theorem dX6_bindAt_0 : decode cX6_bindAt 0 = .ok (.aload_n 0, 1) := by decide +kernel
theorem dX6_bindAt_1 : decode cX6_bindAt 1 = .ok (.getfield 19, 3) := by decide +kernel
theorem dX6_bindAt_4 : decode cX6_bindAt 4 = .ok (.getfield 148, 3) := by decide +kernel
theorem dX6_bindAt_7 : decode cX6_bindAt 7 = .ok (.iload_n 1, 1) := by decide +kernel
theorem dX6_bindAt_8 : decode cX6_bindAt 8 = .ok (.invokevirtual 176, 3) := by decide +kernel
theorem dX6_bindAt_11 : decode cX6_bindAt 11 = .ok (.istore_n 2, 1) := by decide +kernel
theorem dX6_bindAt_12 : decode cX6_bindAt 12 = .ok (.aload_n 0, 1) := by decide +kernel
theorem dX6_bindAt_13 : decode cX6_bindAt 13 = .ok (.getfield 28, 3) := by decide +kernel
theorem dX6_bindAt_16 : decode cX6_bindAt 16 = .ok (.iload_n 2, 1) := by decide +kernel
theorem dX6_bindAt_17 : decode cX6_bindAt 17 = .ok (.iconst 5, 1) := by decide +kernel
theorem dX6_bindAt_18 : decode cX6_bindAt 18 = .ok (.iconst 3, 1) := by decide +kernel
theorem dX6_bindAt_19 : decode cX6_bindAt 19 = .ok (.invokevirtual 192, 3) := by decide +kernel
theorem dX6_bindAt_22 : decode cX6_bindAt 22 = .ok (.aload_n 0, 1) := by decide +kernel
theorem dX6_bindAt_23 : decode cX6_bindAt 23 = .ok (.getfield 19, 3) := by decide +kernel
theorem dX6_bindAt_26 : decode cX6_bindAt 26 = .ok (.dup, 1) := by decide +kernel
theorem dX6_bindAt_27 : decode cX6_bindAt 27 = .ok (.getfield 334, 3) := by decide +kernel
theorem dX6_bindAt_30 : decode cX6_bindAt 30 = .ok (.iconst 1, 1) := by decide +kernel
theorem dX6_bindAt_31 : decode cX6_bindAt 31 = .ok (.iadd, 1) := by decide +kernel
theorem dX6_bindAt_32 : decode cX6_bindAt 32 = .ok (.putfield 334, 3) := by decide +kernel
theorem dX6_bindAt_35 : decode cX6_bindAt 35 = .ok (.return_, 1) := by decide +kernel
theorem dX6_stepFact_0 : decode cX6_stepFact 0 = .ok (.iload_n 1, 1) := by decide +kernel
theorem dX6_stepFact_1 : decode cX6_stepFact 1 = .ok (.ifCond .lt 15, 3) := by decide +kernel
theorem dX6_stepFact_4 : decode cX6_stepFact 4 = .ok (.iload_n 1, 1) := by decide +kernel
theorem dX6_stepFact_5 : decode cX6_stepFact 5 = .ok (.aload_n 0, 1) := by decide +kernel
theorem dX6_stepFact_6 : decode cX6_stepFact 6 = .ok (.arraylength, 1) := by decide +kernel
theorem dX6_stepFact_7 : decode cX6_stepFact 7 = .ok (.if_icmp .ge 9, 3) := by decide +kernel
theorem dX6_stepFact_10 : decode cX6_stepFact 10 = .ok (.aload_n 0, 1) := by decide +kernel
theorem dX6_stepFact_11 : decode cX6_stepFact 11 = .ok (.iload_n 1, 1) := by decide +kernel
theorem dX6_stepFact_12 : decode cX6_stepFact 12 = .ok (.iaload, 1) := by decide +kernel
theorem dX6_stepFact_13 : decode cX6_stepFact 13 = .ok (.goto 4, 3) := by decide +kernel
theorem dX6_stepFact_16 : decode cX6_stepFact 16 = .ok (.iconst 0, 1) := by decide +kernel
theorem dX6_stepFact_17 : decode cX6_stepFact 17 = .ok (.ireturn, 1) := by decide +kernel
theorem dX6_canDo_0 : decode cX6_canDo 0 = .ok (.iload_n 1, 1) := by decide +kernel
theorem dX6_canDo_1 : decode cX6_canDo 1 = .ok (.aload_n 0, 1) := by decide +kernel
theorem dX6_canDo_2 : decode cX6_canDo 2 = .ok (.getfield 19, 3) := by decide +kernel
theorem dX6_canDo_5 : decode cX6_canDo 5 = .ok (.getfield 131, 3) := by decide +kernel
theorem dX6_canDo_8 : decode cX6_canDo 8 = .ok (.getfield 135, 3) := by decide +kernel
theorem dX6_canDo_11 : decode cX6_canDo 11 = .ok (.aload_n 0, 1) := by decide +kernel
theorem dX6_canDo_12 : decode cX6_canDo 12 = .ok (.getfield 19, 3) := by decide +kernel
theorem dX6_canDo_15 : decode cX6_canDo 15 = .ok (.invokevirtual 90, 3) := by decide +kernel
theorem dX6_canDo_18 : decode cX6_canDo 18 = .ok (.aload_n 0, 1) := by decide +kernel
theorem dX6_canDo_19 : decode cX6_canDo 19 = .ok (.getfield 12, 3) := by decide +kernel
theorem dX6_canDo_22 : decode cX6_canDo 22 = .ok (.invokevirtual 86, 3) := by decide +kernel
theorem dX6_canDo_25 : decode cX6_canDo 25 = .ok (.invokestatic 337, 3) := by decide +kernel
theorem dX6_canDo_28 : decode cX6_canDo 28 = .ok (.ireturn, 1) := by decide +kernel
theorem dX6_fits_0 : decode cX6_fits 0 = .ok (.getstatic 341, 3) := by decide +kernel
theorem dX6_fits_3 : decode cX6_fits 3 = .ok (.iload_n 0, 1) := by decide +kernel
theorem dX6_fits_4 : decode cX6_fits 4 = .ok (.invokestatic 345, 3) := by decide +kernel
theorem dX6_fits_7 : decode cX6_fits 7 = .ok (.getstatic 349, 3) := by decide +kernel
theorem dX6_fits_10 : decode cX6_fits 10 = .ok (.iload_n 0, 1) := by decide +kernel
theorem dX6_fits_11 : decode cX6_fits 11 = .ok (.invokestatic 345, 3) := by decide +kernel
theorem dX6_fits_14 : decode cX6_fits 14 = .ok (.isub, 1) := by decide +kernel
theorem dX6_fits_15 : decode cX6_fits 15 = .ok (.istore 4, 2) := by decide +kernel
theorem dX6_fits_17 : decode cX6_fits 17 = .ok (.iload_n 1, 1) := by decide +kernel
theorem dX6_fits_18 : decode cX6_fits 18 = .ok (.getstatic 352, 3) := by decide +kernel
theorem dX6_fits_21 : decode cX6_fits 21 = .ok (.iload_n 0, 1) := by decide +kernel
theorem dX6_fits_22 : decode cX6_fits 22 = .ok (.invokestatic 345, 3) := by decide +kernel
theorem dX6_fits_25 : decode cX6_fits 25 = .ok (.if_icmp .lt 27, 3) := by decide +kernel
theorem dX6_fits_28 : decode cX6_fits 28 = .ok (.iload_n 2, 1) := by decide +kernel
theorem dX6_fits_29 : decode cX6_fits 29 = .ok (.iload 4, 2) := by decide +kernel
theorem dX6_fits_31 : decode cX6_fits 31 = .ok (.iadd, 1) := by decide +kernel
theorem dX6_fits_32 : decode cX6_fits 32 = .ok (.bipush 24, 2) := by decide +kernel
theorem dX6_fits_34 : decode cX6_fits 34 = .ok (.if_icmp .gt 18, 3) := by decide +kernel
theorem dX6_fits_37 : decode cX6_fits 37 = .ok (.iload_n 3, 1) := by decide +kernel
theorem dX6_fits_38 : decode cX6_fits 38 = .ok (.getstatic 355, 3) := by decide +kernel
theorem dX6_fits_41 : decode cX6_fits 41 = .ok (.iload_n 0, 1) := by decide +kernel
theorem dX6_fits_42 : decode cX6_fits 42 = .ok (.invokestatic 345, 3) := by decide +kernel
theorem dX6_fits_45 : decode cX6_fits 45 = .ok (.if_icmp .lt 7, 3) := by decide +kernel
theorem dX6_fits_48 : decode cX6_fits 48 = .ok (.iconst 1, 1) := by decide +kernel
theorem dX6_fits_49 : decode cX6_fits 49 = .ok (.goto 4, 3) := by decide +kernel
theorem dX6_fits_52 : decode cX6_fits 52 = .ok (.iconst 0, 1) := by decide +kernel
theorem dX6_fits_53 : decode cX6_fits 53 = .ok (.ireturn, 1) := by decide +kernel
theorem dX6_doStep_0 : decode cX6_doStep 0 = .ok (.iload_n 1, 1) := by decide +kernel
theorem dX6_doStep_1 : decode cX6_doStep 1 = .ok (.tableswitch 145 1 9 #[51, 60, 69, 77, 87, 97, 105, 115, 125], 51) := by decide +kernel
theorem dX6_doStep_52 : decode cX6_doStep 52 = .ok (.aload_n 0, 1) := by decide +kernel
theorem dX6_doStep_53 : decode cX6_doStep 53 = .ok (.iconst 1, 1) := by decide +kernel
theorem dX6_doStep_54 : decode cX6_doStep 54 = .ok (.invokevirtual 108, 3) := by decide +kernel
theorem dX6_doStep_57 : decode cX6_doStep 57 = .ok (.pop, 1) := by decide +kernel
theorem dX6_doStep_58 : decode cX6_doStep 58 = .ok (.goto 88, 3) := by decide +kernel
theorem dX6_doStep_61 : decode cX6_doStep 61 = .ok (.aload_n 0, 1) := by decide +kernel
theorem dX6_doStep_62 : decode cX6_doStep 62 = .ok (.iconst 2, 1) := by decide +kernel
theorem dX6_doStep_63 : decode cX6_doStep 63 = .ok (.invokevirtual 108, 3) := by decide +kernel
theorem dX6_doStep_66 : decode cX6_doStep 66 = .ok (.pop, 1) := by decide +kernel
theorem dX6_doStep_67 : decode cX6_doStep 67 = .ok (.goto 79, 3) := by decide +kernel
theorem dX6_doStep_70 : decode cX6_doStep 70 = .ok (.aload_n 0, 1) := by decide +kernel
theorem dX6_doStep_71 : decode cX6_doStep 71 = .ok (.invokevirtual 113, 3) := by decide +kernel
theorem dX6_doStep_74 : decode cX6_doStep 74 = .ok (.pop, 1) := by decide +kernel
theorem dX6_doStep_75 : decode cX6_doStep 75 = .ok (.goto 71, 3) := by decide +kernel
theorem dX6_doStep_78 : decode cX6_doStep 78 = .ok (.aload_n 0, 1) := by decide +kernel
theorem dX6_doStep_79 : decode cX6_doStep 79 = .ok (.iconst 2, 1) := by decide +kernel
theorem dX6_doStep_80 : decode cX6_doStep 80 = .ok (.iconst 4, 1) := by decide +kernel
theorem dX6_doStep_81 : decode cX6_doStep 81 = .ok (.invokevirtual 120, 3) := by decide +kernel
theorem dX6_doStep_84 : decode cX6_doStep 84 = .ok (.pop, 1) := by decide +kernel
theorem dX6_doStep_85 : decode cX6_doStep 85 = .ok (.goto 61, 3) := by decide +kernel
theorem dX6_doStep_88 : decode cX6_doStep 88 = .ok (.aload_n 0, 1) := by decide +kernel
theorem dX6_doStep_89 : decode cX6_doStep 89 = .ok (.iconst 2, 1) := by decide +kernel
theorem dX6_doStep_90 : decode cX6_doStep 90 = .ok (.iconst 5, 1) := by decide +kernel
theorem dX6_doStep_91 : decode cX6_doStep 91 = .ok (.invokevirtual 120, 3) := by decide +kernel
theorem dX6_doStep_94 : decode cX6_doStep 94 = .ok (.pop, 1) := by decide +kernel
theorem dX6_doStep_95 : decode cX6_doStep 95 = .ok (.goto 51, 3) := by decide +kernel
theorem dX6_doStep_98 : decode cX6_doStep 98 = .ok (.aload_n 0, 1) := by decide +kernel
theorem dX6_doStep_99 : decode cX6_doStep 99 = .ok (.invokevirtual 126, 3) := by decide +kernel
theorem dX6_doStep_102 : decode cX6_doStep 102 = .ok (.pop, 1) := by decide +kernel
theorem dX6_doStep_103 : decode cX6_doStep 103 = .ok (.goto 43, 3) := by decide +kernel
theorem dX6_doStep_106 : decode cX6_doStep 106 = .ok (.aload_n 0, 1) := by decide +kernel
theorem dX6_doStep_107 : decode cX6_doStep 107 = .ok (.iconst 1, 1) := by decide +kernel
theorem dX6_doStep_108 : decode cX6_doStep 108 = .ok (.iconst 1, 1) := by decide +kernel
theorem dX6_doStep_109 : decode cX6_doStep 109 = .ok (.invokevirtual 140, 3) := by decide +kernel
theorem dX6_doStep_112 : decode cX6_doStep 112 = .ok (.pop, 1) := by decide +kernel
theorem dX6_doStep_113 : decode cX6_doStep 113 = .ok (.goto 33, 3) := by decide +kernel
theorem dX6_doStep_116 : decode cX6_doStep 116 = .ok (.aload_n 0, 1) := by decide +kernel
theorem dX6_doStep_117 : decode cX6_doStep 117 = .ok (.iconst 3, 1) := by decide +kernel
theorem dX6_doStep_118 : decode cX6_doStep 118 = .ok (.iconst 4, 1) := by decide +kernel
theorem dX6_doStep_119 : decode cX6_doStep 119 = .ok (.invokevirtual 120, 3) := by decide +kernel
theorem dX6_doStep_122 : decode cX6_doStep 122 = .ok (.pop, 1) := by decide +kernel
theorem dX6_doStep_123 : decode cX6_doStep 123 = .ok (.goto 23, 3) := by decide +kernel
theorem dX6_doStep_126 : decode cX6_doStep 126 = .ok (.aload_n 0, 1) := by decide +kernel
theorem dX6_doStep_127 : decode cX6_doStep 127 = .ok (.iconst 1, 1) := by decide +kernel
theorem dX6_doStep_128 : decode cX6_doStep 128 = .ok (.invokevirtual 108, 3) := by decide +kernel
theorem dX6_doStep_131 : decode cX6_doStep 131 = .ok (.pop, 1) := by decide +kernel
theorem dX6_doStep_132 : decode cX6_doStep 132 = .ok (.aload_n 0, 1) := by decide +kernel
theorem dX6_doStep_133 : decode cX6_doStep 133 = .ok (.invokevirtual 113, 3) := by decide +kernel
theorem dX6_doStep_136 : decode cX6_doStep 136 = .ok (.pop, 1) := by decide +kernel
theorem dX6_doStep_137 : decode cX6_doStep 137 = .ok (.aload_n 0, 1) := by decide +kernel
theorem dX6_doStep_138 : decode cX6_doStep 138 = .ok (.iconst 1, 1) := by decide +kernel
theorem dX6_doStep_139 : decode cX6_doStep 139 = .ok (.invokevirtual 108, 3) := by decide +kernel
theorem dX6_doStep_142 : decode cX6_doStep 142 = .ok (.pop, 1) := by decide +kernel
theorem dX6_doStep_143 : decode cX6_doStep 143 = .ok (.goto 3, 3) := by decide +kernel
theorem dX6_doStep_146 : decode cX6_doStep 146 = .ok (.return_, 1) := by decide +kernel
theorem dX6_hasPattern_0 : decode cX6_hasPattern 0 = .ok (.iload_n 1, 1) := by decide +kernel
theorem dX6_hasPattern_1 : decode cX6_hasPattern 1 = .ok (.ifCond .lt 15, 3) := by decide +kernel
theorem dX6_hasPattern_4 : decode cX6_hasPattern 4 = .ok (.iload_n 1, 1) := by decide +kernel
theorem dX6_hasPattern_5 : decode cX6_hasPattern 5 = .ok (.aload_n 0, 1) := by decide +kernel
theorem dX6_hasPattern_6 : decode cX6_hasPattern 6 = .ok (.getfield 204, 3) := by decide +kernel
theorem dX6_hasPattern_9 : decode cX6_hasPattern 9 = .ok (.if_icmp .ge 7, 3) := by decide +kernel
theorem dX6_hasPattern_12 : decode cX6_hasPattern 12 = .ok (.iconst 1, 1) := by decide +kernel
theorem dX6_hasPattern_13 : decode cX6_hasPattern 13 = .ok (.goto 4, 3) := by decide +kernel
theorem dX6_hasPattern_16 : decode cX6_hasPattern 16 = .ok (.iconst 0, 1) := by decide +kernel
theorem dX6_hasPattern_17 : decode cX6_hasPattern 17 = .ok (.ireturn, 1) := by decide +kernel
theorem dX6_hasZero_0 : decode cX6_hasZero 0 = .ok (.iload_n 0, 1) := by decide +kernel
theorem dX6_hasZero_1 : decode cX6_hasZero 1 = .ok (.istore_n 1, 1) := by decide +kernel
theorem dX6_hasZero_2 : decode cX6_hasZero 2 = .ok (.iconst 0, 1) := by decide +kernel
theorem dX6_hasZero_3 : decode cX6_hasZero 3 = .ok (.istore_n 2, 1) := by decide +kernel
theorem dX6_hasZero_4 : decode cX6_hasZero 4 = .ok (.iload_n 2, 1) := by decide +kernel
theorem dX6_hasZero_5 : decode cX6_hasZero 5 = .ok (.bipush 9, 2) := by decide +kernel
theorem dX6_hasZero_7 : decode cX6_hasZero 7 = .ok (.if_icmp .ge 27, 3) := by decide +kernel
theorem dX6_hasZero_10 : decode cX6_hasZero 10 = .ok (.iload_n 1, 1) := by decide +kernel
theorem dX6_hasZero_11 : decode cX6_hasZero 11 = .ok (.ifCond .le 23, 3) := by decide +kernel
theorem dX6_hasZero_14 : decode cX6_hasZero 14 = .ok (.iload_n 1, 1) := by decide +kernel
theorem dX6_hasZero_15 : decode cX6_hasZero 15 = .ok (.bipush 10, 2) := by decide +kernel
theorem dX6_hasZero_17 : decode cX6_hasZero 17 = .ok (.irem, 1) := by decide +kernel
theorem dX6_hasZero_18 : decode cX6_hasZero 18 = .ok (.ifCond .ne 5, 3) := by decide +kernel
theorem dX6_hasZero_21 : decode cX6_hasZero 21 = .ok (.iconst 1, 1) := by decide +kernel
theorem dX6_hasZero_22 : decode cX6_hasZero 22 = .ok (.ireturn, 1) := by decide +kernel
theorem dX6_hasZero_23 : decode cX6_hasZero 23 = .ok (.iload_n 1, 1) := by decide +kernel
theorem dX6_hasZero_24 : decode cX6_hasZero 24 = .ok (.bipush 10, 2) := by decide +kernel
theorem dX6_hasZero_26 : decode cX6_hasZero 26 = .ok (.idiv, 1) := by decide +kernel
theorem dX6_hasZero_27 : decode cX6_hasZero 27 = .ok (.istore_n 1, 1) := by decide +kernel
theorem dX6_hasZero_28 : decode cX6_hasZero 28 = .ok (.iinc 2 1, 3) := by decide +kernel
theorem dX6_hasZero_31 : decode cX6_hasZero 31 = .ok (.goto (-27), 3) := by decide +kernel
theorem dX6_hasZero_34 : decode cX6_hasZero 34 = .ok (.iconst 0, 1) := by decide +kernel
theorem dX6_hasZero_35 : decode cX6_hasZero 35 = .ok (.ireturn, 1) := by decide +kernel
theorem dX6_digitsIn_0 : decode cX6_digitsIn 0 = .ok (.iconst 0, 1) := by decide +kernel
theorem dX6_digitsIn_1 : decode cX6_digitsIn 1 = .ok (.istore_n 1, 1) := by decide +kernel
theorem dX6_digitsIn_2 : decode cX6_digitsIn 2 = .ok (.iload_n 0, 1) := by decide +kernel
theorem dX6_digitsIn_3 : decode cX6_digitsIn 3 = .ok (.istore_n 2, 1) := by decide +kernel
theorem dX6_digitsIn_4 : decode cX6_digitsIn 4 = .ok (.iconst 0, 1) := by decide +kernel
theorem dX6_digitsIn_5 : decode cX6_digitsIn 5 = .ok (.istore_n 3, 1) := by decide +kernel
theorem dX6_digitsIn_6 : decode cX6_digitsIn 6 = .ok (.iload_n 3, 1) := by decide +kernel
theorem dX6_digitsIn_7 : decode cX6_digitsIn 7 = .ok (.bipush 9, 2) := by decide +kernel
theorem dX6_digitsIn_9 : decode cX6_digitsIn 9 = .ok (.if_icmp .ge 21, 3) := by decide +kernel
theorem dX6_digitsIn_12 : decode cX6_digitsIn 12 = .ok (.iload_n 2, 1) := by decide +kernel
theorem dX6_digitsIn_13 : decode cX6_digitsIn 13 = .ok (.ifCond .le 17, 3) := by decide +kernel
theorem dX6_digitsIn_16 : decode cX6_digitsIn 16 = .ok (.iinc 1 1, 3) := by decide +kernel
theorem dX6_digitsIn_19 : decode cX6_digitsIn 19 = .ok (.iload_n 2, 1) := by decide +kernel
theorem dX6_digitsIn_20 : decode cX6_digitsIn 20 = .ok (.bipush 10, 2) := by decide +kernel
theorem dX6_digitsIn_22 : decode cX6_digitsIn 22 = .ok (.idiv, 1) := by decide +kernel
theorem dX6_digitsIn_23 : decode cX6_digitsIn 23 = .ok (.istore_n 2, 1) := by decide +kernel
theorem dX6_digitsIn_24 : decode cX6_digitsIn 24 = .ok (.iinc 3 1, 3) := by decide +kernel
theorem dX6_digitsIn_27 : decode cX6_digitsIn 27 = .ok (.goto (-21), 3) := by decide +kernel
theorem dX6_digitsIn_30 : decode cX6_digitsIn 30 = .ok (.iload_n 1, 1) := by decide +kernel
theorem dX6_digitsIn_31 : decode cX6_digitsIn 31 = .ok (.ireturn, 1) := by decide +kernel
theorem dX6_tellPattern_0 : decode cX6_tellPattern 0 = .ok (.iload_n 2, 1) := by decide +kernel
theorem dX6_tellPattern_1 : decode cX6_tellPattern 1 = .ok (.invokestatic 358, 3) := by decide +kernel
theorem dX6_tellPattern_4 : decode cX6_tellPattern 4 = .ok (.istore_n 3, 1) := by decide +kernel
theorem dX6_tellPattern_5 : decode cX6_tellPattern 5 = .ok (.iconst 0, 1) := by decide +kernel
theorem dX6_tellPattern_6 : decode cX6_tellPattern 6 = .ok (.istore 4, 2) := by decide +kernel
theorem dX6_tellPattern_8 : decode cX6_tellPattern 8 = .ok (.iconst 0, 1) := by decide +kernel
theorem dX6_tellPattern_9 : decode cX6_tellPattern 9 = .ok (.istore 5, 2) := by decide +kernel
theorem dX6_tellPattern_11 : decode cX6_tellPattern 11 = .ok (.iconst 0, 1) := by decide +kernel
theorem dX6_tellPattern_12 : decode cX6_tellPattern 12 = .ok (.istore 6, 2) := by decide +kernel
theorem dX6_tellPattern_14 : decode cX6_tellPattern 14 = .ok (.iload_n 2, 1) := by decide +kernel
theorem dX6_tellPattern_15 : decode cX6_tellPattern 15 = .ok (.istore 7, 2) := by decide +kernel
theorem dX6_tellPattern_17 : decode cX6_tellPattern 17 = .ok (.iload_n 3, 1) := by decide +kernel
theorem dX6_tellPattern_18 : decode cX6_tellPattern 18 = .ok (.iconst 1, 1) := by decide +kernel
theorem dX6_tellPattern_19 : decode cX6_tellPattern 19 = .ok (.isub, 1) := by decide +kernel
theorem dX6_tellPattern_20 : decode cX6_tellPattern 20 = .ok (.istore 8, 2) := by decide +kernel
theorem dX6_tellPattern_22 : decode cX6_tellPattern 22 = .ok (.iload 8, 2) := by decide +kernel
theorem dX6_tellPattern_24 : decode cX6_tellPattern 24 = .ok (.ifCond .lt 74, 3) := by decide +kernel
theorem dX6_tellPattern_27 : decode cX6_tellPattern 27 = .ok (.iload 7, 2) := by decide +kernel
theorem dX6_tellPattern_29 : decode cX6_tellPattern 29 = .ok (.bipush 10, 2) := by decide +kernel
theorem dX6_tellPattern_31 : decode cX6_tellPattern 31 = .ok (.irem, 1) := by decide +kernel
theorem dX6_tellPattern_32 : decode cX6_tellPattern 32 = .ok (.istore 9, 2) := by decide +kernel
theorem dX6_tellPattern_34 : decode cX6_tellPattern 34 = .ok (.iload 7, 2) := by decide +kernel
theorem dX6_tellPattern_36 : decode cX6_tellPattern 36 = .ok (.bipush 10, 2) := by decide +kernel
theorem dX6_tellPattern_38 : decode cX6_tellPattern 38 = .ok (.idiv, 1) := by decide +kernel
theorem dX6_tellPattern_39 : decode cX6_tellPattern 39 = .ok (.istore 7, 2) := by decide +kernel
theorem dX6_tellPattern_41 : decode cX6_tellPattern 41 = .ok (.aload_n 0, 1) := by decide +kernel
theorem dX6_tellPattern_42 : decode cX6_tellPattern 42 = .ok (.getfield 35, 3) := by decide +kernel
theorem dX6_tellPattern_45 : decode cX6_tellPattern 45 = .ok (.iload_n 1, 1) := by decide +kernel
theorem dX6_tellPattern_46 : decode cX6_tellPattern 46 = .ok (.iload 8, 2) := by decide +kernel
theorem dX6_tellPattern_48 : decode cX6_tellPattern 48 = .ok (.iload 9, 2) := by decide +kernel
theorem dX6_tellPattern_50 : decode cX6_tellPattern 50 = .ok (.invokevirtual 192, 3) := by decide +kernel
theorem dX6_tellPattern_53 : decode cX6_tellPattern 53 = .ok (.iload 4, 2) := by decide +kernel
theorem dX6_tellPattern_55 : decode cX6_tellPattern 55 = .ok (.getstatic 349, 3) := by decide +kernel
theorem dX6_tellPattern_58 : decode cX6_tellPattern 58 = .ok (.iload 9, 2) := by decide +kernel
theorem dX6_tellPattern_60 : decode cX6_tellPattern 60 = .ok (.invokestatic 345, 3) := by decide +kernel
theorem dX6_tellPattern_63 : decode cX6_tellPattern 63 = .ok (.iadd, 1) := by decide +kernel
theorem dX6_tellPattern_64 : decode cX6_tellPattern 64 = .ok (.istore 4, 2) := by decide +kernel
theorem dX6_tellPattern_66 : decode cX6_tellPattern 66 = .ok (.iload 5, 2) := by decide +kernel
theorem dX6_tellPattern_68 : decode cX6_tellPattern 68 = .ok (.getstatic 341, 3) := by decide +kernel
theorem dX6_tellPattern_71 : decode cX6_tellPattern 71 = .ok (.iload 9, 2) := by decide +kernel
theorem dX6_tellPattern_73 : decode cX6_tellPattern 73 = .ok (.invokestatic 345, 3) := by decide +kernel
theorem dX6_tellPattern_76 : decode cX6_tellPattern 76 = .ok (.iadd, 1) := by decide +kernel
theorem dX6_tellPattern_77 : decode cX6_tellPattern 77 = .ok (.istore 5, 2) := by decide +kernel
theorem dX6_tellPattern_79 : decode cX6_tellPattern 79 = .ok (.iload 6, 2) := by decide +kernel
theorem dX6_tellPattern_81 : decode cX6_tellPattern 81 = .ok (.getstatic 355, 3) := by decide +kernel
theorem dX6_tellPattern_84 : decode cX6_tellPattern 84 = .ok (.iload 9, 2) := by decide +kernel
theorem dX6_tellPattern_86 : decode cX6_tellPattern 86 = .ok (.invokestatic 345, 3) := by decide +kernel
theorem dX6_tellPattern_89 : decode cX6_tellPattern 89 = .ok (.iadd, 1) := by decide +kernel
theorem dX6_tellPattern_90 : decode cX6_tellPattern 90 = .ok (.istore 6, 2) := by decide +kernel
theorem dX6_tellPattern_92 : decode cX6_tellPattern 92 = .ok (.iinc 8 (-1), 3) := by decide +kernel
theorem dX6_tellPattern_95 : decode cX6_tellPattern 95 = .ok (.goto (-73), 3) := by decide +kernel
theorem dX6_tellPattern_98 : decode cX6_tellPattern 98 = .ok (.aload_n 0, 1) := by decide +kernel
theorem dX6_tellPattern_99 : decode cX6_tellPattern 99 = .ok (.getfield 32, 3) := by decide +kernel
theorem dX6_tellPattern_102 : decode cX6_tellPattern 102 = .ok (.iload_n 1, 1) := by decide +kernel
theorem dX6_tellPattern_103 : decode cX6_tellPattern 103 = .ok (.iconst 0, 1) := by decide +kernel
theorem dX6_tellPattern_104 : decode cX6_tellPattern 104 = .ok (.iload_n 2, 1) := by decide +kernel
theorem dX6_tellPattern_105 : decode cX6_tellPattern 105 = .ok (.invokevirtual 192, 3) := by decide +kernel
theorem dX6_tellPattern_108 : decode cX6_tellPattern 108 = .ok (.aload_n 0, 1) := by decide +kernel
theorem dX6_tellPattern_109 : decode cX6_tellPattern 109 = .ok (.getfield 32, 3) := by decide +kernel
theorem dX6_tellPattern_112 : decode cX6_tellPattern 112 = .ok (.iload_n 1, 1) := by decide +kernel
theorem dX6_tellPattern_113 : decode cX6_tellPattern 113 = .ok (.iconst 1, 1) := by decide +kernel
theorem dX6_tellPattern_114 : decode cX6_tellPattern 114 = .ok (.iload_n 3, 1) := by decide +kernel
theorem dX6_tellPattern_115 : decode cX6_tellPattern 115 = .ok (.invokevirtual 192, 3) := by decide +kernel
theorem dX6_tellPattern_118 : decode cX6_tellPattern 118 = .ok (.aload_n 0, 1) := by decide +kernel
theorem dX6_tellPattern_119 : decode cX6_tellPattern 119 = .ok (.getfield 32, 3) := by decide +kernel
theorem dX6_tellPattern_122 : decode cX6_tellPattern 122 = .ok (.iload_n 1, 1) := by decide +kernel
theorem dX6_tellPattern_123 : decode cX6_tellPattern 123 = .ok (.iconst 2, 1) := by decide +kernel
theorem dX6_tellPattern_124 : decode cX6_tellPattern 124 = .ok (.iload 4, 2) := by decide +kernel
theorem dX6_tellPattern_126 : decode cX6_tellPattern 126 = .ok (.invokevirtual 192, 3) := by decide +kernel
theorem dX6_tellPattern_129 : decode cX6_tellPattern 129 = .ok (.aload_n 0, 1) := by decide +kernel
theorem dX6_tellPattern_130 : decode cX6_tellPattern 130 = .ok (.getfield 32, 3) := by decide +kernel
theorem dX6_tellPattern_133 : decode cX6_tellPattern 133 = .ok (.iload_n 1, 1) := by decide +kernel
theorem dX6_tellPattern_134 : decode cX6_tellPattern 134 = .ok (.iconst 3, 1) := by decide +kernel
theorem dX6_tellPattern_135 : decode cX6_tellPattern 135 = .ok (.iload 5, 2) := by decide +kernel
theorem dX6_tellPattern_137 : decode cX6_tellPattern 137 = .ok (.invokevirtual 192, 3) := by decide +kernel
theorem dX6_tellPattern_140 : decode cX6_tellPattern 140 = .ok (.aload_n 0, 1) := by decide +kernel
theorem dX6_tellPattern_141 : decode cX6_tellPattern 141 = .ok (.getfield 32, 3) := by decide +kernel
theorem dX6_tellPattern_144 : decode cX6_tellPattern 144 = .ok (.iload_n 1, 1) := by decide +kernel
theorem dX6_tellPattern_145 : decode cX6_tellPattern 145 = .ok (.iconst 4, 1) := by decide +kernel
theorem dX6_tellPattern_146 : decode cX6_tellPattern 146 = .ok (.iload 6, 2) := by decide +kernel
theorem dX6_tellPattern_148 : decode cX6_tellPattern 148 = .ok (.invokevirtual 192, 3) := by decide +kernel
theorem dX6_tellPattern_151 : decode cX6_tellPattern 151 = .ok (.return_, 1) := by decide +kernel
theorem dX6_stepAt_0 : decode cX6_stepAt 0 = .ok (.aload_n 0, 1) := by decide +kernel
theorem dX6_stepAt_1 : decode cX6_stepAt 1 = .ok (.getfield 32, 3) := by decide +kernel
theorem dX6_stepAt_4 : decode cX6_stepAt 4 = .ok (.iload_n 1, 1) := by decide +kernel
theorem dX6_stepAt_5 : decode cX6_stepAt 5 = .ok (.iconst 1, 1) := by decide +kernel
theorem dX6_stepAt_6 : decode cX6_stepAt 6 = .ok (.invokevirtual 179, 3) := by decide +kernel
theorem dX6_stepAt_9 : decode cX6_stepAt 9 = .ok (.istore_n 3, 1) := by decide +kernel
theorem dX6_stepAt_10 : decode cX6_stepAt 10 = .ok (.iload_n 3, 1) := by decide +kernel
theorem dX6_stepAt_11 : decode cX6_stepAt 11 = .ok (.iconst 1, 1) := by decide +kernel
theorem dX6_stepAt_12 : decode cX6_stepAt 12 = .ok (.if_icmp .ge 7, 3) := by decide +kernel
theorem dX6_stepAt_15 : decode cX6_stepAt 15 = .ok (.iconst 0, 1) := by decide +kernel
theorem dX6_stepAt_16 : decode cX6_stepAt 16 = .ok (.goto 14, 3) := by decide +kernel
theorem dX6_stepAt_19 : decode cX6_stepAt 19 = .ok (.aload_n 0, 1) := by decide +kernel
theorem dX6_stepAt_20 : decode cX6_stepAt 20 = .ok (.getfield 35, 3) := by decide +kernel
theorem dX6_stepAt_23 : decode cX6_stepAt 23 = .ok (.iload_n 1, 1) := by decide +kernel
theorem dX6_stepAt_24 : decode cX6_stepAt 24 = .ok (.iload_n 2, 1) := by decide +kernel
theorem dX6_stepAt_25 : decode cX6_stepAt 25 = .ok (.iload_n 3, 1) := by decide +kernel
theorem dX6_stepAt_26 : decode cX6_stepAt 26 = .ok (.irem, 1) := by decide +kernel
theorem dX6_stepAt_27 : decode cX6_stepAt 27 = .ok (.invokevirtual 179, 3) := by decide +kernel
theorem dX6_stepAt_30 : decode cX6_stepAt 30 = .ok (.ireturn, 1) := by decide +kernel
theorem dX6_tryOut_0 : decode cX6_tryOut 0 = .ok (.aload_n 0, 1) := by decide +kernel
theorem dX6_tryOut_1 : decode cX6_tryOut 1 = .ok (.getfield 48, 3) := by decide +kernel
theorem dX6_tryOut_4 : decode cX6_tryOut 4 = .ok (.aload_n 0, 1) := by decide +kernel
theorem dX6_tryOut_5 : decode cX6_tryOut 5 = .ok (.getfield 19, 3) := by decide +kernel
theorem dX6_tryOut_8 : decode cX6_tryOut 8 = .ok (.getfield 131, 3) := by decide +kernel
theorem dX6_tryOut_11 : decode cX6_tryOut 11 = .ok (.getfield 135, 3) := by decide +kernel
theorem dX6_tryOut_14 : decode cX6_tryOut 14 = .ok (.aload_n 0, 1) := by decide +kernel
theorem dX6_tryOut_15 : decode cX6_tryOut 15 = .ok (.getfield 19, 3) := by decide +kernel
theorem dX6_tryOut_18 : decode cX6_tryOut 18 = .ok (.invokevirtual 90, 3) := by decide +kernel
theorem dX6_tryOut_21 : decode cX6_tryOut 21 = .ok (.aload_n 0, 1) := by decide +kernel
theorem dX6_tryOut_22 : decode cX6_tryOut 22 = .ok (.getfield 12, 3) := by decide +kernel
theorem dX6_tryOut_25 : decode cX6_tryOut 25 = .ok (.invokevirtual 86, 3) := by decide +kernel
theorem dX6_tryOut_28 : decode cX6_tryOut 28 = .ok (.invokevirtual 361, 3) := by decide +kernel
theorem dX6_tryOut_31 : decode cX6_tryOut 31 = .ok (.iconst 0, 1) := by decide +kernel
theorem dX6_tryOut_32 : decode cX6_tryOut 32 = .ok (.istore_n 2, 1) := by decide +kernel
theorem dX6_tryOut_33 : decode cX6_tryOut 33 = .ok (.iload_n 2, 1) := by decide +kernel
theorem dX6_tryOut_34 : decode cX6_tryOut 34 = .ok (.bipush 99, 2) := by decide +kernel
theorem dX6_tryOut_36 : decode cX6_tryOut 36 = .ok (.if_icmp .ge 28, 3) := by decide +kernel
theorem dX6_tryOut_39 : decode cX6_tryOut 39 = .ok (.aload_n 0, 1) := by decide +kernel
theorem dX6_tryOut_40 : decode cX6_tryOut 40 = .ok (.getfield 48, 3) := by decide +kernel
theorem dX6_tryOut_43 : decode cX6_tryOut 43 = .ok (.aload_n 0, 1) := by decide +kernel
theorem dX6_tryOut_44 : decode cX6_tryOut 44 = .ok (.iload_n 1, 1) := by decide +kernel
theorem dX6_tryOut_45 : decode cX6_tryOut 45 = .ok (.iload_n 2, 1) := by decide +kernel
theorem dX6_tryOut_46 : decode cX6_tryOut 46 = .ok (.invokevirtual 224, 3) := by decide +kernel
theorem dX6_tryOut_49 : decode cX6_tryOut 49 = .ok (.invokevirtual 364, 3) := by decide +kernel
theorem dX6_tryOut_52 : decode cX6_tryOut 52 = .ok (.ifCond .ne 6, 3) := by decide +kernel
theorem dX6_tryOut_55 : decode cX6_tryOut 55 = .ok (.goto 9, 3) := by decide +kernel
theorem dX6_tryOut_58 : decode cX6_tryOut 58 = .ok (.iinc 2 1, 3) := by decide +kernel
theorem dX6_tryOut_61 : decode cX6_tryOut 61 = .ok (.goto (-28), 3) := by decide +kernel
theorem dX6_tryOut_64 : decode cX6_tryOut 64 = .ok (.return_, 1) := by decide +kernel
theorem dX6_endsWhole_0 : decode cX6_endsWhole 0 = .ok (.aload_n 0, 1) := by decide +kernel
theorem dX6_endsWhole_1 : decode cX6_endsWhole 1 = .ok (.getfield 32, 3) := by decide +kernel
theorem dX6_endsWhole_4 : decode cX6_endsWhole 4 = .ok (.iload_n 1, 1) := by decide +kernel
theorem dX6_endsWhole_5 : decode cX6_endsWhole 5 = .ok (.iconst 1, 1) := by decide +kernel
theorem dX6_endsWhole_6 : decode cX6_endsWhole 6 = .ok (.invokevirtual 179, 3) := by decide +kernel
theorem dX6_endsWhole_9 : decode cX6_endsWhole 9 = .ok (.istore_n 2, 1) := by decide +kernel
theorem dX6_endsWhole_10 : decode cX6_endsWhole 10 = .ok (.iload_n 2, 1) := by decide +kernel
theorem dX6_endsWhole_11 : decode cX6_endsWhole 11 = .ok (.ifCond .le 29, 3) := by decide +kernel
theorem dX6_endsWhole_14 : decode cX6_endsWhole 14 = .ok (.aload_n 0, 1) := by decide +kernel
theorem dX6_endsWhole_15 : decode cX6_endsWhole 15 = .ok (.getfield 48, 3) := by decide +kernel
theorem dX6_endsWhole_18 : decode cX6_endsWhole 18 = .ok (.getfield 367, 3) := by decide +kernel
theorem dX6_endsWhole_21 : decode cX6_endsWhole 21 = .ok (.ifCond .ne 19, 3) := by decide +kernel
theorem dX6_endsWhole_24 : decode cX6_endsWhole 24 = .ok (.aload_n 0, 1) := by decide +kernel
theorem dX6_endsWhole_25 : decode cX6_endsWhole 25 = .ok (.getfield 48, 3) := by decide +kernel
theorem dX6_endsWhole_28 : decode cX6_endsWhole 28 = .ok (.getfield 221, 3) := by decide +kernel
theorem dX6_endsWhole_31 : decode cX6_endsWhole 31 = .ok (.iload_n 2, 1) := by decide +kernel
theorem dX6_endsWhole_32 : decode cX6_endsWhole 32 = .ok (.irem, 1) := by decide +kernel
theorem dX6_endsWhole_33 : decode cX6_endsWhole 33 = .ok (.ifCond .ne 7, 3) := by decide +kernel
theorem dX6_endsWhole_36 : decode cX6_endsWhole 36 = .ok (.iconst 1, 1) := by decide +kernel
theorem dX6_endsWhole_37 : decode cX6_endsWhole 37 = .ok (.goto 4, 3) := by decide +kernel
theorem dX6_endsWhole_40 : decode cX6_endsWhole 40 = .ok (.iconst 0, 1) := by decide +kernel
theorem dX6_endsWhole_41 : decode cX6_endsWhole 41 = .ok (.ireturn, 1) := by decide +kernel
theorem dX6_bestPattern_0 : decode cX6_bestPattern 0 = .ok (.aload_n 0, 1) := by decide +kernel
theorem dX6_bestPattern_1 : decode cX6_bestPattern 1 = .ok (.getfield 19, 3) := by decide +kernel
theorem dX6_bestPattern_4 : decode cX6_bestPattern 4 = .ok (.getfield 131, 3) := by decide +kernel
theorem dX6_bestPattern_7 : decode cX6_bestPattern 7 = .ok (.getfield 135, 3) := by decide +kernel
theorem dX6_bestPattern_10 : decode cX6_bestPattern 10 = .ok (.iconst 1, 1) := by decide +kernel
theorem dX6_bestPattern_11 : decode cX6_bestPattern 11 = .ok (.if_icmp .ge 5, 3) := by decide +kernel
theorem dX6_bestPattern_14 : decode cX6_bestPattern 14 = .ok (.iconst (-1), 1) := by decide +kernel
theorem dX6_bestPattern_15 : decode cX6_bestPattern 15 = .ok (.ireturn, 1) := by decide +kernel
theorem dX6_bestPattern_16 : decode cX6_bestPattern 16 = .ok (.iconst (-1), 1) := by decide +kernel
theorem dX6_bestPattern_17 : decode cX6_bestPattern 17 = .ok (.istore_n 1, 1) := by decide +kernel
theorem dX6_bestPattern_18 : decode cX6_bestPattern 18 = .ok (.iconst 0, 1) := by decide +kernel
theorem dX6_bestPattern_19 : decode cX6_bestPattern 19 = .ok (.istore_n 2, 1) := by decide +kernel
theorem dX6_bestPattern_20 : decode cX6_bestPattern 20 = .ok (.iconst 0, 1) := by decide +kernel
theorem dX6_bestPattern_21 : decode cX6_bestPattern 21 = .ok (.istore_n 3, 1) := by decide +kernel
theorem dX6_bestPattern_22 : decode cX6_bestPattern 22 = .ok (.iload_n 3, 1) := by decide +kernel
theorem dX6_bestPattern_23 : decode cX6_bestPattern 23 = .ok (.aload_n 0, 1) := by decide +kernel
theorem dX6_bestPattern_24 : decode cX6_bestPattern 24 = .ok (.getfield 204, 3) := by decide +kernel
theorem dX6_bestPattern_27 : decode cX6_bestPattern 27 = .ok (.if_icmp .ge 48, 3) := by decide +kernel
theorem dX6_bestPattern_30 : decode cX6_bestPattern 30 = .ok (.aload_n 0, 1) := by decide +kernel
theorem dX6_bestPattern_31 : decode cX6_bestPattern 31 = .ok (.iload_n 3, 1) := by decide +kernel
theorem dX6_bestPattern_32 : decode cX6_bestPattern 32 = .ok (.invokevirtual 218, 3) := by decide +kernel
theorem dX6_bestPattern_35 : decode cX6_bestPattern 35 = .ok (.aload_n 0, 1) := by decide +kernel
theorem dX6_bestPattern_36 : decode cX6_bestPattern 36 = .ok (.iload_n 3, 1) := by decide +kernel
theorem dX6_bestPattern_37 : decode cX6_bestPattern 37 = .ok (.invokevirtual 370, 3) := by decide +kernel
theorem dX6_bestPattern_40 : decode cX6_bestPattern 40 = .ok (.ifCond .eq 29, 3) := by decide +kernel
theorem dX6_bestPattern_43 : decode cX6_bestPattern 43 = .ok (.iload_n 1, 1) := by decide +kernel
theorem dX6_bestPattern_44 : decode cX6_bestPattern 44 = .ok (.iconst (-1), 1) := by decide +kernel
theorem dX6_bestPattern_45 : decode cX6_bestPattern 45 = .ok (.if_icmp .eq 14, 3) := by decide +kernel
theorem dX6_bestPattern_48 : decode cX6_bestPattern 48 = .ok (.aload_n 0, 1) := by decide +kernel
theorem dX6_bestPattern_49 : decode cX6_bestPattern 49 = .ok (.getfield 48, 3) := by decide +kernel
theorem dX6_bestPattern_52 : decode cX6_bestPattern 52 = .ok (.getfield 288, 3) := by decide +kernel
theorem dX6_bestPattern_55 : decode cX6_bestPattern 55 = .ok (.iload_n 2, 1) := by decide +kernel
theorem dX6_bestPattern_56 : decode cX6_bestPattern 56 = .ok (.if_icmp .ge 13, 3) := by decide +kernel
theorem dX6_bestPattern_59 : decode cX6_bestPattern 59 = .ok (.iload_n 3, 1) := by decide +kernel
theorem dX6_bestPattern_60 : decode cX6_bestPattern 60 = .ok (.istore_n 1, 1) := by decide +kernel
theorem dX6_bestPattern_61 : decode cX6_bestPattern 61 = .ok (.aload_n 0, 1) := by decide +kernel
theorem dX6_bestPattern_62 : decode cX6_bestPattern 62 = .ok (.getfield 48, 3) := by decide +kernel
theorem dX6_bestPattern_65 : decode cX6_bestPattern 65 = .ok (.getfield 288, 3) := by decide +kernel
theorem dX6_bestPattern_68 : decode cX6_bestPattern 68 = .ok (.istore_n 2, 1) := by decide +kernel
theorem dX6_bestPattern_69 : decode cX6_bestPattern 69 = .ok (.iinc 3 1, 3) := by decide +kernel
theorem dX6_bestPattern_72 : decode cX6_bestPattern 72 = .ok (.goto (-50), 3) := by decide +kernel
theorem dX6_bestPattern_75 : decode cX6_bestPattern 75 = .ok (.iload_n 1, 1) := by decide +kernel
theorem dX6_bestPattern_76 : decode cX6_bestPattern 76 = .ok (.ireturn, 1) := by decide +kernel
theorem dX6_needle_0 : decode cX6_needle 0 = .ok (.iload_n 1, 1) := by decide +kernel
theorem dX6_needle_1 : decode cX6_needle 1 = .ok (.ifCond .eq 13, 3) := by decide +kernel
theorem dX6_needle_4 : decode cX6_needle 4 = .ok (.aload_n 0, 1) := by decide +kernel
theorem dX6_needle_5 : decode cX6_needle 5 = .ok (.getfield 19, 3) := by decide +kernel
theorem dX6_needle_8 : decode cX6_needle 8 = .ok (.getfield 148, 3) := by decide +kernel
theorem dX6_needle_11 : decode cX6_needle 11 = .ok (.goto 10, 3) := by decide +kernel
theorem dX6_needle_14 : decode cX6_needle 14 = .ok (.aload_n 0, 1) := by decide +kernel
theorem dX6_needle_15 : decode cX6_needle 15 = .ok (.getfield 19, 3) := by decide +kernel
theorem dX6_needle_18 : decode cX6_needle 18 = .ok (.getfield 131, 3) := by decide +kernel
theorem dX6_needle_21 : decode cX6_needle 21 = .ok (.areturn, 1) := by decide +kernel
theorem dX6_loopFact_0 : decode cX6_loopFact 0 = .ok (.iload_n 2, 1) := by decide +kernel
theorem dX6_loopFact_1 : decode cX6_loopFact 1 = .ok (.iconst 5, 1) := by decide +kernel
