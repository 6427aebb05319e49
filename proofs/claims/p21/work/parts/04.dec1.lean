theorem dX0_init_0 : decode cX0_init 0 = .ok (.aload_n 0, 1) := by decide +kernel
theorem dX0_init_1 : decode cX0_init 1 = .ok (.invokespecial 3, 3) := by decide +kernel
theorem dX0_init_4 : decode cX0_init 4 = .ok (.aload_n 0, 1) := by decide +kernel
theorem dX0_init_5 : decode cX0_init 5 = .ok (.iconst 4, 1) := by decide +kernel
theorem dX0_init_6 : decode cX0_init 6 = .ok (.newarray .int, 2) := by decide +kernel
theorem dX0_init_8 : decode cX0_init 8 = .ok (.putfield 9, 3) := by decide +kernel
theorem dX0_init_11 : decode cX0_init 11 = .ok (.aload_n 0, 1) := by decide +kernel
theorem dX0_init_12 : decode cX0_init 12 = .ok (.iconst (-1), 1) := by decide +kernel
theorem dX0_init_13 : decode cX0_init 13 = .ok (.putfield 15, 3) := by decide +kernel
theorem dX0_init_16 : decode cX0_init 16 = .ok (.return_, 1) := by decide +kernel
theorem dX0_has_0 : decode cX0_has 0 = .ok (.iload_n 1, 1) := by decide +kernel
theorem dX0_has_1 : decode cX0_has 1 = .ok (.ifCond .lt 24, 3) := by decide +kernel
theorem dX0_has_4 : decode cX0_has 4 = .ok (.iload_n 1, 1) := by decide +kernel
theorem dX0_has_5 : decode cX0_has 5 = .ok (.aload_n 0, 1) := by decide +kernel
theorem dX0_has_6 : decode cX0_has 6 = .ok (.getfield 19, 3) := by decide +kernel
theorem dX0_has_9 : decode cX0_has 9 = .ok (.if_icmp .ge 16, 3) := by decide +kernel
theorem dX0_has_12 : decode cX0_has 12 = .ok (.iload_n 1, 1) := by decide +kernel
theorem dX0_has_13 : decode cX0_has 13 = .ok (.aload_n 0, 1) := by decide +kernel
theorem dX0_has_14 : decode cX0_has 14 = .ok (.getfield 9, 3) := by decide +kernel
theorem dX0_has_17 : decode cX0_has 17 = .ok (.arraylength, 1) := by decide +kernel
theorem dX0_has_18 : decode cX0_has 18 = .ok (.if_icmp .ge 7, 3) := by decide +kernel
theorem dX0_has_21 : decode cX0_has 21 = .ok (.iconst 1, 1) := by decide +kernel
theorem dX0_has_22 : decode cX0_has 22 = .ok (.goto 4, 3) := by decide +kernel
theorem dX0_has_25 : decode cX0_has 25 = .ok (.iconst 0, 1) := by decide +kernel
theorem dX0_has_26 : decode cX0_has 26 = .ok (.ireturn, 1) := by decide +kernel
theorem dX0_add_0 : decode cX0_add 0 = .ok (.aload_n 0, 1) := by decide +kernel
theorem dX0_add_1 : decode cX0_add 1 = .ok (.getfield 19, 3) := by decide +kernel
theorem dX0_add_4 : decode cX0_add 4 = .ok (.istore_n 2, 1) := by decide +kernel
theorem dX0_add_5 : decode cX0_add 5 = .ok (.iload_n 2, 1) := by decide +kernel
theorem dX0_add_6 : decode cX0_add 6 = .ok (.ifCond .lt 12, 3) := by decide +kernel
theorem dX0_add_9 : decode cX0_add 9 = .ok (.iload_n 2, 1) := by decide +kernel
theorem dX0_add_10 : decode cX0_add 10 = .ok (.aload_n 0, 1) := by decide +kernel
theorem dX0_add_11 : decode cX0_add 11 = .ok (.getfield 9, 3) := by decide +kernel
theorem dX0_add_14 : decode cX0_add 14 = .ok (.arraylength, 1) := by decide +kernel
theorem dX0_add_15 : decode cX0_add 15 = .ok (.if_icmp .lt 5, 3) := by decide +kernel
theorem dX0_add_18 : decode cX0_add 18 = .ok (.iconst (-1), 1) := by decide +kernel
theorem dX0_add_19 : decode cX0_add 19 = .ok (.ireturn, 1) := by decide +kernel
theorem dX0_add_20 : decode cX0_add 20 = .ok (.aload_n 0, 1) := by decide +kernel
theorem dX0_add_21 : decode cX0_add 21 = .ok (.getfield 9, 3) := by decide +kernel
theorem dX0_add_24 : decode cX0_add 24 = .ok (.iload_n 2, 1) := by decide +kernel
theorem dX0_add_25 : decode cX0_add 25 = .ok (.iload_n 1, 1) := by decide +kernel
theorem dX0_add_26 : decode cX0_add 26 = .ok (.iastore, 1) := by decide +kernel
theorem dX0_add_27 : decode cX0_add 27 = .ok (.aload_n 0, 1) := by decide +kernel
theorem dX0_add_28 : decode cX0_add 28 = .ok (.dup, 1) := by decide +kernel
theorem dX0_add_29 : decode cX0_add 29 = .ok (.getfield 19, 3) := by decide +kernel
theorem dX0_add_32 : decode cX0_add 32 = .ok (.iconst 1, 1) := by decide +kernel
theorem dX0_add_33 : decode cX0_add 33 = .ok (.iadd, 1) := by decide +kernel
theorem dX0_add_34 : decode cX0_add 34 = .ok (.putfield 19, 3) := by decide +kernel
theorem dX0_add_37 : decode cX0_add 37 = .ok (.iload_n 2, 1) := by decide +kernel
theorem dX0_add_38 : decode cX0_add 38 = .ok (.ireturn, 1) := by decide +kernel
theorem dX0_of_0 : decode cX0_of 0 = .ok (.aload_n 0, 1) := by decide +kernel
theorem dX0_of_1 : decode cX0_of 1 = .ok (.iload_n 1, 1) := by decide +kernel
theorem dX0_of_2 : decode cX0_of 2 = .ok (.invokevirtual 22, 3) := by decide +kernel
theorem dX0_of_5 : decode cX0_of 5 = .ok (.ifCond .eq 12, 3) := by decide +kernel
theorem dX0_of_8 : decode cX0_of 8 = .ok (.aload_n 0, 1) := by decide +kernel
theorem dX0_of_9 : decode cX0_of 9 = .ok (.getfield 9, 3) := by decide +kernel
theorem dX0_of_12 : decode cX0_of 12 = .ok (.iload_n 1, 1) := by decide +kernel
theorem dX0_of_13 : decode cX0_of 13 = .ok (.iaload, 1) := by decide +kernel
theorem dX0_of_14 : decode cX0_of 14 = .ok (.goto 4, 3) := by decide +kernel
theorem dX0_of_17 : decode cX0_of 17 = .ok (.iconst 0, 1) := by decide +kernel
theorem dX0_of_18 : decode cX0_of 18 = .ok (.ireturn, 1) := by decide +kernel
theorem dX0_set_0 : decode cX0_set 0 = .ok (.aload_n 0, 1) := by decide +kernel
theorem dX0_set_1 : decode cX0_set 1 = .ok (.iload_n 1, 1) := by decide +kernel
theorem dX0_set_2 : decode cX0_set 2 = .ok (.invokevirtual 22, 3) := by decide +kernel
theorem dX0_set_5 : decode cX0_set 5 = .ok (.ifCond .eq 10, 3) := by decide +kernel
theorem dX0_set_8 : decode cX0_set 8 = .ok (.aload_n 0, 1) := by decide +kernel
theorem dX0_set_9 : decode cX0_set 9 = .ok (.getfield 9, 3) := by decide +kernel
theorem dX0_set_12 : decode cX0_set 12 = .ok (.iload_n 1, 1) := by decide +kernel
theorem dX0_set_13 : decode cX0_set 13 = .ok (.iload_n 2, 1) := by decide +kernel
theorem dX0_set_14 : decode cX0_set 14 = .ok (.iastore, 1) := by decide +kernel
theorem dX0_set_15 : decode cX0_set 15 = .ok (.return_, 1) := by decide +kernel
theorem dX0_ofJoined_0 : decode cX0_ofJoined 0 = .ok (.aload_n 0, 1) := by decide +kernel
theorem dX0_ofJoined_1 : decode cX0_ofJoined 1 = .ok (.aload_n 0, 1) := by decide +kernel
theorem dX0_ofJoined_2 : decode cX0_ofJoined 2 = .ok (.getfield 15, 3) := by decide +kernel
theorem dX0_ofJoined_5 : decode cX0_ofJoined 5 = .ok (.invokevirtual 26, 3) := by decide +kernel
theorem dX0_ofJoined_8 : decode cX0_ofJoined 8 = .ok (.ireturn, 1) := by decide +kernel
theorem dX0_spend_0 : decode cX0_spend 0 = .ok (.aload_n 0, 1) := by decide +kernel
theorem dX0_spend_1 : decode cX0_spend 1 = .ok (.aload_n 0, 1) := by decide +kernel
theorem dX0_spend_2 : decode cX0_spend 2 = .ok (.getfield 15, 3) := by decide +kernel
theorem dX0_spend_5 : decode cX0_spend 5 = .ok (.aload_n 0, 1) := by decide +kernel
theorem dX0_spend_6 : decode cX0_spend 6 = .ok (.aload_n 0, 1) := by decide +kernel
theorem dX0_spend_7 : decode cX0_spend 7 = .ok (.getfield 15, 3) := by decide +kernel
theorem dX0_spend_10 : decode cX0_spend 10 = .ok (.invokevirtual 26, 3) := by decide +kernel
theorem dX0_spend_13 : decode cX0_spend 13 = .ok (.iload_n 1, 1) := by decide +kernel
theorem dX0_spend_14 : decode cX0_spend 14 = .ok (.isub, 1) := by decide +kernel
theorem dX0_spend_15 : decode cX0_spend 15 = .ok (.invokevirtual 30, 3) := by decide +kernel
theorem dX0_spend_18 : decode cX0_spend 18 = .ok (.return_, 1) := by decide +kernel
theorem dX0_ofAll_0 : decode cX0_ofAll 0 = .ok (.iconst 0, 1) := by decide +kernel
theorem dX0_ofAll_1 : decode cX0_ofAll 1 = .ok (.istore_n 1, 1) := by decide +kernel
theorem dX0_ofAll_2 : decode cX0_ofAll 2 = .ok (.iconst 0, 1) := by decide +kernel
theorem dX0_ofAll_3 : decode cX0_ofAll 3 = .ok (.istore_n 2, 1) := by decide +kernel
theorem dX0_ofAll_4 : decode cX0_ofAll 4 = .ok (.iload_n 2, 1) := by decide +kernel
theorem dX0_ofAll_5 : decode cX0_ofAll 5 = .ok (.aload_n 0, 1) := by decide +kernel
theorem dX0_ofAll_6 : decode cX0_ofAll 6 = .ok (.getfield 19, 3) := by decide +kernel
theorem dX0_ofAll_9 : decode cX0_ofAll 9 = .ok (.if_icmp .ge 17, 3) := by decide +kernel
theorem dX0_ofAll_12 : decode cX0_ofAll 12 = .ok (.iload_n 1, 1) := by decide +kernel
theorem dX0_ofAll_13 : decode cX0_ofAll 13 = .ok (.aload_n 0, 1) := by decide +kernel
theorem dX0_ofAll_14 : decode cX0_ofAll 14 = .ok (.iload_n 2, 1) := by decide +kernel
theorem dX0_ofAll_15 : decode cX0_ofAll 15 = .ok (.invokevirtual 26, 3) := by decide +kernel
theorem dX0_ofAll_18 : decode cX0_ofAll 18 = .ok (.iadd, 1) := by decide +kernel
theorem dX0_ofAll_19 : decode cX0_ofAll 19 = .ok (.istore_n 1, 1) := by decide +kernel
theorem dX0_ofAll_20 : decode cX0_ofAll 20 = .ok (.iinc 2 1, 3) := by decide +kernel
theorem dX0_ofAll_23 : decode cX0_ofAll 23 = .ok (.goto (-19), 3) := by decide +kernel
theorem dX0_ofAll_26 : decode cX0_ofAll 26 = .ok (.iload_n 1, 1) := by decide +kernel
theorem dX0_ofAll_27 : decode cX0_ofAll 27 = .ok (.ireturn, 1) := by decide +kernel
theorem dX1_init_0 : decode cX1_init 0 = .ok (.aload_n 0, 1) := by decide +kernel
theorem dX1_init_1 : decode cX1_init 1 = .ok (.invokespecial 3, 3) := by decide +kernel
theorem dX1_init_4 : decode cX1_init 4 = .ok (.aload_n 0, 1) := by decide +kernel
theorem dX1_init_5 : decode cX1_init 5 = .ok (.bipush 12, 2) := by decide +kernel
theorem dX1_init_7 : decode cX1_init 7 = .ok (.anewarray 9, 3) := by decide +kernel
theorem dX1_init_10 : decode cX1_init 10 = .ok (.putfield 11, 3) := by decide +kernel
theorem dX1_init_13 : decode cX1_init 13 = .ok (.aload_n 0, 1) := by decide +kernel
theorem dX1_init_14 : decode cX1_init 14 = .ok (.bipush 12, 2) := by decide +kernel
theorem dX1_init_16 : decode cX1_init 16 = .ok (.newarray .int, 2) := by decide +kernel
theorem dX1_init_18 : decode cX1_init 18 = .ok (.putfield 17, 3) := by decide +kernel
theorem dX1_init_21 : decode cX1_init 21 = .ok (.aload_n 0, 1) := by decide +kernel
theorem dX1_init_22 : decode cX1_init 22 = .ok (.bipush 12, 2) := by decide +kernel
theorem dX1_init_24 : decode cX1_init 24 = .ok (.newarray .int, 2) := by decide +kernel
theorem dX1_init_26 : decode cX1_init 26 = .ok (.putfield 21, 3) := by decide +kernel
theorem dX1_init_29 : decode cX1_init 29 = .ok (.iconst 0, 1) := by decide +kernel
theorem dX1_init_30 : decode cX1_init 30 = .ok (.istore_n 1, 1) := by decide +kernel
theorem dX1_init_31 : decode cX1_init 31 = .ok (.iload_n 1, 1) := by decide +kernel
theorem dX1_init_32 : decode cX1_init 32 = .ok (.aload_n 0, 1) := by decide +kernel
theorem dX1_init_33 : decode cX1_init 33 = .ok (.getfield 11, 3) := by decide +kernel
theorem dX1_init_36 : decode cX1_init 36 = .ok (.arraylength, 1) := by decide +kernel
theorem dX1_init_37 : decode cX1_init 37 = .ok (.if_icmp .ge 22, 3) := by decide +kernel
theorem dX1_init_40 : decode cX1_init 40 = .ok (.aload_n 0, 1) := by decide +kernel
theorem dX1_init_41 : decode cX1_init 41 = .ok (.getfield 11, 3) := by decide +kernel
theorem dX1_init_44 : decode cX1_init 44 = .ok (.iload_n 1, 1) := by decide +kernel
theorem dX1_init_45 : decode cX1_init 45 = .ok (.new 9, 3) := by decide +kernel
theorem dX1_init_48 : decode cX1_init 48 = .ok (.dup, 1) := by decide +kernel
theorem dX1_init_49 : decode cX1_init 49 = .ok (.invokespecial 24, 3) := by decide +kernel
theorem dX1_init_52 : decode cX1_init 52 = .ok (.aastore, 1) := by decide +kernel
theorem dX1_init_53 : decode cX1_init 53 = .ok (.iinc 1 1, 3) := by decide +kernel
theorem dX1_init_56 : decode cX1_init 56 = .ok (.goto (-25), 3) := by decide +kernel
theorem dX1_init_59 : decode cX1_init 59 = .ok (.return_, 1) := by decide +kernel
theorem dX1_isSlot_0 : decode cX1_isSlot 0 = .ok (.iload_n 1, 1) := by decide +kernel
theorem dX1_isSlot_1 : decode cX1_isSlot 1 = .ok (.ifCond .lt 34, 3) := by decide +kernel
theorem dX1_isSlot_4 : decode cX1_isSlot 4 = .ok (.iload_n 1, 1) := by decide +kernel
theorem dX1_isSlot_5 : decode cX1_isSlot 5 = .ok (.aload_n 0, 1) := by decide +kernel
theorem dX1_isSlot_6 : decode cX1_isSlot 6 = .ok (.getfield 11, 3) := by decide +kernel
theorem dX1_isSlot_9 : decode cX1_isSlot 9 = .ok (.arraylength, 1) := by decide +kernel
theorem dX1_isSlot_10 : decode cX1_isSlot 10 = .ok (.if_icmp .ge 25, 3) := by decide +kernel
theorem dX1_isSlot_13 : decode cX1_isSlot 13 = .ok (.iload_n 1, 1) := by decide +kernel
theorem dX1_isSlot_14 : decode cX1_isSlot 14 = .ok (.aload_n 0, 1) := by decide +kernel
theorem dX1_isSlot_15 : decode cX1_isSlot 15 = .ok (.getfield 17, 3) := by decide +kernel
theorem dX1_isSlot_18 : decode cX1_isSlot 18 = .ok (.arraylength, 1) := by decide +kernel
theorem dX1_isSlot_19 : decode cX1_isSlot 19 = .ok (.if_icmp .ge 16, 3) := by decide +kernel
theorem dX1_isSlot_22 : decode cX1_isSlot 22 = .ok (.iload_n 1, 1) := by decide +kernel
theorem dX1_isSlot_23 : decode cX1_isSlot 23 = .ok (.aload_n 0, 1) := by decide +kernel
theorem dX1_isSlot_24 : decode cX1_isSlot 24 = .ok (.getfield 21, 3) := by decide +kernel
theorem dX1_isSlot_27 : decode cX1_isSlot 27 = .ok (.arraylength, 1) := by decide +kernel
theorem dX1_isSlot_28 : decode cX1_isSlot 28 = .ok (.if_icmp .ge 7, 3) := by decide +kernel
theorem dX1_isSlot_31 : decode cX1_isSlot 31 = .ok (.iconst 1, 1) := by decide +kernel
theorem dX1_isSlot_32 : decode cX1_isSlot 32 = .ok (.goto 4, 3) := by decide +kernel
theorem dX1_isSlot_35 : decode cX1_isSlot 35 = .ok (.iconst 0, 1) := by decide +kernel
theorem dX1_isSlot_36 : decode cX1_isSlot 36 = .ok (.ireturn, 1) := by decide +kernel
theorem dX1_keep_0 : decode cX1_keep 0 = .ok (.aload_n 0, 1) := by decide +kernel
theorem dX1_keep_1 : decode cX1_keep 1 = .ok (.aload_n 0, 1) := by decide +kernel
theorem dX1_keep_2 : decode cX1_keep 2 = .ok (.getfield 25, 3) := by decide +kernel
theorem dX1_keep_5 : decode cX1_keep 5 = .ok (.invokevirtual 29, 3) := by decide +kernel
theorem dX1_keep_8 : decode cX1_keep 8 = .ok (.ifCond .eq 15, 3) := by decide +kernel
theorem dX1_keep_11 : decode cX1_keep 11 = .ok (.aload_n 0, 1) := by decide +kernel
theorem dX1_keep_12 : decode cX1_keep 12 = .ok (.getfield 11, 3) := by decide +kernel
theorem dX1_keep_15 : decode cX1_keep 15 = .ok (.aload_n 0, 1) := by decide +kernel
theorem dX1_keep_16 : decode cX1_keep 16 = .ok (.getfield 25, 3) := by decide +kernel
theorem dX1_keep_19 : decode cX1_keep 19 = .ok (.aaload, 1) := by decide +kernel
theorem dX1_keep_20 : decode cX1_keep 20 = .ok (.ifnonnull 4, 3) := by decide +kernel
theorem dX1_keep_23 : decode cX1_keep 23 = .ok (.return_, 1) := by decide +kernel
theorem dX1_keep_24 : decode cX1_keep 24 = .ok (.aload_n 0, 1) := by decide +kernel
theorem dX1_keep_25 : decode cX1_keep 25 = .ok (.getfield 11, 3) := by decide +kernel
theorem dX1_keep_28 : decode cX1_keep 28 = .ok (.aload_n 0, 1) := by decide +kernel
theorem dX1_keep_29 : decode cX1_keep 29 = .ok (.getfield 25, 3) := by decide +kernel
theorem dX1_keep_32 : decode cX1_keep 32 = .ok (.aaload, 1) := by decide +kernel
theorem dX1_keep_33 : decode cX1_keep 33 = .ok (.aload_n 1, 1) := by decide +kernel
theorem dX1_keep_34 : decode cX1_keep 34 = .ok (.invokevirtual 33, 3) := by decide +kernel
theorem dX1_keep_37 : decode cX1_keep 37 = .ok (.aload_n 0, 1) := by decide +kernel
theorem dX1_keep_38 : decode cX1_keep 38 = .ok (.getfield 17, 3) := by decide +kernel
theorem dX1_keep_41 : decode cX1_keep 41 = .ok (.aload_n 0, 1) := by decide +kernel
theorem dX1_keep_42 : decode cX1_keep 42 = .ok (.getfield 25, 3) := by decide +kernel
theorem dX1_keep_45 : decode cX1_keep 45 = .ok (.aload_n 2, 1) := by decide +kernel
theorem dX1_keep_46 : decode cX1_keep 46 = .ok (.getfield 37, 3) := by decide +kernel
theorem dX1_keep_49 : decode cX1_keep 49 = .ok (.iastore, 1) := by decide +kernel
theorem dX1_keep_50 : decode cX1_keep 50 = .ok (.aload_n 0, 1) := by decide +kernel
theorem dX1_keep_51 : decode cX1_keep 51 = .ok (.getfield 21, 3) := by decide +kernel
theorem dX1_keep_54 : decode cX1_keep 54 = .ok (.aload_n 0, 1) := by decide +kernel
theorem dX1_keep_55 : decode cX1_keep 55 = .ok (.getfield 25, 3) := by decide +kernel
theorem dX1_keep_58 : decode cX1_keep 58 = .ok (.aload_n 2, 1) := by decide +kernel
theorem dX1_keep_59 : decode cX1_keep 59 = .ok (.invokevirtual 42, 3) := by decide +kernel
theorem dX1_keep_62 : decode cX1_keep 62 = .ok (.iastore, 1) := by decide +kernel
theorem dX1_keep_63 : decode cX1_keep 63 = .ok (.aload_n 0, 1) := by decide +kernel
theorem dX1_keep_64 : decode cX1_keep 64 = .ok (.aload_n 0, 1) := by decide +kernel
theorem dX1_keep_65 : decode cX1_keep 65 = .ok (.getfield 25, 3) := by decide +kernel
theorem dX1_keep_68 : decode cX1_keep 68 = .ok (.iconst 1, 1) := by decide +kernel
theorem dX1_keep_69 : decode cX1_keep 69 = .ok (.iadd, 1) := by decide +kernel
theorem dX1_keep_70 : decode cX1_keep 70 = .ok (.bipush 12, 2) := by decide +kernel
theorem dX1_keep_72 : decode cX1_keep 72 = .ok (.if_icmp .ge 12, 3) := by decide +kernel
theorem dX1_keep_75 : decode cX1_keep 75 = .ok (.aload_n 0, 1) := by decide +kernel
theorem dX1_keep_76 : decode cX1_keep 76 = .ok (.getfield 25, 3) := by decide +kernel
theorem dX1_keep_79 : decode cX1_keep 79 = .ok (.iconst 1, 1) := by decide +kernel
theorem dX1_keep_80 : decode cX1_keep 80 = .ok (.iadd, 1) := by decide +kernel
theorem dX1_keep_81 : decode cX1_keep 81 = .ok (.goto 4, 3) := by decide +kernel
theorem dX1_keep_84 : decode cX1_keep 84 = .ok (.iconst 0, 1) := by decide +kernel
theorem dX1_keep_85 : decode cX1_keep 85 = .ok (.putfield 25, 3) := by decide +kernel
theorem dX1_keep_88 : decode cX1_keep 88 = .ok (.aload_n 0, 1) := by decide +kernel
theorem dX1_keep_89 : decode cX1_keep 89 = .ok (.aload_n 0, 1) := by decide +kernel
theorem dX1_keep_90 : decode cX1_keep 90 = .ok (.getfield 46, 3) := by decide +kernel
theorem dX1_keep_93 : decode cX1_keep 93 = .ok (.iconst 1, 1) := by decide +kernel
theorem dX1_keep_94 : decode cX1_keep 94 = .ok (.iadd, 1) := by decide +kernel
theorem dX1_keep_95 : decode cX1_keep 95 = .ok (.bipush 12, 2) := by decide +kernel
theorem dX1_keep_97 : decode cX1_keep 97 = .ok (.invokestatic 49, 3) := by decide +kernel
theorem dX1_keep_100 : decode cX1_keep 100 = .ok (.putfield 46, 3) := by decide +kernel
theorem dX1_keep_103 : decode cX1_keep 103 = .ok (.return_, 1) := by decide +kernel
theorem dX1_bringBack_0 : decode cX1_bringBack 0 = .ok (.aload_n 0, 1) := by decide +kernel
theorem dX1_bringBack_1 : decode cX1_bringBack 1 = .ok (.getfield 25, 3) := by decide +kernel
theorem dX1_bringBack_4 : decode cX1_bringBack 4 = .ok (.ifCond .le 12, 3) := by decide +kernel
theorem dX1_bringBack_7 : decode cX1_bringBack 7 = .ok (.aload_n 0, 1) := by decide +kernel
theorem dX1_bringBack_8 : decode cX1_bringBack 8 = .ok (.getfield 25, 3) := by decide +kernel
theorem dX1_bringBack_11 : decode cX1_bringBack 11 = .ok (.iconst 1, 1) := by decide +kernel
theorem dX1_bringBack_12 : decode cX1_bringBack 12 = .ok (.isub, 1) := by decide +kernel
theorem dX1_bringBack_13 : decode cX1_bringBack 13 = .ok (.goto 5, 3) := by decide +kernel
theorem dX1_bringBack_16 : decode cX1_bringBack 16 = .ok (.bipush 11, 2) := by decide +kernel
theorem dX1_bringBack_18 : decode cX1_bringBack 18 = .ok (.istore_n 3, 1) := by decide +kernel
theorem dX1_bringBack_19 : decode cX1_bringBack 19 = .ok (.aload_n 0, 1) := by decide +kernel
theorem dX1_bringBack_20 : decode cX1_bringBack 20 = .ok (.getfield 46, 3) := by decide +kernel
theorem dX1_bringBack_23 : decode cX1_bringBack 23 = .ok (.iconst 1, 1) := by decide +kernel
theorem dX1_bringBack_24 : decode cX1_bringBack 24 = .ok (.if_icmp .lt 20, 3) := by decide +kernel
theorem dX1_bringBack_27 : decode cX1_bringBack 27 = .ok (.aload_n 0, 1) := by decide +kernel
theorem dX1_bringBack_28 : decode cX1_bringBack 28 = .ok (.iload_n 3, 1) := by decide +kernel
theorem dX1_bringBack_29 : decode cX1_bringBack 29 = .ok (.invokevirtual 29, 3) := by decide +kernel
theorem dX1_bringBack_32 : decode cX1_bringBack 32 = .ok (.ifCond .eq 12, 3) := by decide +kernel
theorem dX1_bringBack_35 : decode cX1_bringBack 35 = .ok (.aload_n 0, 1) := by decide +kernel
theorem dX1_bringBack_36 : decode cX1_bringBack 36 = .ok (.getfield 11, 3) := by decide +kernel
theorem dX1_bringBack_39 : decode cX1_bringBack 39 = .ok (.iload_n 3, 1) := by decide +kernel
theorem dX1_bringBack_40 : decode cX1_bringBack 40 = .ok (.aaload, 1) := by decide +kernel
theorem dX1_bringBack_41 : decode cX1_bringBack 41 = .ok (.ifnonnull 4, 3) := by decide +kernel
theorem dX1_bringBack_44 : decode cX1_bringBack 44 = .ok (.return_, 1) := by decide +kernel
theorem dX1_bringBack_45 : decode cX1_bringBack 45 = .ok (.aload_n 1, 1) := by decide +kernel
theorem dX1_bringBack_46 : decode cX1_bringBack 46 = .ok (.aload_n 0, 1) := by decide +kernel
theorem dX1_bringBack_47 : decode cX1_bringBack 47 = .ok (.getfield 11, 3) := by decide +kernel
theorem dX1_bringBack_50 : decode cX1_bringBack 50 = .ok (.iload_n 3, 1) := by decide +kernel
theorem dX1_bringBack_51 : decode cX1_bringBack 51 = .ok (.aaload, 1) := by decide +kernel
theorem dX1_bringBack_52 : decode cX1_bringBack 52 = .ok (.invokevirtual 33, 3) := by decide +kernel
theorem dX1_bringBack_55 : decode cX1_bringBack 55 = .ok (.aload_n 2, 1) := by decide +kernel
theorem dX1_bringBack_56 : decode cX1_bringBack 56 = .ok (.aload_n 0, 1) := by decide +kernel
theorem dX1_bringBack_57 : decode cX1_bringBack 57 = .ok (.getfield 17, 3) := by decide +kernel
theorem dX1_bringBack_60 : decode cX1_bringBack 60 = .ok (.iload_n 3, 1) := by decide +kernel
theorem dX1_bringBack_61 : decode cX1_bringBack 61 = .ok (.iaload, 1) := by decide +kernel
theorem dX1_bringBack_62 : decode cX1_bringBack 62 = .ok (.aload_n 0, 1) := by decide +kernel
theorem dX1_bringBack_63 : decode cX1_bringBack 63 = .ok (.getfield 21, 3) := by decide +kernel
theorem dX1_bringBack_66 : decode cX1_bringBack 66 = .ok (.iload_n 3, 1) := by decide +kernel
theorem dX1_bringBack_67 : decode cX1_bringBack 67 = .ok (.iaload, 1) := by decide +kernel
theorem dX1_bringBack_68 : decode cX1_bringBack 68 = .ok (.invokevirtual 55, 3) := by decide +kernel
theorem dX1_bringBack_71 : decode cX1_bringBack 71 = .ok (.aload_n 0, 1) := by decide +kernel
theorem dX1_bringBack_72 : decode cX1_bringBack 72 = .ok (.iload_n 3, 1) := by decide +kernel
theorem dX1_bringBack_73 : decode cX1_bringBack 73 = .ok (.putfield 25, 3) := by decide +kernel
theorem dX1_bringBack_76 : decode cX1_bringBack 76 = .ok (.aload_n 0, 1) := by decide +kernel
theorem dX1_bringBack_77 : decode cX1_bringBack 77 = .ok (.dup, 1) := by decide +kernel
theorem dX1_bringBack_78 : decode cX1_bringBack 78 = .ok (.getfield 46, 3) := by decide +kernel
theorem dX1_bringBack_81 : decode cX1_bringBack 81 = .ok (.iconst 1, 1) := by decide +kernel
theorem dX1_bringBack_82 : decode cX1_bringBack 82 = .ok (.isub, 1) := by decide +kernel
theorem dX1_bringBack_83 : decode cX1_bringBack 83 = .ok (.putfield 46, 3) := by decide +kernel
theorem dX1_bringBack_86 : decode cX1_bringBack 86 = .ok (.return_, 1) := by decide +kernel
theorem dX2_init_0 : decode cX2_init 0 = .ok (.aload_n 0, 1) := by decide +kernel
theorem dX2_init_1 : decode cX2_init 1 = .ok (.invokespecial 3, 3) := by decide +kernel
theorem dX2_init_4 : decode cX2_init 4 = .ok (.aload_n 0, 1) := by decide +kernel
theorem dX2_init_5 : decode cX2_init 5 = .ok (.bipush 24, 2) := by decide +kernel
theorem dX2_init_7 : decode cX2_init 7 = .ok (.newarray .int, 2) := by decide +kernel
theorem dX2_init_9 : decode cX2_init 9 = .ok (.putfield 9, 3) := by decide +kernel
theorem dX2_init_12 : decode cX2_init 12 = .ok (.return_, 1) := by decide +kernel
theorem dX2_at_0 : decode cX2_at 0 = .ok (.aload_n 0, 1) := by decide +kernel
theorem dX2_at_1 : decode cX2_at 1 = .ok (.getfield 15, 3) := by decide +kernel
theorem dX2_at_4 : decode cX2_at 4 = .ok (.iconst 1, 1) := by decide +kernel
theorem dX2_at_5 : decode cX2_at 5 = .ok (.isub, 1) := by decide +kernel
theorem dX2_at_6 : decode cX2_at 6 = .ok (.iload_n 1, 1) := by decide +kernel
theorem dX2_at_7 : decode cX2_at 7 = .ok (.isub, 1) := by decide +kernel
theorem dX2_at_8 : decode cX2_at 8 = .ok (.istore_n 2, 1) := by decide +kernel
theorem dX2_at_9 : decode cX2_at 9 = .ok (.iload_n 1, 1) := by decide +kernel
theorem dX2_at_10 : decode cX2_at 10 = .ok (.ifCond .lt 25, 3) := by decide +kernel
theorem dX2_at_13 : decode cX2_at 13 = .ok (.iload_n 2, 1) := by decide +kernel
theorem dX2_at_14 : decode cX2_at 14 = .ok (.ifCond .lt 21, 3) := by decide +kernel
theorem dX2_at_17 : decode cX2_at 17 = .ok (.iload_n 2, 1) := by decide +kernel
theorem dX2_at_18 : decode cX2_at 18 = .ok (.aload_n 0, 1) := by decide +kernel
theorem dX2_at_19 : decode cX2_at 19 = .ok (.getfield 9, 3) := by decide +kernel
theorem dX2_at_22 : decode cX2_at 22 = .ok (.arraylength, 1) := by decide +kernel
theorem dX2_at_23 : decode cX2_at 23 = .ok (.if_icmp .ge 12, 3) := by decide +kernel
theorem dX2_at_26 : decode cX2_at 26 = .ok (.aload_n 0, 1) := by decide +kernel
theorem dX2_at_27 : decode cX2_at 27 = .ok (.getfield 9, 3) := by decide +kernel
theorem dX2_at_30 : decode cX2_at 30 = .ok (.iload_n 2, 1) := by decide +kernel
theorem dX2_at_31 : decode cX2_at 31 = .ok (.iaload, 1) := by decide +kernel
theorem dX2_at_32 : decode cX2_at 32 = .ok (.goto 4, 3) := by decide +kernel
theorem dX2_at_35 : decode cX2_at 35 = .ok (.iconst (-1), 1) := by decide +kernel
theorem dX2_at_36 : decode cX2_at 36 = .ok (.ireturn, 1) := by decide +kernel
theorem dX2_replace_0 : decode cX2_replace 0 = .ok (.aload_n 0, 1) := by decide +kernel
theorem dX2_replace_1 : decode cX2_replace 1 = .ok (.getfield 15, 3) := by decide +kernel
theorem dX2_replace_4 : decode cX2_replace 4 = .ok (.iconst 1, 1) := by decide +kernel
theorem dX2_replace_5 : decode cX2_replace 5 = .ok (.isub, 1) := by decide +kernel
theorem dX2_replace_6 : decode cX2_replace 6 = .ok (.iload_n 1, 1) := by decide +kernel
theorem dX2_replace_7 : decode cX2_replace 7 = .ok (.isub, 1) := by decide +kernel
theorem dX2_replace_8 : decode cX2_replace 8 = .ok (.istore_n 3, 1) := by decide +kernel
theorem dX2_replace_9 : decode cX2_replace 9 = .ok (.iload_n 1, 1) := by decide +kernel
theorem dX2_replace_10 : decode cX2_replace 10 = .ok (.ifCond .lt 23, 3) := by decide +kernel
theorem dX2_replace_13 : decode cX2_replace 13 = .ok (.iload_n 3, 1) := by decide +kernel
theorem dX2_replace_14 : decode cX2_replace 14 = .ok (.ifCond .lt 19, 3) := by decide +kernel
theorem dX2_replace_17 : decode cX2_replace 17 = .ok (.iload_n 3, 1) := by decide +kernel
theorem dX2_replace_18 : decode cX2_replace 18 = .ok (.aload_n 0, 1) := by decide +kernel
theorem dX2_replace_19 : decode cX2_replace 19 = .ok (.getfield 9, 3) := by decide +kernel
theorem dX2_replace_22 : decode cX2_replace 22 = .ok (.arraylength, 1) := by decide +kernel
theorem dX2_replace_23 : decode cX2_replace 23 = .ok (.if_icmp .ge 10, 3) := by decide +kernel
theorem dX2_replace_26 : decode cX2_replace 26 = .ok (.aload_n 0, 1) := by decide +kernel
theorem dX2_replace_27 : decode cX2_replace 27 = .ok (.getfield 9, 3) := by decide +kernel
theorem dX2_replace_30 : decode cX2_replace 30 = .ok (.iload_n 3, 1) := by decide +kernel
theorem dX2_replace_31 : decode cX2_replace 31 = .ok (.iload_n 2, 1) := by decide +kernel
theorem dX2_replace_32 : decode cX2_replace 32 = .ok (.iastore, 1) := by decide +kernel
theorem dX2_replace_33 : decode cX2_replace 33 = .ok (.return_, 1) := by decide +kernel
theorem dX2_holds_0 : decode cX2_holds 0 = .ok (.iconst 0, 1) := by decide +kernel
theorem dX2_holds_1 : decode cX2_holds 1 = .ok (.istore_n 2, 1) := by decide +kernel
theorem dX2_holds_2 : decode cX2_holds 2 = .ok (.iload_n 2, 1) := by decide +kernel
theorem dX2_holds_3 : decode cX2_holds 3 = .ok (.aload_n 0, 1) := by decide +kernel
theorem dX2_holds_4 : decode cX2_holds 4 = .ok (.getfield 15, 3) := by decide +kernel
theorem dX2_holds_7 : decode cX2_holds 7 = .ok (.if_icmp .ge 20, 3) := by decide +kernel
theorem dX2_holds_10 : decode cX2_holds 10 = .ok (.aload_n 0, 1) := by decide +kernel
theorem dX2_holds_11 : decode cX2_holds 11 = .ok (.iload_n 2, 1) := by decide +kernel
theorem dX2_holds_12 : decode cX2_holds 12 = .ok (.invokevirtual 19, 3) := by decide +kernel
theorem dX2_holds_15 : decode cX2_holds 15 = .ok (.iload_n 1, 1) := by decide +kernel
theorem dX2_holds_16 : decode cX2_holds 16 = .ok (.if_icmp .ne 5, 3) := by decide +kernel
theorem dX2_holds_19 : decode cX2_holds 19 = .ok (.iconst 1, 1) := by decide +kernel
theorem dX2_holds_20 : decode cX2_holds 20 = .ok (.ireturn, 1) := by decide +kernel
theorem dX2_holds_21 : decode cX2_holds 21 = .ok (.iinc 2 1, 3) := by decide +kernel
theorem dX2_holds_24 : decode cX2_holds 24 = .ok (.goto (-22), 3) := by decide +kernel
theorem dX2_holds_27 : decode cX2_holds 27 = .ok (.iconst 0, 1) := by decide +kernel
theorem dX2_holds_28 : decode cX2_holds 28 = .ok (.ireturn, 1) := by decide +kernel
theorem dX2_put_0 : decode cX2_put 0 = .ok (.aload_n 0, 1) := by decide +kernel
theorem dX2_put_1 : decode cX2_put 1 = .ok (.getfield 15, 3) := by decide +kernel
theorem dX2_put_4 : decode cX2_put 4 = .ok (.ifCond .lt 35, 3) := by decide +kernel
theorem dX2_put_7 : decode cX2_put 7 = .ok (.aload_n 0, 1) := by decide +kernel
theorem dX2_put_8 : decode cX2_put 8 = .ok (.getfield 15, 3) := by decide +kernel
theorem dX2_put_11 : decode cX2_put 11 = .ok (.aload_n 0, 1) := by decide +kernel
theorem dX2_put_12 : decode cX2_put 12 = .ok (.getfield 9, 3) := by decide +kernel
theorem dX2_put_15 : decode cX2_put 15 = .ok (.arraylength, 1) := by decide +kernel
theorem dX2_put_16 : decode cX2_put 16 = .ok (.if_icmp .ge 23, 3) := by decide +kernel
theorem dX2_put_19 : decode cX2_put 19 = .ok (.aload_n 0, 1) := by decide +kernel
theorem dX2_put_20 : decode cX2_put 20 = .ok (.getfield 9, 3) := by decide +kernel
theorem dX2_put_23 : decode cX2_put 23 = .ok (.aload_n 0, 1) := by decide +kernel
theorem dX2_put_24 : decode cX2_put 24 = .ok (.getfield 15, 3) := by decide +kernel
theorem dX2_put_27 : decode cX2_put 27 = .ok (.iload_n 1, 1) := by decide +kernel
theorem dX2_put_28 : decode cX2_put 28 = .ok (.iastore, 1) := by decide +kernel
theorem dX2_put_29 : decode cX2_put 29 = .ok (.aload_n 0, 1) := by decide +kernel
theorem dX2_put_30 : decode cX2_put 30 = .ok (.dup, 1) := by decide +kernel
theorem dX2_put_31 : decode cX2_put 31 = .ok (.getfield 15, 3) := by decide +kernel
theorem dX2_put_34 : decode cX2_put 34 = .ok (.iconst 1, 1) := by decide +kernel
theorem dX2_put_35 : decode cX2_put 35 = .ok (.iadd, 1) := by decide +kernel
theorem dX2_put_36 : decode cX2_put 36 = .ok (.putfield 15, 3) := by decide +kernel
theorem dX2_put_39 : decode cX2_put 39 = .ok (.return_, 1) := by decide +kernel
theorem dX2_takeAt_0 : decode cX2_takeAt 0 = .ok (.aload_n 0, 1) := by decide +kernel
theorem dX2_takeAt_1 : decode cX2_takeAt 1 = .ok (.iload_n 1, 1) := by decide +kernel
theorem dX2_takeAt_2 : decode cX2_takeAt 2 = .ok (.invokevirtual 19, 3) := by decide +kernel
theorem dX2_takeAt_5 : decode cX2_takeAt 5 = .ok (.istore_n 2, 1) := by decide +kernel
theorem dX2_takeAt_6 : decode cX2_takeAt 6 = .ok (.iload_n 2, 1) := by decide +kernel
theorem dX2_takeAt_7 : decode cX2_takeAt 7 = .ok (.iconst (-1), 1) := by decide +kernel
theorem dX2_takeAt_8 : decode cX2_takeAt 8 = .ok (.if_icmp .ne 5, 3) := by decide +kernel
theorem dX2_takeAt_11 : decode cX2_takeAt 11 = .ok (.iconst (-1), 1) := by decide +kernel
theorem dX2_takeAt_12 : decode cX2_takeAt 12 = .ok (.ireturn, 1) := by decide +kernel
theorem dX2_takeAt_13 : decode cX2_takeAt 13 = .ok (.iload_n 1, 1) := by decide +kernel
theorem dX2_takeAt_14 : decode cX2_takeAt 14 = .ok (.istore_n 3, 1) := by decide +kernel
theorem dX2_takeAt_15 : decode cX2_takeAt 15 = .ok (.iload_n 3, 1) := by decide +kernel
theorem dX2_takeAt_16 : decode cX2_takeAt 16 = .ok (.ifCond .le 21, 3) := by decide +kernel
theorem dX2_takeAt_19 : decode cX2_takeAt 19 = .ok (.aload_n 0, 1) := by decide +kernel
theorem dX2_takeAt_20 : decode cX2_takeAt 20 = .ok (.iload_n 3, 1) := by decide +kernel
theorem dX2_takeAt_21 : decode cX2_takeAt 21 = .ok (.aload_n 0, 1) := by decide +kernel
theorem dX2_takeAt_22 : decode cX2_takeAt 22 = .ok (.iload_n 3, 1) := by decide +kernel
theorem dX2_takeAt_23 : decode cX2_takeAt 23 = .ok (.iconst 1, 1) := by decide +kernel
theorem dX2_takeAt_24 : decode cX2_takeAt 24 = .ok (.isub, 1) := by decide +kernel
theorem dX2_takeAt_25 : decode cX2_takeAt 25 = .ok (.invokevirtual 19, 3) := by decide +kernel
theorem dX2_takeAt_28 : decode cX2_takeAt 28 = .ok (.invokevirtual 23, 3) := by decide +kernel
theorem dX2_takeAt_31 : decode cX2_takeAt 31 = .ok (.iinc 3 (-1), 3) := by decide +kernel
theorem dX2_takeAt_34 : decode cX2_takeAt 34 = .ok (.goto (-19), 3) := by decide +kernel
theorem dX2_takeAt_37 : decode cX2_takeAt 37 = .ok (.aload_n 0, 1) := by decide +kernel
theorem dX2_takeAt_38 : decode cX2_takeAt 38 = .ok (.dup, 1) := by decide +kernel
theorem dX2_takeAt_39 : decode cX2_takeAt 39 = .ok (.getfield 15, 3) := by decide +kernel
theorem dX2_takeAt_42 : decode cX2_takeAt 42 = .ok (.iconst 1, 1) := by decide +kernel
theorem dX2_takeAt_43 : decode cX2_takeAt 43 = .ok (.isub, 1) := by decide +kernel
theorem dX2_takeAt_44 : decode cX2_takeAt 44 = .ok (.putfield 15, 3) := by decide +kernel
theorem dX2_takeAt_47 : decode cX2_takeAt 47 = .ok (.iload_n 2, 1) := by decide +kernel
theorem dX2_takeAt_48 : decode cX2_takeAt 48 = .ok (.ireturn, 1) := by decide +kernel
theorem dX2_moveTipBehind_0 : decode cX2_moveTipBehind 0 = .ok (.aload_n 0, 1) := by decide +kernel
theorem dX2_moveTipBehind_1 : decode cX2_moveTipBehind 1 = .ok (.iconst 0, 1) := by decide +kernel
theorem dX2_moveTipBehind_2 : decode cX2_moveTipBehind 2 = .ok (.invokevirtual 19, 3) := by decide +kernel
theorem dX2_moveTipBehind_5 : decode cX2_moveTipBehind 5 = .ok (.istore_n 2, 1) := by decide +kernel
theorem dX2_moveTipBehind_6 : decode cX2_moveTipBehind 6 = .ok (.iconst 0, 1) := by decide +kernel
theorem dX2_moveTipBehind_7 : decode cX2_moveTipBehind 7 = .ok (.istore_n 3, 1) := by decide +kernel
theorem dX2_moveTipBehind_8 : decode cX2_moveTipBehind 8 = .ok (.iload_n 3, 1) := by decide +kernel
theorem dX2_moveTipBehind_9 : decode cX2_moveTipBehind 9 = .ok (.iload_n 1, 1) := by decide +kernel
theorem dX2_moveTipBehind_10 : decode cX2_moveTipBehind 10 = .ok (.if_icmp .ge 21, 3) := by decide +kernel
theorem dX2_moveTipBehind_13 : decode cX2_moveTipBehind 13 = .ok (.aload_n 0, 1) := by decide +kernel
theorem dX2_moveTipBehind_14 : decode cX2_moveTipBehind 14 = .ok (.iload_n 3, 1) := by decide +kernel
theorem dX2_moveTipBehind_15 : decode cX2_moveTipBehind 15 = .ok (.aload_n 0, 1) := by decide +kernel
theorem dX2_moveTipBehind_16 : decode cX2_moveTipBehind 16 = .ok (.iload_n 3, 1) := by decide +kernel
theorem dX2_moveTipBehind_17 : decode cX2_moveTipBehind 17 = .ok (.iconst 1, 1) := by decide +kernel
theorem dX2_moveTipBehind_18 : decode cX2_moveTipBehind 18 = .ok (.iadd, 1) := by decide +kernel
theorem dX2_moveTipBehind_19 : decode cX2_moveTipBehind 19 = .ok (.invokevirtual 19, 3) := by decide +kernel
theorem dX2_moveTipBehind_22 : decode cX2_moveTipBehind 22 = .ok (.invokevirtual 23, 3) := by decide +kernel
theorem dX2_moveTipBehind_25 : decode cX2_moveTipBehind 25 = .ok (.iinc 3 1, 3) := by decide +kernel
theorem dX2_moveTipBehind_28 : decode cX2_moveTipBehind 28 = .ok (.goto (-20), 3) := by decide +kernel
theorem dX2_moveTipBehind_31 : decode cX2_moveTipBehind 31 = .ok (.aload_n 0, 1) := by decide +kernel
theorem dX2_moveTipBehind_32 : decode cX2_moveTipBehind 32 = .ok (.iload_n 1, 1) := by decide +kernel
theorem dX2_moveTipBehind_33 : decode cX2_moveTipBehind 33 = .ok (.iload_n 2, 1) := by decide +kernel
theorem dX2_moveTipBehind_34 : decode cX2_moveTipBehind 34 = .ok (.invokevirtual 23, 3) := by decide +kernel
theorem dX2_moveTipBehind_37 : decode cX2_moveTipBehind 37 = .ok (.return_, 1) := by decide +kernel
theorem dX2_swapWith_0 : decode cX2_swapWith 0 = .ok (.aload_n 0, 1) := by decide +kernel
theorem dX2_swapWith_1 : decode cX2_swapWith 1 = .ok (.getfield 15, 3) := by decide +kernel
theorem dX2_swapWith_4 : decode cX2_swapWith 4 = .ok (.istore_n 2, 1) := by decide +kernel
theorem dX2_swapWith_5 : decode cX2_swapWith 5 = .ok (.aload_n 0, 1) := by decide +kernel
theorem dX2_swapWith_6 : decode cX2_swapWith 6 = .ok (.aload_n 1, 1) := by decide +kernel
theorem dX2_swapWith_7 : decode cX2_swapWith 7 = .ok (.getfield 15, 3) := by decide +kernel
theorem dX2_swapWith_10 : decode cX2_swapWith 10 = .ok (.putfield 15, 3) := by decide +kernel
theorem dX2_swapWith_13 : decode cX2_swapWith 13 = .ok (.aload_n 1, 1) := by decide +kernel
theorem dX2_swapWith_14 : decode cX2_swapWith 14 = .ok (.iload_n 2, 1) := by decide +kernel
theorem dX2_swapWith_15 : decode cX2_swapWith 15 = .ok (.putfield 15, 3) := by decide +kernel
theorem dX2_swapWith_18 : decode cX2_swapWith 18 = .ok (.iconst 0, 1) := by decide +kernel
theorem dX2_swapWith_19 : decode cX2_swapWith 19 = .ok (.istore_n 3, 1) := by decide +kernel
theorem dX2_swapWith_20 : decode cX2_swapWith 20 = .ok (.iload_n 3, 1) := by decide +kernel
theorem dX2_swapWith_21 : decode cX2_swapWith 21 = .ok (.aload_n 0, 1) := by decide +kernel
theorem dX2_swapWith_22 : decode cX2_swapWith 22 = .ok (.getfield 9, 3) := by decide +kernel
theorem dX2_swapWith_25 : decode cX2_swapWith 25 = .ok (.arraylength, 1) := by decide +kernel
theorem dX2_swapWith_26 : decode cX2_swapWith 26 = .ok (.if_icmp .ge 46, 3) := by decide +kernel
theorem dX2_swapWith_29 : decode cX2_swapWith 29 = .ok (.iload_n 3, 1) := by decide +kernel
theorem dX2_swapWith_30 : decode cX2_swapWith 30 = .ok (.aload_n 1, 1) := by decide +kernel
theorem dX2_swapWith_31 : decode cX2_swapWith 31 = .ok (.getfield 9, 3) := by decide +kernel
theorem dX2_swapWith_34 : decode cX2_swapWith 34 = .ok (.arraylength, 1) := by decide +kernel
theorem dX2_swapWith_35 : decode cX2_swapWith 35 = .ok (.if_icmp .ge 37, 3) := by decide +kernel
theorem dX2_swapWith_38 : decode cX2_swapWith 38 = .ok (.aload_n 0, 1) := by decide +kernel
theorem dX2_swapWith_39 : decode cX2_swapWith 39 = .ok (.getfield 9, 3) := by decide +kernel
theorem dX2_swapWith_42 : decode cX2_swapWith 42 = .ok (.iload_n 3, 1) := by decide +kernel
theorem dX2_swapWith_43 : decode cX2_swapWith 43 = .ok (.iaload, 1) := by decide +kernel
theorem dX2_swapWith_44 : decode cX2_swapWith 44 = .ok (.istore 4, 2) := by decide +kernel
theorem dX2_swapWith_46 : decode cX2_swapWith 46 = .ok (.aload_n 0, 1) := by decide +kernel
theorem dX2_swapWith_47 : decode cX2_swapWith 47 = .ok (.getfield 9, 3) := by decide +kernel
theorem dX2_swapWith_50 : decode cX2_swapWith 50 = .ok (.iload_n 3, 1) := by decide +kernel
theorem dX2_swapWith_51 : decode cX2_swapWith 51 = .ok (.aload_n 1, 1) := by decide +kernel
theorem dX2_swapWith_52 : decode cX2_swapWith 52 = .ok (.getfield 9, 3) := by decide +kernel
theorem dX2_swapWith_55 : decode cX2_swapWith 55 = .ok (.iload_n 3, 1) := by decide +kernel
theorem dX2_swapWith_56 : decode cX2_swapWith 56 = .ok (.iaload, 1) := by decide +kernel
theorem dX2_swapWith_57 : decode cX2_swapWith 57 = .ok (.iastore, 1) := by decide +kernel
theorem dX2_swapWith_58 : decode cX2_swapWith 58 = .ok (.aload_n 1, 1) := by decide +kernel
theorem dX2_swapWith_59 : decode cX2_swapWith 59 = .ok (.getfield 9, 3) := by decide +kernel
theorem dX2_swapWith_62 : decode cX2_swapWith 62 = .ok (.iload_n 3, 1) := by decide +kernel
theorem dX2_swapWith_63 : decode cX2_swapWith 63 = .ok (.iload 4, 2) := by decide +kernel
theorem dX2_swapWith_65 : decode cX2_swapWith 65 = .ok (.iastore, 1) := by decide +kernel
theorem dX2_swapWith_66 : decode cX2_swapWith 66 = .ok (.iinc 3 1, 3) := by decide +kernel
theorem dX2_swapWith_69 : decode cX2_swapWith 69 = .ok (.goto (-49), 3) := by decide +kernel
theorem dX2_swapWith_72 : decode cX2_swapWith 72 = .ok (.return_, 1) := by decide +kernel
theorem dX2_copyFrom_0 : decode cX2_copyFrom 0 = .ok (.aload_n 0, 1) := by decide +kernel
theorem dX2_copyFrom_1 : decode cX2_copyFrom 1 = .ok (.aload_n 1, 1) := by decide +kernel
theorem dX2_copyFrom_2 : decode cX2_copyFrom 2 = .ok (.getfield 15, 3) := by decide +kernel
theorem dX2_copyFrom_5 : decode cX2_copyFrom 5 = .ok (.putfield 15, 3) := by decide +kernel
theorem dX2_copyFrom_8 : decode cX2_copyFrom 8 = .ok (.aload_n 1, 1) := by decide +kernel
theorem dX2_copyFrom_9 : decode cX2_copyFrom 9 = .ok (.getfield 9, 3) := by decide +kernel
theorem dX2_copyFrom_12 : decode cX2_copyFrom 12 = .ok (.iconst 0, 1) := by decide +kernel
theorem dX2_copyFrom_13 : decode cX2_copyFrom 13 = .ok (.aload_n 0, 1) := by decide +kernel
theorem dX2_copyFrom_14 : decode cX2_copyFrom 14 = .ok (.getfield 9, 3) := by decide +kernel
theorem dX2_copyFrom_17 : decode cX2_copyFrom 17 = .ok (.iconst 0, 1) := by decide +kernel
theorem dX2_copyFrom_18 : decode cX2_copyFrom 18 = .ok (.aload_n 0, 1) := by decide +kernel
theorem dX2_copyFrom_19 : decode cX2_copyFrom 19 = .ok (.getfield 9, 3) := by decide +kernel
theorem dX2_copyFrom_22 : decode cX2_copyFrom 22 = .ok (.arraylength, 1) := by decide +kernel
theorem dX2_copyFrom_23 : decode cX2_copyFrom 23 = .ok (.aload_n 1, 1) := by decide +kernel
theorem dX2_copyFrom_24 : decode cX2_copyFrom 24 = .ok (.getfield 9, 3) := by decide +kernel
theorem dX2_copyFrom_27 : decode cX2_copyFrom 27 = .ok (.arraylength, 1) := by decide +kernel
theorem dX2_copyFrom_28 : decode cX2_copyFrom 28 = .ok (.invokestatic 27, 3) := by decide +kernel
theorem dX2_copyFrom_31 : decode cX2_copyFrom 31 = .ok (.invokestatic 33, 3) := by decide +kernel
theorem dX2_copyFrom_34 : decode cX2_copyFrom 34 = .ok (.return_, 1) := by decide +kernel
theorem dX3_init_0 : decode cX3_init 0 = .ok (.aload_n 0, 1) := by decide +kernel
theorem dX3_init_1 : decode cX3_init 1 = .ok (.invokespecial 3, 3) := by decide +kernel
theorem dX3_init_4 : decode cX3_init 4 = .ok (.aload_n 0, 1) := by decide +kernel
theorem dX3_init_5 : decode cX3_init 5 = .ok (.iconst 1, 1) := by decide +kernel
theorem dX3_init_6 : decode cX3_init 6 = .ok (.iload_n 1, 1) := by decide +kernel
theorem dX3_init_7 : decode cX3_init 7 = .ok (.invokestatic 9, 3) := by decide +kernel
theorem dX3_init_10 : decode cX3_init 10 = .ok (.putfield 15, 3) := by decide +kernel
theorem dX3_init_13 : decode cX3_init 13 = .ok (.aload_n 0, 1) := by decide +kernel
theorem dX3_init_14 : decode cX3_init 14 = .ok (.iconst 0, 1) := by decide +kernel
theorem dX3_init_15 : decode cX3_init 15 = .ok (.iload_n 3, 1) := by decide +kernel
theorem dX3_init_16 : decode cX3_init 16 = .ok (.invokestatic 9, 3) := by decide +kernel
theorem dX3_init_19 : decode cX3_init 19 = .ok (.putfield 21, 3) := by decide +kernel
theorem dX3_init_22 : decode cX3_init 22 = .ok (.aload_n 0, 1) := by decide +kernel
theorem dX3_init_23 : decode cX3_init 23 = .ok (.iconst 0, 1) := by decide +kernel
theorem dX3_init_24 : decode cX3_init 24 = .ok (.aload_n 0, 1) := by decide +kernel
theorem dX3_init_25 : decode cX3_init 25 = .ok (.getfield 15, 3) := by decide +kernel
theorem dX3_init_28 : decode cX3_init 28 = .ok (.iload_n 2, 1) := by decide +kernel
theorem dX3_init_29 : decode cX3_init 29 = .ok (.imul, 1) := by decide +kernel
theorem dX3_init_30 : decode cX3_init 30 = .ok (.invokestatic 9, 3) := by decide +kernel
theorem dX3_init_33 : decode cX3_init 33 = .ok (.newarray .int, 2) := by decide +kernel
theorem dX3_init_35 : decode cX3_init 35 = .ok (.putfield 24, 3) := by decide +kernel
theorem dX3_init_38 : decode cX3_init 38 = .ok (.return_, 1) := by decide +kernel
theorem dX3_cellOf_0 : decode cX3_cellOf 0 = .ok (.iload_n 1, 1) := by decide +kernel
theorem dX3_cellOf_1 : decode cX3_cellOf 1 = .ok (.ifCond .lt 27, 3) := by decide +kernel
theorem dX3_cellOf_4 : decode cX3_cellOf 4 = .ok (.iload_n 1, 1) := by decide +kernel
theorem dX3_cellOf_5 : decode cX3_cellOf 5 = .ok (.aload_n 0, 1) := by decide +kernel
theorem dX3_cellOf_6 : decode cX3_cellOf 6 = .ok (.getfield 21, 3) := by decide +kernel
theorem dX3_cellOf_9 : decode cX3_cellOf 9 = .ok (.if_icmp .ge 19, 3) := by decide +kernel
theorem dX3_cellOf_12 : decode cX3_cellOf 12 = .ok (.iload_n 2, 1) := by decide +kernel
theorem dX3_cellOf_13 : decode cX3_cellOf 13 = .ok (.ifCond .lt 15, 3) := by decide +kernel
theorem dX3_cellOf_16 : decode cX3_cellOf 16 = .ok (.iload_n 2, 1) := by decide +kernel
theorem dX3_cellOf_17 : decode cX3_cellOf 17 = .ok (.aload_n 0, 1) := by decide +kernel
theorem dX3_cellOf_18 : decode cX3_cellOf 18 = .ok (.getfield 15, 3) := by decide +kernel
theorem dX3_cellOf_21 : decode cX3_cellOf 21 = .ok (.if_icmp .ge 7, 3) := by decide +kernel
theorem dX3_cellOf_24 : decode cX3_cellOf 24 = .ok (.iconst 1, 1) := by decide +kernel
theorem dX3_cellOf_25 : decode cX3_cellOf 25 = .ok (.goto 4, 3) := by decide +kernel
theorem dX3_cellOf_28 : decode cX3_cellOf 28 = .ok (.iconst 0, 1) := by decide +kernel
theorem dX3_cellOf_29 : decode cX3_cellOf 29 = .ok (.istore_n 3, 1) := by decide +kernel
theorem dX3_cellOf_30 : decode cX3_cellOf 30 = .ok (.iload_n 3, 1) := by decide +kernel
theorem dX3_cellOf_31 : decode cX3_cellOf 31 = .ok (.ifCond .eq 14, 3) := by decide +kernel
theorem dX3_cellOf_34 : decode cX3_cellOf 34 = .ok (.iload_n 1, 1) := by decide +kernel
theorem dX3_cellOf_35 : decode cX3_cellOf 35 = .ok (.aload_n 0, 1) := by decide +kernel
theorem dX3_cellOf_36 : decode cX3_cellOf 36 = .ok (.getfield 15, 3) := by decide +kernel
theorem dX3_cellOf_39 : decode cX3_cellOf 39 = .ok (.imul, 1) := by decide +kernel
theorem dX3_cellOf_40 : decode cX3_cellOf 40 = .ok (.iload_n 2, 1) := by decide +kernel
theorem dX3_cellOf_41 : decode cX3_cellOf 41 = .ok (.iadd, 1) := by decide +kernel
theorem dX3_cellOf_42 : decode cX3_cellOf 42 = .ok (.goto 4, 3) := by decide +kernel
theorem dX3_cellOf_45 : decode cX3_cellOf 45 = .ok (.iconst (-1), 1) := by decide +kernel
theorem dX3_cellOf_46 : decode cX3_cellOf 46 = .ok (.ireturn, 1) := by decide +kernel
theorem dX3_get_0 : decode cX3_get 0 = .ok (.aload_n 0, 1) := by decide +kernel
theorem dX3_get_1 : decode cX3_get 1 = .ok (.iload_n 1, 1) := by decide +kernel
theorem dX3_get_2 : decode cX3_get 2 = .ok (.iload_n 2, 1) := by decide +kernel
theorem dX3_get_3 : decode cX3_get 3 = .ok (.invokevirtual 28, 3) := by decide +kernel
theorem dX3_get_6 : decode cX3_get 6 = .ok (.istore_n 3, 1) := by decide +kernel
theorem dX3_get_7 : decode cX3_get 7 = .ok (.iload_n 3, 1) := by decide +kernel
theorem dX3_get_8 : decode cX3_get 8 = .ok (.ifCond .lt 21, 3) := by decide +kernel
theorem dX3_get_11 : decode cX3_get 11 = .ok (.iload_n 3, 1) := by decide +kernel
theorem dX3_get_12 : decode cX3_get 12 = .ok (.aload_n 0, 1) := by decide +kernel
theorem dX3_get_13 : decode cX3_get 13 = .ok (.getfield 24, 3) := by decide +kernel
theorem dX3_get_16 : decode cX3_get 16 = .ok (.arraylength, 1) := by decide +kernel
theorem dX3_get_17 : decode cX3_get 17 = .ok (.if_icmp .ge 12, 3) := by decide +kernel
theorem dX3_get_20 : decode cX3_get 20 = .ok (.aload_n 0, 1) := by decide +kernel
theorem dX3_get_21 : decode cX3_get 21 = .ok (.getfield 24, 3) := by decide +kernel
theorem dX3_get_24 : decode cX3_get 24 = .ok (.iload_n 3, 1) := by decide +kernel
theorem dX3_get_25 : decode cX3_get 25 = .ok (.iaload, 1) := by decide +kernel
theorem dX3_get_26 : decode cX3_get 26 = .ok (.goto 4, 3) := by decide +kernel
theorem dX3_get_29 : decode cX3_get 29 = .ok (.iconst 0, 1) := by decide +kernel
theorem dX3_get_30 : decode cX3_get 30 = .ok (.ireturn, 1) := by decide +kernel
theorem dX3_set_0 : decode cX3_set 0 = .ok (.aload_n 0, 1) := by decide +kernel
theorem dX3_set_1 : decode cX3_set 1 = .ok (.iload_n 1, 1) := by decide +kernel
theorem dX3_set_2 : decode cX3_set 2 = .ok (.iload_n 2, 1) := by decide +kernel
theorem dX3_set_3 : decode cX3_set 3 = .ok (.invokevirtual 28, 3) := by decide +kernel
theorem dX3_set_6 : decode cX3_set 6 = .ok (.istore 4, 2) := by decide +kernel
theorem dX3_set_8 : decode cX3_set 8 = .ok (.aload_n 0, 1) := by decide +kernel
theorem dX3_set_9 : decode cX3_set 9 = .ok (.iload 4, 2) := by decide +kernel
theorem dX3_set_11 : decode cX3_set 11 = .ok (.iconst 1, 1) := by decide +kernel
theorem dX3_set_12 : decode cX3_set 12 = .ok (.iadd, 1) := by decide +kernel
theorem dX3_set_13 : decode cX3_set 13 = .ok (.invokevirtual 31, 3) := by decide +kernel
theorem dX3_set_16 : decode cX3_set 16 = .ok (.iload 4, 2) := by decide +kernel
theorem dX3_set_18 : decode cX3_set 18 = .ok (.ifCond .lt 21, 3) := by decide +kernel
theorem dX3_set_21 : decode cX3_set 21 = .ok (.iload 4, 2) := by decide +kernel
theorem dX3_set_23 : decode cX3_set 23 = .ok (.aload_n 0, 1) := by decide +kernel
theorem dX3_set_24 : decode cX3_set 24 = .ok (.getfield 24, 3) := by decide +kernel
theorem dX3_set_27 : decode cX3_set 27 = .ok (.arraylength, 1) := by decide +kernel
theorem dX3_set_28 : decode cX3_set 28 = .ok (.if_icmp .ge 11, 3) := by decide +kernel
theorem dX3_set_31 : decode cX3_set 31 = .ok (.aload_n 0, 1) := by decide +kernel
theorem dX3_set_32 : decode cX3_set 32 = .ok (.getfield 24, 3) := by decide +kernel
theorem dX3_set_35 : decode cX3_set 35 = .ok (.iload 4, 2) := by decide +kernel
theorem dX3_set_37 : decode cX3_set 37 = .ok (.iload_n 3, 1) := by decide +kernel
theorem dX3_set_38 : decode cX3_set 38 = .ok (.iastore, 1) := by decide +kernel
theorem dX3_set_39 : decode cX3_set 39 = .ok (.return_, 1) := by decide +kernel
theorem dX3_growTo_0 : decode cX3_growTo 0 = .ok (.iload_n 1, 1) := by decide +kernel
theorem dX3_growTo_1 : decode cX3_growTo 1 = .ok (.aload_n 0, 1) := by decide +kernel
theorem dX3_growTo_2 : decode cX3_growTo 2 = .ok (.getfield 24, 3) := by decide +kernel
theorem dX3_growTo_5 : decode cX3_growTo 5 = .ok (.arraylength, 1) := by decide +kernel
theorem dX3_growTo_6 : decode cX3_growTo 6 = .ok (.if_icmp .gt 4, 3) := by decide +kernel
theorem dX3_growTo_9 : decode cX3_growTo 9 = .ok (.return_, 1) := by decide +kernel
theorem dX3_growTo_10 : decode cX3_growTo 10 = .ok (.iload_n 1, 1) := by decide +kernel
theorem dX3_growTo_11 : decode cX3_growTo 11 = .ok (.aload_n 0, 1) := by decide +kernel
theorem dX3_growTo_12 : decode cX3_growTo 12 = .ok (.getfield 24, 3) := by decide +kernel
theorem dX3_growTo_15 : decode cX3_growTo 15 = .ok (.arraylength, 1) := by decide +kernel
theorem dX3_growTo_16 : decode cX3_growTo 16 = .ok (.iconst 2, 1) := by decide +kernel
theorem dX3_growTo_17 : decode cX3_growTo 17 = .ok (.imul, 1) := by decide +kernel
theorem dX3_growTo_18 : decode cX3_growTo 18 = .ok (.invokestatic 9, 3) := by decide +kernel
theorem dX3_growTo_21 : decode cX3_growTo 21 = .ok (.aload_n 0, 1) := by decide +kernel
theorem dX3_growTo_22 : decode cX3_growTo 22 = .ok (.getfield 21, 3) := by decide +kernel
theorem dX3_growTo_25 : decode cX3_growTo 25 = .ok (.aload_n 0, 1) := by decide +kernel
theorem dX3_growTo_26 : decode cX3_growTo 26 = .ok (.getfield 15, 3) := by decide +kernel
theorem dX3_growTo_29 : decode cX3_growTo 29 = .ok (.imul, 1) := by decide +kernel
theorem dX3_growTo_30 : decode cX3_growTo 30 = .ok (.invokestatic 35, 3) := by decide +kernel
theorem dX3_growTo_33 : decode cX3_growTo 33 = .ok (.istore_n 2, 1) := by decide +kernel
theorem dX3_growTo_34 : decode cX3_growTo 34 = .ok (.iload_n 2, 1) := by decide +kernel
theorem dX3_growTo_35 : decode cX3_growTo 35 = .ok (.aload_n 0, 1) := by decide +kernel
theorem dX3_growTo_36 : decode cX3_growTo 36 = .ok (.getfield 24, 3) := by decide +kernel
theorem dX3_growTo_39 : decode cX3_growTo 39 = .ok (.arraylength, 1) := by decide +kernel
theorem dX3_growTo_40 : decode cX3_growTo 40 = .ok (.if_icmp .le 15, 3) := by decide +kernel
theorem dX3_growTo_43 : decode cX3_growTo 43 = .ok (.aload_n 0, 1) := by decide +kernel
theorem dX3_growTo_44 : decode cX3_growTo 44 = .ok (.aload_n 0, 1) := by decide +kernel
theorem dX3_growTo_45 : decode cX3_growTo 45 = .ok (.getfield 24, 3) := by decide +kernel
theorem dX3_growTo_48 : decode cX3_growTo 48 = .ok (.iload_n 2, 1) := by decide +kernel
theorem dX3_growTo_49 : decode cX3_growTo 49 = .ok (.invokestatic 38, 3) := by decide +kernel
theorem dX3_growTo_52 : decode cX3_growTo 52 = .ok (.putfield 24, 3) := by decide +kernel
theorem dX3_growTo_55 : decode cX3_growTo 55 = .ok (.return_, 1) := by decide +kernel
theorem dX3_copyFrom_0 : decode cX3_copyFrom 0 = .ok (.aload_n 0, 1) := by decide +kernel
theorem dX3_copyFrom_1 : decode cX3_copyFrom 1 = .ok (.getfield 24, 3) := by decide +kernel
theorem dX3_copyFrom_4 : decode cX3_copyFrom 4 = .ok (.arraylength, 1) := by decide +kernel
theorem dX3_copyFrom_5 : decode cX3_copyFrom 5 = .ok (.aload_n 1, 1) := by decide +kernel
theorem dX3_copyFrom_6 : decode cX3_copyFrom 6 = .ok (.getfield 24, 3) := by decide +kernel
theorem dX3_copyFrom_9 : decode cX3_copyFrom 9 = .ok (.arraylength, 1) := by decide +kernel
theorem dX3_copyFrom_10 : decode cX3_copyFrom 10 = .ok (.invokestatic 35, 3) := by decide +kernel
theorem dX3_copyFrom_13 : decode cX3_copyFrom 13 = .ok (.istore_n 2, 1) := by decide +kernel
theorem dX3_copyFrom_14 : decode cX3_copyFrom 14 = .ok (.aload_n 1, 1) := by decide +kernel
theorem dX3_copyFrom_15 : decode cX3_copyFrom 15 = .ok (.getfield 24, 3) := by decide +kernel
theorem dX3_copyFrom_18 : decode cX3_copyFrom 18 = .ok (.iconst 0, 1) := by decide +kernel
theorem dX3_copyFrom_19 : decode cX3_copyFrom 19 = .ok (.aload_n 0, 1) := by decide +kernel
theorem dX3_copyFrom_20 : decode cX3_copyFrom 20 = .ok (.getfield 24, 3) := by decide +kernel
theorem dX3_copyFrom_23 : decode cX3_copyFrom 23 = .ok (.iconst 0, 1) := by decide +kernel
theorem dX3_copyFrom_24 : decode cX3_copyFrom 24 = .ok (.iload_n 2, 1) := by decide +kernel
theorem dX3_copyFrom_25 : decode cX3_copyFrom 25 = .ok (.invokestatic 44, 3) := by decide +kernel
theorem dX3_copyFrom_28 : decode cX3_copyFrom 28 = .ok (.return_, 1) := by decide +kernel
theorem dX4_init_0 : decode cX4_init 0 = .ok (.aload_n 0, 1) := by decide +kernel
theorem dX4_init_1 : decode cX4_init 1 = .ok (.invokespecial 1, 3) := by decide +kernel
theorem dX4_init_4 : decode cX4_init 4 = .ok (.return_, 1) := by decide +kernel
theorem dX4_start_0 : decode cX4_start 0 = .ok (.aload_n 0, 1) := by decide +kernel
theorem dX4_start_1 : decode cX4_start 1 = .ok (.iload_n 1, 1) := by decide +kernel
theorem dX4_start_2 : decode cX4_start 2 = .ok (.putfield 7, 3) := by decide +kernel
theorem dX4_start_5 : decode cX4_start 5 = .ok (.aload_n 0, 1) := by decide +kernel
theorem dX4_start_6 : decode cX4_start 6 = .ok (.iload_n 2, 1) := by decide +kernel
theorem dX4_start_7 : decode cX4_start 7 = .ok (.putfield 13, 3) := by decide +kernel
theorem dX4_start_10 : decode cX4_start 10 = .ok (.aload_n 0, 1) := by decide +kernel
theorem dX4_start_11 : decode cX4_start 11 = .ok (.iload_n 3, 1) := by decide +kernel
theorem dX4_start_12 : decode cX4_start 12 = .ok (.putfield 16, 3) := by decide +kernel
theorem dX4_start_15 : decode cX4_start 15 = .ok (.aload_n 0, 1) := by decide +kernel
theorem dX4_start_16 : decode cX4_start 16 = .ok (.iconst 0, 1) := by decide +kernel
theorem dX4_start_17 : decode cX4_start 17 = .ok (.putfield 19, 3) := by decide +kernel
theorem dX4_start_20 : decode cX4_start 20 = .ok (.aload_n 0, 1) := by decide +kernel
theorem dX4_start_21 : decode cX4_start 21 = .ok (.iconst 0, 1) := by decide +kernel
theorem dX4_start_22 : decode cX4_start 22 = .ok (.putfield 22, 3) := by decide +kernel
theorem dX4_start_25 : decode cX4_start 25 = .ok (.return_, 1) := by decide +kernel
theorem dX4_takesStep_0 : decode cX4_takesStep 0 = .ok (.aload_n 0, 1) := by decide +kernel
theorem dX4_takesStep_1 : decode cX4_takesStep 1 = .ok (.getfield 7, 3) := by decide +kernel
theorem dX4_takesStep_4 : decode cX4_takesStep 4 = .ok (.iconst 1, 1) := by decide +kernel
theorem dX4_takesStep_5 : decode cX4_takesStep 5 = .ok (.if_icmp .lt 22, 3) := by decide +kernel
theorem dX4_takesStep_8 : decode cX4_takesStep 8 = .ok (.iload_n 1, 1) := by decide +kernel
theorem dX4_takesStep_9 : decode cX4_takesStep 9 = .ok (.aload_n 0, 1) := by decide +kernel
theorem dX4_takesStep_10 : decode cX4_takesStep 10 = .ok (.getfield 7, 3) := by decide +kernel
theorem dX4_takesStep_13 : decode cX4_takesStep 13 = .ok (.aload_n 0, 1) := by decide +kernel
theorem dX4_takesStep_14 : decode cX4_takesStep 14 = .ok (.getfield 13, 3) := by decide +kernel
theorem dX4_takesStep_17 : decode cX4_takesStep 17 = .ok (.aload_n 0, 1) := by decide +kernel
theorem dX4_takesStep_18 : decode cX4_takesStep 18 = .ok (.getfield 16, 3) := by decide +kernel
theorem dX4_takesStep_21 : decode cX4_takesStep 21 = .ok (.invokestatic 25, 3) := by decide +kernel
theorem dX4_takesStep_24 : decode cX4_takesStep 24 = .ok (.ifCond .ne 5, 3) := by decide +kernel
theorem dX4_takesStep_27 : decode cX4_takesStep 27 = .ok (.iconst 0, 1) := by decide +kernel
theorem dX4_takesStep_28 : decode cX4_takesStep 28 = .ok (.ireturn, 1) := by decide +kernel
theorem dX4_takesStep_29 : decode cX4_takesStep 29 = .ok (.getstatic 31, 3) := by decide +kernel
theorem dX4_takesStep_32 : decode cX4_takesStep 32 = .ok (.iload_n 1, 1) := by decide +kernel
theorem dX4_takesStep_33 : decode cX4_takesStep 33 = .ok (.invokestatic 35, 3) := by decide +kernel
theorem dX4_takesStep_36 : decode cX4_takesStep 36 = .ok (.istore_n 2, 1) := by decide +kernel
theorem dX4_takesStep_37 : decode cX4_takesStep 37 = .ok (.getstatic 39, 3) := by decide +kernel
theorem dX4_takesStep_40 : decode cX4_takesStep 40 = .ok (.iload_n 1, 1) := by decide +kernel
theorem dX4_takesStep_41 : decode cX4_takesStep 41 = .ok (.invokestatic 35, 3) := by decide +kernel
theorem dX4_takesStep_44 : decode cX4_takesStep 44 = .ok (.istore_n 3, 1) := by decide +kernel
theorem dX4_takesStep_45 : decode cX4_takesStep 45 = .ok (.aload_n 0, 1) := by decide +kernel
theorem dX4_takesStep_46 : decode cX4_takesStep 46 = .ok (.dup, 1) := by decide +kernel
theorem dX4_takesStep_47 : decode cX4_takesStep 47 = .ok (.getfield 7, 3) := by decide +kernel
theorem dX4_takesStep_50 : decode cX4_takesStep 50 = .ok (.iload_n 2, 1) := by decide +kernel
theorem dX4_takesStep_51 : decode cX4_takesStep 51 = .ok (.isub, 1) := by decide +kernel
theorem dX4_takesStep_52 : decode cX4_takesStep 52 = .ok (.putfield 7, 3) := by decide +kernel
theorem dX4_takesStep_55 : decode cX4_takesStep 55 = .ok (.aload_n 0, 1) := by decide +kernel
theorem dX4_takesStep_56 : decode cX4_takesStep 56 = .ok (.dup, 1) := by decide +kernel
theorem dX4_takesStep_57 : decode cX4_takesStep 57 = .ok (.getfield 13, 3) := by decide +kernel
theorem dX4_takesStep_60 : decode cX4_takesStep 60 = .ok (.getstatic 42, 3) := by decide +kernel
theorem dX4_takesStep_63 : decode cX4_takesStep 63 = .ok (.iload_n 1, 1) := by decide +kernel
theorem dX4_takesStep_64 : decode cX4_takesStep 64 = .ok (.invokestatic 35, 3) := by decide +kernel
theorem dX4_takesStep_67 : decode cX4_takesStep 67 = .ok (.iload_n 2, 1) := by decide +kernel
theorem dX4_takesStep_68 : decode cX4_takesStep 68 = .ok (.isub, 1) := by decide +kernel
theorem dX4_takesStep_69 : decode cX4_takesStep 69 = .ok (.iadd, 1) := by decide +kernel
theorem dX4_takesStep_70 : decode cX4_takesStep 70 = .ok (.putfield 13, 3) := by decide +kernel
theorem dX4_takesStep_73 : decode cX4_takesStep 73 = .ok (.aload_n 0, 1) := by decide +kernel
theorem dX4_takesStep_74 : decode cX4_takesStep 74 = .ok (.dup, 1) := by decide +kernel
theorem dX4_takesStep_75 : decode cX4_takesStep 75 = .ok (.getfield 16, 3) := by decide +kernel
theorem dX4_takesStep_78 : decode cX4_takesStep 78 = .ok (.iload_n 3, 1) := by decide +kernel
theorem dX4_takesStep_79 : decode cX4_takesStep 79 = .ok (.isub, 1) := by decide +kernel
theorem dX4_takesStep_80 : decode cX4_takesStep 80 = .ok (.putfield 16, 3) := by decide +kernel
theorem dX4_takesStep_83 : decode cX4_takesStep 83 = .ok (.aload_n 0, 1) := by decide +kernel
theorem dX4_takesStep_84 : decode cX4_takesStep 84 = .ok (.dup, 1) := by decide +kernel
theorem dX4_takesStep_85 : decode cX4_takesStep 85 = .ok (.getfield 19, 3) := by decide +kernel
theorem dX4_takesStep_88 : decode cX4_takesStep 88 = .ok (.iload_n 3, 1) := by decide +kernel
theorem dX4_takesStep_89 : decode cX4_takesStep 89 = .ok (.iadd, 1) := by decide +kernel
theorem dX4_takesStep_90 : decode cX4_takesStep 90 = .ok (.putfield 19, 3) := by decide +kernel
theorem dX4_takesStep_93 : decode cX4_takesStep 93 = .ok (.aload_n 0, 1) := by decide +kernel
theorem dX4_takesStep_94 : decode cX4_takesStep 94 = .ok (.dup, 1) := by decide +kernel
theorem dX4_takesStep_95 : decode cX4_takesStep 95 = .ok (.getfield 22, 3) := by decide +kernel
theorem dX4_takesStep_98 : decode cX4_takesStep 98 = .ok (.iconst 1, 1) := by decide +kernel
theorem dX4_takesStep_99 : decode cX4_takesStep 99 = .ok (.iadd, 1) := by decide +kernel
theorem dX4_takesStep_100 : decode cX4_takesStep 100 = .ok (.putfield 22, 3) := by decide +kernel
theorem dX4_takesStep_103 : decode cX4_takesStep 103 = .ok (.iconst 1, 1) := by decide +kernel
theorem dX4_takesStep_104 : decode cX4_takesStep 104 = .ok (.ireturn, 1) := by decide +kernel
theorem dX5_init_0 : decode cX5_init 0 = .ok (.aload_n 0, 1) := by decide +kernel
theorem dX5_init_1 : decode cX5_init 1 = .ok (.invokespecial 3, 3) := by decide +kernel
theorem dX5_init_4 : decode cX5_init 4 = .ok (.aload_n 0, 1) := by decide +kernel
theorem dX5_init_5 : decode cX5_init 5 = .ok (.new 9, 3) := by decide +kernel
theorem dX5_init_8 : decode cX5_init 8 = .ok (.dup, 1) := by decide +kernel
theorem dX5_init_9 : decode cX5_init 9 = .ok (.invokespecial 11, 3) := by decide +kernel
theorem dX5_init_12 : decode cX5_init 12 = .ok (.putfield 12, 3) := by decide +kernel
theorem dX5_init_15 : decode cX5_init 15 = .ok (.aload_n 0, 1) := by decide +kernel
theorem dX5_init_16 : decode cX5_init 16 = .ok (.new 9, 3) := by decide +kernel
theorem dX5_init_19 : decode cX5_init 19 = .ok (.dup, 1) := by decide +kernel
theorem dX5_init_20 : decode cX5_init 20 = .ok (.invokespecial 11, 3) := by decide +kernel
theorem dX5_init_23 : decode cX5_init 23 = .ok (.putfield 18, 3) := by decide +kernel
theorem dX5_init_26 : decode cX5_init 26 = .ok (.aload_n 0, 1) := by decide +kernel
theorem dX5_init_27 : decode cX5_init 27 = .ok (.new 21, 3) := by decide +kernel
theorem dX5_init_30 : decode cX5_init 30 = .ok (.dup, 1) := by decide +kernel
theorem dX5_init_31 : decode cX5_init 31 = .ok (.iconst 4, 1) := by decide +kernel
theorem dX5_init_32 : decode cX5_init 32 = .ok (.bipush 9, 2) := by decide +kernel
theorem dX5_init_34 : decode cX5_init 34 = .ok (.bipush 9, 2) := by decide +kernel
theorem dX5_init_36 : decode cX5_init 36 = .ok (.invokespecial 23, 3) := by decide +kernel
theorem dX5_init_39 : decode cX5_init 39 = .ok (.putfield 26, 3) := by decide +kernel
theorem dX5_init_42 : decode cX5_init 42 = .ok (.return_, 1) := by decide +kernel
theorem dX5_onBoth_0 : decode cX5_onBoth 0 = .ok (.aload_n 0, 1) := by decide +kernel
theorem dX5_onBoth_1 : decode cX5_onBoth 1 = .ok (.getfield 12, 3) := by decide +kernel
theorem dX5_onBoth_4 : decode cX5_onBoth 4 = .ok (.getfield 30, 3) := by decide +kernel
theorem dX5_onBoth_7 : decode cX5_onBoth 7 = .ok (.aload_n 0, 1) := by decide +kernel
theorem dX5_onBoth_8 : decode cX5_onBoth 8 = .ok (.getfield 18, 3) := by decide +kernel
theorem dX5_onBoth_11 : decode cX5_onBoth 11 = .ok (.getfield 30, 3) := by decide +kernel
theorem dX5_onBoth_14 : decode cX5_onBoth 14 = .ok (.iadd, 1) := by decide +kernel
theorem dX5_onBoth_15 : decode cX5_onBoth 15 = .ok (.ireturn, 1) := by decide +kernel
theorem dX5_openRun_0 : decode cX5_openRun 0 = .ok (.aload_n 0, 1) := by decide +kernel
theorem dX5_openRun_1 : decode cX5_openRun 1 = .ok (.getfield 34, 3) := by decide +kernel
theorem dX5_openRun_4 : decode cX5_openRun 4 = .ok (.istore_n 3, 1) := by decide +kernel
theorem dX5_openRun_5 : decode cX5_openRun 5 = .ok (.aload_n 0, 1) := by decide +kernel
theorem dX5_openRun_6 : decode cX5_openRun 6 = .ok (.dup, 1) := by decide +kernel
theorem dX5_openRun_7 : decode cX5_openRun 7 = .ok (.getfield 34, 3) := by decide +kernel
theorem dX5_openRun_10 : decode cX5_openRun 10 = .ok (.iconst 1, 1) := by decide +kernel
theorem dX5_openRun_11 : decode cX5_openRun 11 = .ok (.iadd, 1) := by decide +kernel
theorem dX5_openRun_12 : decode cX5_openRun 12 = .ok (.putfield 34, 3) := by decide +kernel
theorem dX5_openRun_15 : decode cX5_openRun 15 = .ok (.aload_n 0, 1) := by decide +kernel
theorem dX5_openRun_16 : decode cX5_openRun 16 = .ok (.getfield 26, 3) := by decide +kernel
theorem dX5_openRun_19 : decode cX5_openRun 19 = .ok (.iload_n 3, 1) := by decide +kernel
theorem dX5_openRun_20 : decode cX5_openRun 20 = .ok (.iconst 0, 1) := by decide +kernel
theorem dX5_openRun_21 : decode cX5_openRun 21 = .ok (.iload_n 1, 1) := by decide +kernel
theorem dX5_openRun_22 : decode cX5_openRun 22 = .ok (.invokevirtual 37, 3) := by decide +kernel
theorem dX5_openRun_25 : decode cX5_openRun 25 = .ok (.aload_n 0, 1) := by decide +kernel
theorem dX5_openRun_26 : decode cX5_openRun 26 = .ok (.getfield 26, 3) := by decide +kernel
theorem dX5_openRun_29 : decode cX5_openRun 29 = .ok (.iload_n 3, 1) := by decide +kernel
theorem dX5_openRun_30 : decode cX5_openRun 30 = .ok (.iconst 1, 1) := by decide +kernel
theorem dX5_openRun_31 : decode cX5_openRun 31 = .ok (.iload_n 2, 1) := by decide +kernel
theorem dX5_openRun_32 : decode cX5_openRun 32 = .ok (.invokevirtual 37, 3) := by decide +kernel
theorem dX5_openRun_35 : decode cX5_openRun 35 = .ok (.aload_n 0, 1) := by decide +kernel
theorem dX5_openRun_36 : decode cX5_openRun 36 = .ok (.getfield 26, 3) := by decide +kernel
theorem dX5_openRun_39 : decode cX5_openRun 39 = .ok (.iload_n 3, 1) := by decide +kernel
theorem dX5_openRun_40 : decode cX5_openRun 40 = .ok (.iconst 2, 1) := by decide +kernel
theorem dX5_openRun_41 : decode cX5_openRun 41 = .ok (.iconst 0, 1) := by decide +kernel
theorem dX5_openRun_42 : decode cX5_openRun 42 = .ok (.invokevirtual 37, 3) := by decide +kernel
theorem dX5_openRun_45 : decode cX5_openRun 45 = .ok (.aload_n 0, 1) := by decide +kernel
theorem dX5_openRun_46 : decode cX5_openRun 46 = .ok (.getfield 26, 3) := by decide +kernel
theorem dX5_openRun_49 : decode cX5_openRun 49 = .ok (.iload_n 3, 1) := by decide +kernel
theorem dX5_openRun_50 : decode cX5_openRun 50 = .ok (.iconst 3, 1) := by decide +kernel
theorem dX5_openRun_51 : decode cX5_openRun 51 = .ok (.iconst 1, 1) := by decide +kernel
theorem dX5_openRun_52 : decode cX5_openRun 52 = .ok (.invokevirtual 37, 3) := by decide +kernel
theorem dX5_openRun_55 : decode cX5_openRun 55 = .ok (.iload_n 3, 1) := by decide +kernel
theorem dX5_openRun_56 : decode cX5_openRun 56 = .ok (.ireturn, 1) := by decide +kernel
theorem dX5_isOpen_0 : decode cX5_isOpen 0 = .ok (.aload_n 0, 1) := by decide +kernel
theorem dX5_isOpen_1 : decode cX5_isOpen 1 = .ok (.getfield 26, 3) := by decide +kernel
theorem dX5_isOpen_4 : decode cX5_isOpen 4 = .ok (.iload_n 1, 1) := by decide +kernel
theorem dX5_isOpen_5 : decode cX5_isOpen 5 = .ok (.iconst 3, 1) := by decide +kernel
theorem dX5_isOpen_6 : decode cX5_isOpen 6 = .ok (.invokevirtual 40, 3) := by decide +kernel
theorem dX5_isOpen_9 : decode cX5_isOpen 9 = .ok (.iconst 1, 1) := by decide +kernel
theorem dX5_isOpen_10 : decode cX5_isOpen 10 = .ok (.if_icmp .ne 7, 3) := by decide +kernel
theorem dX5_isOpen_13 : decode cX5_isOpen 13 = .ok (.iconst 1, 1) := by decide +kernel
theorem dX5_isOpen_14 : decode cX5_isOpen 14 = .ok (.goto 4, 3) := by decide +kernel
theorem dX5_isOpen_17 : decode cX5_isOpen 17 = .ok (.iconst 0, 1) := by decide +kernel
theorem dX5_isOpen_18 : decode cX5_isOpen 18 = .ok (.ireturn, 1) := by decide +kernel
theorem dX5_openRuns_0 : decode cX5_openRuns 0 = .ok (.iconst 0, 1) := by decide +kernel
theorem dX5_openRuns_1 : decode cX5_openRuns 1 = .ok (.istore_n 1, 1) := by decide +kernel
theorem dX5_openRuns_2 : decode cX5_openRuns 2 = .ok (.iconst 0, 1) := by decide +kernel
theorem dX5_openRuns_3 : decode cX5_openRuns 3 = .ok (.istore_n 2, 1) := by decide +kernel
theorem dX5_openRuns_4 : decode cX5_openRuns 4 = .ok (.iload_n 2, 1) := by decide +kernel
theorem dX5_openRuns_5 : decode cX5_openRuns 5 = .ok (.aload_n 0, 1) := by decide +kernel
theorem dX5_openRuns_6 : decode cX5_openRuns 6 = .ok (.getfield 34, 3) := by decide +kernel
theorem dX5_openRuns_9 : decode cX5_openRuns 9 = .ok (.if_icmp .ge 20, 3) := by decide +kernel
theorem dX5_openRuns_12 : decode cX5_openRuns 12 = .ok (.aload_n 0, 1) := by decide +kernel
theorem dX5_openRuns_13 : decode cX5_openRuns 13 = .ok (.iload_n 2, 1) := by decide +kernel
theorem dX5_openRuns_14 : decode cX5_openRuns 14 = .ok (.invokevirtual 44, 3) := by decide +kernel
theorem dX5_openRuns_17 : decode cX5_openRuns 17 = .ok (.ifCond .eq 6, 3) := by decide +kernel
theorem dX5_openRuns_20 : decode cX5_openRuns 20 = .ok (.iinc 1 1, 3) := by decide +kernel
theorem dX5_openRuns_23 : decode cX5_openRuns 23 = .ok (.iinc 2 1, 3) := by decide +kernel
theorem dX5_openRuns_26 : decode cX5_openRuns 26 = .ok (.goto (-22), 3) := by decide +kernel
theorem dX5_openRuns_29 : decode cX5_openRuns 29 = .ok (.iload_n 1, 1) := by decide +kernel
theorem dX5_openRuns_30 : decode cX5_openRuns 30 = .ok (.ireturn, 1) := by decide +kernel
theorem dX5_hasInOpenRun_0 : decode cX5_hasInOpenRun 0 = .ok (.iconst 0, 1) := by decide +kernel
theorem dX5_hasInOpenRun_1 : decode cX5_hasInOpenRun 1 = .ok (.istore_n 2, 1) := by decide +kernel
theorem dX5_hasInOpenRun_2 : decode cX5_hasInOpenRun 2 = .ok (.iload_n 2, 1) := by decide +kernel
theorem dX5_hasInOpenRun_3 : decode cX5_hasInOpenRun 3 = .ok (.aload_n 0, 1) := by decide +kernel
theorem dX5_hasInOpenRun_4 : decode cX5_hasInOpenRun 4 = .ok (.getfield 34, 3) := by decide +kernel
theorem dX5_hasInOpenRun_7 : decode cX5_hasInOpenRun 7 = .ok (.if_icmp .ge 32, 3) := by decide +kernel
theorem dX5_hasInOpenRun_10 : decode cX5_hasInOpenRun 10 = .ok (.aload_n 0, 1) := by decide +kernel
theorem dX5_hasInOpenRun_11 : decode cX5_hasInOpenRun 11 = .ok (.iload_n 2, 1) := by decide +kernel
theorem dX5_hasInOpenRun_12 : decode cX5_hasInOpenRun 12 = .ok (.invokevirtual 44, 3) := by decide +kernel
theorem dX5_hasInOpenRun_15 : decode cX5_hasInOpenRun 15 = .ok (.ifCond .eq 18, 3) := by decide +kernel
theorem dX5_hasInOpenRun_18 : decode cX5_hasInOpenRun 18 = .ok (.aload_n 0, 1) := by decide +kernel
theorem dX5_hasInOpenRun_19 : decode cX5_hasInOpenRun 19 = .ok (.getfield 26, 3) := by decide +kernel
theorem dX5_hasInOpenRun_22 : decode cX5_hasInOpenRun 22 = .ok (.iload_n 2, 1) := by decide +kernel
theorem dX5_hasInOpenRun_23 : decode cX5_hasInOpenRun 23 = .ok (.iconst 0, 1) := by decide +kernel
theorem dX5_hasInOpenRun_24 : decode cX5_hasInOpenRun 24 = .ok (.invokevirtual 40, 3) := by decide +kernel
theorem dX5_hasInOpenRun_27 : decode cX5_hasInOpenRun 27 = .ok (.iload_n 1, 1) := by decide +kernel
theorem dX5_hasInOpenRun_28 : decode cX5_hasInOpenRun 28 = .ok (.if_icmp .ne 5, 3) := by decide +kernel
theorem dX5_hasInOpenRun_31 : decode cX5_hasInOpenRun 31 = .ok (.iconst 1, 1) := by decide +kernel
theorem dX5_hasInOpenRun_32 : decode cX5_hasInOpenRun 32 = .ok (.ireturn, 1) := by decide +kernel
theorem dX5_hasInOpenRun_33 : decode cX5_hasInOpenRun 33 = .ok (.iinc 2 1, 3) := by decide +kernel
theorem dX5_hasInOpenRun_36 : decode cX5_hasInOpenRun 36 = .ok (.goto (-34), 3) := by decide +kernel
theorem dX5_hasInOpenRun_39 : decode cX5_hasInOpenRun 39 = .ok (.iconst 0, 1) := by decide +kernel
theorem dX5_hasInOpenRun_40 : decode cX5_hasInOpenRun 40 = .ok (.ireturn, 1) := by decide +kernel
theorem dX5_letRunsFall_0 : decode cX5_letRunsFall 0 = .ok (.iconst 0, 1) := by decide +kernel
theorem dX5_letRunsFall_1 : decode cX5_letRunsFall 1 = .ok (.istore_n 1, 1) := by decide +kernel
theorem dX5_letRunsFall_2 : decode cX5_letRunsFall 2 = .ok (.iload_n 1, 1) := by decide +kernel
theorem dX5_letRunsFall_3 : decode cX5_letRunsFall 3 = .ok (.aload_n 0, 1) := by decide +kernel
theorem dX5_letRunsFall_4 : decode cX5_letRunsFall 4 = .ok (.getfield 34, 3) := by decide +kernel
theorem dX5_letRunsFall_7 : decode cX5_letRunsFall 7 = .ok (.if_icmp .ge 51, 3) := by decide +kernel
theorem dX5_letRunsFall_10 : decode cX5_letRunsFall 10 = .ok (.aload_n 0, 1) := by decide +kernel
theorem dX5_letRunsFall_11 : decode cX5_letRunsFall 11 = .ok (.iload_n 1, 1) := by decide +kernel
theorem dX5_letRunsFall_12 : decode cX5_letRunsFall 12 = .ok (.invokevirtual 44, 3) := by decide +kernel
theorem dX5_letRunsFall_15 : decode cX5_letRunsFall 15 = .ok (.ifCond .eq 37, 3) := by decide +kernel
theorem dX5_letRunsFall_18 : decode cX5_letRunsFall 18 = .ok (.aload_n 0, 1) := by decide +kernel
theorem dX5_letRunsFall_19 : decode cX5_letRunsFall 19 = .ok (.getfield 26, 3) := by decide +kernel
theorem dX5_letRunsFall_22 : decode cX5_letRunsFall 22 = .ok (.iload_n 1, 1) := by decide +kernel
theorem dX5_letRunsFall_23 : decode cX5_letRunsFall 23 = .ok (.iconst 2, 1) := by decide +kernel
theorem dX5_letRunsFall_24 : decode cX5_letRunsFall 24 = .ok (.invokevirtual 40, 3) := by decide +kernel
theorem dX5_letRunsFall_27 : decode cX5_letRunsFall 27 = .ok (.iconst 1, 1) := by decide +kernel
theorem dX5_letRunsFall_28 : decode cX5_letRunsFall 28 = .ok (.iadd, 1) := by decide +kernel
theorem dX5_letRunsFall_29 : decode cX5_letRunsFall 29 = .ok (.istore_n 2, 1) := by decide +kernel
theorem dX5_letRunsFall_30 : decode cX5_letRunsFall 30 = .ok (.aload_n 0, 1) := by decide +kernel
theorem dX5_letRunsFall_31 : decode cX5_letRunsFall 31 = .ok (.getfield 26, 3) := by decide +kernel
theorem dX5_letRunsFall_34 : decode cX5_letRunsFall 34 = .ok (.iload_n 1, 1) := by decide +kernel
theorem dX5_letRunsFall_35 : decode cX5_letRunsFall 35 = .ok (.iconst 2, 1) := by decide +kernel
theorem dX5_letRunsFall_36 : decode cX5_letRunsFall 36 = .ok (.iload_n 2, 1) := by decide +kernel
theorem dX5_letRunsFall_37 : decode cX5_letRunsFall 37 = .ok (.aload_n 0, 1) := by decide +kernel
theorem dX5_letRunsFall_38 : decode cX5_letRunsFall 38 = .ok (.getfield 26, 3) := by decide +kernel
theorem dX5_letRunsFall_41 : decode cX5_letRunsFall 41 = .ok (.iload_n 1, 1) := by decide +kernel
theorem dX5_letRunsFall_42 : decode cX5_letRunsFall 42 = .ok (.iconst 1, 1) := by decide +kernel
theorem dX5_letRunsFall_43 : decode cX5_letRunsFall 43 = .ok (.invokevirtual 40, 3) := by decide +kernel
theorem dX5_letRunsFall_46 : decode cX5_letRunsFall 46 = .ok (.invokestatic 48, 3) := by decide +kernel
theorem dX5_letRunsFall_49 : decode cX5_letRunsFall 49 = .ok (.invokevirtual 37, 3) := by decide +kernel
theorem dX5_letRunsFall_52 : decode cX5_letRunsFall 52 = .ok (.iinc 1 1, 3) := by decide +kernel
theorem dX5_letRunsFall_55 : decode cX5_letRunsFall 55 = .ok (.goto (-53), 3) := by decide +kernel
theorem dX5_letRunsFall_58 : decode cX5_letRunsFall 58 = .ok (.return_, 1) := by decide +kernel
theorem dX5_copyFrom_0 : decode cX5_copyFrom 0 = .ok (.aload_n 0, 1) := by decide +kernel
theorem dX5_copyFrom_1 : decode cX5_copyFrom 1 = .ok (.getfield 12, 3) := by decide +kernel
theorem dX5_copyFrom_4 : decode cX5_copyFrom 4 = .ok (.aload_n 1, 1) := by decide +kernel
theorem dX5_copyFrom_5 : decode cX5_copyFrom 5 = .ok (.getfield 12, 3) := by decide +kernel
theorem dX5_copyFrom_8 : decode cX5_copyFrom 8 = .ok (.invokevirtual 53, 3) := by decide +kernel
theorem dX5_copyFrom_11 : decode cX5_copyFrom 11 = .ok (.aload_n 0, 1) := by decide +kernel
theorem dX5_copyFrom_12 : decode cX5_copyFrom 12 = .ok (.getfield 18, 3) := by decide +kernel
theorem dX5_copyFrom_15 : decode cX5_copyFrom 15 = .ok (.aload_n 1, 1) := by decide +kernel
theorem dX5_copyFrom_16 : decode cX5_copyFrom 16 = .ok (.getfield 18, 3) := by decide +kernel
theorem dX5_copyFrom_19 : decode cX5_copyFrom 19 = .ok (.invokevirtual 53, 3) := by decide +kernel
theorem dX5_copyFrom_22 : decode cX5_copyFrom 22 = .ok (.aload_n 0, 1) := by decide +kernel
theorem dX5_copyFrom_23 : decode cX5_copyFrom 23 = .ok (.getfield 26, 3) := by decide +kernel
theorem dX5_copyFrom_26 : decode cX5_copyFrom 26 = .ok (.aload_n 1, 1) := by decide +kernel
theorem dX5_copyFrom_27 : decode cX5_copyFrom 27 = .ok (.getfield 26, 3) := by decide +kernel
theorem dX5_copyFrom_30 : decode cX5_copyFrom 30 = .ok (.invokevirtual 57, 3) := by decide +kernel
theorem dX5_copyFrom_33 : decode cX5_copyFrom 33 = .ok (.aload_n 0, 1) := by decide +kernel
theorem dX5_copyFrom_34 : decode cX5_copyFrom 34 = .ok (.aload_n 1, 1) := by decide +kernel
theorem dX5_copyFrom_35 : decode cX5_copyFrom 35 = .ok (.getfield 34, 3) := by decide +kernel
theorem dX5_copyFrom_38 : decode cX5_copyFrom 38 = .ok (.putfield 34, 3) := by decide +kernel
theorem dX5_copyFrom_41 : decode cX5_copyFrom 41 = .ok (.aload_n 0, 1) := by decide +kernel
theorem dX5_copyFrom_42 : decode cX5_copyFrom 42 = .ok (.aload_n 1, 1) := by decide +kernel
theorem dX5_copyFrom_43 : decode cX5_copyFrom 43 = .ok (.getfield 60, 3) := by decide +kernel
theorem dX5_copyFrom_46 : decode cX5_copyFrom 46 = .ok (.putfield 60, 3) := by decide +kernel
theorem dX5_copyFrom_49 : decode cX5_copyFrom 49 = .ok (.aload_n 0, 1) := by decide +kernel
theorem dX5_copyFrom_50 : decode cX5_copyFrom 50 = .ok (.aload_n 1, 1) := by decide +kernel
theorem dX5_copyFrom_51 : decode cX5_copyFrom 51 = .ok (.getfield 63, 3) := by decide +kernel
theorem dX5_copyFrom_54 : decode cX5_copyFrom 54 = .ok (.putfield 63, 3) := by decide +kernel
theorem dX5_copyFrom_57 : decode cX5_copyFrom 57 = .ok (.aload_n 0, 1) := by decide +kernel
theorem dX5_copyFrom_58 : decode cX5_copyFrom 58 = .ok (.aload_n 1, 1) := by decide +kernel
theorem dX5_copyFrom_59 : decode cX5_copyFrom 59 = .ok (.getfield 66, 3) := by decide +kernel
theorem dX5_copyFrom_62 : decode cX5_copyFrom 62 = .ok (.putfield 66, 3) := by decide +kernel
theorem dX5_copyFrom_65 : decode cX5_copyFrom 65 = .ok (.aload_n 0, 1) := by decide +kernel
theorem dX5_copyFrom_66 : decode cX5_copyFrom 66 = .ok (.aload_n 1, 1) := by decide +kernel
theorem dX5_copyFrom_67 : decode cX5_copyFrom 67 = .ok (.getfield 69, 3) := by decide +kernel
theorem dX5_copyFrom_70 : decode cX5_copyFrom 70 = .ok (.putfield 69, 3) := by decide +kernel
theorem dX5_copyFrom_73 : decode cX5_copyFrom 73 = .ok (.aload_n 0, 1) := by decide +kernel
theorem dX5_copyFrom_74 : decode cX5_copyFrom 74 = .ok (.aload_n 1, 1) := by decide +kernel
theorem dX5_copyFrom_75 : decode cX5_copyFrom 75 = .ok (.getfield 72, 3) := by decide +kernel
theorem dX5_copyFrom_78 : decode cX5_copyFrom 78 = .ok (.putfield 72, 3) := by decide +kernel
theorem dX5_copyFrom_81 : decode cX5_copyFrom 81 = .ok (.aload_n 0, 1) := by decide +kernel
theorem dX5_copyFrom_82 : decode cX5_copyFrom 82 = .ok (.aload_n 1, 1) := by decide +kernel
theorem dX5_copyFrom_83 : decode cX5_copyFrom 83 = .ok (.getfield 75, 3) := by decide +kernel
theorem dX5_copyFrom_86 : decode cX5_copyFrom 86 = .ok (.putfield 75, 3) := by decide +kernel
theorem dX5_copyFrom_89 : decode cX5_copyFrom 89 = .ok (.return_, 1) := by decide +kernel
theorem dX6_init_0 : decode cX6_init 0 = .ok (.aload_n 0, 1) := by decide +kernel
theorem dX6_init_1 : decode cX6_init 1 = .ok (.invokespecial 3, 3) := by decide +kernel
theorem dX6_init_4 : decode cX6_init 4 = .ok (.aload_n 0, 1) := by decide +kernel
theorem dX6_init_5 : decode cX6_init 5 = .ok (.new 9, 3) := by decide +kernel
theorem dX6_init_8 : decode cX6_init 8 = .ok (.dup, 1) := by decide +kernel
theorem dX6_init_9 : decode cX6_init 9 = .ok (.invokespecial 11, 3) := by decide +kernel
theorem dX6_init_12 : decode cX6_init 12 = .ok (.putfield 12, 3) := by decide +kernel
theorem dX6_init_15 : decode cX6_init 15 = .ok (.aload_n 0, 1) := by decide +kernel
theorem dX6_init_16 : decode cX6_init 16 = .ok (.new 16, 3) := by decide +kernel
theorem dX6_init_19 : decode cX6_init 19 = .ok (.dup, 1) := by decide +kernel
theorem dX6_init_20 : decode cX6_init 20 = .ok (.invokespecial 18, 3) := by decide +kernel
theorem dX6_init_23 : decode cX6_init 23 = .ok (.putfield 19, 3) := by decide +kernel
theorem dX6_init_26 : decode cX6_init 26 = .ok (.aload_n 0, 1) := by decide +kernel
theorem dX6_init_27 : decode cX6_init 27 = .ok (.new 23, 3) := by decide +kernel
theorem dX6_init_30 : decode cX6_init 30 = .ok (.dup, 1) := by decide +kernel
theorem dX6_init_31 : decode cX6_init 31 = .ok (.bipush 6, 2) := by decide +kernel
theorem dX6_init_33 : decode cX6_init 33 = .ok (.bipush 64, 2) := by decide +kernel
theorem dX6_init_35 : decode cX6_init 35 = .ok (.sipush 19998, 3) := by decide +kernel
theorem dX6_init_38 : decode cX6_init 38 = .ok (.invokespecial 25, 3) := by decide +kernel
theorem dX6_init_41 : decode cX6_init 41 = .ok (.putfield 28, 3) := by decide +kernel
theorem dX6_init_44 : decode cX6_init 44 = .ok (.aload_n 0, 1) := by decide +kernel
theorem dX6_init_45 : decode cX6_init 45 = .ok (.new 23, 3) := by decide +kernel
theorem dX6_init_48 : decode cX6_init 48 = .ok (.dup, 1) := by decide +kernel
theorem dX6_init_49 : decode cX6_init 49 = .ok (.iconst 5, 1) := by decide +kernel
theorem dX6_init_50 : decode cX6_init 50 = .ok (.bipush 6, 2) := by decide +kernel
theorem dX6_init_52 : decode cX6_init 52 = .ok (.bipush 6, 2) := by decide +kernel
theorem dX6_init_54 : decode cX6_init 54 = .ok (.invokespecial 25, 3) := by decide +kernel
theorem dX6_init_57 : decode cX6_init 57 = .ok (.putfield 32, 3) := by decide +kernel
theorem dX6_init_60 : decode cX6_init 60 = .ok (.aload_n 0, 1) := by decide +kernel
theorem dX6_init_61 : decode cX6_init 61 = .ok (.new 23, 3) := by decide +kernel
theorem dX6_init_64 : decode cX6_init 64 = .ok (.dup, 1) := by decide +kernel
theorem dX6_init_65 : decode cX6_init 65 = .ok (.bipush 9, 2) := by decide +kernel
theorem dX6_init_67 : decode cX6_init 67 = .ok (.bipush 6, 2) := by decide +kernel
theorem dX6_init_69 : decode cX6_init 69 = .ok (.bipush 6, 2) := by decide +kernel
theorem dX6_init_71 : decode cX6_init 71 = .ok (.invokespecial 25, 3) := by decide +kernel
theorem dX6_init_74 : decode cX6_init 74 = .ok (.putfield 35, 3) := by decide +kernel
theorem dX6_init_77 : decode cX6_init 77 = .ok (.aload_n 0, 1) := by decide +kernel
theorem dX6_init_78 : decode cX6_init 78 = .ok (.new 38, 3) := by decide +kernel
theorem dX6_init_81 : decode cX6_init 81 = .ok (.dup, 1) := by decide +kernel
theorem dX6_init_82 : decode cX6_init 82 = .ok (.invokespecial 40, 3) := by decide +kernel
theorem dX6_init_85 : decode cX6_init 85 = .ok (.putfield 41, 3) := by decide +kernel
theorem dX6_init_88 : decode cX6_init 88 = .ok (.aload_n 0, 1) := by decide +kernel
theorem dX6_init_89 : decode cX6_init 89 = .ok (.new 45, 3) := by decide +kernel
theorem dX6_init_92 : decode cX6_init 92 = .ok (.dup, 1) := by decide +kernel
theorem dX6_init_93 : decode cX6_init 93 = .ok (.invokespecial 47, 3) := by decide +kernel
theorem dX6_init_96 : decode cX6_init 96 = .ok (.putfield 48, 3) := by decide +kernel
theorem dX6_init_99 : decode cX6_init 99 = .ok (.return_, 1) := by decide +kernel
theorem dX6_buy_0 : decode cX6_buy 0 = .ok (.iload_n 1, 1) := by decide +kernel
theorem dX6_buy_1 : decode cX6_buy 1 = .ok (.iconst 1, 1) := by decide +kernel
theorem dX6_buy_2 : decode cX6_buy 2 = .ok (.if_icmp .lt 10, 3) := by decide +kernel
theorem dX6_buy_5 : decode cX6_buy 5 = .ok (.iload_n 1, 1) := by decide +kernel
theorem dX6_buy_6 : decode cX6_buy 6 = .ok (.sipush 9999, 3) := by decide +kernel
theorem dX6_buy_9 : decode cX6_buy 9 = .ok (.if_icmp .le 13, 3) := by decide +kernel
theorem dX6_buy_12 : decode cX6_buy 12 = .ok (.new 52, 3) := by decide +kernel
theorem dX6_buy_15 : decode cX6_buy 15 = .ok (.dup, 1) := by decide +kernel
theorem dX6_buy_16 : decode cX6_buy 16 = .ok (.ldc 54, 2) := by decide +kernel
theorem dX6_buy_18 : decode cX6_buy 18 = .ok (.invokespecial 56, 3) := by decide +kernel
theorem dX6_buy_21 : decode cX6_buy 21 = .ok (.athrow, 1) := by decide +kernel
theorem dX6_buy_22 : decode cX6_buy 22 = .ok (.aload_n 0, 1) := by decide +kernel
theorem dX6_buy_23 : decode cX6_buy 23 = .ok (.getfield 12, 3) := by decide +kernel
theorem dX6_buy_26 : decode cX6_buy 26 = .ok (.getfield 59, 3) := by decide +kernel
theorem dX6_buy_29 : decode cX6_buy 29 = .ok (.iconst 4, 1) := by decide +kernel
theorem dX6_buy_30 : decode cX6_buy 30 = .ok (.if_icmp .lt 13, 3) := by decide +kernel
theorem dX6_buy_33 : decode cX6_buy 33 = .ok (.new 63, 3) := by decide +kernel
theorem dX6_buy_36 : decode cX6_buy 36 = .ok (.dup, 1) := by decide +kernel
theorem dX6_buy_37 : decode cX6_buy 37 = .ok (.ldc 65, 2) := by decide +kernel
theorem dX6_buy_39 : decode cX6_buy 39 = .ok (.invokespecial 67, 3) := by decide +kernel
theorem dX6_buy_42 : decode cX6_buy 42 = .ok (.athrow, 1) := by decide +kernel
theorem dX6_buy_43 : decode cX6_buy 43 = .ok (.aload_n 0, 1) := by decide +kernel
theorem dX6_buy_44 : decode cX6_buy 44 = .ok (.getfield 12, 3) := by decide +kernel
theorem dX6_buy_47 : decode cX6_buy 47 = .ok (.iload_n 1, 1) := by decide +kernel
theorem dX6_buy_48 : decode cX6_buy 48 = .ok (.invokevirtual 68, 3) := by decide +kernel
theorem dX6_buy_51 : decode cX6_buy 51 = .ok (.ireturn, 1) := by decide +kernel
theorem dX6_join_0 : decode cX6_join 0 = .ok (.aload_n 0, 1) := by decide +kernel
theorem dX6_join_1 : decode cX6_join 1 = .ok (.getfield 12, 3) := by decide +kernel
theorem dX6_join_4 : decode cX6_join 4 = .ok (.iload_n 1, 1) := by decide +kernel
theorem dX6_join_5 : decode cX6_join 5 = .ok (.invokevirtual 72, 3) := by decide +kernel
theorem dX6_join_8 : decode cX6_join 8 = .ok (.ifCond .ne 13, 3) := by decide +kernel
theorem dX6_join_11 : decode cX6_join 11 = .ok (.new 76, 3) := by decide +kernel
theorem dX6_join_14 : decode cX6_join 14 = .ok (.dup, 1) := by decide +kernel
theorem dX6_join_15 : decode cX6_join 15 = .ok (.ldc 78, 2) := by decide +kernel
theorem dX6_join_17 : decode cX6_join 17 = .ok (.invokespecial 80, 3) := by decide +kernel
theorem dX6_join_20 : decode cX6_join 20 = .ok (.athrow, 1) := by decide +kernel
theorem dX6_join_21 : decode cX6_join 21 = .ok (.aload_n 0, 1) := by decide +kernel
theorem dX6_join_22 : decode cX6_join 22 = .ok (.getfield 12, 3) := by decide +kernel
theorem dX6_join_25 : decode cX6_join 25 = .ok (.getfield 81, 3) := by decide +kernel
theorem dX6_join_28 : decode cX6_join 28 = .ok (.istore_n 2, 1) := by decide +kernel
theorem dX6_join_29 : decode cX6_join 29 = .ok (.aload_n 0, 1) := by decide +kernel
theorem dX6_join_30 : decode cX6_join 30 = .ok (.getfield 12, 3) := by decide +kernel
theorem dX6_join_33 : decode cX6_join 33 = .ok (.iload_n 1, 1) := by decide +kernel
theorem dX6_join_34 : decode cX6_join 34 = .ok (.putfield 81, 3) := by decide +kernel
theorem dX6_join_37 : decode cX6_join 37 = .ok (.iload_n 2, 1) := by decide +kernel
theorem dX6_join_38 : decode cX6_join 38 = .ok (.ireturn, 1) := by decide +kernel
theorem dX6_cast_0 : decode cX6_cast 0 = .ok (.iload_n 1, 1) := by decide +kernel
theorem dX6_cast_1 : decode cX6_cast 1 = .ok (.iconst 1, 1) := by decide +kernel
theorem dX6_cast_2 : decode cX6_cast 2 = .ok (.if_icmp .lt 9, 3) := by decide +kernel
theorem dX6_cast_5 : decode cX6_cast 5 = .ok (.iload_n 1, 1) := by decide +kernel
theorem dX6_cast_6 : decode cX6_cast 6 = .ok (.bipush 24, 2) := by decide +kernel
theorem dX6_cast_8 : decode cX6_cast 8 = .ok (.if_icmp .le 13, 3) := by decide +kernel
theorem dX6_cast_11 : decode cX6_cast 11 = .ok (.new 52, 3) := by decide +kernel
theorem dX6_cast_14 : decode cX6_cast 14 = .ok (.dup, 1) := by decide +kernel
theorem dX6_cast_15 : decode cX6_cast 15 = .ok (.ldc 84, 2) := by decide +kernel
theorem dX6_cast_17 : decode cX6_cast 17 = .ok (.invokespecial 56, 3) := by decide +kernel
theorem dX6_cast_20 : decode cX6_cast 20 = .ok (.athrow, 1) := by decide +kernel
theorem dX6_cast_21 : decode cX6_cast 21 = .ok (.aload_n 0, 1) := by decide +kernel
theorem dX6_cast_22 : decode cX6_cast 22 = .ok (.getfield 12, 3) := by decide +kernel
theorem dX6_cast_25 : decode cX6_cast 25 = .ok (.invokevirtual 86, 3) := by decide +kernel
theorem dX6_cast_28 : decode cX6_cast 28 = .ok (.iload_n 1, 1) := by decide +kernel
theorem dX6_cast_29 : decode cX6_cast 29 = .ok (.iconst 2, 1) := by decide +kernel
theorem dX6_cast_30 : decode cX6_cast 30 = .ok (.imul, 1) := by decide +kernel
theorem dX6_cast_31 : decode cX6_cast 31 = .ok (.if_icmp .lt 17, 3) := by decide +kernel
theorem dX6_cast_34 : decode cX6_cast 34 = .ok (.aload_n 0, 1) := by decide +kernel
theorem dX6_cast_35 : decode cX6_cast 35 = .ok (.getfield 19, 3) := by decide +kernel
theorem dX6_cast_38 : decode cX6_cast 38 = .ok (.invokevirtual 90, 3) := by decide +kernel
theorem dX6_cast_41 : decode cX6_cast 41 = .ok (.iload_n 1, 1) := by decide +kernel
theorem dX6_cast_42 : decode cX6_cast 42 = .ok (.iadd, 1) := by decide +kernel
theorem dX6_cast_43 : decode cX6_cast 43 = .ok (.bipush 24, 2) := by decide +kernel
theorem dX6_cast_45 : decode cX6_cast 45 = .ok (.if_icmp .le 13, 3) := by decide +kernel
theorem dX6_cast_48 : decode cX6_cast 48 = .ok (.new 63, 3) := by decide +kernel
theorem dX6_cast_51 : decode cX6_cast 51 = .ok (.dup, 1) := by decide +kernel
theorem dX6_cast_52 : decode cX6_cast 52 = .ok (.ldc 93, 2) := by decide +kernel
theorem dX6_cast_54 : decode cX6_cast 54 = .ok (.invokespecial 67, 3) := by decide +kernel
theorem dX6_cast_57 : decode cX6_cast 57 = .ok (.athrow, 1) := by decide +kernel
theorem dX6_cast_58 : decode cX6_cast 58 = .ok (.aload_n 0, 1) := by decide +kernel
theorem dX6_cast_59 : decode cX6_cast 59 = .ok (.getfield 41, 3) := by decide +kernel
theorem dX6_cast_62 : decode cX6_cast 62 = .ok (.aload_n 0, 1) := by decide +kernel
theorem dX6_cast_63 : decode cX6_cast 63 = .ok (.getfield 19, 3) := by decide +kernel
theorem dX6_cast_66 : decode cX6_cast 66 = .ok (.aload_n 0, 1) := by decide +kernel
theorem dX6_cast_67 : decode cX6_cast 67 = .ok (.getfield 12, 3) := by decide +kernel
theorem dX6_cast_70 : decode cX6_cast 70 = .ok (.invokevirtual 95, 3) := by decide +kernel
theorem dX6_cast_73 : decode cX6_cast 73 = .ok (.iconst 0, 1) := by decide +kernel
theorem dX6_cast_74 : decode cX6_cast 74 = .ok (.istore_n 2, 1) := by decide +kernel
theorem dX6_cast_75 : decode cX6_cast 75 = .ok (.iload_n 2, 1) := by decide +kernel
theorem dX6_cast_76 : decode cX6_cast 76 = .ok (.iload_n 1, 1) := by decide +kernel
theorem dX6_cast_77 : decode cX6_cast 77 = .ok (.if_icmp .ge 18, 3) := by decide +kernel
theorem dX6_cast_80 : decode cX6_cast 80 = .ok (.aload_n 0, 1) := by decide +kernel
theorem dX6_cast_81 : decode cX6_cast 81 = .ok (.iconst 0, 1) := by decide +kernel
theorem dX6_cast_82 : decode cX6_cast 82 = .ok (.iconst 1, 1) := by decide +kernel
theorem dX6_cast_83 : decode cX6_cast 83 = .ok (.iconst 0, 1) := by decide +kernel
theorem dX6_cast_84 : decode cX6_cast 84 = .ok (.iconst 2, 1) := by decide +kernel
theorem dX6_cast_85 : decode cX6_cast 85 = .ok (.invokevirtual 99, 3) := by decide +kernel
theorem dX6_cast_88 : decode cX6_cast 88 = .ok (.pop, 1) := by decide +kernel
theorem dX6_cast_89 : decode cX6_cast 89 = .ok (.iinc 2 1, 3) := by decide +kernel
theorem dX6_cast_92 : decode cX6_cast 92 = .ok (.goto (-17), 3) := by decide +kernel
theorem dX6_cast_95 : decode cX6_cast 95 = .ok (.aload_n 0, 1) := by decide +kernel
theorem dX6_cast_96 : decode cX6_cast 96 = .ok (.getfield 19, 3) := by decide +kernel
theorem dX6_cast_99 : decode cX6_cast 99 = .ok (.invokevirtual 90, 3) := by decide +kernel
theorem dX6_cast_102 : decode cX6_cast 102 = .ok (.ireturn, 1) := by decide +kernel
theorem dX6_work_0 : decode cX6_work 0 = .ok (.aload_n 0, 1) := by decide +kernel
theorem dX6_work_1 : decode cX6_work 1 = .ok (.iload_n 1, 1) := by decide +kernel
theorem dX6_work_2 : decode cX6_work 2 = .ok (.ifCond .eq 7, 3) := by decide +kernel
theorem dX6_work_5 : decode cX6_work 5 = .ok (.iconst 2, 1) := by decide +kernel
theorem dX6_work_6 : decode cX6_work 6 = .ok (.goto 4, 3) := by decide +kernel
theorem dX6_work_9 : decode cX6_work 9 = .ok (.iconst 1, 1) := by decide +kernel
theorem dX6_work_10 : decode cX6_work 10 = .ok (.invokevirtual 103, 3) := by decide +kernel
theorem dX6_work_13 : decode cX6_work 13 = .ok (.ifCond .ne 13, 3) := by decide +kernel
theorem dX6_work_16 : decode cX6_work 16 = .ok (.new 63, 3) := by decide +kernel
theorem dX6_work_19 : decode cX6_work 19 = .ok (.dup, 1) := by decide +kernel
theorem dX6_work_20 : decode cX6_work 20 = .ok (.ldc 106, 2) := by decide +kernel
theorem dX6_work_22 : decode cX6_work 22 = .ok (.invokespecial 67, 3) := by decide +kernel
theorem dX6_work_25 : decode cX6_work 25 = .ok (.athrow, 1) := by decide +kernel
theorem dX6_work_26 : decode cX6_work 26 = .ok (.aload_n 0, 1) := by decide +kernel
theorem dX6_work_27 : decode cX6_work 27 = .ok (.getfield 41, 3) := by decide +kernel
theorem dX6_work_30 : decode cX6_work 30 = .ok (.aload_n 0, 1) := by decide +kernel
theorem dX6_work_31 : decode cX6_work 31 = .ok (.getfield 19, 3) := by decide +kernel
theorem dX6_work_34 : decode cX6_work 34 = .ok (.aload_n 0, 1) := by decide +kernel
theorem dX6_work_35 : decode cX6_work 35 = .ok (.getfield 12, 3) := by decide +kernel
theorem dX6_work_38 : decode cX6_work 38 = .ok (.invokevirtual 95, 3) := by decide +kernel
theorem dX6_work_41 : decode cX6_work 41 = .ok (.aload_n 0, 1) := by decide +kernel
theorem dX6_work_42 : decode cX6_work 42 = .ok (.iload_n 1, 1) := by decide +kernel
theorem dX6_work_43 : decode cX6_work 43 = .ok (.ifCond .eq 7, 3) := by decide +kernel
theorem dX6_work_46 : decode cX6_work 46 = .ok (.iconst 2, 1) := by decide +kernel
theorem dX6_work_47 : decode cX6_work 47 = .ok (.goto 4, 3) := by decide +kernel
theorem dX6_work_50 : decode cX6_work 50 = .ok (.iconst 1, 1) := by decide +kernel
theorem dX6_work_51 : decode cX6_work 51 = .ok (.invokevirtual 108, 3) := by decide +kernel
theorem dX6_work_54 : decode cX6_work 54 = .ok (.ireturn, 1) := by decide +kernel
theorem dX6_over_0 : decode cX6_over 0 = .ok (.aload_n 0, 1) := by decide +kernel
theorem dX6_over_1 : decode cX6_over 1 = .ok (.iconst 3, 1) := by decide +kernel
theorem dX6_over_2 : decode cX6_over 2 = .ok (.invokevirtual 103, 3) := by decide +kernel
theorem dX6_over_5 : decode cX6_over 5 = .ok (.ifCond .ne 13, 3) := by decide +kernel
theorem dX6_over_8 : decode cX6_over 8 = .ok (.new 63, 3) := by decide +kernel
theorem dX6_over_11 : decode cX6_over 11 = .ok (.dup, 1) := by decide +kernel
theorem dX6_over_12 : decode cX6_over 12 = .ok (.ldc 111, 2) := by decide +kernel
theorem dX6_over_14 : decode cX6_over 14 = .ok (.invokespecial 67, 3) := by decide +kernel
theorem dX6_over_17 : decode cX6_over 17 = .ok (.athrow, 1) := by decide +kernel
theorem dX6_over_18 : decode cX6_over 18 = .ok (.aload_n 0, 1) := by decide +kernel
theorem dX6_over_19 : decode cX6_over 19 = .ok (.getfield 41, 3) := by decide +kernel
theorem dX6_over_22 : decode cX6_over 22 = .ok (.aload_n 0, 1) := by decide +kernel
theorem dX6_over_23 : decode cX6_over 23 = .ok (.getfield 19, 3) := by decide +kernel
theorem dX6_over_26 : decode cX6_over 26 = .ok (.aload_n 0, 1) := by decide +kernel
theorem dX6_over_27 : decode cX6_over 27 = .ok (.getfield 12, 3) := by decide +kernel
theorem dX6_over_30 : decode cX6_over 30 = .ok (.invokevirtual 95, 3) := by decide +kernel
theorem dX6_over_33 : decode cX6_over 33 = .ok (.aload_n 0, 1) := by decide +kernel
theorem dX6_over_34 : decode cX6_over 34 = .ok (.invokevirtual 113, 3) := by decide +kernel
theorem dX6_over_37 : decode cX6_over 37 = .ok (.ireturn, 1) := by decide +kernel
theorem dX6_together_0 : decode cX6_together 0 = .ok (.iload_n 1, 1) := by decide +kernel
theorem dX6_together_1 : decode cX6_together 1 = .ok (.iconst 2, 1) := by decide +kernel
theorem dX6_together_2 : decode cX6_together 2 = .ok (.if_icmp .eq 18, 3) := by decide +kernel
theorem dX6_together_5 : decode cX6_together 5 = .ok (.iload_n 1, 1) := by decide +kernel
theorem dX6_together_6 : decode cX6_together 6 = .ok (.iconst 3, 1) := by decide +kernel
theorem dX6_together_7 : decode cX6_together 7 = .ok (.if_icmp .eq 13, 3) := by decide +kernel
theorem dX6_together_10 : decode cX6_together 10 = .ok (.new 52, 3) := by decide +kernel
theorem dX6_together_13 : decode cX6_together 13 = .ok (.dup, 1) := by decide +kernel
theorem dX6_together_14 : decode cX6_together 14 = .ok (.ldc 116, 2) := by decide +kernel
theorem dX6_together_16 : decode cX6_together 16 = .ok (.invokespecial 56, 3) := by decide +kernel
theorem dX6_together_19 : decode cX6_together 19 = .ok (.athrow, 1) := by decide +kernel
theorem dX6_together_20 : decode cX6_together 20 = .ok (.aload_n 0, 1) := by decide +kernel
theorem dX6_together_21 : decode cX6_together 21 = .ok (.iload_n 1, 1) := by decide +kernel
theorem dX6_together_22 : decode cX6_together 22 = .ok (.iconst 2, 1) := by decide +kernel
theorem dX6_together_23 : decode cX6_together 23 = .ok (.if_icmp .ne 7, 3) := by decide +kernel
theorem dX6_together_26 : decode cX6_together 26 = .ok (.iconst 4, 1) := by decide +kernel
theorem dX6_together_27 : decode cX6_together 27 = .ok (.goto 5, 3) := by decide +kernel
theorem dX6_together_30 : decode cX6_together 30 = .ok (.bipush 8, 2) := by decide +kernel
theorem dX6_together_32 : decode cX6_together 32 = .ok (.invokevirtual 103, 3) := by decide +kernel
theorem dX6_together_35 : decode cX6_together 35 = .ok (.ifCond .ne 13, 3) := by decide +kernel
theorem dX6_together_38 : decode cX6_together 38 = .ok (.new 63, 3) := by decide +kernel
theorem dX6_together_41 : decode cX6_together 41 = .ok (.dup, 1) := by decide +kernel
theorem dX6_together_42 : decode cX6_together 42 = .ok (.ldc 118, 2) := by decide +kernel
theorem dX6_together_44 : decode cX6_together 44 = .ok (.invokespecial 67, 3) := by decide +kernel
theorem dX6_together_47 : decode cX6_together 47 = .ok (.athrow, 1) := by decide +kernel
theorem dX6_together_48 : decode cX6_together 48 = .ok (.aload_n 0, 1) := by decide +kernel
theorem dX6_together_49 : decode cX6_together 49 = .ok (.getfield 41, 3) := by decide +kernel
theorem dX6_together_52 : decode cX6_together 52 = .ok (.aload_n 0, 1) := by decide +kernel
theorem dX6_together_53 : decode cX6_together 53 = .ok (.getfield 19, 3) := by decide +kernel
theorem dX6_together_56 : decode cX6_together 56 = .ok (.aload_n 0, 1) := by decide +kernel
theorem dX6_together_57 : decode cX6_together 57 = .ok (.getfield 12, 3) := by decide +kernel
theorem dX6_together_60 : decode cX6_together 60 = .ok (.invokevirtual 95, 3) := by decide +kernel
theorem dX6_together_63 : decode cX6_together 63 = .ok (.aload_n 0, 1) := by decide +kernel
theorem dX6_together_64 : decode cX6_together 64 = .ok (.iload_n 1, 1) := by decide +kernel
theorem dX6_together_65 : decode cX6_together 65 = .ok (.iload_n 2, 1) := by decide +kernel
theorem dX6_together_66 : decode cX6_together 66 = .ok (.ifCond .eq 7, 3) := by decide +kernel
theorem dX6_together_69 : decode cX6_together 69 = .ok (.iconst 5, 1) := by decide +kernel
theorem dX6_together_70 : decode cX6_together 70 = .ok (.goto 4, 3) := by decide +kernel
theorem dX6_together_73 : decode cX6_together 73 = .ok (.iconst 4, 1) := by decide +kernel
theorem dX6_together_74 : decode cX6_together 74 = .ok (.invokevirtual 120, 3) := by decide +kernel
theorem dX6_together_77 : decode cX6_together 77 = .ok (.ireturn, 1) := by decide +kernel
theorem dX6_slip_0 : decode cX6_slip 0 = .ok (.aload_n 0, 1) := by decide +kernel
theorem dX6_slip_1 : decode cX6_slip 1 = .ok (.bipush 6, 2) := by decide +kernel
theorem dX6_slip_3 : decode cX6_slip 3 = .ok (.invokevirtual 103, 3) := by decide +kernel
theorem dX6_slip_6 : decode cX6_slip 6 = .ok (.ifCond .ne 13, 3) := by decide +kernel
theorem dX6_slip_9 : decode cX6_slip 9 = .ok (.new 63, 3) := by decide +kernel
theorem dX6_slip_12 : decode cX6_slip 12 = .ok (.dup, 1) := by decide +kernel
theorem dX6_slip_13 : decode cX6_slip 13 = .ok (.ldc 124, 2) := by decide +kernel
theorem dX6_slip_15 : decode cX6_slip 15 = .ok (.invokespecial 67, 3) := by decide +kernel
theorem dX6_slip_18 : decode cX6_slip 18 = .ok (.athrow, 1) := by decide +kernel
theorem dX6_slip_19 : decode cX6_slip 19 = .ok (.aload_n 0, 1) := by decide +kernel
theorem dX6_slip_20 : decode cX6_slip 20 = .ok (.getfield 41, 3) := by decide +kernel
theorem dX6_slip_23 : decode cX6_slip 23 = .ok (.aload_n 0, 1) := by decide +kernel
theorem dX6_slip_24 : decode cX6_slip 24 = .ok (.getfield 19, 3) := by decide +kernel
theorem dX6_slip_27 : decode cX6_slip 27 = .ok (.aload_n 0, 1) := by decide +kernel
theorem dX6_slip_28 : decode cX6_slip 28 = .ok (.getfield 12, 3) := by decide +kernel
theorem dX6_slip_31 : decode cX6_slip 31 = .ok (.invokevirtual 95, 3) := by decide +kernel
theorem dX6_slip_34 : decode cX6_slip 34 = .ok (.aload_n 0, 1) := by decide +kernel
theorem dX6_slip_35 : decode cX6_slip 35 = .ok (.invokevirtual 126, 3) := by decide +kernel
theorem dX6_slip_38 : decode cX6_slip 38 = .ok (.ireturn, 1) := by decide +kernel
theorem dX6_cross_0 : decode cX6_cross 0 = .ok (.iload_n 1, 1) := by decide +kernel
theorem dX6_cross_1 : decode cX6_cross 1 = .ok (.iconst 1, 1) := by decide +kernel
theorem dX6_cross_2 : decode cX6_cross 2 = .ok (.if_icmp .lt 18, 3) := by decide +kernel
theorem dX6_cross_5 : decode cX6_cross 5 = .ok (.iload_n 1, 1) := by decide +kernel
theorem dX6_cross_6 : decode cX6_cross 6 = .ok (.iconst 3, 1) := by decide +kernel
theorem dX6_cross_7 : decode cX6_cross 7 = .ok (.if_icmp .gt 13, 3) := by decide +kernel
theorem dX6_cross_10 : decode cX6_cross 10 = .ok (.iload_n 2, 1) := by decide +kernel
theorem dX6_cross_11 : decode cX6_cross 11 = .ok (.iconst 1, 1) := by decide +kernel
theorem dX6_cross_12 : decode cX6_cross 12 = .ok (.if_icmp .lt 8, 3) := by decide +kernel
theorem dX6_cross_15 : decode cX6_cross 15 = .ok (.iload_n 2, 1) := by decide +kernel
theorem dX6_cross_16 : decode cX6_cross 16 = .ok (.iconst 3, 1) := by decide +kernel
theorem dX6_cross_17 : decode cX6_cross 17 = .ok (.if_icmp .le 13, 3) := by decide +kernel
theorem dX6_cross_20 : decode cX6_cross 20 = .ok (.new 52, 3) := by decide +kernel
theorem dX6_cross_23 : decode cX6_cross 23 = .ok (.dup, 1) := by decide +kernel
theorem dX6_cross_24 : decode cX6_cross 24 = .ok (.ldc 129, 2) := by decide +kernel
theorem dX6_cross_26 : decode cX6_cross 26 = .ok (.invokespecial 56, 3) := by decide +kernel
theorem dX6_cross_29 : decode cX6_cross 29 = .ok (.athrow, 1) := by decide +kernel
theorem dX6_cross_30 : decode cX6_cross 30 = .ok (.aload_n 0, 1) := by decide +kernel
theorem dX6_cross_31 : decode cX6_cross 31 = .ok (.getfield 19, 3) := by decide +kernel
theorem dX6_cross_34 : decode cX6_cross 34 = .ok (.getfield 131, 3) := by decide +kernel
theorem dX6_cross_37 : decode cX6_cross 37 = .ok (.getfield 135, 3) := by decide +kernel
theorem dX6_cross_40 : decode cX6_cross 40 = .ok (.iload_n 1, 1) := by decide +kernel
theorem dX6_cross_41 : decode cX6_cross 41 = .ok (.iload_n 2, 1) := by decide +kernel
theorem dX6_cross_42 : decode cX6_cross 42 = .ok (.iadd, 1) := by decide +kernel
theorem dX6_cross_43 : decode cX6_cross 43 = .ok (.if_icmp .ge 13, 3) := by decide +kernel
theorem dX6_cross_46 : decode cX6_cross 46 = .ok (.new 63, 3) := by decide +kernel
theorem dX6_cross_49 : decode cX6_cross 49 = .ok (.dup, 1) := by decide +kernel
theorem dX6_cross_50 : decode cX6_cross 50 = .ok (.ldc 138, 2) := by decide +kernel
theorem dX6_cross_52 : decode cX6_cross 52 = .ok (.invokespecial 67, 3) := by decide +kernel
theorem dX6_cross_55 : decode cX6_cross 55 = .ok (.athrow, 1) := by decide +kernel
theorem dX6_cross_56 : decode cX6_cross 56 = .ok (.aload_n 0, 1) := by decide +kernel
theorem dX6_cross_57 : decode cX6_cross 57 = .ok (.getfield 41, 3) := by decide +kernel
theorem dX6_cross_60 : decode cX6_cross 60 = .ok (.aload_n 0, 1) := by decide +kernel
theorem dX6_cross_61 : decode cX6_cross 61 = .ok (.getfield 19, 3) := by decide +kernel
theorem dX6_cross_64 : decode cX6_cross 64 = .ok (.aload_n 0, 1) := by decide +kernel
theorem dX6_cross_65 : decode cX6_cross 65 = .ok (.getfield 12, 3) := by decide +kernel
theorem dX6_cross_68 : decode cX6_cross 68 = .ok (.invokevirtual 95, 3) := by decide +kernel
theorem dX6_cross_71 : decode cX6_cross 71 = .ok (.aload_n 0, 1) := by decide +kernel
theorem dX6_cross_72 : decode cX6_cross 72 = .ok (.iload_n 1, 1) := by decide +kernel
theorem dX6_cross_73 : decode cX6_cross 73 = .ok (.iload_n 2, 1) := by decide +kernel
theorem dX6_cross_74 : decode cX6_cross 74 = .ok (.invokevirtual 140, 3) := by decide +kernel
theorem dX6_cross_77 : decode cX6_cross 77 = .ok (.ireturn, 1) := by decide +kernel
theorem dX6_turn_0 : decode cX6_turn 0 = .ok (.aload_n 0, 1) := by decide +kernel
theorem dX6_turn_1 : decode cX6_turn 1 = .ok (.getfield 19, 3) := by decide +kernel
theorem dX6_turn_4 : decode cX6_turn 4 = .ok (.invokevirtual 90, 3) := by decide +kernel
theorem dX6_turn_7 : decode cX6_turn 7 = .ok (.ifCond .ne 13, 3) := by decide +kernel
theorem dX6_turn_10 : decode cX6_turn 10 = .ok (.new 63, 3) := by decide +kernel
theorem dX6_turn_13 : decode cX6_turn 13 = .ok (.dup, 1) := by decide +kernel
theorem dX6_turn_14 : decode cX6_turn 14 = .ok (.ldc 143, 2) := by decide +kernel
theorem dX6_turn_16 : decode cX6_turn 16 = .ok (.invokespecial 67, 3) := by decide +kernel
theorem dX6_turn_19 : decode cX6_turn 19 = .ok (.athrow, 1) := by decide +kernel
theorem dX6_turn_20 : decode cX6_turn 20 = .ok (.aload_n 0, 1) := by decide +kernel
theorem dX6_turn_21 : decode cX6_turn 21 = .ok (.getfield 41, 3) := by decide +kernel
theorem dX6_turn_24 : decode cX6_turn 24 = .ok (.aload_n 0, 1) := by decide +kernel
theorem dX6_turn_25 : decode cX6_turn 25 = .ok (.getfield 19, 3) := by decide +kernel
theorem dX6_turn_28 : decode cX6_turn 28 = .ok (.aload_n 0, 1) := by decide +kernel
theorem dX6_turn_29 : decode cX6_turn 29 = .ok (.getfield 12, 3) := by decide +kernel
theorem dX6_turn_32 : decode cX6_turn 32 = .ok (.invokevirtual 95, 3) := by decide +kernel
theorem dX6_turn_35 : decode cX6_turn 35 = .ok (.aload_n 0, 1) := by decide +kernel
theorem dX6_turn_36 : decode cX6_turn 36 = .ok (.getfield 19, 3) := by decide +kernel
theorem dX6_turn_39 : decode cX6_turn 39 = .ok (.getfield 131, 3) := by decide +kernel
theorem dX6_turn_42 : decode cX6_turn 42 = .ok (.getfield 135, 3) := by decide +kernel
theorem dX6_turn_45 : decode cX6_turn 45 = .ok (.ifCond .le 16, 3) := by decide +kernel
theorem dX6_turn_48 : decode cX6_turn 48 = .ok (.aload_n 0, 1) := by decide +kernel
theorem dX6_turn_49 : decode cX6_turn 49 = .ok (.getfield 19, 3) := by decide +kernel
theorem dX6_turn_52 : decode cX6_turn 52 = .ok (.dup, 1) := by decide +kernel
theorem dX6_turn_53 : decode cX6_turn 53 = .ok (.getfield 145, 3) := by decide +kernel
theorem dX6_turn_56 : decode cX6_turn 56 = .ok (.iconst 1, 1) := by decide +kernel
theorem dX6_turn_57 : decode cX6_turn 57 = .ok (.iadd, 1) := by decide +kernel
theorem dX6_turn_58 : decode cX6_turn 58 = .ok (.putfield 145, 3) := by decide +kernel
theorem dX6_turn_61 : decode cX6_turn 61 = .ok (.aload_n 0, 1) := by decide +kernel
theorem dX6_turn_62 : decode cX6_turn 62 = .ok (.getfield 19, 3) := by decide +kernel
theorem dX6_turn_65 : decode cX6_turn 65 = .ok (.getfield 131, 3) := by decide +kernel
theorem dX6_turn_68 : decode cX6_turn 68 = .ok (.aload_n 0, 1) := by decide +kernel
theorem dX6_turn_69 : decode cX6_turn 69 = .ok (.getfield 19, 3) := by decide +kernel
theorem dX6_turn_72 : decode cX6_turn 72 = .ok (.getfield 148, 3) := by decide +kernel
theorem dX6_turn_75 : decode cX6_turn 75 = .ok (.invokevirtual 151, 3) := by decide +kernel
theorem dX6_turn_78 : decode cX6_turn 78 = .ok (.aload_n 0, 1) := by decide +kernel
theorem dX6_turn_79 : decode cX6_turn 79 = .ok (.getfield 19, 3) := by decide +kernel
theorem dX6_turn_82 : decode cX6_turn 82 = .ok (.dup, 1) := by decide +kernel
theorem dX6_turn_83 : decode cX6_turn 83 = .ok (.getfield 155, 3) := by decide +kernel
theorem dX6_turn_86 : decode cX6_turn 86 = .ok (.iconst 1, 1) := by decide +kernel
theorem dX6_turn_87 : decode cX6_turn 87 = .ok (.iadd, 1) := by decide +kernel
theorem dX6_turn_88 : decode cX6_turn 88 = .ok (.putfield 155, 3) := by decide +kernel
theorem dX6_turn_91 : decode cX6_turn 91 = .ok (.aload_n 0, 1) := by decide +kernel
theorem dX6_turn_92 : decode cX6_turn 92 = .ok (.getfield 19, 3) := by decide +kernel
theorem dX6_turn_95 : decode cX6_turn 95 = .ok (.getfield 131, 3) := by decide +kernel
theorem dX6_turn_98 : decode cX6_turn 98 = .ok (.getfield 135, 3) := by decide +kernel
theorem dX6_turn_101 : decode cX6_turn 101 = .ok (.ireturn, 1) := by decide +kernel
theorem dX6_bind_0 : decode cX6_bind 0 = .ok (.iload_n 1, 1) := by decide +kernel
theorem dX6_bind_1 : decode cX6_bind 1 = .ok (.iconst 1, 1) := by decide +kernel
theorem dX6_bind_2 : decode cX6_bind 2 = .ok (.if_icmp .lt 9, 3) := by decide +kernel
theorem dX6_bind_5 : decode cX6_bind 5 = .ok (.iload_n 1, 1) := by decide +kernel
theorem dX6_bind_6 : decode cX6_bind 6 = .ok (.bipush 24, 2) := by decide +kernel
theorem dX6_bind_8 : decode cX6_bind 8 = .ok (.if_icmp .le 13, 3) := by decide +kernel
theorem dX6_bind_11 : decode cX6_bind 11 = .ok (.new 52, 3) := by decide +kernel
theorem dX6_bind_14 : decode cX6_bind 14 = .ok (.dup, 1) := by decide +kernel
theorem dX6_bind_15 : decode cX6_bind 15 = .ok (.ldc 158, 2) := by decide +kernel
theorem dX6_bind_17 : decode cX6_bind 17 = .ok (.invokespecial 56, 3) := by decide +kernel
theorem dX6_bind_20 : decode cX6_bind 20 = .ok (.athrow, 1) := by decide +kernel
theorem dX6_bind_21 : decode cX6_bind 21 = .ok (.iload_n 1, 1) := by decide +kernel
theorem dX6_bind_22 : decode cX6_bind 22 = .ok (.aload_n 0, 1) := by decide +kernel
theorem dX6_bind_23 : decode cX6_bind 23 = .ok (.getfield 19, 3) := by decide +kernel
theorem dX6_bind_26 : decode cX6_bind 26 = .ok (.getfield 148, 3) := by decide +kernel
theorem dX6_bind_29 : decode cX6_bind 29 = .ok (.getfield 135, 3) := by decide +kernel
theorem dX6_bind_32 : decode cX6_bind 32 = .ok (.if_icmp .ne 20, 3) := by decide +kernel
theorem dX6_bind_35 : decode cX6_bind 35 = .ok (.aload_n 0, 1) := by decide +kernel
theorem dX6_bind_36 : decode cX6_bind 36 = .ok (.getfield 19, 3) := by decide +kernel
theorem dX6_bind_39 : decode cX6_bind 39 = .ok (.getfield 131, 3) := by decide +kernel
theorem dX6_bind_42 : decode cX6_bind 42 = .ok (.getfield 135, 3) := by decide +kernel
theorem dX6_bind_45 : decode cX6_bind 45 = .ok (.ifCond .ne 7, 3) := by decide +kernel
theorem dX6_bind_48 : decode cX6_bind 48 = .ok (.iconst 1, 1) := by decide +kernel
theorem dX6_bind_49 : decode cX6_bind 49 = .ok (.goto 4, 3) := by decide +kernel
theorem dX6_bind_52 : decode cX6_bind 52 = .ok (.iconst 0, 1) := by decide +kernel
theorem dX6_bind_53 : decode cX6_bind 53 = .ok (.istore_n 2, 1) := by decide +kernel
theorem dX6_bind_54 : decode cX6_bind 54 = .ok (.iload_n 2, 1) := by decide +kernel
theorem dX6_bind_55 : decode cX6_bind 55 = .ok (.ifCond .ne 29, 3) := by decide +kernel
theorem dX6_bind_58 : decode cX6_bind 58 = .ok (.iload_n 1, 1) := by decide +kernel
theorem dX6_bind_59 : decode cX6_bind 59 = .ok (.aload_n 0, 1) := by decide +kernel
theorem dX6_bind_60 : decode cX6_bind 60 = .ok (.getfield 19, 3) := by decide +kernel
theorem dX6_bind_63 : decode cX6_bind 63 = .ok (.getfield 148, 3) := by decide +kernel
theorem dX6_bind_66 : decode cX6_bind 66 = .ok (.getfield 135, 3) := by decide +kernel
theorem dX6_bind_69 : decode cX6_bind 69 = .ok (.iconst 1, 1) := by decide +kernel
theorem dX6_bind_70 : decode cX6_bind 70 = .ok (.isub, 1) := by decide +kernel
theorem dX6_bind_71 : decode cX6_bind 71 = .ok (.if_icmp .le 13, 3) := by decide +kernel
theorem dX6_bind_74 : decode cX6_bind 74 = .ok (.new 63, 3) := by decide +kernel
theorem dX6_bind_77 : decode cX6_bind 77 = .ok (.dup, 1) := by decide +kernel
theorem dX6_bind_78 : decode cX6_bind 78 = .ok (.ldc 160, 2) := by decide +kernel
theorem dX6_bind_80 : decode cX6_bind 80 = .ok (.invokespecial 67, 3) := by decide +kernel
theorem dX6_bind_83 : decode cX6_bind 83 = .ok (.athrow, 1) := by decide +kernel
theorem dX6_bind_84 : decode cX6_bind 84 = .ok (.iload_n 2, 1) := by decide +kernel
theorem dX6_bind_85 : decode cX6_bind 85 = .ok (.ifCond .eq 25, 3) := by decide +kernel
theorem dX6_bind_88 : decode cX6_bind 88 = .ok (.aload_n 0, 1) := by decide +kernel
theorem dX6_bind_89 : decode cX6_bind 89 = .ok (.getfield 12, 3) := by decide +kernel
theorem dX6_bind_92 : decode cX6_bind 92 = .ok (.invokevirtual 86, 3) := by decide +kernel
theorem dX6_bind_95 : decode cX6_bind 95 = .ok (.bipush 6, 2) := by decide +kernel
theorem dX6_bind_97 : decode cX6_bind 97 = .ok (.if_icmp .ge 13, 3) := by decide +kernel
theorem dX6_bind_100 : decode cX6_bind 100 = .ok (.new 63, 3) := by decide +kernel
theorem dX6_bind_103 : decode cX6_bind 103 = .ok (.dup, 1) := by decide +kernel
theorem dX6_bind_104 : decode cX6_bind 104 = .ok (.ldc 162, 2) := by decide +kernel
theorem dX6_bind_106 : decode cX6_bind 106 = .ok (.invokespecial 67, 3) := by decide +kernel
theorem dX6_bind_109 : decode cX6_bind 109 = .ok (.athrow, 1) := by decide +kernel
theorem dX6_bind_110 : decode cX6_bind 110 = .ok (.aload_n 0, 1) := by decide +kernel
theorem dX6_bind_111 : decode cX6_bind 111 = .ok (.getfield 41, 3) := by decide +kernel
theorem dX6_bind_114 : decode cX6_bind 114 = .ok (.aload_n 0, 1) := by decide +kernel
theorem dX6_bind_115 : decode cX6_bind 115 = .ok (.getfield 19, 3) := by decide +kernel
theorem dX6_bind_118 : decode cX6_bind 118 = .ok (.aload_n 0, 1) := by decide +kernel
theorem dX6_bind_119 : decode cX6_bind 119 = .ok (.getfield 12, 3) := by decide +kernel
theorem dX6_bind_122 : decode cX6_bind 122 = .ok (.invokevirtual 95, 3) := by decide +kernel
theorem dX6_bind_125 : decode cX6_bind 125 = .ok (.aload_n 0, 1) := by decide +kernel
theorem dX6_bind_126 : decode cX6_bind 126 = .ok (.iload_n 2, 1) := by decide +kernel
theorem dX6_bind_127 : decode cX6_bind 127 = .ok (.ifCond .eq 9, 3) := by decide +kernel
theorem dX6_bind_130 : decode cX6_bind 130 = .ok (.iload_n 1, 1) := by decide +kernel
theorem dX6_bind_131 : decode cX6_bind 131 = .ok (.iconst 1, 1) := by decide +kernel
theorem dX6_bind_132 : decode cX6_bind 132 = .ok (.isub, 1) := by decide +kernel
theorem dX6_bind_133 : decode cX6_bind 133 = .ok (.goto 4, 3) := by decide +kernel
theorem dX6_bind_136 : decode cX6_bind 136 = .ok (.iload_n 1, 1) := by decide +kernel
theorem dX6_bind_137 : decode cX6_bind 137 = .ok (.invokevirtual 164, 3) := by decide +kernel
theorem dX6_bind_140 : decode cX6_bind 140 = .ok (.iload_n 2, 1) := by decide +kernel
theorem dX6_bind_141 : decode cX6_bind 141 = .ok (.ifCond .eq 7, 3) := by decide +kernel
theorem dX6_bind_144 : decode cX6_bind 144 = .ok (.aload_n 0, 1) := by decide +kernel
theorem dX6_bind_145 : decode cX6_bind 145 = .ok (.invokevirtual 168, 3) := by decide +kernel
theorem dX6_bind_148 : decode cX6_bind 148 = .ok (.aload_n 0, 1) := by decide +kernel
theorem dX6_bind_149 : decode cX6_bind 149 = .ok (.getfield 19, 3) := by decide +kernel
theorem dX6_bind_152 : decode cX6_bind 152 = .ok (.invokevirtual 90, 3) := by decide +kernel
theorem dX6_bind_155 : decode cX6_bind 155 = .ok (.ireturn, 1) := by decide +kernel
theorem dX6_drop_0 : decode cX6_drop 0 = .ok (.aload_n 0, 1) := by decide +kernel
theorem dX6_drop_1 : decode cX6_drop 1 = .ok (.getfield 19, 3) := by decide +kernel
theorem dX6_drop_4 : decode cX6_drop 4 = .ok (.getfield 131, 3) := by decide +kernel
theorem dX6_drop_7 : decode cX6_drop 7 = .ok (.getfield 135, 3) := by decide +kernel
theorem dX6_drop_10 : decode cX6_drop 10 = .ok (.iconst 1, 1) := by decide +kernel
theorem dX6_drop_11 : decode cX6_drop 11 = .ok (.if_icmp .lt 15, 3) := by decide +kernel
theorem dX6_drop_14 : decode cX6_drop 14 = .ok (.aload_n 0, 1) := by decide +kernel
theorem dX6_drop_15 : decode cX6_drop 15 = .ok (.getfield 19, 3) := by decide +kernel
theorem dX6_drop_18 : decode cX6_drop 18 = .ok (.getfield 171, 3) := by decide +kernel
theorem dX6_drop_21 : decode cX6_drop 21 = .ok (.bipush 9, 2) := by decide +kernel
theorem dX6_drop_23 : decode cX6_drop 23 = .ok (.if_icmp .lt 13, 3) := by decide +kernel
theorem dX6_drop_26 : decode cX6_drop 26 = .ok (.new 63, 3) := by decide +kernel
theorem dX6_drop_29 : decode cX6_drop 29 = .ok (.dup, 1) := by decide +kernel
theorem dX6_drop_30 : decode cX6_drop 30 = .ok (.ldc 174, 2) := by decide +kernel
theorem dX6_drop_32 : decode cX6_drop 32 = .ok (.invokespecial 67, 3) := by decide +kernel
theorem dX6_drop_35 : decode cX6_drop 35 = .ok (.athrow, 1) := by decide +kernel
theorem dX6_drop_36 : decode cX6_drop 36 = .ok (.aload_n 0, 1) := by decide +kernel
theorem dX6_drop_37 : decode cX6_drop 37 = .ok (.getfield 41, 3) := by decide +kernel
theorem dX6_drop_40 : decode cX6_drop 40 = .ok (.aload_n 0, 1) := by decide +kernel
theorem dX6_drop_41 : decode cX6_drop 41 = .ok (.getfield 19, 3) := by decide +kernel
theorem dX6_drop_44 : decode cX6_drop 44 = .ok (.aload_n 0, 1) := by decide +kernel
theorem dX6_drop_45 : decode cX6_drop 45 = .ok (.getfield 12, 3) := by decide +kernel
theorem dX6_drop_48 : decode cX6_drop 48 = .ok (.invokevirtual 95, 3) := by decide +kernel
theorem dX6_drop_51 : decode cX6_drop 51 = .ok (.aload_n 0, 1) := by decide +kernel
theorem dX6_drop_52 : decode cX6_drop 52 = .ok (.getfield 19, 3) := by decide +kernel
theorem dX6_drop_55 : decode cX6_drop 55 = .ok (.getfield 131, 3) := by decide +kernel
theorem dX6_drop_58 : decode cX6_drop 58 = .ok (.iconst 0, 1) := by decide +kernel
theorem dX6_drop_59 : decode cX6_drop 59 = .ok (.invokevirtual 176, 3) := by decide +kernel
theorem dX6_drop_62 : decode cX6_drop 62 = .ok (.istore_n 1, 1) := by decide +kernel
theorem dX6_drop_63 : decode cX6_drop 63 = .ok (.aload_n 0, 1) := by decide +kernel
theorem dX6_drop_64 : decode cX6_drop 64 = .ok (.getfield 19, 3) := by decide +kernel
theorem dX6_drop_67 : decode cX6_drop 67 = .ok (.iload_n 1, 1) := by decide +kernel
theorem dX6_drop_68 : decode cX6_drop 68 = .ok (.aload_n 0, 1) := by decide +kernel
theorem dX6_drop_69 : decode cX6_drop 69 = .ok (.getfield 28, 3) := by decide +kernel
theorem dX6_drop_72 : decode cX6_drop 72 = .ok (.iload_n 1, 1) := by decide +kernel
theorem dX6_drop_73 : decode cX6_drop 73 = .ok (.iconst 3, 1) := by decide +kernel
theorem dX6_drop_74 : decode cX6_drop 74 = .ok (.invokevirtual 179, 3) := by decide +kernel
theorem dX6_drop_77 : decode cX6_drop 77 = .ok (.invokevirtual 182, 3) := by decide +kernel
theorem dX6_drop_80 : decode cX6_drop 80 = .ok (.ireturn, 1) := by decide +kernel
theorem dX6_latch_0 : decode cX6_latch 0 = .ok (.iload_n 1, 1) := by decide +kernel
theorem dX6_latch_1 : decode cX6_latch 1 = .ok (.ifCond .lt 14, 3) := by decide +kernel
theorem dX6_latch_4 : decode cX6_latch 4 = .ok (.iload_n 1, 1) := by decide +kernel
theorem dX6_latch_5 : decode cX6_latch 5 = .ok (.aload_n 0, 1) := by decide +kernel
theorem dX6_latch_6 : decode cX6_latch 6 = .ok (.getfield 19, 3) := by decide +kernel
theorem dX6_latch_9 : decode cX6_latch 9 = .ok (.getfield 171, 3) := by decide +kernel
theorem dX6_latch_12 : decode cX6_latch 12 = .ok (.if_icmp .lt 13, 3) := by decide +kernel
theorem dX6_latch_15 : decode cX6_latch 15 = .ok (.new 76, 3) := by decide +kernel
theorem dX6_latch_18 : decode cX6_latch 18 = .ok (.dup, 1) := by decide +kernel
theorem dX6_latch_19 : decode cX6_latch 19 = .ok (.ldc 185, 2) := by decide +kernel
theorem dX6_latch_21 : decode cX6_latch 21 = .ok (.invokespecial 80, 3) := by decide +kernel
theorem dX6_latch_24 : decode cX6_latch 24 = .ok (.athrow, 1) := by decide +kernel
theorem dX6_latch_25 : decode cX6_latch 25 = .ok (.aload_n 0, 1) := by decide +kernel
theorem dX6_latch_26 : decode cX6_latch 26 = .ok (.getfield 19, 3) := by decide +kernel
theorem dX6_latch_29 : decode cX6_latch 29 = .ok (.getfield 187, 3) := by decide +kernel
theorem dX6_latch_32 : decode cX6_latch 32 = .ok (.iload_n 1, 1) := by decide +kernel
theorem dX6_latch_33 : decode cX6_latch 33 = .ok (.iconst 3, 1) := by decide +kernel
theorem dX6_latch_34 : decode cX6_latch 34 = .ok (.invokevirtual 179, 3) := by decide +kernel
theorem dX6_latch_37 : decode cX6_latch 37 = .ok (.ifCond .eq 15, 3) := by decide +kernel
theorem dX6_latch_40 : decode cX6_latch 40 = .ok (.aload_n 0, 1) := by decide +kernel
theorem dX6_latch_41 : decode cX6_latch 41 = .ok (.getfield 19, 3) := by decide +kernel
theorem dX6_latch_44 : decode cX6_latch 44 = .ok (.invokevirtual 90, 3) := by decide +kernel
theorem dX6_latch_47 : decode cX6_latch 47 = .ok (.bipush 24, 2) := by decide +kernel
theorem dX6_latch_49 : decode cX6_latch 49 = .ok (.if_icmp .lt 13, 3) := by decide +kernel
theorem dX6_latch_52 : decode cX6_latch 52 = .ok (.new 63, 3) := by decide +kernel
theorem dX6_latch_55 : decode cX6_latch 55 = .ok (.dup, 1) := by decide +kernel
theorem dX6_latch_56 : decode cX6_latch 56 = .ok (.ldc 190, 2) := by decide +kernel
theorem dX6_latch_58 : decode cX6_latch 58 = .ok (.invokespecial 67, 3) := by decide +kernel
theorem dX6_latch_61 : decode cX6_latch 61 = .ok (.athrow, 1) := by decide +kernel
theorem dX6_latch_62 : decode cX6_latch 62 = .ok (.aload_n 0, 1) := by decide +kernel
theorem dX6_latch_63 : decode cX6_latch 63 = .ok (.getfield 41, 3) := by decide +kernel
theorem dX6_latch_66 : decode cX6_latch 66 = .ok (.aload_n 0, 1) := by decide +kernel
theorem dX6_latch_67 : decode cX6_latch 67 = .ok (.getfield 19, 3) := by decide +kernel
theorem dX6_latch_70 : decode cX6_latch 70 = .ok (.aload_n 0, 1) := by decide +kernel
theorem dX6_latch_71 : decode cX6_latch 71 = .ok (.getfield 12, 3) := by decide +kernel
theorem dX6_latch_74 : decode cX6_latch 74 = .ok (.invokevirtual 95, 3) := by decide +kernel
theorem dX6_latch_77 : decode cX6_latch 77 = .ok (.aload_n 0, 1) := by decide +kernel
theorem dX6_latch_78 : decode cX6_latch 78 = .ok (.getfield 19, 3) := by decide +kernel
theorem dX6_latch_81 : decode cX6_latch 81 = .ok (.getfield 187, 3) := by decide +kernel
theorem dX6_latch_84 : decode cX6_latch 84 = .ok (.iload_n 1, 1) := by decide +kernel
theorem dX6_latch_85 : decode cX6_latch 85 = .ok (.iconst 3, 1) := by decide +kernel
theorem dX6_latch_86 : decode cX6_latch 86 = .ok (.iconst 0, 1) := by decide +kernel
theorem dX6_latch_87 : decode cX6_latch 87 = .ok (.invokevirtual 192, 3) := by decide +kernel
theorem dX6_latch_90 : decode cX6_latch 90 = .ok (.aload_n 0, 1) := by decide +kernel
theorem dX6_latch_91 : decode cX6_latch 91 = .ok (.getfield 19, 3) := by decide +kernel
theorem dX6_latch_94 : decode cX6_latch 94 = .ok (.getfield 131, 3) := by decide +kernel
theorem dX6_latch_97 : decode cX6_latch 97 = .ok (.aload_n 0, 1) := by decide +kernel
theorem dX6_latch_98 : decode cX6_latch 98 = .ok (.getfield 19, 3) := by decide +kernel
theorem dX6_latch_101 : decode cX6_latch 101 = .ok (.getfield 187, 3) := by decide +kernel
theorem dX6_latch_104 : decode cX6_latch 104 = .ok (.iload_n 1, 1) := by decide +kernel
theorem dX6_latch_105 : decode cX6_latch 105 = .ok (.iconst 0, 1) := by decide +kernel
theorem dX6_latch_106 : decode cX6_latch 106 = .ok (.invokevirtual 179, 3) := by decide +kernel
theorem dX6_latch_109 : decode cX6_latch 109 = .ok (.invokevirtual 195, 3) := by decide +kernel
theorem dX6_latch_112 : decode cX6_latch 112 = .ok (.aload_n 0, 1) := by decide +kernel
theorem dX6_latch_113 : decode cX6_latch 113 = .ok (.getfield 19, 3) := by decide +kernel
theorem dX6_latch_116 : decode cX6_latch 116 = .ok (.getfield 187, 3) := by decide +kernel
theorem dX6_latch_119 : decode cX6_latch 119 = .ok (.iload_n 1, 1) := by decide +kernel
theorem dX6_latch_120 : decode cX6_latch 120 = .ok (.iconst 2, 1) := by decide +kernel
theorem dX6_latch_121 : decode cX6_latch 121 = .ok (.invokevirtual 179, 3) := by decide +kernel
theorem dX6_latch_124 : decode cX6_latch 124 = .ok (.ireturn, 1) := by decide +kernel
theorem dX6_pattern_0 : decode cX6_pattern 0 = .ok (.iload_n 1, 1) := by decide +kernel
theorem dX6_pattern_1 : decode cX6_pattern 1 = .ok (.iconst 1, 1) := by decide +kernel
theorem dX6_pattern_2 : decode cX6_pattern 2 = .ok (.if_icmp .lt 16, 3) := by decide +kernel
theorem dX6_pattern_5 : decode cX6_pattern 5 = .ok (.iload_n 1, 1) := by decide +kernel
theorem dX6_pattern_6 : decode cX6_pattern 6 = .ok (.ldc 198, 2) := by decide +kernel
theorem dX6_pattern_8 : decode cX6_pattern 8 = .ok (.if_icmp .gt 10, 3) := by decide +kernel
theorem dX6_pattern_11 : decode cX6_pattern 11 = .ok (.iload_n 1, 1) := by decide +kernel
theorem dX6_pattern_12 : decode cX6_pattern 12 = .ok (.invokestatic 199, 3) := by decide +kernel
theorem dX6_pattern_15 : decode cX6_pattern 15 = .ok (.ifCond .eq 13, 3) := by decide +kernel
theorem dX6_pattern_18 : decode cX6_pattern 18 = .ok (.new 52, 3) := by decide +kernel
theorem dX6_pattern_21 : decode cX6_pattern 21 = .ok (.dup, 1) := by decide +kernel
theorem dX6_pattern_22 : decode cX6_pattern 22 = .ok (.ldc 202, 2) := by decide +kernel
theorem dX6_pattern_24 : decode cX6_pattern 24 = .ok (.invokespecial 56, 3) := by decide +kernel
theorem dX6_pattern_27 : decode cX6_pattern 27 = .ok (.athrow, 1) := by decide +kernel
theorem dX6_pattern_28 : decode cX6_pattern 28 = .ok (.aload_n 0, 1) := by decide +kernel
theorem dX6_pattern_29 : decode cX6_pattern 29 = .ok (.getfield 204, 3) := by decide +kernel
theorem dX6_pattern_32 : decode cX6_pattern 32 = .ok (.bipush 6, 2) := by decide +kernel
theorem dX6_pattern_34 : decode cX6_pattern 34 = .ok (.if_icmp .lt 13, 3) := by decide +kernel
theorem dX6_pattern_37 : decode cX6_pattern 37 = .ok (.new 63, 3) := by decide +kernel
theorem dX6_pattern_40 : decode cX6_pattern 40 = .ok (.dup, 1) := by decide +kernel
theorem dX6_pattern_41 : decode cX6_pattern 41 = .ok (.ldc 207, 2) := by decide +kernel
theorem dX6_pattern_43 : decode cX6_pattern 43 = .ok (.invokespecial 67, 3) := by decide +kernel
theorem dX6_pattern_46 : decode cX6_pattern 46 = .ok (.athrow, 1) := by decide +kernel
theorem dX6_pattern_47 : decode cX6_pattern 47 = .ok (.aload_n 0, 1) := by decide +kernel
theorem dX6_pattern_48 : decode cX6_pattern 48 = .ok (.getfield 204, 3) := by decide +kernel
theorem dX6_pattern_51 : decode cX6_pattern 51 = .ok (.istore_n 2, 1) := by decide +kernel
theorem dX6_pattern_52 : decode cX6_pattern 52 = .ok (.aload_n 0, 1) := by decide +kernel
theorem dX6_pattern_53 : decode cX6_pattern 53 = .ok (.dup, 1) := by decide +kernel
theorem dX6_pattern_54 : decode cX6_pattern 54 = .ok (.getfield 204, 3) := by decide +kernel
theorem dX6_pattern_57 : decode cX6_pattern 57 = .ok (.iconst 1, 1) := by decide +kernel
theorem dX6_pattern_58 : decode cX6_pattern 58 = .ok (.iadd, 1) := by decide +kernel
theorem dX6_pattern_59 : decode cX6_pattern 59 = .ok (.putfield 204, 3) := by decide +kernel
theorem dX6_pattern_62 : decode cX6_pattern 62 = .ok (.aload_n 0, 1) := by decide +kernel
theorem dX6_pattern_63 : decode cX6_pattern 63 = .ok (.iload_n 2, 1) := by decide +kernel
theorem dX6_pattern_64 : decode cX6_pattern 64 = .ok (.iload_n 1, 1) := by decide +kernel
theorem dX6_pattern_65 : decode cX6_pattern 65 = .ok (.invokevirtual 209, 3) := by decide +kernel
theorem dX6_pattern_68 : decode cX6_pattern 68 = .ok (.iload_n 2, 1) := by decide +kernel
theorem dX6_pattern_69 : decode cX6_pattern 69 = .ok (.ireturn, 1) := by decide +kernel
theorem dX6_follow_0 : decode cX6_follow 0 = .ok (.aload_n 0, 1) := by decide +kernel
theorem dX6_follow_1 : decode cX6_follow 1 = .ok (.iload_n 1, 1) := by decide +kernel
theorem dX6_follow_2 : decode cX6_follow 2 = .ok (.invokevirtual 213, 3) := by decide +kernel
theorem dX6_follow_5 : decode cX6_follow 5 = .ok (.ifCond .ne 13, 3) := by decide +kernel
theorem dX6_follow_8 : decode cX6_follow 8 = .ok (.new 76, 3) := by decide +kernel
theorem dX6_follow_11 : decode cX6_follow 11 = .ok (.dup, 1) := by decide +kernel
theorem dX6_follow_12 : decode cX6_follow 12 = .ok (.ldc 216, 2) := by decide +kernel
theorem dX6_follow_14 : decode cX6_follow 14 = .ok (.invokespecial 80, 3) := by decide +kernel
theorem dX6_follow_17 : decode cX6_follow 17 = .ok (.athrow, 1) := by decide +kernel
theorem dX6_follow_18 : decode cX6_follow 18 = .ok (.aload_n 0, 1) := by decide +kernel
theorem dX6_follow_19 : decode cX6_follow 19 = .ok (.getfield 19, 3) := by decide +kernel
theorem dX6_follow_22 : decode cX6_follow 22 = .ok (.getfield 131, 3) := by decide +kernel
theorem dX6_follow_25 : decode cX6_follow 25 = .ok (.getfield 135, 3) := by decide +kernel
theorem dX6_follow_28 : decode cX6_follow 28 = .ok (.iconst 1, 1) := by decide +kernel
theorem dX6_follow_29 : decode cX6_follow 29 = .ok (.if_icmp .ge 13, 3) := by decide +kernel
theorem dX6_follow_32 : decode cX6_follow 32 = .ok (.new 63, 3) := by decide +kernel
theorem dX6_follow_35 : decode cX6_follow 35 = .ok (.dup, 1) := by decide +kernel
theorem dX6_follow_36 : decode cX6_follow 36 = .ok (.ldc 124, 2) := by decide +kernel
theorem dX6_follow_38 : decode cX6_follow 38 = .ok (.invokespecial 67, 3) := by decide +kernel
theorem dX6_follow_41 : decode cX6_follow 41 = .ok (.athrow, 1) := by decide +kernel
theorem dX6_follow_42 : decode cX6_follow 42 = .ok (.aload_n 0, 1) := by decide +kernel
theorem dX6_follow_43 : decode cX6_follow 43 = .ok (.getfield 41, 3) := by decide +kernel
theorem dX6_follow_46 : decode cX6_follow 46 = .ok (.aload_n 0, 1) := by decide +kernel
theorem dX6_follow_47 : decode cX6_follow 47 = .ok (.getfield 19, 3) := by decide +kernel
theorem dX6_follow_50 : decode cX6_follow 50 = .ok (.aload_n 0, 1) := by decide +kernel
theorem dX6_follow_51 : decode cX6_follow 51 = .ok (.getfield 12, 3) := by decide +kernel
theorem dX6_follow_54 : decode cX6_follow 54 = .ok (.invokevirtual 95, 3) := by decide +kernel
theorem dX6_follow_57 : decode cX6_follow 57 = .ok (.aload_n 0, 1) := by decide +kernel
theorem dX6_follow_58 : decode cX6_follow 58 = .ok (.iload_n 1, 1) := by decide +kernel
theorem dX6_follow_59 : decode cX6_follow 59 = .ok (.invokevirtual 218, 3) := by decide +kernel
theorem dX6_follow_62 : decode cX6_follow 62 = .ok (.aload_n 0, 1) := by decide +kernel
theorem dX6_follow_63 : decode cX6_follow 63 = .ok (.getfield 48, 3) := by decide +kernel
theorem dX6_follow_66 : decode cX6_follow 66 = .ok (.getfield 221, 3) := by decide +kernel
theorem dX6_follow_69 : decode cX6_follow 69 = .ok (.istore_n 2, 1) := by decide +kernel
theorem dX6_follow_70 : decode cX6_follow 70 = .ok (.iconst 0, 1) := by decide +kernel
theorem dX6_follow_71 : decode cX6_follow 71 = .ok (.istore_n 3, 1) := by decide +kernel
theorem dX6_follow_72 : decode cX6_follow 72 = .ok (.iload_n 3, 1) := by decide +kernel
theorem dX6_follow_73 : decode cX6_follow 73 = .ok (.iload_n 2, 1) := by decide +kernel
theorem dX6_follow_74 : decode cX6_follow 74 = .ok (.if_icmp .ge 19, 3) := by decide +kernel
theorem dX6_follow_77 : decode cX6_follow 77 = .ok (.aload_n 0, 1) := by decide +kernel
theorem dX6_follow_78 : decode cX6_follow 78 = .ok (.aload_n 0, 1) := by decide +kernel
theorem dX6_follow_79 : decode cX6_follow 79 = .ok (.iload_n 1, 1) := by decide +kernel
theorem dX6_follow_80 : decode cX6_follow 80 = .ok (.iload_n 3, 1) := by decide +kernel
theorem dX6_follow_81 : decode cX6_follow 81 = .ok (.invokevirtual 224, 3) := by decide +kernel
theorem dX6_follow_84 : decode cX6_follow 84 = .ok (.invokevirtual 227, 3) := by decide +kernel
theorem dX6_follow_87 : decode cX6_follow 87 = .ok (.iinc 3 1, 3) := by decide +kernel
theorem dX6_follow_90 : decode cX6_follow 90 = .ok (.goto (-18), 3) := by decide +kernel
theorem dX6_follow_93 : decode cX6_follow 93 = .ok (.iload_n 2, 1) := by decide +kernel
theorem dX6_follow_94 : decode cX6_follow 94 = .ok (.ireturn, 1) := by decide +kernel
theorem dX6_undo_0 : decode cX6_undo 0 = .ok (.aload_n 0, 1) := by decide +kernel
theorem dX6_undo_1 : decode cX6_undo 1 = .ok (.getfield 41, 3) := by decide +kernel
theorem dX6_undo_4 : decode cX6_undo 4 = .ok (.getfield 230, 3) := by decide +kernel
theorem dX6_undo_7 : decode cX6_undo 7 = .ok (.iconst 1, 1) := by decide +kernel
theorem dX6_undo_8 : decode cX6_undo 8 = .ok (.if_icmp .ge 13, 3) := by decide +kernel
theorem dX6_undo_11 : decode cX6_undo 11 = .ok (.new 63, 3) := by decide +kernel
theorem dX6_undo_14 : decode cX6_undo 14 = .ok (.dup, 1) := by decide +kernel
theorem dX6_undo_15 : decode cX6_undo 15 = .ok (.ldc 231, 2) := by decide +kernel
theorem dX6_undo_17 : decode cX6_undo 17 = .ok (.invokespecial 67, 3) := by decide +kernel
theorem dX6_undo_20 : decode cX6_undo 20 = .ok (.athrow, 1) := by decide +kernel
theorem dX6_undo_21 : decode cX6_undo 21 = .ok (.aload_n 0, 1) := by decide +kernel
theorem dX6_undo_22 : decode cX6_undo 22 = .ok (.getfield 41, 3) := by decide +kernel
theorem dX6_undo_25 : decode cX6_undo 25 = .ok (.aload_n 0, 1) := by decide +kernel
theorem dX6_undo_26 : decode cX6_undo 26 = .ok (.getfield 19, 3) := by decide +kernel
theorem dX6_undo_29 : decode cX6_undo 29 = .ok (.aload_n 0, 1) := by decide +kernel
theorem dX6_undo_30 : decode cX6_undo 30 = .ok (.getfield 12, 3) := by decide +kernel
theorem dX6_undo_33 : decode cX6_undo 33 = .ok (.invokevirtual 233, 3) := by decide +kernel
theorem dX6_undo_36 : decode cX6_undo 36 = .ok (.aload_n 0, 1) := by decide +kernel
theorem dX6_undo_37 : decode cX6_undo 37 = .ok (.getfield 41, 3) := by decide +kernel
theorem dX6_undo_40 : decode cX6_undo 40 = .ok (.getfield 230, 3) := by decide +kernel
theorem dX6_undo_43 : decode cX6_undo 43 = .ok (.ireturn, 1) := by decide +kernel
theorem dX6_on_0 : decode cX6_on 0 = .ok (.iload_n 2, 1) := by decide +kernel
theorem dX6_on_1 : decode cX6_on 1 = .ok (.ifCond .lt 9, 3) := by decide +kernel
theorem dX6_on_4 : decode cX6_on 4 = .ok (.iload_n 2, 1) := by decide +kernel
theorem dX6_on_5 : decode cX6_on 5 = .ok (.bipush 24, 2) := by decide +kernel
theorem dX6_on_7 : decode cX6_on 7 = .ok (.if_icmp .lt 13, 3) := by decide +kernel
theorem dX6_on_10 : decode cX6_on 10 = .ok (.new 76, 3) := by decide +kernel
theorem dX6_on_13 : decode cX6_on 13 = .ok (.dup, 1) := by decide +kernel
theorem dX6_on_14 : decode cX6_on 14 = .ok (.ldc 236, 2) := by decide +kernel
theorem dX6_on_16 : decode cX6_on 16 = .ok (.invokespecial 80, 3) := by decide +kernel
theorem dX6_on_19 : decode cX6_on 19 = .ok (.athrow, 1) := by decide +kernel
theorem dX6_on_20 : decode cX6_on 20 = .ok (.aload_n 0, 1) := by decide +kernel
theorem dX6_on_21 : decode cX6_on 21 = .ok (.iload_n 1, 1) := by decide +kernel
theorem dX6_on_22 : decode cX6_on 22 = .ok (.invokevirtual 238, 3) := by decide +kernel
theorem dX6_on_25 : decode cX6_on 25 = .ok (.iload_n 2, 1) := by decide +kernel
theorem dX6_on_26 : decode cX6_on 26 = .ok (.invokevirtual 242, 3) := by decide +kernel
theorem dX6_on_29 : decode cX6_on 29 = .ok (.ireturn, 1) := by decide +kernel
theorem dX6_ofLoop_0 : decode cX6_ofLoop 0 = .ok (.iload_n 1, 1) := by decide +kernel
theorem dX6_ofLoop_1 : decode cX6_ofLoop 1 = .ok (.ifCond .lt 14, 3) := by decide +kernel
theorem dX6_ofLoop_4 : decode cX6_ofLoop 4 = .ok (.iload_n 1, 1) := by decide +kernel
theorem dX6_ofLoop_5 : decode cX6_ofLoop 5 = .ok (.aload_n 0, 1) := by decide +kernel
theorem dX6_ofLoop_6 : decode cX6_ofLoop 6 = .ok (.getfield 19, 3) := by decide +kernel
theorem dX6_ofLoop_9 : decode cX6_ofLoop 9 = .ok (.getfield 245, 3) := by decide +kernel
theorem dX6_ofLoop_12 : decode cX6_ofLoop 12 = .ok (.if_icmp .lt 13, 3) := by decide +kernel
theorem dX6_ofLoop_15 : decode cX6_ofLoop 15 = .ok (.new 76, 3) := by decide +kernel
theorem dX6_ofLoop_18 : decode cX6_ofLoop 18 = .ok (.dup, 1) := by decide +kernel
theorem dX6_ofLoop_19 : decode cX6_ofLoop 19 = .ok (.ldc 248, 2) := by decide +kernel
theorem dX6_ofLoop_21 : decode cX6_ofLoop 21 = .ok (.invokespecial 80, 3) := by decide +kernel
theorem dX6_ofLoop_24 : decode cX6_ofLoop 24 = .ok (.athrow, 1) := by decide +kernel
theorem dX6_ofLoop_25 : decode cX6_ofLoop 25 = .ok (.iload_n 2, 1) := by decide +kernel
theorem dX6_ofLoop_26 : decode cX6_ofLoop 26 = .ok (.ifCond .lt 9, 3) := by decide +kernel
theorem dX6_ofLoop_29 : decode cX6_ofLoop 29 = .ok (.iload_n 2, 1) := by decide +kernel
theorem dX6_ofLoop_30 : decode cX6_ofLoop 30 = .ok (.bipush 6, 2) := by decide +kernel
theorem dX6_ofLoop_32 : decode cX6_ofLoop 32 = .ok (.if_icmp .lt 13, 3) := by decide +kernel
theorem dX6_ofLoop_35 : decode cX6_ofLoop 35 = .ok (.new 52, 3) := by decide +kernel
theorem dX6_ofLoop_38 : decode cX6_ofLoop 38 = .ok (.dup, 1) := by decide +kernel
theorem dX6_ofLoop_39 : decode cX6_ofLoop 39 = .ok (.ldc 250, 2) := by decide +kernel
theorem dX6_ofLoop_41 : decode cX6_ofLoop 41 = .ok (.invokespecial 56, 3) := by decide +kernel
theorem dX6_ofLoop_44 : decode cX6_ofLoop 44 = .ok (.athrow, 1) := by decide +kernel
theorem dX6_ofLoop_45 : decode cX6_ofLoop 45 = .ok (.aload_n 0, 1) := by decide +kernel
theorem dX6_ofLoop_46 : decode cX6_ofLoop 46 = .ok (.iload_n 1, 1) := by decide +kernel
theorem dX6_ofLoop_47 : decode cX6_ofLoop 47 = .ok (.iload_n 2, 1) := by decide +kernel
theorem dX6_ofLoop_48 : decode cX6_ofLoop 48 = .ok (.invokevirtual 252, 3) := by decide +kernel
theorem dX6_ofLoop_51 : decode cX6_ofLoop 51 = .ok (.ireturn, 1) := by decide +kernel
theorem dX6_ofRun_0 : decode cX6_ofRun 0 = .ok (.iload_n 1, 1) := by decide +kernel
theorem dX6_ofRun_1 : decode cX6_ofRun 1 = .ok (.ifCond .lt 14, 3) := by decide +kernel
theorem dX6_ofRun_4 : decode cX6_ofRun 4 = .ok (.iload_n 1, 1) := by decide +kernel
theorem dX6_ofRun_5 : decode cX6_ofRun 5 = .ok (.aload_n 0, 1) := by decide +kernel
theorem dX6_ofRun_6 : decode cX6_ofRun 6 = .ok (.getfield 19, 3) := by decide +kernel
theorem dX6_ofRun_9 : decode cX6_ofRun 9 = .ok (.getfield 171, 3) := by decide +kernel
theorem dX6_ofRun_12 : decode cX6_ofRun 12 = .ok (.if_icmp .lt 13, 3) := by decide +kernel
theorem dX6_ofRun_15 : decode cX6_ofRun 15 = .ok (.new 76, 3) := by decide +kernel
theorem dX6_ofRun_18 : decode cX6_ofRun 18 = .ok (.dup, 1) := by decide +kernel
theorem dX6_ofRun_19 : decode cX6_ofRun 19 = .ok (.ldc 185, 2) := by decide +kernel
theorem dX6_ofRun_21 : decode cX6_ofRun 21 = .ok (.invokespecial 80, 3) := by decide +kernel
theorem dX6_ofRun_24 : decode cX6_ofRun 24 = .ok (.athrow, 1) := by decide +kernel
theorem dX6_ofRun_25 : decode cX6_ofRun 25 = .ok (.iload_n 2, 1) := by decide +kernel
theorem dX6_ofRun_26 : decode cX6_ofRun 26 = .ok (.ifCond .lt 8, 3) := by decide +kernel
theorem dX6_ofRun_29 : decode cX6_ofRun 29 = .ok (.iload_n 2, 1) := by decide +kernel
theorem dX6_ofRun_30 : decode cX6_ofRun 30 = .ok (.iconst 4, 1) := by decide +kernel
theorem dX6_ofRun_31 : decode cX6_ofRun 31 = .ok (.if_icmp .lt 13, 3) := by decide +kernel
theorem dX6_ofRun_34 : decode cX6_ofRun 34 = .ok (.new 52, 3) := by decide +kernel
theorem dX6_ofRun_37 : decode cX6_ofRun 37 = .ok (.dup, 1) := by decide +kernel
theorem dX6_ofRun_38 : decode cX6_ofRun 38 = .ok (.ldc 255, 2) := by decide +kernel
theorem dX6_ofRun_40 : decode cX6_ofRun 40 = .ok (.invokespecial 56, 3) := by decide +kernel
theorem dX6_ofRun_43 : decode cX6_ofRun 43 = .ok (.athrow, 1) := by decide +kernel
theorem dX6_ofRun_44 : decode cX6_ofRun 44 = .ok (.aload_n 0, 1) := by decide +kernel
theorem dX6_ofRun_45 : decode cX6_ofRun 45 = .ok (.getfield 19, 3) := by decide +kernel
theorem dX6_ofRun_48 : decode cX6_ofRun 48 = .ok (.getfield 187, 3) := by decide +kernel
theorem dX6_ofRun_51 : decode cX6_ofRun 51 = .ok (.iload_n 1, 1) := by decide +kernel
theorem dX6_ofRun_52 : decode cX6_ofRun 52 = .ok (.iload_n 2, 1) := by decide +kernel
theorem dX6_ofRun_53 : decode cX6_ofRun 53 = .ok (.invokevirtual 179, 3) := by decide +kernel
theorem dX6_ofRun_56 : decode cX6_ofRun 56 = .ok (.ireturn, 1) := by decide +kernel
theorem dX6_seen_0 : decode cX6_seen 0 = .ok (.aload_n 0, 1) := by decide +kernel
theorem dX6_seen_1 : decode cX6_seen 1 = .ok (.iload_n 1, 1) := by decide +kernel
theorem dX6_seen_2 : decode cX6_seen 2 = .ok (.invokevirtual 238, 3) := by decide +kernel
theorem dX6_seen_5 : decode cX6_seen 5 = .ok (.astore_n 2, 1) := by decide +kernel
theorem dX6_seen_6 : decode cX6_seen 6 = .ok (.new 257, 3) := by decide +kernel
theorem dX6_seen_9 : decode cX6_seen 9 = .ok (.dup, 1) := by decide +kernel
theorem dX6_seen_10 : decode cX6_seen 10 = .ok (.invokespecial 259, 3) := by decide +kernel
theorem dX6_seen_13 : decode cX6_seen 13 = .ok (.astore_n 3, 1) := by decide +kernel
theorem dX6_seen_14 : decode cX6_seen 14 = .ok (.iconst 0, 1) := by decide +kernel
theorem dX6_seen_15 : decode cX6_seen 15 = .ok (.istore 4, 2) := by decide +kernel
theorem dX6_seen_17 : decode cX6_seen 17 = .ok (.iload 4, 2) := by decide +kernel
theorem dX6_seen_19 : decode cX6_seen 19 = .ok (.aload_n 2, 1) := by decide +kernel
theorem dX6_seen_20 : decode cX6_seen 20 = .ok (.getfield 135, 3) := by decide +kernel
theorem dX6_seen_23 : decode cX6_seen 23 = .ok (.if_icmp .ge 24, 3) := by decide +kernel
theorem dX6_seen_26 : decode cX6_seen 26 = .ok (.aload_n 3, 1) := by decide +kernel
theorem dX6_seen_27 : decode cX6_seen 27 = .ok (.aload_n 0, 1) := by decide +kernel
theorem dX6_seen_28 : decode cX6_seen 28 = .ok (.aload_n 2, 1) := by decide +kernel
theorem dX6_seen_29 : decode cX6_seen 29 = .ok (.iload 4, 2) := by decide +kernel
theorem dX6_seen_31 : decode cX6_seen 31 = .ok (.invokevirtual 242, 3) := by decide +kernel
theorem dX6_seen_34 : decode cX6_seen 34 = .ok (.invokevirtual 260, 3) := by decide +kernel
theorem dX6_seen_37 : decode cX6_seen 37 = .ok (.invokevirtual 264, 3) := by decide +kernel
theorem dX6_seen_40 : decode cX6_seen 40 = .ok (.pop, 1) := by decide +kernel
theorem dX6_seen_41 : decode cX6_seen 41 = .ok (.iinc 4 1, 3) := by decide +kernel
theorem dX6_seen_44 : decode cX6_seen 44 = .ok (.goto (-27), 3) := by decide +kernel
theorem dX6_seen_47 : decode cX6_seen 47 = .ok (.aload_n 3, 1) := by decide +kernel
theorem dX6_seen_48 : decode cX6_seen 48 = .ok (.invokevirtual 268, 3) := by decide +kernel
theorem dX6_seen_51 : decode cX6_seen 51 = .ok (.areturn, 1) := by decide +kernel
theorem dX6_width_0 : decode cX6_width 0 = .ok (.aload_n 0, 1) := by decide +kernel
theorem dX6_width_1 : decode cX6_width 1 = .ok (.aload_n 0, 1) := by decide +kernel
theorem dX6_width_2 : decode cX6_width 2 = .ok (.iload_n 1, 1) := by decide +kernel
theorem dX6_width_3 : decode cX6_width 3 = .ok (.invokevirtual 238, 3) := by decide +kernel
theorem dX6_width_6 : decode cX6_width 6 = .ok (.invokevirtual 272, 3) := by decide +kernel
theorem dX6_width_9 : decode cX6_width 9 = .ok (.f2d, 1) := by decide +kernel
theorem dX6_width_10 : decode cX6_width 10 = .ok (.dreturn, 1) := by decide +kernel
theorem dX6_many_0 : decode cX6_many 0 = .ok (.iload_n 1, 1) := by decide +kernel
theorem dX6_many_1 : decode cX6_many 1 = .ok (.ifCond .lt 9, 3) := by decide +kernel
theorem dX6_many_4 : decode cX6_many 4 = .ok (.iload_n 1, 1) := by decide +kernel
theorem dX6_many_5 : decode cX6_many 5 = .ok (.bipush 16, 2) := by decide +kernel
theorem dX6_many_7 : decode cX6_many 7 = .ok (.if_icmp .lt 14, 3) := by decide +kernel
theorem dX6_many_10 : decode cX6_many 10 = .ok (.new 52, 3) := by decide +kernel
theorem dX6_many_13 : decode cX6_many 13 = .ok (.dup, 1) := by decide +kernel
theorem dX6_many_14 : decode cX6_many 14 = .ok (.ldc_w 276, 3) := by decide +kernel
theorem dX6_many_17 : decode cX6_many 17 = .ok (.invokespecial 56, 3) := by decide +kernel
theorem dX6_many_20 : decode cX6_many 20 = .ok (.athrow, 1) := by decide +kernel
theorem dX6_many_21 : decode cX6_many 21 = .ok (.aload_n 0, 1) := by decide +kernel
theorem dX6_many_22 : decode cX6_many 22 = .ok (.iload_n 1, 1) := by decide +kernel
theorem dX6_many_23 : decode cX6_many 23 = .ok (.invokevirtual 278, 3) := by decide +kernel
theorem dX6_many_26 : decode cX6_many 26 = .ok (.ireturn, 1) := by decide +kernel
theorem dX6_left_0 : decode cX6_left 0 = .ok (.aload_n 0, 1) := by decide +kernel
theorem dX6_left_1 : decode cX6_left 1 = .ok (.getfield 12, 3) := by decide +kernel
theorem dX6_left_4 : decode cX6_left 4 = .ok (.iload_n 1, 1) := by decide +kernel
theorem dX6_left_5 : decode cX6_left 5 = .ok (.invokevirtual 72, 3) := by decide +kernel
theorem dX6_left_8 : decode cX6_left 8 = .ok (.ifCond .ne 13, 3) := by decide +kernel
theorem dX6_left_11 : decode cX6_left 11 = .ok (.new 76, 3) := by decide +kernel
theorem dX6_left_14 : decode cX6_left 14 = .ok (.dup, 1) := by decide +kernel
theorem dX6_left_15 : decode cX6_left 15 = .ok (.ldc 78, 2) := by decide +kernel
theorem dX6_left_17 : decode cX6_left 17 = .ok (.invokespecial 80, 3) := by decide +kernel
theorem dX6_left_20 : decode cX6_left 20 = .ok (.athrow, 1) := by decide +kernel
theorem dX6_left_21 : decode cX6_left 21 = .ok (.aload_n 0, 1) := by decide +kernel
theorem dX6_left_22 : decode cX6_left 22 = .ok (.getfield 12, 3) := by decide +kernel
theorem dX6_left_25 : decode cX6_left 25 = .ok (.iload_n 1, 1) := by decide +kernel
theorem dX6_left_26 : decode cX6_left 26 = .ok (.invokevirtual 281, 3) := by decide +kernel
theorem dX6_left_29 : decode cX6_left 29 = .ok (.ireturn, 1) := by decide +kernel
theorem dX6_ofPattern_0 : decode cX6_ofPattern 0 = .ok (.aload_n 0, 1) := by decide +kernel
theorem dX6_ofPattern_1 : decode cX6_ofPattern 1 = .ok (.iload_n 1, 1) := by decide +kernel
theorem dX6_ofPattern_2 : decode cX6_ofPattern 2 = .ok (.invokevirtual 213, 3) := by decide +kernel
theorem dX6_ofPattern_5 : decode cX6_ofPattern 5 = .ok (.ifCond .ne 13, 3) := by decide +kernel
theorem dX6_ofPattern_8 : decode cX6_ofPattern 8 = .ok (.new 76, 3) := by decide +kernel
theorem dX6_ofPattern_11 : decode cX6_ofPattern 11 = .ok (.dup, 1) := by decide +kernel
theorem dX6_ofPattern_12 : decode cX6_ofPattern 12 = .ok (.ldc 216, 2) := by decide +kernel
theorem dX6_ofPattern_14 : decode cX6_ofPattern 14 = .ok (.invokespecial 80, 3) := by decide +kernel
theorem dX6_ofPattern_17 : decode cX6_ofPattern 17 = .ok (.athrow, 1) := by decide +kernel
theorem dX6_ofPattern_18 : decode cX6_ofPattern 18 = .ok (.iload_n 2, 1) := by decide +kernel
theorem dX6_ofPattern_19 : decode cX6_ofPattern 19 = .ok (.ifCond .lt 8, 3) := by decide +kernel
theorem dX6_ofPattern_22 : decode cX6_ofPattern 22 = .ok (.iload_n 2, 1) := by decide +kernel
theorem dX6_ofPattern_23 : decode cX6_ofPattern 23 = .ok (.iconst 5, 1) := by decide +kernel
theorem dX6_ofPattern_24 : decode cX6_ofPattern 24 = .ok (.if_icmp .lt 14, 3) := by decide +kernel
theorem dX6_ofPattern_27 : decode cX6_ofPattern 27 = .ok (.new 52, 3) := by decide +kernel
theorem dX6_ofPattern_30 : decode cX6_ofPattern 30 = .ok (.dup, 1) := by decide +kernel
theorem dX6_ofPattern_31 : decode cX6_ofPattern 31 = .ok (.ldc_w 284, 3) := by decide +kernel
theorem dX6_ofPattern_34 : decode cX6_ofPattern 34 = .ok (.invokespecial 56, 3) := by decide +kernel
theorem dX6_ofPattern_37 : decode cX6_ofPattern 37 = .ok (.athrow, 1) := by decide +kernel
theorem dX6_ofPattern_38 : decode cX6_ofPattern 38 = .ok (.aload_n 0, 1) := by decide +kernel
theorem dX6_ofPattern_39 : decode cX6_ofPattern 39 = .ok (.getfield 32, 3) := by decide +kernel
theorem dX6_ofPattern_42 : decode cX6_ofPattern 42 = .ok (.iload_n 1, 1) := by decide +kernel
theorem dX6_ofPattern_43 : decode cX6_ofPattern 43 = .ok (.iload_n 2, 1) := by decide +kernel
theorem dX6_ofPattern_44 : decode cX6_ofPattern 44 = .ok (.invokevirtual 179, 3) := by decide +kernel
theorem dX6_ofPattern_47 : decode cX6_ofPattern 47 = .ok (.ireturn, 1) := by decide +kernel
theorem dX6_would_0 : decode cX6_would 0 = .ok (.aload_n 0, 1) := by decide +kernel
theorem dX6_would_1 : decode cX6_would 1 = .ok (.iload_n 1, 1) := by decide +kernel
theorem dX6_would_2 : decode cX6_would 2 = .ok (.invokevirtual 213, 3) := by decide +kernel
theorem dX6_would_5 : decode cX6_would 5 = .ok (.ifCond .ne 13, 3) := by decide +kernel
theorem dX6_would_8 : decode cX6_would 8 = .ok (.new 76, 3) := by decide +kernel
theorem dX6_would_11 : decode cX6_would 11 = .ok (.dup, 1) := by decide +kernel
theorem dX6_would_12 : decode cX6_would 12 = .ok (.ldc 216, 2) := by decide +kernel
theorem dX6_would_14 : decode cX6_would 14 = .ok (.invokespecial 80, 3) := by decide +kernel
theorem dX6_would_17 : decode cX6_would 17 = .ok (.athrow, 1) := by decide +kernel
theorem dX6_would_18 : decode cX6_would 18 = .ok (.aload_n 0, 1) := by decide +kernel
theorem dX6_would_19 : decode cX6_would 19 = .ok (.iload_n 1, 1) := by decide +kernel
theorem dX6_would_20 : decode cX6_would 20 = .ok (.invokevirtual 218, 3) := by decide +kernel
theorem dX6_would_23 : decode cX6_would 23 = .ok (.aload_n 0, 1) := by decide +kernel
theorem dX6_would_24 : decode cX6_would 24 = .ok (.getfield 48, 3) := by decide +kernel
theorem dX6_would_27 : decode cX6_would 27 = .ok (.getfield 286, 3) := by decide +kernel
theorem dX6_would_30 : decode cX6_would 30 = .ok (.ireturn, 1) := by decide +kernel
theorem dX6_needs_0 : decode cX6_needs 0 = .ok (.aload_n 0, 1) := by decide +kernel
theorem dX6_needs_1 : decode cX6_needs 1 = .ok (.iload_n 1, 1) := by decide +kernel
theorem dX6_needs_2 : decode cX6_needs 2 = .ok (.invokevirtual 213, 3) := by decide +kernel
theorem dX6_needs_5 : decode cX6_needs 5 = .ok (.ifCond .ne 13, 3) := by decide +kernel
theorem dX6_needs_8 : decode cX6_needs 8 = .ok (.new 76, 3) := by decide +kernel
theorem dX6_needs_11 : decode cX6_needs 11 = .ok (.dup, 1) := by decide +kernel
theorem dX6_needs_12 : decode cX6_needs 12 = .ok (.ldc 216, 2) := by decide +kernel
theorem dX6_needs_14 : decode cX6_needs 14 = .ok (.invokespecial 80, 3) := by decide +kernel
theorem dX6_needs_17 : decode cX6_needs 17 = .ok (.athrow, 1) := by decide +kernel
theorem dX6_needs_18 : decode cX6_needs 18 = .ok (.aload_n 0, 1) := by decide +kernel
theorem dX6_needs_19 : decode cX6_needs 19 = .ok (.iload_n 1, 1) := by decide +kernel
theorem dX6_needs_20 : decode cX6_needs 20 = .ok (.invokevirtual 218, 3) := by decide +kernel
theorem dX6_needs_23 : decode cX6_needs 23 = .ok (.aload_n 0, 1) := by decide +kernel
theorem dX6_needs_24 : decode cX6_needs 24 = .ok (.getfield 48, 3) := by decide +kernel
theorem dX6_needs_27 : decode cX6_needs 27 = .ok (.getfield 288, 3) := by decide +kernel
theorem dX6_needs_30 : decode cX6_needs 30 = .ok (.ireturn, 1) := by decide +kernel
theorem dX6_best_0 : decode cX6_best 0 = .ok (.aload_n 0, 1) := by decide +kernel
theorem dX6_best_1 : decode cX6_best 1 = .ok (.invokevirtual 291, 3) := by decide +kernel
theorem dX6_best_4 : decode cX6_best 4 = .ok (.ireturn, 1) := by decide +kernel
theorem dX6_digest_0 : decode cX6_digest 0 = .ok (.ldc2_w 294, 3) := by decide +kernel
theorem dX6_digest_3 : decode cX6_digest 3 = .ok (.lstore_n 1, 1) := by decide +kernel
theorem dX6_digest_4 : decode cX6_digest 4 = .ok (.iconst 0, 1) := by decide +kernel
theorem dX6_digest_5 : decode cX6_digest 5 = .ok (.istore_n 3, 1) := by decide +kernel
theorem dX6_digest_6 : decode cX6_digest 6 = .ok (.iload_n 3, 1) := by decide +kernel
theorem dX6_digest_7 : decode cX6_digest 7 = .ok (.bipush 16, 2) := by decide +kernel
theorem dX6_digest_9 : decode cX6_digest 9 = .ok (.if_icmp .ge 20, 3) := by decide +kernel
theorem dX6_digest_12 : decode cX6_digest 12 = .ok (.lload_n 1, 1) := by decide +kernel
theorem dX6_digest_13 : decode cX6_digest 13 = .ok (.aload_n 0, 1) := by decide +kernel
theorem dX6_digest_14 : decode cX6_digest 14 = .ok (.iload_n 3, 1) := by decide +kernel
theorem dX6_digest_15 : decode cX6_digest 15 = .ok (.invokevirtual 278, 3) := by decide +kernel
theorem dX6_digest_18 : decode cX6_digest 18 = .ok (.i2l, 1) := by decide +kernel
theorem dX6_digest_19 : decode cX6_digest 19 = .ok (.invokestatic 296, 3) := by decide +kernel
theorem dX6_digest_22 : decode cX6_digest 22 = .ok (.lstore_n 1, 1) := by decide +kernel
theorem dX6_digest_23 : decode cX6_digest 23 = .ok (.iinc 3 1, 3) := by decide +kernel
theorem dX6_digest_26 : decode cX6_digest 26 = .ok (.goto (-20), 3) := by decide +kernel
theorem dX6_digest_29 : decode cX6_digest 29 = .ok (.iconst 0, 1) := by decide +kernel
theorem dX6_digest_30 : decode cX6_digest 30 = .ok (.istore_n 3, 1) := by decide +kernel
theorem dX6_digest_31 : decode cX6_digest 31 = .ok (.iload_n 3, 1) := by decide +kernel
theorem dX6_digest_32 : decode cX6_digest 32 = .ok (.aload_n 0, 1) := by decide +kernel
theorem dX6_digest_33 : decode cX6_digest 33 = .ok (.getfield 12, 3) := by decide +kernel
theorem dX6_digest_36 : decode cX6_digest 36 = .ok (.getfield 59, 3) := by decide +kernel
theorem dX6_digest_39 : decode cX6_digest 39 = .ok (.if_icmp .ge 23, 3) := by decide +kernel
theorem dX6_digest_42 : decode cX6_digest 42 = .ok (.lload_n 1, 1) := by decide +kernel
theorem dX6_digest_43 : decode cX6_digest 43 = .ok (.aload_n 0, 1) := by decide +kernel
theorem dX6_digest_44 : decode cX6_digest 44 = .ok (.getfield 12, 3) := by decide +kernel
theorem dX6_digest_47 : decode cX6_digest 47 = .ok (.iload_n 3, 1) := by decide +kernel
theorem dX6_digest_48 : decode cX6_digest 48 = .ok (.invokevirtual 281, 3) := by decide +kernel
theorem dX6_digest_51 : decode cX6_digest 51 = .ok (.i2l, 1) := by decide +kernel
theorem dX6_digest_52 : decode cX6_digest 52 = .ok (.invokestatic 296, 3) := by decide +kernel
theorem dX6_digest_55 : decode cX6_digest 55 = .ok (.lstore_n 1, 1) := by decide +kernel
theorem dX6_digest_56 : decode cX6_digest 56 = .ok (.iinc 3 1, 3) := by decide +kernel
theorem dX6_digest_59 : decode cX6_digest 59 = .ok (.goto (-28), 3) := by decide +kernel
theorem dX6_digest_62 : decode cX6_digest 62 = .ok (.aload_n 0, 1) := by decide +kernel
theorem dX6_digest_63 : decode cX6_digest 63 = .ok (.lload_n 1, 1) := by decide +kernel
theorem dX6_digest_64 : decode cX6_digest 64 = .ok (.aload_n 0, 1) := by decide +kernel
theorem dX6_digest_65 : decode cX6_digest 65 = .ok (.getfield 19, 3) := by decide +kernel
theorem dX6_digest_68 : decode cX6_digest 68 = .ok (.getfield 131, 3) := by decide +kernel
theorem dX6_digest_71 : decode cX6_digest 71 = .ok (.invokevirtual 300, 3) := by decide +kernel
theorem dX6_digest_74 : decode cX6_digest 74 = .ok (.lstore_n 1, 1) := by decide +kernel
theorem dX6_digest_75 : decode cX6_digest 75 = .ok (.aload_n 0, 1) := by decide +kernel
theorem dX6_digest_76 : decode cX6_digest 76 = .ok (.lload_n 1, 1) := by decide +kernel
theorem dX6_digest_77 : decode cX6_digest 77 = .ok (.aload_n 0, 1) := by decide +kernel
theorem dX6_digest_78 : decode cX6_digest 78 = .ok (.getfield 19, 3) := by decide +kernel
theorem dX6_digest_81 : decode cX6_digest 81 = .ok (.getfield 148, 3) := by decide +kernel
theorem dX6_digest_84 : decode cX6_digest 84 = .ok (.invokevirtual 300, 3) := by decide +kernel
theorem dX6_digest_87 : decode cX6_digest 87 = .ok (.lstore_n 1, 1) := by decide +kernel
theorem dX6_digest_88 : decode cX6_digest 88 = .ok (.lload_n 1, 1) := by decide +kernel
theorem dX6_digest_89 : decode cX6_digest 89 = .ok (.ldc_w 304, 3) := by decide +kernel
theorem dX6_digest_92 : decode cX6_digest 92 = .ok (.aload_n 0, 1) := by decide +kernel
theorem dX6_digest_93 : decode cX6_digest 93 = .ok (.aload_n 0, 1) := by decide +kernel
theorem dX6_digest_94 : decode cX6_digest 94 = .ok (.getfield 19, 3) := by decide +kernel
theorem dX6_digest_97 : decode cX6_digest 97 = .ok (.getfield 131, 3) := by decide +kernel
theorem dX6_digest_100 : decode cX6_digest 100 = .ok (.invokevirtual 272, 3) := by decide +kernel
theorem dX6_digest_103 : decode cX6_digest 103 = .ok (.fmul, 1) := by decide +kernel
theorem dX6_digest_104 : decode cX6_digest 104 = .ok (.f2l, 1) := by decide +kernel
theorem dX6_digest_105 : decode cX6_digest 105 = .ok (.invokestatic 296, 3) := by decide +kernel
theorem dX6_digest_108 : decode cX6_digest 108 = .ok (.lstore_n 1, 1) := by decide +kernel
theorem dX6_digest_109 : decode cX6_digest 109 = .ok (.lload_n 1, 1) := by decide +kernel
theorem dX6_digest_110 : decode cX6_digest 110 = .ok (.ldc_w 304, 3) := by decide +kernel
theorem dX6_digest_113 : decode cX6_digest 113 = .ok (.aload_n 0, 1) := by decide +kernel
theorem dX6_digest_114 : decode cX6_digest 114 = .ok (.aload_n 0, 1) := by decide +kernel
theorem dX6_digest_115 : decode cX6_digest 115 = .ok (.getfield 19, 3) := by decide +kernel
theorem dX6_digest_118 : decode cX6_digest 118 = .ok (.getfield 148, 3) := by decide +kernel
theorem dX6_digest_121 : decode cX6_digest 121 = .ok (.invokevirtual 272, 3) := by decide +kernel
theorem dX6_digest_124 : decode cX6_digest 124 = .ok (.fmul, 1) := by decide +kernel
theorem dX6_digest_125 : decode cX6_digest 125 = .ok (.f2l, 1) := by decide +kernel
theorem dX6_digest_126 : decode cX6_digest 126 = .ok (.invokestatic 296, 3) := by decide +kernel
theorem dX6_digest_129 : decode cX6_digest 129 = .ok (.lstore_n 1, 1) := by decide +kernel
theorem dX6_digest_130 : decode cX6_digest 130 = .ok (.iconst 0, 1) := by decide +kernel
theorem dX6_digest_131 : decode cX6_digest 131 = .ok (.istore_n 3, 1) := by decide +kernel
theorem dX6_digest_132 : decode cX6_digest 132 = .ok (.iload_n 3, 1) := by decide +kernel
theorem dX6_digest_133 : decode cX6_digest 133 = .ok (.aload_n 0, 1) := by decide +kernel
theorem dX6_digest_134 : decode cX6_digest 134 = .ok (.getfield 19, 3) := by decide +kernel
theorem dX6_digest_137 : decode cX6_digest 137 = .ok (.getfield 171, 3) := by decide +kernel
theorem dX6_digest_140 : decode cX6_digest 140 = .ok (.if_icmp .ge 23, 3) := by decide +kernel
theorem dX6_digest_143 : decode cX6_digest 143 = .ok (.lload_n 1, 1) := by decide +kernel
theorem dX6_digest_144 : decode cX6_digest 144 = .ok (.aload_n 0, 1) := by decide +kernel
theorem dX6_digest_145 : decode cX6_digest 145 = .ok (.getfield 19, 3) := by decide +kernel
theorem dX6_digest_148 : decode cX6_digest 148 = .ok (.getfield 187, 3) := by decide +kernel
theorem dX6_digest_151 : decode cX6_digest 151 = .ok (.iload_n 3, 1) := by decide +kernel
theorem dX6_digest_152 : decode cX6_digest 152 = .ok (.iconst 4, 1) := by decide +kernel
theorem dX6_digest_153 : decode cX6_digest 153 = .ok (.invokestatic 305, 3) := by decide +kernel
theorem dX6_digest_156 : decode cX6_digest 156 = .ok (.lstore_n 1, 1) := by decide +kernel
theorem dX6_digest_157 : decode cX6_digest 157 = .ok (.iinc 3 1, 3) := by decide +kernel
theorem dX6_digest_160 : decode cX6_digest 160 = .ok (.goto (-28), 3) := by decide +kernel
theorem dX6_digest_163 : decode cX6_digest 163 = .ok (.aload_n 0, 1) := by decide +kernel
theorem dX6_digest_164 : decode cX6_digest 164 = .ok (.lload_n 1, 1) := by decide +kernel
theorem dX6_digest_165 : decode cX6_digest 165 = .ok (.invokevirtual 309, 3) := by decide +kernel
theorem dX6_digest_168 : decode cX6_digest 168 = .ok (.lstore_n 1, 1) := by decide +kernel
theorem dX6_digest_169 : decode cX6_digest 169 = .ok (.lload_n 1, 1) := by decide +kernel
theorem dX6_digest_170 : decode cX6_digest 170 = .ok (.aload_n 0, 1) := by decide +kernel
theorem dX6_digest_171 : decode cX6_digest 171 = .ok (.invokevirtual 291, 3) := by decide +kernel
theorem dX6_digest_174 : decode cX6_digest 174 = .ok (.i2l, 1) := by decide +kernel
theorem dX6_digest_175 : decode cX6_digest 175 = .ok (.invokestatic 296, 3) := by decide +kernel
theorem dX6_digest_178 : decode cX6_digest 178 = .ok (.lreturn, 1) := by decide +kernel
theorem dX6_make_0 : decode cX6_make 0 = .ok (.aload_n 0, 1) := by decide +kernel
theorem dX6_make_1 : decode cX6_make 1 = .ok (.getfield 19, 3) := by decide +kernel
theorem dX6_make_4 : decode cX6_make 4 = .ok (.getfield 245, 3) := by decide +kernel
theorem dX6_make_7 : decode cX6_make 7 = .ok (.istore 5, 2) := by decide +kernel
theorem dX6_make_9 : decode cX6_make 9 = .ok (.aload_n 0, 1) := by decide +kernel
theorem dX6_make_10 : decode cX6_make 10 = .ok (.getfield 19, 3) := by decide +kernel
theorem dX6_make_13 : decode cX6_make 13 = .ok (.dup, 1) := by decide +kernel
theorem dX6_make_14 : decode cX6_make 14 = .ok (.getfield 245, 3) := by decide +kernel
theorem dX6_make_17 : decode cX6_make 17 = .ok (.iconst 1, 1) := by decide +kernel
theorem dX6_make_18 : decode cX6_make 18 = .ok (.iadd, 1) := by decide +kernel
theorem dX6_make_19 : decode cX6_make 19 = .ok (.putfield 245, 3) := by decide +kernel
theorem dX6_make_22 : decode cX6_make 22 = .ok (.aload_n 0, 1) := by decide +kernel
theorem dX6_make_23 : decode cX6_make 23 = .ok (.getfield 28, 3) := by decide +kernel
theorem dX6_make_26 : decode cX6_make 26 = .ok (.iload 5, 2) := by decide +kernel
theorem dX6_make_28 : decode cX6_make 28 = .ok (.iconst 0, 1) := by decide +kernel
theorem dX6_make_29 : decode cX6_make 29 = .ok (.iload_n 1, 1) := by decide +kernel
theorem dX6_make_30 : decode cX6_make 30 = .ok (.invokevirtual 192, 3) := by decide +kernel
theorem dX6_make_33 : decode cX6_make 33 = .ok (.aload_n 0, 1) := by decide +kernel
theorem dX6_make_34 : decode cX6_make 34 = .ok (.getfield 28, 3) := by decide +kernel
theorem dX6_make_37 : decode cX6_make 37 = .ok (.iload 5, 2) := by decide +kernel
theorem dX6_make_39 : decode cX6_make 39 = .ok (.iconst 1, 1) := by decide +kernel
theorem dX6_make_40 : decode cX6_make 40 = .ok (.aload_n 0, 1) := by decide +kernel
theorem dX6_make_41 : decode cX6_make 41 = .ok (.getfield 12, 3) := by decide +kernel
theorem dX6_make_44 : decode cX6_make 44 = .ok (.getfield 81, 3) := by decide +kernel
theorem dX6_make_47 : decode cX6_make 47 = .ok (.invokevirtual 192, 3) := by decide +kernel
theorem dX6_make_50 : decode cX6_make 50 = .ok (.aload_n 0, 1) := by decide +kernel
theorem dX6_make_51 : decode cX6_make 51 = .ok (.getfield 28, 3) := by decide +kernel
theorem dX6_make_54 : decode cX6_make 54 = .ok (.iload 5, 2) := by decide +kernel
theorem dX6_make_56 : decode cX6_make 56 = .ok (.iconst 2, 1) := by decide +kernel
theorem dX6_make_57 : decode cX6_make 57 = .ok (.aload_n 0, 1) := by decide +kernel
theorem dX6_make_58 : decode cX6_make 58 = .ok (.getfield 19, 3) := by decide +kernel
theorem dX6_make_61 : decode cX6_make 61 = .ok (.getfield 155, 3) := by decide +kernel
theorem dX6_make_64 : decode cX6_make 64 = .ok (.invokevirtual 192, 3) := by decide +kernel
theorem dX6_make_67 : decode cX6_make 67 = .ok (.aload_n 0, 1) := by decide +kernel
theorem dX6_make_68 : decode cX6_make 68 = .ok (.getfield 28, 3) := by decide +kernel
theorem dX6_make_71 : decode cX6_make 71 = .ok (.iload 5, 2) := by decide +kernel
theorem dX6_make_73 : decode cX6_make 73 = .ok (.iconst 3, 1) := by decide +kernel
theorem dX6_make_74 : decode cX6_make 74 = .ok (.iload_n 2, 1) := by decide +kernel
theorem dX6_make_75 : decode cX6_make 75 = .ok (.invokevirtual 192, 3) := by decide +kernel
theorem dX6_make_78 : decode cX6_make 78 = .ok (.aload_n 0, 1) := by decide +kernel
theorem dX6_make_79 : decode cX6_make 79 = .ok (.getfield 28, 3) := by decide +kernel
theorem dX6_make_82 : decode cX6_make 82 = .ok (.iload 5, 2) := by decide +kernel
theorem dX6_make_84 : decode cX6_make 84 = .ok (.iconst 4, 1) := by decide +kernel
theorem dX6_make_85 : decode cX6_make 85 = .ok (.iload_n 3, 1) := by decide +kernel
theorem dX6_make_86 : decode cX6_make 86 = .ok (.invokevirtual 192, 3) := by decide +kernel
theorem dX6_make_89 : decode cX6_make 89 = .ok (.aload_n 0, 1) := by decide +kernel
theorem dX6_make_90 : decode cX6_make 90 = .ok (.getfield 12, 3) := by decide +kernel
theorem dX6_make_93 : decode cX6_make 93 = .ok (.iload 4, 2) := by decide +kernel
theorem dX6_make_95 : decode cX6_make 95 = .ok (.invokevirtual 313, 3) := by decide +kernel
theorem dX6_make_98 : decode cX6_make 98 = .ok (.aload_n 0, 1) := by decide +kernel
theorem dX6_make_99 : decode cX6_make 99 = .ok (.getfield 19, 3) := by decide +kernel
theorem dX6_make_102 : decode cX6_make 102 = .ok (.getfield 148, 3) := by decide +kernel
theorem dX6_make_105 : decode cX6_make 105 = .ok (.iload 5, 2) := by decide +kernel
theorem dX6_make_107 : decode cX6_make 107 = .ok (.invokevirtual 195, 3) := by decide +kernel
theorem dX6_make_110 : decode cX6_make 110 = .ok (.aload_n 0, 1) := by decide +kernel
theorem dX6_make_111 : decode cX6_make 111 = .ok (.getfield 19, 3) := by decide +kernel
theorem dX6_make_114 : decode cX6_make 114 = .ok (.invokevirtual 316, 3) := by decide +kernel
theorem dX6_make_117 : decode cX6_make 117 = .ok (.iload 5, 2) := by decide +kernel
theorem dX6_make_119 : decode cX6_make 119 = .ok (.ireturn, 1) := by decide +kernel
theorem dX6_takeWorked_0 : decode cX6_takeWorked 0 = .ok (.aload_n 0, 1) := by decide +kernel
theorem dX6_takeWorked_1 : decode cX6_takeWorked 1 = .ok (.getfield 19, 3) := by decide +kernel
theorem dX6_takeWorked_4 : decode cX6_takeWorked 4 = .ok (.getfield 131, 3) := by decide +kernel
