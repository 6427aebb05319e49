theorem dX6_takeWorked_7 : decode cX6_takeWorked 7 = .ok (.iconst 0, 1) := by decide +kernel
theorem dX6_takeWorked_8 : decode cX6_takeWorked 8 = .ok (.invokevirtual 176, 3) := by decide +kernel
theorem dX6_takeWorked_11 : decode cX6_takeWorked 11 = .ok (.istore_n 1, 1) := by decide +kernel
theorem dX6_takeWorked_12 : decode cX6_takeWorked 12 = .ok (.aload_n 0, 1) := by decide +kernel
theorem dX6_takeWorked_13 : decode cX6_takeWorked 13 = .ok (.getfield 28, 3) := by decide +kernel
theorem dX6_takeWorked_16 : decode cX6_takeWorked 16 = .ok (.iload_n 1, 1) := by decide +kernel
theorem dX6_takeWorked_17 : decode cX6_takeWorked 17 = .ok (.iconst 5, 1) := by decide +kernel
theorem dX6_takeWorked_18 : decode cX6_takeWorked 18 = .ok (.iconst 2, 1) := by decide +kernel
theorem dX6_takeWorked_19 : decode cX6_takeWorked 19 = .ok (.invokevirtual 192, 3) := by decide +kernel
theorem dX6_takeWorked_22 : decode cX6_takeWorked 22 = .ok (.iload_n 1, 1) := by decide +kernel
theorem dX6_takeWorked_23 : decode cX6_takeWorked 23 = .ok (.ireturn, 1) := by decide +kernel
theorem dX6_workNext_0 : decode cX6_workNext 0 = .ok (.aload_n 0, 1) := by decide +kernel
theorem dX6_workNext_1 : decode cX6_workNext 1 = .ok (.invokevirtual 319, 3) := by decide +kernel
theorem dX6_workNext_4 : decode cX6_workNext 4 = .ok (.istore_n 2, 1) := by decide +kernel
theorem dX6_workNext_5 : decode cX6_workNext 5 = .ok (.aload_n 0, 1) := by decide +kernel
theorem dX6_workNext_6 : decode cX6_workNext 6 = .ok (.iload_n 1, 1) := by decide +kernel
theorem dX6_workNext_7 : decode cX6_workNext 7 = .ok (.aload_n 0, 1) := by decide +kernel
theorem dX6_workNext_8 : decode cX6_workNext 8 = .ok (.getfield 28, 3) := by decide +kernel
theorem dX6_workNext_11 : decode cX6_workNext 11 = .ok (.iload_n 2, 1) := by decide +kernel
theorem dX6_workNext_12 : decode cX6_workNext 12 = .ok (.iconst 3, 1) := by decide +kernel
theorem dX6_workNext_13 : decode cX6_workNext 13 = .ok (.invokevirtual 179, 3) := by decide +kernel
theorem dX6_workNext_16 : decode cX6_workNext 16 = .ok (.iconst 1, 1) := by decide +kernel
theorem dX6_workNext_17 : decode cX6_workNext 17 = .ok (.iadd, 1) := by decide +kernel
theorem dX6_workNext_18 : decode cX6_workNext 18 = .ok (.iconst 1, 1) := by decide +kernel
theorem dX6_workNext_19 : decode cX6_workNext 19 = .ok (.iconst 4, 1) := by decide +kernel
theorem dX6_workNext_20 : decode cX6_workNext 20 = .ok (.invokevirtual 99, 3) := by decide +kernel
theorem dX6_workNext_23 : decode cX6_workNext 23 = .ok (.ireturn, 1) := by decide +kernel
theorem dX6_makeOver_0 : decode cX6_makeOver 0 = .ok (.aload_n 0, 1) := by decide +kernel
theorem dX6_makeOver_1 : decode cX6_makeOver 1 = .ok (.getfield 19, 3) := by decide +kernel
theorem dX6_makeOver_4 : decode cX6_makeOver 4 = .ok (.dup, 1) := by decide +kernel
theorem dX6_makeOver_5 : decode cX6_makeOver 5 = .ok (.getfield 322, 3) := by decide +kernel
theorem dX6_makeOver_8 : decode cX6_makeOver 8 = .ok (.iconst 1, 1) := by decide +kernel
theorem dX6_makeOver_9 : decode cX6_makeOver 9 = .ok (.iadd, 1) := by decide +kernel
theorem dX6_makeOver_10 : decode cX6_makeOver 10 = .ok (.putfield 322, 3) := by decide +kernel
theorem dX6_makeOver_13 : decode cX6_makeOver 13 = .ok (.aload_n 0, 1) := by decide +kernel
theorem dX6_makeOver_14 : decode cX6_makeOver 14 = .ok (.iconst 3, 1) := by decide +kernel
theorem dX6_makeOver_15 : decode cX6_makeOver 15 = .ok (.iconst 1, 1) := by decide +kernel
theorem dX6_makeOver_16 : decode cX6_makeOver 16 = .ok (.iconst 0, 1) := by decide +kernel
theorem dX6_makeOver_17 : decode cX6_makeOver 17 = .ok (.iconst 3, 1) := by decide +kernel
theorem dX6_makeOver_18 : decode cX6_makeOver 18 = .ok (.invokevirtual 99, 3) := by decide +kernel
theorem dX6_makeOver_21 : decode cX6_makeOver 21 = .ok (.ireturn, 1) := by decide +kernel
theorem dX6_takeTogether_0 : decode cX6_takeTogether 0 = .ok (.iconst 0, 1) := by decide +kernel
theorem dX6_takeTogether_1 : decode cX6_takeTogether 1 = .ok (.istore_n 3, 1) := by decide +kernel
theorem dX6_takeTogether_2 : decode cX6_takeTogether 2 = .ok (.iload_n 3, 1) := by decide +kernel
theorem dX6_takeTogether_3 : decode cX6_takeTogether 3 = .ok (.iload_n 1, 1) := by decide +kernel
theorem dX6_takeTogether_4 : decode cX6_takeTogether 4 = .ok (.if_icmp .ge 14, 3) := by decide +kernel
theorem dX6_takeTogether_7 : decode cX6_takeTogether 7 = .ok (.aload_n 0, 1) := by decide +kernel
theorem dX6_takeTogether_8 : decode cX6_takeTogether 8 = .ok (.invokevirtual 319, 3) := by decide +kernel
theorem dX6_takeTogether_11 : decode cX6_takeTogether 11 = .ok (.pop, 1) := by decide +kernel
theorem dX6_takeTogether_12 : decode cX6_takeTogether 12 = .ok (.iinc 3 1, 3) := by decide +kernel
theorem dX6_takeTogether_15 : decode cX6_takeTogether 15 = .ok (.goto (-13), 3) := by decide +kernel
theorem dX6_takeTogether_18 : decode cX6_takeTogether 18 = .ok (.aload_n 0, 1) := by decide +kernel
theorem dX6_takeTogether_19 : decode cX6_takeTogether 19 = .ok (.iload_n 2, 1) := by decide +kernel
theorem dX6_takeTogether_20 : decode cX6_takeTogether 20 = .ok (.iconst 1, 1) := by decide +kernel
theorem dX6_takeTogether_21 : decode cX6_takeTogether 21 = .ok (.iload_n 1, 1) := by decide +kernel
theorem dX6_takeTogether_22 : decode cX6_takeTogether 22 = .ok (.iconst 5, 1) := by decide +kernel
theorem dX6_takeTogether_23 : decode cX6_takeTogether 23 = .ok (.invokevirtual 99, 3) := by decide +kernel
theorem dX6_takeTogether_26 : decode cX6_takeTogether 26 = .ok (.ireturn, 1) := by decide +kernel
theorem dX6_slipNext_0 : decode cX6_slipNext 0 = .ok (.aload_n 0, 1) := by decide +kernel
theorem dX6_slipNext_1 : decode cX6_slipNext 1 = .ok (.getfield 19, 3) := by decide +kernel
theorem dX6_slipNext_4 : decode cX6_slipNext 4 = .ok (.getfield 131, 3) := by decide +kernel
theorem dX6_slipNext_7 : decode cX6_slipNext 7 = .ok (.iconst 0, 1) := by decide +kernel
theorem dX6_slipNext_8 : decode cX6_slipNext 8 = .ok (.invokevirtual 176, 3) := by decide +kernel
theorem dX6_slipNext_11 : decode cX6_slipNext 11 = .ok (.istore_n 1, 1) := by decide +kernel
theorem dX6_slipNext_12 : decode cX6_slipNext 12 = .ok (.aload_n 0, 1) := by decide +kernel
theorem dX6_slipNext_13 : decode cX6_slipNext 13 = .ok (.getfield 19, 3) := by decide +kernel
theorem dX6_slipNext_16 : decode cX6_slipNext 16 = .ok (.getfield 148, 3) := by decide +kernel
theorem dX6_slipNext_19 : decode cX6_slipNext 19 = .ok (.iload_n 1, 1) := by decide +kernel
theorem dX6_slipNext_20 : decode cX6_slipNext 20 = .ok (.invokevirtual 195, 3) := by decide +kernel
theorem dX6_slipNext_23 : decode cX6_slipNext 23 = .ok (.iload_n 1, 1) := by decide +kernel
theorem dX6_slipNext_24 : decode cX6_slipNext 24 = .ok (.ireturn, 1) := by decide +kernel
theorem dX6_crossNext_0 : decode cX6_crossNext 0 = .ok (.iconst 0, 1) := by decide +kernel
theorem dX6_crossNext_1 : decode cX6_crossNext 1 = .ok (.istore_n 3, 1) := by decide +kernel
theorem dX6_crossNext_2 : decode cX6_crossNext 2 = .ok (.iload_n 3, 1) := by decide +kernel
theorem dX6_crossNext_3 : decode cX6_crossNext 3 = .ok (.iload_n 1, 1) := by decide +kernel
theorem dX6_crossNext_4 : decode cX6_crossNext 4 = .ok (.if_icmp .ge 24, 3) := by decide +kernel
theorem dX6_crossNext_7 : decode cX6_crossNext 7 = .ok (.aload_n 0, 1) := by decide +kernel
theorem dX6_crossNext_8 : decode cX6_crossNext 8 = .ok (.getfield 19, 3) := by decide +kernel
theorem dX6_crossNext_11 : decode cX6_crossNext 11 = .ok (.getfield 131, 3) := by decide +kernel
theorem dX6_crossNext_14 : decode cX6_crossNext 14 = .ok (.iload_n 1, 1) := by decide +kernel
theorem dX6_crossNext_15 : decode cX6_crossNext 15 = .ok (.iload_n 2, 1) := by decide +kernel
theorem dX6_crossNext_16 : decode cX6_crossNext 16 = .ok (.iadd, 1) := by decide +kernel
theorem dX6_crossNext_17 : decode cX6_crossNext 17 = .ok (.iconst 1, 1) := by decide +kernel
theorem dX6_crossNext_18 : decode cX6_crossNext 18 = .ok (.isub, 1) := by decide +kernel
theorem dX6_crossNext_19 : decode cX6_crossNext 19 = .ok (.invokevirtual 325, 3) := by decide +kernel
theorem dX6_crossNext_22 : decode cX6_crossNext 22 = .ok (.iinc 3 1, 3) := by decide +kernel
theorem dX6_crossNext_25 : decode cX6_crossNext 25 = .ok (.goto (-23), 3) := by decide +kernel
theorem dX6_crossNext_28 : decode cX6_crossNext 28 = .ok (.aload_n 0, 1) := by decide +kernel
theorem dX6_crossNext_29 : decode cX6_crossNext 29 = .ok (.getfield 19, 3) := by decide +kernel
theorem dX6_crossNext_32 : decode cX6_crossNext 32 = .ok (.dup, 1) := by decide +kernel
theorem dX6_crossNext_33 : decode cX6_crossNext 33 = .ok (.getfield 328, 3) := by decide +kernel
theorem dX6_crossNext_36 : decode cX6_crossNext 36 = .ok (.iconst 1, 1) := by decide +kernel
theorem dX6_crossNext_37 : decode cX6_crossNext 37 = .ok (.iadd, 1) := by decide +kernel
theorem dX6_crossNext_38 : decode cX6_crossNext 38 = .ok (.putfield 328, 3) := by decide +kernel
theorem dX6_crossNext_41 : decode cX6_crossNext 41 = .ok (.aload_n 0, 1) := by decide +kernel
theorem dX6_crossNext_42 : decode cX6_crossNext 42 = .ok (.getfield 19, 3) := by decide +kernel
theorem dX6_crossNext_45 : decode cX6_crossNext 45 = .ok (.getfield 131, 3) := by decide +kernel
theorem dX6_crossNext_48 : decode cX6_crossNext 48 = .ok (.iconst 0, 1) := by decide +kernel
theorem dX6_crossNext_49 : decode cX6_crossNext 49 = .ok (.invokevirtual 242, 3) := by decide +kernel
theorem dX6_crossNext_52 : decode cX6_crossNext 52 = .ok (.ireturn, 1) := by decide +kernel
theorem dX6_bindSeconds_0 : decode cX6_bindSeconds 0 = .ok (.iconst 0, 1) := by decide +kernel
theorem dX6_bindSeconds_1 : decode cX6_bindSeconds 1 = .ok (.istore_n 2, 1) := by decide +kernel
theorem dX6_bindSeconds_2 : decode cX6_bindSeconds 2 = .ok (.iload_n 2, 1) := by decide +kernel
theorem dX6_bindSeconds_3 : decode cX6_bindSeconds 3 = .ok (.iload_n 1, 1) := by decide +kernel
theorem dX6_bindSeconds_4 : decode cX6_bindSeconds 4 = .ok (.if_icmp .ge 14, 3) := by decide +kernel
theorem dX6_bindSeconds_7 : decode cX6_bindSeconds 7 = .ok (.aload_n 0, 1) := by decide +kernel
theorem dX6_bindSeconds_8 : decode cX6_bindSeconds 8 = .ok (.iconst 1, 1) := by decide +kernel
theorem dX6_bindSeconds_9 : decode cX6_bindSeconds 9 = .ok (.invokevirtual 331, 3) := by decide +kernel
theorem dX6_bindSeconds_12 : decode cX6_bindSeconds 12 = .ok (.iinc 2 1, 3) := by decide +kernel
theorem dX6_bindSeconds_15 : decode cX6_bindSeconds 15 = .ok (.goto (-13), 3) := by decide +kernel
theorem dX6_bindSeconds_18 : decode cX6_bindSeconds 18 = .ok (.return_, 1) := by decide +kernel
theorem dX6_fastenLast_0 : decode cX6_fastenLast 0 = .ok (.aload_n 0, 1) := by decide +kernel
theorem dX6_fastenLast_1 : decode cX6_fastenLast 1 = .ok (.getfield 12, 3) := by decide +kernel
theorem dX6_fastenLast_4 : decode cX6_fastenLast 4 = .ok (.bipush 6, 2) := by decide +kernel
theorem dX6_fastenLast_6 : decode cX6_fastenLast 6 = .ok (.invokevirtual 313, 3) := by decide +kernel
theorem dX6_fastenLast_9 : decode cX6_fastenLast 9 = .ok (.aload_n 0, 1) := by decide +kernel
theorem dX6_fastenLast_10 : decode cX6_fastenLast 10 = .ok (.iconst 0, 1) := by decide +kernel
theorem dX6_fastenLast_11 : decode cX6_fastenLast 11 = .ok (.invokevirtual 331, 3) := by decide +kernel
theorem dX6_fastenLast_14 : decode cX6_fastenLast 14 = .ok (.return_, 1) := by decide +kernel
theorem dX6_bindAt_0 : decode cX6_bindAt 0 = .ok (.aload_n 0, 1) := by decide +kernel
theorem dX6_bindAt_1 : decode cX6_bindAt 1 = .ok (.getfield 19, 3) := by decide +kernel
theorem dX6_bindAt_4 : decode cX6_bindAt 4 = .ok (.getfield 148, 3) := by decide +kernel
theorem dX6_bindAt_7 : decode cX6_bindAt 7 = .ok (.iload_n 1, 1) := by decide +kernel
theorem dX6_bindAt_8 : decode cX6_bindAt 8 = .ok (.invokevirtual 176, 3) := by decide +kernel
theorem dX6_bindAt_11 : decode cX6_bindAt 11 = .ok (.istore_n 2, 1) := by decide +kernel
theorem dX6_bindAt_12 : decode cX6_bindAt 12 = .ok (.aload_n 0, 1) := by decide +kernel
theorem dX6_bindAt_13 : decode cX6_bindAt 13 = .ok (.getfield 28, 3) := by decide +kernel
theorem dX6_bindAt_16 : decode cX6_bindAt 16 = .ok (.iload_n 2, 1) := by decide +kernel
theorem dX6_bindAt_17 : decode cX6_bindAt 17 = .ok (.iconst 5, 1) := by decide +kernel
theorem dX6_bindAt_18 : decode cX6_bindAt 18 = .ok (.iconst 3, 1) := by decide +kernel
theorem dX6_bindAt_19 : decode cX6_bindAt 19 = .ok (.invokevirtual 192, 3) := by decide +kernel
theorem dX6_bindAt_22 : decode cX6_bindAt 22 = .ok (.aload_n 0, 1) := by decide +kernel
theorem dX6_bindAt_23 : decode cX6_bindAt 23 = .ok (.getfield 19, 3) := by decide +kernel
theorem dX6_bindAt_26 : decode cX6_bindAt 26 = .ok (.dup, 1) := by decide +kernel
theorem dX6_bindAt_27 : decode cX6_bindAt 27 = .ok (.getfield 334, 3) := by decide +kernel
theorem dX6_bindAt_30 : decode cX6_bindAt 30 = .ok (.iconst 1, 1) := by decide +kernel
theorem dX6_bindAt_31 : decode cX6_bindAt 31 = .ok (.iadd, 1) := by decide +kernel
theorem dX6_bindAt_32 : decode cX6_bindAt 32 = .ok (.putfield 334, 3) := by decide +kernel
theorem dX6_bindAt_35 : decode cX6_bindAt 35 = .ok (.return_, 1) := by decide +kernel
theorem dX6_stepFact_0 : decode cX6_stepFact 0 = .ok (.iload_n 1, 1) := by decide +kernel
theorem dX6_stepFact_1 : decode cX6_stepFact 1 = .ok (.ifCond .lt 15, 3) := by decide +kernel
theorem dX6_stepFact_4 : decode cX6_stepFact 4 = .ok (.iload_n 1, 1) := by decide +kernel
theorem dX6_stepFact_5 : decode cX6_stepFact 5 = .ok (.aload_n 0, 1) := by decide +kernel
theorem dX6_stepFact_6 : decode cX6_stepFact 6 = .ok (.arraylength, 1) := by decide +kernel
theorem dX6_stepFact_7 : decode cX6_stepFact 7 = .ok (.if_icmp .ge 9, 3) := by decide +kernel
theorem dX6_stepFact_10 : decode cX6_stepFact 10 = .ok (.aload_n 0, 1) := by decide +kernel
theorem dX6_stepFact_11 : decode cX6_stepFact 11 = .ok (.iload_n 1, 1) := by decide +kernel
theorem dX6_stepFact_12 : decode cX6_stepFact 12 = .ok (.iaload, 1) := by decide +kernel
theorem dX6_stepFact_13 : decode cX6_stepFact 13 = .ok (.goto 4, 3) := by decide +kernel
theorem dX6_stepFact_16 : decode cX6_stepFact 16 = .ok (.iconst 0, 1) := by decide +kernel
theorem dX6_stepFact_17 : decode cX6_stepFact 17 = .ok (.ireturn, 1) := by decide +kernel
theorem dX6_canDo_0 : decode cX6_canDo 0 = .ok (.iload_n 1, 1) := by decide +kernel
theorem dX6_canDo_1 : decode cX6_canDo 1 = .ok (.aload_n 0, 1) := by decide +kernel
theorem dX6_canDo_2 : decode cX6_canDo 2 = .ok (.getfield 19, 3) := by decide +kernel
theorem dX6_canDo_5 : decode cX6_canDo 5 = .ok (.getfield 131, 3) := by decide +kernel
theorem dX6_canDo_8 : decode cX6_canDo 8 = .ok (.getfield 135, 3) := by decide +kernel
theorem dX6_canDo_11 : decode cX6_canDo 11 = .ok (.aload_n 0, 1) := by decide +kernel
theorem dX6_canDo_12 : decode cX6_canDo 12 = .ok (.getfield 19, 3) := by decide +kernel
theorem dX6_canDo_15 : decode cX6_canDo 15 = .ok (.invokevirtual 90, 3) := by decide +kernel
theorem dX6_canDo_18 : decode cX6_canDo 18 = .ok (.aload_n 0, 1) := by decide +kernel
theorem dX6_canDo_19 : decode cX6_canDo 19 = .ok (.getfield 12, 3) := by decide +kernel
theorem dX6_canDo_22 : decode cX6_canDo 22 = .ok (.invokevirtual 86, 3) := by decide +kernel
theorem dX6_canDo_25 : decode cX6_canDo 25 = .ok (.invokestatic 337, 3) := by decide +kernel
theorem dX6_canDo_28 : decode cX6_canDo 28 = .ok (.ireturn, 1) := by decide +kernel
theorem dX6_fits_0 : decode cX6_fits 0 = .ok (.getstatic 341, 3) := by decide +kernel
theorem dX6_fits_3 : decode cX6_fits 3 = .ok (.iload_n 0, 1) := by decide +kernel
theorem dX6_fits_4 : decode cX6_fits 4 = .ok (.invokestatic 345, 3) := by decide +kernel
theorem dX6_fits_7 : decode cX6_fits 7 = .ok (.getstatic 349, 3) := by decide +kernel
theorem dX6_fits_10 : decode cX6_fits 10 = .ok (.iload_n 0, 1) := by decide +kernel
theorem dX6_fits_11 : decode cX6_fits 11 = .ok (.invokestatic 345, 3) := by decide +kernel
theorem dX6_fits_14 : decode cX6_fits 14 = .ok (.isub, 1) := by decide +kernel
theorem dX6_fits_15 : decode cX6_fits 15 = .ok (.istore 4, 2) := by decide +kernel
theorem dX6_fits_17 : decode cX6_fits 17 = .ok (.iload_n 1, 1) := by decide +kernel
theorem dX6_fits_18 : decode cX6_fits 18 = .ok (.getstatic 352, 3) := by decide +kernel
theorem dX6_fits_21 : decode cX6_fits 21 = .ok (.iload_n 0, 1) := by decide +kernel
theorem dX6_fits_22 : decode cX6_fits 22 = .ok (.invokestatic 345, 3) := by decide +kernel
theorem dX6_fits_25 : decode cX6_fits 25 = .ok (.if_icmp .lt 27, 3) := by decide +kernel
theorem dX6_fits_28 : decode cX6_fits 28 = .ok (.iload_n 2, 1) := by decide +kernel
theorem dX6_fits_29 : decode cX6_fits 29 = .ok (.iload 4, 2) := by decide +kernel
theorem dX6_fits_31 : decode cX6_fits 31 = .ok (.iadd, 1) := by decide +kernel
theorem dX6_fits_32 : decode cX6_fits 32 = .ok (.bipush 24, 2) := by decide +kernel
theorem dX6_fits_34 : decode cX6_fits 34 = .ok (.if_icmp .gt 18, 3) := by decide +kernel
theorem dX6_fits_37 : decode cX6_fits 37 = .ok (.iload_n 3, 1) := by decide +kernel
theorem dX6_fits_38 : decode cX6_fits 38 = .ok (.getstatic 355, 3) := by decide +kernel
theorem dX6_fits_41 : decode cX6_fits 41 = .ok (.iload_n 0, 1) := by decide +kernel
theorem dX6_fits_42 : decode cX6_fits 42 = .ok (.invokestatic 345, 3) := by decide +kernel
theorem dX6_fits_45 : decode cX6_fits 45 = .ok (.if_icmp .lt 7, 3) := by decide +kernel
theorem dX6_fits_48 : decode cX6_fits 48 = .ok (.iconst 1, 1) := by decide +kernel
theorem dX6_fits_49 : decode cX6_fits 49 = .ok (.goto 4, 3) := by decide +kernel
theorem dX6_fits_52 : decode cX6_fits 52 = .ok (.iconst 0, 1) := by decide +kernel
theorem dX6_fits_53 : decode cX6_fits 53 = .ok (.ireturn, 1) := by decide +kernel
theorem dX6_doStep_0 : decode cX6_doStep 0 = .ok (.iload_n 1, 1) := by decide +kernel
theorem dX6_doStep_1 : decode cX6_doStep 1 = .ok (.tableswitch 145 1 9 #[51, 60, 69, 77, 87, 97, 105, 115, 125], 51) := by decide +kernel
theorem dX6_doStep_52 : decode cX6_doStep 52 = .ok (.aload_n 0, 1) := by decide +kernel
theorem dX6_doStep_53 : decode cX6_doStep 53 = .ok (.iconst 1, 1) := by decide +kernel
theorem dX6_doStep_54 : decode cX6_doStep 54 = .ok (.invokevirtual 108, 3) := by decide +kernel
theorem dX6_doStep_57 : decode cX6_doStep 57 = .ok (.pop, 1) := by decide +kernel
theorem dX6_doStep_58 : decode cX6_doStep 58 = .ok (.goto 88, 3) := by decide +kernel
theorem dX6_doStep_61 : decode cX6_doStep 61 = .ok (.aload_n 0, 1) := by decide +kernel
theorem dX6_doStep_62 : decode cX6_doStep 62 = .ok (.iconst 2, 1) := by decide +kernel
theorem dX6_doStep_63 : decode cX6_doStep 63 = .ok (.invokevirtual 108, 3) := by decide +kernel
theorem dX6_doStep_66 : decode cX6_doStep 66 = .ok (.pop, 1) := by decide +kernel
theorem dX6_doStep_67 : decode cX6_doStep 67 = .ok (.goto 79, 3) := by decide +kernel
theorem dX6_doStep_70 : decode cX6_doStep 70 = .ok (.aload_n 0, 1) := by decide +kernel
theorem dX6_doStep_71 : decode cX6_doStep 71 = .ok (.invokevirtual 113, 3) := by decide +kernel
theorem dX6_doStep_74 : decode cX6_doStep 74 = .ok (.pop, 1) := by decide +kernel
theorem dX6_doStep_75 : decode cX6_doStep 75 = .ok (.goto 71, 3) := by decide +kernel
theorem dX6_doStep_78 : decode cX6_doStep 78 = .ok (.aload_n 0, 1) := by decide +kernel
theorem dX6_doStep_79 : decode cX6_doStep 79 = .ok (.iconst 2, 1) := by decide +kernel
theorem dX6_doStep_80 : decode cX6_doStep 80 = .ok (.iconst 4, 1) := by decide +kernel
theorem dX6_doStep_81 : decode cX6_doStep 81 = .ok (.invokevirtual 120, 3) := by decide +kernel
theorem dX6_doStep_84 : decode cX6_doStep 84 = .ok (.pop, 1) := by decide +kernel
theorem dX6_doStep_85 : decode cX6_doStep 85 = .ok (.goto 61, 3) := by decide +kernel
theorem dX6_doStep_88 : decode cX6_doStep 88 = .ok (.aload_n 0, 1) := by decide +kernel
theorem dX6_doStep_89 : decode cX6_doStep 89 = .ok (.iconst 2, 1) := by decide +kernel
theorem dX6_doStep_90 : decode cX6_doStep 90 = .ok (.iconst 5, 1) := by decide +kernel
theorem dX6_doStep_91 : decode cX6_doStep 91 = .ok (.invokevirtual 120, 3) := by decide +kernel
theorem dX6_doStep_94 : decode cX6_doStep 94 = .ok (.pop, 1) := by decide +kernel
theorem dX6_doStep_95 : decode cX6_doStep 95 = .ok (.goto 51, 3) := by decide +kernel
theorem dX6_doStep_98 : decode cX6_doStep 98 = .ok (.aload_n 0, 1) := by decide +kernel
theorem dX6_doStep_99 : decode cX6_doStep 99 = .ok (.invokevirtual 126, 3) := by decide +kernel
theorem dX6_doStep_102 : decode cX6_doStep 102 = .ok (.pop, 1) := by decide +kernel
theorem dX6_doStep_103 : decode cX6_doStep 103 = .ok (.goto 43, 3) := by decide +kernel
theorem dX6_doStep_106 : decode cX6_doStep 106 = .ok (.aload_n 0, 1) := by decide +kernel
theorem dX6_doStep_107 : decode cX6_doStep 107 = .ok (.iconst 1, 1) := by decide +kernel
theorem dX6_doStep_108 : decode cX6_doStep 108 = .ok (.iconst 1, 1) := by decide +kernel
theorem dX6_doStep_109 : decode cX6_doStep 109 = .ok (.invokevirtual 140, 3) := by decide +kernel
theorem dX6_doStep_112 : decode cX6_doStep 112 = .ok (.pop, 1) := by decide +kernel
theorem dX6_doStep_113 : decode cX6_doStep 113 = .ok (.goto 33, 3) := by decide +kernel
theorem dX6_doStep_116 : decode cX6_doStep 116 = .ok (.aload_n 0, 1) := by decide +kernel
theorem dX6_doStep_117 : decode cX6_doStep 117 = .ok (.iconst 3, 1) := by decide +kernel
theorem dX6_doStep_118 : decode cX6_doStep 118 = .ok (.iconst 4, 1) := by decide +kernel
theorem dX6_doStep_119 : decode cX6_doStep 119 = .ok (.invokevirtual 120, 3) := by decide +kernel
theorem dX6_doStep_122 : decode cX6_doStep 122 = .ok (.pop, 1) := by decide +kernel
theorem dX6_doStep_123 : decode cX6_doStep 123 = .ok (.goto 23, 3) := by decide +kernel
theorem dX6_doStep_126 : decode cX6_doStep 126 = .ok (.aload_n 0, 1) := by decide +kernel
theorem dX6_doStep_127 : decode cX6_doStep 127 = .ok (.iconst 1, 1) := by decide +kernel
theorem dX6_doStep_128 : decode cX6_doStep 128 = .ok (.invokevirtual 108, 3) := by decide +kernel
theorem dX6_doStep_131 : decode cX6_doStep 131 = .ok (.pop, 1) := by decide +kernel
theorem dX6_doStep_132 : decode cX6_doStep 132 = .ok (.aload_n 0, 1) := by decide +kernel
theorem dX6_doStep_133 : decode cX6_doStep 133 = .ok (.invokevirtual 113, 3) := by decide +kernel
theorem dX6_doStep_136 : decode cX6_doStep 136 = .ok (.pop, 1) := by decide +kernel
theorem dX6_doStep_137 : decode cX6_doStep 137 = .ok (.aload_n 0, 1) := by decide +kernel
theorem dX6_doStep_138 : decode cX6_doStep 138 = .ok (.iconst 1, 1) := by decide +kernel
theorem dX6_doStep_139 : decode cX6_doStep 139 = .ok (.invokevirtual 108, 3) := by decide +kernel
theorem dX6_doStep_142 : decode cX6_doStep 142 = .ok (.pop, 1) := by decide +kernel
theorem dX6_doStep_143 : decode cX6_doStep 143 = .ok (.goto 3, 3) := by decide +kernel
theorem dX6_doStep_146 : decode cX6_doStep 146 = .ok (.return_, 1) := by decide +kernel
theorem dX6_hasPattern_0 : decode cX6_hasPattern 0 = .ok (.iload_n 1, 1) := by decide +kernel
theorem dX6_hasPattern_1 : decode cX6_hasPattern 1 = .ok (.ifCond .lt 15, 3) := by decide +kernel
theorem dX6_hasPattern_4 : decode cX6_hasPattern 4 = .ok (.iload_n 1, 1) := by decide +kernel
theorem dX6_hasPattern_5 : decode cX6_hasPattern 5 = .ok (.aload_n 0, 1) := by decide +kernel
theorem dX6_hasPattern_6 : decode cX6_hasPattern 6 = .ok (.getfield 204, 3) := by decide +kernel
theorem dX6_hasPattern_9 : decode cX6_hasPattern 9 = .ok (.if_icmp .ge 7, 3) := by decide +kernel
theorem dX6_hasPattern_12 : decode cX6_hasPattern 12 = .ok (.iconst 1, 1) := by decide +kernel
theorem dX6_hasPattern_13 : decode cX6_hasPattern 13 = .ok (.goto 4, 3) := by decide +kernel
theorem dX6_hasPattern_16 : decode cX6_hasPattern 16 = .ok (.iconst 0, 1) := by decide +kernel
theorem dX6_hasPattern_17 : decode cX6_hasPattern 17 = .ok (.ireturn, 1) := by decide +kernel
theorem dX6_hasZero_0 : decode cX6_hasZero 0 = .ok (.iload_n 0, 1) := by decide +kernel
theorem dX6_hasZero_1 : decode cX6_hasZero 1 = .ok (.istore_n 1, 1) := by decide +kernel
theorem dX6_hasZero_2 : decode cX6_hasZero 2 = .ok (.iconst 0, 1) := by decide +kernel
theorem dX6_hasZero_3 : decode cX6_hasZero 3 = .ok (.istore_n 2, 1) := by decide +kernel
theorem dX6_hasZero_4 : decode cX6_hasZero 4 = .ok (.iload_n 2, 1) := by decide +kernel
theorem dX6_hasZero_5 : decode cX6_hasZero 5 = .ok (.bipush 9, 2) := by decide +kernel
theorem dX6_hasZero_7 : decode cX6_hasZero 7 = .ok (.if_icmp .ge 27, 3) := by decide +kernel
theorem dX6_hasZero_10 : decode cX6_hasZero 10 = .ok (.iload_n 1, 1) := by decide +kernel
theorem dX6_hasZero_11 : decode cX6_hasZero 11 = .ok (.ifCond .le 23, 3) := by decide +kernel
theorem dX6_hasZero_14 : decode cX6_hasZero 14 = .ok (.iload_n 1, 1) := by decide +kernel
theorem dX6_hasZero_15 : decode cX6_hasZero 15 = .ok (.bipush 10, 2) := by decide +kernel
theorem dX6_hasZero_17 : decode cX6_hasZero 17 = .ok (.irem, 1) := by decide +kernel
theorem dX6_hasZero_18 : decode cX6_hasZero 18 = .ok (.ifCond .ne 5, 3) := by decide +kernel
theorem dX6_hasZero_21 : decode cX6_hasZero 21 = .ok (.iconst 1, 1) := by decide +kernel
theorem dX6_hasZero_22 : decode cX6_hasZero 22 = .ok (.ireturn, 1) := by decide +kernel
theorem dX6_hasZero_23 : decode cX6_hasZero 23 = .ok (.iload_n 1, 1) := by decide +kernel
theorem dX6_hasZero_24 : decode cX6_hasZero 24 = .ok (.bipush 10, 2) := by decide +kernel
theorem dX6_hasZero_26 : decode cX6_hasZero 26 = .ok (.idiv, 1) := by decide +kernel
theorem dX6_hasZero_27 : decode cX6_hasZero 27 = .ok (.istore_n 1, 1) := by decide +kernel
theorem dX6_hasZero_28 : decode cX6_hasZero 28 = .ok (.iinc 2 1, 3) := by decide +kernel
theorem dX6_hasZero_31 : decode cX6_hasZero 31 = .ok (.goto (-27), 3) := by decide +kernel
theorem dX6_hasZero_34 : decode cX6_hasZero 34 = .ok (.iconst 0, 1) := by decide +kernel
theorem dX6_hasZero_35 : decode cX6_hasZero 35 = .ok (.ireturn, 1) := by decide +kernel
theorem dX6_digitsIn_0 : decode cX6_digitsIn 0 = .ok (.iconst 0, 1) := by decide +kernel
theorem dX6_digitsIn_1 : decode cX6_digitsIn 1 = .ok (.istore_n 1, 1) := by decide +kernel
theorem dX6_digitsIn_2 : decode cX6_digitsIn 2 = .ok (.iload_n 0, 1) := by decide +kernel
theorem dX6_digitsIn_3 : decode cX6_digitsIn 3 = .ok (.istore_n 2, 1) := by decide +kernel
theorem dX6_digitsIn_4 : decode cX6_digitsIn 4 = .ok (.iconst 0, 1) := by decide +kernel
theorem dX6_digitsIn_5 : decode cX6_digitsIn 5 = .ok (.istore_n 3, 1) := by decide +kernel
theorem dX6_digitsIn_6 : decode cX6_digitsIn 6 = .ok (.iload_n 3, 1) := by decide +kernel
theorem dX6_digitsIn_7 : decode cX6_digitsIn 7 = .ok (.bipush 9, 2) := by decide +kernel
theorem dX6_digitsIn_9 : decode cX6_digitsIn 9 = .ok (.if_icmp .ge 21, 3) := by decide +kernel
theorem dX6_digitsIn_12 : decode cX6_digitsIn 12 = .ok (.iload_n 2, 1) := by decide +kernel
theorem dX6_digitsIn_13 : decode cX6_digitsIn 13 = .ok (.ifCond .le 17, 3) := by decide +kernel
theorem dX6_digitsIn_16 : decode cX6_digitsIn 16 = .ok (.iinc 1 1, 3) := by decide +kernel
theorem dX6_digitsIn_19 : decode cX6_digitsIn 19 = .ok (.iload_n 2, 1) := by decide +kernel
theorem dX6_digitsIn_20 : decode cX6_digitsIn 20 = .ok (.bipush 10, 2) := by decide +kernel
theorem dX6_digitsIn_22 : decode cX6_digitsIn 22 = .ok (.idiv, 1) := by decide +kernel
theorem dX6_digitsIn_23 : decode cX6_digitsIn 23 = .ok (.istore_n 2, 1) := by decide +kernel
theorem dX6_digitsIn_24 : decode cX6_digitsIn 24 = .ok (.iinc 3 1, 3) := by decide +kernel
theorem dX6_digitsIn_27 : decode cX6_digitsIn 27 = .ok (.goto (-21), 3) := by decide +kernel
theorem dX6_digitsIn_30 : decode cX6_digitsIn 30 = .ok (.iload_n 1, 1) := by decide +kernel
theorem dX6_digitsIn_31 : decode cX6_digitsIn 31 = .ok (.ireturn, 1) := by decide +kernel
theorem dX6_tellPattern_0 : decode cX6_tellPattern 0 = .ok (.iload_n 2, 1) := by decide +kernel
theorem dX6_tellPattern_1 : decode cX6_tellPattern 1 = .ok (.invokestatic 358, 3) := by decide +kernel
theorem dX6_tellPattern_4 : decode cX6_tellPattern 4 = .ok (.istore_n 3, 1) := by decide +kernel
theorem dX6_tellPattern_5 : decode cX6_tellPattern 5 = .ok (.iconst 0, 1) := by decide +kernel
theorem dX6_tellPattern_6 : decode cX6_tellPattern 6 = .ok (.istore 4, 2) := by decide +kernel
theorem dX6_tellPattern_8 : decode cX6_tellPattern 8 = .ok (.iconst 0, 1) := by decide +kernel
theorem dX6_tellPattern_9 : decode cX6_tellPattern 9 = .ok (.istore 5, 2) := by decide +kernel
theorem dX6_tellPattern_11 : decode cX6_tellPattern 11 = .ok (.iconst 0, 1) := by decide +kernel
theorem dX6_tellPattern_12 : decode cX6_tellPattern 12 = .ok (.istore 6, 2) := by decide +kernel
theorem dX6_tellPattern_14 : decode cX6_tellPattern 14 = .ok (.iload_n 2, 1) := by decide +kernel
theorem dX6_tellPattern_15 : decode cX6_tellPattern 15 = .ok (.istore 7, 2) := by decide +kernel
theorem dX6_tellPattern_17 : decode cX6_tellPattern 17 = .ok (.iload_n 3, 1) := by decide +kernel
theorem dX6_tellPattern_18 : decode cX6_tellPattern 18 = .ok (.iconst 1, 1) := by decide +kernel
theorem dX6_tellPattern_19 : decode cX6_tellPattern 19 = .ok (.isub, 1) := by decide +kernel
theorem dX6_tellPattern_20 : decode cX6_tellPattern 20 = .ok (.istore 8, 2) := by decide +kernel
theorem dX6_tellPattern_22 : decode cX6_tellPattern 22 = .ok (.iload 8, 2) := by decide +kernel
theorem dX6_tellPattern_24 : decode cX6_tellPattern 24 = .ok (.ifCond .lt 74, 3) := by decide +kernel
theorem dX6_tellPattern_27 : decode cX6_tellPattern 27 = .ok (.iload 7, 2) := by decide +kernel
theorem dX6_tellPattern_29 : decode cX6_tellPattern 29 = .ok (.bipush 10, 2) := by decide +kernel
theorem dX6_tellPattern_31 : decode cX6_tellPattern 31 = .ok (.irem, 1) := by decide +kernel
theorem dX6_tellPattern_32 : decode cX6_tellPattern 32 = .ok (.istore 9, 2) := by decide +kernel
theorem dX6_tellPattern_34 : decode cX6_tellPattern 34 = .ok (.iload 7, 2) := by decide +kernel
theorem dX6_tellPattern_36 : decode cX6_tellPattern 36 = .ok (.bipush 10, 2) := by decide +kernel
theorem dX6_tellPattern_38 : decode cX6_tellPattern 38 = .ok (.idiv, 1) := by decide +kernel
theorem dX6_tellPattern_39 : decode cX6_tellPattern 39 = .ok (.istore 7, 2) := by decide +kernel
theorem dX6_tellPattern_41 : decode cX6_tellPattern 41 = .ok (.aload_n 0, 1) := by decide +kernel
theorem dX6_tellPattern_42 : decode cX6_tellPattern 42 = .ok (.getfield 35, 3) := by decide +kernel
theorem dX6_tellPattern_45 : decode cX6_tellPattern 45 = .ok (.iload_n 1, 1) := by decide +kernel
theorem dX6_tellPattern_46 : decode cX6_tellPattern 46 = .ok (.iload 8, 2) := by decide +kernel
theorem dX6_tellPattern_48 : decode cX6_tellPattern 48 = .ok (.iload 9, 2) := by decide +kernel
theorem dX6_tellPattern_50 : decode cX6_tellPattern 50 = .ok (.invokevirtual 192, 3) := by decide +kernel
theorem dX6_tellPattern_53 : decode cX6_tellPattern 53 = .ok (.iload 4, 2) := by decide +kernel
theorem dX6_tellPattern_55 : decode cX6_tellPattern 55 = .ok (.getstatic 349, 3) := by decide +kernel
theorem dX6_tellPattern_58 : decode cX6_tellPattern 58 = .ok (.iload 9, 2) := by decide +kernel
theorem dX6_tellPattern_60 : decode cX6_tellPattern 60 = .ok (.invokestatic 345, 3) := by decide +kernel
theorem dX6_tellPattern_63 : decode cX6_tellPattern 63 = .ok (.iadd, 1) := by decide +kernel
theorem dX6_tellPattern_64 : decode cX6_tellPattern 64 = .ok (.istore 4, 2) := by decide +kernel
theorem dX6_tellPattern_66 : decode cX6_tellPattern 66 = .ok (.iload 5, 2) := by decide +kernel
theorem dX6_tellPattern_68 : decode cX6_tellPattern 68 = .ok (.getstatic 341, 3) := by decide +kernel
theorem dX6_tellPattern_71 : decode cX6_tellPattern 71 = .ok (.iload 9, 2) := by decide +kernel
theorem dX6_tellPattern_73 : decode cX6_tellPattern 73 = .ok (.invokestatic 345, 3) := by decide +kernel
theorem dX6_tellPattern_76 : decode cX6_tellPattern 76 = .ok (.iadd, 1) := by decide +kernel
theorem dX6_tellPattern_77 : decode cX6_tellPattern 77 = .ok (.istore 5, 2) := by decide +kernel
theorem dX6_tellPattern_79 : decode cX6_tellPattern 79 = .ok (.iload 6, 2) := by decide +kernel
theorem dX6_tellPattern_81 : decode cX6_tellPattern 81 = .ok (.getstatic 355, 3) := by decide +kernel
theorem dX6_tellPattern_84 : decode cX6_tellPattern 84 = .ok (.iload 9, 2) := by decide +kernel
theorem dX6_tellPattern_86 : decode cX6_tellPattern 86 = .ok (.invokestatic 345, 3) := by decide +kernel
theorem dX6_tellPattern_89 : decode cX6_tellPattern 89 = .ok (.iadd, 1) := by decide +kernel
theorem dX6_tellPattern_90 : decode cX6_tellPattern 90 = .ok (.istore 6, 2) := by decide +kernel
theorem dX6_tellPattern_92 : decode cX6_tellPattern 92 = .ok (.iinc 8 (-1), 3) := by decide +kernel
theorem dX6_tellPattern_95 : decode cX6_tellPattern 95 = .ok (.goto (-73), 3) := by decide +kernel
theorem dX6_tellPattern_98 : decode cX6_tellPattern 98 = .ok (.aload_n 0, 1) := by decide +kernel
theorem dX6_tellPattern_99 : decode cX6_tellPattern 99 = .ok (.getfield 32, 3) := by decide +kernel
theorem dX6_tellPattern_102 : decode cX6_tellPattern 102 = .ok (.iload_n 1, 1) := by decide +kernel
theorem dX6_tellPattern_103 : decode cX6_tellPattern 103 = .ok (.iconst 0, 1) := by decide +kernel
theorem dX6_tellPattern_104 : decode cX6_tellPattern 104 = .ok (.iload_n 2, 1) := by decide +kernel
theorem dX6_tellPattern_105 : decode cX6_tellPattern 105 = .ok (.invokevirtual 192, 3) := by decide +kernel
theorem dX6_tellPattern_108 : decode cX6_tellPattern 108 = .ok (.aload_n 0, 1) := by decide +kernel
theorem dX6_tellPattern_109 : decode cX6_tellPattern 109 = .ok (.getfield 32, 3) := by decide +kernel
theorem dX6_tellPattern_112 : decode cX6_tellPattern 112 = .ok (.iload_n 1, 1) := by decide +kernel
theorem dX6_tellPattern_113 : decode cX6_tellPattern 113 = .ok (.iconst 1, 1) := by decide +kernel
theorem dX6_tellPattern_114 : decode cX6_tellPattern 114 = .ok (.iload_n 3, 1) := by decide +kernel
theorem dX6_tellPattern_115 : decode cX6_tellPattern 115 = .ok (.invokevirtual 192, 3) := by decide +kernel
theorem dX6_tellPattern_118 : decode cX6_tellPattern 118 = .ok (.aload_n 0, 1) := by decide +kernel
theorem dX6_tellPattern_119 : decode cX6_tellPattern 119 = .ok (.getfield 32, 3) := by decide +kernel
theorem dX6_tellPattern_122 : decode cX6_tellPattern 122 = .ok (.iload_n 1, 1) := by decide +kernel
theorem dX6_tellPattern_123 : decode cX6_tellPattern 123 = .ok (.iconst 2, 1) := by decide +kernel
theorem dX6_tellPattern_124 : decode cX6_tellPattern 124 = .ok (.iload 4, 2) := by decide +kernel
theorem dX6_tellPattern_126 : decode cX6_tellPattern 126 = .ok (.invokevirtual 192, 3) := by decide +kernel
theorem dX6_tellPattern_129 : decode cX6_tellPattern 129 = .ok (.aload_n 0, 1) := by decide +kernel
theorem dX6_tellPattern_130 : decode cX6_tellPattern 130 = .ok (.getfield 32, 3) := by decide +kernel
theorem dX6_tellPattern_133 : decode cX6_tellPattern 133 = .ok (.iload_n 1, 1) := by decide +kernel
theorem dX6_tellPattern_134 : decode cX6_tellPattern 134 = .ok (.iconst 3, 1) := by decide +kernel
theorem dX6_tellPattern_135 : decode cX6_tellPattern 135 = .ok (.iload 5, 2) := by decide +kernel
theorem dX6_tellPattern_137 : decode cX6_tellPattern 137 = .ok (.invokevirtual 192, 3) := by decide +kernel
theorem dX6_tellPattern_140 : decode cX6_tellPattern 140 = .ok (.aload_n 0, 1) := by decide +kernel
theorem dX6_tellPattern_141 : decode cX6_tellPattern 141 = .ok (.getfield 32, 3) := by decide +kernel
theorem dX6_tellPattern_144 : decode cX6_tellPattern 144 = .ok (.iload_n 1, 1) := by decide +kernel
theorem dX6_tellPattern_145 : decode cX6_tellPattern 145 = .ok (.iconst 4, 1) := by decide +kernel
theorem dX6_tellPattern_146 : decode cX6_tellPattern 146 = .ok (.iload 6, 2) := by decide +kernel
theorem dX6_tellPattern_148 : decode cX6_tellPattern 148 = .ok (.invokevirtual 192, 3) := by decide +kernel
theorem dX6_tellPattern_151 : decode cX6_tellPattern 151 = .ok (.return_, 1) := by decide +kernel
theorem dX6_stepAt_0 : decode cX6_stepAt 0 = .ok (.aload_n 0, 1) := by decide +kernel
theorem dX6_stepAt_1 : decode cX6_stepAt 1 = .ok (.getfield 32, 3) := by decide +kernel
theorem dX6_stepAt_4 : decode cX6_stepAt 4 = .ok (.iload_n 1, 1) := by decide +kernel
theorem dX6_stepAt_5 : decode cX6_stepAt 5 = .ok (.iconst 1, 1) := by decide +kernel
theorem dX6_stepAt_6 : decode cX6_stepAt 6 = .ok (.invokevirtual 179, 3) := by decide +kernel
theorem dX6_stepAt_9 : decode cX6_stepAt 9 = .ok (.istore_n 3, 1) := by decide +kernel
theorem dX6_stepAt_10 : decode cX6_stepAt 10 = .ok (.iload_n 3, 1) := by decide +kernel
theorem dX6_stepAt_11 : decode cX6_stepAt 11 = .ok (.iconst 1, 1) := by decide +kernel
theorem dX6_stepAt_12 : decode cX6_stepAt 12 = .ok (.if_icmp .ge 7, 3) := by decide +kernel
theorem dX6_stepAt_15 : decode cX6_stepAt 15 = .ok (.iconst 0, 1) := by decide +kernel
theorem dX6_stepAt_16 : decode cX6_stepAt 16 = .ok (.goto 14, 3) := by decide +kernel
theorem dX6_stepAt_19 : decode cX6_stepAt 19 = .ok (.aload_n 0, 1) := by decide +kernel
theorem dX6_stepAt_20 : decode cX6_stepAt 20 = .ok (.getfield 35, 3) := by decide +kernel
theorem dX6_stepAt_23 : decode cX6_stepAt 23 = .ok (.iload_n 1, 1) := by decide +kernel
theorem dX6_stepAt_24 : decode cX6_stepAt 24 = .ok (.iload_n 2, 1) := by decide +kernel
theorem dX6_stepAt_25 : decode cX6_stepAt 25 = .ok (.iload_n 3, 1) := by decide +kernel
theorem dX6_stepAt_26 : decode cX6_stepAt 26 = .ok (.irem, 1) := by decide +kernel
theorem dX6_stepAt_27 : decode cX6_stepAt 27 = .ok (.invokevirtual 179, 3) := by decide +kernel
theorem dX6_stepAt_30 : decode cX6_stepAt 30 = .ok (.ireturn, 1) := by decide +kernel
theorem dX6_tryOut_0 : decode cX6_tryOut 0 = .ok (.aload_n 0, 1) := by decide +kernel
theorem dX6_tryOut_1 : decode cX6_tryOut 1 = .ok (.getfield 48, 3) := by decide +kernel
theorem dX6_tryOut_4 : decode cX6_tryOut 4 = .ok (.aload_n 0, 1) := by decide +kernel
theorem dX6_tryOut_5 : decode cX6_tryOut 5 = .ok (.getfield 19, 3) := by decide +kernel
theorem dX6_tryOut_8 : decode cX6_tryOut 8 = .ok (.getfield 131, 3) := by decide +kernel
theorem dX6_tryOut_11 : decode cX6_tryOut 11 = .ok (.getfield 135, 3) := by decide +kernel
theorem dX6_tryOut_14 : decode cX6_tryOut 14 = .ok (.aload_n 0, 1) := by decide +kernel
theorem dX6_tryOut_15 : decode cX6_tryOut 15 = .ok (.getfield 19, 3) := by decide +kernel
theorem dX6_tryOut_18 : decode cX6_tryOut 18 = .ok (.invokevirtual 90, 3) := by decide +kernel
theorem dX6_tryOut_21 : decode cX6_tryOut 21 = .ok (.aload_n 0, 1) := by decide +kernel
theorem dX6_tryOut_22 : decode cX6_tryOut 22 = .ok (.getfield 12, 3) := by decide +kernel
theorem dX6_tryOut_25 : decode cX6_tryOut 25 = .ok (.invokevirtual 86, 3) := by decide +kernel
theorem dX6_tryOut_28 : decode cX6_tryOut 28 = .ok (.invokevirtual 361, 3) := by decide +kernel
theorem dX6_tryOut_31 : decode cX6_tryOut 31 = .ok (.iconst 0, 1) := by decide +kernel
theorem dX6_tryOut_32 : decode cX6_tryOut 32 = .ok (.istore_n 2, 1) := by decide +kernel
theorem dX6_tryOut_33 : decode cX6_tryOut 33 = .ok (.iload_n 2, 1) := by decide +kernel
theorem dX6_tryOut_34 : decode cX6_tryOut 34 = .ok (.bipush 99, 2) := by decide +kernel
theorem dX6_tryOut_36 : decode cX6_tryOut 36 = .ok (.if_icmp .ge 28, 3) := by decide +kernel
theorem dX6_tryOut_39 : decode cX6_tryOut 39 = .ok (.aload_n 0, 1) := by decide +kernel
theorem dX6_tryOut_40 : decode cX6_tryOut 40 = .ok (.getfield 48, 3) := by decide +kernel
theorem dX6_tryOut_43 : decode cX6_tryOut 43 = .ok (.aload_n 0, 1) := by decide +kernel
theorem dX6_tryOut_44 : decode cX6_tryOut 44 = .ok (.iload_n 1, 1) := by decide +kernel
theorem dX6_tryOut_45 : decode cX6_tryOut 45 = .ok (.iload_n 2, 1) := by decide +kernel
theorem dX6_tryOut_46 : decode cX6_tryOut 46 = .ok (.invokevirtual 224, 3) := by decide +kernel
theorem dX6_tryOut_49 : decode cX6_tryOut 49 = .ok (.invokevirtual 364, 3) := by decide +kernel
theorem dX6_tryOut_52 : decode cX6_tryOut 52 = .ok (.ifCond .ne 6, 3) := by decide +kernel
theorem dX6_tryOut_55 : decode cX6_tryOut 55 = .ok (.goto 9, 3) := by decide +kernel
theorem dX6_tryOut_58 : decode cX6_tryOut 58 = .ok (.iinc 2 1, 3) := by decide +kernel
theorem dX6_tryOut_61 : decode cX6_tryOut 61 = .ok (.goto (-28), 3) := by decide +kernel
theorem dX6_tryOut_64 : decode cX6_tryOut 64 = .ok (.return_, 1) := by decide +kernel
theorem dX6_endsWhole_0 : decode cX6_endsWhole 0 = .ok (.aload_n 0, 1) := by decide +kernel
theorem dX6_endsWhole_1 : decode cX6_endsWhole 1 = .ok (.getfield 32, 3) := by decide +kernel
theorem dX6_endsWhole_4 : decode cX6_endsWhole 4 = .ok (.iload_n 1, 1) := by decide +kernel
theorem dX6_endsWhole_5 : decode cX6_endsWhole 5 = .ok (.iconst 1, 1) := by decide +kernel
theorem dX6_endsWhole_6 : decode cX6_endsWhole 6 = .ok (.invokevirtual 179, 3) := by decide +kernel
theorem dX6_endsWhole_9 : decode cX6_endsWhole 9 = .ok (.istore_n 2, 1) := by decide +kernel
theorem dX6_endsWhole_10 : decode cX6_endsWhole 10 = .ok (.iload_n 2, 1) := by decide +kernel
theorem dX6_endsWhole_11 : decode cX6_endsWhole 11 = .ok (.ifCond .le 29, 3) := by decide +kernel
theorem dX6_endsWhole_14 : decode cX6_endsWhole 14 = .ok (.aload_n 0, 1) := by decide +kernel
theorem dX6_endsWhole_15 : decode cX6_endsWhole 15 = .ok (.getfield 48, 3) := by decide +kernel
theorem dX6_endsWhole_18 : decode cX6_endsWhole 18 = .ok (.getfield 367, 3) := by decide +kernel
theorem dX6_endsWhole_21 : decode cX6_endsWhole 21 = .ok (.ifCond .ne 19, 3) := by decide +kernel
theorem dX6_endsWhole_24 : decode cX6_endsWhole 24 = .ok (.aload_n 0, 1) := by decide +kernel
theorem dX6_endsWhole_25 : decode cX6_endsWhole 25 = .ok (.getfield 48, 3) := by decide +kernel
theorem dX6_endsWhole_28 : decode cX6_endsWhole 28 = .ok (.getfield 221, 3) := by decide +kernel
theorem dX6_endsWhole_31 : decode cX6_endsWhole 31 = .ok (.iload_n 2, 1) := by decide +kernel
theorem dX6_endsWhole_32 : decode cX6_endsWhole 32 = .ok (.irem, 1) := by decide +kernel
theorem dX6_endsWhole_33 : decode cX6_endsWhole 33 = .ok (.ifCond .ne 7, 3) := by decide +kernel
theorem dX6_endsWhole_36 : decode cX6_endsWhole 36 = .ok (.iconst 1, 1) := by decide +kernel
theorem dX6_endsWhole_37 : decode cX6_endsWhole 37 = .ok (.goto 4, 3) := by decide +kernel
theorem dX6_endsWhole_40 : decode cX6_endsWhole 40 = .ok (.iconst 0, 1) := by decide +kernel
theorem dX6_endsWhole_41 : decode cX6_endsWhole 41 = .ok (.ireturn, 1) := by decide +kernel
theorem dX6_bestPattern_0 : decode cX6_bestPattern 0 = .ok (.aload_n 0, 1) := by decide +kernel
theorem dX6_bestPattern_1 : decode cX6_bestPattern 1 = .ok (.getfield 19, 3) := by decide +kernel
theorem dX6_bestPattern_4 : decode cX6_bestPattern 4 = .ok (.getfield 131, 3) := by decide +kernel
theorem dX6_bestPattern_7 : decode cX6_bestPattern 7 = .ok (.getfield 135, 3) := by decide +kernel
theorem dX6_bestPattern_10 : decode cX6_bestPattern 10 = .ok (.iconst 1, 1) := by decide +kernel
theorem dX6_bestPattern_11 : decode cX6_bestPattern 11 = .ok (.if_icmp .ge 5, 3) := by decide +kernel
theorem dX6_bestPattern_14 : decode cX6_bestPattern 14 = .ok (.iconst (-1), 1) := by decide +kernel
theorem dX6_bestPattern_15 : decode cX6_bestPattern 15 = .ok (.ireturn, 1) := by decide +kernel
theorem dX6_bestPattern_16 : decode cX6_bestPattern 16 = .ok (.iconst (-1), 1) := by decide +kernel
theorem dX6_bestPattern_17 : decode cX6_bestPattern 17 = .ok (.istore_n 1, 1) := by decide +kernel
theorem dX6_bestPattern_18 : decode cX6_bestPattern 18 = .ok (.iconst 0, 1) := by decide +kernel
theorem dX6_bestPattern_19 : decode cX6_bestPattern 19 = .ok (.istore_n 2, 1) := by decide +kernel
theorem dX6_bestPattern_20 : decode cX6_bestPattern 20 = .ok (.iconst 0, 1) := by decide +kernel
theorem dX6_bestPattern_21 : decode cX6_bestPattern 21 = .ok (.istore_n 3, 1) := by decide +kernel
theorem dX6_bestPattern_22 : decode cX6_bestPattern 22 = .ok (.iload_n 3, 1) := by decide +kernel
theorem dX6_bestPattern_23 : decode cX6_bestPattern 23 = .ok (.aload_n 0, 1) := by decide +kernel
theorem dX6_bestPattern_24 : decode cX6_bestPattern 24 = .ok (.getfield 204, 3) := by decide +kernel
theorem dX6_bestPattern_27 : decode cX6_bestPattern 27 = .ok (.if_icmp .ge 48, 3) := by decide +kernel
theorem dX6_bestPattern_30 : decode cX6_bestPattern 30 = .ok (.aload_n 0, 1) := by decide +kernel
theorem dX6_bestPattern_31 : decode cX6_bestPattern 31 = .ok (.iload_n 3, 1) := by decide +kernel
theorem dX6_bestPattern_32 : decode cX6_bestPattern 32 = .ok (.invokevirtual 218, 3) := by decide +kernel
theorem dX6_bestPattern_35 : decode cX6_bestPattern 35 = .ok (.aload_n 0, 1) := by decide +kernel
theorem dX6_bestPattern_36 : decode cX6_bestPattern 36 = .ok (.iload_n 3, 1) := by decide +kernel
theorem dX6_bestPattern_37 : decode cX6_bestPattern 37 = .ok (.invokevirtual 370, 3) := by decide +kernel
theorem dX6_bestPattern_40 : decode cX6_bestPattern 40 = .ok (.ifCond .eq 29, 3) := by decide +kernel
theorem dX6_bestPattern_43 : decode cX6_bestPattern 43 = .ok (.iload_n 1, 1) := by decide +kernel
theorem dX6_bestPattern_44 : decode cX6_bestPattern 44 = .ok (.iconst (-1), 1) := by decide +kernel
theorem dX6_bestPattern_45 : decode cX6_bestPattern 45 = .ok (.if_icmp .eq 14, 3) := by decide +kernel
theorem dX6_bestPattern_48 : decode cX6_bestPattern 48 = .ok (.aload_n 0, 1) := by decide +kernel
theorem dX6_bestPattern_49 : decode cX6_bestPattern 49 = .ok (.getfield 48, 3) := by decide +kernel
theorem dX6_bestPattern_52 : decode cX6_bestPattern 52 = .ok (.getfield 288, 3) := by decide +kernel
theorem dX6_bestPattern_55 : decode cX6_bestPattern 55 = .ok (.iload_n 2, 1) := by decide +kernel
theorem dX6_bestPattern_56 : decode cX6_bestPattern 56 = .ok (.if_icmp .ge 13, 3) := by decide +kernel
theorem dX6_bestPattern_59 : decode cX6_bestPattern 59 = .ok (.iload_n 3, 1) := by decide +kernel
theorem dX6_bestPattern_60 : decode cX6_bestPattern 60 = .ok (.istore_n 1, 1) := by decide +kernel
theorem dX6_bestPattern_61 : decode cX6_bestPattern 61 = .ok (.aload_n 0, 1) := by decide +kernel
theorem dX6_bestPattern_62 : decode cX6_bestPattern 62 = .ok (.getfield 48, 3) := by decide +kernel
theorem dX6_bestPattern_65 : decode cX6_bestPattern 65 = .ok (.getfield 288, 3) := by decide +kernel
theorem dX6_bestPattern_68 : decode cX6_bestPattern 68 = .ok (.istore_n 2, 1) := by decide +kernel
theorem dX6_bestPattern_69 : decode cX6_bestPattern 69 = .ok (.iinc 3 1, 3) := by decide +kernel
theorem dX6_bestPattern_72 : decode cX6_bestPattern 72 = .ok (.goto (-50), 3) := by decide +kernel
theorem dX6_bestPattern_75 : decode cX6_bestPattern 75 = .ok (.iload_n 1, 1) := by decide +kernel
theorem dX6_bestPattern_76 : decode cX6_bestPattern 76 = .ok (.ireturn, 1) := by decide +kernel
theorem dX6_needle_0 : decode cX6_needle 0 = .ok (.iload_n 1, 1) := by decide +kernel
theorem dX6_needle_1 : decode cX6_needle 1 = .ok (.ifCond .eq 13, 3) := by decide +kernel
theorem dX6_needle_4 : decode cX6_needle 4 = .ok (.aload_n 0, 1) := by decide +kernel
theorem dX6_needle_5 : decode cX6_needle 5 = .ok (.getfield 19, 3) := by decide +kernel
theorem dX6_needle_8 : decode cX6_needle 8 = .ok (.getfield 148, 3) := by decide +kernel
theorem dX6_needle_11 : decode cX6_needle 11 = .ok (.goto 10, 3) := by decide +kernel
theorem dX6_needle_14 : decode cX6_needle 14 = .ok (.aload_n 0, 1) := by decide +kernel
theorem dX6_needle_15 : decode cX6_needle 15 = .ok (.getfield 19, 3) := by decide +kernel
theorem dX6_needle_18 : decode cX6_needle 18 = .ok (.getfield 131, 3) := by decide +kernel
theorem dX6_needle_21 : decode cX6_needle 21 = .ok (.areturn, 1) := by decide +kernel
theorem dX6_loopFact_0 : decode cX6_loopFact 0 = .ok (.iload_n 2, 1) := by decide +kernel
theorem dX6_loopFact_1 : decode cX6_loopFact 1 = .ok (.iconst 5, 1) := by decide +kernel
theorem dX6_loopFact_2 : decode cX6_loopFact 2 = .ok (.if_icmp .ne 11, 3) := by decide +kernel
theorem dX6_loopFact_5 : decode cX6_loopFact 5 = .ok (.aload_n 0, 1) := by decide +kernel
theorem dX6_loopFact_6 : decode cX6_loopFact 6 = .ok (.iload_n 1, 1) := by decide +kernel
theorem dX6_loopFact_7 : decode cX6_loopFact 7 = .ok (.invokevirtual 373, 3) := by decide +kernel
theorem dX6_loopFact_10 : decode cX6_loopFact 10 = .ok (.goto 12, 3) := by decide +kernel
theorem dX6_loopFact_13 : decode cX6_loopFact 13 = .ok (.aload_n 0, 1) := by decide +kernel
theorem dX6_loopFact_14 : decode cX6_loopFact 14 = .ok (.getfield 28, 3) := by decide +kernel
theorem dX6_loopFact_17 : decode cX6_loopFact 17 = .ok (.iload_n 1, 1) := by decide +kernel
theorem dX6_loopFact_18 : decode cX6_loopFact 18 = .ok (.iload_n 2, 1) := by decide +kernel
theorem dX6_loopFact_19 : decode cX6_loopFact 19 = .ok (.invokevirtual 179, 3) := by decide +kernel
theorem dX6_loopFact_22 : decode cX6_loopFact 22 = .ok (.ireturn, 1) := by decide +kernel
theorem dX6_whereIs_0 : decode cX6_whereIs 0 = .ok (.aload_n 0, 1) := by decide +kernel
theorem dX6_whereIs_1 : decode cX6_whereIs 1 = .ok (.getfield 19, 3) := by decide +kernel
theorem dX6_whereIs_4 : decode cX6_whereIs 4 = .ok (.getfield 131, 3) := by decide +kernel
theorem dX6_whereIs_7 : decode cX6_whereIs 7 = .ok (.iload_n 1, 1) := by decide +kernel
theorem dX6_whereIs_8 : decode cX6_whereIs 8 = .ok (.invokevirtual 376, 3) := by decide +kernel
theorem dX6_whereIs_11 : decode cX6_whereIs 11 = .ok (.ifCond .eq 5, 3) := by decide +kernel
theorem dX6_whereIs_14 : decode cX6_whereIs 14 = .ok (.iconst 0, 1) := by decide +kernel
theorem dX6_whereIs_15 : decode cX6_whereIs 15 = .ok (.ireturn, 1) := by decide +kernel
theorem dX6_whereIs_16 : decode cX6_whereIs 16 = .ok (.aload_n 0, 1) := by decide +kernel
theorem dX6_whereIs_17 : decode cX6_whereIs 17 = .ok (.getfield 19, 3) := by decide +kernel
theorem dX6_whereIs_20 : decode cX6_whereIs 20 = .ok (.getfield 148, 3) := by decide +kernel
theorem dX6_whereIs_23 : decode cX6_whereIs 23 = .ok (.iload_n 1, 1) := by decide +kernel
theorem dX6_whereIs_24 : decode cX6_whereIs 24 = .ok (.invokevirtual 376, 3) := by decide +kernel
theorem dX6_whereIs_27 : decode cX6_whereIs 27 = .ok (.ifCond .eq 5, 3) := by decide +kernel
theorem dX6_whereIs_30 : decode cX6_whereIs 30 = .ok (.iconst 1, 1) := by decide +kernel
theorem dX6_whereIs_31 : decode cX6_whereIs 31 = .ok (.ireturn, 1) := by decide +kernel
theorem dX6_whereIs_32 : decode cX6_whereIs 32 = .ok (.aload_n 0, 1) := by decide +kernel
theorem dX6_whereIs_33 : decode cX6_whereIs 33 = .ok (.getfield 19, 3) := by decide +kernel
theorem dX6_whereIs_36 : decode cX6_whereIs 36 = .ok (.iload_n 1, 1) := by decide +kernel
theorem dX6_whereIs_37 : decode cX6_whereIs 37 = .ok (.invokevirtual 379, 3) := by decide +kernel
theorem dX6_whereIs_40 : decode cX6_whereIs 40 = .ok (.ifCond .eq 5, 3) := by decide +kernel
theorem dX6_whereIs_43 : decode cX6_whereIs 43 = .ok (.iconst 4, 1) := by decide +kernel
theorem dX6_whereIs_44 : decode cX6_whereIs 44 = .ok (.ireturn, 1) := by decide +kernel
theorem dX6_whereIs_45 : decode cX6_whereIs 45 = .ok (.aload_n 0, 1) := by decide +kernel
theorem dX6_whereIs_46 : decode cX6_whereIs 46 = .ok (.getfield 28, 3) := by decide +kernel
theorem dX6_whereIs_49 : decode cX6_whereIs 49 = .ok (.iload_n 1, 1) := by decide +kernel
theorem dX6_whereIs_50 : decode cX6_whereIs 50 = .ok (.iconst 5, 1) := by decide +kernel
theorem dX6_whereIs_51 : decode cX6_whereIs 51 = .ok (.invokevirtual 179, 3) := by decide +kernel
theorem dX6_whereIs_54 : decode cX6_whereIs 54 = .ok (.ireturn, 1) := by decide +kernel
theorem dX6_isAsMade_0 : decode cX6_isAsMade 0 = .ok (.aload_n 0, 1) := by decide +kernel
theorem dX6_isAsMade_1 : decode cX6_isAsMade 1 = .ok (.getfield 28, 3) := by decide +kernel
theorem dX6_isAsMade_4 : decode cX6_isAsMade 4 = .ok (.iload_n 1, 1) := by decide +kernel
theorem dX6_isAsMade_5 : decode cX6_isAsMade 5 = .ok (.iconst 2, 1) := by decide +kernel
theorem dX6_isAsMade_6 : decode cX6_isAsMade 6 = .ok (.invokevirtual 179, 3) := by decide +kernel
theorem dX6_isAsMade_9 : decode cX6_isAsMade 9 = .ok (.aload_n 0, 1) := by decide +kernel
theorem dX6_isAsMade_10 : decode cX6_isAsMade 10 = .ok (.getfield 19, 3) := by decide +kernel
theorem dX6_isAsMade_13 : decode cX6_isAsMade 13 = .ok (.getfield 155, 3) := by decide +kernel
theorem dX6_isAsMade_16 : decode cX6_isAsMade 16 = .ok (.ixor, 1) := by decide +kernel
theorem dX6_isAsMade_17 : decode cX6_isAsMade 17 = .ok (.iconst 1, 1) := by decide +kernel
theorem dX6_isAsMade_18 : decode cX6_isAsMade 18 = .ok (.iand, 1) := by decide +kernel
theorem dX6_isAsMade_19 : decode cX6_isAsMade 19 = .ok (.ifCond .ne 7, 3) := by decide +kernel
theorem dX6_isAsMade_22 : decode cX6_isAsMade 22 = .ok (.iconst 1, 1) := by decide +kernel
theorem dX6_isAsMade_23 : decode cX6_isAsMade 23 = .ok (.goto 4, 3) := by decide +kernel
theorem dX6_isAsMade_26 : decode cX6_isAsMade 26 = .ok (.iconst 0, 1) := by decide +kernel
theorem dX6_isAsMade_27 : decode cX6_isAsMade 27 = .ok (.ireturn, 1) := by decide +kernel
theorem dX6_isSmooth_0 : decode cX6_isSmooth 0 = .ok (.aload_n 0, 1) := by decide +kernel
theorem dX6_isSmooth_1 : decode cX6_isSmooth 1 = .ok (.getfield 28, 3) := by decide +kernel
theorem dX6_isSmooth_4 : decode cX6_isSmooth 4 = .ok (.iload_n 1, 1) := by decide +kernel
theorem dX6_isSmooth_5 : decode cX6_isSmooth 5 = .ok (.iconst 0, 1) := by decide +kernel
theorem dX6_isSmooth_6 : decode cX6_isSmooth 6 = .ok (.invokevirtual 179, 3) := by decide +kernel
theorem dX6_isSmooth_9 : decode cX6_isSmooth 9 = .ok (.istore_n 2, 1) := by decide +kernel
theorem dX6_isSmooth_10 : decode cX6_isSmooth 10 = .ok (.iload_n 2, 1) := by decide +kernel
theorem dX6_isSmooth_11 : decode cX6_isSmooth 11 = .ok (.ifCond .eq 12, 3) := by decide +kernel
theorem dX6_isSmooth_14 : decode cX6_isSmooth 14 = .ok (.iload_n 2, 1) := by decide +kernel
theorem dX6_isSmooth_15 : decode cX6_isSmooth 15 = .ok (.iconst 2, 1) := by decide +kernel
theorem dX6_isSmooth_16 : decode cX6_isSmooth 16 = .ok (.if_icmp .eq 7, 3) := by decide +kernel
theorem dX6_isSmooth_19 : decode cX6_isSmooth 19 = .ok (.iconst 1, 1) := by decide +kernel
theorem dX6_isSmooth_20 : decode cX6_isSmooth 20 = .ok (.goto 4, 3) := by decide +kernel
theorem dX6_isSmooth_23 : decode cX6_isSmooth 23 = .ok (.iconst 0, 1) := by decide +kernel
theorem dX6_isSmooth_24 : decode cX6_isSmooth 24 = .ok (.istore_n 3, 1) := by decide +kernel
theorem dX6_isSmooth_25 : decode cX6_isSmooth 25 = .ok (.iload_n 3, 1) := by decide +kernel
theorem dX6_isSmooth_26 : decode cX6_isSmooth 26 = .ok (.aload_n 0, 1) := by decide +kernel
theorem dX6_isSmooth_27 : decode cX6_isSmooth 27 = .ok (.iload_n 1, 1) := by decide +kernel
theorem dX6_isSmooth_28 : decode cX6_isSmooth 28 = .ok (.invokevirtual 382, 3) := by decide +kernel
theorem dX6_isSmooth_31 : decode cX6_isSmooth 31 = .ok (.if_icmp .ne 7, 3) := by decide +kernel
theorem dX6_isSmooth_34 : decode cX6_isSmooth 34 = .ok (.iconst 1, 1) := by decide +kernel
theorem dX6_isSmooth_35 : decode cX6_isSmooth 35 = .ok (.goto 4, 3) := by decide +kernel
theorem dX6_isSmooth_38 : decode cX6_isSmooth 38 = .ok (.iconst 0, 1) := by decide +kernel
theorem dX6_isSmooth_39 : decode cX6_isSmooth 39 = .ok (.ireturn, 1) := by decide +kernel
theorem dX6_signOf_0 : decode cX6_signOf 0 = .ok (.aload_n 0, 1) := by decide +kernel
theorem dX6_signOf_1 : decode cX6_signOf 1 = .ok (.getfield 28, 3) := by decide +kernel
theorem dX6_signOf_4 : decode cX6_signOf 4 = .ok (.iload_n 1, 1) := by decide +kernel
theorem dX6_signOf_5 : decode cX6_signOf 5 = .ok (.iconst 0, 1) := by decide +kernel
theorem dX6_signOf_6 : decode cX6_signOf 6 = .ok (.invokevirtual 179, 3) := by decide +kernel
theorem dX6_signOf_9 : decode cX6_signOf 9 = .ok (.istore_n 2, 1) := by decide +kernel
theorem dX6_signOf_10 : decode cX6_signOf 10 = .ok (.iload_n 2, 1) := by decide +kernel
theorem dX6_signOf_11 : decode cX6_signOf 11 = .ok (.iconst 3, 1) := by decide +kernel
theorem dX6_signOf_12 : decode cX6_signOf 12 = .ok (.if_icmp .ne 6, 3) := by decide +kernel
theorem dX6_signOf_15 : decode cX6_signOf 15 = .ok (.bipush 111, 2) := by decide +kernel
theorem dX6_signOf_17 : decode cX6_signOf 17 = .ok (.ireturn, 1) := by decide +kernel
theorem dX6_signOf_18 : decode cX6_signOf 18 = .ok (.iload_n 2, 1) := by decide +kernel
theorem dX6_signOf_19 : decode cX6_signOf 19 = .ok (.iconst 4, 1) := by decide +kernel
theorem dX6_signOf_20 : decode cX6_signOf 20 = .ok (.if_icmp .eq 8, 3) := by decide +kernel
theorem dX6_signOf_23 : decode cX6_signOf 23 = .ok (.iload_n 2, 1) := by decide +kernel
theorem dX6_signOf_24 : decode cX6_signOf 24 = .ok (.iconst 5, 1) := by decide +kernel
theorem dX6_signOf_25 : decode cX6_signOf 25 = .ok (.if_icmp .ne 29, 3) := by decide +kernel
theorem dX6_signOf_28 : decode cX6_signOf 28 = .ok (.iload_n 2, 1) := by decide +kernel
theorem dX6_signOf_29 : decode cX6_signOf 29 = .ok (.iconst 4, 1) := by decide +kernel
theorem dX6_signOf_30 : decode cX6_signOf 30 = .ok (.if_icmp .ne 7, 3) := by decide +kernel
theorem dX6_signOf_33 : decode cX6_signOf 33 = .ok (.iconst 1, 1) := by decide +kernel
theorem dX6_signOf_34 : decode cX6_signOf 34 = .ok (.goto 4, 3) := by decide +kernel
theorem dX6_signOf_37 : decode cX6_signOf 37 = .ok (.iconst 0, 1) := by decide +kernel
theorem dX6_signOf_38 : decode cX6_signOf 38 = .ok (.aload_n 0, 1) := by decide +kernel
theorem dX6_signOf_39 : decode cX6_signOf 39 = .ok (.iload_n 1, 1) := by decide +kernel
theorem dX6_signOf_40 : decode cX6_signOf 40 = .ok (.invokevirtual 382, 3) := by decide +kernel
theorem dX6_signOf_43 : decode cX6_signOf 43 = .ok (.if_icmp .ne 8, 3) := by decide +kernel
theorem dX6_signOf_46 : decode cX6_signOf 46 = .ok (.bipush 60, 2) := by decide +kernel
theorem dX6_signOf_48 : decode cX6_signOf 48 = .ok (.goto 5, 3) := by decide +kernel
theorem dX6_signOf_51 : decode cX6_signOf 51 = .ok (.bipush 62, 2) := by decide +kernel
theorem dX6_signOf_53 : decode cX6_signOf 53 = .ok (.ireturn, 1) := by decide +kernel
theorem dX6_signOf_54 : decode cX6_signOf 54 = .ok (.aload_n 0, 1) := by decide +kernel
theorem dX6_signOf_55 : decode cX6_signOf 55 = .ok (.iload_n 1, 1) := by decide +kernel
theorem dX6_signOf_56 : decode cX6_signOf 56 = .ok (.invokevirtual 385, 3) := by decide +kernel
theorem dX6_signOf_59 : decode cX6_signOf 59 = .ok (.ifCond .eq 8, 3) := by decide +kernel
theorem dX6_signOf_62 : decode cX6_signOf 62 = .ok (.bipush 118, 2) := by decide +kernel
theorem dX6_signOf_64 : decode cX6_signOf 64 = .ok (.goto 5, 3) := by decide +kernel
theorem dX6_signOf_67 : decode cX6_signOf 67 = .ok (.bipush 45, 2) := by decide +kernel
theorem dX6_signOf_69 : decode cX6_signOf 69 = .ok (.ireturn, 1) := by decide +kernel
theorem dX6_widthOf_0 : decode cX6_widthOf 0 = .ok (.ldc_w 388, 3) := by decide +kernel
theorem dX6_widthOf_3 : decode cX6_widthOf 3 = .ok (.aload_n 1, 1) := by decide +kernel
theorem dX6_widthOf_4 : decode cX6_widthOf 4 = .ok (.getfield 135, 3) := by decide +kernel
theorem dX6_widthOf_7 : decode cX6_widthOf 7 = .ok (.i2f, 1) := by decide +kernel
theorem dX6_widthOf_8 : decode cX6_widthOf 8 = .ok (.fmul, 1) := by decide +kernel
theorem dX6_widthOf_9 : decode cX6_widthOf 9 = .ok (.fstore_n 2, 1) := by decide +kernel
theorem dX6_widthOf_10 : decode cX6_widthOf 10 = .ok (.iconst 1, 1) := by decide +kernel
theorem dX6_widthOf_11 : decode cX6_widthOf 11 = .ok (.istore_n 3, 1) := by decide +kernel
theorem dX6_widthOf_12 : decode cX6_widthOf 12 = .ok (.iload_n 3, 1) := by decide +kernel
theorem dX6_widthOf_13 : decode cX6_widthOf 13 = .ok (.aload_n 1, 1) := by decide +kernel
theorem dX6_widthOf_14 : decode cX6_widthOf 14 = .ok (.getfield 135, 3) := by decide +kernel
theorem dX6_widthOf_17 : decode cX6_widthOf 17 = .ok (.if_icmp .ge 38, 3) := by decide +kernel
theorem dX6_widthOf_20 : decode cX6_widthOf 20 = .ok (.aload_n 0, 1) := by decide +kernel
theorem dX6_widthOf_21 : decode cX6_widthOf 21 = .ok (.aload_n 1, 1) := by decide +kernel
theorem dX6_widthOf_22 : decode cX6_widthOf 22 = .ok (.iload_n 3, 1) := by decide +kernel
theorem dX6_widthOf_23 : decode cX6_widthOf 23 = .ok (.iconst 1, 1) := by decide +kernel
theorem dX6_widthOf_24 : decode cX6_widthOf 24 = .ok (.isub, 1) := by decide +kernel
theorem dX6_widthOf_25 : decode cX6_widthOf 25 = .ok (.invokevirtual 242, 3) := by decide +kernel
theorem dX6_widthOf_28 : decode cX6_widthOf 28 = .ok (.invokevirtual 385, 3) := by decide +kernel
theorem dX6_widthOf_31 : decode cX6_widthOf 31 = .ok (.aload_n 0, 1) := by decide +kernel
theorem dX6_widthOf_32 : decode cX6_widthOf 32 = .ok (.aload_n 1, 1) := by decide +kernel
theorem dX6_widthOf_33 : decode cX6_widthOf 33 = .ok (.iload_n 3, 1) := by decide +kernel
theorem dX6_widthOf_34 : decode cX6_widthOf 34 = .ok (.invokevirtual 242, 3) := by decide +kernel
theorem dX6_widthOf_37 : decode cX6_widthOf 37 = .ok (.invokevirtual 385, 3) := by decide +kernel
theorem dX6_widthOf_40 : decode cX6_widthOf 40 = .ok (.if_icmp .eq 9, 3) := by decide +kernel
theorem dX6_widthOf_43 : decode cX6_widthOf 43 = .ok (.fload_n 2, 1) := by decide +kernel
theorem dX6_widthOf_44 : decode cX6_widthOf 44 = .ok (.ldc_w 389, 3) := by decide +kernel
theorem dX6_widthOf_47 : decode cX6_widthOf 47 = .ok (.fsub, 1) := by decide +kernel
theorem dX6_widthOf_48 : decode cX6_widthOf 48 = .ok (.fstore_n 2, 1) := by decide +kernel
theorem dX6_widthOf_49 : decode cX6_widthOf 49 = .ok (.iinc 3 1, 3) := by decide +kernel
theorem dX6_widthOf_52 : decode cX6_widthOf 52 = .ok (.goto (-40), 3) := by decide +kernel
theorem dX6_widthOf_55 : decode cX6_widthOf 55 = .ok (.fload_n 2, 1) := by decide +kernel
theorem dX6_widthOf_56 : decode cX6_widthOf 56 = .ok (.freturn, 1) := by decide +kernel
theorem dX6_number_0 : decode cX6_number 0 = .ok (.iload_n 1, 1) := by decide +kernel
theorem dX6_number_1 : decode cX6_number 1 = .ok (.tableswitch 200 0 14 #[75, 83, 91, 99, 110, 121, 131, 139, 147, 155, 163, 171, 179, 187, 195], 75) := by decide +kernel
theorem dX6_number_76 : decode cX6_number 76 = .ok (.aload_n 0, 1) := by decide +kernel
theorem dX6_number_77 : decode cX6_number 77 = .ok (.getfield 12, 3) := by decide +kernel
theorem dX6_number_80 : decode cX6_number 80 = .ok (.getfield 59, 3) := by decide +kernel
theorem dX6_number_83 : decode cX6_number 83 = .ok (.ireturn, 1) := by decide +kernel
theorem dX6_number_84 : decode cX6_number 84 = .ok (.aload_n 0, 1) := by decide +kernel
theorem dX6_number_85 : decode cX6_number 85 = .ok (.getfield 12, 3) := by decide +kernel
theorem dX6_number_88 : decode cX6_number 88 = .ok (.invokevirtual 390, 3) := by decide +kernel
theorem dX6_number_91 : decode cX6_number 91 = .ok (.ireturn, 1) := by decide +kernel
theorem dX6_number_92 : decode cX6_number 92 = .ok (.aload_n 0, 1) := by decide +kernel
theorem dX6_number_93 : decode cX6_number 93 = .ok (.getfield 12, 3) := by decide +kernel
theorem dX6_number_96 : decode cX6_number 96 = .ok (.getfield 81, 3) := by decide +kernel
theorem dX6_number_99 : decode cX6_number 99 = .ok (.ireturn, 1) := by decide +kernel
theorem dX6_number_100 : decode cX6_number 100 = .ok (.aload_n 0, 1) := by decide +kernel
theorem dX6_number_101 : decode cX6_number 101 = .ok (.getfield 19, 3) := by decide +kernel
theorem dX6_number_104 : decode cX6_number 104 = .ok (.getfield 131, 3) := by decide +kernel
theorem dX6_number_107 : decode cX6_number 107 = .ok (.getfield 135, 3) := by decide +kernel
theorem dX6_number_110 : decode cX6_number 110 = .ok (.ireturn, 1) := by decide +kernel
theorem dX6_number_111 : decode cX6_number 111 = .ok (.aload_n 0, 1) := by decide +kernel
theorem dX6_number_112 : decode cX6_number 112 = .ok (.getfield 19, 3) := by decide +kernel
theorem dX6_number_115 : decode cX6_number 115 = .ok (.getfield 148, 3) := by decide +kernel
theorem dX6_number_118 : decode cX6_number 118 = .ok (.getfield 135, 3) := by decide +kernel
theorem dX6_number_121 : decode cX6_number 121 = .ok (.ireturn, 1) := by decide +kernel
theorem dX6_number_122 : decode cX6_number 122 = .ok (.aload_n 0, 1) := by decide +kernel
theorem dX6_number_123 : decode cX6_number 123 = .ok (.getfield 19, 3) := by decide +kernel
theorem dX6_number_126 : decode cX6_number 126 = .ok (.getfield 155, 3) := by decide +kernel
theorem dX6_number_129 : decode cX6_number 129 = .ok (.iconst 1, 1) := by decide +kernel
theorem dX6_number_130 : decode cX6_number 130 = .ok (.iand, 1) := by decide +kernel
theorem dX6_number_131 : decode cX6_number 131 = .ok (.ireturn, 1) := by decide +kernel
theorem dX6_number_132 : decode cX6_number 132 = .ok (.aload_n 0, 1) := by decide +kernel
theorem dX6_number_133 : decode cX6_number 133 = .ok (.getfield 19, 3) := by decide +kernel
theorem dX6_number_136 : decode cX6_number 136 = .ok (.getfield 155, 3) := by decide +kernel
theorem dX6_number_139 : decode cX6_number 139 = .ok (.ireturn, 1) := by decide +kernel
theorem dX6_number_140 : decode cX6_number 140 = .ok (.aload_n 0, 1) := by decide +kernel
theorem dX6_number_141 : decode cX6_number 141 = .ok (.getfield 19, 3) := by decide +kernel
theorem dX6_number_144 : decode cX6_number 144 = .ok (.getfield 245, 3) := by decide +kernel
theorem dX6_number_147 : decode cX6_number 147 = .ok (.ireturn, 1) := by decide +kernel
theorem dX6_number_148 : decode cX6_number 148 = .ok (.aload_n 0, 1) := by decide +kernel
theorem dX6_number_149 : decode cX6_number 149 = .ok (.getfield 19, 3) := by decide +kernel
theorem dX6_number_152 : decode cX6_number 152 = .ok (.getfield 322, 3) := by decide +kernel
theorem dX6_number_155 : decode cX6_number 155 = .ok (.ireturn, 1) := by decide +kernel
theorem dX6_number_156 : decode cX6_number 156 = .ok (.aload_n 0, 1) := by decide +kernel
theorem dX6_number_157 : decode cX6_number 157 = .ok (.getfield 19, 3) := by decide +kernel
theorem dX6_number_160 : decode cX6_number 160 = .ok (.getfield 328, 3) := by decide +kernel
theorem dX6_number_163 : decode cX6_number 163 = .ok (.ireturn, 1) := by decide +kernel
theorem dX6_number_164 : decode cX6_number 164 = .ok (.aload_n 0, 1) := by decide +kernel
theorem dX6_number_165 : decode cX6_number 165 = .ok (.getfield 19, 3) := by decide +kernel
theorem dX6_number_168 : decode cX6_number 168 = .ok (.getfield 145, 3) := by decide +kernel
theorem dX6_number_171 : decode cX6_number 171 = .ok (.ireturn, 1) := by decide +kernel
theorem dX6_number_172 : decode cX6_number 172 = .ok (.aload_n 0, 1) := by decide +kernel
theorem dX6_number_173 : decode cX6_number 173 = .ok (.getfield 19, 3) := by decide +kernel
theorem dX6_number_176 : decode cX6_number 176 = .ok (.getfield 334, 3) := by decide +kernel
theorem dX6_number_179 : decode cX6_number 179 = .ok (.ireturn, 1) := by decide +kernel
theorem dX6_number_180 : decode cX6_number 180 = .ok (.aload_n 0, 1) := by decide +kernel
theorem dX6_number_181 : decode cX6_number 181 = .ok (.getfield 19, 3) := by decide +kernel
theorem dX6_number_184 : decode cX6_number 184 = .ok (.getfield 171, 3) := by decide +kernel
theorem dX6_number_187 : decode cX6_number 187 = .ok (.ireturn, 1) := by decide +kernel
theorem dX6_number_188 : decode cX6_number 188 = .ok (.aload_n 0, 1) := by decide +kernel
theorem dX6_number_189 : decode cX6_number 189 = .ok (.getfield 19, 3) := by decide +kernel
theorem dX6_number_192 : decode cX6_number 192 = .ok (.invokevirtual 393, 3) := by decide +kernel
theorem dX6_number_195 : decode cX6_number 195 = .ok (.ireturn, 1) := by decide +kernel
theorem dX6_number_196 : decode cX6_number 196 = .ok (.aload_n 0, 1) := by decide +kernel
theorem dX6_number_197 : decode cX6_number 197 = .ok (.getfield 204, 3) := by decide +kernel
theorem dX6_number_200 : decode cX6_number 200 = .ok (.ireturn, 1) := by decide +kernel
theorem dX6_number_201 : decode cX6_number 201 = .ok (.aload_n 0, 1) := by decide +kernel
theorem dX6_number_202 : decode cX6_number 202 = .ok (.getfield 41, 3) := by decide +kernel
theorem dX6_number_205 : decode cX6_number 205 = .ok (.getfield 230, 3) := by decide +kernel
theorem dX6_number_208 : decode cX6_number 208 = .ok (.ireturn, 1) := by decide +kernel
theorem dX6_mixed_0 : decode cX6_mixed 0 = .ok (.lload_n 0, 1) := by decide +kernel
theorem dX6_mixed_1 : decode cX6_mixed 1 = .ok (.ldc2_w 396, 3) := by decide +kernel
theorem dX6_mixed_4 : decode cX6_mixed 4 = .ok (.lmul, 1) := by decide +kernel
theorem dX6_mixed_5 : decode cX6_mixed 5 = .ok (.lload_n 2, 1) := by decide +kernel
theorem dX6_mixed_6 : decode cX6_mixed 6 = .ok (.ladd, 1) := by decide +kernel
theorem dX6_mixed_7 : decode cX6_mixed 7 = .ok (.lreturn, 1) := by decide +kernel
theorem dX6_mixedRow_0 : decode cX6_mixedRow 0 = .ok (.lload_n 0, 1) := by decide +kernel
theorem dX6_mixedRow_1 : decode cX6_mixedRow 1 = .ok (.lstore 5, 2) := by decide +kernel
theorem dX6_mixedRow_3 : decode cX6_mixedRow 3 = .ok (.iconst 0, 1) := by decide +kernel
theorem dX6_mixedRow_4 : decode cX6_mixedRow 4 = .ok (.istore 7, 2) := by decide +kernel
theorem dX6_mixedRow_6 : decode cX6_mixedRow 6 = .ok (.iload 7, 2) := by decide +kernel
theorem dX6_mixedRow_8 : decode cX6_mixedRow 8 = .ok (.iload 4, 2) := by decide +kernel
theorem dX6_mixedRow_10 : decode cX6_mixedRow 10 = .ok (.if_icmp .ge 24, 3) := by decide +kernel
theorem dX6_mixedRow_13 : decode cX6_mixedRow 13 = .ok (.lload 5, 2) := by decide +kernel
theorem dX6_mixedRow_15 : decode cX6_mixedRow 15 = .ok (.aload_n 2, 1) := by decide +kernel
theorem dX6_mixedRow_16 : decode cX6_mixedRow 16 = .ok (.iload_n 3, 1) := by decide +kernel
theorem dX6_mixedRow_17 : decode cX6_mixedRow 17 = .ok (.iload 7, 2) := by decide +kernel
theorem dX6_mixedRow_19 : decode cX6_mixedRow 19 = .ok (.invokevirtual 179, 3) := by decide +kernel
theorem dX6_mixedRow_22 : decode cX6_mixedRow 22 = .ok (.i2l, 1) := by decide +kernel
theorem dX6_mixedRow_23 : decode cX6_mixedRow 23 = .ok (.invokestatic 296, 3) := by decide +kernel
theorem dX6_mixedRow_26 : decode cX6_mixedRow 26 = .ok (.lstore 5, 2) := by decide +kernel
theorem dX6_mixedRow_28 : decode cX6_mixedRow 28 = .ok (.iinc 7 1, 3) := by decide +kernel
theorem dX6_mixedRow_31 : decode cX6_mixedRow 31 = .ok (.goto (-25), 3) := by decide +kernel
theorem dX6_mixedRow_34 : decode cX6_mixedRow 34 = .ok (.lload 5, 2) := by decide +kernel
theorem dX6_mixedRow_36 : decode cX6_mixedRow 36 = .ok (.lreturn, 1) := by decide +kernel
theorem dX6_mixedLoops_0 : decode cX6_mixedLoops 0 = .ok (.lload_n 1, 1) := by decide +kernel
theorem dX6_mixedLoops_1 : decode cX6_mixedLoops 1 = .ok (.lstore 4, 2) := by decide +kernel
theorem dX6_mixedLoops_3 : decode cX6_mixedLoops 3 = .ok (.iconst 0, 1) := by decide +kernel
theorem dX6_mixedLoops_4 : decode cX6_mixedLoops 4 = .ok (.istore 6, 2) := by decide +kernel
theorem dX6_mixedLoops_6 : decode cX6_mixedLoops 6 = .ok (.iload 6, 2) := by decide +kernel
theorem dX6_mixedLoops_8 : decode cX6_mixedLoops 8 = .ok (.aload_n 3, 1) := by decide +kernel
theorem dX6_mixedLoops_9 : decode cX6_mixedLoops 9 = .ok (.getfield 135, 3) := by decide +kernel
theorem dX6_mixedLoops_12 : decode cX6_mixedLoops 12 = .ok (.if_icmp .ge 59, 3) := by decide +kernel
theorem dX6_mixedLoops_15 : decode cX6_mixedLoops 15 = .ok (.aload_n 3, 1) := by decide +kernel
theorem dX6_mixedLoops_16 : decode cX6_mixedLoops 16 = .ok (.iload 6, 2) := by decide +kernel
theorem dX6_mixedLoops_18 : decode cX6_mixedLoops 18 = .ok (.invokevirtual 242, 3) := by decide +kernel
theorem dX6_mixedLoops_21 : decode cX6_mixedLoops 21 = .ok (.istore 7, 2) := by decide +kernel
theorem dX6_mixedLoops_23 : decode cX6_mixedLoops 23 = .ok (.lload 4, 2) := by decide +kernel
theorem dX6_mixedLoops_25 : decode cX6_mixedLoops 25 = .ok (.iload 7, 2) := by decide +kernel
theorem dX6_mixedLoops_27 : decode cX6_mixedLoops 27 = .ok (.i2l, 1) := by decide +kernel
theorem dX6_mixedLoops_28 : decode cX6_mixedLoops 28 = .ok (.invokestatic 296, 3) := by decide +kernel
theorem dX6_mixedLoops_31 : decode cX6_mixedLoops 31 = .ok (.lstore 4, 2) := by decide +kernel
theorem dX6_mixedLoops_33 : decode cX6_mixedLoops 33 = .ok (.iconst 0, 1) := by decide +kernel
theorem dX6_mixedLoops_34 : decode cX6_mixedLoops 34 = .ok (.istore 8, 2) := by decide +kernel
theorem dX6_mixedLoops_36 : decode cX6_mixedLoops 36 = .ok (.iload 8, 2) := by decide +kernel
theorem dX6_mixedLoops_38 : decode cX6_mixedLoops 38 = .ok (.bipush 6, 2) := by decide +kernel
theorem dX6_mixedLoops_40 : decode cX6_mixedLoops 40 = .ok (.if_icmp .ge 25, 3) := by decide +kernel
theorem dX6_mixedLoops_43 : decode cX6_mixedLoops 43 = .ok (.lload 4, 2) := by decide +kernel
theorem dX6_mixedLoops_45 : decode cX6_mixedLoops 45 = .ok (.aload_n 0, 1) := by decide +kernel
theorem dX6_mixedLoops_46 : decode cX6_mixedLoops 46 = .ok (.iload 7, 2) := by decide +kernel
theorem dX6_mixedLoops_48 : decode cX6_mixedLoops 48 = .ok (.iload 8, 2) := by decide +kernel
theorem dX6_mixedLoops_50 : decode cX6_mixedLoops 50 = .ok (.invokevirtual 252, 3) := by decide +kernel
theorem dX6_mixedLoops_53 : decode cX6_mixedLoops 53 = .ok (.i2l, 1) := by decide +kernel
theorem dX6_mixedLoops_54 : decode cX6_mixedLoops 54 = .ok (.invokestatic 296, 3) := by decide +kernel
theorem dX6_mixedLoops_57 : decode cX6_mixedLoops 57 = .ok (.lstore 4, 2) := by decide +kernel
theorem dX6_mixedLoops_59 : decode cX6_mixedLoops 59 = .ok (.iinc 8 1, 3) := by decide +kernel
theorem dX6_mixedLoops_62 : decode cX6_mixedLoops 62 = .ok (.goto (-26), 3) := by decide +kernel
theorem dX6_mixedLoops_65 : decode cX6_mixedLoops 65 = .ok (.iinc 6 1, 3) := by decide +kernel
theorem dX6_mixedLoops_68 : decode cX6_mixedLoops 68 = .ok (.goto (-62), 3) := by decide +kernel
theorem dX6_mixedLoops_71 : decode cX6_mixedLoops 71 = .ok (.lload 4, 2) := by decide +kernel
theorem dX6_mixedLoops_73 : decode cX6_mixedLoops 73 = .ok (.lreturn, 1) := by decide +kernel
theorem dX6_mixedPatterns_0 : decode cX6_mixedPatterns 0 = .ok (.lload_n 1, 1) := by decide +kernel
theorem dX6_mixedPatterns_1 : decode cX6_mixedPatterns 1 = .ok (.lstore_n 3, 1) := by decide +kernel
theorem dX6_mixedPatterns_2 : decode cX6_mixedPatterns 2 = .ok (.iconst 0, 1) := by decide +kernel
theorem dX6_mixedPatterns_3 : decode cX6_mixedPatterns 3 = .ok (.istore 5, 2) := by decide +kernel
theorem dX6_mixedPatterns_5 : decode cX6_mixedPatterns 5 = .ok (.iload 5, 2) := by decide +kernel
theorem dX6_mixedPatterns_7 : decode cX6_mixedPatterns 7 = .ok (.aload_n 0, 1) := by decide +kernel
theorem dX6_mixedPatterns_8 : decode cX6_mixedPatterns 8 = .ok (.getfield 204, 3) := by decide +kernel
theorem dX6_mixedPatterns_11 : decode cX6_mixedPatterns 11 = .ok (.if_icmp .ge 53, 3) := by decide +kernel
theorem dX6_mixedPatterns_14 : decode cX6_mixedPatterns 14 = .ok (.lload_n 3, 1) := by decide +kernel
theorem dX6_mixedPatterns_15 : decode cX6_mixedPatterns 15 = .ok (.aload_n 0, 1) := by decide +kernel
theorem dX6_mixedPatterns_16 : decode cX6_mixedPatterns 16 = .ok (.getfield 32, 3) := by decide +kernel
theorem dX6_mixedPatterns_19 : decode cX6_mixedPatterns 19 = .ok (.iload 5, 2) := by decide +kernel
theorem dX6_mixedPatterns_21 : decode cX6_mixedPatterns 21 = .ok (.iconst 5, 1) := by decide +kernel
theorem dX6_mixedPatterns_22 : decode cX6_mixedPatterns 22 = .ok (.invokestatic 305, 3) := by decide +kernel
theorem dX6_mixedPatterns_25 : decode cX6_mixedPatterns 25 = .ok (.lstore_n 3, 1) := by decide +kernel
theorem dX6_mixedPatterns_26 : decode cX6_mixedPatterns 26 = .ok (.aload_n 0, 1) := by decide +kernel
theorem dX6_mixedPatterns_27 : decode cX6_mixedPatterns 27 = .ok (.iload 5, 2) := by decide +kernel
theorem dX6_mixedPatterns_29 : decode cX6_mixedPatterns 29 = .ok (.invokevirtual 218, 3) := by decide +kernel
theorem dX6_mixedPatterns_32 : decode cX6_mixedPatterns 32 = .ok (.lload_n 3, 1) := by decide +kernel
theorem dX6_mixedPatterns_33 : decode cX6_mixedPatterns 33 = .ok (.aload_n 0, 1) := by decide +kernel
theorem dX6_mixedPatterns_34 : decode cX6_mixedPatterns 34 = .ok (.getfield 48, 3) := by decide +kernel
theorem dX6_mixedPatterns_37 : decode cX6_mixedPatterns 37 = .ok (.getfield 286, 3) := by decide +kernel
theorem dX6_mixedPatterns_40 : decode cX6_mixedPatterns 40 = .ok (.i2l, 1) := by decide +kernel
theorem dX6_mixedPatterns_41 : decode cX6_mixedPatterns 41 = .ok (.invokestatic 296, 3) := by decide +kernel
theorem dX6_mixedPatterns_44 : decode cX6_mixedPatterns 44 = .ok (.lstore_n 3, 1) := by decide +kernel
theorem dX6_mixedPatterns_45 : decode cX6_mixedPatterns 45 = .ok (.lload_n 3, 1) := by decide +kernel
theorem dX6_mixedPatterns_46 : decode cX6_mixedPatterns 46 = .ok (.aload_n 0, 1) := by decide +kernel
theorem dX6_mixedPatterns_47 : decode cX6_mixedPatterns 47 = .ok (.getfield 48, 3) := by decide +kernel
theorem dX6_mixedPatterns_50 : decode cX6_mixedPatterns 50 = .ok (.getfield 288, 3) := by decide +kernel
theorem dX6_mixedPatterns_53 : decode cX6_mixedPatterns 53 = .ok (.i2l, 1) := by decide +kernel
theorem dX6_mixedPatterns_54 : decode cX6_mixedPatterns 54 = .ok (.invokestatic 296, 3) := by decide +kernel
theorem dX6_mixedPatterns_57 : decode cX6_mixedPatterns 57 = .ok (.lstore_n 3, 1) := by decide +kernel
theorem dX6_mixedPatterns_58 : decode cX6_mixedPatterns 58 = .ok (.iinc 5 1, 3) := by decide +kernel
theorem dX6_mixedPatterns_61 : decode cX6_mixedPatterns 61 = .ok (.goto (-56), 3) := by decide +kernel
theorem dX6_mixedPatterns_64 : decode cX6_mixedPatterns 64 = .ok (.lload_n 3, 1) := by decide +kernel
theorem dX6_mixedPatterns_65 : decode cX6_mixedPatterns 65 = .ok (.lreturn, 1) := by decide +kernel
theorem dX7_init_0 : decode cX7_init 0 = .ok (.aload_n 0, 1) := by decide +kernel
theorem dX7_init_1 : decode cX7_init 1 = .ok (.invokespecial 1, 3) := by decide +kernel
theorem dX7_init_4 : decode cX7_init 4 = .ok (.return_, 1) := by decide +kernel
theorem dX8_init_0 : decode cX8_init 0 = .ok (.aload_n 0, 1) := by decide +kernel
theorem dX8_init_1 : decode cX8_init 1 = .ok (.invokespecial 3, 3) := by decide +kernel
theorem dX8_init_4 : decode cX8_init 4 = .ok (.aload_n 0, 1) := by decide +kernel
theorem dX8_init_5 : decode cX8_init 5 = .ok (.iload_n 1, 1) := by decide +kernel
theorem dX8_init_6 : decode cX8_init 6 = .ok (.putfield 9, 3) := by decide +kernel
theorem dX8_init_9 : decode cX8_init 9 = .ok (.aload_n 0, 1) := by decide +kernel
theorem dX8_init_10 : decode cX8_init 10 = .ok (.iload_n 2, 1) := by decide +kernel
theorem dX8_init_11 : decode cX8_init 11 = .ok (.putfield 15, 3) := by decide +kernel
theorem dX8_init_14 : decode cX8_init 14 = .ok (.aload_n 0, 1) := by decide +kernel
theorem dX8_init_15 : decode cX8_init 15 = .ok (.iload_n 3, 1) := by decide +kernel
theorem dX8_init_16 : decode cX8_init 16 = .ok (.putfield 18, 3) := by decide +kernel
theorem dX8_init_19 : decode cX8_init 19 = .ok (.aload_n 0, 1) := by decide +kernel
theorem dX8_init_20 : decode cX8_init 20 = .ok (.iload 4, 2) := by decide +kernel
theorem dX8_init_22 : decode cX8_init 22 = .ok (.putfield 21, 3) := by decide +kernel
theorem dX8_init_25 : decode cX8_init 25 = .ok (.aload_n 0, 1) := by decide +kernel
theorem dX8_init_26 : decode cX8_init 26 = .ok (.iload 5, 2) := by decide +kernel
theorem dX8_init_28 : decode cX8_init 28 = .ok (.putfield 24, 3) := by decide +kernel
theorem dX8_init_31 : decode cX8_init 31 = .ok (.aload_n 0, 1) := by decide +kernel
theorem dX8_init_32 : decode cX8_init 32 = .ok (.iload 6, 2) := by decide +kernel
theorem dX8_init_34 : decode cX8_init 34 = .ok (.putfield 27, 3) := by decide +kernel
theorem dX8_init_37 : decode cX8_init 37 = .ok (.return_, 1) := by decide +kernel
theorem dX8_isSmooth_0 : decode cX8_isSmooth 0 = .ok (.aload_n 0, 1) := by decide +kernel
theorem dX8_isSmooth_1 : decode cX8_isSmooth 1 = .ok (.getfield 9, 3) := by decide +kernel
theorem dX8_isSmooth_4 : decode cX8_isSmooth 4 = .ok (.iconst 2, 1) := by decide +kernel
theorem dX8_isSmooth_5 : decode cX8_isSmooth 5 = .ok (.if_icmp .eq 14, 3) := by decide +kernel
theorem dX8_isSmooth_8 : decode cX8_isSmooth 8 = .ok (.aload_n 0, 1) := by decide +kernel
theorem dX8_isSmooth_9 : decode cX8_isSmooth 9 = .ok (.getfield 9, 3) := by decide +kernel
theorem dX8_isSmooth_12 : decode cX8_isSmooth 12 = .ok (.ifCond .eq 7, 3) := by decide +kernel
theorem dX8_isSmooth_15 : decode cX8_isSmooth 15 = .ok (.iconst 1, 1) := by decide +kernel
theorem dX8_isSmooth_16 : decode cX8_isSmooth 16 = .ok (.goto 4, 3) := by decide +kernel
theorem dX8_isSmooth_19 : decode cX8_isSmooth 19 = .ok (.iconst 0, 1) := by decide +kernel
theorem dX8_isSmooth_20 : decode cX8_isSmooth 20 = .ok (.iload_n 1, 1) := by decide +kernel
theorem dX8_isSmooth_21 : decode cX8_isSmooth 21 = .ok (.aload_n 0, 1) := by decide +kernel
theorem dX8_isSmooth_22 : decode cX8_isSmooth 22 = .ok (.getfield 24, 3) := by decide +kernel
theorem dX8_isSmooth_25 : decode cX8_isSmooth 25 = .ok (.if_icmp .ne 7, 3) := by decide +kernel
theorem dX8_isSmooth_28 : decode cX8_isSmooth 28 = .ok (.iconst 1, 1) := by decide +kernel
theorem dX8_isSmooth_29 : decode cX8_isSmooth 29 = .ok (.goto 4, 3) := by decide +kernel
theorem dX8_isSmooth_32 : decode cX8_isSmooth 32 = .ok (.iconst 0, 1) := by decide +kernel
theorem dX8_isSmooth_33 : decode cX8_isSmooth 33 = .ok (.if_icmp .ne 7, 3) := by decide +kernel
theorem dX8_isSmooth_36 : decode cX8_isSmooth 36 = .ok (.iconst 1, 1) := by decide +kernel
theorem dX8_isSmooth_37 : decode cX8_isSmooth 37 = .ok (.goto 4, 3) := by decide +kernel
theorem dX8_isSmooth_40 : decode cX8_isSmooth 40 = .ok (.iconst 0, 1) := by decide +kernel
theorem dX8_isSmooth_41 : decode cX8_isSmooth 41 = .ok (.ireturn, 1) := by decide +kernel
theorem dX9_init_0 : decode cX9_init 0 = .ok (.aload_n 0, 1) := by decide +kernel
theorem dX9_init_1 : decode cX9_init 1 = .ok (.invokespecial 3, 3) := by decide +kernel
theorem dX9_init_4 : decode cX9_init 4 = .ok (.aload_n 0, 1) := by decide +kernel
theorem dX9_init_5 : decode cX9_init 5 = .ok (.new 9, 3) := by decide +kernel
theorem dX9_init_8 : decode cX9_init 8 = .ok (.dup, 1) := by decide +kernel
theorem dX9_init_9 : decode cX9_init 9 = .ok (.invokespecial 11, 3) := by decide +kernel
theorem dX9_init_12 : decode cX9_init 12 = .ok (.putfield 12, 3) := by decide +kernel
theorem dX9_init_15 : decode cX9_init 15 = .ok (.aload_n 0, 1) := by decide +kernel
theorem dX9_init_16 : decode cX9_init 16 = .ok (.new 9, 3) := by decide +kernel
theorem dX9_init_19 : decode cX9_init 19 = .ok (.dup, 1) := by decide +kernel
theorem dX9_init_20 : decode cX9_init 20 = .ok (.invokespecial 11, 3) := by decide +kernel
theorem dX9_init_23 : decode cX9_init 23 = .ok (.putfield 18, 3) := by decide +kernel
theorem dX9_init_26 : decode cX9_init 26 = .ok (.aload_n 0, 1) := by decide +kernel
theorem dX9_init_27 : decode cX9_init 27 = .ok (.new 9, 3) := by decide +kernel
theorem dX9_init_30 : decode cX9_init 30 = .ok (.dup, 1) := by decide +kernel
theorem dX9_init_31 : decode cX9_init 31 = .ok (.invokespecial 11, 3) := by decide +kernel
theorem dX9_init_34 : decode cX9_init 34 = .ok (.putfield 21, 3) := by decide +kernel
theorem dX9_init_37 : decode cX9_init 37 = .ok (.aload_n 0, 1) := by decide +kernel
theorem dX9_init_38 : decode cX9_init 38 = .ok (.iconst 4, 1) := by decide +kernel
theorem dX9_init_39 : decode cX9_init 39 = .ok (.newarray .int, 2) := by decide +kernel
theorem dX9_init_41 : decode cX9_init 41 = .ok (.putfield 24, 3) := by decide +kernel
theorem dX9_init_44 : decode cX9_init 44 = .ok (.return_, 1) := by decide +kernel
theorem dX9_copy_0 : decode cX9_copy 0 = .ok (.new 13, 3) := by decide +kernel
theorem dX9_copy_3 : decode cX9_copy 3 = .ok (.dup, 1) := by decide +kernel
theorem dX9_copy_4 : decode cX9_copy 4 = .ok (.invokespecial 28, 3) := by decide +kernel
theorem dX9_copy_7 : decode cX9_copy 7 = .ok (.astore_n 1, 1) := by decide +kernel
theorem dX9_copy_8 : decode cX9_copy 8 = .ok (.aload_n 1, 1) := by decide +kernel
theorem dX9_copy_9 : decode cX9_copy 9 = .ok (.getfield 12, 3) := by decide +kernel
theorem dX9_copy_12 : decode cX9_copy 12 = .ok (.aload_n 0, 1) := by decide +kernel
theorem dX9_copy_13 : decode cX9_copy 13 = .ok (.getfield 12, 3) := by decide +kernel
theorem dX9_copy_16 : decode cX9_copy 16 = .ok (.invokevirtual 29, 3) := by decide +kernel
theorem dX9_copy_19 : decode cX9_copy 19 = .ok (.pop, 1) := by decide +kernel
theorem dX9_copy_20 : decode cX9_copy 20 = .ok (.aload_n 1, 1) := by decide +kernel
theorem dX9_copy_21 : decode cX9_copy 21 = .ok (.getfield 18, 3) := by decide +kernel
theorem dX9_copy_24 : decode cX9_copy 24 = .ok (.aload_n 0, 1) := by decide +kernel
theorem dX9_copy_25 : decode cX9_copy 25 = .ok (.getfield 18, 3) := by decide +kernel
theorem dX9_copy_28 : decode cX9_copy 28 = .ok (.invokevirtual 29, 3) := by decide +kernel
theorem dX9_copy_31 : decode cX9_copy 31 = .ok (.pop, 1) := by decide +kernel
theorem dX9_copy_32 : decode cX9_copy 32 = .ok (.aload_n 0, 1) := by decide +kernel
theorem dX9_copy_33 : decode cX9_copy 33 = .ok (.getfield 21, 3) := by decide +kernel
theorem dX9_copy_36 : decode cX9_copy 36 = .ok (.invokevirtual 33, 3) := by decide +kernel
theorem dX9_copy_39 : decode cX9_copy 39 = .ok (.astore_n 2, 1) := by decide +kernel
theorem dX9_copy_40 : decode cX9_copy 40 = .ok (.aload_n 2, 1) := by decide +kernel
theorem dX9_copy_41 : decode cX9_copy 41 = .ok (.invokeinterface 37 1, 5) := by decide +kernel
theorem dX9_copy_46 : decode cX9_copy 46 = .ok (.ifCond .eq 31, 3) := by decide +kernel
theorem dX9_copy_49 : decode cX9_copy 49 = .ok (.aload_n 2, 1) := by decide +kernel
theorem dX9_copy_50 : decode cX9_copy 50 = .ok (.invokeinterface 43 1, 5) := by decide +kernel
theorem dX9_copy_55 : decode cX9_copy 55 = .ok (.checkcast 47, 3) := by decide +kernel
theorem dX9_copy_58 : decode cX9_copy 58 = .ok (.astore_n 3, 1) := by decide +kernel
theorem dX9_copy_59 : decode cX9_copy 59 = .ok (.aload_n 1, 1) := by decide +kernel
theorem dX9_copy_60 : decode cX9_copy 60 = .ok (.getfield 21, 3) := by decide +kernel
theorem dX9_copy_63 : decode cX9_copy 63 = .ok (.aload_n 3, 1) := by decide +kernel
theorem dX9_copy_64 : decode cX9_copy 64 = .ok (.invokevirtual 48, 3) := by decide +kernel
theorem dX9_copy_67 : decode cX9_copy 67 = .ok (.checkcast 47, 3) := by decide +kernel
theorem dX9_copy_70 : decode cX9_copy 70 = .ok (.invokevirtual 51, 3) := by decide +kernel
theorem dX9_copy_73 : decode cX9_copy 73 = .ok (.pop, 1) := by decide +kernel
theorem dX9_copy_74 : decode cX9_copy 74 = .ok (.goto (-34), 3) := by decide +kernel
theorem dX9_copy_77 : decode cX9_copy 77 = .ok (.aload_n 0, 1) := by decide +kernel
theorem dX9_copy_78 : decode cX9_copy 78 = .ok (.getfield 24, 3) := by decide +kernel
theorem dX9_copy_81 : decode cX9_copy 81 = .ok (.iconst 0, 1) := by decide +kernel
theorem dX9_copy_82 : decode cX9_copy 82 = .ok (.aload_n 1, 1) := by decide +kernel
theorem dX9_copy_83 : decode cX9_copy 83 = .ok (.getfield 24, 3) := by decide +kernel
theorem dX9_copy_86 : decode cX9_copy 86 = .ok (.iconst 0, 1) := by decide +kernel
theorem dX9_copy_87 : decode cX9_copy 87 = .ok (.iconst 4, 1) := by decide +kernel
theorem dX9_copy_88 : decode cX9_copy 88 = .ok (.invokestatic 55, 3) := by decide +kernel
theorem dX9_copy_91 : decode cX9_copy 91 = .ok (.aload_n 1, 1) := by decide +kernel
theorem dX9_copy_92 : decode cX9_copy 92 = .ok (.aload_n 0, 1) := by decide +kernel
theorem dX9_copy_93 : decode cX9_copy 93 = .ok (.getfield 61, 3) := by decide +kernel
theorem dX9_copy_96 : decode cX9_copy 96 = .ok (.putfield 61, 3) := by decide +kernel
theorem dX9_copy_99 : decode cX9_copy 99 = .ok (.aload_n 1, 1) := by decide +kernel
theorem dX9_copy_100 : decode cX9_copy 100 = .ok (.aload_n 0, 1) := by decide +kernel
theorem dX9_copy_101 : decode cX9_copy 101 = .ok (.getfield 65, 3) := by decide +kernel
theorem dX9_copy_104 : decode cX9_copy 104 = .ok (.putfield 65, 3) := by decide +kernel
theorem dX9_copy_107 : decode cX9_copy 107 = .ok (.aload_n 1, 1) := by decide +kernel
theorem dX9_copy_108 : decode cX9_copy 108 = .ok (.aload_n 0, 1) := by decide +kernel
theorem dX9_copy_109 : decode cX9_copy 109 = .ok (.getfield 68, 3) := by decide +kernel
theorem dX9_copy_112 : decode cX9_copy 112 = .ok (.putfield 68, 3) := by decide +kernel
theorem dX9_copy_115 : decode cX9_copy 115 = .ok (.aload_n 1, 1) := by decide +kernel
theorem dX9_copy_116 : decode cX9_copy 116 = .ok (.aload_n 0, 1) := by decide +kernel
theorem dX9_copy_117 : decode cX9_copy 117 = .ok (.getfield 71, 3) := by decide +kernel
theorem dX9_copy_120 : decode cX9_copy 120 = .ok (.putfield 71, 3) := by decide +kernel
theorem dX9_copy_123 : decode cX9_copy 123 = .ok (.aload_n 1, 1) := by decide +kernel
theorem dX9_copy_124 : decode cX9_copy 124 = .ok (.aload_n 0, 1) := by decide +kernel
theorem dX9_copy_125 : decode cX9_copy 125 = .ok (.getfield 74, 3) := by decide +kernel
theorem dX9_copy_128 : decode cX9_copy 128 = .ok (.putfield 74, 3) := by decide +kernel
theorem dX9_copy_131 : decode cX9_copy 131 = .ok (.aload_n 1, 1) := by decide +kernel
theorem dX9_copy_132 : decode cX9_copy 132 = .ok (.aload_n 0, 1) := by decide +kernel
theorem dX9_copy_133 : decode cX9_copy 133 = .ok (.getfield 77, 3) := by decide +kernel
theorem dX9_copy_136 : decode cX9_copy 136 = .ok (.putfield 77, 3) := by decide +kernel
theorem dX9_copy_139 : decode cX9_copy 139 = .ok (.aload_n 1, 1) := by decide +kernel
theorem dX9_copy_140 : decode cX9_copy 140 = .ok (.aload_n 0, 1) := by decide +kernel
theorem dX9_copy_141 : decode cX9_copy 141 = .ok (.getfield 80, 3) := by decide +kernel
theorem dX9_copy_144 : decode cX9_copy 144 = .ok (.putfield 80, 3) := by decide +kernel
theorem dX9_copy_147 : decode cX9_copy 147 = .ok (.aload_n 1, 1) := by decide +kernel
theorem dX9_copy_148 : decode cX9_copy 148 = .ok (.areturn, 1) := by decide +kernel
theorem dX9_all_0 : decode cX9_all 0 = .ok (.aload_n 0, 1) := by decide +kernel
theorem dX9_all_1 : decode cX9_all 1 = .ok (.getfield 12, 3) := by decide +kernel
theorem dX9_all_4 : decode cX9_all 4 = .ok (.invokevirtual 83, 3) := by decide +kernel
theorem dX9_all_7 : decode cX9_all 7 = .ok (.aload_n 0, 1) := by decide +kernel
theorem dX9_all_8 : decode cX9_all 8 = .ok (.getfield 18, 3) := by decide +kernel
theorem dX9_all_11 : decode cX9_all 11 = .ok (.invokevirtual 83, 3) := by decide +kernel
theorem dX9_all_14 : decode cX9_all 14 = .ok (.iadd, 1) := by decide +kernel
theorem dX9_all_15 : decode cX9_all 15 = .ok (.ireturn, 1) := by decide +kernel
theorem dX10_init_0 : decode cX10_init 0 = .ok (.aload_n 0, 1) := by decide +kernel
theorem dX10_init_1 : decode cX10_init 1 = .ok (.invokespecial 1, 3) := by decide +kernel
theorem dX10_init_4 : decode cX10_init 4 = .ok (.aload_n 0, 1) := by decide +kernel
theorem dX10_init_5 : decode cX10_init 5 = .ok (.new 7, 3) := by decide +kernel
theorem dX10_init_8 : decode cX10_init 8 = .ok (.dup, 1) := by decide +kernel
theorem dX10_init_9 : decode cX10_init 9 = .ok (.invokespecial 9, 3) := by decide +kernel
theorem dX10_init_12 : decode cX10_init 12 = .ok (.putfield 10, 3) := by decide +kernel
theorem dX10_init_15 : decode cX10_init 15 = .ok (.aload_n 0, 1) := by decide +kernel
theorem dX10_init_16 : decode cX10_init 16 = .ok (.new 7, 3) := by decide +kernel
theorem dX10_init_19 : decode cX10_init 19 = .ok (.dup, 1) := by decide +kernel
theorem dX10_init_20 : decode cX10_init 20 = .ok (.invokespecial 9, 3) := by decide +kernel
theorem dX10_init_23 : decode cX10_init 23 = .ok (.putfield 16, 3) := by decide +kernel
theorem dX10_init_26 : decode cX10_init 26 = .ok (.aload_n 0, 1) := by decide +kernel
theorem dX10_init_27 : decode cX10_init 27 = .ok (.new 7, 3) := by decide +kernel
theorem dX10_init_30 : decode cX10_init 30 = .ok (.dup, 1) := by decide +kernel
theorem dX10_init_31 : decode cX10_init 31 = .ok (.invokespecial 9, 3) := by decide +kernel
theorem dX10_init_34 : decode cX10_init 34 = .ok (.putfield 19, 3) := by decide +kernel
theorem dX10_init_37 : decode cX10_init 37 = .ok (.aload_n 0, 1) := by decide +kernel
theorem dX10_init_38 : decode cX10_init 38 = .ok (.new 7, 3) := by decide +kernel
theorem dX10_init_41 : decode cX10_init 41 = .ok (.dup, 1) := by decide +kernel
theorem dX10_init_42 : decode cX10_init 42 = .ok (.invokespecial 9, 3) := by decide +kernel
theorem dX10_init_45 : decode cX10_init 45 = .ok (.putfield 22, 3) := by decide +kernel
theorem dX10_init_48 : decode cX10_init 48 = .ok (.aload_n 0, 1) := by decide +kernel
theorem dX10_init_49 : decode cX10_init 49 = .ok (.new 25, 3) := by decide +kernel
theorem dX10_init_52 : decode cX10_init 52 = .ok (.dup, 1) := by decide +kernel
theorem dX10_init_53 : decode cX10_init 53 = .ok (.invokespecial 27, 3) := by decide +kernel
theorem dX10_init_56 : decode cX10_init 56 = .ok (.putfield 28, 3) := by decide +kernel
theorem dX10_init_59 : decode cX10_init 59 = .ok (.aload_n 0, 1) := by decide +kernel
theorem dX10_init_60 : decode cX10_init 60 = .ok (.iconst (-1), 1) := by decide +kernel
theorem dX10_init_61 : decode cX10_init 61 = .ok (.putfield 32, 3) := by decide +kernel
theorem dX10_init_64 : decode cX10_init 64 = .ok (.return_, 1) := by decide +kernel
theorem dX10_refuse_0 : decode cX10_refuse 0 = .ok (.aload_n 0, 1) := by decide +kernel
theorem dX10_refuse_1 : decode cX10_refuse 1 = .ok (.iload_n 1, 1) := by decide +kernel
theorem dX10_refuse_2 : decode cX10_refuse 2 = .ok (.putfield 36, 3) := by decide +kernel
theorem dX10_refuse_5 : decode cX10_refuse 5 = .ok (.iconst 0, 1) := by decide +kernel
theorem dX10_refuse_6 : decode cX10_refuse 6 = .ok (.ireturn, 1) := by decide +kernel
theorem dX10_is_0 : decode cX10_is 0 = .ok (.iload_n 0, 1) := by decide +kernel
theorem dX10_is_1 : decode cX10_is 1 = .ok (.iload_n 1, 1) := by decide +kernel
theorem dX10_is_2 : decode cX10_is 2 = .ok (.if_icmp .lt 12, 3) := by decide +kernel
theorem dX10_is_5 : decode cX10_is 5 = .ok (.iload_n 0, 1) := by decide +kernel
theorem dX10_is_6 : decode cX10_is 6 = .ok (.iload_n 2, 1) := by decide +kernel
theorem dX10_is_7 : decode cX10_is 7 = .ok (.if_icmp .gt 7, 3) := by decide +kernel
theorem dX10_is_10 : decode cX10_is 10 = .ok (.iconst 1, 1) := by decide +kernel
theorem dX10_is_11 : decode cX10_is 11 = .ok (.goto 4, 3) := by decide +kernel
theorem dX10_is_14 : decode cX10_is 14 = .ok (.iconst 0, 1) := by decide +kernel
theorem dX10_is_15 : decode cX10_is 15 = .ok (.ireturn, 1) := by decide +kernel
theorem dX10_pull_0 : decode cX10_pull 0 = .ok (.aload_n 0, 1) := by decide +kernel
theorem dX10_pull_1 : decode cX10_pull 1 = .ok (.aload_n 0, 1) := by decide +kernel
theorem dX10_pull_2 : decode cX10_pull 2 = .ok (.invokevirtual 39, 3) := by decide +kernel
theorem dX10_pull_5 : decode cX10_pull 5 = .ok (.iconst 1, 1) := by decide +kernel
theorem dX10_pull_6 : decode cX10_pull 6 = .ok (.isub, 1) := by decide +kernel
theorem dX10_pull_7 : decode cX10_pull 7 = .ok (.invokevirtual 43, 3) := by decide +kernel
theorem dX10_pull_10 : decode cX10_pull 10 = .ok (.checkcast 47, 3) := by decide +kernel
theorem dX10_pull_13 : decode cX10_pull 13 = .ok (.invokevirtual 49, 3) := by decide +kernel
theorem dX10_pull_16 : decode cX10_pull 16 = .ok (.ireturn, 1) := by decide +kernel
theorem dX10_yarn_0 : decode cX10_yarn 0 = .ok (.aload_n 0, 1) := by decide +kernel
theorem dX10_yarn_1 : decode cX10_yarn 1 = .ok (.getfield 32, 3) := by decide +kernel
theorem dX10_yarn_4 : decode cX10_yarn 4 = .ok (.iconst (-1), 1) := by decide +kernel
theorem dX10_yarn_5 : decode cX10_yarn 5 = .ok (.if_icmp .ne 7, 3) := by decide +kernel
theorem dX10_yarn_8 : decode cX10_yarn 8 = .ok (.iconst (-1), 1) := by decide +kernel
theorem dX10_yarn_9 : decode cX10_yarn 9 = .ok (.goto 15, 3) := by decide +kernel
theorem dX10_yarn_12 : decode cX10_yarn 12 = .ok (.aload_n 0, 1) := by decide +kernel
theorem dX10_yarn_13 : decode cX10_yarn 13 = .ok (.getfield 28, 3) := by decide +kernel
theorem dX10_yarn_16 : decode cX10_yarn 16 = .ok (.getfield 52, 3) := by decide +kernel
theorem dX10_yarn_19 : decode cX10_yarn 19 = .ok (.aload_n 0, 1) := by decide +kernel
theorem dX10_yarn_20 : decode cX10_yarn 20 = .ok (.getfield 32, 3) := by decide +kernel
theorem dX10_yarn_23 : decode cX10_yarn 23 = .ok (.iaload, 1) := by decide +kernel
theorem dX10_yarn_24 : decode cX10_yarn 24 = .ok (.ireturn, 1) := by decide +kernel
theorem dX10_keep_0 : decode cX10_keep 0 = .ok (.aload_n 0, 1) := by decide +kernel
theorem dX10_keep_1 : decode cX10_keep 1 = .ok (.getfield 22, 3) := by decide +kernel
theorem dX10_keep_4 : decode cX10_keep 4 = .ok (.invokevirtual 39, 3) := by decide +kernel
theorem dX10_keep_7 : decode cX10_keep 7 = .ok (.bipush 12, 2) := by decide +kernel
theorem dX10_keep_9 : decode cX10_keep 9 = .ok (.if_icmp .ne 12, 3) := by decide +kernel
theorem dX10_keep_12 : decode cX10_keep 12 = .ok (.aload_n 0, 1) := by decide +kernel
theorem dX10_keep_13 : decode cX10_keep 13 = .ok (.getfield 22, 3) := by decide +kernel
theorem dX10_keep_16 : decode cX10_keep 16 = .ok (.iconst 0, 1) := by decide +kernel
theorem dX10_keep_17 : decode cX10_keep 17 = .ok (.invokevirtual 43, 3) := by decide +kernel
theorem dX10_keep_20 : decode cX10_keep 20 = .ok (.pop, 1) := by decide +kernel
theorem dX10_keep_21 : decode cX10_keep 21 = .ok (.aload_n 0, 1) := by decide +kernel
theorem dX10_keep_22 : decode cX10_keep 22 = .ok (.getfield 22, 3) := by decide +kernel
theorem dX10_keep_25 : decode cX10_keep 25 = .ok (.aload_n 0, 1) := by decide +kernel
theorem dX10_keep_26 : decode cX10_keep 26 = .ok (.getfield 28, 3) := by decide +kernel
theorem dX10_keep_29 : decode cX10_keep 29 = .ok (.invokevirtual 56, 3) := by decide +kernel
theorem dX10_keep_32 : decode cX10_keep 32 = .ok (.invokevirtual 60, 3) := by decide +kernel
theorem dX10_keep_35 : decode cX10_keep 35 = .ok (.pop, 1) := by decide +kernel
theorem dX10_keep_36 : decode cX10_keep 36 = .ok (.return_, 1) := by decide +kernel
theorem dX10_make_0 : decode cX10_make 0 = .ok (.aload_n 0, 1) := by decide +kernel
theorem dX10_make_1 : decode cX10_make 1 = .ok (.getfield 28, 3) := by decide +kernel
theorem dX10_make_4 : decode cX10_make 4 = .ok (.getfield 52, 3) := by decide +kernel
theorem dX10_make_7 : decode cX10_make 7 = .ok (.aload_n 0, 1) := by decide +kernel
theorem dX10_make_8 : decode cX10_make 8 = .ok (.getfield 32, 3) := by decide +kernel
theorem dX10_make_11 : decode cX10_make 11 = .ok (.dup2, 1) := by decide +kernel
theorem dX10_make_12 : decode cX10_make 12 = .ok (.iaload, 1) := by decide +kernel
theorem dX10_make_13 : decode cX10_make 13 = .ok (.iload 4, 2) := by decide +kernel
theorem dX10_make_15 : decode cX10_make 15 = .ok (.isub, 1) := by decide +kernel
theorem dX10_make_16 : decode cX10_make 16 = .ok (.iastore, 1) := by decide +kernel
theorem dX10_make_17 : decode cX10_make 17 = .ok (.aload_n 0, 1) := by decide +kernel
theorem dX10_make_18 : decode cX10_make 18 = .ok (.getfield 10, 3) := by decide +kernel
theorem dX10_make_21 : decode cX10_make 21 = .ok (.new 64, 3) := by decide +kernel
theorem dX10_make_24 : decode cX10_make 24 = .ok (.dup, 1) := by decide +kernel
theorem dX10_make_25 : decode cX10_make 25 = .ok (.iload_n 1, 1) := by decide +kernel
theorem dX10_make_26 : decode cX10_make 26 = .ok (.aload_n 0, 1) := by decide +kernel
theorem dX10_make_27 : decode cX10_make 27 = .ok (.getfield 32, 3) := by decide +kernel
theorem dX10_make_30 : decode cX10_make 30 = .ok (.aload_n 0, 1) := by decide +kernel
theorem dX10_make_31 : decode cX10_make 31 = .ok (.getfield 28, 3) := by decide +kernel
theorem dX10_make_34 : decode cX10_make 34 = .ok (.getfield 66, 3) := by decide +kernel
theorem dX10_make_37 : decode cX10_make 37 = .ok (.iload_n 2, 1) := by decide +kernel
theorem dX10_make_38 : decode cX10_make 38 = .ok (.aload_n 0, 1) := by decide +kernel
theorem dX10_make_39 : decode cX10_make 39 = .ok (.getfield 28, 3) := by decide +kernel
theorem dX10_make_42 : decode cX10_make 42 = .ok (.getfield 69, 3) := by decide +kernel
theorem dX10_make_45 : decode cX10_make 45 = .ok (.iload_n 3, 1) := by decide +kernel
theorem dX10_make_46 : decode cX10_make 46 = .ok (.invokespecial 72, 3) := by decide +kernel
theorem dX10_make_49 : decode cX10_make 49 = .ok (.invokevirtual 60, 3) := by decide +kernel
theorem dX10_make_52 : decode cX10_make 52 = .ok (.pop, 1) := by decide +kernel
theorem dX10_make_53 : decode cX10_make 53 = .ok (.aload_n 0, 1) := by decide +kernel
theorem dX10_make_54 : decode cX10_make 54 = .ok (.getfield 28, 3) := by decide +kernel
theorem dX10_make_57 : decode cX10_make 57 = .ok (.getfield 75, 3) := by decide +kernel
theorem dX10_make_60 : decode cX10_make 60 = .ok (.aload_n 0, 1) := by decide +kernel
theorem dX10_make_61 : decode cX10_make 61 = .ok (.getfield 28, 3) := by decide +kernel
theorem dX10_make_64 : decode cX10_make 64 = .ok (.getfield 78, 3) := by decide +kernel
theorem dX10_make_67 : decode cX10_make 67 = .ok (.invokestatic 81, 3) := by decide +kernel
theorem dX10_make_70 : decode cX10_make 70 = .ok (.invokevirtual 60, 3) := by decide +kernel
theorem dX10_make_73 : decode cX10_make 73 = .ok (.pop, 1) := by decide +kernel
theorem dX10_make_74 : decode cX10_make 74 = .ok (.aload_n 0, 1) := by decide +kernel
theorem dX10_make_75 : decode cX10_make 75 = .ok (.getfield 28, 3) := by decide +kernel
theorem dX10_make_78 : decode cX10_make 78 = .ok (.dup, 1) := by decide +kernel
theorem dX10_make_79 : decode cX10_make 79 = .ok (.getfield 78, 3) := by decide +kernel
theorem dX10_make_82 : decode cX10_make 82 = .ok (.iconst 1, 1) := by decide +kernel
theorem dX10_make_83 : decode cX10_make 83 = .ok (.iadd, 1) := by decide +kernel
theorem dX10_make_84 : decode cX10_make 84 = .ok (.putfield 78, 3) := by decide +kernel
theorem dX10_make_87 : decode cX10_make 87 = .ok (.aload_n 0, 1) := by decide +kernel
theorem dX10_make_88 : decode cX10_make 88 = .ok (.getfield 28, 3) := by decide +kernel
theorem dX10_make_91 : decode cX10_make 91 = .ok (.getfield 85, 3) := by decide +kernel
theorem dX10_make_94 : decode cX10_make 94 = .ok (.invokevirtual 88, 3) := by decide +kernel
theorem dX10_make_97 : decode cX10_make 97 = .ok (.astore 5, 2) := by decide +kernel
theorem dX10_make_99 : decode cX10_make 99 = .ok (.aload 5, 2) := by decide +kernel
theorem dX10_make_101 : decode cX10_make 101 = .ok (.invokeinterface 92 1, 5) := by decide +kernel
theorem dX10_make_106 : decode cX10_make 106 = .ok (.ifCond .eq 43, 3) := by decide +kernel
theorem dX10_make_109 : decode cX10_make 109 = .ok (.aload 5, 2) := by decide +kernel
theorem dX10_make_111 : decode cX10_make 111 = .ok (.invokeinterface 98 1, 5) := by decide +kernel
theorem dX10_make_116 : decode cX10_make 116 = .ok (.checkcast 102, 3) := by decide +kernel
theorem dX10_make_119 : decode cX10_make 119 = .ok (.astore 6, 2) := by decide +kernel
theorem dX10_make_121 : decode cX10_make 121 = .ok (.aload 6, 2) := by decide +kernel
theorem dX10_make_123 : decode cX10_make 123 = .ok (.iconst 3, 1) := by decide +kernel
theorem dX10_make_124 : decode cX10_make 124 = .ok (.iaload, 1) := by decide +kernel
theorem dX10_make_125 : decode cX10_make 125 = .ok (.iconst 1, 1) := by decide +kernel
theorem dX10_make_126 : decode cX10_make 126 = .ok (.if_icmp .ne 20, 3) := by decide +kernel
theorem dX10_make_129 : decode cX10_make 129 = .ok (.aload 6, 2) := by decide +kernel
theorem dX10_make_131 : decode cX10_make 131 = .ok (.iconst 2, 1) := by decide +kernel
theorem dX10_make_132 : decode cX10_make 132 = .ok (.aload 6, 2) := by decide +kernel
theorem dX10_make_134 : decode cX10_make 134 = .ok (.iconst 1, 1) := by decide +kernel
theorem dX10_make_135 : decode cX10_make 135 = .ok (.iaload, 1) := by decide +kernel
theorem dX10_make_136 : decode cX10_make 136 = .ok (.aload 6, 2) := by decide +kernel
theorem dX10_make_138 : decode cX10_make 138 = .ok (.iconst 2, 1) := by decide +kernel
theorem dX10_make_139 : decode cX10_make 139 = .ok (.iaload, 1) := by decide +kernel
theorem dX10_make_140 : decode cX10_make 140 = .ok (.iconst 1, 1) := by decide +kernel
theorem dX10_make_141 : decode cX10_make 141 = .ok (.iadd, 1) := by decide +kernel
theorem dX10_make_142 : decode cX10_make 142 = .ok (.invokestatic 103, 3) := by decide +kernel
theorem dX10_make_145 : decode cX10_make 145 = .ok (.iastore, 1) := by decide +kernel
theorem dX10_make_146 : decode cX10_make 146 = .ok (.goto (-47), 3) := by decide +kernel
theorem dX10_make_149 : decode cX10_make 149 = .ok (.aload_n 0, 1) := by decide +kernel
theorem dX10_make_150 : decode cX10_make 150 = .ok (.getfield 28, 3) := by decide +kernel
theorem dX10_make_153 : decode cX10_make 153 = .ok (.getfield 78, 3) := by decide +kernel
theorem dX10_make_156 : decode cX10_make 156 = .ok (.iconst 1, 1) := by decide +kernel
theorem dX10_make_157 : decode cX10_make 157 = .ok (.isub, 1) := by decide +kernel
theorem dX10_make_158 : decode cX10_make 158 = .ok (.ireturn, 1) := by decide +kernel
theorem dX10_buy_0 : decode cX10_buy 0 = .ok (.aload_n 0, 1) := by decide +kernel
theorem dX10_buy_1 : decode cX10_buy 1 = .ok (.iconst 0, 1) := by decide +kernel
theorem dX10_buy_2 : decode cX10_buy 2 = .ok (.putfield 36, 3) := by decide +kernel
theorem dX10_buy_5 : decode cX10_buy 5 = .ok (.iload_n 1, 1) := by decide +kernel
theorem dX10_buy_6 : decode cX10_buy 6 = .ok (.iconst 1, 1) := by decide +kernel
theorem dX10_buy_7 : decode cX10_buy 7 = .ok (.sipush 9999, 3) := by decide +kernel
theorem dX10_buy_10 : decode cX10_buy 10 = .ok (.invokestatic 109, 3) := by decide +kernel
theorem dX10_buy_13 : decode cX10_buy 13 = .ok (.ifCond .ne 9, 3) := by decide +kernel
theorem dX10_buy_16 : decode cX10_buy 16 = .ok (.aload_n 0, 1) := by decide +kernel
theorem dX10_buy_17 : decode cX10_buy 17 = .ok (.iconst 1, 1) := by decide +kernel
theorem dX10_buy_18 : decode cX10_buy 18 = .ok (.invokevirtual 113, 3) := by decide +kernel
theorem dX10_buy_21 : decode cX10_buy 21 = .ok (.ireturn, 1) := by decide +kernel
theorem dX10_buy_22 : decode cX10_buy 22 = .ok (.aload_n 0, 1) := by decide +kernel
theorem dX10_buy_23 : decode cX10_buy 23 = .ok (.getfield 117, 3) := by decide +kernel
theorem dX10_buy_26 : decode cX10_buy 26 = .ok (.iconst 4, 1) := by decide +kernel
theorem dX10_buy_27 : decode cX10_buy 27 = .ok (.if_icmp .ne 9, 3) := by decide +kernel
theorem dX10_buy_30 : decode cX10_buy 30 = .ok (.aload_n 0, 1) := by decide +kernel
theorem dX10_buy_31 : decode cX10_buy 31 = .ok (.iconst 2, 1) := by decide +kernel
theorem dX10_buy_32 : decode cX10_buy 32 = .ok (.invokevirtual 113, 3) := by decide +kernel
theorem dX10_buy_35 : decode cX10_buy 35 = .ok (.ireturn, 1) := by decide +kernel
theorem dX10_buy_36 : decode cX10_buy 36 = .ok (.aload_n 0, 1) := by decide +kernel
theorem dX10_buy_37 : decode cX10_buy 37 = .ok (.getfield 22, 3) := by decide +kernel
theorem dX10_buy_40 : decode cX10_buy 40 = .ok (.invokevirtual 88, 3) := by decide +kernel
theorem dX10_buy_43 : decode cX10_buy 43 = .ok (.astore_n 2, 1) := by decide +kernel
theorem dX10_buy_44 : decode cX10_buy 44 = .ok (.aload_n 2, 1) := by decide +kernel
theorem dX10_buy_45 : decode cX10_buy 45 = .ok (.invokeinterface 92 1, 5) := by decide +kernel
theorem dX10_buy_50 : decode cX10_buy 50 = .ok (.ifCond .eq 26, 3) := by decide +kernel
theorem dX10_buy_53 : decode cX10_buy 53 = .ok (.aload_n 2, 1) := by decide +kernel
theorem dX10_buy_54 : decode cX10_buy 54 = .ok (.invokeinterface 98 1, 5) := by decide +kernel
theorem dX10_buy_59 : decode cX10_buy 59 = .ok (.checkcast 25, 3) := by decide +kernel
theorem dX10_buy_62 : decode cX10_buy 62 = .ok (.astore_n 3, 1) := by decide +kernel
theorem dX10_buy_63 : decode cX10_buy 63 = .ok (.aload_n 3, 1) := by decide +kernel
theorem dX10_buy_64 : decode cX10_buy 64 = .ok (.getfield 52, 3) := by decide +kernel
theorem dX10_buy_67 : decode cX10_buy 67 = .ok (.aload_n 0, 1) := by decide +kernel
theorem dX10_buy_68 : decode cX10_buy 68 = .ok (.getfield 117, 3) := by decide +kernel
theorem dX10_buy_71 : decode cX10_buy 71 = .ok (.iload_n 1, 1) := by decide +kernel
theorem dX10_buy_72 : decode cX10_buy 72 = .ok (.iastore, 1) := by decide +kernel
theorem dX10_buy_73 : decode cX10_buy 73 = .ok (.goto (-29), 3) := by decide +kernel
theorem dX10_buy_76 : decode cX10_buy 76 = .ok (.aload_n 0, 1) := by decide +kernel
theorem dX10_buy_77 : decode cX10_buy 77 = .ok (.getfield 28, 3) := by decide +kernel
theorem dX10_buy_80 : decode cX10_buy 80 = .ok (.getfield 52, 3) := by decide +kernel
theorem dX10_buy_83 : decode cX10_buy 83 = .ok (.aload_n 0, 1) := by decide +kernel
theorem dX10_buy_84 : decode cX10_buy 84 = .ok (.getfield 117, 3) := by decide +kernel
theorem dX10_buy_87 : decode cX10_buy 87 = .ok (.iload_n 1, 1) := by decide +kernel
theorem dX10_buy_88 : decode cX10_buy 88 = .ok (.iastore, 1) := by decide +kernel
theorem dX10_buy_89 : decode cX10_buy 89 = .ok (.aload_n 0, 1) := by decide +kernel
theorem dX10_buy_90 : decode cX10_buy 90 = .ok (.dup, 1) := by decide +kernel
theorem dX10_buy_91 : decode cX10_buy 91 = .ok (.getfield 117, 3) := by decide +kernel
theorem dX10_buy_94 : decode cX10_buy 94 = .ok (.iconst 1, 1) := by decide +kernel
theorem dX10_buy_95 : decode cX10_buy 95 = .ok (.iadd, 1) := by decide +kernel
theorem dX10_buy_96 : decode cX10_buy 96 = .ok (.putfield 117, 3) := by decide +kernel
theorem dX10_buy_99 : decode cX10_buy 99 = .ok (.aload_n 0, 1) := by decide +kernel
theorem dX10_buy_100 : decode cX10_buy 100 = .ok (.getfield 117, 3) := by decide +kernel
theorem dX10_buy_103 : decode cX10_buy 103 = .ok (.iconst 1, 1) := by decide +kernel
theorem dX10_buy_104 : decode cX10_buy 104 = .ok (.isub, 1) := by decide +kernel
theorem dX10_buy_105 : decode cX10_buy 105 = .ok (.ireturn, 1) := by decide +kernel
theorem dX10_join_0 : decode cX10_join 0 = .ok (.aload_n 0, 1) := by decide +kernel
theorem dX10_join_1 : decode cX10_join 1 = .ok (.iconst 0, 1) := by decide +kernel
theorem dX10_join_2 : decode cX10_join 2 = .ok (.putfield 36, 3) := by decide +kernel
theorem dX10_join_5 : decode cX10_join 5 = .ok (.iload_n 1, 1) := by decide +kernel
theorem dX10_join_6 : decode cX10_join 6 = .ok (.iconst 0, 1) := by decide +kernel
theorem dX10_join_7 : decode cX10_join 7 = .ok (.aload_n 0, 1) := by decide +kernel
theorem dX10_join_8 : decode cX10_join 8 = .ok (.getfield 117, 3) := by decide +kernel
theorem dX10_join_11 : decode cX10_join 11 = .ok (.iconst 1, 1) := by decide +kernel
theorem dX10_join_12 : decode cX10_join 12 = .ok (.isub, 1) := by decide +kernel
theorem dX10_join_13 : decode cX10_join 13 = .ok (.invokestatic 109, 3) := by decide +kernel
theorem dX10_join_16 : decode cX10_join 16 = .ok (.ifCond .ne 9, 3) := by decide +kernel
theorem dX10_join_19 : decode cX10_join 19 = .ok (.aload_n 0, 1) := by decide +kernel
theorem dX10_join_20 : decode cX10_join 20 = .ok (.iconst 1, 1) := by decide +kernel
theorem dX10_join_21 : decode cX10_join 21 = .ok (.invokevirtual 113, 3) := by decide +kernel
theorem dX10_join_24 : decode cX10_join 24 = .ok (.ireturn, 1) := by decide +kernel
theorem dX10_join_25 : decode cX10_join 25 = .ok (.aload_n 0, 1) := by decide +kernel
theorem dX10_join_26 : decode cX10_join 26 = .ok (.getfield 32, 3) := by decide +kernel
theorem dX10_join_29 : decode cX10_join 29 = .ok (.istore_n 2, 1) := by decide +kernel
theorem dX10_join_30 : decode cX10_join 30 = .ok (.aload_n 0, 1) := by decide +kernel
theorem dX10_join_31 : decode cX10_join 31 = .ok (.iload_n 1, 1) := by decide +kernel
theorem dX10_join_32 : decode cX10_join 32 = .ok (.putfield 32, 3) := by decide +kernel
theorem dX10_join_35 : decode cX10_join 35 = .ok (.iload_n 2, 1) := by decide +kernel
theorem dX10_join_36 : decode cX10_join 36 = .ok (.ireturn, 1) := by decide +kernel
theorem dX10_cast_0 : decode cX10_cast 0 = .ok (.aload_n 0, 1) := by decide +kernel
theorem dX10_cast_1 : decode cX10_cast 1 = .ok (.iconst 0, 1) := by decide +kernel
theorem dX10_cast_2 : decode cX10_cast 2 = .ok (.putfield 36, 3) := by decide +kernel
theorem dX10_cast_5 : decode cX10_cast 5 = .ok (.iload_n 1, 1) := by decide +kernel
theorem dX10_cast_6 : decode cX10_cast 6 = .ok (.iconst 1, 1) := by decide +kernel
theorem dX10_cast_7 : decode cX10_cast 7 = .ok (.bipush 24, 2) := by decide +kernel
theorem dX10_cast_9 : decode cX10_cast 9 = .ok (.invokestatic 109, 3) := by decide +kernel
theorem dX10_cast_12 : decode cX10_cast 12 = .ok (.ifCond .ne 9, 3) := by decide +kernel
theorem dX10_cast_15 : decode cX10_cast 15 = .ok (.aload_n 0, 1) := by decide +kernel
theorem dX10_cast_16 : decode cX10_cast 16 = .ok (.iconst 1, 1) := by decide +kernel
theorem dX10_cast_17 : decode cX10_cast 17 = .ok (.invokevirtual 113, 3) := by decide +kernel
theorem dX10_cast_20 : decode cX10_cast 20 = .ok (.ireturn, 1) := by decide +kernel
theorem dX10_cast_21 : decode cX10_cast 21 = .ok (.aload_n 0, 1) := by decide +kernel
theorem dX10_cast_22 : decode cX10_cast 22 = .ok (.invokevirtual 120, 3) := by decide +kernel
theorem dX10_cast_25 : decode cX10_cast 25 = .ok (.iconst 2, 1) := by decide +kernel
theorem dX10_cast_26 : decode cX10_cast 26 = .ok (.iload_n 1, 1) := by decide +kernel
theorem dX10_cast_27 : decode cX10_cast 27 = .ok (.imul, 1) := by decide +kernel
theorem dX10_cast_28 : decode cX10_cast 28 = .ok (.if_icmp .lt 17, 3) := by decide +kernel
theorem dX10_cast_31 : decode cX10_cast 31 = .ok (.aload_n 0, 1) := by decide +kernel
theorem dX10_cast_32 : decode cX10_cast 32 = .ok (.getfield 28, 3) := by decide +kernel
theorem dX10_cast_35 : decode cX10_cast 35 = .ok (.invokevirtual 122, 3) := by decide +kernel
theorem dX10_cast_38 : decode cX10_cast 38 = .ok (.iload_n 1, 1) := by decide +kernel
theorem dX10_cast_39 : decode cX10_cast 39 = .ok (.iadd, 1) := by decide +kernel
theorem dX10_cast_40 : decode cX10_cast 40 = .ok (.bipush 24, 2) := by decide +kernel
theorem dX10_cast_42 : decode cX10_cast 42 = .ok (.if_icmp .le 9, 3) := by decide +kernel
theorem dX10_cast_45 : decode cX10_cast 45 = .ok (.aload_n 0, 1) := by decide +kernel
theorem dX10_cast_46 : decode cX10_cast 46 = .ok (.iconst 2, 1) := by decide +kernel
theorem dX10_cast_47 : decode cX10_cast 47 = .ok (.invokevirtual 113, 3) := by decide +kernel
theorem dX10_cast_50 : decode cX10_cast 50 = .ok (.ireturn, 1) := by decide +kernel
theorem dX10_cast_51 : decode cX10_cast 51 = .ok (.aload_n 0, 1) := by decide +kernel
theorem dX10_cast_52 : decode cX10_cast 52 = .ok (.invokevirtual 125, 3) := by decide +kernel
theorem dX10_cast_55 : decode cX10_cast 55 = .ok (.iconst 0, 1) := by decide +kernel
theorem dX10_cast_56 : decode cX10_cast 56 = .ok (.istore_n 2, 1) := by decide +kernel
theorem dX10_cast_57 : decode cX10_cast 57 = .ok (.iload_n 2, 1) := by decide +kernel
theorem dX10_cast_58 : decode cX10_cast 58 = .ok (.iload_n 1, 1) := by decide +kernel
theorem dX10_cast_59 : decode cX10_cast 59 = .ok (.if_icmp .ge 18, 3) := by decide +kernel
theorem dX10_cast_62 : decode cX10_cast 62 = .ok (.aload_n 0, 1) := by decide +kernel
theorem dX10_cast_63 : decode cX10_cast 63 = .ok (.iconst 0, 1) := by decide +kernel
theorem dX10_cast_64 : decode cX10_cast 64 = .ok (.iconst 1, 1) := by decide +kernel
theorem dX10_cast_65 : decode cX10_cast 65 = .ok (.iconst 0, 1) := by decide +kernel
theorem dX10_cast_66 : decode cX10_cast 66 = .ok (.iconst 2, 1) := by decide +kernel
theorem dX10_cast_67 : decode cX10_cast 67 = .ok (.invokevirtual 128, 3) := by decide +kernel
theorem dX10_cast_70 : decode cX10_cast 70 = .ok (.pop, 1) := by decide +kernel
theorem dX10_cast_71 : decode cX10_cast 71 = .ok (.iinc 2 1, 3) := by decide +kernel
theorem dX10_cast_74 : decode cX10_cast 74 = .ok (.goto (-17), 3) := by decide +kernel
theorem dX10_cast_77 : decode cX10_cast 77 = .ok (.aload_n 0, 1) := by decide +kernel
theorem dX10_cast_78 : decode cX10_cast 78 = .ok (.getfield 28, 3) := by decide +kernel
theorem dX10_cast_81 : decode cX10_cast 81 = .ok (.invokevirtual 122, 3) := by decide +kernel
theorem dX10_cast_84 : decode cX10_cast 84 = .ok (.ireturn, 1) := by decide +kernel
theorem dX10_workNow_0 : decode cX10_workNow 0 = .ok (.aload_n 0, 1) := by decide +kernel
theorem dX10_workNow_1 : decode cX10_workNow 1 = .ok (.iload_n 1, 1) := by decide +kernel
theorem dX10_workNow_2 : decode cX10_workNow 2 = .ok (.ifCond .eq 7, 3) := by decide +kernel
theorem dX10_workNow_5 : decode cX10_workNow 5 = .ok (.iconst 2, 1) := by decide +kernel
theorem dX10_workNow_6 : decode cX10_workNow 6 = .ok (.goto 4, 3) := by decide +kernel
theorem dX10_workNow_9 : decode cX10_workNow 9 = .ok (.iconst 1, 1) := by decide +kernel
theorem dX10_workNow_10 : decode cX10_workNow 10 = .ok (.aload_n 0, 1) := by decide +kernel
theorem dX10_workNow_11 : decode cX10_workNow 11 = .ok (.getfield 10, 3) := by decide +kernel
theorem dX10_workNow_14 : decode cX10_workNow 14 = .ok (.aload_n 0, 1) := by decide +kernel
theorem dX10_workNow_15 : decode cX10_workNow 15 = .ok (.getfield 28, 3) := by decide +kernel
theorem dX10_workNow_18 : decode cX10_workNow 18 = .ok (.getfield 132, 3) := by decide +kernel
theorem dX10_workNow_21 : decode cX10_workNow 21 = .ok (.invokestatic 135, 3) := by decide +kernel
theorem dX10_workNow_24 : decode cX10_workNow 24 = .ok (.invokevirtual 139, 3) := by decide +kernel
theorem dX10_workNow_27 : decode cX10_workNow 27 = .ok (.checkcast 64, 3) := by decide +kernel
theorem dX10_workNow_30 : decode cX10_workNow 30 = .ok (.getfield 142, 3) := by decide +kernel
theorem dX10_workNow_33 : decode cX10_workNow 33 = .ok (.iconst 1, 1) := by decide +kernel
theorem dX10_workNow_34 : decode cX10_workNow 34 = .ok (.iadd, 1) := by decide +kernel
theorem dX10_workNow_35 : decode cX10_workNow 35 = .ok (.iconst 1, 1) := by decide +kernel
theorem dX10_workNow_36 : decode cX10_workNow 36 = .ok (.iconst 4, 1) := by decide +kernel
theorem dX10_workNow_37 : decode cX10_workNow 37 = .ok (.invokevirtual 128, 3) := by decide +kernel
theorem dX10_workNow_40 : decode cX10_workNow 40 = .ok (.ireturn, 1) := by decide +kernel
theorem dX10_work_0 : decode cX10_work 0 = .ok (.aload_n 0, 1) := by decide +kernel
theorem dX10_work_1 : decode cX10_work 1 = .ok (.iconst 0, 1) := by decide +kernel
theorem dX10_work_2 : decode cX10_work 2 = .ok (.putfield 36, 3) := by decide +kernel
theorem dX10_work_5 : decode cX10_work 5 = .ok (.aload_n 0, 1) := by decide +kernel
theorem dX10_work_6 : decode cX10_work 6 = .ok (.getfield 28, 3) := by decide +kernel
theorem dX10_work_9 : decode cX10_work 9 = .ok (.getfield 132, 3) := by decide +kernel
theorem dX10_work_12 : decode cX10_work 12 = .ok (.invokevirtual 145, 3) := by decide +kernel
theorem dX10_work_15 : decode cX10_work 15 = .ok (.ifCond .ne 11, 3) := by decide +kernel
theorem dX10_work_18 : decode cX10_work 18 = .ok (.aload_n 0, 1) := by decide +kernel
theorem dX10_work_19 : decode cX10_work 19 = .ok (.invokevirtual 120, 3) := by decide +kernel
theorem dX10_work_22 : decode cX10_work 22 = .ok (.iconst 4, 1) := by decide +kernel
theorem dX10_work_23 : decode cX10_work 23 = .ok (.if_icmp .ge 9, 3) := by decide +kernel
theorem dX10_work_26 : decode cX10_work 26 = .ok (.aload_n 0, 1) := by decide +kernel
theorem dX10_work_27 : decode cX10_work 27 = .ok (.iconst 1, 1) := by decide +kernel
theorem dX10_work_28 : decode cX10_work 28 = .ok (.invokevirtual 113, 3) := by decide +kernel
theorem dX10_work_31 : decode cX10_work 31 = .ok (.ireturn, 1) := by decide +kernel
theorem dX10_work_32 : decode cX10_work 32 = .ok (.aload_n 0, 1) := by decide +kernel
theorem dX10_work_33 : decode cX10_work 33 = .ok (.invokevirtual 125, 3) := by decide +kernel
theorem dX10_work_36 : decode cX10_work 36 = .ok (.aload_n 0, 1) := by decide +kernel
theorem dX10_work_37 : decode cX10_work 37 = .ok (.iload_n 1, 1) := by decide +kernel
theorem dX10_work_38 : decode cX10_work 38 = .ok (.invokevirtual 148, 3) := by decide +kernel
theorem dX10_work_41 : decode cX10_work 41 = .ok (.ireturn, 1) := by decide +kernel
theorem dX10_overNow_0 : decode cX10_overNow 0 = .ok (.aload_n 0, 1) := by decide +kernel
theorem dX10_overNow_1 : decode cX10_overNow 1 = .ok (.getfield 28, 3) := by decide +kernel
theorem dX10_overNow_4 : decode cX10_overNow 4 = .ok (.dup, 1) := by decide +kernel
theorem dX10_overNow_5 : decode cX10_overNow 5 = .ok (.getfield 152, 3) := by decide +kernel
theorem dX10_overNow_8 : decode cX10_overNow 8 = .ok (.iconst 1, 1) := by decide +kernel
theorem dX10_overNow_9 : decode cX10_overNow 9 = .ok (.iadd, 1) := by decide +kernel
theorem dX10_overNow_10 : decode cX10_overNow 10 = .ok (.putfield 152, 3) := by decide +kernel
theorem dX10_overNow_13 : decode cX10_overNow 13 = .ok (.aload_n 0, 1) := by decide +kernel
theorem dX10_overNow_14 : decode cX10_overNow 14 = .ok (.iconst 3, 1) := by decide +kernel
theorem dX10_overNow_15 : decode cX10_overNow 15 = .ok (.iconst 1, 1) := by decide +kernel
theorem dX10_overNow_16 : decode cX10_overNow 16 = .ok (.iconst 0, 1) := by decide +kernel
theorem dX10_overNow_17 : decode cX10_overNow 17 = .ok (.iconst 3, 1) := by decide +kernel
theorem dX10_overNow_18 : decode cX10_overNow 18 = .ok (.invokevirtual 128, 3) := by decide +kernel
theorem dX10_overNow_21 : decode cX10_overNow 21 = .ok (.ireturn, 1) := by decide +kernel
theorem dX10_over_0 : decode cX10_over 0 = .ok (.aload_n 0, 1) := by decide +kernel
theorem dX10_over_1 : decode cX10_over 1 = .ok (.iconst 0, 1) := by decide +kernel
theorem dX10_over_2 : decode cX10_over 2 = .ok (.putfield 36, 3) := by decide +kernel
theorem dX10_over_5 : decode cX10_over 5 = .ok (.aload_n 0, 1) := by decide +kernel
theorem dX10_over_6 : decode cX10_over 6 = .ok (.getfield 28, 3) := by decide +kernel
theorem dX10_over_9 : decode cX10_over 9 = .ok (.invokevirtual 122, 3) := by decide +kernel
theorem dX10_over_12 : decode cX10_over 12 = .ok (.bipush 24, 2) := by decide +kernel
theorem dX10_over_14 : decode cX10_over 14 = .ok (.if_icmp .eq 11, 3) := by decide +kernel
theorem dX10_over_17 : decode cX10_over 17 = .ok (.aload_n 0, 1) := by decide +kernel
theorem dX10_over_18 : decode cX10_over 18 = .ok (.invokevirtual 120, 3) := by decide +kernel
theorem dX10_over_21 : decode cX10_over 21 = .ok (.iconst 3, 1) := by decide +kernel
theorem dX10_over_22 : decode cX10_over 22 = .ok (.if_icmp .ge 9, 3) := by decide +kernel
theorem dX10_over_25 : decode cX10_over 25 = .ok (.aload_n 0, 1) := by decide +kernel
theorem dX10_over_26 : decode cX10_over 26 = .ok (.iconst 1, 1) := by decide +kernel
theorem dX10_over_27 : decode cX10_over 27 = .ok (.invokevirtual 113, 3) := by decide +kernel
theorem dX10_over_30 : decode cX10_over 30 = .ok (.ireturn, 1) := by decide +kernel
theorem dX10_over_31 : decode cX10_over 31 = .ok (.aload_n 0, 1) := by decide +kernel
theorem dX10_over_32 : decode cX10_over 32 = .ok (.invokevirtual 125, 3) := by decide +kernel
theorem dX10_over_35 : decode cX10_over 35 = .ok (.aload_n 0, 1) := by decide +kernel
theorem dX10_over_36 : decode cX10_over 36 = .ok (.invokevirtual 155, 3) := by decide +kernel
theorem dX10_over_39 : decode cX10_over 39 = .ok (.ireturn, 1) := by decide +kernel
theorem dX10_togetherNow_0 : decode cX10_togetherNow 0 = .ok (.iconst 0, 1) := by decide +kernel
theorem dX10_togetherNow_1 : decode cX10_togetherNow 1 = .ok (.istore_n 3, 1) := by decide +kernel
theorem dX10_togetherNow_2 : decode cX10_togetherNow 2 = .ok (.iload_n 3, 1) := by decide +kernel
theorem dX10_togetherNow_3 : decode cX10_togetherNow 3 = .ok (.iload_n 1, 1) := by decide +kernel
theorem dX10_togetherNow_4 : decode cX10_togetherNow 4 = .ok (.if_icmp .ge 20, 3) := by decide +kernel
theorem dX10_togetherNow_7 : decode cX10_togetherNow 7 = .ok (.aload_n 0, 1) := by decide +kernel
theorem dX10_togetherNow_8 : decode cX10_togetherNow 8 = .ok (.getfield 28, 3) := by decide +kernel
theorem dX10_togetherNow_11 : decode cX10_togetherNow 11 = .ok (.getfield 132, 3) := by decide +kernel
theorem dX10_togetherNow_14 : decode cX10_togetherNow 14 = .ok (.invokestatic 135, 3) := by decide +kernel
theorem dX10_togetherNow_17 : decode cX10_togetherNow 17 = .ok (.pop, 1) := by decide +kernel
theorem dX10_togetherNow_18 : decode cX10_togetherNow 18 = .ok (.iinc 3 1, 3) := by decide +kernel
theorem dX10_togetherNow_21 : decode cX10_togetherNow 21 = .ok (.goto (-19), 3) := by decide +kernel
theorem dX10_togetherNow_24 : decode cX10_togetherNow 24 = .ok (.aload_n 0, 1) := by decide +kernel
theorem dX10_togetherNow_25 : decode cX10_togetherNow 25 = .ok (.iload_n 2, 1) := by decide +kernel
theorem dX10_togetherNow_26 : decode cX10_togetherNow 26 = .ok (.ifCond .eq 7, 3) := by decide +kernel
theorem dX10_togetherNow_29 : decode cX10_togetherNow 29 = .ok (.iconst 5, 1) := by decide +kernel
theorem dX10_togetherNow_30 : decode cX10_togetherNow 30 = .ok (.goto 4, 3) := by decide +kernel
theorem dX10_togetherNow_33 : decode cX10_togetherNow 33 = .ok (.iconst 4, 1) := by decide +kernel
theorem dX10_togetherNow_34 : decode cX10_togetherNow 34 = .ok (.iconst 1, 1) := by decide +kernel
theorem dX10_togetherNow_35 : decode cX10_togetherNow 35 = .ok (.iload_n 1, 1) := by decide +kernel
theorem dX10_togetherNow_36 : decode cX10_togetherNow 36 = .ok (.iconst 5, 1) := by decide +kernel
theorem dX10_togetherNow_37 : decode cX10_togetherNow 37 = .ok (.invokevirtual 128, 3) := by decide +kernel
theorem dX10_togetherNow_40 : decode cX10_togetherNow 40 = .ok (.ireturn, 1) := by decide +kernel
theorem dX10_together_0 : decode cX10_together 0 = .ok (.aload_n 0, 1) := by decide +kernel
theorem dX10_together_1 : decode cX10_together 1 = .ok (.iconst 0, 1) := by decide +kernel
theorem dX10_together_2 : decode cX10_together 2 = .ok (.putfield 36, 3) := by decide +kernel
theorem dX10_together_5 : decode cX10_together 5 = .ok (.iload_n 1, 1) := by decide +kernel
theorem dX10_together_6 : decode cX10_together 6 = .ok (.iconst 2, 1) := by decide +kernel
theorem dX10_together_7 : decode cX10_together 7 = .ok (.iconst 3, 1) := by decide +kernel
theorem dX10_together_8 : decode cX10_together 8 = .ok (.invokestatic 109, 3) := by decide +kernel
theorem dX10_together_11 : decode cX10_together 11 = .ok (.ifCond .ne 9, 3) := by decide +kernel
theorem dX10_together_14 : decode cX10_together 14 = .ok (.aload_n 0, 1) := by decide +kernel
theorem dX10_together_15 : decode cX10_together 15 = .ok (.iconst 1, 1) := by decide +kernel
theorem dX10_together_16 : decode cX10_together 16 = .ok (.invokevirtual 113, 3) := by decide +kernel
theorem dX10_together_19 : decode cX10_together 19 = .ok (.ireturn, 1) := by decide +kernel
theorem dX10_together_20 : decode cX10_together 20 = .ok (.aload_n 0, 1) := by decide +kernel
theorem dX10_together_21 : decode cX10_together 21 = .ok (.getfield 28, 3) := by decide +kernel
theorem dX10_together_24 : decode cX10_together 24 = .ok (.getfield 132, 3) := by decide +kernel
theorem dX10_together_27 : decode cX10_together 27 = .ok (.invokevirtual 39, 3) := by decide +kernel
theorem dX10_together_30 : decode cX10_together 30 = .ok (.iload_n 1, 1) := by decide +kernel
theorem dX10_together_31 : decode cX10_together 31 = .ok (.if_icmp .lt 11, 3) := by decide +kernel
theorem dX10_together_34 : decode cX10_together 34 = .ok (.aload_n 0, 1) := by decide +kernel
theorem dX10_together_35 : decode cX10_together 35 = .ok (.invokevirtual 120, 3) := by decide +kernel
theorem dX10_together_38 : decode cX10_together 38 = .ok (.iconst 5, 1) := by decide +kernel
theorem dX10_together_39 : decode cX10_together 39 = .ok (.if_icmp .ge 9, 3) := by decide +kernel
theorem dX10_together_42 : decode cX10_together 42 = .ok (.aload_n 0, 1) := by decide +kernel
theorem dX10_together_43 : decode cX10_together 43 = .ok (.iconst 2, 1) := by decide +kernel
theorem dX10_together_44 : decode cX10_together 44 = .ok (.invokevirtual 113, 3) := by decide +kernel
theorem dX10_together_47 : decode cX10_together 47 = .ok (.ireturn, 1) := by decide +kernel
theorem dX10_together_48 : decode cX10_together 48 = .ok (.aload_n 0, 1) := by decide +kernel
theorem dX10_together_49 : decode cX10_together 49 = .ok (.invokevirtual 125, 3) := by decide +kernel
theorem dX10_together_52 : decode cX10_together 52 = .ok (.aload_n 0, 1) := by decide +kernel
theorem dX10_together_53 : decode cX10_together 53 = .ok (.iload_n 1, 1) := by decide +kernel
theorem dX10_together_54 : decode cX10_together 54 = .ok (.iload_n 2, 1) := by decide +kernel
theorem dX10_together_55 : decode cX10_together 55 = .ok (.invokevirtual 158, 3) := by decide +kernel
theorem dX10_together_58 : decode cX10_together 58 = .ok (.ireturn, 1) := by decide +kernel
theorem dX10_slipNow_0 : decode cX10_slipNow 0 = .ok (.aload_n 0, 1) := by decide +kernel
theorem dX10_slipNow_1 : decode cX10_slipNow 1 = .ok (.getfield 28, 3) := by decide +kernel
theorem dX10_slipNow_4 : decode cX10_slipNow 4 = .ok (.getfield 132, 3) := by decide +kernel
theorem dX10_slipNow_7 : decode cX10_slipNow 7 = .ok (.invokestatic 135, 3) := by decide +kernel
theorem dX10_slipNow_10 : decode cX10_slipNow 10 = .ok (.istore_n 1, 1) := by decide +kernel
theorem dX10_slipNow_11 : decode cX10_slipNow 11 = .ok (.aload_n 0, 1) := by decide +kernel
theorem dX10_slipNow_12 : decode cX10_slipNow 12 = .ok (.getfield 28, 3) := by decide +kernel
theorem dX10_slipNow_15 : decode cX10_slipNow 15 = .ok (.getfield 75, 3) := by decide +kernel
theorem dX10_slipNow_18 : decode cX10_slipNow 18 = .ok (.iload_n 1, 1) := by decide +kernel
theorem dX10_slipNow_19 : decode cX10_slipNow 19 = .ok (.invokestatic 81, 3) := by decide +kernel
theorem dX10_slipNow_22 : decode cX10_slipNow 22 = .ok (.invokevirtual 60, 3) := by decide +kernel
theorem dX10_slipNow_25 : decode cX10_slipNow 25 = .ok (.pop, 1) := by decide +kernel
theorem dX10_slipNow_26 : decode cX10_slipNow 26 = .ok (.iload_n 1, 1) := by decide +kernel
theorem dX10_slipNow_27 : decode cX10_slipNow 27 = .ok (.ireturn, 1) := by decide +kernel
theorem dX10_slip_0 : decode cX10_slip 0 = .ok (.aload_n 0, 1) := by decide +kernel
theorem dX10_slip_1 : decode cX10_slip 1 = .ok (.iconst 0, 1) := by decide +kernel
theorem dX10_slip_2 : decode cX10_slip 2 = .ok (.putfield 36, 3) := by decide +kernel
theorem dX10_slip_5 : decode cX10_slip 5 = .ok (.aload_n 0, 1) := by decide +kernel
theorem dX10_slip_6 : decode cX10_slip 6 = .ok (.getfield 28, 3) := by decide +kernel
theorem dX10_slip_9 : decode cX10_slip 9 = .ok (.getfield 132, 3) := by decide +kernel
theorem dX10_slip_12 : decode cX10_slip 12 = .ok (.invokevirtual 145, 3) := by decide +kernel
theorem dX10_slip_15 : decode cX10_slip 15 = .ok (.ifCond .eq 9, 3) := by decide +kernel
theorem dX10_slip_18 : decode cX10_slip 18 = .ok (.aload_n 0, 1) := by decide +kernel
theorem dX10_slip_19 : decode cX10_slip 19 = .ok (.iconst 1, 1) := by decide +kernel
theorem dX10_slip_20 : decode cX10_slip 20 = .ok (.invokevirtual 113, 3) := by decide +kernel
theorem dX10_slip_23 : decode cX10_slip 23 = .ok (.ireturn, 1) := by decide +kernel
theorem dX10_slip_24 : decode cX10_slip 24 = .ok (.aload_n 0, 1) := by decide +kernel
theorem dX10_slip_25 : decode cX10_slip 25 = .ok (.invokevirtual 125, 3) := by decide +kernel
theorem dX10_slip_28 : decode cX10_slip 28 = .ok (.aload_n 0, 1) := by decide +kernel
theorem dX10_slip_29 : decode cX10_slip 29 = .ok (.invokevirtual 162, 3) := by decide +kernel
theorem dX10_slip_32 : decode cX10_slip 32 = .ok (.ireturn, 1) := by decide +kernel
theorem dX10_crossNow_0 : decode cX10_crossNow 0 = .ok (.new 7, 3) := by decide +kernel
theorem dX10_crossNow_3 : decode cX10_crossNow 3 = .ok (.dup, 1) := by decide +kernel
theorem dX10_crossNow_4 : decode cX10_crossNow 4 = .ok (.invokespecial 9, 3) := by decide +kernel
theorem dX10_crossNow_7 : decode cX10_crossNow 7 = .ok (.astore_n 3, 1) := by decide +kernel
theorem dX10_crossNow_8 : decode cX10_crossNow 8 = .ok (.new 7, 3) := by decide +kernel
theorem dX10_crossNow_11 : decode cX10_crossNow 11 = .ok (.dup, 1) := by decide +kernel
theorem dX10_crossNow_12 : decode cX10_crossNow 12 = .ok (.invokespecial 9, 3) := by decide +kernel
theorem dX10_crossNow_15 : decode cX10_crossNow 15 = .ok (.astore 4, 2) := by decide +kernel
theorem dX10_crossNow_17 : decode cX10_crossNow 17 = .ok (.iconst 0, 1) := by decide +kernel
theorem dX10_crossNow_18 : decode cX10_crossNow 18 = .ok (.istore 5, 2) := by decide +kernel
theorem dX10_crossNow_20 : decode cX10_crossNow 20 = .ok (.iload 5, 2) := by decide +kernel
theorem dX10_crossNow_22 : decode cX10_crossNow 22 = .ok (.iload_n 1, 1) := by decide +kernel
theorem dX10_crossNow_23 : decode cX10_crossNow 23 = .ok (.if_icmp .ge 27, 3) := by decide +kernel
theorem dX10_crossNow_26 : decode cX10_crossNow 26 = .ok (.aload_n 3, 1) := by decide +kernel
theorem dX10_crossNow_27 : decode cX10_crossNow 27 = .ok (.iconst 0, 1) := by decide +kernel
theorem dX10_crossNow_28 : decode cX10_crossNow 28 = .ok (.aload_n 0, 1) := by decide +kernel
theorem dX10_crossNow_29 : decode cX10_crossNow 29 = .ok (.getfield 28, 3) := by decide +kernel
theorem dX10_crossNow_32 : decode cX10_crossNow 32 = .ok (.getfield 132, 3) := by decide +kernel
theorem dX10_crossNow_35 : decode cX10_crossNow 35 = .ok (.invokestatic 135, 3) := by decide +kernel
theorem dX10_crossNow_38 : decode cX10_crossNow 38 = .ok (.invokestatic 81, 3) := by decide +kernel
theorem dX10_crossNow_41 : decode cX10_crossNow 41 = .ok (.invokevirtual 165, 3) := by decide +kernel
theorem dX10_crossNow_44 : decode cX10_crossNow 44 = .ok (.iinc 5 1, 3) := by decide +kernel
theorem dX10_crossNow_47 : decode cX10_crossNow 47 = .ok (.goto (-27), 3) := by decide +kernel
theorem dX10_crossNow_50 : decode cX10_crossNow 50 = .ok (.iconst 0, 1) := by decide +kernel
theorem dX10_crossNow_51 : decode cX10_crossNow 51 = .ok (.istore 5, 2) := by decide +kernel
theorem dX10_crossNow_53 : decode cX10_crossNow 53 = .ok (.iload 5, 2) := by decide +kernel
theorem dX10_crossNow_55 : decode cX10_crossNow 55 = .ok (.iload_n 2, 1) := by decide +kernel
theorem dX10_crossNow_56 : decode cX10_crossNow 56 = .ok (.if_icmp .ge 28, 3) := by decide +kernel
theorem dX10_crossNow_59 : decode cX10_crossNow 59 = .ok (.aload 4, 2) := by decide +kernel
theorem dX10_crossNow_61 : decode cX10_crossNow 61 = .ok (.iconst 0, 1) := by decide +kernel
theorem dX10_crossNow_62 : decode cX10_crossNow 62 = .ok (.aload_n 0, 1) := by decide +kernel
theorem dX10_crossNow_63 : decode cX10_crossNow 63 = .ok (.getfield 28, 3) := by decide +kernel
theorem dX10_crossNow_66 : decode cX10_crossNow 66 = .ok (.getfield 132, 3) := by decide +kernel
theorem dX10_crossNow_69 : decode cX10_crossNow 69 = .ok (.invokestatic 135, 3) := by decide +kernel
theorem dX10_crossNow_72 : decode cX10_crossNow 72 = .ok (.invokestatic 81, 3) := by decide +kernel
theorem dX10_crossNow_75 : decode cX10_crossNow 75 = .ok (.invokevirtual 165, 3) := by decide +kernel
theorem dX10_crossNow_78 : decode cX10_crossNow 78 = .ok (.iinc 5 1, 3) := by decide +kernel
theorem dX10_crossNow_81 : decode cX10_crossNow 81 = .ok (.goto (-28), 3) := by decide +kernel
theorem dX10_crossNow_84 : decode cX10_crossNow 84 = .ok (.aload_n 0, 1) := by decide +kernel
theorem dX10_crossNow_85 : decode cX10_crossNow 85 = .ok (.getfield 28, 3) := by decide +kernel
theorem dX10_crossNow_88 : decode cX10_crossNow 88 = .ok (.getfield 132, 3) := by decide +kernel
theorem dX10_crossNow_91 : decode cX10_crossNow 91 = .ok (.aload_n 3, 1) := by decide +kernel
theorem dX10_crossNow_92 : decode cX10_crossNow 92 = .ok (.invokevirtual 168, 3) := by decide +kernel
theorem dX10_crossNow_95 : decode cX10_crossNow 95 = .ok (.pop, 1) := by decide +kernel
theorem dX10_crossNow_96 : decode cX10_crossNow 96 = .ok (.aload_n 0, 1) := by decide +kernel
theorem dX10_crossNow_97 : decode cX10_crossNow 97 = .ok (.getfield 28, 3) := by decide +kernel
theorem dX10_crossNow_100 : decode cX10_crossNow 100 = .ok (.getfield 132, 3) := by decide +kernel
theorem dX10_crossNow_103 : decode cX10_crossNow 103 = .ok (.aload 4, 2) := by decide +kernel
theorem dX10_crossNow_105 : decode cX10_crossNow 105 = .ok (.invokevirtual 168, 3) := by decide +kernel
theorem dX10_crossNow_108 : decode cX10_crossNow 108 = .ok (.pop, 1) := by decide +kernel
theorem dX10_crossNow_109 : decode cX10_crossNow 109 = .ok (.aload_n 0, 1) := by decide +kernel
theorem dX10_crossNow_110 : decode cX10_crossNow 110 = .ok (.getfield 28, 3) := by decide +kernel
theorem dX10_crossNow_113 : decode cX10_crossNow 113 = .ok (.dup, 1) := by decide +kernel
theorem dX10_crossNow_114 : decode cX10_crossNow 114 = .ok (.getfield 172, 3) := by decide +kernel
theorem dX10_crossNow_117 : decode cX10_crossNow 117 = .ok (.iconst 1, 1) := by decide +kernel
theorem dX10_crossNow_118 : decode cX10_crossNow 118 = .ok (.iadd, 1) := by decide +kernel
theorem dX10_crossNow_119 : decode cX10_crossNow 119 = .ok (.putfield 172, 3) := by decide +kernel
theorem dX10_crossNow_122 : decode cX10_crossNow 122 = .ok (.aload_n 0, 1) := by decide +kernel
theorem dX10_crossNow_123 : decode cX10_crossNow 123 = .ok (.getfield 28, 3) := by decide +kernel
theorem dX10_crossNow_126 : decode cX10_crossNow 126 = .ok (.getfield 132, 3) := by decide +kernel
theorem dX10_crossNow_129 : decode cX10_crossNow 129 = .ok (.aload_n 0, 1) := by decide +kernel
theorem dX10_crossNow_130 : decode cX10_crossNow 130 = .ok (.getfield 28, 3) := by decide +kernel
theorem dX10_crossNow_133 : decode cX10_crossNow 133 = .ok (.getfield 132, 3) := by decide +kernel
theorem dX10_crossNow_136 : decode cX10_crossNow 136 = .ok (.invokevirtual 39, 3) := by decide +kernel
theorem dX10_crossNow_139 : decode cX10_crossNow 139 = .ok (.iconst 1, 1) := by decide +kernel
theorem dX10_crossNow_140 : decode cX10_crossNow 140 = .ok (.isub, 1) := by decide +kernel
theorem dX10_crossNow_141 : decode cX10_crossNow 141 = .ok (.invokevirtual 139, 3) := by decide +kernel
theorem dX10_crossNow_144 : decode cX10_crossNow 144 = .ok (.checkcast 47, 3) := by decide +kernel
theorem dX10_crossNow_147 : decode cX10_crossNow 147 = .ok (.invokevirtual 49, 3) := by decide +kernel
theorem dX10_crossNow_150 : decode cX10_crossNow 150 = .ok (.ireturn, 1) := by decide +kernel
theorem dX10_cross_0 : decode cX10_cross 0 = .ok (.aload_n 0, 1) := by decide +kernel
theorem dX10_cross_1 : decode cX10_cross 1 = .ok (.iconst 0, 1) := by decide +kernel
theorem dX10_cross_2 : decode cX10_cross 2 = .ok (.putfield 36, 3) := by decide +kernel
theorem dX10_cross_5 : decode cX10_cross 5 = .ok (.iload_n 1, 1) := by decide +kernel
theorem dX10_cross_6 : decode cX10_cross 6 = .ok (.iconst 1, 1) := by decide +kernel
theorem dX10_cross_7 : decode cX10_cross 7 = .ok (.iconst 3, 1) := by decide +kernel
theorem dX10_cross_8 : decode cX10_cross 8 = .ok (.invokestatic 109, 3) := by decide +kernel
theorem dX10_cross_11 : decode cX10_cross 11 = .ok (.ifCond .eq 12, 3) := by decide +kernel
theorem dX10_cross_14 : decode cX10_cross 14 = .ok (.iload_n 2, 1) := by decide +kernel
theorem dX10_cross_15 : decode cX10_cross 15 = .ok (.iconst 1, 1) := by decide +kernel
theorem dX10_cross_16 : decode cX10_cross 16 = .ok (.iconst 3, 1) := by decide +kernel
theorem dX10_cross_17 : decode cX10_cross 17 = .ok (.invokestatic 109, 3) := by decide +kernel
theorem dX10_cross_20 : decode cX10_cross 20 = .ok (.ifCond .ne 9, 3) := by decide +kernel
theorem dX10_cross_23 : decode cX10_cross 23 = .ok (.aload_n 0, 1) := by decide +kernel
theorem dX10_cross_24 : decode cX10_cross 24 = .ok (.iconst 1, 1) := by decide +kernel
theorem dX10_cross_25 : decode cX10_cross 25 = .ok (.invokevirtual 113, 3) := by decide +kernel
theorem dX10_cross_28 : decode cX10_cross 28 = .ok (.ireturn, 1) := by decide +kernel
theorem dX10_cross_29 : decode cX10_cross 29 = .ok (.aload_n 0, 1) := by decide +kernel
theorem dX10_cross_30 : decode cX10_cross 30 = .ok (.getfield 28, 3) := by decide +kernel
theorem dX10_cross_33 : decode cX10_cross 33 = .ok (.getfield 132, 3) := by decide +kernel
theorem dX10_cross_36 : decode cX10_cross 36 = .ok (.invokevirtual 39, 3) := by decide +kernel
theorem dX10_cross_39 : decode cX10_cross 39 = .ok (.iload_n 1, 1) := by decide +kernel
theorem dX10_cross_40 : decode cX10_cross 40 = .ok (.iload_n 2, 1) := by decide +kernel
theorem dX10_cross_41 : decode cX10_cross 41 = .ok (.iadd, 1) := by decide +kernel
theorem dX10_cross_42 : decode cX10_cross 42 = .ok (.if_icmp .ge 9, 3) := by decide +kernel
theorem dX10_cross_45 : decode cX10_cross 45 = .ok (.aload_n 0, 1) := by decide +kernel
theorem dX10_cross_46 : decode cX10_cross 46 = .ok (.iconst 2, 1) := by decide +kernel
theorem dX10_cross_47 : decode cX10_cross 47 = .ok (.invokevirtual 113, 3) := by decide +kernel
theorem dX10_cross_50 : decode cX10_cross 50 = .ok (.ireturn, 1) := by decide +kernel
theorem dX10_cross_51 : decode cX10_cross 51 = .ok (.aload_n 0, 1) := by decide +kernel
theorem dX10_cross_52 : decode cX10_cross 52 = .ok (.invokevirtual 125, 3) := by decide +kernel
theorem dX10_cross_55 : decode cX10_cross 55 = .ok (.aload_n 0, 1) := by decide +kernel
theorem dX10_cross_56 : decode cX10_cross 56 = .ok (.iload_n 1, 1) := by decide +kernel
theorem dX10_cross_57 : decode cX10_cross 57 = .ok (.iload_n 2, 1) := by decide +kernel
theorem dX10_cross_58 : decode cX10_cross 58 = .ok (.invokevirtual 175, 3) := by decide +kernel
theorem dX10_cross_61 : decode cX10_cross 61 = .ok (.ireturn, 1) := by decide +kernel
theorem dX10_turn_0 : decode cX10_turn 0 = .ok (.aload_n 0, 1) := by decide +kernel
theorem dX10_turn_1 : decode cX10_turn 1 = .ok (.iconst 0, 1) := by decide +kernel
theorem dX10_turn_2 : decode cX10_turn 2 = .ok (.putfield 36, 3) := by decide +kernel
theorem dX10_turn_5 : decode cX10_turn 5 = .ok (.aload_n 0, 1) := by decide +kernel
theorem dX10_turn_6 : decode cX10_turn 6 = .ok (.getfield 28, 3) := by decide +kernel
theorem dX10_turn_9 : decode cX10_turn 9 = .ok (.invokevirtual 122, 3) := by decide +kernel
theorem dX10_turn_12 : decode cX10_turn 12 = .ok (.ifCond .ne 9, 3) := by decide +kernel
theorem dX10_turn_15 : decode cX10_turn 15 = .ok (.aload_n 0, 1) := by decide +kernel
theorem dX10_turn_16 : decode cX10_turn 16 = .ok (.iconst 1, 1) := by decide +kernel
theorem dX10_turn_17 : decode cX10_turn 17 = .ok (.invokevirtual 113, 3) := by decide +kernel
theorem dX10_turn_20 : decode cX10_turn 20 = .ok (.ireturn, 1) := by decide +kernel
theorem dX10_turn_21 : decode cX10_turn 21 = .ok (.aload_n 0, 1) := by decide +kernel
theorem dX10_turn_22 : decode cX10_turn 22 = .ok (.invokevirtual 125, 3) := by decide +kernel
theorem dX10_turn_25 : decode cX10_turn 25 = .ok (.aload_n 0, 1) := by decide +kernel
theorem dX10_turn_26 : decode cX10_turn 26 = .ok (.getfield 28, 3) := by decide +kernel
theorem dX10_turn_29 : decode cX10_turn 29 = .ok (.dup, 1) := by decide +kernel
theorem dX10_turn_30 : decode cX10_turn 30 = .ok (.getfield 178, 3) := by decide +kernel
theorem dX10_turn_33 : decode cX10_turn 33 = .ok (.aload_n 0, 1) := by decide +kernel
theorem dX10_turn_34 : decode cX10_turn 34 = .ok (.getfield 28, 3) := by decide +kernel
theorem dX10_turn_37 : decode cX10_turn 37 = .ok (.getfield 132, 3) := by decide +kernel
theorem dX10_turn_40 : decode cX10_turn 40 = .ok (.invokevirtual 145, 3) := by decide +kernel
theorem dX10_turn_43 : decode cX10_turn 43 = .ok (.ifCond .eq 7, 3) := by decide +kernel
theorem dX10_turn_46 : decode cX10_turn 46 = .ok (.iconst 0, 1) := by decide +kernel
theorem dX10_turn_47 : decode cX10_turn 47 = .ok (.goto 4, 3) := by decide +kernel
theorem dX10_turn_50 : decode cX10_turn 50 = .ok (.iconst 1, 1) := by decide +kernel
theorem dX10_turn_51 : decode cX10_turn 51 = .ok (.iadd, 1) := by decide +kernel
theorem dX10_turn_52 : decode cX10_turn 52 = .ok (.putfield 178, 3) := by decide +kernel
theorem dX10_turn_55 : decode cX10_turn 55 = .ok (.aload_n 0, 1) := by decide +kernel
theorem dX10_turn_56 : decode cX10_turn 56 = .ok (.getfield 28, 3) := by decide +kernel
theorem dX10_turn_59 : decode cX10_turn 59 = .ok (.getfield 132, 3) := by decide +kernel
theorem dX10_turn_62 : decode cX10_turn 62 = .ok (.astore_n 1, 1) := by decide +kernel
theorem dX10_turn_63 : decode cX10_turn 63 = .ok (.aload_n 0, 1) := by decide +kernel
theorem dX10_turn_64 : decode cX10_turn 64 = .ok (.getfield 28, 3) := by decide +kernel
theorem dX10_turn_67 : decode cX10_turn 67 = .ok (.aload_n 0, 1) := by decide +kernel
theorem dX10_turn_68 : decode cX10_turn 68 = .ok (.getfield 28, 3) := by decide +kernel
theorem dX10_turn_71 : decode cX10_turn 71 = .ok (.getfield 75, 3) := by decide +kernel
theorem dX10_turn_74 : decode cX10_turn 74 = .ok (.putfield 132, 3) := by decide +kernel
theorem dX10_turn_77 : decode cX10_turn 77 = .ok (.aload_n 0, 1) := by decide +kernel
theorem dX10_turn_78 : decode cX10_turn 78 = .ok (.getfield 28, 3) := by decide +kernel
theorem dX10_turn_81 : decode cX10_turn 81 = .ok (.aload_n 1, 1) := by decide +kernel
theorem dX10_turn_82 : decode cX10_turn 82 = .ok (.putfield 75, 3) := by decide +kernel
theorem dX10_turn_85 : decode cX10_turn 85 = .ok (.aload_n 0, 1) := by decide +kernel
theorem dX10_turn_86 : decode cX10_turn 86 = .ok (.getfield 28, 3) := by decide +kernel
theorem dX10_turn_89 : decode cX10_turn 89 = .ok (.iconst 1, 1) := by decide +kernel
theorem dX10_turn_90 : decode cX10_turn 90 = .ok (.aload_n 0, 1) := by decide +kernel
theorem dX10_turn_91 : decode cX10_turn 91 = .ok (.getfield 28, 3) := by decide +kernel
theorem dX10_turn_94 : decode cX10_turn 94 = .ok (.getfield 69, 3) := by decide +kernel
theorem dX10_turn_97 : decode cX10_turn 97 = .ok (.isub, 1) := by decide +kernel
theorem dX10_turn_98 : decode cX10_turn 98 = .ok (.putfield 69, 3) := by decide +kernel
theorem dX10_turn_101 : decode cX10_turn 101 = .ok (.aload_n 0, 1) := by decide +kernel
theorem dX10_turn_102 : decode cX10_turn 102 = .ok (.getfield 28, 3) := by decide +kernel
theorem dX10_turn_105 : decode cX10_turn 105 = .ok (.dup, 1) := by decide +kernel
theorem dX10_turn_106 : decode cX10_turn 106 = .ok (.getfield 66, 3) := by decide +kernel
theorem dX10_turn_109 : decode cX10_turn 109 = .ok (.iconst 1, 1) := by decide +kernel
theorem dX10_turn_110 : decode cX10_turn 110 = .ok (.iadd, 1) := by decide +kernel
theorem dX10_turn_111 : decode cX10_turn 111 = .ok (.putfield 66, 3) := by decide +kernel
theorem dX10_turn_114 : decode cX10_turn 114 = .ok (.aload_n 0, 1) := by decide +kernel
theorem dX10_turn_115 : decode cX10_turn 115 = .ok (.getfield 28, 3) := by decide +kernel
theorem dX10_turn_118 : decode cX10_turn 118 = .ok (.getfield 132, 3) := by decide +kernel
theorem dX10_turn_121 : decode cX10_turn 121 = .ok (.invokevirtual 39, 3) := by decide +kernel
theorem dX10_turn_124 : decode cX10_turn 124 = .ok (.ireturn, 1) := by decide +kernel
theorem dX10_bind_0 : decode cX10_bind 0 = .ok (.aload_n 0, 1) := by decide +kernel
theorem dX10_bind_1 : decode cX10_bind 1 = .ok (.iconst 0, 1) := by decide +kernel
theorem dX10_bind_2 : decode cX10_bind 2 = .ok (.putfield 36, 3) := by decide +kernel
theorem dX10_bind_5 : decode cX10_bind 5 = .ok (.iload_n 1, 1) := by decide +kernel
theorem dX10_bind_6 : decode cX10_bind 6 = .ok (.iconst 1, 1) := by decide +kernel
theorem dX10_bind_7 : decode cX10_bind 7 = .ok (.bipush 24, 2) := by decide +kernel
theorem dX10_bind_9 : decode cX10_bind 9 = .ok (.invokestatic 109, 3) := by decide +kernel
theorem dX10_bind_12 : decode cX10_bind 12 = .ok (.ifCond .ne 9, 3) := by decide +kernel
theorem dX10_bind_15 : decode cX10_bind 15 = .ok (.aload_n 0, 1) := by decide +kernel
theorem dX10_bind_16 : decode cX10_bind 16 = .ok (.iconst 1, 1) := by decide +kernel
theorem dX10_bind_17 : decode cX10_bind 17 = .ok (.invokevirtual 113, 3) := by decide +kernel
theorem dX10_bind_20 : decode cX10_bind 20 = .ok (.ireturn, 1) := by decide +kernel
theorem dX10_bind_21 : decode cX10_bind 21 = .ok (.aload_n 0, 1) := by decide +kernel
theorem dX10_bind_22 : decode cX10_bind 22 = .ok (.getfield 28, 3) := by decide +kernel
theorem dX10_bind_25 : decode cX10_bind 25 = .ok (.getfield 75, 3) := by decide +kernel
theorem dX10_bind_28 : decode cX10_bind 28 = .ok (.invokevirtual 39, 3) := by decide +kernel
theorem dX10_bind_31 : decode cX10_bind 31 = .ok (.istore_n 2, 1) := by decide +kernel
theorem dX10_bind_32 : decode cX10_bind 32 = .ok (.iload_n 1, 1) := by decide +kernel
theorem dX10_bind_33 : decode cX10_bind 33 = .ok (.iload_n 2, 1) := by decide +kernel
theorem dX10_bind_34 : decode cX10_bind 34 = .ok (.if_icmp .ne 20, 3) := by decide +kernel
theorem dX10_bind_37 : decode cX10_bind 37 = .ok (.aload_n 0, 1) := by decide +kernel
theorem dX10_bind_38 : decode cX10_bind 38 = .ok (.getfield 28, 3) := by decide +kernel
theorem dX10_bind_41 : decode cX10_bind 41 = .ok (.getfield 132, 3) := by decide +kernel
theorem dX10_bind_44 : decode cX10_bind 44 = .ok (.invokevirtual 145, 3) := by decide +kernel
theorem dX10_bind_47 : decode cX10_bind 47 = .ok (.ifCond .eq 7, 3) := by decide +kernel
theorem dX10_bind_50 : decode cX10_bind 50 = .ok (.iconst 1, 1) := by decide +kernel
theorem dX10_bind_51 : decode cX10_bind 51 = .ok (.goto 4, 3) := by decide +kernel
theorem dX10_bind_54 : decode cX10_bind 54 = .ok (.iconst 0, 1) := by decide +kernel
theorem dX10_bind_55 : decode cX10_bind 55 = .ok (.istore_n 3, 1) := by decide +kernel
theorem dX10_bind_56 : decode cX10_bind 56 = .ok (.iload_n 1, 1) := by decide +kernel
theorem dX10_bind_57 : decode cX10_bind 57 = .ok (.iload_n 2, 1) := by decide +kernel
theorem dX10_bind_58 : decode cX10_bind 58 = .ok (.if_icmp .lt 7, 3) := by decide +kernel
theorem dX10_bind_61 : decode cX10_bind 61 = .ok (.iload_n 3, 1) := by decide +kernel
theorem dX10_bind_62 : decode cX10_bind 62 = .ok (.ifCond .eq 16, 3) := by decide +kernel
theorem dX10_bind_65 : decode cX10_bind 65 = .ok (.iload_n 3, 1) := by decide +kernel
theorem dX10_bind_66 : decode cX10_bind 66 = .ok (.ifCond .eq 18, 3) := by decide +kernel
theorem dX10_bind_69 : decode cX10_bind 69 = .ok (.aload_n 0, 1) := by decide +kernel
theorem dX10_bind_70 : decode cX10_bind 70 = .ok (.invokevirtual 120, 3) := by decide +kernel
theorem dX10_bind_73 : decode cX10_bind 73 = .ok (.bipush 6, 2) := by decide +kernel
theorem dX10_bind_75 : decode cX10_bind 75 = .ok (.if_icmp .ge 9, 3) := by decide +kernel
theorem dX10_bind_78 : decode cX10_bind 78 = .ok (.aload_n 0, 1) := by decide +kernel
theorem dX10_bind_79 : decode cX10_bind 79 = .ok (.iconst 2, 1) := by decide +kernel
theorem dX10_bind_80 : decode cX10_bind 80 = .ok (.invokevirtual 113, 3) := by decide +kernel
theorem dX10_bind_83 : decode cX10_bind 83 = .ok (.ireturn, 1) := by decide +kernel
theorem dX10_bind_84 : decode cX10_bind 84 = .ok (.aload_n 0, 1) := by decide +kernel
theorem dX10_bind_85 : decode cX10_bind 85 = .ok (.invokevirtual 125, 3) := by decide +kernel
theorem dX10_bind_88 : decode cX10_bind 88 = .ok (.iload_n 3, 1) := by decide +kernel
theorem dX10_bind_89 : decode cX10_bind 89 = .ok (.ifCond .eq 20, 3) := by decide +kernel
theorem dX10_bind_92 : decode cX10_bind 92 = .ok (.aload_n 0, 1) := by decide +kernel
theorem dX10_bind_93 : decode cX10_bind 93 = .ok (.getfield 28, 3) := by decide +kernel
theorem dX10_bind_96 : decode cX10_bind 96 = .ok (.getfield 52, 3) := by decide +kernel
theorem dX10_bind_99 : decode cX10_bind 99 = .ok (.aload_n 0, 1) := by decide +kernel
theorem dX10_bind_100 : decode cX10_bind 100 = .ok (.getfield 32, 3) := by decide +kernel
theorem dX10_bind_103 : decode cX10_bind 103 = .ok (.dup2, 1) := by decide +kernel
theorem dX10_bind_104 : decode cX10_bind 104 = .ok (.iaload, 1) := by decide +kernel
theorem dX10_bind_105 : decode cX10_bind 105 = .ok (.bipush 6, 2) := by decide +kernel
theorem dX10_bind_107 : decode cX10_bind 107 = .ok (.isub, 1) := by decide +kernel
theorem dX10_bind_108 : decode cX10_bind 108 = .ok (.iastore, 1) := by decide +kernel
theorem dX10_bind_109 : decode cX10_bind 109 = .ok (.iconst 0, 1) := by decide +kernel
theorem dX10_bind_110 : decode cX10_bind 110 = .ok (.istore 4, 2) := by decide +kernel
theorem dX10_bind_112 : decode cX10_bind 112 = .ok (.iload 4, 2) := by decide +kernel
theorem dX10_bind_114 : decode cX10_bind 114 = .ok (.iload_n 1, 1) := by decide +kernel
theorem dX10_bind_115 : decode cX10_bind 115 = .ok (.if_icmp .ge 77, 3) := by decide +kernel
theorem dX10_bind_118 : decode cX10_bind 118 = .ok (.aload_n 0, 1) := by decide +kernel
theorem dX10_bind_119 : decode cX10_bind 119 = .ok (.getfield 28, 3) := by decide +kernel
theorem dX10_bind_122 : decode cX10_bind 122 = .ok (.getfield 75, 3) := by decide +kernel
theorem dX10_bind_125 : decode cX10_bind 125 = .ok (.invokevirtual 39, 3) := by decide +kernel
theorem dX10_bind_128 : decode cX10_bind 128 = .ok (.aload_n 0, 1) := by decide +kernel
theorem dX10_bind_129 : decode cX10_bind 129 = .ok (.getfield 28, 3) := by decide +kernel
theorem dX10_bind_132 : decode cX10_bind 132 = .ok (.getfield 75, 3) := by decide +kernel
theorem dX10_bind_135 : decode cX10_bind 135 = .ok (.invokevirtual 39, 3) := by decide +kernel
theorem dX10_bind_138 : decode cX10_bind 138 = .ok (.iconst 1, 1) := by decide +kernel
theorem dX10_bind_139 : decode cX10_bind 139 = .ok (.if_icmp .ne 7, 3) := by decide +kernel
theorem dX10_bind_142 : decode cX10_bind 142 = .ok (.iconst 1, 1) := by decide +kernel
theorem dX10_bind_143 : decode cX10_bind 143 = .ok (.goto 4, 3) := by decide +kernel
theorem dX10_bind_146 : decode cX10_bind 146 = .ok (.iconst 2, 1) := by decide +kernel
theorem dX10_bind_147 : decode cX10_bind 147 = .ok (.isub, 1) := by decide +kernel
theorem dX10_bind_148 : decode cX10_bind 148 = .ok (.istore 5, 2) := by decide +kernel
theorem dX10_bind_150 : decode cX10_bind 150 = .ok (.aload_n 0, 1) := by decide +kernel
theorem dX10_bind_151 : decode cX10_bind 151 = .ok (.getfield 16, 3) := by decide +kernel
theorem dX10_bind_154 : decode cX10_bind 154 = .ok (.aload_n 0, 1) := by decide +kernel
theorem dX10_bind_155 : decode cX10_bind 155 = .ok (.getfield 28, 3) := by decide +kernel
theorem dX10_bind_158 : decode cX10_bind 158 = .ok (.getfield 75, 3) := by decide +kernel
theorem dX10_bind_161 : decode cX10_bind 161 = .ok (.iload 5, 2) := by decide +kernel
theorem dX10_bind_163 : decode cX10_bind 163 = .ok (.invokevirtual 43, 3) := by decide +kernel
theorem dX10_bind_166 : decode cX10_bind 166 = .ok (.checkcast 47, 3) := by decide +kernel
theorem dX10_bind_169 : decode cX10_bind 169 = .ok (.invokevirtual 60, 3) := by decide +kernel
theorem dX10_bind_172 : decode cX10_bind 172 = .ok (.pop, 1) := by decide +kernel
theorem dX10_bind_173 : decode cX10_bind 173 = .ok (.aload_n 0, 1) := by decide +kernel
theorem dX10_bind_174 : decode cX10_bind 174 = .ok (.getfield 28, 3) := by decide +kernel
theorem dX10_bind_177 : decode cX10_bind 177 = .ok (.dup, 1) := by decide +kernel
theorem dX10_bind_178 : decode cX10_bind 178 = .ok (.getfield 181, 3) := by decide +kernel
theorem dX10_bind_181 : decode cX10_bind 181 = .ok (.iconst 1, 1) := by decide +kernel
theorem dX10_bind_182 : decode cX10_bind 182 = .ok (.iadd, 1) := by decide +kernel
theorem dX10_bind_183 : decode cX10_bind 183 = .ok (.putfield 181, 3) := by decide +kernel
theorem dX10_bind_186 : decode cX10_bind 186 = .ok (.iinc 4 1, 3) := by decide +kernel
theorem dX10_bind_189 : decode cX10_bind 189 = .ok (.goto (-77), 3) := by decide +kernel
theorem dX10_bind_192 : decode cX10_bind 192 = .ok (.aload_n 0, 1) := by decide +kernel
theorem dX10_bind_193 : decode cX10_bind 193 = .ok (.getfield 28, 3) := by decide +kernel
theorem dX10_bind_196 : decode cX10_bind 196 = .ok (.invokevirtual 122, 3) := by decide +kernel
theorem dX10_bind_199 : decode cX10_bind 199 = .ok (.ireturn, 1) := by decide +kernel
theorem dX10_drop_0 : decode cX10_drop 0 = .ok (.aload_n 0, 1) := by decide +kernel
theorem dX10_drop_1 : decode cX10_drop 1 = .ok (.iconst 0, 1) := by decide +kernel
theorem dX10_drop_2 : decode cX10_drop 2 = .ok (.putfield 36, 3) := by decide +kernel
theorem dX10_drop_5 : decode cX10_drop 5 = .ok (.aload_n 0, 1) := by decide +kernel
theorem dX10_drop_6 : decode cX10_drop 6 = .ok (.getfield 28, 3) := by decide +kernel
theorem dX10_drop_9 : decode cX10_drop 9 = .ok (.getfield 132, 3) := by decide +kernel
theorem dX10_drop_12 : decode cX10_drop 12 = .ok (.invokevirtual 145, 3) := by decide +kernel
theorem dX10_drop_15 : decode cX10_drop 15 = .ok (.ifCond .ne 18, 3) := by decide +kernel
theorem dX10_drop_18 : decode cX10_drop 18 = .ok (.aload_n 0, 1) := by decide +kernel
theorem dX10_drop_19 : decode cX10_drop 19 = .ok (.getfield 28, 3) := by decide +kernel
theorem dX10_drop_22 : decode cX10_drop 22 = .ok (.getfield 85, 3) := by decide +kernel
theorem dX10_drop_25 : decode cX10_drop 25 = .ok (.invokevirtual 39, 3) := by decide +kernel
theorem dX10_drop_28 : decode cX10_drop 28 = .ok (.bipush 9, 2) := by decide +kernel
theorem dX10_drop_30 : decode cX10_drop 30 = .ok (.if_icmp .ne 9, 3) := by decide +kernel
theorem dX10_drop_33 : decode cX10_drop 33 = .ok (.aload_n 0, 1) := by decide +kernel
theorem dX10_drop_34 : decode cX10_drop 34 = .ok (.iconst 1, 1) := by decide +kernel
theorem dX10_drop_35 : decode cX10_drop 35 = .ok (.invokevirtual 113, 3) := by decide +kernel
theorem dX10_drop_38 : decode cX10_drop 38 = .ok (.ireturn, 1) := by decide +kernel
theorem dX10_drop_39 : decode cX10_drop 39 = .ok (.aload_n 0, 1) := by decide +kernel
theorem dX10_drop_40 : decode cX10_drop 40 = .ok (.invokevirtual 125, 3) := by decide +kernel
theorem dX10_drop_43 : decode cX10_drop 43 = .ok (.aload_n 0, 1) := by decide +kernel
theorem dX10_drop_44 : decode cX10_drop 44 = .ok (.getfield 28, 3) := by decide +kernel
theorem dX10_drop_47 : decode cX10_drop 47 = .ok (.getfield 132, 3) := by decide +kernel
theorem dX10_drop_50 : decode cX10_drop 50 = .ok (.invokestatic 135, 3) := by decide +kernel
theorem dX10_drop_53 : decode cX10_drop 53 = .ok (.istore_n 1, 1) := by decide +kernel
theorem dX10_drop_54 : decode cX10_drop 54 = .ok (.iconst 4, 1) := by decide +kernel
theorem dX10_drop_55 : decode cX10_drop 55 = .ok (.newarray .int, 2) := by decide +kernel
theorem dX10_drop_57 : decode cX10_drop 57 = .ok (.dup, 1) := by decide +kernel
theorem dX10_drop_58 : decode cX10_drop 58 = .ok (.iconst 0, 1) := by decide +kernel
theorem dX10_drop_59 : decode cX10_drop 59 = .ok (.iload_n 1, 1) := by decide +kernel
theorem dX10_drop_60 : decode cX10_drop 60 = .ok (.iastore, 1) := by decide +kernel
theorem dX10_drop_61 : decode cX10_drop 61 = .ok (.dup, 1) := by decide +kernel
theorem dX10_drop_62 : decode cX10_drop 62 = .ok (.iconst 1, 1) := by decide +kernel
theorem dX10_drop_63 : decode cX10_drop 63 = .ok (.aload_n 0, 1) := by decide +kernel
theorem dX10_drop_64 : decode cX10_drop 64 = .ok (.getfield 10, 3) := by decide +kernel
theorem dX10_drop_67 : decode cX10_drop 67 = .ok (.iload_n 1, 1) := by decide +kernel
theorem dX10_drop_68 : decode cX10_drop 68 = .ok (.invokevirtual 139, 3) := by decide +kernel
theorem dX10_drop_71 : decode cX10_drop 71 = .ok (.checkcast 64, 3) := by decide +kernel
theorem dX10_drop_74 : decode cX10_drop 74 = .ok (.getfield 142, 3) := by decide +kernel
theorem dX10_drop_77 : decode cX10_drop 77 = .ok (.iastore, 1) := by decide +kernel
theorem dX10_drop_78 : decode cX10_drop 78 = .ok (.dup, 1) := by decide +kernel
theorem dX10_drop_79 : decode cX10_drop 79 = .ok (.iconst 2, 1) := by decide +kernel
theorem dX10_drop_80 : decode cX10_drop 80 = .ok (.iconst 0, 1) := by decide +kernel
theorem dX10_drop_81 : decode cX10_drop 81 = .ok (.iastore, 1) := by decide +kernel
theorem dX10_drop_82 : decode cX10_drop 82 = .ok (.dup, 1) := by decide +kernel
theorem dX10_drop_83 : decode cX10_drop 83 = .ok (.iconst 3, 1) := by decide +kernel
theorem dX10_drop_84 : decode cX10_drop 84 = .ok (.iconst 1, 1) := by decide +kernel
theorem dX10_drop_85 : decode cX10_drop 85 = .ok (.iastore, 1) := by decide +kernel
theorem dX10_drop_86 : decode cX10_drop 86 = .ok (.astore_n 2, 1) := by decide +kernel
theorem dX10_drop_87 : decode cX10_drop 87 = .ok (.aload_n 0, 1) := by decide +kernel
theorem dX10_drop_88 : decode cX10_drop 88 = .ok (.getfield 28, 3) := by decide +kernel
theorem dX10_drop_91 : decode cX10_drop 91 = .ok (.getfield 85, 3) := by decide +kernel
theorem dX10_drop_94 : decode cX10_drop 94 = .ok (.aload_n 2, 1) := by decide +kernel
theorem dX10_drop_95 : decode cX10_drop 95 = .ok (.invokevirtual 60, 3) := by decide +kernel
theorem dX10_drop_98 : decode cX10_drop 98 = .ok (.pop, 1) := by decide +kernel
theorem dX10_drop_99 : decode cX10_drop 99 = .ok (.aload_n 0, 1) := by decide +kernel
theorem dX10_drop_100 : decode cX10_drop 100 = .ok (.getfield 28, 3) := by decide +kernel
theorem dX10_drop_103 : decode cX10_drop 103 = .ok (.getfield 85, 3) := by decide +kernel
theorem dX10_drop_106 : decode cX10_drop 106 = .ok (.invokevirtual 39, 3) := by decide +kernel
theorem dX10_drop_109 : decode cX10_drop 109 = .ok (.iconst 1, 1) := by decide +kernel
theorem dX10_drop_110 : decode cX10_drop 110 = .ok (.isub, 1) := by decide +kernel
theorem dX10_drop_111 : decode cX10_drop 111 = .ok (.ireturn, 1) := by decide +kernel
theorem dX10_isRun_0 : decode cX10_isRun 0 = .ok (.iload_n 1, 1) := by decide +kernel
theorem dX10_isRun_1 : decode cX10_isRun 1 = .ok (.iconst 0, 1) := by decide +kernel
theorem dX10_isRun_2 : decode cX10_isRun 2 = .ok (.aload_n 0, 1) := by decide +kernel
theorem dX10_isRun_3 : decode cX10_isRun 3 = .ok (.getfield 28, 3) := by decide +kernel
theorem dX10_isRun_6 : decode cX10_isRun 6 = .ok (.getfield 85, 3) := by decide +kernel
theorem dX10_isRun_9 : decode cX10_isRun 9 = .ok (.invokevirtual 39, 3) := by decide +kernel
theorem dX10_isRun_12 : decode cX10_isRun 12 = .ok (.iconst 1, 1) := by decide +kernel
theorem dX10_isRun_13 : decode cX10_isRun 13 = .ok (.isub, 1) := by decide +kernel
theorem dX10_isRun_14 : decode cX10_isRun 14 = .ok (.invokestatic 109, 3) := by decide +kernel
theorem dX10_isRun_17 : decode cX10_isRun 17 = .ok (.ireturn, 1) := by decide +kernel
theorem dX10_latch_0 : decode cX10_latch 0 = .ok (.aload_n 0, 1) := by decide +kernel
theorem dX10_latch_1 : decode cX10_latch 1 = .ok (.iconst 0, 1) := by decide +kernel
theorem dX10_latch_2 : decode cX10_latch 2 = .ok (.putfield 36, 3) := by decide +kernel
theorem dX10_latch_5 : decode cX10_latch 5 = .ok (.aload_n 0, 1) := by decide +kernel
theorem dX10_latch_6 : decode cX10_latch 6 = .ok (.iload_n 1, 1) := by decide +kernel
theorem dX10_latch_7 : decode cX10_latch 7 = .ok (.invokevirtual 183, 3) := by decide +kernel
theorem dX10_latch_10 : decode cX10_latch 10 = .ok (.ifCond .ne 9, 3) := by decide +kernel
theorem dX10_latch_13 : decode cX10_latch 13 = .ok (.aload_n 0, 1) := by decide +kernel
theorem dX10_latch_14 : decode cX10_latch 14 = .ok (.iconst 1, 1) := by decide +kernel
theorem dX10_latch_15 : decode cX10_latch 15 = .ok (.invokevirtual 113, 3) := by decide +kernel
theorem dX10_latch_18 : decode cX10_latch 18 = .ok (.ireturn, 1) := by decide +kernel
theorem dX10_latch_19 : decode cX10_latch 19 = .ok (.aload_n 0, 1) := by decide +kernel
theorem dX10_latch_20 : decode cX10_latch 20 = .ok (.getfield 28, 3) := by decide +kernel
theorem dX10_latch_23 : decode cX10_latch 23 = .ok (.getfield 85, 3) := by decide +kernel
theorem dX10_latch_26 : decode cX10_latch 26 = .ok (.iload_n 1, 1) := by decide +kernel
theorem dX10_latch_27 : decode cX10_latch 27 = .ok (.invokevirtual 139, 3) := by decide +kernel
theorem dX10_latch_30 : decode cX10_latch 30 = .ok (.checkcast 102, 3) := by decide +kernel
theorem dX10_latch_33 : decode cX10_latch 33 = .ok (.iconst 3, 1) := by decide +kernel
theorem dX10_latch_34 : decode cX10_latch 34 = .ok (.iaload, 1) := by decide +kernel
theorem dX10_latch_35 : decode cX10_latch 35 = .ok (.ifCond .eq 15, 3) := by decide +kernel
theorem dX10_latch_38 : decode cX10_latch 38 = .ok (.aload_n 0, 1) := by decide +kernel
theorem dX10_latch_39 : decode cX10_latch 39 = .ok (.getfield 28, 3) := by decide +kernel
theorem dX10_latch_42 : decode cX10_latch 42 = .ok (.invokevirtual 122, 3) := by decide +kernel
theorem dX10_latch_45 : decode cX10_latch 45 = .ok (.bipush 24, 2) := by decide +kernel
theorem dX10_latch_47 : decode cX10_latch 47 = .ok (.if_icmp .ne 9, 3) := by decide +kernel
theorem dX10_latch_50 : decode cX10_latch 50 = .ok (.aload_n 0, 1) := by decide +kernel
theorem dX10_latch_51 : decode cX10_latch 51 = .ok (.iconst 2, 1) := by decide +kernel
theorem dX10_latch_52 : decode cX10_latch 52 = .ok (.invokevirtual 113, 3) := by decide +kernel
theorem dX10_latch_55 : decode cX10_latch 55 = .ok (.ireturn, 1) := by decide +kernel
theorem dX10_latch_56 : decode cX10_latch 56 = .ok (.aload_n 0, 1) := by decide +kernel
theorem dX10_latch_57 : decode cX10_latch 57 = .ok (.invokevirtual 125, 3) := by decide +kernel
theorem dX10_latch_60 : decode cX10_latch 60 = .ok (.aload_n 0, 1) := by decide +kernel
theorem dX10_latch_61 : decode cX10_latch 61 = .ok (.getfield 28, 3) := by decide +kernel
theorem dX10_latch_64 : decode cX10_latch 64 = .ok (.getfield 85, 3) := by decide +kernel
theorem dX10_latch_67 : decode cX10_latch 67 = .ok (.iload_n 1, 1) := by decide +kernel
theorem dX10_latch_68 : decode cX10_latch 68 = .ok (.invokevirtual 139, 3) := by decide +kernel
theorem dX10_latch_71 : decode cX10_latch 71 = .ok (.checkcast 102, 3) := by decide +kernel
theorem dX10_latch_74 : decode cX10_latch 74 = .ok (.astore_n 2, 1) := by decide +kernel
theorem dX10_latch_75 : decode cX10_latch 75 = .ok (.aload_n 2, 1) := by decide +kernel
theorem dX10_latch_76 : decode cX10_latch 76 = .ok (.iconst 3, 1) := by decide +kernel
theorem dX10_latch_77 : decode cX10_latch 77 = .ok (.iconst 0, 1) := by decide +kernel
theorem dX10_latch_78 : decode cX10_latch 78 = .ok (.iastore, 1) := by decide +kernel
theorem dX10_latch_79 : decode cX10_latch 79 = .ok (.aload_n 0, 1) := by decide +kernel
theorem dX10_latch_80 : decode cX10_latch 80 = .ok (.getfield 28, 3) := by decide +kernel
theorem dX10_latch_83 : decode cX10_latch 83 = .ok (.getfield 132, 3) := by decide +kernel
theorem dX10_latch_86 : decode cX10_latch 86 = .ok (.aload_n 2, 1) := by decide +kernel
theorem dX10_latch_87 : decode cX10_latch 87 = .ok (.iconst 0, 1) := by decide +kernel
theorem dX10_latch_88 : decode cX10_latch 88 = .ok (.iaload, 1) := by decide +kernel
theorem dX10_latch_89 : decode cX10_latch 89 = .ok (.invokestatic 81, 3) := by decide +kernel
theorem dX10_latch_92 : decode cX10_latch 92 = .ok (.invokevirtual 60, 3) := by decide +kernel
theorem dX10_latch_95 : decode cX10_latch 95 = .ok (.pop, 1) := by decide +kernel
theorem dX10_latch_96 : decode cX10_latch 96 = .ok (.aload_n 2, 1) := by decide +kernel
theorem dX10_latch_97 : decode cX10_latch 97 = .ok (.iconst 2, 1) := by decide +kernel
theorem dX10_latch_98 : decode cX10_latch 98 = .ok (.iaload, 1) := by decide +kernel
theorem dX10_latch_99 : decode cX10_latch 99 = .ok (.ireturn, 1) := by decide +kernel
theorem dX10_pattern_0 : decode cX10_pattern 0 = .ok (.aload_n 0, 1) := by decide +kernel
theorem dX10_pattern_1 : decode cX10_pattern 1 = .ok (.iconst 0, 1) := by decide +kernel
theorem dX10_pattern_2 : decode cX10_pattern 2 = .ok (.putfield 36, 3) := by decide +kernel
theorem dX10_pattern_5 : decode cX10_pattern 5 = .ok (.iload_n 1, 1) := by decide +kernel
theorem dX10_pattern_6 : decode cX10_pattern 6 = .ok (.iconst 1, 1) := by decide +kernel
theorem dX10_pattern_7 : decode cX10_pattern 7 = .ok (.ldc 187, 2) := by decide +kernel
theorem dX10_pattern_9 : decode cX10_pattern 9 = .ok (.invokestatic 109, 3) := by decide +kernel
theorem dX10_pattern_12 : decode cX10_pattern 12 = .ok (.ifCond .ne 9, 3) := by decide +kernel
theorem dX10_pattern_15 : decode cX10_pattern 15 = .ok (.aload_n 0, 1) := by decide +kernel
theorem dX10_pattern_16 : decode cX10_pattern 16 = .ok (.iconst 1, 1) := by decide +kernel
theorem dX10_pattern_17 : decode cX10_pattern 17 = .ok (.invokevirtual 113, 3) := by decide +kernel
theorem dX10_pattern_20 : decode cX10_pattern 20 = .ok (.ireturn, 1) := by decide +kernel
theorem dX10_pattern_21 : decode cX10_pattern 21 = .ok (.iload_n 1, 1) := by decide +kernel
theorem dX10_pattern_22 : decode cX10_pattern 22 = .ok (.istore_n 2, 1) := by decide +kernel
theorem dX10_pattern_23 : decode cX10_pattern 23 = .ok (.iload_n 2, 1) := by decide +kernel
theorem dX10_pattern_24 : decode cX10_pattern 24 = .ok (.ifCond .le 24, 3) := by decide +kernel
theorem dX10_pattern_27 : decode cX10_pattern 27 = .ok (.iload_n 2, 1) := by decide +kernel
theorem dX10_pattern_28 : decode cX10_pattern 28 = .ok (.bipush 10, 2) := by decide +kernel
theorem dX10_pattern_30 : decode cX10_pattern 30 = .ok (.irem, 1) := by decide +kernel
theorem dX10_pattern_31 : decode cX10_pattern 31 = .ok (.ifCond .ne 9, 3) := by decide +kernel
theorem dX10_pattern_34 : decode cX10_pattern 34 = .ok (.aload_n 0, 1) := by decide +kernel
theorem dX10_pattern_35 : decode cX10_pattern 35 = .ok (.iconst 1, 1) := by decide +kernel
theorem dX10_pattern_36 : decode cX10_pattern 36 = .ok (.invokevirtual 113, 3) := by decide +kernel
theorem dX10_pattern_39 : decode cX10_pattern 39 = .ok (.ireturn, 1) := by decide +kernel
theorem dX10_pattern_40 : decode cX10_pattern 40 = .ok (.iload_n 2, 1) := by decide +kernel
theorem dX10_pattern_41 : decode cX10_pattern 41 = .ok (.bipush 10, 2) := by decide +kernel
theorem dX10_pattern_43 : decode cX10_pattern 43 = .ok (.idiv, 1) := by decide +kernel
theorem dX10_pattern_44 : decode cX10_pattern 44 = .ok (.istore_n 2, 1) := by decide +kernel
theorem dX10_pattern_45 : decode cX10_pattern 45 = .ok (.goto (-22), 3) := by decide +kernel
theorem dX10_pattern_48 : decode cX10_pattern 48 = .ok (.aload_n 0, 1) := by decide +kernel
theorem dX10_pattern_49 : decode cX10_pattern 49 = .ok (.getfield 19, 3) := by decide +kernel
theorem dX10_pattern_52 : decode cX10_pattern 52 = .ok (.invokevirtual 39, 3) := by decide +kernel
