theorem dX0_init_0 : decode cX0_init 0 = .ok (.aload_n 0, 1) := by decide +kernel
theorem dX0_init_1 : decode cX0_init 1 = .ok (.invokespecial 3, 3) := by decide +kernel
theorem dX0_init_4 : decode cX0_init 4 = .ok (.aload_n 0, 1) := by decide +kernel
theorem dX0_init_5 : decode cX0_init 5 = .ok (.bipush 16, 2) := by decide +kernel
theorem dX0_init_7 : decode cX0_init 7 = .ok (.newarray .int, 2) := by decide +kernel
theorem dX0_init_9 : decode cX0_init 9 = .ok (.putfield 9, 3) := by decide +kernel
theorem dX0_init_12 : decode cX0_init 12 = .ok (.aload_n 0, 1) := by decide +kernel
theorem dX0_init_13 : decode cX0_init 13 = .ok (.bipush 7, 2) := by decide +kernel
theorem dX0_init_15 : decode cX0_init 15 = .ok (.newarray .int, 2) := by decide +kernel
theorem dX0_init_17 : decode cX0_init 17 = .ok (.putfield 15, 3) := by decide +kernel
theorem dX0_init_20 : decode cX0_init 20 = .ok (.return_, 1) := by decide +kernel
theorem dX0_isRight_0 : decode cX0_isRight 0 = .ok (.aload_n 0, 1) := by decide +kernel
theorem dX0_isRight_1 : decode cX0_isRight 1 = .ok (.getfield 15, 3) := by decide +kernel
theorem dX0_isRight_4 : decode cX0_isRight 4 = .ok (.iconst 0, 1) := by decide +kernel
theorem dX0_isRight_5 : decode cX0_isRight 5 = .ok (.iaload, 1) := by decide +kernel
theorem dX0_isRight_6 : decode cX0_isRight 6 = .ok (.ifCond .ne 7, 3) := by decide +kernel
theorem dX0_isRight_9 : decode cX0_isRight 9 = .ok (.iconst 1, 1) := by decide +kernel
theorem dX0_isRight_10 : decode cX0_isRight 10 = .ok (.goto 4, 3) := by decide +kernel
theorem dX0_isRight_13 : decode cX0_isRight 13 = .ok (.iconst 0, 1) := by decide +kernel
theorem dX0_isRight_14 : decode cX0_isRight 14 = .ok (.ireturn, 1) := by decide +kernel
theorem dX0_passesAs_0 : decode cX0_passesAs 0 = .ok (.aload_n 0, 1) := by decide +kernel
theorem dX0_passesAs_1 : decode cX0_passesAs 1 = .ok (.getfield 15, 3) := by decide +kernel
theorem dX0_passesAs_4 : decode cX0_passesAs 4 = .ok (.iconst 0, 1) := by decide +kernel
theorem dX0_passesAs_5 : decode cX0_passesAs 5 = .ok (.iaload, 1) := by decide +kernel
theorem dX0_passesAs_6 : decode cX0_passesAs 6 = .ok (.istore_n 2, 1) := by decide +kernel
theorem dX0_passesAs_7 : decode cX0_passesAs 7 = .ok (.iload_n 1, 1) := by decide +kernel
theorem dX0_passesAs_8 : decode cX0_passesAs 8 = .ok (.ifCond .eq 17, 3) := by decide +kernel
theorem dX0_passesAs_11 : decode cX0_passesAs 11 = .ok (.iload_n 1, 1) := by decide +kernel
theorem dX0_passesAs_12 : decode cX0_passesAs 12 = .ok (.iload_n 2, 1) := by decide +kernel
theorem dX0_passesAs_13 : decode cX0_passesAs 13 = .ok (.if_icmp .eq 12, 3) := by decide +kernel
theorem dX0_passesAs_16 : decode cX0_passesAs 16 = .ok (.iload_n 1, 1) := by decide +kernel
theorem dX0_passesAs_17 : decode cX0_passesAs 17 = .ok (.getstatic 18, 3) := by decide +kernel
theorem dX0_passesAs_20 : decode cX0_passesAs 20 = .ok (.iload_n 2, 1) := by decide +kernel
theorem dX0_passesAs_21 : decode cX0_passesAs 21 = .ok (.iaload, 1) := by decide +kernel
theorem dX0_passesAs_22 : decode cX0_passesAs 22 = .ok (.if_icmp .ne 7, 3) := by decide +kernel
theorem dX0_passesAs_25 : decode cX0_passesAs 25 = .ok (.iconst 1, 1) := by decide +kernel
theorem dX0_passesAs_26 : decode cX0_passesAs 26 = .ok (.goto 4, 3) := by decide +kernel
theorem dX0_passesAs_29 : decode cX0_passesAs 29 = .ok (.iconst 0, 1) := by decide +kernel
theorem dX0_passesAs_30 : decode cX0_passesAs 30 = .ok (.ireturn, 1) := by decide +kernel
theorem dX0_measure_0 : decode cX0_measure 0 = .ok (.bipush 61, 2) := by decide +kernel
theorem dX0_measure_2 : decode cX0_measure 2 = .ok (.istore_n 1, 1) := by decide +kernel
theorem dX0_measure_3 : decode cX0_measure 3 = .ok (.iconst 0, 1) := by decide +kernel
theorem dX0_measure_4 : decode cX0_measure 4 = .ok (.istore_n 2, 1) := by decide +kernel
theorem dX0_measure_5 : decode cX0_measure 5 = .ok (.iconst 0, 1) := by decide +kernel
theorem dX0_measure_6 : decode cX0_measure 6 = .ok (.istore_n 3, 1) := by decide +kernel
theorem dX0_measure_7 : decode cX0_measure 7 = .ok (.iconst 0, 1) := by decide +kernel
theorem dX0_measure_8 : decode cX0_measure 8 = .ok (.istore 4, 2) := by decide +kernel
theorem dX0_measure_10 : decode cX0_measure 10 = .ok (.iload 4, 2) := by decide +kernel
theorem dX0_measure_12 : decode cX0_measure 12 = .ok (.bipush 16, 2) := by decide +kernel
theorem dX0_measure_14 : decode cX0_measure 14 = .ok (.if_icmp .ge 46, 3) := by decide +kernel
theorem dX0_measure_17 : decode cX0_measure 17 = .ok (.aload_n 0, 1) := by decide +kernel
theorem dX0_measure_18 : decode cX0_measure 18 = .ok (.getfield 9, 3) := by decide +kernel
theorem dX0_measure_21 : decode cX0_measure 21 = .ok (.iload 4, 2) := by decide +kernel
theorem dX0_measure_23 : decode cX0_measure 23 = .ok (.iaload, 1) := by decide +kernel
theorem dX0_measure_24 : decode cX0_measure 24 = .ok (.ifCond .le 30, 3) := by decide +kernel
theorem dX0_measure_27 : decode cX0_measure 27 = .ok (.iload_n 1, 1) := by decide +kernel
theorem dX0_measure_28 : decode cX0_measure 28 = .ok (.aload_n 0, 1) := by decide +kernel
theorem dX0_measure_29 : decode cX0_measure 29 = .ok (.getfield 9, 3) := by decide +kernel
theorem dX0_measure_32 : decode cX0_measure 32 = .ok (.iload 4, 2) := by decide +kernel
theorem dX0_measure_34 : decode cX0_measure 34 = .ok (.iaload, 1) := by decide +kernel
theorem dX0_measure_35 : decode cX0_measure 35 = .ok (.invokestatic 21, 3) := by decide +kernel
theorem dX0_measure_38 : decode cX0_measure 38 = .ok (.istore_n 1, 1) := by decide +kernel
theorem dX0_measure_39 : decode cX0_measure 39 = .ok (.iload_n 2, 1) := by decide +kernel
theorem dX0_measure_40 : decode cX0_measure 40 = .ok (.aload_n 0, 1) := by decide +kernel
theorem dX0_measure_41 : decode cX0_measure 41 = .ok (.getfield 9, 3) := by decide +kernel
theorem dX0_measure_44 : decode cX0_measure 44 = .ok (.iload 4, 2) := by decide +kernel
theorem dX0_measure_46 : decode cX0_measure 46 = .ok (.iaload, 1) := by decide +kernel
theorem dX0_measure_47 : decode cX0_measure 47 = .ok (.invokestatic 27, 3) := by decide +kernel
theorem dX0_measure_50 : decode cX0_measure 50 = .ok (.istore_n 2, 1) := by decide +kernel
theorem dX0_measure_51 : decode cX0_measure 51 = .ok (.iinc 3 1, 3) := by decide +kernel
theorem dX0_measure_54 : decode cX0_measure 54 = .ok (.iinc 4 1, 3) := by decide +kernel
theorem dX0_measure_57 : decode cX0_measure 57 = .ok (.goto (-47), 3) := by decide +kernel
theorem dX0_measure_60 : decode cX0_measure 60 = .ok (.aload_n 0, 1) := by decide +kernel
theorem dX0_measure_61 : decode cX0_measure 61 = .ok (.getfield 15, 3) := by decide +kernel
theorem dX0_measure_64 : decode cX0_measure 64 = .ok (.iconst 3, 1) := by decide +kernel
theorem dX0_measure_65 : decode cX0_measure 65 = .ok (.iload_n 3, 1) := by decide +kernel
theorem dX0_measure_66 : decode cX0_measure 66 = .ok (.ifCond .le 9, 3) := by decide +kernel
theorem dX0_measure_69 : decode cX0_measure 69 = .ok (.iload_n 2, 1) := by decide +kernel
theorem dX0_measure_70 : decode cX0_measure 70 = .ok (.iload_n 1, 1) := by decide +kernel
theorem dX0_measure_71 : decode cX0_measure 71 = .ok (.isub, 1) := by decide +kernel
theorem dX0_measure_72 : decode cX0_measure 72 = .ok (.goto 4, 3) := by decide +kernel
theorem dX0_measure_75 : decode cX0_measure 75 = .ok (.iconst 0, 1) := by decide +kernel
theorem dX0_measure_76 : decode cX0_measure 76 = .ok (.iastore, 1) := by decide +kernel
theorem dX0_measure_77 : decode cX0_measure 77 = .ok (.aload_n 0, 1) := by decide +kernel
theorem dX0_measure_78 : decode cX0_measure 78 = .ok (.getfield 15, 3) := by decide +kernel
theorem dX0_measure_81 : decode cX0_measure 81 = .ok (.iconst 4, 1) := by decide +kernel
theorem dX0_measure_82 : decode cX0_measure 82 = .ok (.iload_n 3, 1) := by decide +kernel
theorem dX0_measure_83 : decode cX0_measure 83 = .ok (.iastore, 1) := by decide +kernel
theorem dX0_measure_84 : decode cX0_measure 84 = .ok (.return_, 1) := by decide +kernel
theorem dX0_judge_0 : decode cX0_judge 0 = .ok (.aload_n 0, 1) := by decide +kernel
theorem dX0_judge_1 : decode cX0_judge 1 = .ok (.invokevirtual 30, 3) := by decide +kernel
theorem dX0_judge_4 : decode cX0_judge 4 = .ok (.iconst 1, 1) := by decide +kernel
theorem dX0_judge_5 : decode cX0_judge 5 = .ok (.aload_n 0, 1) := by decide +kernel
theorem dX0_judge_6 : decode cX0_judge 6 = .ok (.getfield 15, 3) := by decide +kernel
theorem dX0_judge_9 : decode cX0_judge 9 = .ok (.iconst 4, 1) := by decide +kernel
theorem dX0_judge_10 : decode cX0_judge 10 = .ok (.iaload, 1) := by decide +kernel
theorem dX0_judge_11 : decode cX0_judge 11 = .ok (.invokestatic 27, 3) := by decide +kernel
theorem dX0_judge_14 : decode cX0_judge 14 = .ok (.istore 4, 2) := by decide +kernel
theorem dX0_judge_16 : decode cX0_judge 16 = .ok (.aload_n 0, 1) := by decide +kernel
theorem dX0_judge_17 : decode cX0_judge 17 = .ok (.getfield 15, 3) := by decide +kernel
theorem dX0_judge_20 : decode cX0_judge 20 = .ok (.iconst 1, 1) := by decide +kernel
theorem dX0_judge_21 : decode cX0_judge 21 = .ok (.iload_n 1, 1) := by decide +kernel
theorem dX0_judge_22 : decode cX0_judge 22 = .ok (.iload 4, 2) := by decide +kernel
theorem dX0_judge_24 : decode cX0_judge 24 = .ok (.idiv, 1) := by decide +kernel
theorem dX0_judge_25 : decode cX0_judge 25 = .ok (.iastore, 1) := by decide +kernel
theorem dX0_judge_26 : decode cX0_judge 26 = .ok (.aload_n 0, 1) := by decide +kernel
theorem dX0_judge_27 : decode cX0_judge 27 = .ok (.getfield 15, 3) := by decide +kernel
theorem dX0_judge_30 : decode cX0_judge 30 = .ok (.iconst 2, 1) := by decide +kernel
theorem dX0_judge_31 : decode cX0_judge 31 = .ok (.iload_n 2, 1) := by decide +kernel
theorem dX0_judge_32 : decode cX0_judge 32 = .ok (.iload 4, 2) := by decide +kernel
theorem dX0_judge_34 : decode cX0_judge 34 = .ok (.idiv, 1) := by decide +kernel
theorem dX0_judge_35 : decode cX0_judge 35 = .ok (.iastore, 1) := by decide +kernel
theorem dX0_judge_36 : decode cX0_judge 36 = .ok (.aload_n 0, 1) := by decide +kernel
theorem dX0_judge_37 : decode cX0_judge 37 = .ok (.getfield 15, 3) := by decide +kernel
theorem dX0_judge_40 : decode cX0_judge 40 = .ok (.iconst 5, 1) := by decide +kernel
theorem dX0_judge_41 : decode cX0_judge 41 = .ok (.iload_n 3, 1) := by decide +kernel
theorem dX0_judge_42 : decode cX0_judge 42 = .ok (.iastore, 1) := by decide +kernel
theorem dX0_judge_43 : decode cX0_judge 43 = .ok (.aload_n 0, 1) := by decide +kernel
theorem dX0_judge_44 : decode cX0_judge 44 = .ok (.getfield 15, 3) := by decide +kernel
theorem dX0_judge_47 : decode cX0_judge 47 = .ok (.iconst 0, 1) := by decide +kernel
theorem dX0_judge_48 : decode cX0_judge 48 = .ok (.aload_n 0, 1) := by decide +kernel
theorem dX0_judge_49 : decode cX0_judge 49 = .ok (.invokevirtual 33, 3) := by decide +kernel
theorem dX0_judge_52 : decode cX0_judge 52 = .ok (.iastore, 1) := by decide +kernel
theorem dX0_judge_53 : decode cX0_judge 53 = .ok (.aload_n 0, 1) := by decide +kernel
theorem dX0_judge_54 : decode cX0_judge 54 = .ok (.getfield 15, 3) := by decide +kernel
theorem dX0_judge_57 : decode cX0_judge 57 = .ok (.bipush 6, 2) := by decide +kernel
theorem dX0_judge_59 : decode cX0_judge 59 = .ok (.getstatic 37, 3) := by decide +kernel
theorem dX0_judge_62 : decode cX0_judge 62 = .ok (.aload_n 0, 1) := by decide +kernel
theorem dX0_judge_63 : decode cX0_judge 63 = .ok (.getfield 15, 3) := by decide +kernel
theorem dX0_judge_66 : decode cX0_judge 66 = .ok (.iconst 0, 1) := by decide +kernel
theorem dX0_judge_67 : decode cX0_judge 67 = .ok (.iaload, 1) := by decide +kernel
theorem dX0_judge_68 : decode cX0_judge 68 = .ok (.iaload, 1) := by decide +kernel
theorem dX0_judge_69 : decode cX0_judge 69 = .ok (.iastore, 1) := by decide +kernel
theorem dX0_judge_70 : decode cX0_judge 70 = .ok (.return_, 1) := by decide +kernel
theorem dX0_kindNow_0 : decode cX0_kindNow 0 = .ok (.aload_n 0, 1) := by decide +kernel
theorem dX0_kindNow_1 : decode cX0_kindNow 1 = .ok (.getfield 15, 3) := by decide +kernel
theorem dX0_kindNow_4 : decode cX0_kindNow 4 = .ok (.iconst 5, 1) := by decide +kernel
theorem dX0_kindNow_5 : decode cX0_kindNow 5 = .ok (.iaload, 1) := by decide +kernel
theorem dX0_kindNow_6 : decode cX0_kindNow 6 = .ok (.ifCond .le 5, 3) := by decide +kernel
theorem dX0_kindNow_9 : decode cX0_kindNow 9 = .ok (.iconst 5, 1) := by decide +kernel
theorem dX0_kindNow_10 : decode cX0_kindNow 10 = .ok (.ireturn, 1) := by decide +kernel
theorem dX0_kindNow_11 : decode cX0_kindNow 11 = .ok (.aload_n 0, 1) := by decide +kernel
theorem dX0_kindNow_12 : decode cX0_kindNow 12 = .ok (.getfield 15, 3) := by decide +kernel
theorem dX0_kindNow_15 : decode cX0_kindNow 15 = .ok (.iconst 3, 1) := by decide +kernel
theorem dX0_kindNow_16 : decode cX0_kindNow 16 = .ok (.iaload, 1) := by decide +kernel
theorem dX0_kindNow_17 : decode cX0_kindNow 17 = .ok (.bipush 9, 2) := by decide +kernel
theorem dX0_kindNow_19 : decode cX0_kindNow 19 = .ok (.if_icmp .le 5, 3) := by decide +kernel
theorem dX0_kindNow_22 : decode cX0_kindNow 22 = .ok (.iconst 4, 1) := by decide +kernel
theorem dX0_kindNow_23 : decode cX0_kindNow 23 = .ok (.ireturn, 1) := by decide +kernel
theorem dX0_kindNow_24 : decode cX0_kindNow 24 = .ok (.aload_n 0, 1) := by decide +kernel
theorem dX0_kindNow_25 : decode cX0_kindNow 25 = .ok (.getfield 15, 3) := by decide +kernel
theorem dX0_kindNow_28 : decode cX0_kindNow 28 = .ok (.iconst 1, 1) := by decide +kernel
theorem dX0_kindNow_29 : decode cX0_kindNow 29 = .ok (.iaload, 1) := by decide +kernel
theorem dX0_kindNow_30 : decode cX0_kindNow 30 = .ok (.istore_n 1, 1) := by decide +kernel
theorem dX0_kindNow_31 : decode cX0_kindNow 31 = .ok (.iload_n 1, 1) := by decide +kernel
theorem dX0_kindNow_32 : decode cX0_kindNow 32 = .ok (.bipush 20, 2) := by decide +kernel
theorem dX0_kindNow_34 : decode cX0_kindNow 34 = .ok (.if_icmp .ge 5, 3) := by decide +kernel
theorem dX0_kindNow_37 : decode cX0_kindNow 37 = .ok (.iconst 1, 1) := by decide +kernel
theorem dX0_kindNow_38 : decode cX0_kindNow 38 = .ok (.ireturn, 1) := by decide +kernel
theorem dX0_kindNow_39 : decode cX0_kindNow 39 = .ok (.iload_n 1, 1) := by decide +kernel
theorem dX0_kindNow_40 : decode cX0_kindNow 40 = .ok (.bipush 100, 2) := by decide +kernel
theorem dX0_kindNow_42 : decode cX0_kindNow 42 = .ok (.if_icmp .le 7, 3) := by decide +kernel
theorem dX0_kindNow_45 : decode cX0_kindNow 45 = .ok (.iconst 3, 1) := by decide +kernel
theorem dX0_kindNow_46 : decode cX0_kindNow 46 = .ok (.goto 14, 3) := by decide +kernel
theorem dX0_kindNow_49 : decode cX0_kindNow 49 = .ok (.iload_n 1, 1) := by decide +kernel
theorem dX0_kindNow_50 : decode cX0_kindNow 50 = .ok (.bipush 60, 2) := by decide +kernel
theorem dX0_kindNow_52 : decode cX0_kindNow 52 = .ok (.if_icmp .le 7, 3) := by decide +kernel
theorem dX0_kindNow_55 : decode cX0_kindNow 55 = .ok (.iconst 2, 1) := by decide +kernel
theorem dX0_kindNow_56 : decode cX0_kindNow 56 = .ok (.goto 4, 3) := by decide +kernel
theorem dX0_kindNow_59 : decode cX0_kindNow 59 = .ok (.iconst 0, 1) := by decide +kernel
theorem dX0_kindNow_60 : decode cX0_kindNow 60 = .ok (.ireturn, 1) := by decide +kernel
theorem dX1_init_0 : decode cX1_init 0 = .ok (.aload_n 0, 1) := by decide +kernel
theorem dX1_init_1 : decode cX1_init 1 = .ok (.invokespecial 3, 3) := by decide +kernel
theorem dX1_init_4 : decode cX1_init 4 = .ok (.aload_n 0, 1) := by decide +kernel
theorem dX1_init_5 : decode cX1_init 5 = .ok (.bipush 16, 2) := by decide +kernel
theorem dX1_init_7 : decode cX1_init 7 = .ok (.newarray .int, 2) := by decide +kernel
theorem dX1_init_9 : decode cX1_init 9 = .ok (.putfield 9, 3) := by decide +kernel
theorem dX1_init_12 : decode cX1_init 12 = .ok (.aload_n 0, 1) := by decide +kernel
theorem dX1_init_13 : decode cX1_init 13 = .ok (.bipush 16, 2) := by decide +kernel
theorem dX1_init_15 : decode cX1_init 15 = .ok (.newarray .int, 2) := by decide +kernel
theorem dX1_init_17 : decode cX1_init 17 = .ok (.putfield 15, 3) := by decide +kernel
theorem dX1_init_20 : decode cX1_init 20 = .ok (.return_, 1) := by decide +kernel
theorem dX1_clear_0 : decode cX1_clear 0 = .ok (.aload_n 0, 1) := by decide +kernel
theorem dX1_clear_1 : decode cX1_clear 1 = .ok (.getfield 9, 3) := by decide +kernel
theorem dX1_clear_4 : decode cX1_clear 4 = .ok (.iconst 0, 1) := by decide +kernel
theorem dX1_clear_5 : decode cX1_clear 5 = .ok (.invokestatic 18, 3) := by decide +kernel
theorem dX1_clear_8 : decode cX1_clear 8 = .ok (.aload_n 0, 1) := by decide +kernel
theorem dX1_clear_9 : decode cX1_clear 9 = .ok (.invokevirtual 24, 3) := by decide +kernel
theorem dX1_clear_12 : decode cX1_clear 12 = .ok (.aload_n 0, 1) := by decide +kernel
theorem dX1_clear_13 : decode cX1_clear 13 = .ok (.iconst 0, 1) := by decide +kernel
theorem dX1_clear_14 : decode cX1_clear 14 = .ok (.putfield 27, 3) := by decide +kernel
theorem dX1_clear_17 : decode cX1_clear 17 = .ok (.return_, 1) := by decide +kernel
theorem dX1_clearBits_0 : decode cX1_clearBits 0 = .ok (.aload_n 0, 1) := by decide +kernel
theorem dX1_clearBits_1 : decode cX1_clearBits 1 = .ok (.getfield 15, 3) := by decide +kernel
theorem dX1_clearBits_4 : decode cX1_clearBits 4 = .ok (.iconst 0, 1) := by decide +kernel
theorem dX1_clearBits_5 : decode cX1_clearBits 5 = .ok (.invokestatic 18, 3) := by decide +kernel
theorem dX1_clearBits_8 : decode cX1_clearBits 8 = .ok (.return_, 1) := by decide +kernel
theorem dX1_become_0 : decode cX1_become 0 = .ok (.aload_n 0, 1) := by decide +kernel
theorem dX1_become_1 : decode cX1_become 1 = .ok (.aload_n 1, 1) := by decide +kernel
theorem dX1_become_2 : decode cX1_become 2 = .ok (.invokevirtual 31, 3) := by decide +kernel
theorem dX1_become_5 : decode cX1_become 5 = .ok (.aload_n 1, 1) := by decide +kernel
theorem dX1_become_6 : decode cX1_become 6 = .ok (.getfield 15, 3) := by decide +kernel
theorem dX1_become_9 : decode cX1_become 9 = .ok (.iconst 0, 1) := by decide +kernel
theorem dX1_become_10 : decode cX1_become 10 = .ok (.aload_n 0, 1) := by decide +kernel
theorem dX1_become_11 : decode cX1_become 11 = .ok (.getfield 15, 3) := by decide +kernel
theorem dX1_become_14 : decode cX1_become 14 = .ok (.iconst 0, 1) := by decide +kernel
theorem dX1_become_15 : decode cX1_become 15 = .ok (.bipush 16, 2) := by decide +kernel
theorem dX1_become_17 : decode cX1_become 17 = .ok (.invokestatic 35, 3) := by decide +kernel
theorem dX1_become_20 : decode cX1_become 20 = .ok (.aload_n 0, 1) := by decide +kernel
theorem dX1_become_21 : decode cX1_become 21 = .ok (.aload_n 1, 1) := by decide +kernel
theorem dX1_become_22 : decode cX1_become 22 = .ok (.getfield 27, 3) := by decide +kernel
theorem dX1_become_25 : decode cX1_become 25 = .ok (.putfield 27, 3) := by decide +kernel
theorem dX1_become_28 : decode cX1_become 28 = .ok (.return_, 1) := by decide +kernel
theorem dX1_takeWarmth_0 : decode cX1_takeWarmth 0 = .ok (.aload_n 1, 1) := by decide +kernel
theorem dX1_takeWarmth_1 : decode cX1_takeWarmth 1 = .ok (.getfield 9, 3) := by decide +kernel
theorem dX1_takeWarmth_4 : decode cX1_takeWarmth 4 = .ok (.iconst 0, 1) := by decide +kernel
theorem dX1_takeWarmth_5 : decode cX1_takeWarmth 5 = .ok (.aload_n 0, 1) := by decide +kernel
theorem dX1_takeWarmth_6 : decode cX1_takeWarmth 6 = .ok (.getfield 9, 3) := by decide +kernel
theorem dX1_takeWarmth_9 : decode cX1_takeWarmth 9 = .ok (.iconst 0, 1) := by decide +kernel
theorem dX1_takeWarmth_10 : decode cX1_takeWarmth 10 = .ok (.bipush 16, 2) := by decide +kernel
theorem dX1_takeWarmth_12 : decode cX1_takeWarmth 12 = .ok (.invokestatic 35, 3) := by decide +kernel
theorem dX1_takeWarmth_15 : decode cX1_takeWarmth 15 = .ok (.return_, 1) := by decide +kernel
theorem dX1_bitsTogether_0 : decode cX1_bitsTogether 0 = .ok (.iconst 0, 1) := by decide +kernel
theorem dX1_bitsTogether_1 : decode cX1_bitsTogether 1 = .ok (.istore_n 1, 1) := by decide +kernel
theorem dX1_bitsTogether_2 : decode cX1_bitsTogether 2 = .ok (.iconst 0, 1) := by decide +kernel
theorem dX1_bitsTogether_3 : decode cX1_bitsTogether 3 = .ok (.istore_n 2, 1) := by decide +kernel
theorem dX1_bitsTogether_4 : decode cX1_bitsTogether 4 = .ok (.iload_n 2, 1) := by decide +kernel
theorem dX1_bitsTogether_5 : decode cX1_bitsTogether 5 = .ok (.bipush 16, 2) := by decide +kernel
theorem dX1_bitsTogether_7 : decode cX1_bitsTogether 7 = .ok (.if_icmp .ge 18, 3) := by decide +kernel
theorem dX1_bitsTogether_10 : decode cX1_bitsTogether 10 = .ok (.iload_n 1, 1) := by decide +kernel
theorem dX1_bitsTogether_11 : decode cX1_bitsTogether 11 = .ok (.aload_n 0, 1) := by decide +kernel
theorem dX1_bitsTogether_12 : decode cX1_bitsTogether 12 = .ok (.getfield 15, 3) := by decide +kernel
theorem dX1_bitsTogether_15 : decode cX1_bitsTogether 15 = .ok (.iload_n 2, 1) := by decide +kernel
theorem dX1_bitsTogether_16 : decode cX1_bitsTogether 16 = .ok (.iaload, 1) := by decide +kernel
theorem dX1_bitsTogether_17 : decode cX1_bitsTogether 17 = .ok (.iadd, 1) := by decide +kernel
theorem dX1_bitsTogether_18 : decode cX1_bitsTogether 18 = .ok (.istore_n 1, 1) := by decide +kernel
theorem dX1_bitsTogether_19 : decode cX1_bitsTogether 19 = .ok (.iinc 2 1, 3) := by decide +kernel
theorem dX1_bitsTogether_22 : decode cX1_bitsTogether 22 = .ok (.goto (-18), 3) := by decide +kernel
theorem dX1_bitsTogether_25 : decode cX1_bitsTogether 25 = .ok (.iload_n 1, 1) := by decide +kernel
theorem dX1_bitsTogether_26 : decode cX1_bitsTogether 26 = .ok (.ireturn, 1) := by decide +kernel
theorem dX1_cool_0 : decode cX1_cool 0 = .ok (.aload_n 0, 1) := by decide +kernel
theorem dX1_cool_1 : decode cX1_cool 1 = .ok (.getfield 9, 3) := by decide +kernel
theorem dX1_cool_4 : decode cX1_cool 4 = .ok (.iload_n 1, 1) := by decide +kernel
theorem dX1_cool_5 : decode cX1_cool 5 = .ok (.iconst 0, 1) := by decide +kernel
theorem dX1_cool_6 : decode cX1_cool 6 = .ok (.aload_n 0, 1) := by decide +kernel
theorem dX1_cool_7 : decode cX1_cool 7 = .ok (.getfield 9, 3) := by decide +kernel
theorem dX1_cool_10 : decode cX1_cool 10 = .ok (.iload_n 1, 1) := by decide +kernel
theorem dX1_cool_11 : decode cX1_cool 11 = .ok (.iaload, 1) := by decide +kernel
theorem dX1_cool_12 : decode cX1_cool 12 = .ok (.iconst 2, 1) := by decide +kernel
theorem dX1_cool_13 : decode cX1_cool 13 = .ok (.iload_n 2, 1) := by decide +kernel
theorem dX1_cool_14 : decode cX1_cool 14 = .ok (.imul, 1) := by decide +kernel
theorem dX1_cool_15 : decode cX1_cool 15 = .ok (.isub, 1) := by decide +kernel
theorem dX1_cool_16 : decode cX1_cool 16 = .ok (.invokestatic 41, 3) := by decide +kernel
theorem dX1_cool_19 : decode cX1_cool 19 = .ok (.iastore, 1) := by decide +kernel
theorem dX1_cool_20 : decode cX1_cool 20 = .ok (.return_, 1) := by decide +kernel
theorem dX1_heat_0 : decode cX1_heat 0 = .ok (.aload_n 0, 1) := by decide +kernel
theorem dX1_heat_1 : decode cX1_heat 1 = .ok (.getfield 9, 3) := by decide +kernel
theorem dX1_heat_4 : decode cX1_heat 4 = .ok (.iload_n 1, 1) := by decide +kernel
theorem dX1_heat_5 : decode cX1_heat 5 = .ok (.iaload, 1) := by decide +kernel
theorem dX1_heat_6 : decode cX1_heat 6 = .ok (.istore 5, 2) := by decide +kernel
theorem dX1_heat_8 : decode cX1_heat 8 = .ok (.iconst 0, 1) := by decide +kernel
theorem dX1_heat_9 : decode cX1_heat 9 = .ok (.istore 6, 2) := by decide +kernel
theorem dX1_heat_11 : decode cX1_heat 11 = .ok (.iload_n 3, 1) := by decide +kernel
theorem dX1_heat_12 : decode cX1_heat 12 = .ok (.istore 7, 2) := by decide +kernel
theorem dX1_heat_14 : decode cX1_heat 14 = .ok (.iload 7, 2) := by decide +kernel
theorem dX1_heat_16 : decode cX1_heat 16 = .ok (.ifCond .le 76, 3) := by decide +kernel
theorem dX1_heat_19 : decode cX1_heat 19 = .ok (.iload_n 2, 1) := by decide +kernel
theorem dX1_heat_20 : decode cX1_heat 20 = .ok (.iload 5, 2) := by decide +kernel
theorem dX1_heat_22 : decode cX1_heat 22 = .ok (.bipush 10, 2) := by decide +kernel
theorem dX1_heat_24 : decode cX1_heat 24 = .ok (.idiv, 1) := by decide +kernel
theorem dX1_heat_25 : decode cX1_heat 25 = .ok (.isub, 1) := by decide +kernel
theorem dX1_heat_26 : decode cX1_heat 26 = .ok (.istore 8, 2) := by decide +kernel
theorem dX1_heat_28 : decode cX1_heat 28 = .ok (.iload 8, 2) := by decide +kernel
theorem dX1_heat_30 : decode cX1_heat 30 = .ok (.ifCond .ne 8, 3) := by decide +kernel
theorem dX1_heat_33 : decode cX1_heat 33 = .ok (.iload 7, 2) := by decide +kernel
theorem dX1_heat_35 : decode cX1_heat 35 = .ok (.goto 4, 3) := by decide +kernel
theorem dX1_heat_38 : decode cX1_heat 38 = .ok (.iconst 1, 1) := by decide +kernel
theorem dX1_heat_39 : decode cX1_heat 39 = .ok (.istore 9, 2) := by decide +kernel
theorem dX1_heat_41 : decode cX1_heat 41 = .ok (.iload 5, 2) := by decide +kernel
theorem dX1_heat_43 : decode cX1_heat 43 = .ok (.iload 8, 2) := by decide +kernel
theorem dX1_heat_45 : decode cX1_heat 45 = .ok (.iadd, 1) := by decide +kernel
theorem dX1_heat_46 : decode cX1_heat 46 = .ok (.istore 5, 2) := by decide +kernel
theorem dX1_heat_48 : decode cX1_heat 48 = .ok (.iload 4, 2) := by decide +kernel
theorem dX1_heat_50 : decode cX1_heat 50 = .ok (.ifCond .le 28, 3) := by decide +kernel
theorem dX1_heat_53 : decode cX1_heat 53 = .ok (.iload 5, 2) := by decide +kernel
theorem dX1_heat_55 : decode cX1_heat 55 = .ok (.bipush 60, 2) := by decide +kernel
theorem dX1_heat_57 : decode cX1_heat 57 = .ok (.if_icmp .le 21, 3) := by decide +kernel
theorem dX1_heat_60 : decode cX1_heat 60 = .ok (.iload 6, 2) := by decide +kernel
theorem dX1_heat_62 : decode cX1_heat 62 = .ok (.iload 9, 2) := by decide +kernel
theorem dX1_heat_64 : decode cX1_heat 64 = .ok (.iload 5, 2) := by decide +kernel
theorem dX1_heat_66 : decode cX1_heat 66 = .ok (.bipush 60, 2) := by decide +kernel
theorem dX1_heat_68 : decode cX1_heat 68 = .ok (.isub, 1) := by decide +kernel
theorem dX1_heat_69 : decode cX1_heat 69 = .ok (.iload 4, 2) := by decide +kernel
theorem dX1_heat_71 : decode cX1_heat 71 = .ok (.iconst 2, 1) := by decide +kernel
theorem dX1_heat_72 : decode cX1_heat 72 = .ok (.iadd, 1) := by decide +kernel
theorem dX1_heat_73 : decode cX1_heat 73 = .ok (.idiv, 1) := by decide +kernel
theorem dX1_heat_74 : decode cX1_heat 74 = .ok (.imul, 1) := by decide +kernel
theorem dX1_heat_75 : decode cX1_heat 75 = .ok (.iadd, 1) := by decide +kernel
theorem dX1_heat_76 : decode cX1_heat 76 = .ok (.istore 6, 2) := by decide +kernel
theorem dX1_heat_78 : decode cX1_heat 78 = .ok (.iload 8, 2) := by decide +kernel
theorem dX1_heat_80 : decode cX1_heat 80 = .ok (.ifCond .ne 6, 3) := by decide +kernel
theorem dX1_heat_83 : decode cX1_heat 83 = .ok (.goto 9, 3) := by decide +kernel
theorem dX1_heat_86 : decode cX1_heat 86 = .ok (.iinc 7 (-1), 3) := by decide +kernel
theorem dX1_heat_89 : decode cX1_heat 89 = .ok (.goto (-75), 3) := by decide +kernel
theorem dX1_heat_92 : decode cX1_heat 92 = .ok (.aload_n 0, 1) := by decide +kernel
theorem dX1_heat_93 : decode cX1_heat 93 = .ok (.getfield 9, 3) := by decide +kernel
theorem dX1_heat_96 : decode cX1_heat 96 = .ok (.iload_n 1, 1) := by decide +kernel
theorem dX1_heat_97 : decode cX1_heat 97 = .ok (.iload 5, 2) := by decide +kernel
theorem dX1_heat_99 : decode cX1_heat 99 = .ok (.iastore, 1) := by decide +kernel
theorem dX1_heat_100 : decode cX1_heat 100 = .ok (.iload 6, 2) := by decide +kernel
theorem dX1_heat_102 : decode cX1_heat 102 = .ok (.ireturn, 1) := by decide +kernel
theorem dX2_init_0 : decode cX2_init 0 = .ok (.aload_n 0, 1) := by decide +kernel
theorem dX2_init_1 : decode cX2_init 1 = .ok (.invokespecial 3, 3) := by decide +kernel
theorem dX2_init_4 : decode cX2_init 4 = .ok (.aload_n 0, 1) := by decide +kernel
theorem dX2_init_5 : decode cX2_init 5 = .ok (.new 9, 3) := by decide +kernel
theorem dX2_init_8 : decode cX2_init 8 = .ok (.dup, 1) := by decide +kernel
theorem dX2_init_9 : decode cX2_init 9 = .ok (.invokespecial 11, 3) := by decide +kernel
theorem dX2_init_12 : decode cX2_init 12 = .ok (.putfield 12, 3) := by decide +kernel
theorem dX2_init_15 : decode cX2_init 15 = .ok (.aload_n 0, 1) := by decide +kernel
theorem dX2_init_16 : decode cX2_init 16 = .ok (.new 18, 3) := by decide +kernel
theorem dX2_init_19 : decode cX2_init 19 = .ok (.dup, 1) := by decide +kernel
theorem dX2_init_20 : decode cX2_init 20 = .ok (.invokespecial 20, 3) := by decide +kernel
theorem dX2_init_23 : decode cX2_init 23 = .ok (.putfield 21, 3) := by decide +kernel
theorem dX2_init_26 : decode cX2_init 26 = .ok (.aload_n 0, 1) := by decide +kernel
theorem dX2_init_27 : decode cX2_init 27 = .ok (.new 18, 3) := by decide +kernel
theorem dX2_init_30 : decode cX2_init 30 = .ok (.dup, 1) := by decide +kernel
theorem dX2_init_31 : decode cX2_init 31 = .ok (.invokespecial 20, 3) := by decide +kernel
theorem dX2_init_34 : decode cX2_init 34 = .ok (.putfield 25, 3) := by decide +kernel
theorem dX2_init_37 : decode cX2_init 37 = .ok (.aload_n 0, 1) := by decide +kernel
theorem dX2_init_38 : decode cX2_init 38 = .ok (.new 28, 3) := by decide +kernel
theorem dX2_init_41 : decode cX2_init 41 = .ok (.dup, 1) := by decide +kernel
theorem dX2_init_42 : decode cX2_init 42 = .ok (.invokespecial 30, 3) := by decide +kernel
theorem dX2_init_45 : decode cX2_init 45 = .ok (.putfield 31, 3) := by decide +kernel
theorem dX2_init_48 : decode cX2_init 48 = .ok (.aload_n 0, 1) := by decide +kernel
theorem dX2_init_49 : decode cX2_init 49 = .ok (.new 35, 3) := by decide +kernel
theorem dX2_init_52 : decode cX2_init 52 = .ok (.dup, 1) := by decide +kernel
theorem dX2_init_53 : decode cX2_init 53 = .ok (.invokespecial 37, 3) := by decide +kernel
theorem dX2_init_56 : decode cX2_init 56 = .ok (.putfield 38, 3) := by decide +kernel
theorem dX2_init_59 : decode cX2_init 59 = .ok (.return_, 1) := by decide +kernel
theorem dX2_next_0 : decode cX2_next 0 = .ok (.aload_n 0, 1) := by decide +kernel
theorem dX2_next_1 : decode cX2_next 1 = .ok (.getfield 21, 3) := by decide +kernel
theorem dX2_next_4 : decode cX2_next 4 = .ok (.aload_n 1, 1) := by decide +kernel
theorem dX2_next_5 : decode cX2_next 5 = .ok (.invokevirtual 42, 3) := by decide +kernel
theorem dX2_next_8 : decode cX2_next 8 = .ok (.aload_n 0, 1) := by decide +kernel
theorem dX2_next_9 : decode cX2_next 9 = .ok (.getfield 12, 3) := by decide +kernel
theorem dX2_next_12 : decode cX2_next 12 = .ok (.aload_n 0, 1) := by decide +kernel
theorem dX2_next_13 : decode cX2_next 13 = .ok (.getfield 21, 3) := by decide +kernel
theorem dX2_next_16 : decode cX2_next 16 = .ok (.aload_n 2, 1) := by decide +kernel
theorem dX2_next_17 : decode cX2_next 17 = .ok (.aload_n 0, 1) := by decide +kernel
theorem dX2_next_18 : decode cX2_next 18 = .ok (.getfield 31, 3) := by decide +kernel
theorem dX2_next_21 : decode cX2_next 21 = .ok (.invokevirtual 46, 3) := by decide +kernel
theorem dX2_next_24 : decode cX2_next 24 = .ok (.aload_n 0, 1) := by decide +kernel
theorem dX2_next_25 : decode cX2_next 25 = .ok (.getfield 31, 3) := by decide +kernel
theorem dX2_next_28 : decode cX2_next 28 = .ok (.areturn, 1) := by decide +kernel
theorem dX2_firstOfTheRight_0 : decode cX2_firstOfTheRight 0 = .ok (.aload_n 0, 1) := by decide +kernel
theorem dX2_firstOfTheRight_1 : decode cX2_firstOfTheRight 1 = .ok (.getfield 21, 3) := by decide +kernel
theorem dX2_firstOfTheRight_4 : decode cX2_firstOfTheRight 4 = .ok (.aload_n 1, 1) := by decide +kernel
theorem dX2_firstOfTheRight_5 : decode cX2_firstOfTheRight 5 = .ok (.invokevirtual 42, 3) := by decide +kernel
theorem dX2_firstOfTheRight_8 : decode cX2_firstOfTheRight 8 = .ok (.iconst 0, 1) := by decide +kernel
theorem dX2_firstOfTheRight_9 : decode cX2_firstOfTheRight 9 = .ok (.istore_n 3, 1) := by decide +kernel
theorem dX2_firstOfTheRight_10 : decode cX2_firstOfTheRight 10 = .ok (.iconst 0, 1) := by decide +kernel
theorem dX2_firstOfTheRight_11 : decode cX2_firstOfTheRight 11 = .ok (.istore 4, 2) := by decide +kernel
theorem dX2_firstOfTheRight_13 : decode cX2_firstOfTheRight 13 = .ok (.iload 4, 2) := by decide +kernel
theorem dX2_firstOfTheRight_15 : decode cX2_firstOfTheRight 15 = .ok (.bipush 12, 2) := by decide +kernel
theorem dX2_firstOfTheRight_17 : decode cX2_firstOfTheRight 17 = .ok (.if_icmp .ge 40, 3) := by decide +kernel
theorem dX2_firstOfTheRight_20 : decode cX2_firstOfTheRight 20 = .ok (.aload_n 0, 1) := by decide +kernel
theorem dX2_firstOfTheRight_21 : decode cX2_firstOfTheRight 21 = .ok (.getfield 12, 3) := by decide +kernel
theorem dX2_firstOfTheRight_24 : decode cX2_firstOfTheRight 24 = .ok (.aload_n 0, 1) := by decide +kernel
theorem dX2_firstOfTheRight_25 : decode cX2_firstOfTheRight 25 = .ok (.getfield 21, 3) := by decide +kernel
theorem dX2_firstOfTheRight_28 : decode cX2_firstOfTheRight 28 = .ok (.aload_n 2, 1) := by decide +kernel
theorem dX2_firstOfTheRight_29 : decode cX2_firstOfTheRight 29 = .ok (.aload_n 0, 1) := by decide +kernel
theorem dX2_firstOfTheRight_30 : decode cX2_firstOfTheRight 30 = .ok (.getfield 31, 3) := by decide +kernel
theorem dX2_firstOfTheRight_33 : decode cX2_firstOfTheRight 33 = .ok (.invokevirtual 46, 3) := by decide +kernel
theorem dX2_firstOfTheRight_36 : decode cX2_firstOfTheRight 36 = .ok (.aload_n 0, 1) := by decide +kernel
theorem dX2_firstOfTheRight_37 : decode cX2_firstOfTheRight 37 = .ok (.getfield 31, 3) := by decide +kernel
theorem dX2_firstOfTheRight_40 : decode cX2_firstOfTheRight 40 = .ok (.invokevirtual 50, 3) := by decide +kernel
theorem dX2_firstOfTheRight_43 : decode cX2_firstOfTheRight 43 = .ok (.ifCond .ne 8, 3) := by decide +kernel
theorem dX2_firstOfTheRight_46 : decode cX2_firstOfTheRight 46 = .ok (.iload 4, 2) := by decide +kernel
theorem dX2_firstOfTheRight_48 : decode cX2_firstOfTheRight 48 = .ok (.iconst 1, 1) := by decide +kernel
theorem dX2_firstOfTheRight_49 : decode cX2_firstOfTheRight 49 = .ok (.iadd, 1) := by decide +kernel
theorem dX2_firstOfTheRight_50 : decode cX2_firstOfTheRight 50 = .ok (.istore_n 3, 1) := by decide +kernel
theorem dX2_firstOfTheRight_51 : decode cX2_firstOfTheRight 51 = .ok (.iinc 4 1, 3) := by decide +kernel
theorem dX2_firstOfTheRight_54 : decode cX2_firstOfTheRight 54 = .ok (.goto (-41), 3) := by decide +kernel
theorem dX2_firstOfTheRight_57 : decode cX2_firstOfTheRight 57 = .ok (.iload_n 3, 1) := by decide +kernel
theorem dX2_firstOfTheRight_58 : decode cX2_firstOfTheRight 58 = .ok (.bipush 12, 2) := by decide +kernel
theorem dX2_firstOfTheRight_60 : decode cX2_firstOfTheRight 60 = .ok (.if_icmp .ge 7, 3) := by decide +kernel
theorem dX2_firstOfTheRight_63 : decode cX2_firstOfTheRight 63 = .ok (.iload_n 3, 1) := by decide +kernel
theorem dX2_firstOfTheRight_64 : decode cX2_firstOfTheRight 64 = .ok (.goto 4, 3) := by decide +kernel
theorem dX2_firstOfTheRight_67 : decode cX2_firstOfTheRight 67 = .ok (.iconst (-1), 1) := by decide +kernel
theorem dX2_firstOfTheRight_68 : decode cX2_firstOfTheRight 68 = .ok (.ireturn, 1) := by decide +kernel
theorem dX2_notRight_0 : decode cX2_notRight 0 = .ok (.aload_n 0, 1) := by decide +kernel
theorem dX2_notRight_1 : decode cX2_notRight 1 = .ok (.getfield 21, 3) := by decide +kernel
theorem dX2_notRight_4 : decode cX2_notRight 4 = .ok (.aload_n 1, 1) := by decide +kernel
theorem dX2_notRight_5 : decode cX2_notRight 5 = .ok (.invokevirtual 42, 3) := by decide +kernel
theorem dX2_notRight_8 : decode cX2_notRight 8 = .ok (.iconst 0, 1) := by decide +kernel
theorem dX2_notRight_9 : decode cX2_notRight 9 = .ok (.istore_n 3, 1) := by decide +kernel
theorem dX2_notRight_10 : decode cX2_notRight 10 = .ok (.iconst 0, 1) := by decide +kernel
theorem dX2_notRight_11 : decode cX2_notRight 11 = .ok (.istore 4, 2) := by decide +kernel
theorem dX2_notRight_13 : decode cX2_notRight 13 = .ok (.iload 4, 2) := by decide +kernel
theorem dX2_notRight_15 : decode cX2_notRight 15 = .ok (.bipush 12, 2) := by decide +kernel
theorem dX2_notRight_17 : decode cX2_notRight 17 = .ok (.if_icmp .ge 38, 3) := by decide +kernel
theorem dX2_notRight_20 : decode cX2_notRight 20 = .ok (.aload_n 0, 1) := by decide +kernel
theorem dX2_notRight_21 : decode cX2_notRight 21 = .ok (.getfield 12, 3) := by decide +kernel
theorem dX2_notRight_24 : decode cX2_notRight 24 = .ok (.aload_n 0, 1) := by decide +kernel
theorem dX2_notRight_25 : decode cX2_notRight 25 = .ok (.getfield 21, 3) := by decide +kernel
theorem dX2_notRight_28 : decode cX2_notRight 28 = .ok (.aload_n 2, 1) := by decide +kernel
theorem dX2_notRight_29 : decode cX2_notRight 29 = .ok (.aload_n 0, 1) := by decide +kernel
theorem dX2_notRight_30 : decode cX2_notRight 30 = .ok (.getfield 31, 3) := by decide +kernel
theorem dX2_notRight_33 : decode cX2_notRight 33 = .ok (.invokevirtual 46, 3) := by decide +kernel
theorem dX2_notRight_36 : decode cX2_notRight 36 = .ok (.aload_n 0, 1) := by decide +kernel
theorem dX2_notRight_37 : decode cX2_notRight 37 = .ok (.getfield 31, 3) := by decide +kernel
theorem dX2_notRight_40 : decode cX2_notRight 40 = .ok (.invokevirtual 50, 3) := by decide +kernel
theorem dX2_notRight_43 : decode cX2_notRight 43 = .ok (.ifCond .ne 6, 3) := by decide +kernel
theorem dX2_notRight_46 : decode cX2_notRight 46 = .ok (.iinc 3 1, 3) := by decide +kernel
theorem dX2_notRight_49 : decode cX2_notRight 49 = .ok (.iinc 4 1, 3) := by decide +kernel
theorem dX2_notRight_52 : decode cX2_notRight 52 = .ok (.goto (-39), 3) := by decide +kernel
theorem dX2_notRight_55 : decode cX2_notRight 55 = .ok (.iload_n 3, 1) := by decide +kernel
theorem dX2_notRight_56 : decode cX2_notRight 56 = .ok (.ireturn, 1) := by decide +kernel
theorem dX2_reasons_0 : decode cX2_reasons 0 = .ok (.aload_n 0, 1) := by decide +kernel
theorem dX2_reasons_1 : decode cX2_reasons 1 = .ok (.aload_n 1, 1) := by decide +kernel
theorem dX2_reasons_2 : decode cX2_reasons 2 = .ok (.aload_n 2, 1) := by decide +kernel
theorem dX2_reasons_3 : decode cX2_reasons 3 = .ok (.invokevirtual 54, 3) := by decide +kernel
theorem dX2_reasons_6 : decode cX2_reasons 6 = .ok (.invokevirtual 50, 3) := by decide +kernel
theorem dX2_reasons_9 : decode cX2_reasons 9 = .ok (.ifCond .eq 5, 3) := by decide +kernel
theorem dX2_reasons_12 : decode cX2_reasons 12 = .ok (.iconst (-1), 1) := by decide +kernel
theorem dX2_reasons_13 : decode cX2_reasons 13 = .ok (.ireturn, 1) := by decide +kernel
theorem dX2_reasons_14 : decode cX2_reasons 14 = .ok (.iconst 0, 1) := by decide +kernel
theorem dX2_reasons_15 : decode cX2_reasons 15 = .ok (.istore_n 3, 1) := by decide +kernel
theorem dX2_reasons_16 : decode cX2_reasons 16 = .ok (.aload_n 0, 1) := by decide +kernel
theorem dX2_reasons_17 : decode cX2_reasons 17 = .ok (.aload_n 1, 1) := by decide +kernel
theorem dX2_reasons_18 : decode cX2_reasons 18 = .ok (.aload_n 2, 1) := by decide +kernel
theorem dX2_reasons_19 : decode cX2_reasons 19 = .ok (.invokevirtual 58, 3) := by decide +kernel
theorem dX2_reasons_22 : decode cX2_reasons 22 = .ok (.aload_n 0, 1) := by decide +kernel
theorem dX2_reasons_23 : decode cX2_reasons 23 = .ok (.aload_n 0, 1) := by decide +kernel
theorem dX2_reasons_24 : decode cX2_reasons 24 = .ok (.getfield 25, 3) := by decide +kernel
theorem dX2_reasons_27 : decode cX2_reasons 27 = .ok (.aload_n 2, 1) := by decide +kernel
theorem dX2_reasons_28 : decode cX2_reasons 28 = .ok (.invokevirtual 54, 3) := by decide +kernel
theorem dX2_reasons_31 : decode cX2_reasons 31 = .ok (.invokevirtual 50, 3) := by decide +kernel
theorem dX2_reasons_34 : decode cX2_reasons 34 = .ok (.ifCond .eq 6, 3) := by decide +kernel
theorem dX2_reasons_37 : decode cX2_reasons 37 = .ok (.iinc 3 1, 3) := by decide +kernel
theorem dX2_reasons_40 : decode cX2_reasons 40 = .ok (.aload_n 0, 1) := by decide +kernel
theorem dX2_reasons_41 : decode cX2_reasons 41 = .ok (.getfield 25, 3) := by decide +kernel
theorem dX2_reasons_44 : decode cX2_reasons 44 = .ok (.aload_n 1, 1) := by decide +kernel
theorem dX2_reasons_45 : decode cX2_reasons 45 = .ok (.invokevirtual 42, 3) := by decide +kernel
theorem dX2_reasons_48 : decode cX2_reasons 48 = .ok (.aload_n 0, 1) := by decide +kernel
theorem dX2_reasons_49 : decode cX2_reasons 49 = .ok (.getfield 25, 3) := by decide +kernel
theorem dX2_reasons_52 : decode cX2_reasons 52 = .ok (.bipush 9, 2) := by decide +kernel
theorem dX2_reasons_54 : decode cX2_reasons 54 = .ok (.putfield 62, 3) := by decide +kernel
theorem dX2_reasons_57 : decode cX2_reasons 57 = .ok (.aload_n 0, 1) := by decide +kernel
theorem dX2_reasons_58 : decode cX2_reasons 58 = .ok (.aload_n 0, 1) := by decide +kernel
theorem dX2_reasons_59 : decode cX2_reasons 59 = .ok (.getfield 25, 3) := by decide +kernel
theorem dX2_reasons_62 : decode cX2_reasons 62 = .ok (.aload_n 2, 1) := by decide +kernel
theorem dX2_reasons_63 : decode cX2_reasons 63 = .ok (.invokevirtual 54, 3) := by decide +kernel
theorem dX2_reasons_66 : decode cX2_reasons 66 = .ok (.invokevirtual 50, 3) := by decide +kernel
theorem dX2_reasons_69 : decode cX2_reasons 69 = .ok (.ifCond .eq 6, 3) := by decide +kernel
theorem dX2_reasons_72 : decode cX2_reasons 72 = .ok (.iinc 3 2, 3) := by decide +kernel
theorem dX2_reasons_75 : decode cX2_reasons 75 = .ok (.aload_n 0, 1) := by decide +kernel
theorem dX2_reasons_76 : decode cX2_reasons 76 = .ok (.getfield 25, 3) := by decide +kernel
theorem dX2_reasons_79 : decode cX2_reasons 79 = .ok (.aload_n 1, 1) := by decide +kernel
theorem dX2_reasons_80 : decode cX2_reasons 80 = .ok (.invokevirtual 42, 3) := by decide +kernel
theorem dX2_reasons_83 : decode cX2_reasons 83 = .ok (.aload_n 0, 1) := by decide +kernel
theorem dX2_reasons_84 : decode cX2_reasons 84 = .ok (.getfield 25, 3) := by decide +kernel
theorem dX2_reasons_87 : decode cX2_reasons 87 = .ok (.invokevirtual 66, 3) := by decide +kernel
theorem dX2_reasons_90 : decode cX2_reasons 90 = .ok (.aload_n 0, 1) := by decide +kernel
theorem dX2_reasons_91 : decode cX2_reasons 91 = .ok (.aload_n 0, 1) := by decide +kernel
theorem dX2_reasons_92 : decode cX2_reasons 92 = .ok (.getfield 25, 3) := by decide +kernel
theorem dX2_reasons_95 : decode cX2_reasons 95 = .ok (.aload_n 2, 1) := by decide +kernel
theorem dX2_reasons_96 : decode cX2_reasons 96 = .ok (.invokevirtual 54, 3) := by decide +kernel
theorem dX2_reasons_99 : decode cX2_reasons 99 = .ok (.invokevirtual 50, 3) := by decide +kernel
theorem dX2_reasons_102 : decode cX2_reasons 102 = .ok (.ifCond .eq 6, 3) := by decide +kernel
theorem dX2_reasons_105 : decode cX2_reasons 105 = .ok (.iinc 3 4, 3) := by decide +kernel
theorem dX2_reasons_108 : decode cX2_reasons 108 = .ok (.iload_n 3, 1) := by decide +kernel
theorem dX2_reasons_109 : decode cX2_reasons 109 = .ok (.ireturn, 1) := by decide +kernel
theorem dX2_warmBySix_0 : decode cX2_warmBySix 0 = .ok (.aload_n 0, 1) := by decide +kernel
theorem dX2_warmBySix_1 : decode cX2_warmBySix 1 = .ok (.getfield 21, 3) := by decide +kernel
theorem dX2_warmBySix_4 : decode cX2_warmBySix 4 = .ok (.aload_n 1, 1) := by decide +kernel
theorem dX2_warmBySix_5 : decode cX2_warmBySix 5 = .ok (.invokevirtual 42, 3) := by decide +kernel
theorem dX2_warmBySix_8 : decode cX2_warmBySix 8 = .ok (.iconst 0, 1) := by decide +kernel
theorem dX2_warmBySix_9 : decode cX2_warmBySix 9 = .ok (.istore_n 3, 1) := by decide +kernel
theorem dX2_warmBySix_10 : decode cX2_warmBySix 10 = .ok (.iload_n 3, 1) := by decide +kernel
theorem dX2_warmBySix_11 : decode cX2_warmBySix 11 = .ok (.bipush 6, 2) := by decide +kernel
theorem dX2_warmBySix_13 : decode cX2_warmBySix 13 = .ok (.if_icmp .ge 25, 3) := by decide +kernel
theorem dX2_warmBySix_16 : decode cX2_warmBySix 16 = .ok (.aload_n 0, 1) := by decide +kernel
theorem dX2_warmBySix_17 : decode cX2_warmBySix 17 = .ok (.getfield 12, 3) := by decide +kernel
theorem dX2_warmBySix_20 : decode cX2_warmBySix 20 = .ok (.aload_n 0, 1) := by decide +kernel
theorem dX2_warmBySix_21 : decode cX2_warmBySix 21 = .ok (.getfield 21, 3) := by decide +kernel
theorem dX2_warmBySix_24 : decode cX2_warmBySix 24 = .ok (.aload_n 2, 1) := by decide +kernel
theorem dX2_warmBySix_25 : decode cX2_warmBySix 25 = .ok (.aload_n 0, 1) := by decide +kernel
theorem dX2_warmBySix_26 : decode cX2_warmBySix 26 = .ok (.getfield 31, 3) := by decide +kernel
theorem dX2_warmBySix_29 : decode cX2_warmBySix 29 = .ok (.invokevirtual 46, 3) := by decide +kernel
theorem dX2_warmBySix_32 : decode cX2_warmBySix 32 = .ok (.iinc 3 1, 3) := by decide +kernel
theorem dX2_warmBySix_35 : decode cX2_warmBySix 35 = .ok (.goto (-25), 3) := by decide +kernel
theorem dX2_warmBySix_38 : decode cX2_warmBySix 38 = .ok (.aload_n 0, 1) := by decide +kernel
theorem dX2_warmBySix_39 : decode cX2_warmBySix 39 = .ok (.getfield 25, 3) := by decide +kernel
theorem dX2_warmBySix_42 : decode cX2_warmBySix 42 = .ok (.aload_n 1, 1) := by decide +kernel
theorem dX2_warmBySix_43 : decode cX2_warmBySix 43 = .ok (.invokevirtual 42, 3) := by decide +kernel
theorem dX2_warmBySix_46 : decode cX2_warmBySix 46 = .ok (.aload_n 0, 1) := by decide +kernel
theorem dX2_warmBySix_47 : decode cX2_warmBySix 47 = .ok (.getfield 25, 3) := by decide +kernel
theorem dX2_warmBySix_50 : decode cX2_warmBySix 50 = .ok (.aload_n 0, 1) := by decide +kernel
theorem dX2_warmBySix_51 : decode cX2_warmBySix 51 = .ok (.getfield 21, 3) := by decide +kernel
theorem dX2_warmBySix_54 : decode cX2_warmBySix 54 = .ok (.invokevirtual 69, 3) := by decide +kernel
theorem dX2_warmBySix_57 : decode cX2_warmBySix 57 = .ok (.return_, 1) := by decide +kernel
theorem dX2_findFire_0 : decode cX2_findFire 0 = .ok (.aload_n 0, 1) := by decide +kernel
theorem dX2_findFire_1 : decode cX2_findFire 1 = .ok (.getfield 38, 3) := by decide +kernel
theorem dX2_findFire_4 : decode cX2_findFire 4 = .ok (.aload_n 2, 1) := by decide +kernel
theorem dX2_findFire_5 : decode cX2_findFire 5 = .ok (.invokevirtual 72, 3) := by decide +kernel
theorem dX2_findFire_8 : decode cX2_findFire 8 = .ok (.aload_n 0, 1) := by decide +kernel
theorem dX2_findFire_9 : decode cX2_findFire 9 = .ok (.iconst (-1), 1) := by decide +kernel
theorem dX2_findFire_10 : decode cX2_findFire 10 = .ok (.putfield 75, 3) := by decide +kernel
theorem dX2_findFire_13 : decode cX2_findFire 13 = .ok (.iconst 1, 1) := by decide +kernel
theorem dX2_findFire_14 : decode cX2_findFire 14 = .ok (.istore 4, 2) := by decide +kernel
theorem dX2_findFire_16 : decode cX2_findFire 16 = .ok (.iload 4, 2) := by decide +kernel
theorem dX2_findFire_18 : decode cX2_findFire 18 = .ok (.bipush 9, 2) := by decide +kernel
theorem dX2_findFire_20 : decode cX2_findFire 20 = .ok (.if_icmp .gt 47, 3) := by decide +kernel
theorem dX2_findFire_23 : decode cX2_findFire 23 = .ok (.aload_n 0, 1) := by decide +kernel
theorem dX2_findFire_24 : decode cX2_findFire 24 = .ok (.getfield 38, 3) := by decide +kernel
theorem dX2_findFire_27 : decode cX2_findFire 27 = .ok (.iload 4, 2) := by decide +kernel
theorem dX2_findFire_29 : decode cX2_findFire 29 = .ok (.putfield 78, 3) := by decide +kernel
theorem dX2_findFire_32 : decode cX2_findFire 32 = .ok (.aload_n 0, 1) := by decide +kernel
theorem dX2_findFire_33 : decode cX2_findFire 33 = .ok (.aload_n 1, 1) := by decide +kernel
theorem dX2_findFire_34 : decode cX2_findFire 34 = .ok (.iload_n 3, 1) := by decide +kernel
theorem dX2_findFire_35 : decode cX2_findFire 35 = .ok (.invokevirtual 81, 3) := by decide +kernel
theorem dX2_findFire_38 : decode cX2_findFire 38 = .ok (.istore 5, 2) := by decide +kernel
theorem dX2_findFire_40 : decode cX2_findFire 40 = .ok (.iload 5, 2) := by decide +kernel
theorem dX2_findFire_42 : decode cX2_findFire 42 = .ok (.aload_n 0, 1) := by decide +kernel
theorem dX2_findFire_43 : decode cX2_findFire 43 = .ok (.getfield 75, 3) := by decide +kernel
theorem dX2_findFire_46 : decode cX2_findFire 46 = .ok (.if_icmp .le 15, 3) := by decide +kernel
theorem dX2_findFire_49 : decode cX2_findFire 49 = .ok (.aload_n 0, 1) := by decide +kernel
theorem dX2_findFire_50 : decode cX2_findFire 50 = .ok (.iload 5, 2) := by decide +kernel
theorem dX2_findFire_52 : decode cX2_findFire 52 = .ok (.putfield 75, 3) := by decide +kernel
theorem dX2_findFire_55 : decode cX2_findFire 55 = .ok (.aload_n 0, 1) := by decide +kernel
theorem dX2_findFire_56 : decode cX2_findFire 56 = .ok (.iload 4, 2) := by decide +kernel
theorem dX2_findFire_58 : decode cX2_findFire 58 = .ok (.putfield 85, 3) := by decide +kernel
theorem dX2_findFire_61 : decode cX2_findFire 61 = .ok (.iinc 4 1, 3) := by decide +kernel
theorem dX2_findFire_64 : decode cX2_findFire 64 = .ok (.goto (-48), 3) := by decide +kernel
theorem dX2_findFire_67 : decode cX2_findFire 67 = .ok (.return_, 1) := by decide +kernel
theorem dX2_worthOf_0 : decode cX2_worthOf 0 = .ok (.aload_n 0, 1) := by decide +kernel
theorem dX2_worthOf_1 : decode cX2_worthOf 1 = .ok (.getfield 21, 3) := by decide +kernel
theorem dX2_worthOf_4 : decode cX2_worthOf 4 = .ok (.aload_n 1, 1) := by decide +kernel
theorem dX2_worthOf_5 : decode cX2_worthOf 5 = .ok (.invokevirtual 42, 3) := by decide +kernel
theorem dX2_worthOf_8 : decode cX2_worthOf 8 = .ok (.iconst 0, 1) := by decide +kernel
theorem dX2_worthOf_9 : decode cX2_worthOf 9 = .ok (.istore_n 3, 1) := by decide +kernel
theorem dX2_worthOf_10 : decode cX2_worthOf 10 = .ok (.iconst 0, 1) := by decide +kernel
theorem dX2_worthOf_11 : decode cX2_worthOf 11 = .ok (.istore 4, 2) := by decide +kernel
theorem dX2_worthOf_13 : decode cX2_worthOf 13 = .ok (.iload 4, 2) := by decide +kernel
theorem dX2_worthOf_15 : decode cX2_worthOf 15 = .ok (.iload_n 2, 1) := by decide +kernel
theorem dX2_worthOf_16 : decode cX2_worthOf 16 = .ok (.if_icmp .ge 41, 3) := by decide +kernel
theorem dX2_worthOf_19 : decode cX2_worthOf 19 = .ok (.aload_n 0, 1) := by decide +kernel
theorem dX2_worthOf_20 : decode cX2_worthOf 20 = .ok (.getfield 12, 3) := by decide +kernel
theorem dX2_worthOf_23 : decode cX2_worthOf 23 = .ok (.aload_n 0, 1) := by decide +kernel
theorem dX2_worthOf_24 : decode cX2_worthOf 24 = .ok (.getfield 21, 3) := by decide +kernel
theorem dX2_worthOf_27 : decode cX2_worthOf 27 = .ok (.aload_n 0, 1) := by decide +kernel
theorem dX2_worthOf_28 : decode cX2_worthOf 28 = .ok (.getfield 38, 3) := by decide +kernel
theorem dX2_worthOf_31 : decode cX2_worthOf 31 = .ok (.aload_n 0, 1) := by decide +kernel
theorem dX2_worthOf_32 : decode cX2_worthOf 32 = .ok (.getfield 31, 3) := by decide +kernel
theorem dX2_worthOf_35 : decode cX2_worthOf 35 = .ok (.invokevirtual 46, 3) := by decide +kernel
theorem dX2_worthOf_38 : decode cX2_worthOf 38 = .ok (.iload_n 3, 1) := by decide +kernel
theorem dX2_worthOf_39 : decode cX2_worthOf 39 = .ok (.aload_n 0, 1) := by decide +kernel
theorem dX2_worthOf_40 : decode cX2_worthOf 40 = .ok (.getfield 31, 3) := by decide +kernel
theorem dX2_worthOf_43 : decode cX2_worthOf 43 = .ok (.getfield 88, 3) := by decide +kernel
theorem dX2_worthOf_46 : decode cX2_worthOf 46 = .ok (.bipush 6, 2) := by decide +kernel
theorem dX2_worthOf_48 : decode cX2_worthOf 48 = .ok (.iaload, 1) := by decide +kernel
theorem dX2_worthOf_49 : decode cX2_worthOf 49 = .ok (.iadd, 1) := by decide +kernel
theorem dX2_worthOf_50 : decode cX2_worthOf 50 = .ok (.istore_n 3, 1) := by decide +kernel
theorem dX2_worthOf_51 : decode cX2_worthOf 51 = .ok (.iinc 4 1, 3) := by decide +kernel
theorem dX2_worthOf_54 : decode cX2_worthOf 54 = .ok (.goto (-41), 3) := by decide +kernel
theorem dX2_worthOf_57 : decode cX2_worthOf 57 = .ok (.iload_n 3, 1) := by decide +kernel
theorem dX2_worthOf_58 : decode cX2_worthOf 58 = .ok (.ireturn, 1) := by decide +kernel
theorem dX2_findSwings_0 : decode cX2_findSwings 0 = .ok (.aload_n 0, 1) := by decide +kernel
theorem dX2_findSwings_1 : decode cX2_findSwings 1 = .ok (.getfield 38, 3) := by decide +kernel
theorem dX2_findSwings_4 : decode cX2_findSwings 4 = .ok (.aload_n 2, 1) := by decide +kernel
theorem dX2_findSwings_5 : decode cX2_findSwings 5 = .ok (.invokevirtual 72, 3) := by decide +kernel
theorem dX2_findSwings_8 : decode cX2_findSwings 8 = .ok (.aload_n 0, 1) := by decide +kernel
theorem dX2_findSwings_9 : decode cX2_findSwings 9 = .ok (.getfield 38, 3) := by decide +kernel
theorem dX2_findSwings_12 : decode cX2_findSwings 12 = .ok (.iload_n 3, 1) := by decide +kernel
theorem dX2_findSwings_13 : decode cX2_findSwings 13 = .ok (.bipush 6, 2) := by decide +kernel
theorem dX2_findSwings_15 : decode cX2_findSwings 15 = .ok (.invokestatic 92, 3) := by decide +kernel
theorem dX2_findSwings_18 : decode cX2_findSwings 18 = .ok (.putfield 98, 3) := by decide +kernel
theorem dX2_findSwings_21 : decode cX2_findSwings 21 = .ok (.aload_n 0, 1) := by decide +kernel
theorem dX2_findSwings_22 : decode cX2_findSwings 22 = .ok (.bipush 61, 2) := by decide +kernel
theorem dX2_findSwings_24 : decode cX2_findSwings 24 = .ok (.putfield 75, 3) := by decide +kernel
theorem dX2_findSwings_27 : decode cX2_findSwings 27 = .ok (.iconst 0, 1) := by decide +kernel
theorem dX2_findSwings_28 : decode cX2_findSwings 28 = .ok (.istore 4, 2) := by decide +kernel
theorem dX2_findSwings_30 : decode cX2_findSwings 30 = .ok (.iload 4, 2) := by decide +kernel
theorem dX2_findSwings_32 : decode cX2_findSwings 32 = .ok (.iconst 1, 1) := by decide +kernel
theorem dX2_findSwings_33 : decode cX2_findSwings 33 = .ok (.iconst 2, 1) := by decide +kernel
theorem dX2_findSwings_34 : decode cX2_findSwings 34 = .ok (.iload_n 3, 1) := by decide +kernel
theorem dX2_findSwings_35 : decode cX2_findSwings 35 = .ok (.imul, 1) := by decide +kernel
theorem dX2_findSwings_36 : decode cX2_findSwings 36 = .ok (.ishl, 1) := by decide +kernel
theorem dX2_findSwings_37 : decode cX2_findSwings 37 = .ok (.if_icmp .ge 118, 3) := by decide +kernel
theorem dX2_findSwings_40 : decode cX2_findSwings 40 = .ok (.iconst 0, 1) := by decide +kernel
theorem dX2_findSwings_41 : decode cX2_findSwings 41 = .ok (.istore 5, 2) := by decide +kernel
theorem dX2_findSwings_43 : decode cX2_findSwings 43 = .ok (.iload 5, 2) := by decide +kernel
theorem dX2_findSwings_45 : decode cX2_findSwings 45 = .ok (.aload_n 0, 1) := by decide +kernel
theorem dX2_findSwings_46 : decode cX2_findSwings 46 = .ok (.getfield 38, 3) := by decide +kernel
theorem dX2_findSwings_49 : decode cX2_findSwings 49 = .ok (.getfield 98, 3) := by decide +kernel
theorem dX2_findSwings_52 : decode cX2_findSwings 52 = .ok (.if_icmp .ge 27, 3) := by decide +kernel
theorem dX2_findSwings_55 : decode cX2_findSwings 55 = .ok (.aload_n 0, 1) := by decide +kernel
theorem dX2_findSwings_56 : decode cX2_findSwings 56 = .ok (.getfield 38, 3) := by decide +kernel
theorem dX2_findSwings_59 : decode cX2_findSwings 59 = .ok (.getfield 101, 3) := by decide +kernel
theorem dX2_findSwings_62 : decode cX2_findSwings 62 = .ok (.iload 5, 2) := by decide +kernel
theorem dX2_findSwings_64 : decode cX2_findSwings 64 = .ok (.iload 4, 2) := by decide +kernel
theorem dX2_findSwings_66 : decode cX2_findSwings 66 = .ok (.iload_n 3, 1) := by decide +kernel
theorem dX2_findSwings_67 : decode cX2_findSwings 67 = .ok (.iload 5, 2) := by decide +kernel
theorem dX2_findSwings_69 : decode cX2_findSwings 69 = .ok (.invokestatic 104, 3) := by decide +kernel
theorem dX2_findSwings_72 : decode cX2_findSwings 72 = .ok (.iastore, 1) := by decide +kernel
theorem dX2_findSwings_73 : decode cX2_findSwings 73 = .ok (.iinc 5 1, 3) := by decide +kernel
theorem dX2_findSwings_76 : decode cX2_findSwings 76 = .ok (.goto (-33), 3) := by decide +kernel
theorem dX2_findSwings_79 : decode cX2_findSwings 79 = .ok (.aload_n 0, 1) := by decide +kernel
theorem dX2_findSwings_80 : decode cX2_findSwings 80 = .ok (.getfield 21, 3) := by decide +kernel
theorem dX2_findSwings_83 : decode cX2_findSwings 83 = .ok (.aload_n 1, 1) := by decide +kernel
theorem dX2_findSwings_84 : decode cX2_findSwings 84 = .ok (.invokevirtual 42, 3) := by decide +kernel
theorem dX2_findSwings_87 : decode cX2_findSwings 87 = .ok (.aload_n 0, 1) := by decide +kernel
theorem dX2_findSwings_88 : decode cX2_findSwings 88 = .ok (.getfield 12, 3) := by decide +kernel
theorem dX2_findSwings_91 : decode cX2_findSwings 91 = .ok (.aload_n 0, 1) := by decide +kernel
theorem dX2_findSwings_92 : decode cX2_findSwings 92 = .ok (.getfield 21, 3) := by decide +kernel
theorem dX2_findSwings_95 : decode cX2_findSwings 95 = .ok (.aload_n 0, 1) := by decide +kernel
theorem dX2_findSwings_96 : decode cX2_findSwings 96 = .ok (.getfield 38, 3) := by decide +kernel
theorem dX2_findSwings_99 : decode cX2_findSwings 99 = .ok (.aload_n 0, 1) := by decide +kernel
theorem dX2_findSwings_100 : decode cX2_findSwings 100 = .ok (.getfield 31, 3) := by decide +kernel
theorem dX2_findSwings_103 : decode cX2_findSwings 103 = .ok (.invokevirtual 108, 3) := by decide +kernel
theorem dX2_findSwings_106 : decode cX2_findSwings 106 = .ok (.pop, 1) := by decide +kernel
theorem dX2_findSwings_107 : decode cX2_findSwings 107 = .ok (.aload_n 0, 1) := by decide +kernel
theorem dX2_findSwings_108 : decode cX2_findSwings 108 = .ok (.getfield 31, 3) := by decide +kernel
theorem dX2_findSwings_111 : decode cX2_findSwings 111 = .ok (.invokevirtual 112, 3) := by decide +kernel
theorem dX2_findSwings_114 : decode cX2_findSwings 114 = .ok (.aload_n 0, 1) := by decide +kernel
theorem dX2_findSwings_115 : decode cX2_findSwings 115 = .ok (.getfield 31, 3) := by decide +kernel
theorem dX2_findSwings_118 : decode cX2_findSwings 118 = .ok (.getfield 88, 3) := by decide +kernel
theorem dX2_findSwings_121 : decode cX2_findSwings 121 = .ok (.iconst 3, 1) := by decide +kernel
theorem dX2_findSwings_122 : decode cX2_findSwings 122 = .ok (.iaload, 1) := by decide +kernel
theorem dX2_findSwings_123 : decode cX2_findSwings 123 = .ok (.aload_n 0, 1) := by decide +kernel
theorem dX2_findSwings_124 : decode cX2_findSwings 124 = .ok (.getfield 75, 3) := by decide +kernel
theorem dX2_findSwings_127 : decode cX2_findSwings 127 = .ok (.if_icmp .ge 22, 3) := by decide +kernel
theorem dX2_findSwings_130 : decode cX2_findSwings 130 = .ok (.aload_n 0, 1) := by decide +kernel
theorem dX2_findSwings_131 : decode cX2_findSwings 131 = .ok (.aload_n 0, 1) := by decide +kernel
theorem dX2_findSwings_132 : decode cX2_findSwings 132 = .ok (.getfield 31, 3) := by decide +kernel
theorem dX2_findSwings_135 : decode cX2_findSwings 135 = .ok (.getfield 88, 3) := by decide +kernel
theorem dX2_findSwings_138 : decode cX2_findSwings 138 = .ok (.iconst 3, 1) := by decide +kernel
theorem dX2_findSwings_139 : decode cX2_findSwings 139 = .ok (.iaload, 1) := by decide +kernel
theorem dX2_findSwings_140 : decode cX2_findSwings 140 = .ok (.putfield 75, 3) := by decide +kernel
theorem dX2_findSwings_143 : decode cX2_findSwings 143 = .ok (.aload_n 0, 1) := by decide +kernel
theorem dX2_findSwings_144 : decode cX2_findSwings 144 = .ok (.iload 4, 2) := by decide +kernel
theorem dX2_findSwings_146 : decode cX2_findSwings 146 = .ok (.putfield 85, 3) := by decide +kernel
theorem dX2_findSwings_149 : decode cX2_findSwings 149 = .ok (.iinc 4 1, 3) := by decide +kernel
theorem dX2_findSwings_152 : decode cX2_findSwings 152 = .ok (.goto (-122), 3) := by decide +kernel
theorem dX2_findSwings_155 : decode cX2_findSwings 155 = .ok (.return_, 1) := by decide +kernel
theorem dX2_swingOf_0 : decode cX2_swingOf 0 = .ok (.iload_n 0, 1) := by decide +kernel
theorem dX2_swingOf_1 : decode cX2_swingOf 1 = .ok (.iconst 2, 1) := by decide +kernel
theorem dX2_swingOf_2 : decode cX2_swingOf 2 = .ok (.iload_n 1, 1) := by decide +kernel
theorem dX2_swingOf_3 : decode cX2_swingOf 3 = .ok (.iconst 1, 1) := by decide +kernel
theorem dX2_swingOf_4 : decode cX2_swingOf 4 = .ok (.isub, 1) := by decide +kernel
theorem dX2_swingOf_5 : decode cX2_swingOf 5 = .ok (.iload_n 2, 1) := by decide +kernel
theorem dX2_swingOf_6 : decode cX2_swingOf 6 = .ok (.isub, 1) := by decide +kernel
theorem dX2_swingOf_7 : decode cX2_swingOf 7 = .ok (.imul, 1) := by decide +kernel
theorem dX2_swingOf_8 : decode cX2_swingOf 8 = .ok (.ishr, 1) := by decide +kernel
theorem dX2_swingOf_9 : decode cX2_swingOf 9 = .ok (.iconst 3, 1) := by decide +kernel
theorem dX2_swingOf_10 : decode cX2_swingOf 10 = .ok (.iand, 1) := by decide +kernel
theorem dX2_swingOf_11 : decode cX2_swingOf 11 = .ok (.ireturn, 1) := by decide +kernel
theorem dX2_findTwo_0 : decode cX2_findTwo 0 = .ok (.aload_n 0, 1) := by decide +kernel
theorem dX2_findTwo_1 : decode cX2_findTwo 1 = .ok (.iconst (-1), 1) := by decide +kernel
theorem dX2_findTwo_2 : decode cX2_findTwo 2 = .ok (.putfield 75, 3) := by decide +kernel
theorem dX2_findTwo_5 : decode cX2_findTwo 5 = .ok (.iconst 0, 1) := by decide +kernel
theorem dX2_findTwo_6 : decode cX2_findTwo 6 = .ok (.istore 4, 2) := by decide +kernel
theorem dX2_findTwo_8 : decode cX2_findTwo 8 = .ok (.iload 4, 2) := by decide +kernel
theorem dX2_findTwo_10 : decode cX2_findTwo 10 = .ok (.iload_n 3, 1) := by decide +kernel
theorem dX2_findTwo_11 : decode cX2_findTwo 11 = .ok (.if_icmp .ge 113, 3) := by decide +kernel
theorem dX2_findTwo_14 : decode cX2_findTwo 14 = .ok (.aload_n 0, 1) := by decide +kernel
theorem dX2_findTwo_15 : decode cX2_findTwo 15 = .ok (.getfield 25, 3) := by decide +kernel
theorem dX2_findTwo_18 : decode cX2_findTwo 18 = .ok (.aload_n 1, 1) := by decide +kernel
theorem dX2_findTwo_19 : decode cX2_findTwo 19 = .ok (.invokevirtual 42, 3) := by decide +kernel
theorem dX2_findTwo_22 : decode cX2_findTwo 22 = .ok (.aload_n 0, 1) := by decide +kernel
theorem dX2_findTwo_23 : decode cX2_findTwo 23 = .ok (.getfield 12, 3) := by decide +kernel
theorem dX2_findTwo_26 : decode cX2_findTwo 26 = .ok (.aload_n 0, 1) := by decide +kernel
theorem dX2_findTwo_27 : decode cX2_findTwo 27 = .ok (.getfield 25, 3) := by decide +kernel
theorem dX2_findTwo_30 : decode cX2_findTwo 30 = .ok (.aload_n 2, 1) := by decide +kernel
theorem dX2_findTwo_31 : decode cX2_findTwo 31 = .ok (.iload 4, 2) := by decide +kernel
theorem dX2_findTwo_33 : decode cX2_findTwo 33 = .ok (.aaload, 1) := by decide +kernel
theorem dX2_findTwo_34 : decode cX2_findTwo 34 = .ok (.aload_n 0, 1) := by decide +kernel
theorem dX2_findTwo_35 : decode cX2_findTwo 35 = .ok (.getfield 31, 3) := by decide +kernel
theorem dX2_findTwo_38 : decode cX2_findTwo 38 = .ok (.invokevirtual 46, 3) := by decide +kernel
theorem dX2_findTwo_41 : decode cX2_findTwo 41 = .ok (.aload_n 0, 1) := by decide +kernel
theorem dX2_findTwo_42 : decode cX2_findTwo 42 = .ok (.getfield 31, 3) := by decide +kernel
theorem dX2_findTwo_45 : decode cX2_findTwo 45 = .ok (.getfield 88, 3) := by decide +kernel
theorem dX2_findTwo_48 : decode cX2_findTwo 48 = .ok (.bipush 6, 2) := by decide +kernel
theorem dX2_findTwo_50 : decode cX2_findTwo 50 = .ok (.iaload, 1) := by decide +kernel
theorem dX2_findTwo_51 : decode cX2_findTwo 51 = .ok (.istore 5, 2) := by decide +kernel
theorem dX2_findTwo_53 : decode cX2_findTwo 53 = .ok (.iconst 0, 1) := by decide +kernel
theorem dX2_findTwo_54 : decode cX2_findTwo 54 = .ok (.istore 6, 2) := by decide +kernel
theorem dX2_findTwo_56 : decode cX2_findTwo 56 = .ok (.iload 6, 2) := by decide +kernel
theorem dX2_findTwo_58 : decode cX2_findTwo 58 = .ok (.iload_n 3, 1) := by decide +kernel
theorem dX2_findTwo_59 : decode cX2_findTwo 59 = .ok (.if_icmp .ge 59, 3) := by decide +kernel
theorem dX2_findTwo_62 : decode cX2_findTwo 62 = .ok (.iload 5, 2) := by decide +kernel
theorem dX2_findTwo_64 : decode cX2_findTwo 64 = .ok (.aload_n 0, 1) := by decide +kernel
theorem dX2_findTwo_65 : decode cX2_findTwo 65 = .ok (.aload_n 0, 1) := by decide +kernel
theorem dX2_findTwo_66 : decode cX2_findTwo 66 = .ok (.getfield 25, 3) := by decide +kernel
theorem dX2_findTwo_69 : decode cX2_findTwo 69 = .ok (.aload_n 2, 1) := by decide +kernel
theorem dX2_findTwo_70 : decode cX2_findTwo 70 = .ok (.iload 6, 2) := by decide +kernel
theorem dX2_findTwo_72 : decode cX2_findTwo 72 = .ok (.aaload, 1) := by decide +kernel
theorem dX2_findTwo_73 : decode cX2_findTwo 73 = .ok (.invokevirtual 54, 3) := by decide +kernel
theorem dX2_findTwo_76 : decode cX2_findTwo 76 = .ok (.getfield 88, 3) := by decide +kernel
theorem dX2_findTwo_79 : decode cX2_findTwo 79 = .ok (.bipush 6, 2) := by decide +kernel
theorem dX2_findTwo_81 : decode cX2_findTwo 81 = .ok (.iaload, 1) := by decide +kernel
theorem dX2_findTwo_82 : decode cX2_findTwo 82 = .ok (.iadd, 1) := by decide +kernel
theorem dX2_findTwo_83 : decode cX2_findTwo 83 = .ok (.istore 7, 2) := by decide +kernel
theorem dX2_findTwo_85 : decode cX2_findTwo 85 = .ok (.iload 7, 2) := by decide +kernel
theorem dX2_findTwo_87 : decode cX2_findTwo 87 = .ok (.aload_n 0, 1) := by decide +kernel
theorem dX2_findTwo_88 : decode cX2_findTwo 88 = .ok (.getfield 75, 3) := by decide +kernel
theorem dX2_findTwo_91 : decode cX2_findTwo 91 = .ok (.if_icmp .le 21, 3) := by decide +kernel
theorem dX2_findTwo_94 : decode cX2_findTwo 94 = .ok (.aload_n 0, 1) := by decide +kernel
theorem dX2_findTwo_95 : decode cX2_findTwo 95 = .ok (.iload 7, 2) := by decide +kernel
theorem dX2_findTwo_97 : decode cX2_findTwo 97 = .ok (.putfield 75, 3) := by decide +kernel
theorem dX2_findTwo_100 : decode cX2_findTwo 100 = .ok (.aload_n 0, 1) := by decide +kernel
theorem dX2_findTwo_101 : decode cX2_findTwo 101 = .ok (.iload 4, 2) := by decide +kernel
theorem dX2_findTwo_103 : decode cX2_findTwo 103 = .ok (.putfield 85, 3) := by decide +kernel
theorem dX2_findTwo_106 : decode cX2_findTwo 106 = .ok (.aload_n 0, 1) := by decide +kernel
theorem dX2_findTwo_107 : decode cX2_findTwo 107 = .ok (.iload 6, 2) := by decide +kernel
theorem dX2_findTwo_109 : decode cX2_findTwo 109 = .ok (.putfield 115, 3) := by decide +kernel
theorem dX2_findTwo_112 : decode cX2_findTwo 112 = .ok (.iinc 6 1, 3) := by decide +kernel
theorem dX2_findTwo_115 : decode cX2_findTwo 115 = .ok (.goto (-59), 3) := by decide +kernel
theorem dX2_findTwo_118 : decode cX2_findTwo 118 = .ok (.iinc 4 1, 3) := by decide +kernel
theorem dX2_findTwo_121 : decode cX2_findTwo 121 = .ok (.goto (-113), 3) := by decide +kernel
theorem dX2_findTwo_124 : decode cX2_findTwo 124 = .ok (.return_, 1) := by decide +kernel
theorem dX3_init_0 : decode cX3_init 0 = .ok (.aload_n 0, 1) := by decide +kernel
theorem dX3_init_1 : decode cX3_init 1 = .ok (.invokespecial 3, 3) := by decide +kernel
theorem dX3_init_4 : decode cX3_init 4 = .ok (.aload_n 0, 1) := by decide +kernel
theorem dX3_init_5 : decode cX3_init 5 = .ok (.bipush 9, 2) := by decide +kernel
theorem dX3_init_7 : decode cX3_init 7 = .ok (.newarray .int, 2) := by decide +kernel
theorem dX3_init_9 : decode cX3_init 9 = .ok (.putfield 9, 3) := by decide +kernel
theorem dX3_init_12 : decode cX3_init 12 = .ok (.aload_n 0, 1) := by decide +kernel
theorem dX3_init_13 : decode cX3_init 13 = .ok (.bipush 9, 2) := by decide +kernel
theorem dX3_init_15 : decode cX3_init 15 = .ok (.newarray .int, 2) := by decide +kernel
theorem dX3_init_17 : decode cX3_init 17 = .ok (.putfield 15, 3) := by decide +kernel
theorem dX3_init_20 : decode cX3_init 20 = .ok (.return_, 1) := by decide +kernel
theorem dX3_work_0 : decode cX3_work 0 = .ok (.aload_n 0, 1) := by decide +kernel
theorem dX3_work_1 : decode cX3_work 1 = .ok (.getfield 9, 3) := by decide +kernel
theorem dX3_work_4 : decode cX3_work 4 = .ok (.iconst 0, 1) := by decide +kernel
theorem dX3_work_5 : decode cX3_work 5 = .ok (.invokestatic 18, 3) := by decide +kernel
theorem dX3_work_8 : decode cX3_work 8 = .ok (.aload_n 0, 1) := by decide +kernel
theorem dX3_work_9 : decode cX3_work 9 = .ok (.getfield 15, 3) := by decide +kernel
theorem dX3_work_12 : decode cX3_work 12 = .ok (.iconst 0, 1) := by decide +kernel
theorem dX3_work_13 : decode cX3_work 13 = .ok (.invokestatic 18, 3) := by decide +kernel
theorem dX3_work_16 : decode cX3_work 16 = .ok (.aload_n 0, 1) := by decide +kernel
theorem dX3_work_17 : decode cX3_work 17 = .ok (.iconst 0, 1) := by decide +kernel
theorem dX3_work_18 : decode cX3_work 18 = .ok (.putfield 24, 3) := by decide +kernel
theorem dX3_work_21 : decode cX3_work 21 = .ok (.aload_n 0, 1) := by decide +kernel
theorem dX3_work_22 : decode cX3_work 22 = .ok (.iconst 0, 1) := by decide +kernel
theorem dX3_work_23 : decode cX3_work 23 = .ok (.putfield 28, 3) := by decide +kernel
theorem dX3_work_26 : decode cX3_work 26 = .ok (.iconst 0, 1) := by decide +kernel
theorem dX3_work_27 : decode cX3_work 27 = .ok (.istore 6, 2) := by decide +kernel
theorem dX3_work_29 : decode cX3_work 29 = .ok (.iconst 0, 1) := by decide +kernel
theorem dX3_work_30 : decode cX3_work 30 = .ok (.istore 7, 2) := by decide +kernel
theorem dX3_work_32 : decode cX3_work 32 = .ok (.iload 7, 2) := by decide +kernel
theorem dX3_work_34 : decode cX3_work 34 = .ok (.iload 5, 2) := by decide +kernel
theorem dX3_work_36 : decode cX3_work 36 = .ok (.if_icmp .ge 167, 3) := by decide +kernel
theorem dX3_work_39 : decode cX3_work 39 = .ok (.aload_n 0, 1) := by decide +kernel
theorem dX3_work_40 : decode cX3_work 40 = .ok (.iload_n 1, 1) := by decide +kernel
theorem dX3_work_41 : decode cX3_work 41 = .ok (.invokevirtual 31, 3) := by decide +kernel
theorem dX3_work_44 : decode cX3_work 44 = .ok (.istore 8, 2) := by decide +kernel
theorem dX3_work_46 : decode cX3_work 46 = .ok (.iload 6, 2) := by decide +kernel
theorem dX3_work_48 : decode cX3_work 48 = .ok (.aload_n 0, 1) := by decide +kernel
theorem dX3_work_49 : decode cX3_work 49 = .ok (.getfield 9, 3) := by decide +kernel
theorem dX3_work_52 : decode cX3_work 52 = .ok (.iload 8, 2) := by decide +kernel
theorem dX3_work_54 : decode cX3_work 54 = .ok (.iaload, 1) := by decide +kernel
theorem dX3_work_55 : decode cX3_work 55 = .ok (.invokestatic 35, 3) := by decide +kernel
theorem dX3_work_58 : decode cX3_work 58 = .ok (.istore 9, 2) := by decide +kernel
theorem dX3_work_60 : decode cX3_work 60 = .ok (.iload 9, 2) := by decide +kernel
theorem dX3_work_62 : decode cX3_work 62 = .ok (.iload 5, 2) := by decide +kernel
theorem dX3_work_64 : decode cX3_work 64 = .ok (.if_icmp .lt 6, 3) := by decide +kernel
theorem dX3_work_67 : decode cX3_work 67 = .ok (.goto 136, 3) := by decide +kernel
theorem dX3_work_70 : decode cX3_work 70 = .ok (.aload_n 0, 1) := by decide +kernel
theorem dX3_work_71 : decode cX3_work 71 = .ok (.aload_n 0, 1) := by decide +kernel
theorem dX3_work_72 : decode cX3_work 72 = .ok (.getfield 28, 3) := by decide +kernel
theorem dX3_work_75 : decode cX3_work 75 = .ok (.iload 9, 2) := by decide +kernel
theorem dX3_work_77 : decode cX3_work 77 = .ok (.aload_n 0, 1) := by decide +kernel
theorem dX3_work_78 : decode cX3_work 78 = .ok (.getfield 9, 3) := by decide +kernel
theorem dX3_work_81 : decode cX3_work 81 = .ok (.iload 8, 2) := by decide +kernel
theorem dX3_work_83 : decode cX3_work 83 = .ok (.iaload, 1) := by decide +kernel
theorem dX3_work_84 : decode cX3_work 84 = .ok (.isub, 1) := by decide +kernel
theorem dX3_work_85 : decode cX3_work 85 = .ok (.invokestatic 35, 3) := by decide +kernel
theorem dX3_work_88 : decode cX3_work 88 = .ok (.putfield 28, 3) := by decide +kernel
theorem dX3_work_91 : decode cX3_work 91 = .ok (.iload 9, 2) := by decide +kernel
theorem dX3_work_93 : decode cX3_work 93 = .ok (.iload 4, 2) := by decide +kernel
theorem dX3_work_95 : decode cX3_work 95 = .ok (.iadd, 1) := by decide +kernel
theorem dX3_work_96 : decode cX3_work 96 = .ok (.istore 6, 2) := by decide +kernel
theorem dX3_work_98 : decode cX3_work 98 = .ok (.aload_n 0, 1) := by decide +kernel
theorem dX3_work_99 : decode cX3_work 99 = .ok (.getfield 15, 3) := by decide +kernel
theorem dX3_work_102 : decode cX3_work 102 = .ok (.iload 8, 2) := by decide +kernel
theorem dX3_work_104 : decode cX3_work 104 = .ok (.iaload, 1) := by decide +kernel
theorem dX3_work_105 : decode cX3_work 105 = .ok (.iconst 2, 1) := by decide +kernel
theorem dX3_work_106 : decode cX3_work 106 = .ok (.if_icmp .ne 20, 3) := by decide +kernel
theorem dX3_work_109 : decode cX3_work 109 = .ok (.iload 6, 2) := by decide +kernel
theorem dX3_work_111 : decode cX3_work 111 = .ok (.iload 5, 2) := by decide +kernel
theorem dX3_work_113 : decode cX3_work 113 = .ok (.if_icmp .gt 13, 3) := by decide +kernel
theorem dX3_work_116 : decode cX3_work 116 = .ok (.aload_n 0, 1) := by decide +kernel
theorem dX3_work_117 : decode cX3_work 117 = .ok (.dup, 1) := by decide +kernel
theorem dX3_work_118 : decode cX3_work 118 = .ok (.getfield 24, 3) := by decide +kernel
theorem dX3_work_121 : decode cX3_work 121 = .ok (.iconst 1, 1) := by decide +kernel
theorem dX3_work_122 : decode cX3_work 122 = .ok (.iadd, 1) := by decide +kernel
theorem dX3_work_123 : decode cX3_work 123 = .ok (.putfield 24, 3) := by decide +kernel
theorem dX3_work_126 : decode cX3_work 126 = .ok (.aload_n 0, 1) := by decide +kernel
theorem dX3_work_127 : decode cX3_work 127 = .ok (.getfield 9, 3) := by decide +kernel
theorem dX3_work_130 : decode cX3_work 130 = .ok (.iload 8, 2) := by decide +kernel
theorem dX3_work_132 : decode cX3_work 132 = .ok (.iload 6, 2) := by decide +kernel
theorem dX3_work_134 : decode cX3_work 134 = .ok (.aload_n 0, 1) := by decide +kernel
theorem dX3_work_135 : decode cX3_work 135 = .ok (.getfield 15, 3) := by decide +kernel
theorem dX3_work_138 : decode cX3_work 138 = .ok (.iload 8, 2) := by decide +kernel
theorem dX3_work_140 : decode cX3_work 140 = .ok (.iaload, 1) := by decide +kernel
theorem dX3_work_141 : decode cX3_work 141 = .ok (.ifCond .ne 7, 3) := by decide +kernel
theorem dX3_work_144 : decode cX3_work 144 = .ok (.iload_n 2, 1) := by decide +kernel
theorem dX3_work_145 : decode cX3_work 145 = .ok (.goto 19, 3) := by decide +kernel
theorem dX3_work_148 : decode cX3_work 148 = .ok (.aload_n 0, 1) := by decide +kernel
theorem dX3_work_149 : decode cX3_work 149 = .ok (.getfield 15, 3) := by decide +kernel
theorem dX3_work_152 : decode cX3_work 152 = .ok (.iload 8, 2) := by decide +kernel
theorem dX3_work_154 : decode cX3_work 154 = .ok (.iaload, 1) := by decide +kernel
theorem dX3_work_155 : decode cX3_work 155 = .ok (.iconst 1, 1) := by decide +kernel
theorem dX3_work_156 : decode cX3_work 156 = .ok (.if_icmp .ne 7, 3) := by decide +kernel
theorem dX3_work_159 : decode cX3_work 159 = .ok (.iload_n 3, 1) := by decide +kernel
theorem dX3_work_160 : decode cX3_work 160 = .ok (.goto 4, 3) := by decide +kernel
theorem dX3_work_163 : decode cX3_work 163 = .ok (.iconst 0, 1) := by decide +kernel
theorem dX3_work_164 : decode cX3_work 164 = .ok (.iadd, 1) := by decide +kernel
theorem dX3_work_165 : decode cX3_work 165 = .ok (.iastore, 1) := by decide +kernel
theorem dX3_work_166 : decode cX3_work 166 = .ok (.aload_n 0, 1) := by decide +kernel
theorem dX3_work_167 : decode cX3_work 167 = .ok (.getfield 15, 3) := by decide +kernel
theorem dX3_work_170 : decode cX3_work 170 = .ok (.iload 8, 2) := by decide +kernel
theorem dX3_work_172 : decode cX3_work 172 = .ok (.aload_n 0, 1) := by decide +kernel
theorem dX3_work_173 : decode cX3_work 173 = .ok (.getfield 15, 3) := by decide +kernel
theorem dX3_work_176 : decode cX3_work 176 = .ok (.iload 8, 2) := by decide +kernel
theorem dX3_work_178 : decode cX3_work 178 = .ok (.iaload, 1) := by decide +kernel
theorem dX3_work_179 : decode cX3_work 179 = .ok (.iconst 2, 1) := by decide +kernel
theorem dX3_work_180 : decode cX3_work 180 = .ok (.if_icmp .ne 7, 3) := by decide +kernel
theorem dX3_work_183 : decode cX3_work 183 = .ok (.iconst 0, 1) := by decide +kernel
theorem dX3_work_184 : decode cX3_work 184 = .ok (.goto 12, 3) := by decide +kernel
theorem dX3_work_187 : decode cX3_work 187 = .ok (.aload_n 0, 1) := by decide +kernel
theorem dX3_work_188 : decode cX3_work 188 = .ok (.getfield 15, 3) := by decide +kernel
theorem dX3_work_191 : decode cX3_work 191 = .ok (.iload 8, 2) := by decide +kernel
theorem dX3_work_193 : decode cX3_work 193 = .ok (.iaload, 1) := by decide +kernel
theorem dX3_work_194 : decode cX3_work 194 = .ok (.iconst 1, 1) := by decide +kernel
theorem dX3_work_195 : decode cX3_work 195 = .ok (.iadd, 1) := by decide +kernel
theorem dX3_work_196 : decode cX3_work 196 = .ok (.iastore, 1) := by decide +kernel
theorem dX3_work_197 : decode cX3_work 197 = .ok (.iinc 7 1, 3) := by decide +kernel
theorem dX3_work_200 : decode cX3_work 200 = .ok (.goto (-168), 3) := by decide +kernel
theorem dX3_work_203 : decode cX3_work 203 = .ok (.return_, 1) := by decide +kernel
theorem dX3_longestWanting_0 : decode cX3_longestWanting 0 = .ok (.iconst 0, 1) := by decide +kernel
theorem dX3_longestWanting_1 : decode cX3_longestWanting 1 = .ok (.istore_n 2, 1) := by decide +kernel
theorem dX3_longestWanting_2 : decode cX3_longestWanting 2 = .ok (.iconst 1, 1) := by decide +kernel
theorem dX3_longestWanting_3 : decode cX3_longestWanting 3 = .ok (.istore_n 3, 1) := by decide +kernel
theorem dX3_longestWanting_4 : decode cX3_longestWanting 4 = .ok (.iload_n 3, 1) := by decide +kernel
theorem dX3_longestWanting_5 : decode cX3_longestWanting 5 = .ok (.iload_n 1, 1) := by decide +kernel
theorem dX3_longestWanting_6 : decode cX3_longestWanting 6 = .ok (.if_icmp .ge 26, 3) := by decide +kernel
theorem dX3_longestWanting_9 : decode cX3_longestWanting 9 = .ok (.aload_n 0, 1) := by decide +kernel
theorem dX3_longestWanting_10 : decode cX3_longestWanting 10 = .ok (.getfield 9, 3) := by decide +kernel
theorem dX3_longestWanting_13 : decode cX3_longestWanting 13 = .ok (.iload_n 3, 1) := by decide +kernel
theorem dX3_longestWanting_14 : decode cX3_longestWanting 14 = .ok (.iaload, 1) := by decide +kernel
theorem dX3_longestWanting_15 : decode cX3_longestWanting 15 = .ok (.aload_n 0, 1) := by decide +kernel
theorem dX3_longestWanting_16 : decode cX3_longestWanting 16 = .ok (.getfield 9, 3) := by decide +kernel
theorem dX3_longestWanting_19 : decode cX3_longestWanting 19 = .ok (.iload_n 2, 1) := by decide +kernel
theorem dX3_longestWanting_20 : decode cX3_longestWanting 20 = .ok (.iaload, 1) := by decide +kernel
theorem dX3_longestWanting_21 : decode cX3_longestWanting 21 = .ok (.if_icmp .ge 5, 3) := by decide +kernel
theorem dX3_longestWanting_24 : decode cX3_longestWanting 24 = .ok (.iload_n 3, 1) := by decide +kernel
theorem dX3_longestWanting_25 : decode cX3_longestWanting 25 = .ok (.istore_n 2, 1) := by decide +kernel
theorem dX3_longestWanting_26 : decode cX3_longestWanting 26 = .ok (.iinc 3 1, 3) := by decide +kernel
theorem dX3_longestWanting_29 : decode cX3_longestWanting 29 = .ok (.goto (-25), 3) := by decide +kernel
theorem dX3_longestWanting_32 : decode cX3_longestWanting 32 = .ok (.iload_n 2, 1) := by decide +kernel
theorem dX3_longestWanting_33 : decode cX3_longestWanting 33 = .ok (.ireturn, 1) := by decide +kernel
theorem dX4_init_0 : decode cX4_init 0 = .ok (.aload_n 0, 1) := by decide +kernel
theorem dX4_init_1 : decode cX4_init 1 = .ok (.invokespecial 3, 3) := by decide +kernel
theorem dX4_init_4 : decode cX4_init 4 = .ok (.aload_n 0, 1) := by decide +kernel
theorem dX4_init_5 : decode cX4_init 5 = .ok (.bipush 40, 2) := by decide +kernel
theorem dX4_init_7 : decode cX4_init 7 = .ok (.newarray .int, 2) := by decide +kernel
theorem dX4_init_9 : decode cX4_init 9 = .ok (.putfield 9, 3) := by decide +kernel
theorem dX4_init_12 : decode cX4_init 12 = .ok (.return_, 1) := by decide +kernel
theorem dX4_lettersIn_0 : decode cX4_lettersIn 0 = .ok (.iconst 0, 1) := by decide +kernel
theorem dX4_lettersIn_1 : decode cX4_lettersIn 1 = .ok (.istore_n 2, 1) := by decide +kernel
theorem dX4_lettersIn_2 : decode cX4_lettersIn 2 = .ok (.iconst 0, 1) := by decide +kernel
theorem dX4_lettersIn_3 : decode cX4_lettersIn 3 = .ok (.istore_n 3, 1) := by decide +kernel
theorem dX4_lettersIn_4 : decode cX4_lettersIn 4 = .ok (.iload_n 3, 1) := by decide +kernel
theorem dX4_lettersIn_5 : decode cX4_lettersIn 5 = .ok (.bipush 8, 2) := by decide +kernel
theorem dX4_lettersIn_7 : decode cX4_lettersIn 7 = .ok (.if_icmp .ge 43, 3) := by decide +kernel
theorem dX4_lettersIn_10 : decode cX4_lettersIn 10 = .ok (.lload_n 0, 1) := by decide +kernel
theorem dX4_lettersIn_11 : decode cX4_lettersIn 11 = .ok (.iload_n 3, 1) := by decide +kernel
theorem dX4_lettersIn_12 : decode cX4_lettersIn 12 = .ok (.invokestatic 15, 3) := by decide +kernel
theorem dX4_lettersIn_15 : decode cX4_lettersIn 15 = .ok (.istore 4, 2) := by decide +kernel
theorem dX4_lettersIn_17 : decode cX4_lettersIn 17 = .ok (.iload 4, 2) := by decide +kernel
theorem dX4_lettersIn_19 : decode cX4_lettersIn 19 = .ok (.bipush 126, 2) := by decide +kernel
theorem dX4_lettersIn_21 : decode cX4_lettersIn 21 = .ok (.if_icmp .gt 13, 3) := by decide +kernel
theorem dX4_lettersIn_24 : decode cX4_lettersIn 24 = .ok (.iload 4, 2) := by decide +kernel
theorem dX4_lettersIn_26 : decode cX4_lettersIn 26 = .ok (.ifCond .eq 10, 3) := by decide +kernel
theorem dX4_lettersIn_29 : decode cX4_lettersIn 29 = .ok (.iload_n 2, 1) := by decide +kernel
theorem dX4_lettersIn_30 : decode cX4_lettersIn 30 = .ok (.iload_n 3, 1) := by decide +kernel
theorem dX4_lettersIn_31 : decode cX4_lettersIn 31 = .ok (.if_icmp .ge 5, 3) := by decide +kernel
theorem dX4_lettersIn_34 : decode cX4_lettersIn 34 = .ok (.iconst (-1), 1) := by decide +kernel
theorem dX4_lettersIn_35 : decode cX4_lettersIn 35 = .ok (.ireturn, 1) := by decide +kernel
theorem dX4_lettersIn_36 : decode cX4_lettersIn 36 = .ok (.iload 4, 2) := by decide +kernel
theorem dX4_lettersIn_38 : decode cX4_lettersIn 38 = .ok (.ifCond .eq 6, 3) := by decide +kernel
theorem dX4_lettersIn_41 : decode cX4_lettersIn 41 = .ok (.iinc 2 1, 3) := by decide +kernel
theorem dX4_lettersIn_44 : decode cX4_lettersIn 44 = .ok (.iinc 3 1, 3) := by decide +kernel
theorem dX4_lettersIn_47 : decode cX4_lettersIn 47 = .ok (.goto (-43), 3) := by decide +kernel
theorem dX4_lettersIn_50 : decode cX4_lettersIn 50 = .ok (.iload_n 2, 1) := by decide +kernel
theorem dX4_lettersIn_51 : decode cX4_lettersIn 51 = .ok (.ireturn, 1) := by decide +kernel
theorem dX4_add_0 : decode cX4_add 0 = .ok (.iconst 0, 1) := by decide +kernel
theorem dX4_add_1 : decode cX4_add 1 = .ok (.istore 4, 2) := by decide +kernel
theorem dX4_add_3 : decode cX4_add 3 = .ok (.iload 4, 2) := by decide +kernel
theorem dX4_add_5 : decode cX4_add 5 = .ok (.iload_n 3, 1) := by decide +kernel
theorem dX4_add_6 : decode cX4_add 6 = .ok (.if_icmp .ge 43, 3) := by decide +kernel
theorem dX4_add_9 : decode cX4_add 9 = .ok (.aload_n 0, 1) := by decide +kernel
theorem dX4_add_10 : decode cX4_add 10 = .ok (.getfield 19, 3) := by decide +kernel
theorem dX4_add_13 : decode cX4_add 13 = .ok (.bipush 40, 2) := by decide +kernel
theorem dX4_add_15 : decode cX4_add 15 = .ok (.if_icmp .ge 34, 3) := by decide +kernel
theorem dX4_add_18 : decode cX4_add 18 = .ok (.aload_n 0, 1) := by decide +kernel
theorem dX4_add_19 : decode cX4_add 19 = .ok (.getfield 9, 3) := by decide +kernel
theorem dX4_add_22 : decode cX4_add 22 = .ok (.aload_n 0, 1) := by decide +kernel
theorem dX4_add_23 : decode cX4_add 23 = .ok (.getfield 19, 3) := by decide +kernel
theorem dX4_add_26 : decode cX4_add 26 = .ok (.lload_n 1, 1) := by decide +kernel
theorem dX4_add_27 : decode cX4_add 27 = .ok (.iload 4, 2) := by decide +kernel
theorem dX4_add_29 : decode cX4_add 29 = .ok (.invokestatic 15, 3) := by decide +kernel
theorem dX4_add_32 : decode cX4_add 32 = .ok (.iastore, 1) := by decide +kernel
theorem dX4_add_33 : decode cX4_add 33 = .ok (.aload_n 0, 1) := by decide +kernel
theorem dX4_add_34 : decode cX4_add 34 = .ok (.dup, 1) := by decide +kernel
theorem dX4_add_35 : decode cX4_add 35 = .ok (.getfield 19, 3) := by decide +kernel
theorem dX4_add_38 : decode cX4_add 38 = .ok (.iconst 1, 1) := by decide +kernel
theorem dX4_add_39 : decode cX4_add 39 = .ok (.iadd, 1) := by decide +kernel
theorem dX4_add_40 : decode cX4_add 40 = .ok (.putfield 19, 3) := by decide +kernel
theorem dX4_add_43 : decode cX4_add 43 = .ok (.iinc 4 1, 3) := by decide +kernel
theorem dX4_add_46 : decode cX4_add 46 = .ok (.goto (-43), 3) := by decide +kernel
theorem dX4_add_49 : decode cX4_add 49 = .ok (.return_, 1) := by decide +kernel
theorem dX4_readAs_0 : decode cX4_readAs 0 = .ok (.aload_n 1, 1) := by decide +kernel
theorem dX4_readAs_1 : decode cX4_readAs 1 = .ok (.invokevirtual 23, 3) := by decide +kernel
theorem dX4_readAs_4 : decode cX4_readAs 4 = .ok (.iconst 0, 1) := by decide +kernel
theorem dX4_readAs_5 : decode cX4_readAs 5 = .ok (.istore_n 2, 1) := by decide +kernel
theorem dX4_readAs_6 : decode cX4_readAs 6 = .ok (.iload_n 2, 1) := by decide +kernel
theorem dX4_readAs_7 : decode cX4_readAs 7 = .ok (.aload_n 0, 1) := by decide +kernel
theorem dX4_readAs_8 : decode cX4_readAs 8 = .ok (.getfield 19, 3) := by decide +kernel
theorem dX4_readAs_11 : decode cX4_readAs 11 = .ok (.if_icmp .ge 24, 3) := by decide +kernel
theorem dX4_readAs_14 : decode cX4_readAs 14 = .ok (.aload_n 1, 1) := by decide +kernel
theorem dX4_readAs_15 : decode cX4_readAs 15 = .ok (.aload_n 0, 1) := by decide +kernel
theorem dX4_readAs_16 : decode cX4_readAs 16 = .ok (.getfield 9, 3) := by decide +kernel
theorem dX4_readAs_19 : decode cX4_readAs 19 = .ok (.iload_n 2, 1) := by decide +kernel
theorem dX4_readAs_20 : decode cX4_readAs 20 = .ok (.iaload, 1) := by decide +kernel
theorem dX4_readAs_21 : decode cX4_readAs 21 = .ok (.invokevirtual 28, 3) := by decide +kernel
theorem dX4_readAs_24 : decode cX4_readAs 24 = .ok (.ifCond .ne 5, 3) := by decide +kernel
theorem dX4_readAs_27 : decode cX4_readAs 27 = .ok (.iload_n 2, 1) := by decide +kernel
theorem dX4_readAs_28 : decode cX4_readAs 28 = .ok (.ireturn, 1) := by decide +kernel
theorem dX4_readAs_29 : decode cX4_readAs 29 = .ok (.iinc 2 1, 3) := by decide +kernel
theorem dX4_readAs_32 : decode cX4_readAs 32 = .ok (.goto (-26), 3) := by decide +kernel
theorem dX4_readAs_35 : decode cX4_readAs 35 = .ok (.aload_n 0, 1) := by decide +kernel
theorem dX4_readAs_36 : decode cX4_readAs 36 = .ok (.getfield 19, 3) := by decide +kernel
theorem dX4_readAs_39 : decode cX4_readAs 39 = .ok (.ireturn, 1) := by decide +kernel
theorem dX4_isWhole_0 : decode cX4_isWhole 0 = .ok (.aload_n 0, 1) := by decide +kernel
theorem dX4_isWhole_1 : decode cX4_isWhole 1 = .ok (.aload_n 1, 1) := by decide +kernel
theorem dX4_isWhole_2 : decode cX4_isWhole 2 = .ok (.invokevirtual 32, 3) := by decide +kernel
theorem dX4_isWhole_5 : decode cX4_isWhole 5 = .ok (.aload_n 0, 1) := by decide +kernel
theorem dX4_isWhole_6 : decode cX4_isWhole 6 = .ok (.getfield 19, 3) := by decide +kernel
theorem dX4_isWhole_9 : decode cX4_isWhole 9 = .ok (.if_icmp .ne 14, 3) := by decide +kernel
theorem dX4_isWhole_12 : decode cX4_isWhole 12 = .ok (.aload_n 1, 1) := by decide +kernel
theorem dX4_isWhole_13 : decode cX4_isWhole 13 = .ok (.invokevirtual 36, 3) := by decide +kernel
theorem dX4_isWhole_16 : decode cX4_isWhole 16 = .ok (.ifCond .eq 7, 3) := by decide +kernel
theorem dX4_isWhole_19 : decode cX4_isWhole 19 = .ok (.iconst 1, 1) := by decide +kernel
theorem dX4_isWhole_20 : decode cX4_isWhole 20 = .ok (.goto 4, 3) := by decide +kernel
theorem dX4_isWhole_23 : decode cX4_isWhole 23 = .ok (.iconst 0, 1) := by decide +kernel
theorem dX4_isWhole_24 : decode cX4_isWhole 24 = .ok (.ireturn, 1) := by decide +kernel
theorem dX4_codeAt_0 : decode cX4_codeAt 0 = .ok (.lload_n 0, 1) := by decide +kernel
theorem dX4_codeAt_1 : decode cX4_codeAt 1 = .ok (.bipush 8, 2) := by decide +kernel
theorem dX4_codeAt_3 : decode cX4_codeAt 3 = .ok (.iload_n 2, 1) := by decide +kernel
theorem dX4_codeAt_4 : decode cX4_codeAt 4 = .ok (.imul, 1) := by decide +kernel
theorem dX4_codeAt_5 : decode cX4_codeAt 5 = .ok (.lushr, 1) := by decide +kernel
theorem dX4_codeAt_6 : decode cX4_codeAt 6 = .ok (.l2i, 1) := by decide +kernel
theorem dX4_codeAt_7 : decode cX4_codeAt 7 = .ok (.sipush 255, 3) := by decide +kernel
theorem dX4_codeAt_10 : decode cX4_codeAt 10 = .ok (.iand, 1) := by decide +kernel
theorem dX4_codeAt_11 : decode cX4_codeAt 11 = .ok (.ireturn, 1) := by decide +kernel
theorem dX5_init_0 : decode cX5_init 0 = .ok (.aload_n 0, 1) := by decide +kernel
theorem dX5_init_1 : decode cX5_init 1 = .ok (.invokespecial 3, 3) := by decide +kernel
theorem dX5_init_4 : decode cX5_init 4 = .ok (.aload_n 0, 1) := by decide +kernel
theorem dX5_init_5 : decode cX5_init 5 = .ok (.bipush 16, 2) := by decide +kernel
theorem dX5_init_7 : decode cX5_init 7 = .ok (.newarray .int, 2) := by decide +kernel
theorem dX5_init_9 : decode cX5_init 9 = .ok (.putfield 9, 3) := by decide +kernel
theorem dX5_init_12 : decode cX5_init 12 = .ok (.aload_n 0, 1) := by decide +kernel
theorem dX5_init_13 : decode cX5_init 13 = .ok (.bipush 16, 2) := by decide +kernel
theorem dX5_init_15 : decode cX5_init 15 = .ok (.newarray .boolean, 2) := by decide +kernel
theorem dX5_init_17 : decode cX5_init 17 = .ok (.putfield 15, 3) := by decide +kernel
theorem dX5_init_20 : decode cX5_init 20 = .ok (.aload_n 0, 1) := by decide +kernel
theorem dX5_init_21 : decode cX5_init 21 = .ok (.bipush 16, 2) := by decide +kernel
theorem dX5_init_23 : decode cX5_init 23 = .ok (.newarray .boolean, 2) := by decide +kernel
theorem dX5_init_25 : decode cX5_init 25 = .ok (.putfield 19, 3) := by decide +kernel
theorem dX5_init_28 : decode cX5_init 28 = .ok (.aload_n 0, 1) := by decide +kernel
theorem dX5_init_29 : decode cX5_init 29 = .ok (.bipush 16, 2) := by decide +kernel
theorem dX5_init_31 : decode cX5_init 31 = .ok (.newarray .int, 2) := by decide +kernel
theorem dX5_init_33 : decode cX5_init 33 = .ok (.putfield 22, 3) := by decide +kernel
theorem dX5_init_36 : decode cX5_init 36 = .ok (.return_, 1) := by decide +kernel
theorem dX5_become_0 : decode cX5_become 0 = .ok (.aload_n 0, 1) := by decide +kernel
theorem dX5_become_1 : decode cX5_become 1 = .ok (.aload_n 1, 1) := by decide +kernel
theorem dX5_become_2 : decode cX5_become 2 = .ok (.getfield 25, 3) := by decide +kernel
theorem dX5_become_5 : decode cX5_become 5 = .ok (.putfield 31, 3) := by decide +kernel
theorem dX5_become_8 : decode cX5_become 8 = .ok (.aload_n 0, 1) := by decide +kernel
theorem dX5_become_9 : decode cX5_become 9 = .ok (.aload_n 1, 1) := by decide +kernel
theorem dX5_become_10 : decode cX5_become 10 = .ok (.getfield 32, 3) := by decide +kernel
theorem dX5_become_13 : decode cX5_become 13 = .ok (.putfield 35, 3) := by decide +kernel
theorem dX5_become_16 : decode cX5_become 16 = .ok (.aload_n 0, 1) := by decide +kernel
theorem dX5_become_17 : decode cX5_become 17 = .ok (.aload_n 1, 1) := by decide +kernel
theorem dX5_become_18 : decode cX5_become 18 = .ok (.getfield 38, 3) := by decide +kernel
theorem dX5_become_21 : decode cX5_become 21 = .ok (.putfield 41, 3) := by decide +kernel
theorem dX5_become_24 : decode cX5_become 24 = .ok (.iconst 0, 1) := by decide +kernel
theorem dX5_become_25 : decode cX5_become 25 = .ok (.istore_n 2, 1) := by decide +kernel
theorem dX5_become_26 : decode cX5_become 26 = .ok (.iload_n 2, 1) := by decide +kernel
theorem dX5_become_27 : decode cX5_become 27 = .ok (.aload_n 0, 1) := by decide +kernel
theorem dX5_become_28 : decode cX5_become 28 = .ok (.getfield 41, 3) := by decide +kernel
theorem dX5_become_31 : decode cX5_become 31 = .ok (.if_icmp .ge 33, 3) := by decide +kernel
theorem dX5_become_34 : decode cX5_become 34 = .ok (.aload_n 0, 1) := by decide +kernel
theorem dX5_become_35 : decode cX5_become 35 = .ok (.getfield 9, 3) := by decide +kernel
theorem dX5_become_38 : decode cX5_become 38 = .ok (.iload_n 2, 1) := by decide +kernel
theorem dX5_become_39 : decode cX5_become 39 = .ok (.aload_n 1, 1) := by decide +kernel
theorem dX5_become_40 : decode cX5_become 40 = .ok (.getfield 42, 3) := by decide +kernel
theorem dX5_become_43 : decode cX5_become 43 = .ok (.iload_n 2, 1) := by decide +kernel
theorem dX5_become_44 : decode cX5_become 44 = .ok (.iaload, 1) := by decide +kernel
theorem dX5_become_45 : decode cX5_become 45 = .ok (.iastore, 1) := by decide +kernel
theorem dX5_become_46 : decode cX5_become 46 = .ok (.aload_n 0, 1) := by decide +kernel
theorem dX5_become_47 : decode cX5_become 47 = .ok (.getfield 15, 3) := by decide +kernel
theorem dX5_become_50 : decode cX5_become 50 = .ok (.iload_n 2, 1) := by decide +kernel
theorem dX5_become_51 : decode cX5_become 51 = .ok (.aload_n 1, 1) := by decide +kernel
theorem dX5_become_52 : decode cX5_become 52 = .ok (.getfield 43, 3) := by decide +kernel
theorem dX5_become_55 : decode cX5_become 55 = .ok (.iload_n 2, 1) := by decide +kernel
theorem dX5_become_56 : decode cX5_become 56 = .ok (.baload, 1) := by decide +kernel
theorem dX5_become_57 : decode cX5_become 57 = .ok (.bastore, 1) := by decide +kernel
theorem dX5_become_58 : decode cX5_become 58 = .ok (.iinc 2 1, 3) := by decide +kernel
theorem dX5_become_61 : decode cX5_become 61 = .ok (.goto (-35), 3) := by decide +kernel
theorem dX5_become_64 : decode cX5_become 64 = .ok (.return_, 1) := by decide +kernel
theorem dX5_bake_0 : decode cX5_bake 0 = .ok (.aload_n 0, 1) := by decide +kernel
theorem dX5_bake_1 : decode cX5_bake 1 = .ok (.aload_n 1, 1) := by decide +kernel
theorem dX5_bake_2 : decode cX5_bake 2 = .ok (.aload_n 2, 1) := by decide +kernel
theorem dX5_bake_3 : decode cX5_bake 3 = .ok (.aload_n 3, 1) := by decide +kernel
theorem dX5_bake_4 : decode cX5_bake 4 = .ok (.invokevirtual 44, 3) := by decide +kernel
theorem dX5_bake_7 : decode cX5_bake 7 = .ok (.aload_n 0, 1) := by decide +kernel
theorem dX5_bake_8 : decode cX5_bake 8 = .ok (.aload_n 1, 1) := by decide +kernel
theorem dX5_bake_9 : decode cX5_bake 9 = .ok (.aload_n 2, 1) := by decide +kernel
theorem dX5_bake_10 : decode cX5_bake 10 = .ok (.getfield 48, 3) := by decide +kernel
theorem dX5_bake_13 : decode cX5_bake 13 = .ok (.aload_n 2, 1) := by decide +kernel
theorem dX5_bake_14 : decode cX5_bake 14 = .ok (.getfield 53, 3) := by decide +kernel
theorem dX5_bake_17 : decode cX5_bake 17 = .ok (.aload_n 3, 1) := by decide +kernel
theorem dX5_bake_18 : decode cX5_bake 18 = .ok (.invokevirtual 56, 3) := by decide +kernel
theorem dX5_bake_21 : decode cX5_bake 21 = .ok (.iadd, 1) := by decide +kernel
theorem dX5_bake_22 : decode cX5_bake 22 = .ok (.istore 4, 2) := by decide +kernel
theorem dX5_bake_24 : decode cX5_bake 24 = .ok (.aload_n 0, 1) := by decide +kernel
theorem dX5_bake_25 : decode cX5_bake 25 = .ok (.aload_n 1, 1) := by decide +kernel
theorem dX5_bake_26 : decode cX5_bake 26 = .ok (.aload_n 2, 1) := by decide +kernel
theorem dX5_bake_27 : decode cX5_bake 27 = .ok (.getfield 48, 3) := by decide +kernel
theorem dX5_bake_30 : decode cX5_bake 30 = .ok (.aload_n 2, 1) := by decide +kernel
theorem dX5_bake_31 : decode cX5_bake 31 = .ok (.getfield 60, 3) := by decide +kernel
theorem dX5_bake_34 : decode cX5_bake 34 = .ok (.aload_n 3, 1) := by decide +kernel
theorem dX5_bake_35 : decode cX5_bake 35 = .ok (.invokevirtual 56, 3) := by decide +kernel
theorem dX5_bake_38 : decode cX5_bake 38 = .ok (.istore 5, 2) := by decide +kernel
theorem dX5_bake_40 : decode cX5_bake 40 = .ok (.aload_n 3, 1) := by decide +kernel
theorem dX5_bake_41 : decode cX5_bake 41 = .ok (.iload 4, 2) := by decide +kernel
theorem dX5_bake_43 : decode cX5_bake 43 = .ok (.iload 5, 2) := by decide +kernel
theorem dX5_bake_45 : decode cX5_bake 45 = .ok (.aload_n 0, 1) := by decide +kernel
theorem dX5_bake_46 : decode cX5_bake 46 = .ok (.aload_n 1, 1) := by decide +kernel
theorem dX5_bake_47 : decode cX5_bake 47 = .ok (.aload_n 3, 1) := by decide +kernel
theorem dX5_bake_48 : decode cX5_bake 48 = .ok (.invokevirtual 63, 3) := by decide +kernel
theorem dX5_bake_51 : decode cX5_bake 51 = .ok (.invokevirtual 67, 3) := by decide +kernel
theorem dX5_bake_54 : decode cX5_bake 54 = .ok (.return_, 1) := by decide +kernel
theorem dX5_spread_0 : decode cX5_spread 0 = .ok (.aload_n 0, 1) := by decide +kernel
theorem dX5_spread_1 : decode cX5_spread 1 = .ok (.aload_n 1, 1) := by decide +kernel
theorem dX5_spread_2 : decode cX5_spread 2 = .ok (.aload_n 2, 1) := by decide +kernel
theorem dX5_spread_3 : decode cX5_spread 3 = .ok (.getfield 73, 3) := by decide +kernel
theorem dX5_spread_6 : decode cX5_spread 6 = .ok (.aload_n 3, 1) := by decide +kernel
theorem dX5_spread_7 : decode cX5_spread 7 = .ok (.invokevirtual 76, 3) := by decide +kernel
theorem dX5_spread_10 : decode cX5_spread 10 = .ok (.iconst 0, 1) := by decide +kernel
theorem dX5_spread_11 : decode cX5_spread 11 = .ok (.istore 4, 2) := by decide +kernel
theorem dX5_spread_13 : decode cX5_spread 13 = .ok (.iconst 0, 1) := by decide +kernel
theorem dX5_spread_14 : decode cX5_spread 14 = .ok (.istore 5, 2) := by decide +kernel
theorem dX5_spread_16 : decode cX5_spread 16 = .ok (.iload 5, 2) := by decide +kernel
theorem dX5_spread_18 : decode cX5_spread 18 = .ok (.aload_n 2, 1) := by decide +kernel
theorem dX5_spread_19 : decode cX5_spread 19 = .ok (.getfield 80, 3) := by decide +kernel
theorem dX5_spread_22 : decode cX5_spread 22 = .ok (.if_icmp .ge 43, 3) := by decide +kernel
theorem dX5_spread_25 : decode cX5_spread 25 = .ok (.iload 4, 2) := by decide +kernel
theorem dX5_spread_27 : decode cX5_spread 27 = .ok (.aload_n 0, 1) := by decide +kernel
theorem dX5_spread_28 : decode cX5_spread 28 = .ok (.aload_n 1, 1) := by decide +kernel
theorem dX5_spread_29 : decode cX5_spread 29 = .ok (.aload_n 2, 1) := by decide +kernel
theorem dX5_spread_30 : decode cX5_spread 30 = .ok (.getfield 48, 3) := by decide +kernel
theorem dX5_spread_33 : decode cX5_spread 33 = .ok (.iconst 1, 1) := by decide +kernel
theorem dX5_spread_34 : decode cX5_spread 34 = .ok (.aload_n 3, 1) := by decide +kernel
theorem dX5_spread_35 : decode cX5_spread 35 = .ok (.invokevirtual 56, 3) := by decide +kernel
theorem dX5_spread_38 : decode cX5_spread 38 = .ok (.iadd, 1) := by decide +kernel
theorem dX5_spread_39 : decode cX5_spread 39 = .ok (.istore 4, 2) := by decide +kernel
theorem dX5_spread_41 : decode cX5_spread 41 = .ok (.aload_n 0, 1) := by decide +kernel
theorem dX5_spread_42 : decode cX5_spread 42 = .ok (.aload_n 1, 1) := by decide +kernel
theorem dX5_spread_43 : decode cX5_spread 43 = .ok (.aload_n 3, 1) := by decide +kernel
theorem dX5_spread_44 : decode cX5_spread 44 = .ok (.invokevirtual 83, 3) := by decide +kernel
theorem dX5_spread_47 : decode cX5_spread 47 = .ok (.aload_n 0, 1) := by decide +kernel
theorem dX5_spread_48 : decode cX5_spread 48 = .ok (.aload_n 1, 1) := by decide +kernel
theorem dX5_spread_49 : decode cX5_spread 49 = .ok (.aload_n 3, 1) := by decide +kernel
theorem dX5_spread_50 : decode cX5_spread 50 = .ok (.aload_n 2, 1) := by decide +kernel
theorem dX5_spread_51 : decode cX5_spread 51 = .ok (.iload 5, 2) := by decide +kernel
theorem dX5_spread_53 : decode cX5_spread 53 = .ok (.invokevirtual 87, 3) := by decide +kernel
theorem dX5_spread_56 : decode cX5_spread 56 = .ok (.invokevirtual 91, 3) := by decide +kernel
theorem dX5_spread_59 : decode cX5_spread 59 = .ok (.iinc 5 1, 3) := by decide +kernel
theorem dX5_spread_62 : decode cX5_spread 62 = .ok (.goto (-46), 3) := by decide +kernel
theorem dX5_spread_65 : decode cX5_spread 65 = .ok (.iload 4, 2) := by decide +kernel
theorem dX5_spread_67 : decode cX5_spread 67 = .ok (.ireturn, 1) := by decide +kernel
theorem dX5_pour_0 : decode cX5_pour 0 = .ok (.iconst 0, 1) := by decide +kernel
theorem dX5_pour_1 : decode cX5_pour 1 = .ok (.istore 4, 2) := by decide +kernel
theorem dX5_pour_3 : decode cX5_pour 3 = .ok (.iload 4, 2) := by decide +kernel
theorem dX5_pour_5 : decode cX5_pour 5 = .ok (.bipush 16, 2) := by decide +kernel
theorem dX5_pour_7 : decode cX5_pour 7 = .ok (.if_icmp .ge 25, 3) := by decide +kernel
theorem dX5_pour_10 : decode cX5_pour 10 = .ok (.aload_n 3, 1) := by decide +kernel
theorem dX5_pour_11 : decode cX5_pour 11 = .ok (.getfield 95, 3) := by decide +kernel
theorem dX5_pour_14 : decode cX5_pour 14 = .ok (.iload 4, 2) := by decide +kernel
theorem dX5_pour_16 : decode cX5_pour 16 = .ok (.iconst 0, 1) := by decide +kernel
theorem dX5_pour_17 : decode cX5_pour 17 = .ok (.iastore, 1) := by decide +kernel
theorem dX5_pour_18 : decode cX5_pour 18 = .ok (.aload_n 0, 1) := by decide +kernel
theorem dX5_pour_19 : decode cX5_pour 19 = .ok (.getfield 19, 3) := by decide +kernel
theorem dX5_pour_22 : decode cX5_pour 22 = .ok (.iload 4, 2) := by decide +kernel
theorem dX5_pour_24 : decode cX5_pour 24 = .ok (.iconst 0, 1) := by decide +kernel
theorem dX5_pour_25 : decode cX5_pour 25 = .ok (.bastore, 1) := by decide +kernel
theorem dX5_pour_26 : decode cX5_pour 26 = .ok (.iinc 4 1, 3) := by decide +kernel
theorem dX5_pour_29 : decode cX5_pour 29 = .ok (.goto (-26), 3) := by decide +kernel
theorem dX5_pour_32 : decode cX5_pour 32 = .ok (.aload_n 0, 1) := by decide +kernel
theorem dX5_pour_33 : decode cX5_pour 33 = .ok (.getfield 31, 3) := by decide +kernel
theorem dX5_pour_36 : decode cX5_pour 36 = .ok (.iconst 2, 1) := by decide +kernel
theorem dX5_pour_37 : decode cX5_pour 37 = .ok (.idiv, 1) := by decide +kernel
theorem dX5_pour_38 : decode cX5_pour 38 = .ok (.aload_n 0, 1) := by decide +kernel
theorem dX5_pour_39 : decode cX5_pour 39 = .ok (.getfield 35, 3) := by decide +kernel
theorem dX5_pour_42 : decode cX5_pour 42 = .ok (.imul, 1) := by decide +kernel
theorem dX5_pour_43 : decode cX5_pour 43 = .ok (.aload_n 0, 1) := by decide +kernel
theorem dX5_pour_44 : decode cX5_pour 44 = .ok (.getfield 35, 3) := by decide +kernel
theorem dX5_pour_47 : decode cX5_pour 47 = .ok (.iconst 2, 1) := by decide +kernel
theorem dX5_pour_48 : decode cX5_pour 48 = .ok (.idiv, 1) := by decide +kernel
theorem dX5_pour_49 : decode cX5_pour 49 = .ok (.iadd, 1) := by decide +kernel
theorem dX5_pour_50 : decode cX5_pour 50 = .ok (.istore 4, 2) := by decide +kernel
theorem dX5_pour_52 : decode cX5_pour 52 = .ok (.aload_n 3, 1) := by decide +kernel
theorem dX5_pour_53 : decode cX5_pour 53 = .ok (.getfield 95, 3) := by decide +kernel
theorem dX5_pour_56 : decode cX5_pour 56 = .ok (.iload 4, 2) := by decide +kernel
theorem dX5_pour_58 : decode cX5_pour 58 = .ok (.iload_n 2, 1) := by decide +kernel
theorem dX5_pour_59 : decode cX5_pour 59 = .ok (.iastore, 1) := by decide +kernel
theorem dX5_pour_60 : decode cX5_pour 60 = .ok (.aload_n 1, 1) := by decide +kernel
theorem dX5_pour_61 : decode cX5_pour 61 = .ok (.iload 4, 2) := by decide +kernel
theorem dX5_pour_63 : decode cX5_pour 63 = .ok (.iload_n 2, 1) := by decide +kernel
theorem dX5_pour_64 : decode cX5_pour 64 = .ok (.invokevirtual 98, 3) := by decide +kernel
theorem dX5_pour_67 : decode cX5_pour 67 = .ok (.return_, 1) := by decide +kernel
theorem dX5_lie_0 : decode cX5_lie 0 = .ok (.iconst 0, 1) := by decide +kernel
theorem dX5_lie_1 : decode cX5_lie 1 = .ok (.istore 5, 2) := by decide +kernel
theorem dX5_lie_3 : decode cX5_lie 3 = .ok (.iconst 0, 1) := by decide +kernel
theorem dX5_lie_4 : decode cX5_lie 4 = .ok (.istore 6, 2) := by decide +kernel
theorem dX5_lie_6 : decode cX5_lie 6 = .ok (.iload 6, 2) := by decide +kernel
theorem dX5_lie_8 : decode cX5_lie 8 = .ok (.aload_n 0, 1) := by decide +kernel
theorem dX5_lie_9 : decode cX5_lie 9 = .ok (.getfield 41, 3) := by decide +kernel
theorem dX5_lie_12 : decode cX5_lie 12 = .ok (.if_icmp .ge 38, 3) := by decide +kernel
theorem dX5_lie_15 : decode cX5_lie 15 = .ok (.iload 5, 2) := by decide +kernel
theorem dX5_lie_17 : decode cX5_lie 17 = .ok (.aload_n 1, 1) := by decide +kernel
theorem dX5_lie_18 : decode cX5_lie 18 = .ok (.iload 6, 2) := by decide +kernel
theorem dX5_lie_20 : decode cX5_lie 20 = .ok (.iload_n 2, 1) := by decide +kernel
theorem dX5_lie_21 : decode cX5_lie 21 = .ok (.aload_n 0, 1) := by decide +kernel
theorem dX5_lie_22 : decode cX5_lie 22 = .ok (.getfield 9, 3) := by decide +kernel
theorem dX5_lie_25 : decode cX5_lie 25 = .ok (.iload 6, 2) := by decide +kernel
theorem dX5_lie_27 : decode cX5_lie 27 = .ok (.iaload, 1) := by decide +kernel
theorem dX5_lie_28 : decode cX5_lie 28 = .ok (.imul, 1) := by decide +kernel
theorem dX5_lie_29 : decode cX5_lie 29 = .ok (.iload_n 3, 1) := by decide +kernel
theorem dX5_lie_30 : decode cX5_lie 30 = .ok (.aload 4, 2) := by decide +kernel
theorem dX5_lie_32 : decode cX5_lie 32 = .ok (.getfield 95, 3) := by decide +kernel
theorem dX5_lie_35 : decode cX5_lie 35 = .ok (.iload 6, 2) := by decide +kernel
theorem dX5_lie_37 : decode cX5_lie 37 = .ok (.iaload, 1) := by decide +kernel
theorem dX5_lie_38 : decode cX5_lie 38 = .ok (.invokevirtual 104, 3) := by decide +kernel
theorem dX5_lie_41 : decode cX5_lie 41 = .ok (.iadd, 1) := by decide +kernel
theorem dX5_lie_42 : decode cX5_lie 42 = .ok (.istore 5, 2) := by decide +kernel
theorem dX5_lie_44 : decode cX5_lie 44 = .ok (.iinc 6 1, 3) := by decide +kernel
theorem dX5_lie_47 : decode cX5_lie 47 = .ok (.goto (-41), 3) := by decide +kernel
theorem dX5_lie_50 : decode cX5_lie 50 = .ok (.iload 5, 2) := by decide +kernel
theorem dX5_lie_52 : decode cX5_lie 52 = .ok (.ireturn, 1) := by decide +kernel
theorem dX5_fasten_0 : decode cX5_fasten 0 = .ok (.iconst 0, 1) := by decide +kernel
theorem dX5_fasten_1 : decode cX5_fasten 1 = .ok (.istore_n 3, 1) := by decide +kernel
theorem dX5_fasten_2 : decode cX5_fasten 2 = .ok (.iload_n 3, 1) := by decide +kernel
theorem dX5_fasten_3 : decode cX5_fasten 3 = .ok (.aload_n 0, 1) := by decide +kernel
theorem dX5_fasten_4 : decode cX5_fasten 4 = .ok (.getfield 41, 3) := by decide +kernel
theorem dX5_fasten_7 : decode cX5_fasten 7 = .ok (.if_icmp .ge 36, 3) := by decide +kernel
theorem dX5_fasten_10 : decode cX5_fasten 10 = .ok (.aload_n 2, 1) := by decide +kernel
theorem dX5_fasten_11 : decode cX5_fasten 11 = .ok (.getfield 95, 3) := by decide +kernel
theorem dX5_fasten_14 : decode cX5_fasten 14 = .ok (.iload_n 3, 1) := by decide +kernel
theorem dX5_fasten_15 : decode cX5_fasten 15 = .ok (.iaload, 1) := by decide +kernel
theorem dX5_fasten_16 : decode cX5_fasten 16 = .ok (.ifCond .le 21, 3) := by decide +kernel
theorem dX5_fasten_19 : decode cX5_fasten 19 = .ok (.aload_n 1, 1) := by decide +kernel
theorem dX5_fasten_20 : decode cX5_fasten 20 = .ok (.getfield 108, 3) := by decide +kernel
theorem dX5_fasten_23 : decode cX5_fasten 23 = .ok (.iload_n 3, 1) := by decide +kernel
theorem dX5_fasten_24 : decode cX5_fasten 24 = .ok (.iaload, 1) := by decide +kernel
theorem dX5_fasten_25 : decode cX5_fasten 25 = .ok (.bipush 100, 2) := by decide +kernel
theorem dX5_fasten_27 : decode cX5_fasten 27 = .ok (.if_icmp .lt 10, 3) := by decide +kernel
theorem dX5_fasten_30 : decode cX5_fasten 30 = .ok (.aload_n 0, 1) := by decide +kernel
theorem dX5_fasten_31 : decode cX5_fasten 31 = .ok (.getfield 19, 3) := by decide +kernel
theorem dX5_fasten_34 : decode cX5_fasten 34 = .ok (.iload_n 3, 1) := by decide +kernel
theorem dX5_fasten_35 : decode cX5_fasten 35 = .ok (.iconst 1, 1) := by decide +kernel
theorem dX5_fasten_36 : decode cX5_fasten 36 = .ok (.bastore, 1) := by decide +kernel
theorem dX5_fasten_37 : decode cX5_fasten 37 = .ok (.iinc 3 1, 3) := by decide +kernel
theorem dX5_fasten_40 : decode cX5_fasten 40 = .ok (.goto (-38), 3) := by decide +kernel
theorem dX5_fasten_43 : decode cX5_fasten 43 = .ok (.return_, 1) := by decide +kernel
theorem dX5_run_0 : decode cX5_run 0 = .ok (.iconst 0, 1) := by decide +kernel
theorem dX5_run_1 : decode cX5_run 1 = .ok (.istore 4, 2) := by decide +kernel
theorem dX5_run_3 : decode cX5_run 3 = .ok (.iload 4, 2) := by decide +kernel
theorem dX5_run_5 : decode cX5_run 5 = .ok (.aload_n 0, 1) := by decide +kernel
theorem dX5_run_6 : decode cX5_run 6 = .ok (.getfield 41, 3) := by decide +kernel
theorem dX5_run_9 : decode cX5_run 9 = .ok (.if_icmp .ge 39, 3) := by decide +kernel
theorem dX5_run_12 : decode cX5_run 12 = .ok (.aload_n 0, 1) := by decide +kernel
theorem dX5_run_13 : decode cX5_run 13 = .ok (.getfield 22, 3) := by decide +kernel
theorem dX5_run_16 : decode cX5_run 16 = .ok (.iload 4, 2) := by decide +kernel
theorem dX5_run_18 : decode cX5_run 18 = .ok (.aload_n 0, 1) := by decide +kernel
theorem dX5_run_19 : decode cX5_run 19 = .ok (.getfield 19, 3) := by decide +kernel
theorem dX5_run_22 : decode cX5_run 22 = .ok (.iload 4, 2) := by decide +kernel
theorem dX5_run_24 : decode cX5_run 24 = .ok (.baload, 1) := by decide +kernel
theorem dX5_run_25 : decode cX5_run 25 = .ok (.ifCond .eq 7, 3) := by decide +kernel
theorem dX5_run_28 : decode cX5_run 28 = .ok (.iconst 0, 1) := by decide +kernel
theorem dX5_run_29 : decode cX5_run 29 = .ok (.goto 12, 3) := by decide +kernel
theorem dX5_run_32 : decode cX5_run 32 = .ok (.aload_n 2, 1) := by decide +kernel
theorem dX5_run_33 : decode cX5_run 33 = .ok (.getfield 95, 3) := by decide +kernel
theorem dX5_run_36 : decode cX5_run 36 = .ok (.iload 4, 2) := by decide +kernel
theorem dX5_run_38 : decode cX5_run 38 = .ok (.iaload, 1) := by decide +kernel
theorem dX5_run_39 : decode cX5_run 39 = .ok (.iconst 2, 1) := by decide +kernel
theorem dX5_run_40 : decode cX5_run 40 = .ok (.idiv, 1) := by decide +kernel
theorem dX5_run_41 : decode cX5_run 41 = .ok (.iastore, 1) := by decide +kernel
theorem dX5_run_42 : decode cX5_run 42 = .ok (.iinc 4 1, 3) := by decide +kernel
theorem dX5_run_45 : decode cX5_run 45 = .ok (.goto (-42), 3) := by decide +kernel
theorem dX5_run_48 : decode cX5_run 48 = .ok (.iconst 0, 1) := by decide +kernel
theorem dX5_run_49 : decode cX5_run 49 = .ok (.istore 4, 2) := by decide +kernel
theorem dX5_run_51 : decode cX5_run 51 = .ok (.iload 4, 2) := by decide +kernel
theorem dX5_run_53 : decode cX5_run 53 = .ok (.aload_n 0, 1) := by decide +kernel
theorem dX5_run_54 : decode cX5_run 54 = .ok (.getfield 31, 3) := by decide +kernel
theorem dX5_run_57 : decode cX5_run 57 = .ok (.if_icmp .ge 103, 3) := by decide +kernel
theorem dX5_run_60 : decode cX5_run 60 = .ok (.iconst 0, 1) := by decide +kernel
theorem dX5_run_61 : decode cX5_run 61 = .ok (.istore 5, 2) := by decide +kernel
theorem dX5_run_63 : decode cX5_run 63 = .ok (.iload 5, 2) := by decide +kernel
theorem dX5_run_65 : decode cX5_run 65 = .ok (.aload_n 0, 1) := by decide +kernel
theorem dX5_run_66 : decode cX5_run 66 = .ok (.getfield 35, 3) := by decide +kernel
theorem dX5_run_69 : decode cX5_run 69 = .ok (.if_icmp .ge 85, 3) := by decide +kernel
theorem dX5_run_72 : decode cX5_run 72 = .ok (.iload 4, 2) := by decide +kernel
theorem dX5_run_74 : decode cX5_run 74 = .ok (.aload_n 0, 1) := by decide +kernel
theorem dX5_run_75 : decode cX5_run 75 = .ok (.getfield 35, 3) := by decide +kernel
theorem dX5_run_78 : decode cX5_run 78 = .ok (.imul, 1) := by decide +kernel
theorem dX5_run_79 : decode cX5_run 79 = .ok (.iload 5, 2) := by decide +kernel
theorem dX5_run_81 : decode cX5_run 81 = .ok (.iadd, 1) := by decide +kernel
theorem dX5_run_82 : decode cX5_run 82 = .ok (.istore 6, 2) := by decide +kernel
theorem dX5_run_84 : decode cX5_run 84 = .ok (.aload_n 0, 1) := by decide +kernel
theorem dX5_run_85 : decode cX5_run 85 = .ok (.iload 4, 2) := by decide +kernel
theorem dX5_run_87 : decode cX5_run 87 = .ok (.iload 5, 2) := by decide +kernel
theorem dX5_run_89 : decode cX5_run 89 = .ok (.iload_n 3, 1) := by decide +kernel
theorem dX5_run_90 : decode cX5_run 90 = .ok (.invokevirtual 111, 3) := by decide +kernel
theorem dX5_run_93 : decode cX5_run 93 = .ok (.istore 7, 2) := by decide +kernel
theorem dX5_run_95 : decode cX5_run 95 = .ok (.iload 7, 2) := by decide +kernel
theorem dX5_run_97 : decode cX5_run 97 = .ok (.iconst (-1), 1) := by decide +kernel
theorem dX5_run_98 : decode cX5_run 98 = .ok (.if_icmp .eq 50, 3) := by decide +kernel
theorem dX5_run_101 : decode cX5_run 101 = .ok (.aload_n 2, 1) := by decide +kernel
theorem dX5_run_102 : decode cX5_run 102 = .ok (.getfield 95, 3) := by decide +kernel
theorem dX5_run_105 : decode cX5_run 105 = .ok (.iload 6, 2) := by decide +kernel
theorem dX5_run_107 : decode cX5_run 107 = .ok (.dup2, 1) := by decide +kernel
theorem dX5_run_108 : decode cX5_run 108 = .ok (.iaload, 1) := by decide +kernel
theorem dX5_run_109 : decode cX5_run 109 = .ok (.aload_n 0, 1) := by decide +kernel
theorem dX5_run_110 : decode cX5_run 110 = .ok (.getfield 22, 3) := by decide +kernel
theorem dX5_run_113 : decode cX5_run 113 = .ok (.iload 6, 2) := by decide +kernel
theorem dX5_run_115 : decode cX5_run 115 = .ok (.iaload, 1) := by decide +kernel
theorem dX5_run_116 : decode cX5_run 116 = .ok (.isub, 1) := by decide +kernel
theorem dX5_run_117 : decode cX5_run 117 = .ok (.iastore, 1) := by decide +kernel
theorem dX5_run_118 : decode cX5_run 118 = .ok (.aload_n 2, 1) := by decide +kernel
theorem dX5_run_119 : decode cX5_run 119 = .ok (.getfield 95, 3) := by decide +kernel
theorem dX5_run_122 : decode cX5_run 122 = .ok (.iload 7, 2) := by decide +kernel
theorem dX5_run_124 : decode cX5_run 124 = .ok (.dup2, 1) := by decide +kernel
theorem dX5_run_125 : decode cX5_run 125 = .ok (.iaload, 1) := by decide +kernel
theorem dX5_run_126 : decode cX5_run 126 = .ok (.aload_n 0, 1) := by decide +kernel
theorem dX5_run_127 : decode cX5_run 127 = .ok (.getfield 22, 3) := by decide +kernel
theorem dX5_run_130 : decode cX5_run 130 = .ok (.iload 6, 2) := by decide +kernel
theorem dX5_run_132 : decode cX5_run 132 = .ok (.iaload, 1) := by decide +kernel
theorem dX5_run_133 : decode cX5_run 133 = .ok (.iadd, 1) := by decide +kernel
theorem dX5_run_134 : decode cX5_run 134 = .ok (.iastore, 1) := by decide +kernel
theorem dX5_run_135 : decode cX5_run 135 = .ok (.aload_n 1, 1) := by decide +kernel
theorem dX5_run_136 : decode cX5_run 136 = .ok (.iload 7, 2) := by decide +kernel
theorem dX5_run_138 : decode cX5_run 138 = .ok (.aload_n 0, 1) := by decide +kernel
theorem dX5_run_139 : decode cX5_run 139 = .ok (.getfield 22, 3) := by decide +kernel
theorem dX5_run_142 : decode cX5_run 142 = .ok (.iload 6, 2) := by decide +kernel
theorem dX5_run_144 : decode cX5_run 144 = .ok (.iaload, 1) := by decide +kernel
theorem dX5_run_145 : decode cX5_run 145 = .ok (.invokevirtual 98, 3) := by decide +kernel
theorem dX5_run_148 : decode cX5_run 148 = .ok (.iinc 5 1, 3) := by decide +kernel
theorem dX5_run_151 : decode cX5_run 151 = .ok (.goto (-88), 3) := by decide +kernel
theorem dX5_run_154 : decode cX5_run 154 = .ok (.iinc 4 1, 3) := by decide +kernel
theorem dX5_run_157 : decode cX5_run 157 = .ok (.goto (-106), 3) := by decide +kernel
theorem dX5_run_160 : decode cX5_run 160 = .ok (.return_, 1) := by decide +kernel
theorem dX5_beside_0 : decode cX5_beside 0 = .ok (.iload_n 1, 1) := by decide +kernel
theorem dX5_beside_1 : decode cX5_beside 1 = .ok (.iload_n 3, 1) := by decide +kernel
theorem dX5_beside_2 : decode cX5_beside 2 = .ok (.ifCond .ne 7, 3) := by decide +kernel
theorem dX5_beside_5 : decode cX5_beside 5 = .ok (.iconst (-1), 1) := by decide +kernel
theorem dX5_beside_6 : decode cX5_beside 6 = .ok (.goto 13, 3) := by decide +kernel
theorem dX5_beside_9 : decode cX5_beside 9 = .ok (.iload_n 3, 1) := by decide +kernel
theorem dX5_beside_10 : decode cX5_beside 10 = .ok (.iconst 2, 1) := by decide +kernel
theorem dX5_beside_11 : decode cX5_beside 11 = .ok (.if_icmp .ne 7, 3) := by decide +kernel
theorem dX5_beside_14 : decode cX5_beside 14 = .ok (.iconst 1, 1) := by decide +kernel
theorem dX5_beside_15 : decode cX5_beside 15 = .ok (.goto 4, 3) := by decide +kernel
theorem dX5_beside_18 : decode cX5_beside 18 = .ok (.iconst 0, 1) := by decide +kernel
theorem dX5_beside_19 : decode cX5_beside 19 = .ok (.iadd, 1) := by decide +kernel
theorem dX5_beside_20 : decode cX5_beside 20 = .ok (.istore 4, 2) := by decide +kernel
theorem dX5_beside_22 : decode cX5_beside 22 = .ok (.iload_n 2, 1) := by decide +kernel
theorem dX5_beside_23 : decode cX5_beside 23 = .ok (.iload_n 3, 1) := by decide +kernel
theorem dX5_beside_24 : decode cX5_beside 24 = .ok (.iconst 3, 1) := by decide +kernel
theorem dX5_beside_25 : decode cX5_beside 25 = .ok (.if_icmp .ne 7, 3) := by decide +kernel
theorem dX5_beside_28 : decode cX5_beside 28 = .ok (.iconst (-1), 1) := by decide +kernel
theorem dX5_beside_29 : decode cX5_beside 29 = .ok (.goto 13, 3) := by decide +kernel
theorem dX5_beside_32 : decode cX5_beside 32 = .ok (.iload_n 3, 1) := by decide +kernel
theorem dX5_beside_33 : decode cX5_beside 33 = .ok (.iconst 1, 1) := by decide +kernel
theorem dX5_beside_34 : decode cX5_beside 34 = .ok (.if_icmp .ne 7, 3) := by decide +kernel
theorem dX5_beside_37 : decode cX5_beside 37 = .ok (.iconst 1, 1) := by decide +kernel
theorem dX5_beside_38 : decode cX5_beside 38 = .ok (.goto 4, 3) := by decide +kernel
theorem dX5_beside_41 : decode cX5_beside 41 = .ok (.iconst 0, 1) := by decide +kernel
theorem dX5_beside_42 : decode cX5_beside 42 = .ok (.iadd, 1) := by decide +kernel
theorem dX5_beside_43 : decode cX5_beside 43 = .ok (.istore 5, 2) := by decide +kernel
theorem dX5_beside_45 : decode cX5_beside 45 = .ok (.iload 4, 2) := by decide +kernel
theorem dX5_beside_47 : decode cX5_beside 47 = .ok (.iconst 0, 1) := by decide +kernel
theorem dX5_beside_48 : decode cX5_beside 48 = .ok (.aload_n 0, 1) := by decide +kernel
theorem dX5_beside_49 : decode cX5_beside 49 = .ok (.getfield 31, 3) := by decide +kernel
theorem dX5_beside_52 : decode cX5_beside 52 = .ok (.iconst 1, 1) := by decide +kernel
theorem dX5_beside_53 : decode cX5_beside 53 = .ok (.isub, 1) := by decide +kernel
theorem dX5_beside_54 : decode cX5_beside 54 = .ok (.invokestatic 115, 3) := by decide +kernel
theorem dX5_beside_57 : decode cX5_beside 57 = .ok (.ifCond .eq 22, 3) := by decide +kernel
theorem dX5_beside_60 : decode cX5_beside 60 = .ok (.iload 5, 2) := by decide +kernel
theorem dX5_beside_62 : decode cX5_beside 62 = .ok (.iconst 0, 1) := by decide +kernel
theorem dX5_beside_63 : decode cX5_beside 63 = .ok (.aload_n 0, 1) := by decide +kernel
theorem dX5_beside_64 : decode cX5_beside 64 = .ok (.getfield 35, 3) := by decide +kernel
theorem dX5_beside_67 : decode cX5_beside 67 = .ok (.iconst 1, 1) := by decide +kernel
theorem dX5_beside_68 : decode cX5_beside 68 = .ok (.isub, 1) := by decide +kernel
theorem dX5_beside_69 : decode cX5_beside 69 = .ok (.invokestatic 115, 3) := by decide +kernel
theorem dX5_beside_72 : decode cX5_beside 72 = .ok (.ifCond .eq 7, 3) := by decide +kernel
theorem dX5_beside_75 : decode cX5_beside 75 = .ok (.iconst 1, 1) := by decide +kernel
theorem dX5_beside_76 : decode cX5_beside 76 = .ok (.goto 4, 3) := by decide +kernel
theorem dX5_beside_79 : decode cX5_beside 79 = .ok (.iconst 0, 1) := by decide +kernel
theorem dX5_beside_80 : decode cX5_beside 80 = .ok (.istore 6, 2) := by decide +kernel
theorem dX5_beside_82 : decode cX5_beside 82 = .ok (.iload 6, 2) := by decide +kernel
theorem dX5_beside_84 : decode cX5_beside 84 = .ok (.ifCond .eq 16, 3) := by decide +kernel
theorem dX5_beside_87 : decode cX5_beside 87 = .ok (.iload 4, 2) := by decide +kernel
theorem dX5_beside_89 : decode cX5_beside 89 = .ok (.aload_n 0, 1) := by decide +kernel
theorem dX5_beside_90 : decode cX5_beside 90 = .ok (.getfield 35, 3) := by decide +kernel
theorem dX5_beside_93 : decode cX5_beside 93 = .ok (.imul, 1) := by decide +kernel
theorem dX5_beside_94 : decode cX5_beside 94 = .ok (.iload 5, 2) := by decide +kernel
theorem dX5_beside_96 : decode cX5_beside 96 = .ok (.iadd, 1) := by decide +kernel
theorem dX5_beside_97 : decode cX5_beside 97 = .ok (.goto 4, 3) := by decide +kernel
theorem dX5_beside_100 : decode cX5_beside 100 = .ok (.iconst (-1), 1) := by decide +kernel
theorem dX5_beside_101 : decode cX5_beside 101 = .ok (.ireturn, 1) := by decide +kernel
theorem dX5_takeOut_0 : decode cX5_takeOut 0 = .ok (.iconst 0, 1) := by decide +kernel
theorem dX5_takeOut_1 : decode cX5_takeOut 1 = .ok (.istore_n 3, 1) := by decide +kernel
theorem dX5_takeOut_2 : decode cX5_takeOut 2 = .ok (.iconst 0, 1) := by decide +kernel
theorem dX5_takeOut_3 : decode cX5_takeOut 3 = .ok (.istore 4, 2) := by decide +kernel
theorem dX5_takeOut_5 : decode cX5_takeOut 5 = .ok (.iload 4, 2) := by decide +kernel
theorem dX5_takeOut_7 : decode cX5_takeOut 7 = .ok (.aload_n 0, 1) := by decide +kernel
theorem dX5_takeOut_8 : decode cX5_takeOut 8 = .ok (.getfield 41, 3) := by decide +kernel
theorem dX5_takeOut_11 : decode cX5_takeOut 11 = .ok (.if_icmp .ge 67, 3) := by decide +kernel
theorem dX5_takeOut_14 : decode cX5_takeOut 14 = .ok (.aload_n 2, 1) := by decide +kernel
theorem dX5_takeOut_15 : decode cX5_takeOut 15 = .ok (.getfield 95, 3) := by decide +kernel
theorem dX5_takeOut_18 : decode cX5_takeOut 18 = .ok (.iload 4, 2) := by decide +kernel
theorem dX5_takeOut_20 : decode cX5_takeOut 20 = .ok (.iaload, 1) := by decide +kernel
theorem dX5_takeOut_21 : decode cX5_takeOut 21 = .ok (.ifCond .le 51, 3) := by decide +kernel
theorem dX5_takeOut_24 : decode cX5_takeOut 24 = .ok (.aload_n 0, 1) := by decide +kernel
theorem dX5_takeOut_25 : decode cX5_takeOut 25 = .ok (.getfield 15, 3) := by decide +kernel
theorem dX5_takeOut_28 : decode cX5_takeOut 28 = .ok (.iload 4, 2) := by decide +kernel
theorem dX5_takeOut_30 : decode cX5_takeOut 30 = .ok (.baload, 1) := by decide +kernel
theorem dX5_takeOut_31 : decode cX5_takeOut 31 = .ok (.ifCond .eq 41, 3) := by decide +kernel
theorem dX5_takeOut_34 : decode cX5_takeOut 34 = .ok (.aload_n 1, 1) := by decide +kernel
theorem dX5_takeOut_35 : decode cX5_takeOut 35 = .ok (.getfield 119, 3) := by decide +kernel
theorem dX5_takeOut_38 : decode cX5_takeOut 38 = .ok (.aload_n 1, 1) := by decide +kernel
theorem dX5_takeOut_39 : decode cX5_takeOut 39 = .ok (.getfield 122, 3) := by decide +kernel
theorem dX5_takeOut_42 : decode cX5_takeOut 42 = .ok (.iload 4, 2) := by decide +kernel
theorem dX5_takeOut_44 : decode cX5_takeOut 44 = .ok (.iaload, 1) := by decide +kernel
theorem dX5_takeOut_45 : decode cX5_takeOut 45 = .ok (.if_icmp .gt 27, 3) := by decide +kernel
theorem dX5_takeOut_48 : decode cX5_takeOut 48 = .ok (.aload_n 1, 1) := by decide +kernel
theorem dX5_takeOut_49 : decode cX5_takeOut 49 = .ok (.getfield 122, 3) := by decide +kernel
theorem dX5_takeOut_52 : decode cX5_takeOut 52 = .ok (.iload 4, 2) := by decide +kernel
theorem dX5_takeOut_54 : decode cX5_takeOut 54 = .ok (.bipush 9, 2) := by decide +kernel
theorem dX5_takeOut_56 : decode cX5_takeOut 56 = .ok (.aload_n 1, 1) := by decide +kernel
theorem dX5_takeOut_57 : decode cX5_takeOut 57 = .ok (.getfield 122, 3) := by decide +kernel
theorem dX5_takeOut_60 : decode cX5_takeOut 60 = .ok (.iload 4, 2) := by decide +kernel
theorem dX5_takeOut_62 : decode cX5_takeOut 62 = .ok (.iaload, 1) := by decide +kernel
theorem dX5_takeOut_63 : decode cX5_takeOut 63 = .ok (.iconst 1, 1) := by decide +kernel
theorem dX5_takeOut_64 : decode cX5_takeOut 64 = .ok (.iadd, 1) := by decide +kernel
theorem dX5_takeOut_65 : decode cX5_takeOut 65 = .ok (.invokestatic 125, 3) := by decide +kernel
theorem dX5_takeOut_68 : decode cX5_takeOut 68 = .ok (.iastore, 1) := by decide +kernel
theorem dX5_takeOut_69 : decode cX5_takeOut 69 = .ok (.iinc 3 1, 3) := by decide +kernel
theorem dX5_takeOut_72 : decode cX5_takeOut 72 = .ok (.iinc 4 1, 3) := by decide +kernel
theorem dX5_takeOut_75 : decode cX5_takeOut 75 = .ok (.goto (-70), 3) := by decide +kernel
theorem dX5_takeOut_78 : decode cX5_takeOut 78 = .ok (.aload_n 1, 1) := by decide +kernel
theorem dX5_takeOut_79 : decode cX5_takeOut 79 = .ok (.iconst 0, 1) := by decide +kernel
theorem dX5_takeOut_80 : decode cX5_takeOut 80 = .ok (.aload_n 1, 1) := by decide +kernel
theorem dX5_takeOut_81 : decode cX5_takeOut 81 = .ok (.getfield 119, 3) := by decide +kernel
theorem dX5_takeOut_84 : decode cX5_takeOut 84 = .ok (.iconst 1, 1) := by decide +kernel
theorem dX5_takeOut_85 : decode cX5_takeOut 85 = .ok (.isub, 1) := by decide +kernel
theorem dX5_takeOut_86 : decode cX5_takeOut 86 = .ok (.invokestatic 131, 3) := by decide +kernel
theorem dX5_takeOut_89 : decode cX5_takeOut 89 = .ok (.putfield 119, 3) := by decide +kernel
theorem dX5_takeOut_92 : decode cX5_takeOut 92 = .ok (.iload_n 3, 1) := by decide +kernel
theorem dX5_takeOut_93 : decode cX5_takeOut 93 = .ok (.ireturn, 1) := by decide +kernel
theorem dX6_init_0 : decode cX6_init 0 = .ok (.aload_n 0, 1) := by decide +kernel
theorem dX6_init_1 : decode cX6_init 1 = .ok (.invokespecial 3, 3) := by decide +kernel
theorem dX6_init_4 : decode cX6_init 4 = .ok (.aload_n 0, 1) := by decide +kernel
theorem dX6_init_5 : decode cX6_init 5 = .ok (.bipush 16, 2) := by decide +kernel
theorem dX6_init_7 : decode cX6_init 7 = .ok (.newarray .int, 2) := by decide +kernel
theorem dX6_init_9 : decode cX6_init 9 = .ok (.putfield 9, 3) := by decide +kernel
theorem dX6_init_12 : decode cX6_init 12 = .ok (.aload_n 0, 1) := by decide +kernel
theorem dX6_init_13 : decode cX6_init 13 = .ok (.bipush 16, 2) := by decide +kernel
theorem dX6_init_15 : decode cX6_init 15 = .ok (.newarray .boolean, 2) := by decide +kernel
theorem dX6_init_17 : decode cX6_init 17 = .ok (.putfield 15, 3) := by decide +kernel
theorem dX6_init_20 : decode cX6_init 20 = .ok (.return_, 1) := by decide +kernel
theorem dX6_begin_0 : decode cX6_begin 0 = .ok (.aload_n 0, 1) := by decide +kernel
theorem dX6_begin_1 : decode cX6_begin 1 = .ok (.iconst 1, 1) := by decide +kernel
theorem dX6_begin_2 : decode cX6_begin 2 = .ok (.putfield 19, 3) := by decide +kernel
theorem dX6_begin_5 : decode cX6_begin 5 = .ok (.aload_n 0, 1) := by decide +kernel
theorem dX6_begin_6 : decode cX6_begin 6 = .ok (.iconst 0, 1) := by decide +kernel
theorem dX6_begin_7 : decode cX6_begin 7 = .ok (.putfield 23, 3) := by decide +kernel
theorem dX6_begin_10 : decode cX6_begin 10 = .ok (.aload_n 0, 1) := by decide +kernel
theorem dX6_begin_11 : decode cX6_begin 11 = .ok (.iconst 0, 1) := by decide +kernel
theorem dX6_begin_12 : decode cX6_begin 12 = .ok (.putfield 26, 3) := by decide +kernel
theorem dX6_begin_15 : decode cX6_begin 15 = .ok (.aload_n 0, 1) := by decide +kernel
theorem dX6_begin_16 : decode cX6_begin 16 = .ok (.iconst 0, 1) := by decide +kernel
theorem dX6_begin_17 : decode cX6_begin 17 = .ok (.putfield 29, 3) := by decide +kernel
theorem dX6_begin_20 : decode cX6_begin 20 = .ok (.aload_n 0, 1) := by decide +kernel
theorem dX6_begin_21 : decode cX6_begin 21 = .ok (.iconst 0, 1) := by decide +kernel
theorem dX6_begin_22 : decode cX6_begin 22 = .ok (.putfield 32, 3) := by decide +kernel
theorem dX6_begin_25 : decode cX6_begin 25 = .ok (.return_, 1) := by decide +kernel
theorem dX6_take_0 : decode cX6_take 0 = .ok (.iload_n 1, 1) := by decide +kernel
theorem dX6_take_1 : decode cX6_take 1 = .ok (.invokestatic 36, 3) := by decide +kernel
theorem dX6_take_4 : decode cX6_take 4 = .ok (.ifCond .eq 12, 3) := by decide +kernel
theorem dX6_take_7 : decode cX6_take 7 = .ok (.aload_n 0, 1) := by decide +kernel
theorem dX6_take_8 : decode cX6_take 8 = .ok (.iload_n 1, 1) := by decide +kernel
theorem dX6_take_9 : decode cX6_take 9 = .ok (.bipush 48, 2) := by decide +kernel
theorem dX6_take_11 : decode cX6_take 11 = .ok (.isub, 1) := by decide +kernel
theorem dX6_take_12 : decode cX6_take 12 = .ok (.invokevirtual 40, 3) := by decide +kernel
theorem dX6_take_15 : decode cX6_take 15 = .ok (.ireturn, 1) := by decide +kernel
theorem dX6_take_16 : decode cX6_take 16 = .ok (.iload_n 1, 1) := by decide +kernel
theorem dX6_take_17 : decode cX6_take 17 = .ok (.bipush 115, 2) := by decide +kernel
theorem dX6_take_19 : decode cX6_take 19 = .ok (.if_icmp .ne 8, 3) := by decide +kernel
theorem dX6_take_22 : decode cX6_take 22 = .ok (.aload_n 0, 1) := by decide +kernel
theorem dX6_take_23 : decode cX6_take 23 = .ok (.invokevirtual 43, 3) := by decide +kernel
theorem dX6_take_26 : decode cX6_take 26 = .ok (.ireturn, 1) := by decide +kernel
theorem dX6_take_27 : decode cX6_take 27 = .ok (.iload_n 1, 1) := by decide +kernel
theorem dX6_take_28 : decode cX6_take 28 = .ok (.bipush 47, 2) := by decide +kernel
theorem dX6_take_30 : decode cX6_take 30 = .ok (.if_icmp .ne 14, 3) := by decide +kernel
theorem dX6_take_33 : decode cX6_take 33 = .ok (.aload_n 0, 1) := by decide +kernel
theorem dX6_take_34 : decode cX6_take 34 = .ok (.invokevirtual 47, 3) := by decide +kernel
theorem dX6_take_37 : decode cX6_take 37 = .ok (.ifCond .eq 7, 3) := by decide +kernel
theorem dX6_take_40 : decode cX6_take 40 = .ok (.iconst 1, 1) := by decide +kernel
theorem dX6_take_41 : decode cX6_take 41 = .ok (.goto 4, 3) := by decide +kernel
theorem dX6_take_44 : decode cX6_take 44 = .ok (.iconst 0, 1) := by decide +kernel
theorem dX6_take_45 : decode cX6_take 45 = .ok (.ireturn, 1) := by decide +kernel
theorem dX6_whole_0 : decode cX6_whole 0 = .ok (.aload_n 0, 1) := by decide +kernel
theorem dX6_whole_1 : decode cX6_whole 1 = .ok (.getfield 19, 3) := by decide +kernel
theorem dX6_whole_4 : decode cX6_whole 4 = .ok (.iconst 2, 1) := by decide +kernel
theorem dX6_whole_5 : decode cX6_whole 5 = .ok (.if_icmp .lt 18, 3) := by decide +kernel
theorem dX6_whole_8 : decode cX6_whole 8 = .ok (.aload_n 0, 1) := by decide +kernel
theorem dX6_whole_9 : decode cX6_whole 9 = .ok (.getfield 26, 3) := by decide +kernel
theorem dX6_whole_12 : decode cX6_whole 12 = .ok (.aload_n 0, 1) := by decide +kernel
theorem dX6_whole_13 : decode cX6_whole 13 = .ok (.getfield 29, 3) := by decide +kernel
theorem dX6_whole_16 : decode cX6_whole 16 = .ok (.if_icmp .ne 7, 3) := by decide +kernel
theorem dX6_whole_19 : decode cX6_whole 19 = .ok (.iconst 1, 1) := by decide +kernel
theorem dX6_whole_20 : decode cX6_whole 20 = .ok (.goto 4, 3) := by decide +kernel
theorem dX6_whole_23 : decode cX6_whole 23 = .ok (.iconst 0, 1) := by decide +kernel
theorem dX6_whole_24 : decode cX6_whole 24 = .ok (.ireturn, 1) := by decide +kernel
theorem dX6_takeRing_0 : decode cX6_takeRing 0 = .ok (.aload_n 0, 1) := by decide +kernel
theorem dX6_takeRing_1 : decode cX6_takeRing 1 = .ok (.getfield 19, 3) := by decide +kernel
theorem dX6_takeRing_4 : decode cX6_takeRing 4 = .ok (.iconst 1, 1) := by decide +kernel
theorem dX6_takeRing_5 : decode cX6_takeRing 5 = .ok (.if_icmp .ne 7, 3) := by decide +kernel
theorem dX6_takeRing_8 : decode cX6_takeRing 8 = .ok (.iconst 4, 1) := by decide +kernel
theorem dX6_takeRing_9 : decode cX6_takeRing 9 = .ok (.goto 7, 3) := by decide +kernel
theorem dX6_takeRing_12 : decode cX6_takeRing 12 = .ok (.aload_n 0, 1) := by decide +kernel
theorem dX6_takeRing_13 : decode cX6_takeRing 13 = .ok (.getfield 29, 3) := by decide +kernel
theorem dX6_takeRing_16 : decode cX6_takeRing 16 = .ok (.istore_n 2, 1) := by decide +kernel
theorem dX6_takeRing_17 : decode cX6_takeRing 17 = .ok (.aload_n 0, 1) := by decide +kernel
theorem dX6_takeRing_18 : decode cX6_takeRing 18 = .ok (.getfield 26, 3) := by decide +kernel
theorem dX6_takeRing_21 : decode cX6_takeRing 21 = .ok (.iload_n 2, 1) := by decide +kernel
theorem dX6_takeRing_22 : decode cX6_takeRing 22 = .ok (.if_icmp .ge 12, 3) := by decide +kernel
theorem dX6_takeRing_25 : decode cX6_takeRing 25 = .ok (.aload_n 0, 1) := by decide +kernel
theorem dX6_takeRing_26 : decode cX6_takeRing 26 = .ok (.getfield 23, 3) := by decide +kernel
theorem dX6_takeRing_29 : decode cX6_takeRing 29 = .ok (.bipush 16, 2) := by decide +kernel
theorem dX6_takeRing_31 : decode cX6_takeRing 31 = .ok (.if_icmp .lt 5, 3) := by decide +kernel
theorem dX6_takeRing_34 : decode cX6_takeRing 34 = .ok (.iconst 0, 1) := by decide +kernel
theorem dX6_takeRing_35 : decode cX6_takeRing 35 = .ok (.ireturn, 1) := by decide +kernel
theorem dX6_takeRing_36 : decode cX6_takeRing 36 = .ok (.aload_n 0, 1) := by decide +kernel
theorem dX6_takeRing_37 : decode cX6_takeRing 37 = .ok (.getfield 9, 3) := by decide +kernel
theorem dX6_takeRing_40 : decode cX6_takeRing 40 = .ok (.aload_n 0, 1) := by decide +kernel
theorem dX6_takeRing_41 : decode cX6_takeRing 41 = .ok (.getfield 23, 3) := by decide +kernel
theorem dX6_takeRing_44 : decode cX6_takeRing 44 = .ok (.iload_n 1, 1) := by decide +kernel
theorem dX6_takeRing_45 : decode cX6_takeRing 45 = .ok (.iastore, 1) := by decide +kernel
theorem dX6_takeRing_46 : decode cX6_takeRing 46 = .ok (.aload_n 0, 1) := by decide +kernel
theorem dX6_takeRing_47 : decode cX6_takeRing 47 = .ok (.getfield 15, 3) := by decide +kernel
theorem dX6_takeRing_50 : decode cX6_takeRing 50 = .ok (.aload_n 0, 1) := by decide +kernel
theorem dX6_takeRing_51 : decode cX6_takeRing 51 = .ok (.getfield 23, 3) := by decide +kernel
theorem dX6_takeRing_54 : decode cX6_takeRing 54 = .ok (.iconst 0, 1) := by decide +kernel
theorem dX6_takeRing_55 : decode cX6_takeRing 55 = .ok (.bastore, 1) := by decide +kernel
theorem dX6_takeRing_56 : decode cX6_takeRing 56 = .ok (.aload_n 0, 1) := by decide +kernel
theorem dX6_takeRing_57 : decode cX6_takeRing 57 = .ok (.dup, 1) := by decide +kernel
theorem dX6_takeRing_58 : decode cX6_takeRing 58 = .ok (.getfield 23, 3) := by decide +kernel
theorem dX6_takeRing_61 : decode cX6_takeRing 61 = .ok (.iconst 1, 1) := by decide +kernel
theorem dX6_takeRing_62 : decode cX6_takeRing 62 = .ok (.iadd, 1) := by decide +kernel
theorem dX6_takeRing_63 : decode cX6_takeRing 63 = .ok (.putfield 23, 3) := by decide +kernel
theorem dX6_takeRing_66 : decode cX6_takeRing 66 = .ok (.aload_n 0, 1) := by decide +kernel
theorem dX6_takeRing_67 : decode cX6_takeRing 67 = .ok (.dup, 1) := by decide +kernel
theorem dX6_takeRing_68 : decode cX6_takeRing 68 = .ok (.getfield 26, 3) := by decide +kernel
theorem dX6_takeRing_71 : decode cX6_takeRing 71 = .ok (.iconst 1, 1) := by decide +kernel
theorem dX6_takeRing_72 : decode cX6_takeRing 72 = .ok (.iadd, 1) := by decide +kernel
theorem dX6_takeRing_73 : decode cX6_takeRing 73 = .ok (.putfield 26, 3) := by decide +kernel
theorem dX6_takeRing_76 : decode cX6_takeRing 76 = .ok (.aload_n 0, 1) := by decide +kernel
theorem dX6_takeRing_77 : decode cX6_takeRing 77 = .ok (.iconst 1, 1) := by decide +kernel
theorem dX6_takeRing_78 : decode cX6_takeRing 78 = .ok (.putfield 32, 3) := by decide +kernel
theorem dX6_takeRing_81 : decode cX6_takeRing 81 = .ok (.iconst 1, 1) := by decide +kernel
theorem dX6_takeRing_82 : decode cX6_takeRing 82 = .ok (.ireturn, 1) := by decide +kernel
theorem dX6_takeSticky_0 : decode cX6_takeSticky 0 = .ok (.aload_n 0, 1) := by decide +kernel
theorem dX6_takeSticky_1 : decode cX6_takeSticky 1 = .ok (.getfield 32, 3) := by decide +kernel
theorem dX6_takeSticky_4 : decode cX6_takeSticky 4 = .ok (.ifCond .eq 11, 3) := by decide +kernel
theorem dX6_takeSticky_7 : decode cX6_takeSticky 7 = .ok (.aload_n 0, 1) := by decide +kernel
theorem dX6_takeSticky_8 : decode cX6_takeSticky 8 = .ok (.getfield 23, 3) := by decide +kernel
theorem dX6_takeSticky_11 : decode cX6_takeSticky 11 = .ok (.iconst 1, 1) := by decide +kernel
theorem dX6_takeSticky_12 : decode cX6_takeSticky 12 = .ok (.if_icmp .ge 5, 3) := by decide +kernel
theorem dX6_takeSticky_15 : decode cX6_takeSticky 15 = .ok (.iconst 0, 1) := by decide +kernel
theorem dX6_takeSticky_16 : decode cX6_takeSticky 16 = .ok (.ireturn, 1) := by decide +kernel
theorem dX6_takeSticky_17 : decode cX6_takeSticky 17 = .ok (.aload_n 0, 1) := by decide +kernel
theorem dX6_takeSticky_18 : decode cX6_takeSticky 18 = .ok (.getfield 15, 3) := by decide +kernel
theorem dX6_takeSticky_21 : decode cX6_takeSticky 21 = .ok (.aload_n 0, 1) := by decide +kernel
theorem dX6_takeSticky_22 : decode cX6_takeSticky 22 = .ok (.getfield 23, 3) := by decide +kernel
theorem dX6_takeSticky_25 : decode cX6_takeSticky 25 = .ok (.iconst 1, 1) := by decide +kernel
theorem dX6_takeSticky_26 : decode cX6_takeSticky 26 = .ok (.isub, 1) := by decide +kernel
theorem dX6_takeSticky_27 : decode cX6_takeSticky 27 = .ok (.iconst 1, 1) := by decide +kernel
theorem dX6_takeSticky_28 : decode cX6_takeSticky 28 = .ok (.bastore, 1) := by decide +kernel
theorem dX6_takeSticky_29 : decode cX6_takeSticky 29 = .ok (.aload_n 0, 1) := by decide +kernel
theorem dX6_takeSticky_30 : decode cX6_takeSticky 30 = .ok (.iconst 0, 1) := by decide +kernel
theorem dX6_takeSticky_31 : decode cX6_takeSticky 31 = .ok (.putfield 32, 3) := by decide +kernel
theorem dX6_takeSticky_34 : decode cX6_takeSticky 34 = .ok (.iconst 1, 1) := by decide +kernel
theorem dX6_takeSticky_35 : decode cX6_takeSticky 35 = .ok (.ireturn, 1) := by decide +kernel
theorem dX6_takeRowEnd_0 : decode cX6_takeRowEnd 0 = .ok (.aload_n 0, 1) := by decide +kernel
theorem dX6_takeRowEnd_1 : decode cX6_takeRowEnd 1 = .ok (.getfield 19, 3) := by decide +kernel
theorem dX6_takeRowEnd_4 : decode cX6_takeRowEnd 4 = .ok (.iconst 1, 1) := by decide +kernel
theorem dX6_takeRowEnd_5 : decode cX6_takeRowEnd 5 = .ok (.if_icmp .ne 19, 3) := by decide +kernel
theorem dX6_takeRowEnd_8 : decode cX6_takeRowEnd 8 = .ok (.aload_n 0, 1) := by decide +kernel
theorem dX6_takeRowEnd_9 : decode cX6_takeRowEnd 9 = .ok (.getfield 26, 3) := by decide +kernel
theorem dX6_takeRowEnd_12 : decode cX6_takeRowEnd 12 = .ok (.iconst 2, 1) := by decide +kernel
theorem dX6_takeRowEnd_13 : decode cX6_takeRowEnd 13 = .ok (.if_icmp .lt 7, 3) := by decide +kernel
theorem dX6_takeRowEnd_16 : decode cX6_takeRowEnd 16 = .ok (.iconst 1, 1) := by decide +kernel
theorem dX6_takeRowEnd_17 : decode cX6_takeRowEnd 17 = .ok (.goto 23, 3) := by decide +kernel
theorem dX6_takeRowEnd_20 : decode cX6_takeRowEnd 20 = .ok (.iconst 0, 1) := by decide +kernel
theorem dX6_takeRowEnd_21 : decode cX6_takeRowEnd 21 = .ok (.goto 19, 3) := by decide +kernel
theorem dX6_takeRowEnd_24 : decode cX6_takeRowEnd 24 = .ok (.aload_n 0, 1) := by decide +kernel
theorem dX6_takeRowEnd_25 : decode cX6_takeRowEnd 25 = .ok (.getfield 26, 3) := by decide +kernel
theorem dX6_takeRowEnd_28 : decode cX6_takeRowEnd 28 = .ok (.aload_n 0, 1) := by decide +kernel
theorem dX6_takeRowEnd_29 : decode cX6_takeRowEnd 29 = .ok (.getfield 29, 3) := by decide +kernel
theorem dX6_takeRowEnd_32 : decode cX6_takeRowEnd 32 = .ok (.if_icmp .ne 7, 3) := by decide +kernel
theorem dX6_takeRowEnd_35 : decode cX6_takeRowEnd 35 = .ok (.iconst 1, 1) := by decide +kernel
theorem dX6_takeRowEnd_36 : decode cX6_takeRowEnd 36 = .ok (.goto 4, 3) := by decide +kernel
theorem dX6_takeRowEnd_39 : decode cX6_takeRowEnd 39 = .ok (.iconst 0, 1) := by decide +kernel
theorem dX6_takeRowEnd_40 : decode cX6_takeRowEnd 40 = .ok (.istore_n 1, 1) := by decide +kernel
theorem dX6_takeRowEnd_41 : decode cX6_takeRowEnd 41 = .ok (.iload_n 1, 1) := by decide +kernel
theorem dX6_takeRowEnd_42 : decode cX6_takeRowEnd 42 = .ok (.ifCond .eq 11, 3) := by decide +kernel
theorem dX6_takeRowEnd_45 : decode cX6_takeRowEnd 45 = .ok (.aload_n 0, 1) := by decide +kernel
theorem dX6_takeRowEnd_46 : decode cX6_takeRowEnd 46 = .ok (.getfield 19, 3) := by decide +kernel
theorem dX6_takeRowEnd_49 : decode cX6_takeRowEnd 49 = .ok (.iconst 4, 1) := by decide +kernel
theorem dX6_takeRowEnd_50 : decode cX6_takeRowEnd 50 = .ok (.if_icmp .lt 5, 3) := by decide +kernel
theorem dX6_takeRowEnd_53 : decode cX6_takeRowEnd 53 = .ok (.iconst 0, 1) := by decide +kernel
theorem dX6_takeRowEnd_54 : decode cX6_takeRowEnd 54 = .ok (.ireturn, 1) := by decide +kernel
theorem dX6_takeRowEnd_55 : decode cX6_takeRowEnd 55 = .ok (.aload_n 0, 1) := by decide +kernel
theorem dX6_takeRowEnd_56 : decode cX6_takeRowEnd 56 = .ok (.aload_n 0, 1) := by decide +kernel
theorem dX6_takeRowEnd_57 : decode cX6_takeRowEnd 57 = .ok (.getfield 26, 3) := by decide +kernel
theorem dX6_takeRowEnd_60 : decode cX6_takeRowEnd 60 = .ok (.putfield 29, 3) := by decide +kernel
theorem dX6_takeRowEnd_63 : decode cX6_takeRowEnd 63 = .ok (.aload_n 0, 1) := by decide +kernel
theorem dX6_takeRowEnd_64 : decode cX6_takeRowEnd 64 = .ok (.dup, 1) := by decide +kernel
theorem dX6_takeRowEnd_65 : decode cX6_takeRowEnd 65 = .ok (.getfield 19, 3) := by decide +kernel
theorem dX6_takeRowEnd_68 : decode cX6_takeRowEnd 68 = .ok (.iconst 1, 1) := by decide +kernel
theorem dX6_takeRowEnd_69 : decode cX6_takeRowEnd 69 = .ok (.iadd, 1) := by decide +kernel
theorem dX6_takeRowEnd_70 : decode cX6_takeRowEnd 70 = .ok (.putfield 19, 3) := by decide +kernel
theorem dX6_takeRowEnd_73 : decode cX6_takeRowEnd 73 = .ok (.aload_n 0, 1) := by decide +kernel
theorem dX6_takeRowEnd_74 : decode cX6_takeRowEnd 74 = .ok (.iconst 0, 1) := by decide +kernel
theorem dX6_takeRowEnd_75 : decode cX6_takeRowEnd 75 = .ok (.putfield 26, 3) := by decide +kernel
theorem dX6_takeRowEnd_78 : decode cX6_takeRowEnd 78 = .ok (.aload_n 0, 1) := by decide +kernel
theorem dX6_takeRowEnd_79 : decode cX6_takeRowEnd 79 = .ok (.iconst 0, 1) := by decide +kernel
theorem dX6_takeRowEnd_80 : decode cX6_takeRowEnd 80 = .ok (.putfield 32, 3) := by decide +kernel
theorem dX6_takeRowEnd_83 : decode cX6_takeRowEnd 83 = .ok (.iconst 1, 1) := by decide +kernel
theorem dX6_takeRowEnd_84 : decode cX6_takeRowEnd 84 = .ok (.ireturn, 1) := by decide +kernel
theorem dX7_init_0 : decode cX7_init 0 = .ok (.aload_n 0, 1) := by decide +kernel
theorem dX7_init_1 : decode cX7_init 1 = .ok (.invokespecial 3, 3) := by decide +kernel
theorem dX7_init_4 : decode cX7_init 4 = .ok (.aload_n 0, 1) := by decide +kernel
theorem dX7_init_5 : decode cX7_init 5 = .ok (.bipush 6, 2) := by decide +kernel
theorem dX7_init_7 : decode cX7_init 7 = .ok (.newarray .int, 2) := by decide +kernel
theorem dX7_init_9 : decode cX7_init 9 = .ok (.putfield 9, 3) := by decide +kernel
theorem dX7_init_12 : decode cX7_init 12 = .ok (.return_, 1) := by decide +kernel
theorem dX7_become_0 : decode cX7_become 0 = .ok (.aload_n 0, 1) := by decide +kernel
theorem dX7_become_1 : decode cX7_become 1 = .ok (.aload_n 1, 1) := by decide +kernel
theorem dX7_become_2 : decode cX7_become 2 = .ok (.getfield 15, 3) := by decide +kernel
theorem dX7_become_5 : decode cX7_become 5 = .ok (.iconst 1, 1) := by decide +kernel
theorem dX7_become_6 : decode cX7_become 6 = .ok (.iaload, 1) := by decide +kernel
theorem dX7_become_7 : decode cX7_become 7 = .ok (.putfield 20, 3) := by decide +kernel
theorem dX7_become_10 : decode cX7_become 10 = .ok (.aload_n 0, 1) := by decide +kernel
theorem dX7_become_11 : decode cX7_become 11 = .ok (.aload_n 1, 1) := by decide +kernel
theorem dX7_become_12 : decode cX7_become 12 = .ok (.getfield 15, 3) := by decide +kernel
theorem dX7_become_15 : decode cX7_become 15 = .ok (.iconst 2, 1) := by decide +kernel
theorem dX7_become_16 : decode cX7_become 16 = .ok (.iaload, 1) := by decide +kernel
theorem dX7_become_17 : decode cX7_become 17 = .ok (.putfield 24, 3) := by decide +kernel
theorem dX7_become_20 : decode cX7_become 20 = .ok (.aload_n 0, 1) := by decide +kernel
theorem dX7_become_21 : decode cX7_become 21 = .ok (.aload_n 1, 1) := by decide +kernel
theorem dX7_become_22 : decode cX7_become 22 = .ok (.getfield 15, 3) := by decide +kernel
theorem dX7_become_25 : decode cX7_become 25 = .ok (.iconst 3, 1) := by decide +kernel
theorem dX7_become_26 : decode cX7_become 26 = .ok (.iaload, 1) := by decide +kernel
theorem dX7_become_27 : decode cX7_become 27 = .ok (.putfield 27, 3) := by decide +kernel
theorem dX7_become_30 : decode cX7_become 30 = .ok (.aload_n 0, 1) := by decide +kernel
theorem dX7_become_31 : decode cX7_become 31 = .ok (.aload_n 1, 1) := by decide +kernel
theorem dX7_become_32 : decode cX7_become 32 = .ok (.getfield 15, 3) := by decide +kernel
theorem dX7_become_35 : decode cX7_become 35 = .ok (.iconst 4, 1) := by decide +kernel
theorem dX7_become_36 : decode cX7_become 36 = .ok (.iaload, 1) := by decide +kernel
theorem dX7_become_37 : decode cX7_become 37 = .ok (.putfield 30, 3) := by decide +kernel
theorem dX7_become_40 : decode cX7_become 40 = .ok (.aload_n 0, 1) := by decide +kernel
theorem dX7_become_41 : decode cX7_become 41 = .ok (.aload_n 1, 1) := by decide +kernel
theorem dX7_become_42 : decode cX7_become 42 = .ok (.getfield 33, 3) := by decide +kernel
theorem dX7_become_45 : decode cX7_become 45 = .ok (.putfield 36, 3) := by decide +kernel
theorem dX7_become_48 : decode cX7_become 48 = .ok (.aload_n 1, 1) := by decide +kernel
theorem dX7_become_49 : decode cX7_become 49 = .ok (.getfield 37, 3) := by decide +kernel
theorem dX7_become_52 : decode cX7_become 52 = .ok (.iconst 0, 1) := by decide +kernel
theorem dX7_become_53 : decode cX7_become 53 = .ok (.aload_n 0, 1) := by decide +kernel
theorem dX7_become_54 : decode cX7_become 54 = .ok (.getfield 9, 3) := by decide +kernel
theorem dX7_become_57 : decode cX7_become 57 = .ok (.iconst 0, 1) := by decide +kernel
theorem dX7_become_58 : decode cX7_become 58 = .ok (.bipush 6, 2) := by decide +kernel
theorem dX7_become_60 : decode cX7_become 60 = .ok (.invokestatic 38, 3) := by decide +kernel
theorem dX7_become_63 : decode cX7_become 63 = .ok (.return_, 1) := by decide +kernel
theorem dX7_become__0 : decode cX7_become_ 0 = .ok (.aload_n 0, 1) := by decide +kernel
theorem dX7_become__1 : decode cX7_become_ 1 = .ok (.aload_n 1, 1) := by decide +kernel
theorem dX7_become__2 : decode cX7_become_ 2 = .ok (.getfield 20, 3) := by decide +kernel
theorem dX7_become__5 : decode cX7_become_ 5 = .ok (.putfield 20, 3) := by decide +kernel
theorem dX7_become__8 : decode cX7_become_ 8 = .ok (.aload_n 0, 1) := by decide +kernel
theorem dX7_become__9 : decode cX7_become_ 9 = .ok (.aload_n 1, 1) := by decide +kernel
theorem dX7_become__10 : decode cX7_become_ 10 = .ok (.getfield 24, 3) := by decide +kernel
theorem dX7_become__13 : decode cX7_become_ 13 = .ok (.putfield 24, 3) := by decide +kernel
theorem dX7_become__16 : decode cX7_become_ 16 = .ok (.aload_n 0, 1) := by decide +kernel
theorem dX7_become__17 : decode cX7_become_ 17 = .ok (.aload_n 1, 1) := by decide +kernel
theorem dX7_become__18 : decode cX7_become_ 18 = .ok (.getfield 27, 3) := by decide +kernel
theorem dX7_become__21 : decode cX7_become_ 21 = .ok (.putfield 27, 3) := by decide +kernel
theorem dX7_become__24 : decode cX7_become_ 24 = .ok (.aload_n 0, 1) := by decide +kernel
theorem dX7_become__25 : decode cX7_become_ 25 = .ok (.aload_n 1, 1) := by decide +kernel
theorem dX7_become__26 : decode cX7_become_ 26 = .ok (.getfield 30, 3) := by decide +kernel
theorem dX7_become__29 : decode cX7_become_ 29 = .ok (.putfield 30, 3) := by decide +kernel
theorem dX7_become__32 : decode cX7_become_ 32 = .ok (.aload_n 0, 1) := by decide +kernel
theorem dX7_become__33 : decode cX7_become_ 33 = .ok (.aload_n 1, 1) := by decide +kernel
theorem dX7_become__34 : decode cX7_become_ 34 = .ok (.getfield 36, 3) := by decide +kernel
theorem dX7_become__37 : decode cX7_become_ 37 = .ok (.putfield 36, 3) := by decide +kernel
theorem dX7_become__40 : decode cX7_become_ 40 = .ok (.aload_n 1, 1) := by decide +kernel
theorem dX7_become__41 : decode cX7_become_ 41 = .ok (.getfield 9, 3) := by decide +kernel
theorem dX7_become__44 : decode cX7_become_ 44 = .ok (.iconst 0, 1) := by decide +kernel
theorem dX7_become__45 : decode cX7_become_ 45 = .ok (.aload_n 0, 1) := by decide +kernel
theorem dX7_become__46 : decode cX7_become_ 46 = .ok (.getfield 9, 3) := by decide +kernel
theorem dX7_become__49 : decode cX7_become_ 49 = .ok (.iconst 0, 1) := by decide +kernel
theorem dX7_become__50 : decode cX7_become_ 50 = .ok (.bipush 6, 2) := by decide +kernel
theorem dX7_become__52 : decode cX7_become_ 52 = .ok (.invokestatic 38, 3) := by decide +kernel
theorem dX7_become__55 : decode cX7_become_ 55 = .ok (.return_, 1) := by decide +kernel
theorem dX7_told_0 : decode cX7_told 0 = .ok (.iload_n 1, 1) := by decide +kernel
theorem dX7_told_1 : decode cX7_told 1 = .ok (.tableswitch 51 0 3 #[31, 36, 41, 46], 31) := by decide +kernel
theorem dX7_told_32 : decode cX7_told 32 = .ok (.aload_n 0, 1) := by decide +kernel
theorem dX7_told_33 : decode cX7_told 33 = .ok (.getfield 20, 3) := by decide +kernel
theorem dX7_told_36 : decode cX7_told 36 = .ok (.ireturn, 1) := by decide +kernel
theorem dX7_told_37 : decode cX7_told 37 = .ok (.aload_n 0, 1) := by decide +kernel
theorem dX7_told_38 : decode cX7_told 38 = .ok (.getfield 24, 3) := by decide +kernel
theorem dX7_told_41 : decode cX7_told 41 = .ok (.ireturn, 1) := by decide +kernel
theorem dX7_told_42 : decode cX7_told 42 = .ok (.aload_n 0, 1) := by decide +kernel
theorem dX7_told_43 : decode cX7_told 43 = .ok (.getfield 27, 3) := by decide +kernel
theorem dX7_told_46 : decode cX7_told 46 = .ok (.ireturn, 1) := by decide +kernel
theorem dX7_told_47 : decode cX7_told 47 = .ok (.aload_n 0, 1) := by decide +kernel
theorem dX7_told_48 : decode cX7_told 48 = .ok (.getfield 30, 3) := by decide +kernel
theorem dX7_told_51 : decode cX7_told 51 = .ok (.ireturn, 1) := by decide +kernel
theorem dX7_told_52 : decode cX7_told 52 = .ok (.aload_n 0, 1) := by decide +kernel
theorem dX7_told_53 : decode cX7_told 53 = .ok (.getfield 36, 3) := by decide +kernel
theorem dX7_told_56 : decode cX7_told 56 = .ok (.ireturn, 1) := by decide +kernel
theorem dX7_swingAt_0 : decode cX7_swingAt 0 = .ok (.iload_n 1, 1) := by decide +kernel
theorem dX7_swingAt_1 : decode cX7_swingAt 1 = .ok (.iconst 0, 1) := by decide +kernel
theorem dX7_swingAt_2 : decode cX7_swingAt 2 = .ok (.aload_n 0, 1) := by decide +kernel
theorem dX7_swingAt_3 : decode cX7_swingAt 3 = .ok (.getfield 36, 3) := by decide +kernel
theorem dX7_swingAt_6 : decode cX7_swingAt 6 = .ok (.iconst 1, 1) := by decide +kernel
theorem dX7_swingAt_7 : decode cX7_swingAt 7 = .ok (.isub, 1) := by decide +kernel
theorem dX7_swingAt_8 : decode cX7_swingAt 8 = .ok (.invokestatic 44, 3) := by decide +kernel
theorem dX7_swingAt_11 : decode cX7_swingAt 11 = .ok (.ifCond .eq 12, 3) := by decide +kernel
theorem dX7_swingAt_14 : decode cX7_swingAt 14 = .ok (.aload_n 0, 1) := by decide +kernel
theorem dX7_swingAt_15 : decode cX7_swingAt 15 = .ok (.getfield 9, 3) := by decide +kernel
theorem dX7_swingAt_18 : decode cX7_swingAt 18 = .ok (.iload_n 1, 1) := by decide +kernel
theorem dX7_swingAt_19 : decode cX7_swingAt 19 = .ok (.iaload, 1) := by decide +kernel
theorem dX7_swingAt_20 : decode cX7_swingAt 20 = .ok (.goto 4, 3) := by decide +kernel
theorem dX7_swingAt_23 : decode cX7_swingAt 23 = .ok (.iconst (-1), 1) := by decide +kernel
theorem dX7_swingAt_24 : decode cX7_swingAt 24 = .ok (.ireturn, 1) := by decide +kernel
theorem dX8_init_0 : decode cX8_init 0 = .ok (.aload_n 0, 1) := by decide +kernel
theorem dX8_init_1 : decode cX8_init 1 = .ok (.invokespecial 3, 3) := by decide +kernel
theorem dX8_init_4 : decode cX8_init 4 = .ok (.aload_n 0, 1) := by decide +kernel
theorem dX8_init_5 : decode cX8_init 5 = .ok (.iconst 5, 1) := by decide +kernel
theorem dX8_init_6 : decode cX8_init 6 = .ok (.newarray .int, 2) := by decide +kernel
theorem dX8_init_8 : decode cX8_init 8 = .ok (.putfield 9, 3) := by decide +kernel
theorem dX8_init_11 : decode cX8_init 11 = .ok (.aload_n 0, 1) := by decide +kernel
theorem dX8_init_12 : decode cX8_init 12 = .ok (.bipush 6, 2) := by decide +kernel
theorem dX8_init_14 : decode cX8_init 14 = .ok (.newarray .int, 2) := by decide +kernel
theorem dX8_init_16 : decode cX8_init 16 = .ok (.putfield 15, 3) := by decide +kernel
theorem dX8_init_19 : decode cX8_init 19 = .ok (.return_, 1) := by decide +kernel
theorem dX8_begin_0 : decode cX8_begin 0 = .ok (.aload_n 0, 1) := by decide +kernel
theorem dX8_begin_1 : decode cX8_begin 1 = .ok (.getfield 9, 3) := by decide +kernel
theorem dX8_begin_4 : decode cX8_begin 4 = .ok (.iconst 0, 1) := by decide +kernel
theorem dX8_begin_5 : decode cX8_begin 5 = .ok (.invokestatic 18, 3) := by decide +kernel
theorem dX8_begin_8 : decode cX8_begin 8 = .ok (.aload_n 0, 1) := by decide +kernel
theorem dX8_begin_9 : decode cX8_begin 9 = .ok (.iconst 0, 1) := by decide +kernel
theorem dX8_begin_10 : decode cX8_begin 10 = .ok (.putfield 24, 3) := by decide +kernel
theorem dX8_begin_13 : decode cX8_begin 13 = .ok (.aload_n 0, 1) := by decide +kernel
theorem dX8_begin_14 : decode cX8_begin 14 = .ok (.iconst 0, 1) := by decide +kernel
theorem dX8_begin_15 : decode cX8_begin 15 = .ok (.putfield 28, 3) := by decide +kernel
theorem dX8_begin_18 : decode cX8_begin 18 = .ok (.return_, 1) := by decide +kernel
theorem dX8_take_0 : decode cX8_take 0 = .ok (.iload_n 1, 1) := by decide +kernel
theorem dX8_take_1 : decode cX8_take 1 = .ok (.invokestatic 31, 3) := by decide +kernel
theorem dX8_take_4 : decode cX8_take 4 = .ok (.ifCond .eq 12, 3) := by decide +kernel
theorem dX8_take_7 : decode cX8_take 7 = .ok (.aload_n 0, 1) := by decide +kernel
theorem dX8_take_8 : decode cX8_take 8 = .ok (.iload_n 1, 1) := by decide +kernel
theorem dX8_take_9 : decode cX8_take 9 = .ok (.bipush 48, 2) := by decide +kernel
theorem dX8_take_11 : decode cX8_take 11 = .ok (.isub, 1) := by decide +kernel
theorem dX8_take_12 : decode cX8_take 12 = .ok (.invokevirtual 35, 3) := by decide +kernel
theorem dX8_take_15 : decode cX8_take 15 = .ok (.ireturn, 1) := by decide +kernel
theorem dX8_take_16 : decode cX8_take 16 = .ok (.ldc 38, 2) := by decide +kernel
theorem dX8_take_18 : decode cX8_take 18 = .ok (.iload_n 1, 1) := by decide +kernel
theorem dX8_take_19 : decode cX8_take 19 = .ok (.i2c, 1) := by decide +kernel
theorem dX8_take_20 : decode cX8_take 20 = .ok (.invokevirtual 40, 3) := by decide +kernel
theorem dX8_take_23 : decode cX8_take 23 = .ok (.istore_n 2, 1) := by decide +kernel
theorem dX8_take_24 : decode cX8_take 24 = .ok (.iload_n 2, 1) := by decide +kernel
theorem dX8_take_25 : decode cX8_take 25 = .ok (.ifCond .lt 11, 3) := by decide +kernel
theorem dX8_take_28 : decode cX8_take 28 = .ok (.aload_n 0, 1) := by decide +kernel
theorem dX8_take_29 : decode cX8_take 29 = .ok (.iload_n 2, 1) := by decide +kernel
theorem dX8_take_30 : decode cX8_take 30 = .ok (.invokevirtual 46, 3) := by decide +kernel
theorem dX8_take_33 : decode cX8_take 33 = .ok (.goto 8, 3) := by decide +kernel
theorem dX8_take_36 : decode cX8_take 36 = .ok (.aload_n 0, 1) := by decide +kernel
theorem dX8_take_37 : decode cX8_take 37 = .ok (.iload_n 1, 1) := by decide +kernel
theorem dX8_take_38 : decode cX8_take 38 = .ok (.invokevirtual 49, 3) := by decide +kernel
theorem dX8_take_41 : decode cX8_take 41 = .ok (.ireturn, 1) := by decide +kernel
theorem dX8_whole_0 : decode cX8_whole 0 = .ok (.aload_n 0, 1) := by decide +kernel
theorem dX8_whole_1 : decode cX8_whole 1 = .ok (.getfield 28, 3) := by decide +kernel
theorem dX8_whole_4 : decode cX8_whole 4 = .ok (.iconst 4, 1) := by decide +kernel
theorem dX8_whole_5 : decode cX8_whole 5 = .ok (.if_icmp .ne 16, 3) := by decide +kernel
theorem dX8_whole_8 : decode cX8_whole 8 = .ok (.aload_n 0, 1) := by decide +kernel
theorem dX8_whole_9 : decode cX8_whole 9 = .ok (.getfield 9, 3) := by decide +kernel
theorem dX8_whole_12 : decode cX8_whole 12 = .ok (.iconst 4, 1) := by decide +kernel
theorem dX8_whole_13 : decode cX8_whole 13 = .ok (.iaload, 1) := by decide +kernel
theorem dX8_whole_14 : decode cX8_whole 14 = .ok (.ifCond .le 7, 3) := by decide +kernel
theorem dX8_whole_17 : decode cX8_whole 17 = .ok (.iconst 1, 1) := by decide +kernel
theorem dX8_whole_18 : decode cX8_whole 18 = .ok (.goto 4, 3) := by decide +kernel
theorem dX8_whole_21 : decode cX8_whole 21 = .ok (.iconst 0, 1) := by decide +kernel
theorem dX8_whole_22 : decode cX8_whole 22 = .ok (.ireturn, 1) := by decide +kernel
theorem dX8_takeDigit_0 : decode cX8_takeDigit 0 = .ok (.bipush 10, 2) := by decide +kernel
theorem dX8_takeDigit_2 : decode cX8_takeDigit 2 = .ok (.aload_n 0, 1) := by decide +kernel
theorem dX8_takeDigit_3 : decode cX8_takeDigit 3 = .ok (.getfield 9, 3) := by decide +kernel
theorem dX8_takeDigit_6 : decode cX8_takeDigit 6 = .ok (.aload_n 0, 1) := by decide +kernel
theorem dX8_takeDigit_7 : decode cX8_takeDigit 7 = .ok (.getfield 28, 3) := by decide +kernel
theorem dX8_takeDigit_10 : decode cX8_takeDigit 10 = .ok (.iaload, 1) := by decide +kernel
theorem dX8_takeDigit_11 : decode cX8_takeDigit 11 = .ok (.imul, 1) := by decide +kernel
theorem dX8_takeDigit_12 : decode cX8_takeDigit 12 = .ok (.iload_n 1, 1) := by decide +kernel
theorem dX8_takeDigit_13 : decode cX8_takeDigit 13 = .ok (.iadd, 1) := by decide +kernel
theorem dX8_takeDigit_14 : decode cX8_takeDigit 14 = .ok (.istore_n 2, 1) := by decide +kernel
theorem dX8_takeDigit_15 : decode cX8_takeDigit 15 = .ok (.iload_n 2, 1) := by decide +kernel
theorem dX8_takeDigit_16 : decode cX8_takeDigit 16 = .ok (.iconst 1, 1) := by decide +kernel
theorem dX8_takeDigit_17 : decode cX8_takeDigit 17 = .ok (.if_icmp .lt 30, 3) := by decide +kernel
theorem dX8_takeDigit_20 : decode cX8_takeDigit 20 = .ok (.iload_n 2, 1) := by decide +kernel
theorem dX8_takeDigit_21 : decode cX8_takeDigit 21 = .ok (.getstatic 52, 3) := by decide +kernel
theorem dX8_takeDigit_24 : decode cX8_takeDigit 24 = .ok (.aload_n 0, 1) := by decide +kernel
theorem dX8_takeDigit_25 : decode cX8_takeDigit 25 = .ok (.getfield 28, 3) := by decide +kernel
theorem dX8_takeDigit_28 : decode cX8_takeDigit 28 = .ok (.iaload, 1) := by decide +kernel
theorem dX8_takeDigit_29 : decode cX8_takeDigit 29 = .ok (.if_icmp .gt 18, 3) := by decide +kernel
theorem dX8_takeDigit_32 : decode cX8_takeDigit 32 = .ok (.aload_n 0, 1) := by decide +kernel
theorem dX8_takeDigit_33 : decode cX8_takeDigit 33 = .ok (.getfield 28, 3) := by decide +kernel
theorem dX8_takeDigit_36 : decode cX8_takeDigit 36 = .ok (.iconst 2, 1) := by decide +kernel
theorem dX8_takeDigit_37 : decode cX8_takeDigit 37 = .ok (.if_icmp .ne 12, 3) := by decide +kernel
theorem dX8_takeDigit_40 : decode cX8_takeDigit 40 = .ok (.aload_n 0, 1) := by decide +kernel
theorem dX8_takeDigit_41 : decode cX8_takeDigit 41 = .ok (.getfield 24, 3) := by decide +kernel
theorem dX8_takeDigit_44 : decode cX8_takeDigit 44 = .ok (.ifCond .le 5, 3) := by decide +kernel
theorem dX8_takeDigit_47 : decode cX8_takeDigit 47 = .ok (.iconst 0, 1) := by decide +kernel
theorem dX8_takeDigit_48 : decode cX8_takeDigit 48 = .ok (.ireturn, 1) := by decide +kernel
theorem dX8_takeDigit_49 : decode cX8_takeDigit 49 = .ok (.aload_n 0, 1) := by decide +kernel
theorem dX8_takeDigit_50 : decode cX8_takeDigit 50 = .ok (.getfield 9, 3) := by decide +kernel
theorem dX8_takeDigit_53 : decode cX8_takeDigit 53 = .ok (.aload_n 0, 1) := by decide +kernel
theorem dX8_takeDigit_54 : decode cX8_takeDigit 54 = .ok (.getfield 28, 3) := by decide +kernel
theorem dX8_takeDigit_57 : decode cX8_takeDigit 57 = .ok (.iload_n 2, 1) := by decide +kernel
theorem dX8_takeDigit_58 : decode cX8_takeDigit 58 = .ok (.iastore, 1) := by decide +kernel
theorem dX8_takeDigit_59 : decode cX8_takeDigit 59 = .ok (.iconst 1, 1) := by decide +kernel
theorem dX8_takeDigit_60 : decode cX8_takeDigit 60 = .ok (.ireturn, 1) := by decide +kernel
theorem dX8_takeSwing_0 : decode cX8_takeSwing 0 = .ok (.aload_n 0, 1) := by decide +kernel
theorem dX8_takeSwing_1 : decode cX8_takeSwing 1 = .ok (.getfield 28, 3) := by decide +kernel
theorem dX8_takeSwing_4 : decode cX8_takeSwing 4 = .ok (.iconst 2, 1) := by decide +kernel
theorem dX8_takeSwing_5 : decode cX8_takeSwing 5 = .ok (.if_icmp .ne 22, 3) := by decide +kernel
theorem dX8_takeSwing_8 : decode cX8_takeSwing 8 = .ok (.aload_n 0, 1) := by decide +kernel
theorem dX8_takeSwing_9 : decode cX8_takeSwing 9 = .ok (.getfield 9, 3) := by decide +kernel
theorem dX8_takeSwing_12 : decode cX8_takeSwing 12 = .ok (.iconst 2, 1) := by decide +kernel
theorem dX8_takeSwing_13 : decode cX8_takeSwing 13 = .ok (.iaload, 1) := by decide +kernel
theorem dX8_takeSwing_14 : decode cX8_takeSwing 14 = .ok (.iconst 1, 1) := by decide +kernel
theorem dX8_takeSwing_15 : decode cX8_takeSwing 15 = .ok (.if_icmp .lt 12, 3) := by decide +kernel
theorem dX8_takeSwing_18 : decode cX8_takeSwing 18 = .ok (.aload_n 0, 1) := by decide +kernel
theorem dX8_takeSwing_19 : decode cX8_takeSwing 19 = .ok (.getfield 24, 3) := by decide +kernel
theorem dX8_takeSwing_22 : decode cX8_takeSwing 22 = .ok (.bipush 6, 2) := by decide +kernel
theorem dX8_takeSwing_24 : decode cX8_takeSwing 24 = .ok (.if_icmp .lt 5, 3) := by decide +kernel
theorem dX8_takeSwing_27 : decode cX8_takeSwing 27 = .ok (.iconst 0, 1) := by decide +kernel
theorem dX8_takeSwing_28 : decode cX8_takeSwing 28 = .ok (.ireturn, 1) := by decide +kernel
theorem dX8_takeSwing_29 : decode cX8_takeSwing 29 = .ok (.aload_n 0, 1) := by decide +kernel
theorem dX8_takeSwing_30 : decode cX8_takeSwing 30 = .ok (.getfield 15, 3) := by decide +kernel
theorem dX8_takeSwing_33 : decode cX8_takeSwing 33 = .ok (.aload_n 0, 1) := by decide +kernel
theorem dX8_takeSwing_34 : decode cX8_takeSwing 34 = .ok (.getfield 24, 3) := by decide +kernel
theorem dX8_takeSwing_37 : decode cX8_takeSwing 37 = .ok (.iload_n 1, 1) := by decide +kernel
theorem dX8_takeSwing_38 : decode cX8_takeSwing 38 = .ok (.iastore, 1) := by decide +kernel
theorem dX8_takeSwing_39 : decode cX8_takeSwing 39 = .ok (.aload_n 0, 1) := by decide +kernel
theorem dX8_takeSwing_40 : decode cX8_takeSwing 40 = .ok (.dup, 1) := by decide +kernel
theorem dX8_takeSwing_41 : decode cX8_takeSwing 41 = .ok (.getfield 24, 3) := by decide +kernel
theorem dX8_takeSwing_44 : decode cX8_takeSwing 44 = .ok (.iconst 1, 1) := by decide +kernel
theorem dX8_takeSwing_45 : decode cX8_takeSwing 45 = .ok (.iadd, 1) := by decide +kernel
theorem dX8_takeSwing_46 : decode cX8_takeSwing 46 = .ok (.putfield 24, 3) := by decide +kernel
theorem dX8_takeSwing_49 : decode cX8_takeSwing 49 = .ok (.iconst 1, 1) := by decide +kernel
theorem dX8_takeSwing_50 : decode cX8_takeSwing 50 = .ok (.ireturn, 1) := by decide +kernel
theorem dX8_takeSign_0 : decode cX8_takeSign 0 = .ok (.aload_n 0, 1) := by decide +kernel
theorem dX8_takeSign_1 : decode cX8_takeSign 1 = .ok (.getfield 28, 3) := by decide +kernel
theorem dX8_takeSign_4 : decode cX8_takeSign 4 = .ok (.iconst 4, 1) := by decide +kernel
theorem dX8_takeSign_5 : decode cX8_takeSign 5 = .ok (.if_icmp .ge 36, 3) := by decide +kernel
theorem dX8_takeSign_8 : decode cX8_takeSign 8 = .ok (.iload_n 1, 1) := by decide +kernel
theorem dX8_takeSign_9 : decode cX8_takeSign 9 = .ok (.ldc 55, 2) := by decide +kernel
theorem dX8_takeSign_11 : decode cX8_takeSign 11 = .ok (.aload_n 0, 1) := by decide +kernel
theorem dX8_takeSign_12 : decode cX8_takeSign 12 = .ok (.getfield 28, 3) := by decide +kernel
theorem dX8_takeSign_15 : decode cX8_takeSign 15 = .ok (.invokevirtual 57, 3) := by decide +kernel
theorem dX8_takeSign_18 : decode cX8_takeSign 18 = .ok (.if_icmp .ne 23, 3) := by decide +kernel
theorem dX8_takeSign_21 : decode cX8_takeSign 21 = .ok (.aload_n 0, 1) := by decide +kernel
theorem dX8_takeSign_22 : decode cX8_takeSign 22 = .ok (.getfield 28, 3) := by decide +kernel
theorem dX8_takeSign_25 : decode cX8_takeSign 25 = .ok (.ifCond .le 18, 3) := by decide +kernel
theorem dX8_takeSign_28 : decode cX8_takeSign 28 = .ok (.aload_n 0, 1) := by decide +kernel
theorem dX8_takeSign_29 : decode cX8_takeSign 29 = .ok (.getfield 9, 3) := by decide +kernel
theorem dX8_takeSign_32 : decode cX8_takeSign 32 = .ok (.aload_n 0, 1) := by decide +kernel
theorem dX8_takeSign_33 : decode cX8_takeSign 33 = .ok (.getfield 28, 3) := by decide +kernel
theorem dX8_takeSign_36 : decode cX8_takeSign 36 = .ok (.iaload, 1) := by decide +kernel
theorem dX8_takeSign_37 : decode cX8_takeSign 37 = .ok (.iconst 1, 1) := by decide +kernel
theorem dX8_takeSign_38 : decode cX8_takeSign 38 = .ok (.if_icmp .ge 5, 3) := by decide +kernel
theorem dX8_takeSign_41 : decode cX8_takeSign 41 = .ok (.iconst 0, 1) := by decide +kernel
theorem dX8_takeSign_42 : decode cX8_takeSign 42 = .ok (.ireturn, 1) := by decide +kernel
theorem dX8_takeSign_43 : decode cX8_takeSign 43 = .ok (.aload_n 0, 1) := by decide +kernel
theorem dX8_takeSign_44 : decode cX8_takeSign 44 = .ok (.dup, 1) := by decide +kernel
theorem dX8_takeSign_45 : decode cX8_takeSign 45 = .ok (.getfield 28, 3) := by decide +kernel
theorem dX8_takeSign_48 : decode cX8_takeSign 48 = .ok (.iconst 1, 1) := by decide +kernel
theorem dX8_takeSign_49 : decode cX8_takeSign 49 = .ok (.iadd, 1) := by decide +kernel
theorem dX8_takeSign_50 : decode cX8_takeSign 50 = .ok (.putfield 28, 3) := by decide +kernel
theorem dX8_takeSign_53 : decode cX8_takeSign 53 = .ok (.iconst 1, 1) := by decide +kernel
theorem dX8_takeSign_54 : decode cX8_takeSign 54 = .ok (.ireturn, 1) := by decide +kernel
theorem dX9_init_0 : decode cX9_init 0 = .ok (.aload_n 0, 1) := by decide +kernel
theorem dX9_init_1 : decode cX9_init 1 = .ok (.invokespecial 1, 3) := by decide +kernel
theorem dX9_init_4 : decode cX9_init 4 = .ok (.return_, 1) := by decide +kernel
theorem dX9_isDigit_0 : decode cX9_isDigit 0 = .ok (.iload_n 0, 1) := by decide +kernel
theorem dX9_isDigit_1 : decode cX9_isDigit 1 = .ok (.bipush 48, 2) := by decide +kernel
theorem dX9_isDigit_3 : decode cX9_isDigit 3 = .ok (.if_icmp .lt 13, 3) := by decide +kernel
theorem dX9_isDigit_6 : decode cX9_isDigit 6 = .ok (.iload_n 0, 1) := by decide +kernel
theorem dX9_isDigit_7 : decode cX9_isDigit 7 = .ok (.bipush 57, 2) := by decide +kernel
theorem dX9_isDigit_9 : decode cX9_isDigit 9 = .ok (.if_icmp .gt 7, 3) := by decide +kernel
theorem dX9_isDigit_12 : decode cX9_isDigit 12 = .ok (.iconst 1, 1) := by decide +kernel
theorem dX9_isDigit_13 : decode cX9_isDigit 13 = .ok (.goto 4, 3) := by decide +kernel
theorem dX9_isDigit_16 : decode cX9_isDigit 16 = .ok (.iconst 0, 1) := by decide +kernel
theorem dX9_isDigit_17 : decode cX9_isDigit 17 = .ok (.ireturn, 1) := by decide +kernel
theorem dX10_turnsOver_0 : decode cX10_turnsOver 0 = .ok (.iload_n 0, 1) := by decide +kernel
theorem dX10_turnsOver_1 : decode cX10_turnsOver 1 = .ok (.iload_n 1, 1) := by decide +kernel
theorem dX10_turnsOver_2 : decode cX10_turnsOver 2 = .ok (.imul, 1) := by decide +kernel
theorem dX10_turnsOver_3 : decode cX10_turnsOver 3 = .ok (.bipush 10, 2) := by decide +kernel
theorem dX10_turnsOver_5 : decode cX10_turnsOver 5 = .ok (.idiv, 1) := by decide +kernel
theorem dX10_turnsOver_6 : decode cX10_turnsOver 6 = .ok (.iconst 4, 1) := by decide +kernel
theorem dX10_turnsOver_7 : decode cX10_turnsOver 7 = .ok (.irem, 1) := by decide +kernel
theorem dX10_turnsOver_8 : decode cX10_turnsOver 8 = .ok (.iconst 2, 1) := by decide +kernel
theorem dX10_turnsOver_9 : decode cX10_turnsOver 9 = .ok (.if_icmp .ne 7, 3) := by decide +kernel
theorem dX10_turnsOver_12 : decode cX10_turnsOver 12 = .ok (.iconst 1, 1) := by decide +kernel
theorem dX10_turnsOver_13 : decode cX10_turnsOver 13 = .ok (.goto 4, 3) := by decide +kernel
theorem dX10_turnsOver_16 : decode cX10_turnsOver 16 = .ok (.iconst 0, 1) := by decide +kernel
theorem dX10_turnsOver_17 : decode cX10_turnsOver 17 = .ok (.ireturn, 1) := by decide +kernel
theorem dX10_paces_0 : decode cX10_paces 0 = .ok (.iload_n 0, 1) := by decide +kernel
theorem dX10_paces_1 : decode cX10_paces 1 = .ok (.iload_n 1, 1) := by decide +kernel
theorem dX10_paces_2 : decode cX10_paces 2 = .ok (.iadd, 1) := by decide +kernel
theorem dX10_paces_3 : decode cX10_paces 3 = .ok (.iload_n 0, 1) := by decide +kernel
theorem dX10_paces_4 : decode cX10_paces 4 = .ok (.iload_n 1, 1) := by decide +kernel
theorem dX10_paces_5 : decode cX10_paces 5 = .ok (.invokestatic 9, 3) := by decide +kernel
theorem dX10_paces_8 : decode cX10_paces 8 = .ok (.isub, 1) := by decide +kernel
theorem dX10_paces_9 : decode cX10_paces 9 = .ok (.iconst 1, 1) := by decide +kernel
theorem dX10_paces_10 : decode cX10_paces 10 = .ok (.iadd, 1) := by decide +kernel
theorem dX10_paces_11 : decode cX10_paces 11 = .ok (.ireturn, 1) := by decide +kernel
theorem dX10_landings_0 : decode cX10_landings 0 = .ok (.iconst 0, 1) := by decide +kernel
theorem dX10_landings_1 : decode cX10_landings 1 = .ok (.istore_n 3, 1) := by decide +kernel
theorem dX10_landings_2 : decode cX10_landings 2 = .ok (.iload_n 0, 1) := by decide +kernel
theorem dX10_landings_3 : decode cX10_landings 3 = .ok (.iload_n 2, 1) := by decide +kernel
theorem dX10_landings_4 : decode cX10_landings 4 = .ok (.invokestatic 9, 3) := by decide +kernel
theorem dX10_landings_7 : decode cX10_landings 7 = .ok (.istore 4, 2) := by decide +kernel
theorem dX10_landings_9 : decode cX10_landings 9 = .ok (.iload 4, 2) := by decide +kernel
theorem dX10_landings_11 : decode cX10_landings 11 = .ok (.iload_n 0, 1) := by decide +kernel
theorem dX10_landings_12 : decode cX10_landings 12 = .ok (.iload_n 2, 1) := by decide +kernel
theorem dX10_landings_13 : decode cX10_landings 13 = .ok (.iadd, 1) := by decide +kernel
theorem dX10_landings_14 : decode cX10_landings 14 = .ok (.if_icmp .gt 21, 3) := by decide +kernel
theorem dX10_landings_17 : decode cX10_landings 17 = .ok (.iload 4, 2) := by decide +kernel
theorem dX10_landings_19 : decode cX10_landings 19 = .ok (.iload_n 1, 1) := by decide +kernel
theorem dX10_landings_20 : decode cX10_landings 20 = .ok (.invokestatic 15, 3) := by decide +kernel
theorem dX10_landings_23 : decode cX10_landings 23 = .ok (.ifCond .eq 6, 3) := by decide +kernel
theorem dX10_landings_26 : decode cX10_landings 26 = .ok (.iinc 3 1, 3) := by decide +kernel
theorem dX10_landings_29 : decode cX10_landings 29 = .ok (.iinc 4 1, 3) := by decide +kernel
theorem dX10_landings_32 : decode cX10_landings 32 = .ok (.goto (-23), 3) := by decide +kernel
theorem dX10_landings_35 : decode cX10_landings 35 = .ok (.iload_n 3, 1) := by decide +kernel
theorem dX10_landings_36 : decode cX10_landings 36 = .ok (.ireturn, 1) := by decide +kernel
theorem dX10_likeliestSpin_0 : decode cX10_likeliestSpin 0 = .ok (.iconst 1, 1) := by decide +kernel
theorem dX10_likeliestSpin_1 : decode cX10_likeliestSpin 1 = .ok (.istore_n 2, 1) := by decide +kernel
theorem dX10_likeliestSpin_2 : decode cX10_likeliestSpin 2 = .ok (.iconst (-1), 1) := by decide +kernel
theorem dX10_likeliestSpin_3 : decode cX10_likeliestSpin 3 = .ok (.istore_n 3, 1) := by decide +kernel
theorem dX10_likeliestSpin_4 : decode cX10_likeliestSpin 4 = .ok (.iconst 1, 1) := by decide +kernel
theorem dX10_likeliestSpin_5 : decode cX10_likeliestSpin 5 = .ok (.istore 4, 2) := by decide +kernel
theorem dX10_likeliestSpin_7 : decode cX10_likeliestSpin 7 = .ok (.iload 4, 2) := by decide +kernel
theorem dX10_likeliestSpin_9 : decode cX10_likeliestSpin 9 = .ok (.bipush 30, 2) := by decide +kernel
theorem dX10_likeliestSpin_11 : decode cX10_likeliestSpin 11 = .ok (.if_icmp .gt 30, 3) := by decide +kernel
theorem dX10_likeliestSpin_14 : decode cX10_likeliestSpin 14 = .ok (.iload_n 0, 1) := by decide +kernel
theorem dX10_likeliestSpin_15 : decode cX10_likeliestSpin 15 = .ok (.iload 4, 2) := by decide +kernel
theorem dX10_likeliestSpin_17 : decode cX10_likeliestSpin 17 = .ok (.iload_n 1, 1) := by decide +kernel
theorem dX10_likeliestSpin_18 : decode cX10_likeliestSpin 18 = .ok (.invokestatic 19, 3) := by decide +kernel
theorem dX10_likeliestSpin_21 : decode cX10_likeliestSpin 21 = .ok (.istore 5, 2) := by decide +kernel
theorem dX10_likeliestSpin_23 : decode cX10_likeliestSpin 23 = .ok (.iload 5, 2) := by decide +kernel
theorem dX10_likeliestSpin_25 : decode cX10_likeliestSpin 25 = .ok (.iload_n 3, 1) := by decide +kernel
theorem dX10_likeliestSpin_26 : decode cX10_likeliestSpin 26 = .ok (.if_icmp .le 9, 3) := by decide +kernel
theorem dX10_likeliestSpin_29 : decode cX10_likeliestSpin 29 = .ok (.iload 5, 2) := by decide +kernel
theorem dX10_likeliestSpin_31 : decode cX10_likeliestSpin 31 = .ok (.istore_n 3, 1) := by decide +kernel
theorem dX10_likeliestSpin_32 : decode cX10_likeliestSpin 32 = .ok (.iload 4, 2) := by decide +kernel
theorem dX10_likeliestSpin_34 : decode cX10_likeliestSpin 34 = .ok (.istore_n 2, 1) := by decide +kernel
theorem dX10_likeliestSpin_35 : decode cX10_likeliestSpin 35 = .ok (.iinc 4 1, 3) := by decide +kernel
theorem dX10_likeliestSpin_38 : decode cX10_likeliestSpin 38 = .ok (.goto (-31), 3) := by decide +kernel
theorem dX10_likeliestSpin_41 : decode cX10_likeliestSpin 41 = .ok (.iload_n 2, 1) := by decide +kernel
theorem dX10_likeliestSpin_42 : decode cX10_likeliestSpin 42 = .ok (.ireturn, 1) := by decide +kernel
theorem dX10_commonDivisor_0 : decode cX10_commonDivisor 0 = .ok (.iload_n 1, 1) := by decide +kernel
theorem dX10_commonDivisor_1 : decode cX10_commonDivisor 1 = .ok (.istore_n 2, 1) := by decide +kernel
theorem dX10_commonDivisor_2 : decode cX10_commonDivisor 2 = .ok (.iload_n 2, 1) := by decide +kernel
theorem dX10_commonDivisor_3 : decode cX10_commonDivisor 3 = .ok (.iconst 1, 1) := by decide +kernel
theorem dX10_commonDivisor_4 : decode cX10_commonDivisor 4 = .ok (.if_icmp .le 23, 3) := by decide +kernel
theorem dX10_commonDivisor_7 : decode cX10_commonDivisor 7 = .ok (.iload_n 0, 1) := by decide +kernel
theorem dX10_commonDivisor_8 : decode cX10_commonDivisor 8 = .ok (.iload_n 2, 1) := by decide +kernel
theorem dX10_commonDivisor_9 : decode cX10_commonDivisor 9 = .ok (.irem, 1) := by decide +kernel
theorem dX10_commonDivisor_10 : decode cX10_commonDivisor 10 = .ok (.ifCond .ne 11, 3) := by decide +kernel
theorem dX10_commonDivisor_13 : decode cX10_commonDivisor 13 = .ok (.iload_n 1, 1) := by decide +kernel
theorem dX10_commonDivisor_14 : decode cX10_commonDivisor 14 = .ok (.iload_n 2, 1) := by decide +kernel
theorem dX10_commonDivisor_15 : decode cX10_commonDivisor 15 = .ok (.irem, 1) := by decide +kernel
theorem dX10_commonDivisor_16 : decode cX10_commonDivisor 16 = .ok (.ifCond .ne 5, 3) := by decide +kernel
theorem dX10_commonDivisor_19 : decode cX10_commonDivisor 19 = .ok (.iload_n 2, 1) := by decide +kernel
theorem dX10_commonDivisor_20 : decode cX10_commonDivisor 20 = .ok (.ireturn, 1) := by decide +kernel
theorem dX10_commonDivisor_21 : decode cX10_commonDivisor 21 = .ok (.iinc 2 (-1), 3) := by decide +kernel
theorem dX10_commonDivisor_24 : decode cX10_commonDivisor 24 = .ok (.goto (-22), 3) := by decide +kernel
theorem dX10_commonDivisor_27 : decode cX10_commonDivisor 27 = .ok (.iconst 1, 1) := by decide +kernel
theorem dX10_commonDivisor_28 : decode cX10_commonDivisor 28 = .ok (.ireturn, 1) := by decide +kernel
theorem dX10_slowest_0 : decode cX10_slowest 0 = .ok (.iconst 1, 1) := by decide +kernel
theorem dX10_slowest_1 : decode cX10_slowest 1 = .ok (.iload_n 0, 1) := by decide +kernel
theorem dX10_slowest_2 : decode cX10_slowest 2 = .ok (.iload_n 1, 1) := by decide +kernel
theorem dX10_slowest_3 : decode cX10_slowest 3 = .ok (.isub, 1) := by decide +kernel
theorem dX10_slowest_4 : decode cX10_slowest 4 = .ok (.invokestatic 23, 3) := by decide +kernel
theorem dX10_slowest_7 : decode cX10_slowest 7 = .ok (.ireturn, 1) := by decide +kernel
theorem dJ0_length_8abf5_0 : decode cJ0_length_8abf5 0 = .ok (.aload_n 0, 1) := by decide +kernel
theorem dJ0_length_8abf5_1 : decode cJ0_length_8abf5 1 = .ok (.getfield 9, 3) := by decide +kernel
theorem dJ0_length_8abf5_4 : decode cJ0_length_8abf5 4 = .ok (.arraylength, 1) := by decide +kernel
theorem dJ0_length_8abf5_5 : decode cJ0_length_8abf5 5 = .ok (.aload_n 0, 1) := by decide +kernel
theorem dJ0_length_8abf5_6 : decode cJ0_length_8abf5 6 = .ok (.invokevirtual 335, 3) := by decide +kernel
theorem dJ0_length_8abf5_9 : decode cJ0_length_8abf5 9 = .ok (.ishr, 1) := by decide +kernel
theorem dJ0_length_8abf5_10 : decode cJ0_length_8abf5 10 = .ok (.ireturn, 1) := by decide +kernel
theorem dJ0_charAt_5068e_0 : decode cJ0_charAt_5068e 0 = .ok (.aload_n 0, 1) := by decide +kernel
theorem dJ0_charAt_5068e_1 : decode cJ0_charAt_5068e 1 = .ok (.invokevirtual 492, 3) := by decide +kernel
theorem dJ0_charAt_5068e_4 : decode cJ0_charAt_5068e 4 = .ok (.ifCond .eq 12, 3) := by decide +kernel
theorem dJ0_charAt_5068e_7 : decode cJ0_charAt_5068e 7 = .ok (.aload_n 0, 1) := by decide +kernel
theorem dJ0_charAt_5068e_8 : decode cJ0_charAt_5068e 8 = .ok (.getfield 9, 3) := by decide +kernel
theorem dJ0_charAt_5068e_11 : decode cJ0_charAt_5068e 11 = .ok (.iload_n 1, 1) := by decide +kernel
theorem dJ0_charAt_5068e_12 : decode cJ0_charAt_5068e 12 = .ok (.invokestatic 495, 3) := by decide +kernel
theorem dJ0_charAt_5068e_15 : decode cJ0_charAt_5068e 15 = .ok (.ireturn, 1) := by decide +kernel
theorem dJ0_charAt_5068e_16 : decode cJ0_charAt_5068e 16 = .ok (.aload_n 0, 1) := by decide +kernel
theorem dJ0_charAt_5068e_17 : decode cJ0_charAt_5068e 17 = .ok (.getfield 9, 3) := by decide +kernel
theorem dJ0_charAt_5068e_20 : decode cJ0_charAt_5068e 20 = .ok (.iload_n 1, 1) := by decide +kernel
theorem dJ0_charAt_5068e_21 : decode cJ0_charAt_5068e 21 = .ok (.invokestatic 498, 3) := by decide +kernel
theorem dJ0_charAt_5068e_24 : decode cJ0_charAt_5068e 24 = .ok (.ireturn, 1) := by decide +kernel
theorem dJ0_indexOf_0f7a4_0 : decode cJ0_indexOf_0f7a4 0 = .ok (.aload_n 0, 1) := by decide +kernel
theorem dJ0_indexOf_0f7a4_1 : decode cJ0_indexOf_0f7a4 1 = .ok (.iload_n 1, 1) := by decide +kernel
theorem dJ0_indexOf_0f7a4_2 : decode cJ0_indexOf_0f7a4 2 = .ok (.iconst 0, 1) := by decide +kernel
theorem dJ0_indexOf_0f7a4_3 : decode cJ0_indexOf_0f7a4 3 = .ok (.invokevirtual 633, 3) := by decide +kernel
theorem dJ0_indexOf_0f7a4_6 : decode cJ0_indexOf_0f7a4 6 = .ok (.ireturn, 1) := by decide +kernel
theorem dJ0_indexOf_7cf53_0 : decode cJ0_indexOf_7cf53 0 = .ok (.aload_n 0, 1) := by decide +kernel
theorem dJ0_indexOf_7cf53_1 : decode cJ0_indexOf_7cf53 1 = .ok (.invokevirtual 492, 3) := by decide +kernel
theorem dJ0_indexOf_7cf53_4 : decode cJ0_indexOf_7cf53 4 = .ok (.ifCond .eq 19, 3) := by decide +kernel
theorem dJ0_indexOf_7cf53_7 : decode cJ0_indexOf_7cf53 7 = .ok (.aload_n 0, 1) := by decide +kernel
theorem dJ0_indexOf_7cf53_8 : decode cJ0_indexOf_7cf53 8 = .ok (.getfield 9, 3) := by decide +kernel
theorem dJ0_indexOf_7cf53_11 : decode cJ0_indexOf_7cf53 11 = .ok (.iload_n 1, 1) := by decide +kernel
theorem dJ0_indexOf_7cf53_12 : decode cJ0_indexOf_7cf53 12 = .ok (.iload_n 2, 1) := by decide +kernel
theorem dJ0_indexOf_7cf53_13 : decode cJ0_indexOf_7cf53 13 = .ok (.aload_n 0, 1) := by decide +kernel
theorem dJ0_indexOf_7cf53_14 : decode cJ0_indexOf_7cf53 14 = .ok (.invokevirtual 505, 3) := by decide +kernel
theorem dJ0_indexOf_7cf53_17 : decode cJ0_indexOf_7cf53 17 = .ok (.invokestatic 637, 3) := by decide +kernel
theorem dJ0_indexOf_7cf53_20 : decode cJ0_indexOf_7cf53 20 = .ok (.goto 16, 3) := by decide +kernel
theorem dJ0_indexOf_7cf53_23 : decode cJ0_indexOf_7cf53 23 = .ok (.aload_n 0, 1) := by decide +kernel
theorem dJ0_indexOf_7cf53_24 : decode cJ0_indexOf_7cf53 24 = .ok (.getfield 9, 3) := by decide +kernel
theorem dJ0_indexOf_7cf53_27 : decode cJ0_indexOf_7cf53 27 = .ok (.iload_n 1, 1) := by decide +kernel
theorem dJ0_indexOf_7cf53_28 : decode cJ0_indexOf_7cf53 28 = .ok (.iload_n 2, 1) := by decide +kernel
theorem dJ0_indexOf_7cf53_29 : decode cJ0_indexOf_7cf53 29 = .ok (.aload_n 0, 1) := by decide +kernel
theorem dJ0_indexOf_7cf53_30 : decode cJ0_indexOf_7cf53 30 = .ok (.invokevirtual 505, 3) := by decide +kernel
theorem dJ0_indexOf_7cf53_33 : decode cJ0_indexOf_7cf53 33 = .ok (.invokestatic 640, 3) := by decide +kernel
theorem dJ0_indexOf_7cf53_36 : decode cJ0_indexOf_7cf53 36 = .ok (.ireturn, 1) := by decide +kernel
theorem dJ0_coder_7d493_0 : decode cJ0_coder_7d493 0 = .ok (.getstatic 38, 3) := by decide +kernel
theorem dJ0_coder_7d493_3 : decode cJ0_coder_7d493 3 = .ok (.ifCond .eq 10, 3) := by decide +kernel
theorem dJ0_coder_7d493_6 : decode cJ0_coder_7d493 6 = .ok (.aload_n 0, 1) := by decide +kernel
theorem dJ0_coder_7d493_7 : decode cJ0_coder_7d493 7 = .ok (.getfield 15, 3) := by decide +kernel
theorem dJ0_coder_7d493_10 : decode cJ0_coder_7d493 10 = .ok (.goto 4, 3) := by decide +kernel
theorem dJ0_coder_7d493_13 : decode cJ0_coder_7d493 13 = .ok (.iconst 1, 1) := by decide +kernel
theorem dJ0_coder_7d493_14 : decode cJ0_coder_7d493 14 = .ok (.ireturn, 1) := by decide +kernel
theorem dJ0_isLatin1_aae02_0 : decode cJ0_isLatin1_aae02 0 = .ok (.getstatic 38, 3) := by decide +kernel
theorem dJ0_isLatin1_aae02_3 : decode cJ0_isLatin1_aae02 3 = .ok (.ifCond .eq 14, 3) := by decide +kernel
theorem dJ0_isLatin1_aae02_6 : decode cJ0_isLatin1_aae02 6 = .ok (.aload_n 0, 1) := by decide +kernel
theorem dJ0_isLatin1_aae02_7 : decode cJ0_isLatin1_aae02 7 = .ok (.getfield 15, 3) := by decide +kernel
theorem dJ0_isLatin1_aae02_10 : decode cJ0_isLatin1_aae02 10 = .ok (.ifCond .ne 7, 3) := by decide +kernel
theorem dJ0_isLatin1_aae02_13 : decode cJ0_isLatin1_aae02 13 = .ok (.iconst 1, 1) := by decide +kernel
theorem dJ0_isLatin1_aae02_14 : decode cJ0_isLatin1_aae02 14 = .ok (.goto 4, 3) := by decide +kernel
theorem dJ0_isLatin1_aae02_17 : decode cJ0_isLatin1_aae02 17 = .ok (.iconst 0, 1) := by decide +kernel
theorem dJ0_isLatin1_aae02_18 : decode cJ0_isLatin1_aae02 18 = .ok (.ireturn, 1) := by decide +kernel
theorem dJ0_checkIndex_df160_0 : decode cJ0_checkIndex_df160 0 = .ok (.iload_n 0, 1) := by decide +kernel
theorem dJ0_checkIndex_df160_1 : decode cJ0_checkIndex_df160 1 = .ok (.iload_n 1, 1) := by decide +kernel
theorem dJ0_checkIndex_df160_2 : decode cJ0_checkIndex_df160 2 = .ok (.getstatic 1053, 3) := by decide +kernel
theorem dJ0_checkIndex_df160_5 : decode cJ0_checkIndex_df160 5 = .ok (.invokestatic 1059, 3) := by decide +kernel
theorem dJ0_checkIndex_df160_8 : decode cJ0_checkIndex_df160 8 = .ok (.pop, 1) := by decide +kernel
theorem dJ0_checkIndex_df160_9 : decode cJ0_checkIndex_df160 9 = .ok (.return_, 1) := by decide +kernel
theorem dJ0_checkBoundsBeginEnd_23922_0 : decode cJ0_checkBoundsBeginEnd_23922 0 = .ok (.iload_n 0, 1) := by decide +kernel
theorem dJ0_checkBoundsBeginEnd_23922_1 : decode cJ0_checkBoundsBeginEnd_23922 1 = .ok (.iload_n 1, 1) := by decide +kernel
theorem dJ0_checkBoundsBeginEnd_23922_2 : decode cJ0_checkBoundsBeginEnd_23922 2 = .ok (.iload_n 2, 1) := by decide +kernel
theorem dJ0_checkBoundsBeginEnd_23922_3 : decode cJ0_checkBoundsBeginEnd_23922 3 = .ok (.getstatic 1053, 3) := by decide +kernel
theorem dJ0_checkBoundsBeginEnd_23922_6 : decode cJ0_checkBoundsBeginEnd_23922 6 = .ok (.invokestatic 1062, 3) := by decide +kernel
theorem dJ0_checkBoundsBeginEnd_23922_9 : decode cJ0_checkBoundsBeginEnd_23922 9 = .ok (.pop, 1) := by decide +kernel
theorem dJ0_checkBoundsBeginEnd_23922_10 : decode cJ0_checkBoundsBeginEnd_23922 10 = .ok (.return_, 1) := by decide +kernel
theorem dJ1_charAt_3b067_0 : decode cJ1_charAt_3b067 0 = .ok (.iload_n 1, 1) := by decide +kernel
theorem dJ1_charAt_3b067_1 : decode cJ1_charAt_3b067 1 = .ok (.aload_n 0, 1) := by decide +kernel
theorem dJ1_charAt_3b067_2 : decode cJ1_charAt_3b067 2 = .ok (.arraylength, 1) := by decide +kernel
theorem dJ1_charAt_3b067_3 : decode cJ1_charAt_3b067 3 = .ok (.invokestatic 9, 3) := by decide +kernel
theorem dJ1_charAt_3b067_6 : decode cJ1_charAt_3b067 6 = .ok (.aload_n 0, 1) := by decide +kernel
theorem dJ1_charAt_3b067_7 : decode cJ1_charAt_3b067 7 = .ok (.iload_n 1, 1) := by decide +kernel
theorem dJ1_charAt_3b067_8 : decode cJ1_charAt_3b067 8 = .ok (.baload, 1) := by decide +kernel
theorem dJ1_charAt_3b067_9 : decode cJ1_charAt_3b067 9 = .ok (.sipush 255, 3) := by decide +kernel
theorem dJ1_charAt_3b067_12 : decode cJ1_charAt_3b067 12 = .ok (.iand, 1) := by decide +kernel
theorem dJ1_charAt_3b067_13 : decode cJ1_charAt_3b067 13 = .ok (.i2c, 1) := by decide +kernel
theorem dJ1_charAt_3b067_14 : decode cJ1_charAt_3b067 14 = .ok (.ireturn, 1) := by decide +kernel
theorem dJ1_canEncode_9a6ad_0 : decode cJ1_canEncode_9a6ad 0 = .ok (.iload_n 0, 1) := by decide +kernel
theorem dJ1_canEncode_9a6ad_1 : decode cJ1_canEncode_9a6ad 1 = .ok (.ifCond .lt 14, 3) := by decide +kernel
theorem dJ1_canEncode_9a6ad_4 : decode cJ1_canEncode_9a6ad 4 = .ok (.iload_n 0, 1) := by decide +kernel
theorem dJ1_canEncode_9a6ad_5 : decode cJ1_canEncode_9a6ad 5 = .ok (.sipush 255, 3) := by decide +kernel
theorem dJ1_canEncode_9a6ad_8 : decode cJ1_canEncode_9a6ad 8 = .ok (.if_icmp .gt 7, 3) := by decide +kernel
theorem dJ1_canEncode_9a6ad_11 : decode cJ1_canEncode_9a6ad 11 = .ok (.iconst 1, 1) := by decide +kernel
theorem dJ1_canEncode_9a6ad_12 : decode cJ1_canEncode_9a6ad 12 = .ok (.goto 4, 3) := by decide +kernel
theorem dJ1_canEncode_9a6ad_15 : decode cJ1_canEncode_9a6ad 15 = .ok (.iconst 0, 1) := by decide +kernel
theorem dJ1_canEncode_9a6ad_16 : decode cJ1_canEncode_9a6ad 16 = .ok (.ireturn, 1) := by decide +kernel
theorem dJ1_indexOf_4cfef_0 : decode cJ1_indexOf_4cfef 0 = .ok (.iload_n 1, 1) := by decide +kernel
theorem dJ1_indexOf_4cfef_1 : decode cJ1_indexOf_4cfef 1 = .ok (.invokestatic 88, 3) := by decide +kernel
theorem dJ1_indexOf_4cfef_4 : decode cJ1_indexOf_4cfef 4 = .ok (.ifCond .ne 5, 3) := by decide +kernel
theorem dJ1_indexOf_4cfef_7 : decode cJ1_indexOf_4cfef 7 = .ok (.iconst (-1), 1) := by decide +kernel
theorem dJ1_indexOf_4cfef_8 : decode cJ1_indexOf_4cfef 8 = .ok (.ireturn, 1) := by decide +kernel
theorem dJ1_indexOf_4cfef_9 : decode cJ1_indexOf_4cfef 9 = .ok (.iload_n 2, 1) := by decide +kernel
theorem dJ1_indexOf_4cfef_10 : decode cJ1_indexOf_4cfef 10 = .ok (.iconst 0, 1) := by decide +kernel
theorem dJ1_indexOf_4cfef_11 : decode cJ1_indexOf_4cfef 11 = .ok (.invokestatic 92, 3) := by decide +kernel
theorem dJ1_indexOf_4cfef_14 : decode cJ1_indexOf_4cfef 14 = .ok (.istore_n 2, 1) := by decide +kernel
theorem dJ1_indexOf_4cfef_15 : decode cJ1_indexOf_4cfef 15 = .ok (.iload_n 3, 1) := by decide +kernel
theorem dJ1_indexOf_4cfef_16 : decode cJ1_indexOf_4cfef 16 = .ok (.aload_n 0, 1) := by decide +kernel
theorem dJ1_indexOf_4cfef_17 : decode cJ1_indexOf_4cfef 17 = .ok (.arraylength, 1) := by decide +kernel
theorem dJ1_indexOf_4cfef_18 : decode cJ1_indexOf_4cfef 18 = .ok (.invokestatic 38, 3) := by decide +kernel
theorem dJ1_indexOf_4cfef_21 : decode cJ1_indexOf_4cfef 21 = .ok (.istore_n 3, 1) := by decide +kernel
theorem dJ1_indexOf_4cfef_22 : decode cJ1_indexOf_4cfef 22 = .ok (.iload_n 2, 1) := by decide +kernel
theorem dJ1_indexOf_4cfef_23 : decode cJ1_indexOf_4cfef 23 = .ok (.iload_n 3, 1) := by decide +kernel
theorem dJ1_indexOf_4cfef_24 : decode cJ1_indexOf_4cfef 24 = .ok (.if_icmp .lt 5, 3) := by decide +kernel
theorem dJ1_indexOf_4cfef_27 : decode cJ1_indexOf_4cfef 27 = .ok (.iconst (-1), 1) := by decide +kernel
theorem dJ1_indexOf_4cfef_28 : decode cJ1_indexOf_4cfef 28 = .ok (.ireturn, 1) := by decide +kernel
theorem dJ1_indexOf_4cfef_29 : decode cJ1_indexOf_4cfef 29 = .ok (.aload_n 0, 1) := by decide +kernel
theorem dJ1_indexOf_4cfef_30 : decode cJ1_indexOf_4cfef 30 = .ok (.iload_n 1, 1) := by decide +kernel
theorem dJ1_indexOf_4cfef_31 : decode cJ1_indexOf_4cfef 31 = .ok (.iload_n 2, 1) := by decide +kernel
theorem dJ1_indexOf_4cfef_32 : decode cJ1_indexOf_4cfef 32 = .ok (.iload_n 3, 1) := by decide +kernel
theorem dJ1_indexOf_4cfef_33 : decode cJ1_indexOf_4cfef 33 = .ok (.invokestatic 95, 3) := by decide +kernel
theorem dJ1_indexOf_4cfef_36 : decode cJ1_indexOf_4cfef 36 = .ok (.ireturn, 1) := by decide +kernel
theorem dJ1_indexOfChar_4cfef_0 : decode cJ1_indexOfChar_4cfef 0 = .ok (.iload_n 1, 1) := by decide +kernel
theorem dJ1_indexOfChar_4cfef_1 : decode cJ1_indexOfChar_4cfef 1 = .ok (.i2b, 1) := by decide +kernel
theorem dJ1_indexOfChar_4cfef_2 : decode cJ1_indexOfChar_4cfef 2 = .ok (.istore 4, 2) := by decide +kernel
theorem dJ1_indexOfChar_4cfef_4 : decode cJ1_indexOfChar_4cfef 4 = .ok (.iload_n 2, 1) := by decide +kernel
theorem dJ1_indexOfChar_4cfef_5 : decode cJ1_indexOfChar_4cfef 5 = .ok (.istore 5, 2) := by decide +kernel
theorem dJ1_indexOfChar_4cfef_7 : decode cJ1_indexOfChar_4cfef 7 = .ok (.iload 5, 2) := by decide +kernel
theorem dJ1_indexOfChar_4cfef_9 : decode cJ1_indexOfChar_4cfef 9 = .ok (.iload_n 3, 1) := by decide +kernel
theorem dJ1_indexOfChar_4cfef_10 : decode cJ1_indexOfChar_4cfef 10 = .ok (.if_icmp .ge 21, 3) := by decide +kernel
theorem dJ1_indexOfChar_4cfef_13 : decode cJ1_indexOfChar_4cfef 13 = .ok (.aload_n 0, 1) := by decide +kernel
theorem dJ1_indexOfChar_4cfef_14 : decode cJ1_indexOfChar_4cfef 14 = .ok (.iload 5, 2) := by decide +kernel
theorem dJ1_indexOfChar_4cfef_16 : decode cJ1_indexOfChar_4cfef 16 = .ok (.baload, 1) := by decide +kernel
theorem dJ1_indexOfChar_4cfef_17 : decode cJ1_indexOfChar_4cfef 17 = .ok (.iload 4, 2) := by decide +kernel
theorem dJ1_indexOfChar_4cfef_19 : decode cJ1_indexOfChar_4cfef 19 = .ok (.if_icmp .ne 6, 3) := by decide +kernel
theorem dJ1_indexOfChar_4cfef_22 : decode cJ1_indexOfChar_4cfef 22 = .ok (.iload 5, 2) := by decide +kernel
theorem dJ1_indexOfChar_4cfef_24 : decode cJ1_indexOfChar_4cfef 24 = .ok (.ireturn, 1) := by decide +kernel
theorem dJ1_indexOfChar_4cfef_25 : decode cJ1_indexOfChar_4cfef 25 = .ok (.iinc 5 1, 3) := by decide +kernel
theorem dJ1_indexOfChar_4cfef_28 : decode cJ1_indexOfChar_4cfef 28 = .ok (.goto (-21), 3) := by decide +kernel
theorem dJ1_indexOfChar_4cfef_31 : decode cJ1_indexOfChar_4cfef 31 = .ok (.iconst (-1), 1) := by decide +kernel
theorem dJ1_indexOfChar_4cfef_32 : decode cJ1_indexOfChar_4cfef 32 = .ok (.ireturn, 1) := by decide +kernel
theorem dJ7_fill_53178_0 : decode cJ7_fill_53178 0 = .ok (.iconst 0, 1) := by decide +kernel
theorem dJ7_fill_53178_1 : decode cJ7_fill_53178 1 = .ok (.istore_n 2, 1) := by decide +kernel
theorem dJ7_fill_53178_2 : decode cJ7_fill_53178 2 = .ok (.aload_n 0, 1) := by decide +kernel
theorem dJ7_fill_53178_3 : decode cJ7_fill_53178 3 = .ok (.arraylength, 1) := by decide +kernel
theorem dJ7_fill_53178_4 : decode cJ7_fill_53178 4 = .ok (.istore_n 3, 1) := by decide +kernel
theorem dJ7_fill_53178_5 : decode cJ7_fill_53178 5 = .ok (.iload_n 2, 1) := by decide +kernel
theorem dJ7_fill_53178_6 : decode cJ7_fill_53178 6 = .ok (.iload_n 3, 1) := by decide +kernel
theorem dJ7_fill_53178_7 : decode cJ7_fill_53178 7 = .ok (.if_icmp .ge 13, 3) := by decide +kernel
theorem dJ7_fill_53178_10 : decode cJ7_fill_53178 10 = .ok (.aload_n 0, 1) := by decide +kernel
theorem dJ7_fill_53178_11 : decode cJ7_fill_53178 11 = .ok (.iload_n 2, 1) := by decide +kernel
theorem dJ7_fill_53178_12 : decode cJ7_fill_53178 12 = .ok (.iload_n 1, 1) := by decide +kernel
theorem dJ7_fill_53178_13 : decode cJ7_fill_53178 13 = .ok (.iastore, 1) := by decide +kernel
theorem dJ7_fill_53178_14 : decode cJ7_fill_53178 14 = .ok (.iinc 2 1, 3) := by decide +kernel
theorem dJ7_fill_53178_17 : decode cJ7_fill_53178 17 = .ok (.goto (-12), 3) := by decide +kernel
theorem dJ7_fill_53178_20 : decode cJ7_fill_53178 20 = .ok (.return_, 1) := by decide +kernel
theorem dJ3_checkIndex_8e157_0 : decode cJ3_checkIndex_8e157 0 = .ok (.iload_n 0, 1) := by decide +kernel
theorem dJ3_checkIndex_8e157_1 : decode cJ3_checkIndex_8e157 1 = .ok (.ifCond .lt 8, 3) := by decide +kernel
theorem dJ3_checkIndex_8e157_4 : decode cJ3_checkIndex_8e157 4 = .ok (.iload_n 0, 1) := by decide +kernel
theorem dJ3_checkIndex_8e157_5 : decode cJ3_checkIndex_8e157 5 = .ok (.iload_n 1, 1) := by decide +kernel
theorem dJ3_checkIndex_8e157_6 : decode cJ3_checkIndex_8e157 6 = .ok (.if_icmp .lt 10, 3) := by decide +kernel
theorem dJ3_checkIndex_8e157_9 : decode cJ3_checkIndex_8e157 9 = .ok (.aload_n 2, 1) := by decide +kernel
theorem dJ3_checkIndex_8e157_10 : decode cJ3_checkIndex_8e157 10 = .ok (.iload_n 0, 1) := by decide +kernel
theorem dJ3_checkIndex_8e157_11 : decode cJ3_checkIndex_8e157 11 = .ok (.iload_n 1, 1) := by decide +kernel
theorem dJ3_checkIndex_8e157_12 : decode cJ3_checkIndex_8e157 12 = .ok (.invokestatic 95, 3) := by decide +kernel
theorem dJ3_checkIndex_8e157_15 : decode cJ3_checkIndex_8e157 15 = .ok (.athrow, 1) := by decide +kernel
theorem dJ3_checkIndex_8e157_16 : decode cJ3_checkIndex_8e157 16 = .ok (.iload_n 0, 1) := by decide +kernel
theorem dJ3_checkIndex_8e157_17 : decode cJ3_checkIndex_8e157 17 = .ok (.ireturn, 1) := by decide +kernel
theorem dJ3_checkFromToIndex_8c36e_0 : decode cJ3_checkFromToIndex_8c36e 0 = .ok (.iload_n 0, 1) := by decide +kernel
theorem dJ3_checkFromToIndex_8c36e_1 : decode cJ3_checkFromToIndex_8c36e 1 = .ok (.ifCond .lt 13, 3) := by decide +kernel
theorem dJ3_checkFromToIndex_8c36e_4 : decode cJ3_checkFromToIndex_8c36e 4 = .ok (.iload_n 0, 1) := by decide +kernel
theorem dJ3_checkFromToIndex_8c36e_5 : decode cJ3_checkFromToIndex_8c36e 5 = .ok (.iload_n 1, 1) := by decide +kernel
theorem dJ3_checkFromToIndex_8c36e_6 : decode cJ3_checkFromToIndex_8c36e 6 = .ok (.if_icmp .gt 8, 3) := by decide +kernel
theorem dJ3_checkFromToIndex_8c36e_9 : decode cJ3_checkFromToIndex_8c36e 9 = .ok (.iload_n 1, 1) := by decide +kernel
theorem dJ3_checkFromToIndex_8c36e_10 : decode cJ3_checkFromToIndex_8c36e 10 = .ok (.iload_n 2, 1) := by decide +kernel
theorem dJ3_checkFromToIndex_8c36e_11 : decode cJ3_checkFromToIndex_8c36e 11 = .ok (.if_icmp .le 11, 3) := by decide +kernel
theorem dJ3_checkFromToIndex_8c36e_14 : decode cJ3_checkFromToIndex_8c36e 14 = .ok (.aload_n 3, 1) := by decide +kernel
theorem dJ3_checkFromToIndex_8c36e_15 : decode cJ3_checkFromToIndex_8c36e 15 = .ok (.iload_n 0, 1) := by decide +kernel
theorem dJ3_checkFromToIndex_8c36e_16 : decode cJ3_checkFromToIndex_8c36e 16 = .ok (.iload_n 1, 1) := by decide +kernel
theorem dJ3_checkFromToIndex_8c36e_17 : decode cJ3_checkFromToIndex_8c36e 17 = .ok (.iload_n 2, 1) := by decide +kernel
theorem dJ3_checkFromToIndex_8c36e_18 : decode cJ3_checkFromToIndex_8c36e 18 = .ok (.invokestatic 99, 3) := by decide +kernel
theorem dJ3_checkFromToIndex_8c36e_21 : decode cJ3_checkFromToIndex_8c36e 21 = .ok (.athrow, 1) := by decide +kernel
theorem dJ3_checkFromToIndex_8c36e_22 : decode cJ3_checkFromToIndex_8c36e 22 = .ok (.iload_n 0, 1) := by decide +kernel
theorem dJ3_checkFromToIndex_8c36e_23 : decode cJ3_checkFromToIndex_8c36e 23 = .ok (.ireturn, 1) := by decide +kernel
