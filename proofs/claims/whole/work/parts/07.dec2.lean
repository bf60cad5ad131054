theorem dX11_init_0 : decode cX11_init 0 = .ok (.aload_n 0, 1) := by decide +kernel
theorem dX11_init_1 : decode cX11_init 1 = .ok (.invokespecial 1, 3) := by decide +kernel
theorem dX11_init_4 : decode cX11_init 4 = .ok (.aload_n 0, 1) := by decide +kernel
theorem dX11_init_5 : decode cX11_init 5 = .ok (.new 7, 3) := by decide +kernel
theorem dX11_init_8 : decode cX11_init 8 = .ok (.dup, 1) := by decide +kernel
theorem dX11_init_9 : decode cX11_init 9 = .ok (.invokespecial 9, 3) := by decide +kernel
theorem dX11_init_12 : decode cX11_init 12 = .ok (.putfield 10, 3) := by decide +kernel
theorem dX11_init_15 : decode cX11_init 15 = .ok (.aload_n 0, 1) := by decide +kernel
theorem dX11_init_16 : decode cX11_init 16 = .ok (.new 16, 3) := by decide +kernel
theorem dX11_init_19 : decode cX11_init 19 = .ok (.dup, 1) := by decide +kernel
theorem dX11_init_20 : decode cX11_init 20 = .ok (.invokespecial 18, 3) := by decide +kernel
theorem dX11_init_23 : decode cX11_init 23 = .ok (.putfield 19, 3) := by decide +kernel
theorem dX11_init_26 : decode cX11_init 26 = .ok (.aload_n 0, 1) := by decide +kernel
theorem dX11_init_27 : decode cX11_init 27 = .ok (.new 23, 3) := by decide +kernel
theorem dX11_init_30 : decode cX11_init 30 = .ok (.dup, 1) := by decide +kernel
theorem dX11_init_31 : decode cX11_init 31 = .ok (.invokespecial 25, 3) := by decide +kernel
theorem dX11_init_34 : decode cX11_init 34 = .ok (.putfield 26, 3) := by decide +kernel
theorem dX11_init_37 : decode cX11_init 37 = .ok (.aload_n 0, 1) := by decide +kernel
theorem dX11_init_38 : decode cX11_init 38 = .ok (.new 30, 3) := by decide +kernel
theorem dX11_init_41 : decode cX11_init 41 = .ok (.dup, 1) := by decide +kernel
theorem dX11_init_42 : decode cX11_init 42 = .ok (.invokespecial 32, 3) := by decide +kernel
theorem dX11_init_45 : decode cX11_init 45 = .ok (.putfield 33, 3) := by decide +kernel
theorem dX11_init_48 : decode cX11_init 48 = .ok (.aload_n 0, 1) := by decide +kernel
theorem dX11_init_49 : decode cX11_init 49 = .ok (.aload_n 0, 1) := by decide +kernel
theorem dX11_init_50 : decode cX11_init 50 = .ok (.getfield 33, 3) := by decide +kernel
theorem dX11_init_53 : decode cX11_init 53 = .ok (.getfield 37, 3) := by decide +kernel
theorem dX11_init_56 : decode cX11_init 56 = .ok (.putfield 41, 3) := by decide +kernel
theorem dX11_init_59 : decode cX11_init 59 = .ok (.aload_n 0, 1) := by decide +kernel
theorem dX11_init_60 : decode cX11_init 60 = .ok (.new 42, 3) := by decide +kernel
theorem dX11_init_63 : decode cX11_init 63 = .ok (.dup, 1) := by decide +kernel
theorem dX11_init_64 : decode cX11_init 64 = .ok (.invokespecial 44, 3) := by decide +kernel
theorem dX11_init_67 : decode cX11_init 67 = .ok (.putfield 45, 3) := by decide +kernel
theorem dX11_init_70 : decode cX11_init 70 = .ok (.aload_n 0, 1) := by decide +kernel
theorem dX11_init_71 : decode cX11_init 71 = .ok (.new 42, 3) := by decide +kernel
theorem dX11_init_74 : decode cX11_init 74 = .ok (.dup, 1) := by decide +kernel
theorem dX11_init_75 : decode cX11_init 75 = .ok (.invokespecial 44, 3) := by decide +kernel
theorem dX11_init_78 : decode cX11_init 78 = .ok (.putfield 49, 3) := by decide +kernel
theorem dX11_init_81 : decode cX11_init 81 = .ok (.aload_n 0, 1) := by decide +kernel
theorem dX11_init_82 : decode cX11_init 82 = .ok (.bipush 6, 2) := by decide +kernel
theorem dX11_init_84 : decode cX11_init 84 = .ok (.anewarray 52, 3) := by decide +kernel
theorem dX11_init_87 : decode cX11_init 87 = .ok (.putfield 54, 3) := by decide +kernel
theorem dX11_init_90 : decode cX11_init 90 = .ok (.aload_n 0, 1) := by decide +kernel
theorem dX11_init_91 : decode cX11_init 91 = .ok (.bipush 24, 2) := by decide +kernel
theorem dX11_init_93 : decode cX11_init 93 = .ok (.anewarray 58, 3) := by decide +kernel
theorem dX11_init_96 : decode cX11_init 96 = .ok (.putfield 60, 3) := by decide +kernel
theorem dX11_init_99 : decode cX11_init 99 = .ok (.aload_n 0, 1) := by decide +kernel
theorem dX11_init_100 : decode cX11_init 100 = .ok (.new 64, 3) := by decide +kernel
theorem dX11_init_103 : decode cX11_init 103 = .ok (.dup, 1) := by decide +kernel
theorem dX11_init_104 : decode cX11_init 104 = .ok (.invokespecial 66, 3) := by decide +kernel
theorem dX11_init_107 : decode cX11_init 107 = .ok (.putfield 67, 3) := by decide +kernel
theorem dX11_init_110 : decode cX11_init 110 = .ok (.iconst 0, 1) := by decide +kernel
theorem dX11_init_111 : decode cX11_init 111 = .ok (.istore_n 1, 1) := by decide +kernel
theorem dX11_init_112 : decode cX11_init 112 = .ok (.iload_n 1, 1) := by decide +kernel
theorem dX11_init_113 : decode cX11_init 113 = .ok (.bipush 6, 2) := by decide +kernel
theorem dX11_init_115 : decode cX11_init 115 = .ok (.if_icmp .ge 22, 3) := by decide +kernel
theorem dX11_init_118 : decode cX11_init 118 = .ok (.aload_n 0, 1) := by decide +kernel
theorem dX11_init_119 : decode cX11_init 119 = .ok (.getfield 54, 3) := by decide +kernel
theorem dX11_init_122 : decode cX11_init 122 = .ok (.iload_n 1, 1) := by decide +kernel
theorem dX11_init_123 : decode cX11_init 123 = .ok (.new 52, 3) := by decide +kernel
theorem dX11_init_126 : decode cX11_init 126 = .ok (.dup, 1) := by decide +kernel
theorem dX11_init_127 : decode cX11_init 127 = .ok (.invokespecial 71, 3) := by decide +kernel
theorem dX11_init_130 : decode cX11_init 130 = .ok (.aastore, 1) := by decide +kernel
theorem dX11_init_131 : decode cX11_init 131 = .ok (.iinc 1 1, 3) := by decide +kernel
theorem dX11_init_134 : decode cX11_init 134 = .ok (.goto (-22), 3) := by decide +kernel
theorem dX11_init_137 : decode cX11_init 137 = .ok (.iconst 0, 1) := by decide +kernel
theorem dX11_init_138 : decode cX11_init 138 = .ok (.istore_n 1, 1) := by decide +kernel
theorem dX11_init_139 : decode cX11_init 139 = .ok (.iload_n 1, 1) := by decide +kernel
theorem dX11_init_140 : decode cX11_init 140 = .ok (.bipush 24, 2) := by decide +kernel
theorem dX11_init_142 : decode cX11_init 142 = .ok (.if_icmp .ge 22, 3) := by decide +kernel
theorem dX11_init_145 : decode cX11_init 145 = .ok (.aload_n 0, 1) := by decide +kernel
theorem dX11_init_146 : decode cX11_init 146 = .ok (.getfield 60, 3) := by decide +kernel
theorem dX11_init_149 : decode cX11_init 149 = .ok (.iload_n 1, 1) := by decide +kernel
theorem dX11_init_150 : decode cX11_init 150 = .ok (.new 58, 3) := by decide +kernel
theorem dX11_init_153 : decode cX11_init 153 = .ok (.dup, 1) := by decide +kernel
theorem dX11_init_154 : decode cX11_init 154 = .ok (.invokespecial 72, 3) := by decide +kernel
theorem dX11_init_157 : decode cX11_init 157 = .ok (.aastore, 1) := by decide +kernel
theorem dX11_init_158 : decode cX11_init 158 = .ok (.iinc 1 1, 3) := by decide +kernel
theorem dX11_init_161 : decode cX11_init 161 = .ok (.goto (-22), 3) := by decide +kernel
theorem dX11_init_164 : decode cX11_init 164 = .ok (.return_, 1) := by decide +kernel
theorem dX11_letters_0 : decode cX11_letters 0 = .ok (.lload_n 1, 1) := by decide +kernel
theorem dX11_letters_1 : decode cX11_letters 1 = .ok (.invokestatic 73, 3) := by decide +kernel
theorem dX11_letters_4 : decode cX11_letters 4 = .ok (.istore_n 3, 1) := by decide +kernel
theorem dX11_letters_5 : decode cX11_letters 5 = .ok (.iload_n 3, 1) := by decide +kernel
theorem dX11_letters_6 : decode cX11_letters 6 = .ok (.iconst (-1), 1) := by decide +kernel
theorem dX11_letters_7 : decode cX11_letters 7 = .ok (.if_icmp .ne 6, 3) := by decide +kernel
theorem dX11_letters_10 : decode cX11_letters 10 = .ok (.bipush (-102), 2) := by decide +kernel
theorem dX11_letters_12 : decode cX11_letters 12 = .ok (.ireturn, 1) := by decide +kernel
theorem dX11_letters_13 : decode cX11_letters 13 = .ok (.aload_n 0, 1) := by decide +kernel
theorem dX11_letters_14 : decode cX11_letters 14 = .ok (.getfield 10, 3) := by decide +kernel
theorem dX11_letters_17 : decode cX11_letters 17 = .ok (.getfield 77, 3) := by decide +kernel
theorem dX11_letters_20 : decode cX11_letters 20 = .ok (.iload_n 3, 1) := by decide +kernel
theorem dX11_letters_21 : decode cX11_letters 21 = .ok (.iadd, 1) := by decide +kernel
theorem dX11_letters_22 : decode cX11_letters 22 = .ok (.bipush 40, 2) := by decide +kernel
theorem dX11_letters_24 : decode cX11_letters 24 = .ok (.if_icmp .le 6, 3) := by decide +kernel
theorem dX11_letters_27 : decode cX11_letters 27 = .ok (.bipush (-104), 2) := by decide +kernel
theorem dX11_letters_29 : decode cX11_letters 29 = .ok (.ireturn, 1) := by decide +kernel
theorem dX11_letters_30 : decode cX11_letters 30 = .ok (.aload_n 0, 1) := by decide +kernel
theorem dX11_letters_31 : decode cX11_letters 31 = .ok (.getfield 10, 3) := by decide +kernel
theorem dX11_letters_34 : decode cX11_letters 34 = .ok (.lload_n 1, 1) := by decide +kernel
theorem dX11_letters_35 : decode cX11_letters 35 = .ok (.iload_n 3, 1) := by decide +kernel
theorem dX11_letters_36 : decode cX11_letters 36 = .ok (.invokevirtual 81, 3) := by decide +kernel
theorem dX11_letters_39 : decode cX11_letters 39 = .ok (.aload_n 0, 1) := by decide +kernel
theorem dX11_letters_40 : decode cX11_letters 40 = .ok (.getfield 10, 3) := by decide +kernel
theorem dX11_letters_43 : decode cX11_letters 43 = .ok (.getfield 77, 3) := by decide +kernel
theorem dX11_letters_46 : decode cX11_letters 46 = .ok (.ireturn, 1) := by decide +kernel
theorem dX11_blank_0 : decode cX11_blank 0 = .ok (.aload_n 0, 1) := by decide +kernel
theorem dX11_blank_1 : decode cX11_blank 1 = .ok (.getfield 10, 3) := by decide +kernel
theorem dX11_blank_4 : decode cX11_blank 4 = .ok (.getfield 77, 3) := by decide +kernel
theorem dX11_blank_7 : decode cX11_blank 7 = .ok (.istore_n 1, 1) := by decide +kernel
theorem dX11_blank_8 : decode cX11_blank 8 = .ok (.aload_n 0, 1) := by decide +kernel
theorem dX11_blank_9 : decode cX11_blank 9 = .ok (.getfield 10, 3) := by decide +kernel
theorem dX11_blank_12 : decode cX11_blank 12 = .ok (.iconst 0, 1) := by decide +kernel
theorem dX11_blank_13 : decode cX11_blank 13 = .ok (.putfield 77, 3) := by decide +kernel
theorem dX11_blank_16 : decode cX11_blank 16 = .ok (.iload_n 1, 1) := by decide +kernel
theorem dX11_blank_17 : decode cX11_blank 17 = .ok (.ireturn, 1) := by decide +kernel
theorem dX11_fault_0 : decode cX11_fault 0 = .ok (.iload_n 1, 1) := by decide +kernel
theorem dX11_fault_1 : decode cX11_fault 1 = .ok (.iconst 0, 1) := by decide +kernel
theorem dX11_fault_2 : decode cX11_fault 2 = .ok (.iconst 1, 1) := by decide +kernel
theorem dX11_fault_3 : decode cX11_fault 3 = .ok (.invokestatic 85, 3) := by decide +kernel
theorem dX11_fault_6 : decode cX11_fault 6 = .ok (.ifCond .ne 6, 3) := by decide +kernel
theorem dX11_fault_9 : decode cX11_fault 9 = .ok (.bipush (-102), 2) := by decide +kernel
theorem dX11_fault_11 : decode cX11_fault 11 = .ok (.ireturn, 1) := by decide +kernel
theorem dX11_fault_12 : decode cX11_fault 12 = .ok (.iload_n 1, 1) := by decide +kernel
theorem dX11_fault_13 : decode cX11_fault 13 = .ok (.ifCond .ne 17, 3) := by decide +kernel
theorem dX11_fault_16 : decode cX11_fault 16 = .ok (.aload_n 0, 1) := by decide +kernel
theorem dX11_fault_17 : decode cX11_fault 17 = .ok (.getfield 10, 3) := by decide +kernel
theorem dX11_fault_20 : decode cX11_fault 20 = .ok (.aload_n 0, 1) := by decide +kernel
theorem dX11_fault_21 : decode cX11_fault 21 = .ok (.getfield 19, 3) := by decide +kernel
theorem dX11_fault_24 : decode cX11_fault 24 = .ok (.invokevirtual 89, 3) := by decide +kernel
theorem dX11_fault_27 : decode cX11_fault 27 = .ok (.goto 14, 3) := by decide +kernel
theorem dX11_fault_30 : decode cX11_fault 30 = .ok (.aload_n 0, 1) := by decide +kernel
theorem dX11_fault_31 : decode cX11_fault 31 = .ok (.getfield 10, 3) := by decide +kernel
theorem dX11_fault_34 : decode cX11_fault 34 = .ok (.aload_n 0, 1) := by decide +kernel
theorem dX11_fault_35 : decode cX11_fault 35 = .ok (.getfield 26, 3) := by decide +kernel
theorem dX11_fault_38 : decode cX11_fault 38 = .ok (.invokevirtual 89, 3) := by decide +kernel
theorem dX11_fault_41 : decode cX11_fault 41 = .ok (.ireturn, 1) := by decide +kernel
theorem dX11_pan_0 : decode cX11_pan 0 = .ok (.aload_n 0, 1) := by decide +kernel
theorem dX11_pan_1 : decode cX11_pan 1 = .ok (.getfield 10, 3) := by decide +kernel
theorem dX11_pan_4 : decode cX11_pan 4 = .ok (.aload_n 0, 1) := by decide +kernel
theorem dX11_pan_5 : decode cX11_pan 5 = .ok (.getfield 19, 3) := by decide +kernel
theorem dX11_pan_8 : decode cX11_pan 8 = .ok (.invokevirtual 93, 3) := by decide +kernel
theorem dX11_pan_11 : decode cX11_pan 11 = .ok (.ifCond .ne 6, 3) := by decide +kernel
theorem dX11_pan_14 : decode cX11_pan 14 = .ok (.bipush (-103), 2) := by decide +kernel
theorem dX11_pan_16 : decode cX11_pan 16 = .ok (.ireturn, 1) := by decide +kernel
theorem dX11_pan_17 : decode cX11_pan 17 = .ok (.aload_n 0, 1) := by decide +kernel
theorem dX11_pan_18 : decode cX11_pan 18 = .ok (.getfield 41, 3) := by decide +kernel
theorem dX11_pan_21 : decode cX11_pan 21 = .ok (.aload_n 0, 1) := by decide +kernel
theorem dX11_pan_22 : decode cX11_pan 22 = .ok (.getfield 19, 3) := by decide +kernel
theorem dX11_pan_25 : decode cX11_pan 25 = .ok (.invokevirtual 97, 3) := by decide +kernel
theorem dX11_pan_28 : decode cX11_pan 28 = .ok (.aload_n 0, 1) := by decide +kernel
theorem dX11_pan_29 : decode cX11_pan 29 = .ok (.getfield 45, 3) := by decide +kernel
theorem dX11_pan_32 : decode cX11_pan 32 = .ok (.invokevirtual 103, 3) := by decide +kernel
theorem dX11_pan_35 : decode cX11_pan 35 = .ok (.aload_n 0, 1) := by decide +kernel
theorem dX11_pan_36 : decode cX11_pan 36 = .ok (.iconst 0, 1) := by decide +kernel
theorem dX11_pan_37 : decode cX11_pan 37 = .ok (.putfield 106, 3) := by decide +kernel
theorem dX11_pan_40 : decode cX11_pan 40 = .ok (.aload_n 0, 1) := by decide +kernel
theorem dX11_pan_41 : decode cX11_pan 41 = .ok (.iconst 0, 1) := by decide +kernel
theorem dX11_pan_42 : decode cX11_pan 42 = .ok (.putfield 109, 3) := by decide +kernel
theorem dX11_pan_45 : decode cX11_pan 45 = .ok (.aload_n 0, 1) := by decide +kernel
theorem dX11_pan_46 : decode cX11_pan 46 = .ok (.dup, 1) := by decide +kernel
theorem dX11_pan_47 : decode cX11_pan 47 = .ok (.getfield 113, 3) := by decide +kernel
theorem dX11_pan_50 : decode cX11_pan 50 = .ok (.iconst 1, 1) := by decide +kernel
theorem dX11_pan_51 : decode cX11_pan 51 = .ok (.iadd, 1) := by decide +kernel
theorem dX11_pan_52 : decode cX11_pan 52 = .ok (.putfield 113, 3) := by decide +kernel
theorem dX11_pan_55 : decode cX11_pan 55 = .ok (.aload_n 0, 1) := by decide +kernel
theorem dX11_pan_56 : decode cX11_pan 56 = .ok (.getfield 10, 3) := by decide +kernel
theorem dX11_pan_59 : decode cX11_pan 59 = .ok (.iconst 0, 1) := by decide +kernel
theorem dX11_pan_60 : decode cX11_pan 60 = .ok (.putfield 77, 3) := by decide +kernel
theorem dX11_pan_63 : decode cX11_pan 63 = .ok (.aload_n 0, 1) := by decide +kernel
theorem dX11_pan_64 : decode cX11_pan 64 = .ok (.getfield 41, 3) := by decide +kernel
theorem dX11_pan_67 : decode cX11_pan 67 = .ok (.getfield 116, 3) := by decide +kernel
theorem dX11_pan_70 : decode cX11_pan 70 = .ok (.ireturn, 1) := by decide +kernel
theorem dX11_plan_0 : decode cX11_plan 0 = .ok (.aload_n 0, 1) := by decide +kernel
theorem dX11_plan_1 : decode cX11_plan 1 = .ok (.getfield 10, 3) := by decide +kernel
theorem dX11_plan_4 : decode cX11_plan 4 = .ok (.aload_n 0, 1) := by decide +kernel
theorem dX11_plan_5 : decode cX11_plan 5 = .ok (.getfield 26, 3) := by decide +kernel
theorem dX11_plan_8 : decode cX11_plan 8 = .ok (.invokevirtual 93, 3) := by decide +kernel
theorem dX11_plan_11 : decode cX11_plan 11 = .ok (.ifCond .ne 6, 3) := by decide +kernel
theorem dX11_plan_14 : decode cX11_plan 14 = .ok (.bipush (-103), 2) := by decide +kernel
theorem dX11_plan_16 : decode cX11_plan 16 = .ok (.ireturn, 1) := by decide +kernel
theorem dX11_plan_17 : decode cX11_plan 17 = .ok (.aload_n 0, 1) := by decide +kernel
theorem dX11_plan_18 : decode cX11_plan 18 = .ok (.getfield 119, 3) := by decide +kernel
theorem dX11_plan_21 : decode cX11_plan 21 = .ok (.bipush 6, 2) := by decide +kernel
theorem dX11_plan_23 : decode cX11_plan 23 = .ok (.if_icmp .lt 6, 3) := by decide +kernel
theorem dX11_plan_26 : decode cX11_plan 26 = .ok (.bipush (-104), 2) := by decide +kernel
theorem dX11_plan_28 : decode cX11_plan 28 = .ok (.ireturn, 1) := by decide +kernel
theorem dX11_plan_29 : decode cX11_plan 29 = .ok (.aload_n 0, 1) := by decide +kernel
theorem dX11_plan_30 : decode cX11_plan 30 = .ok (.getfield 54, 3) := by decide +kernel
theorem dX11_plan_33 : decode cX11_plan 33 = .ok (.aload_n 0, 1) := by decide +kernel
theorem dX11_plan_34 : decode cX11_plan 34 = .ok (.getfield 119, 3) := by decide +kernel
theorem dX11_plan_37 : decode cX11_plan 37 = .ok (.aaload, 1) := by decide +kernel
theorem dX11_plan_38 : decode cX11_plan 38 = .ok (.aload_n 0, 1) := by decide +kernel
theorem dX11_plan_39 : decode cX11_plan 39 = .ok (.getfield 26, 3) := by decide +kernel
theorem dX11_plan_42 : decode cX11_plan 42 = .ok (.invokevirtual 122, 3) := by decide +kernel
theorem dX11_plan_45 : decode cX11_plan 45 = .ok (.aload_n 0, 1) := by decide +kernel
theorem dX11_plan_46 : decode cX11_plan 46 = .ok (.dup, 1) := by decide +kernel
theorem dX11_plan_47 : decode cX11_plan 47 = .ok (.getfield 119, 3) := by decide +kernel
theorem dX11_plan_50 : decode cX11_plan 50 = .ok (.iconst 1, 1) := by decide +kernel
theorem dX11_plan_51 : decode cX11_plan 51 = .ok (.iadd, 1) := by decide +kernel
theorem dX11_plan_52 : decode cX11_plan 52 = .ok (.putfield 119, 3) := by decide +kernel
theorem dX11_plan_55 : decode cX11_plan 55 = .ok (.aload_n 0, 1) := by decide +kernel
theorem dX11_plan_56 : decode cX11_plan 56 = .ok (.getfield 10, 3) := by decide +kernel
theorem dX11_plan_59 : decode cX11_plan 59 = .ok (.iconst 0, 1) := by decide +kernel
theorem dX11_plan_60 : decode cX11_plan 60 = .ok (.putfield 77, 3) := by decide +kernel
theorem dX11_plan_63 : decode cX11_plan 63 = .ok (.aload_n 0, 1) := by decide +kernel
theorem dX11_plan_64 : decode cX11_plan 64 = .ok (.getfield 119, 3) := by decide +kernel
theorem dX11_plan_67 : decode cX11_plan 67 = .ok (.iconst 1, 1) := by decide +kernel
theorem dX11_plan_68 : decode cX11_plan 68 = .ok (.isub, 1) := by decide +kernel
theorem dX11_plan_69 : decode cX11_plan 69 = .ok (.ireturn, 1) := by decide +kernel
theorem dX11_planTold_0 : decode cX11_planTold 0 = .ok (.aload_n 0, 1) := by decide +kernel
theorem dX11_planTold_1 : decode cX11_planTold 1 = .ok (.iload_n 1, 1) := by decide +kernel
theorem dX11_planTold_2 : decode cX11_planTold 2 = .ok (.invokevirtual 125, 3) := by decide +kernel
theorem dX11_planTold_5 : decode cX11_planTold 5 = .ok (.ifCond .ne 6, 3) := by decide +kernel
theorem dX11_planTold_8 : decode cX11_planTold 8 = .ok (.bipush (-101), 2) := by decide +kernel
theorem dX11_planTold_10 : decode cX11_planTold 10 = .ok (.ireturn, 1) := by decide +kernel
theorem dX11_planTold_11 : decode cX11_planTold 11 = .ok (.iload_n 2, 1) := by decide +kernel
theorem dX11_planTold_12 : decode cX11_planTold 12 = .ok (.iconst 0, 1) := by decide +kernel
theorem dX11_planTold_13 : decode cX11_planTold 13 = .ok (.iconst 4, 1) := by decide +kernel
theorem dX11_planTold_14 : decode cX11_planTold 14 = .ok (.invokestatic 85, 3) := by decide +kernel
theorem dX11_planTold_17 : decode cX11_planTold 17 = .ok (.ifCond .ne 17, 3) := by decide +kernel
theorem dX11_planTold_20 : decode cX11_planTold 20 = .ok (.iload_n 2, 1) := by decide +kernel
theorem dX11_planTold_21 : decode cX11_planTold 21 = .ok (.bipush 10, 2) := by decide +kernel
theorem dX11_planTold_23 : decode cX11_planTold 23 = .ok (.bipush 15, 2) := by decide +kernel
theorem dX11_planTold_25 : decode cX11_planTold 25 = .ok (.invokestatic 85, 3) := by decide +kernel
theorem dX11_planTold_28 : decode cX11_planTold 28 = .ok (.ifCond .ne 6, 3) := by decide +kernel
theorem dX11_planTold_31 : decode cX11_planTold 31 = .ok (.bipush (-102), 2) := by decide +kernel
theorem dX11_planTold_33 : decode cX11_planTold 33 = .ok (.ireturn, 1) := by decide +kernel
theorem dX11_planTold_34 : decode cX11_planTold 34 = .ok (.iload_n 2, 1) := by decide +kernel
theorem dX11_planTold_35 : decode cX11_planTold 35 = .ok (.bipush 10, 2) := by decide +kernel
theorem dX11_planTold_37 : decode cX11_planTold 37 = .ok (.if_icmp .lt 19, 3) := by decide +kernel
theorem dX11_planTold_40 : decode cX11_planTold 40 = .ok (.aload_n 0, 1) := by decide +kernel
theorem dX11_planTold_41 : decode cX11_planTold 41 = .ok (.getfield 54, 3) := by decide +kernel
theorem dX11_planTold_44 : decode cX11_planTold 44 = .ok (.iload_n 1, 1) := by decide +kernel
theorem dX11_planTold_45 : decode cX11_planTold 45 = .ok (.aaload, 1) := by decide +kernel
theorem dX11_planTold_46 : decode cX11_planTold 46 = .ok (.iload_n 2, 1) := by decide +kernel
theorem dX11_planTold_47 : decode cX11_planTold 47 = .ok (.bipush 10, 2) := by decide +kernel
theorem dX11_planTold_49 : decode cX11_planTold 49 = .ok (.isub, 1) := by decide +kernel
theorem dX11_planTold_50 : decode cX11_planTold 50 = .ok (.invokevirtual 129, 3) := by decide +kernel
theorem dX11_planTold_53 : decode cX11_planTold 53 = .ok (.goto 13, 3) := by decide +kernel
theorem dX11_planTold_56 : decode cX11_planTold 56 = .ok (.aload_n 0, 1) := by decide +kernel
theorem dX11_planTold_57 : decode cX11_planTold 57 = .ok (.getfield 54, 3) := by decide +kernel
theorem dX11_planTold_60 : decode cX11_planTold 60 = .ok (.iload_n 1, 1) := by decide +kernel
theorem dX11_planTold_61 : decode cX11_planTold 61 = .ok (.aaload, 1) := by decide +kernel
theorem dX11_planTold_62 : decode cX11_planTold 62 = .ok (.iload_n 2, 1) := by decide +kernel
theorem dX11_planTold_63 : decode cX11_planTold 63 = .ok (.invokevirtual 133, 3) := by decide +kernel
theorem dX11_planTold_66 : decode cX11_planTold 66 = .ok (.ireturn, 1) := by decide +kernel
theorem dX11_cell_0 : decode cX11_cell 0 = .ok (.aload_n 0, 1) := by decide +kernel
theorem dX11_cell_1 : decode cX11_cell 1 = .ok (.iload_n 1, 1) := by decide +kernel
theorem dX11_cell_2 : decode cX11_cell 2 = .ok (.invokevirtual 136, 3) := by decide +kernel
theorem dX11_cell_5 : decode cX11_cell 5 = .ok (.ifCond .ne 6, 3) := by decide +kernel
theorem dX11_cell_8 : decode cX11_cell 8 = .ok (.bipush (-101), 2) := by decide +kernel
theorem dX11_cell_10 : decode cX11_cell 10 = .ok (.ireturn, 1) := by decide +kernel
theorem dX11_cell_11 : decode cX11_cell 11 = .ok (.iload_n 2, 1) := by decide +kernel
theorem dX11_cell_12 : decode cX11_cell 12 = .ok (.tableswitch 80 0 3 #[32, 42, 60, 70], 32) := by decide +kernel
theorem dX11_cell_44 : decode cX11_cell 44 = .ok (.aload_n 0, 1) := by decide +kernel
theorem dX11_cell_45 : decode cX11_cell 45 = .ok (.getfield 41, 3) := by decide +kernel
theorem dX11_cell_48 : decode cX11_cell 48 = .ok (.getfield 139, 3) := by decide +kernel
theorem dX11_cell_51 : decode cX11_cell 51 = .ok (.iload_n 1, 1) := by decide +kernel
theorem dX11_cell_52 : decode cX11_cell 52 = .ok (.iaload, 1) := by decide +kernel
theorem dX11_cell_53 : decode cX11_cell 53 = .ok (.ireturn, 1) := by decide +kernel
theorem dX11_cell_54 : decode cX11_cell 54 = .ok (.aload_n 0, 1) := by decide +kernel
theorem dX11_cell_55 : decode cX11_cell 55 = .ok (.getfield 41, 3) := by decide +kernel
theorem dX11_cell_58 : decode cX11_cell 58 = .ok (.getfield 143, 3) := by decide +kernel
theorem dX11_cell_61 : decode cX11_cell 61 = .ok (.iload_n 1, 1) := by decide +kernel
theorem dX11_cell_62 : decode cX11_cell 62 = .ok (.baload, 1) := by decide +kernel
theorem dX11_cell_63 : decode cX11_cell 63 = .ok (.ifCond .eq 7, 3) := by decide +kernel
theorem dX11_cell_66 : decode cX11_cell 66 = .ok (.iconst 1, 1) := by decide +kernel
theorem dX11_cell_67 : decode cX11_cell 67 = .ok (.goto 4, 3) := by decide +kernel
theorem dX11_cell_70 : decode cX11_cell 70 = .ok (.iconst 0, 1) := by decide +kernel
theorem dX11_cell_71 : decode cX11_cell 71 = .ok (.ireturn, 1) := by decide +kernel
theorem dX11_cell_72 : decode cX11_cell 72 = .ok (.aload_n 0, 1) := by decide +kernel
theorem dX11_cell_73 : decode cX11_cell 73 = .ok (.getfield 45, 3) := by decide +kernel
theorem dX11_cell_76 : decode cX11_cell 76 = .ok (.getfield 147, 3) := by decide +kernel
theorem dX11_cell_79 : decode cX11_cell 79 = .ok (.iload_n 1, 1) := by decide +kernel
theorem dX11_cell_80 : decode cX11_cell 80 = .ok (.iaload, 1) := by decide +kernel
theorem dX11_cell_81 : decode cX11_cell 81 = .ok (.ireturn, 1) := by decide +kernel
theorem dX11_cell_82 : decode cX11_cell 82 = .ok (.aload_n 0, 1) := by decide +kernel
theorem dX11_cell_83 : decode cX11_cell 83 = .ok (.getfield 45, 3) := by decide +kernel
theorem dX11_cell_86 : decode cX11_cell 86 = .ok (.getfield 150, 3) := by decide +kernel
theorem dX11_cell_89 : decode cX11_cell 89 = .ok (.iload_n 1, 1) := by decide +kernel
theorem dX11_cell_90 : decode cX11_cell 90 = .ok (.iaload, 1) := by decide +kernel
theorem dX11_cell_91 : decode cX11_cell 91 = .ok (.ireturn, 1) := by decide +kernel
theorem dX11_cell_92 : decode cX11_cell 92 = .ok (.bipush (-102), 2) := by decide +kernel
theorem dX11_cell_94 : decode cX11_cell 94 = .ok (.ireturn, 1) := by decide +kernel
theorem dX11_warm_0 : decode cX11_warm 0 = .ok (.aload_n 0, 1) := by decide +kernel
theorem dX11_warm_1 : decode cX11_warm 1 = .ok (.invokevirtual 153, 3) := by decide +kernel
theorem dX11_warm_4 : decode cX11_warm 4 = .ok (.ifCond .ne 6, 3) := by decide +kernel
theorem dX11_warm_7 : decode cX11_warm 7 = .ok (.bipush (-103), 2) := by decide +kernel
theorem dX11_warm_9 : decode cX11_warm 9 = .ok (.ireturn, 1) := by decide +kernel
theorem dX11_warm_10 : decode cX11_warm 10 = .ok (.iload_n 1, 1) := by decide +kernel
theorem dX11_warm_11 : decode cX11_warm 11 = .ok (.iconst 0, 1) := by decide +kernel
theorem dX11_warm_12 : decode cX11_warm 12 = .ok (.bipush 9, 2) := by decide +kernel
theorem dX11_warm_14 : decode cX11_warm 14 = .ok (.invokestatic 85, 3) := by decide +kernel
theorem dX11_warm_17 : decode cX11_warm 17 = .ok (.ifCond .eq 14, 3) := by decide +kernel
theorem dX11_warm_20 : decode cX11_warm 20 = .ok (.iload_n 2, 1) := by decide +kernel
theorem dX11_warm_21 : decode cX11_warm 21 = .ok (.iconst 1, 1) := by decide +kernel
theorem dX11_warm_22 : decode cX11_warm 22 = .ok (.sipush 200, 3) := by decide +kernel
theorem dX11_warm_25 : decode cX11_warm 25 = .ok (.invokestatic 85, 3) := by decide +kernel
theorem dX11_warm_28 : decode cX11_warm 28 = .ok (.ifCond .ne 6, 3) := by decide +kernel
theorem dX11_warm_31 : decode cX11_warm 31 = .ok (.bipush (-102), 2) := by decide +kernel
theorem dX11_warm_33 : decode cX11_warm 33 = .ok (.ireturn, 1) := by decide +kernel
theorem dX11_warm_34 : decode cX11_warm 34 = .ok (.iconst 0, 1) := by decide +kernel
theorem dX11_warm_35 : decode cX11_warm 35 = .ok (.istore_n 3, 1) := by decide +kernel
theorem dX11_warm_36 : decode cX11_warm 36 = .ok (.iconst 0, 1) := by decide +kernel
theorem dX11_warm_37 : decode cX11_warm 37 = .ok (.istore 4, 2) := by decide +kernel
theorem dX11_warm_39 : decode cX11_warm 39 = .ok (.iload 4, 2) := by decide +kernel
theorem dX11_warm_41 : decode cX11_warm 41 = .ok (.aload_n 0, 1) := by decide +kernel
theorem dX11_warm_42 : decode cX11_warm 42 = .ok (.getfield 41, 3) := by decide +kernel
theorem dX11_warm_45 : decode cX11_warm 45 = .ok (.getfield 116, 3) := by decide +kernel
theorem dX11_warm_48 : decode cX11_warm 48 = .ok (.if_icmp .ge 48, 3) := by decide +kernel
theorem dX11_warm_51 : decode cX11_warm 51 = .ok (.aload_n 0, 1) := by decide +kernel
theorem dX11_warm_52 : decode cX11_warm 52 = .ok (.getfield 45, 3) := by decide +kernel
theorem dX11_warm_55 : decode cX11_warm 55 = .ok (.iload 4, 2) := by decide +kernel
theorem dX11_warm_57 : decode cX11_warm 57 = .ok (.iload_n 1, 1) := by decide +kernel
theorem dX11_warm_58 : decode cX11_warm 58 = .ok (.aload_n 0, 1) := by decide +kernel
theorem dX11_warm_59 : decode cX11_warm 59 = .ok (.getfield 41, 3) := by decide +kernel
theorem dX11_warm_62 : decode cX11_warm 62 = .ok (.getfield 139, 3) := by decide +kernel
theorem dX11_warm_65 : decode cX11_warm 65 = .ok (.iload 4, 2) := by decide +kernel
theorem dX11_warm_67 : decode cX11_warm 67 = .ok (.iaload, 1) := by decide +kernel
theorem dX11_warm_68 : decode cX11_warm 68 = .ok (.imul, 1) := by decide +kernel
theorem dX11_warm_69 : decode cX11_warm 69 = .ok (.iload_n 2, 1) := by decide +kernel
theorem dX11_warm_70 : decode cX11_warm 70 = .ok (.iconst 0, 1) := by decide +kernel
theorem dX11_warm_71 : decode cX11_warm 71 = .ok (.invokevirtual 157, 3) := by decide +kernel
theorem dX11_warm_74 : decode cX11_warm 74 = .ok (.pop, 1) := by decide +kernel
theorem dX11_warm_75 : decode cX11_warm 75 = .ok (.iload_n 3, 1) := by decide +kernel
theorem dX11_warm_76 : decode cX11_warm 76 = .ok (.aload_n 0, 1) := by decide +kernel
theorem dX11_warm_77 : decode cX11_warm 77 = .ok (.getfield 45, 3) := by decide +kernel
theorem dX11_warm_80 : decode cX11_warm 80 = .ok (.getfield 147, 3) := by decide +kernel
theorem dX11_warm_83 : decode cX11_warm 83 = .ok (.iload 4, 2) := by decide +kernel
theorem dX11_warm_85 : decode cX11_warm 85 = .ok (.iaload, 1) := by decide +kernel
theorem dX11_warm_86 : decode cX11_warm 86 = .ok (.invokestatic 161, 3) := by decide +kernel
theorem dX11_warm_89 : decode cX11_warm 89 = .ok (.istore_n 3, 1) := by decide +kernel
theorem dX11_warm_90 : decode cX11_warm 90 = .ok (.iinc 4 1, 3) := by decide +kernel
theorem dX11_warm_93 : decode cX11_warm 93 = .ok (.goto (-54), 3) := by decide +kernel
theorem dX11_warm_96 : decode cX11_warm 96 = .ok (.iload_n 3, 1) := by decide +kernel
theorem dX11_warm_97 : decode cX11_warm 97 = .ok (.ireturn, 1) := by decide +kernel
theorem dX11_fat_0 : decode cX11_fat 0 = .ok (.aload_n 0, 1) := by decide +kernel
theorem dX11_fat_1 : decode cX11_fat 1 = .ok (.invokevirtual 153, 3) := by decide +kernel
theorem dX11_fat_4 : decode cX11_fat 4 = .ok (.ifCond .ne 6, 3) := by decide +kernel
theorem dX11_fat_7 : decode cX11_fat 7 = .ok (.bipush (-103), 2) := by decide +kernel
theorem dX11_fat_9 : decode cX11_fat 9 = .ok (.ireturn, 1) := by decide +kernel
theorem dX11_fat_10 : decode cX11_fat 10 = .ok (.iload_n 1, 1) := by decide +kernel
theorem dX11_fat_11 : decode cX11_fat 11 = .ok (.iconst 0, 1) := by decide +kernel
theorem dX11_fat_12 : decode cX11_fat 12 = .ok (.bipush 9, 2) := by decide +kernel
theorem dX11_fat_14 : decode cX11_fat 14 = .ok (.invokestatic 85, 3) := by decide +kernel
theorem dX11_fat_17 : decode cX11_fat 17 = .ok (.ifCond .ne 6, 3) := by decide +kernel
theorem dX11_fat_20 : decode cX11_fat 20 = .ok (.bipush (-102), 2) := by decide +kernel
theorem dX11_fat_22 : decode cX11_fat 22 = .ok (.ireturn, 1) := by decide +kernel
theorem dX11_fat_23 : decode cX11_fat 23 = .ok (.aload_n 0, 1) := by decide +kernel
theorem dX11_fat_24 : decode cX11_fat 24 = .ok (.getfield 45, 3) := by decide +kernel
theorem dX11_fat_27 : decode cX11_fat 27 = .ok (.getfield 167, 3) := by decide +kernel
theorem dX11_fat_30 : decode cX11_fat 30 = .ok (.istore_n 2, 1) := by decide +kernel
theorem dX11_fat_31 : decode cX11_fat 31 = .ok (.aload_n 0, 1) := by decide +kernel
theorem dX11_fat_32 : decode cX11_fat 32 = .ok (.getfield 45, 3) := by decide +kernel
theorem dX11_fat_35 : decode cX11_fat 35 = .ok (.iload_n 1, 1) := by decide +kernel
theorem dX11_fat_36 : decode cX11_fat 36 = .ok (.putfield 167, 3) := by decide +kernel
theorem dX11_fat_39 : decode cX11_fat 39 = .ok (.iload_n 2, 1) := by decide +kernel
theorem dX11_fat_40 : decode cX11_fat 40 = .ok (.ireturn, 1) := by decide +kernel
theorem dX11_scrape_0 : decode cX11_scrape 0 = .ok (.aload_n 0, 1) := by decide +kernel
theorem dX11_scrape_1 : decode cX11_scrape 1 = .ok (.invokevirtual 153, 3) := by decide +kernel
theorem dX11_scrape_4 : decode cX11_scrape 4 = .ok (.ifCond .ne 6, 3) := by decide +kernel
theorem dX11_scrape_7 : decode cX11_scrape 7 = .ok (.bipush (-103), 2) := by decide +kernel
theorem dX11_scrape_9 : decode cX11_scrape 9 = .ok (.ireturn, 1) := by decide +kernel
theorem dX11_scrape_10 : decode cX11_scrape 10 = .ok (.aload_n 0, 1) := by decide +kernel
theorem dX11_scrape_11 : decode cX11_scrape 11 = .ok (.getfield 45, 3) := by decide +kernel
theorem dX11_scrape_14 : decode cX11_scrape 14 = .ok (.invokevirtual 170, 3) := by decide +kernel
theorem dX11_scrape_17 : decode cX11_scrape 17 = .ok (.istore_n 1, 1) := by decide +kernel
theorem dX11_scrape_18 : decode cX11_scrape 18 = .ok (.aload_n 0, 1) := by decide +kernel
theorem dX11_scrape_19 : decode cX11_scrape 19 = .ok (.getfield 45, 3) := by decide +kernel
theorem dX11_scrape_22 : decode cX11_scrape 22 = .ok (.invokevirtual 174, 3) := by decide +kernel
theorem dX11_scrape_25 : decode cX11_scrape 25 = .ok (.iload_n 1, 1) := by decide +kernel
theorem dX11_scrape_26 : decode cX11_scrape 26 = .ok (.ireturn, 1) := by decide +kernel
theorem dX11_fry_0 : decode cX11_fry 0 = .ok (.aload_n 0, 1) := by decide +kernel
theorem dX11_fry_1 : decode cX11_fry 1 = .ok (.iload_n 1, 1) := by decide +kernel
theorem dX11_fry_2 : decode cX11_fry 2 = .ok (.invokevirtual 125, 3) := by decide +kernel
theorem dX11_fry_5 : decode cX11_fry 5 = .ok (.ifCond .ne 6, 3) := by decide +kernel
theorem dX11_fry_8 : decode cX11_fry 8 = .ok (.bipush (-101), 2) := by decide +kernel
theorem dX11_fry_10 : decode cX11_fry 10 = .ok (.ireturn, 1) := by decide +kernel
theorem dX11_fry_11 : decode cX11_fry 11 = .ok (.aload_n 0, 1) := by decide +kernel
theorem dX11_fry_12 : decode cX11_fry 12 = .ok (.invokevirtual 153, 3) := by decide +kernel
theorem dX11_fry_15 : decode cX11_fry 15 = .ok (.ifCond .ne 6, 3) := by decide +kernel
theorem dX11_fry_18 : decode cX11_fry 18 = .ok (.bipush (-103), 2) := by decide +kernel
theorem dX11_fry_20 : decode cX11_fry 20 = .ok (.ireturn, 1) := by decide +kernel
theorem dX11_fry_21 : decode cX11_fry 21 = .ok (.aload_n 0, 1) := by decide +kernel
theorem dX11_fry_22 : decode cX11_fry 22 = .ok (.getfield 106, 3) := by decide +kernel
theorem dX11_fry_25 : decode cX11_fry 25 = .ok (.bipush 24, 2) := by decide +kernel
theorem dX11_fry_27 : decode cX11_fry 27 = .ok (.if_icmp .lt 6, 3) := by decide +kernel
theorem dX11_fry_30 : decode cX11_fry 30 = .ok (.bipush (-104), 2) := by decide +kernel
theorem dX11_fry_32 : decode cX11_fry 32 = .ok (.ireturn, 1) := by decide +kernel
theorem dX11_fry_33 : decode cX11_fry 33 = .ok (.aload_n 0, 1) := by decide +kernel
theorem dX11_fry_34 : decode cX11_fry 34 = .ok (.getfield 60, 3) := by decide +kernel
theorem dX11_fry_37 : decode cX11_fry 37 = .ok (.aload_n 0, 1) := by decide +kernel
theorem dX11_fry_38 : decode cX11_fry 38 = .ok (.getfield 106, 3) := by decide +kernel
theorem dX11_fry_41 : decode cX11_fry 41 = .ok (.aaload, 1) := by decide +kernel
theorem dX11_fry_42 : decode cX11_fry 42 = .ok (.astore_n 2, 1) := by decide +kernel
theorem dX11_fry_43 : decode cX11_fry 43 = .ok (.aload_n 0, 1) := by decide +kernel
theorem dX11_fry_44 : decode cX11_fry 44 = .ok (.getfield 41, 3) := by decide +kernel
theorem dX11_fry_47 : decode cX11_fry 47 = .ok (.aload_n 0, 1) := by decide +kernel
theorem dX11_fry_48 : decode cX11_fry 48 = .ok (.getfield 45, 3) := by decide +kernel
theorem dX11_fry_51 : decode cX11_fry 51 = .ok (.aload_n 0, 1) := by decide +kernel
theorem dX11_fry_52 : decode cX11_fry 52 = .ok (.getfield 54, 3) := by decide +kernel
theorem dX11_fry_55 : decode cX11_fry 55 = .ok (.iload_n 1, 1) := by decide +kernel
theorem dX11_fry_56 : decode cX11_fry 56 = .ok (.aaload, 1) := by decide +kernel
theorem dX11_fry_57 : decode cX11_fry 57 = .ok (.aload_n 2, 1) := by decide +kernel
theorem dX11_fry_58 : decode cX11_fry 58 = .ok (.invokevirtual 177, 3) := by decide +kernel
theorem dX11_fry_61 : decode cX11_fry 61 = .ok (.aload_n 0, 1) := by decide +kernel
theorem dX11_fry_62 : decode cX11_fry 62 = .ok (.dup, 1) := by decide +kernel
theorem dX11_fry_63 : decode cX11_fry 63 = .ok (.getfield 106, 3) := by decide +kernel
theorem dX11_fry_66 : decode cX11_fry 66 = .ok (.iconst 1, 1) := by decide +kernel
theorem dX11_fry_67 : decode cX11_fry 67 = .ok (.iadd, 1) := by decide +kernel
theorem dX11_fry_68 : decode cX11_fry 68 = .ok (.putfield 106, 3) := by decide +kernel
theorem dX11_fry_71 : decode cX11_fry 71 = .ok (.aload_n 2, 1) := by decide +kernel
theorem dX11_fry_72 : decode cX11_fry 72 = .ok (.getfield 181, 3) := by decide +kernel
theorem dX11_fry_75 : decode cX11_fry 75 = .ok (.iconst 0, 1) := by decide +kernel
theorem dX11_fry_76 : decode cX11_fry 76 = .ok (.iaload, 1) := by decide +kernel
theorem dX11_fry_77 : decode cX11_fry 77 = .ok (.ireturn, 1) := by decide +kernel
theorem dX11_cake_0 : decode cX11_cake 0 = .ok (.aload_n 0, 1) := by decide +kernel
theorem dX11_cake_1 : decode cX11_cake 1 = .ok (.iload_n 1, 1) := by decide +kernel
theorem dX11_cake_2 : decode cX11_cake 2 = .ok (.invokevirtual 183, 3) := by decide +kernel
theorem dX11_cake_5 : decode cX11_cake 5 = .ok (.ifCond .ne 6, 3) := by decide +kernel
theorem dX11_cake_8 : decode cX11_cake 8 = .ok (.bipush (-101), 2) := by decide +kernel
theorem dX11_cake_10 : decode cX11_cake 10 = .ok (.ireturn, 1) := by decide +kernel
theorem dX11_cake_11 : decode cX11_cake 11 = .ok (.iload_n 2, 1) := by decide +kernel
theorem dX11_cake_12 : decode cX11_cake 12 = .ok (.iconst 0, 1) := by decide +kernel
theorem dX11_cake_13 : decode cX11_cake 13 = .ok (.bipush 6, 2) := by decide +kernel
theorem dX11_cake_15 : decode cX11_cake 15 = .ok (.invokestatic 85, 3) := by decide +kernel
theorem dX11_cake_18 : decode cX11_cake 18 = .ok (.ifCond .eq 17, 3) := by decide +kernel
theorem dX11_cake_21 : decode cX11_cake 21 = .ok (.aload_n 0, 1) := by decide +kernel
theorem dX11_cake_22 : decode cX11_cake 22 = .ok (.getfield 60, 3) := by decide +kernel
theorem dX11_cake_25 : decode cX11_cake 25 = .ok (.iload_n 1, 1) := by decide +kernel
theorem dX11_cake_26 : decode cX11_cake 26 = .ok (.aaload, 1) := by decide +kernel
theorem dX11_cake_27 : decode cX11_cake 27 = .ok (.getfield 181, 3) := by decide +kernel
theorem dX11_cake_30 : decode cX11_cake 30 = .ok (.iload_n 2, 1) := by decide +kernel
theorem dX11_cake_31 : decode cX11_cake 31 = .ok (.iaload, 1) := by decide +kernel
theorem dX11_cake_32 : decode cX11_cake 32 = .ok (.goto 5, 3) := by decide +kernel
theorem dX11_cake_35 : decode cX11_cake 35 = .ok (.bipush (-102), 2) := by decide +kernel
theorem dX11_cake_37 : decode cX11_cake 37 = .ok (.ireturn, 1) := by decide +kernel
theorem dX11_as_0 : decode cX11_as 0 = .ok (.aload_n 0, 1) := by decide +kernel
theorem dX11_as_1 : decode cX11_as 1 = .ok (.iload_n 1, 1) := by decide +kernel
theorem dX11_as_2 : decode cX11_as 2 = .ok (.invokevirtual 183, 3) := by decide +kernel
theorem dX11_as_5 : decode cX11_as 5 = .ok (.ifCond .ne 6, 3) := by decide +kernel
theorem dX11_as_8 : decode cX11_as 8 = .ok (.bipush (-101), 2) := by decide +kernel
theorem dX11_as_10 : decode cX11_as 10 = .ok (.ireturn, 1) := by decide +kernel
theorem dX11_as_11 : decode cX11_as 11 = .ok (.iload_n 2, 1) := by decide +kernel
theorem dX11_as_12 : decode cX11_as 12 = .ok (.iconst 0, 1) := by decide +kernel
theorem dX11_as_13 : decode cX11_as 13 = .ok (.iconst 5, 1) := by decide +kernel
theorem dX11_as_14 : decode cX11_as 14 = .ok (.invokestatic 85, 3) := by decide +kernel
theorem dX11_as_17 : decode cX11_as 17 = .ok (.ifCond .ne 6, 3) := by decide +kernel
theorem dX11_as_20 : decode cX11_as 20 = .ok (.bipush (-102), 2) := by decide +kernel
theorem dX11_as_22 : decode cX11_as 22 = .ok (.ireturn, 1) := by decide +kernel
theorem dX11_as_23 : decode cX11_as 23 = .ok (.aload_n 0, 1) := by decide +kernel
theorem dX11_as_24 : decode cX11_as 24 = .ok (.getfield 60, 3) := by decide +kernel
theorem dX11_as_27 : decode cX11_as 27 = .ok (.iload_n 1, 1) := by decide +kernel
theorem dX11_as_28 : decode cX11_as 28 = .ok (.aaload, 1) := by decide +kernel
theorem dX11_as_29 : decode cX11_as 29 = .ok (.iload_n 2, 1) := by decide +kernel
theorem dX11_as_30 : decode cX11_as 30 = .ok (.invokevirtual 186, 3) := by decide +kernel
theorem dX11_as_33 : decode cX11_as 33 = .ok (.ifCond .eq 7, 3) := by decide +kernel
theorem dX11_as_36 : decode cX11_as 36 = .ok (.iload_n 1, 1) := by decide +kernel
theorem dX11_as_37 : decode cX11_as 37 = .ok (.goto 4, 3) := by decide +kernel
theorem dX11_as_40 : decode cX11_as 40 = .ok (.iconst (-1), 1) := by decide +kernel
theorem dX11_as_41 : decode cX11_as 41 = .ok (.ireturn, 1) := by decide +kernel
theorem dX11_thick_0 : decode cX11_thick 0 = .ok (.aload_n 0, 1) := by decide +kernel
theorem dX11_thick_1 : decode cX11_thick 1 = .ok (.iload_n 1, 1) := by decide +kernel
theorem dX11_thick_2 : decode cX11_thick 2 = .ok (.invokevirtual 183, 3) := by decide +kernel
theorem dX11_thick_5 : decode cX11_thick 5 = .ok (.ifCond .eq 11, 3) := by decide +kernel
theorem dX11_thick_8 : decode cX11_thick 8 = .ok (.aload_n 0, 1) := by decide +kernel
theorem dX11_thick_9 : decode cX11_thick 9 = .ok (.iload_n 2, 1) := by decide +kernel
theorem dX11_thick_10 : decode cX11_thick 10 = .ok (.invokevirtual 136, 3) := by decide +kernel
theorem dX11_thick_13 : decode cX11_thick 13 = .ok (.ifCond .ne 6, 3) := by decide +kernel
theorem dX11_thick_16 : decode cX11_thick 16 = .ok (.bipush (-101), 2) := by decide +kernel
theorem dX11_thick_18 : decode cX11_thick 18 = .ok (.ireturn, 1) := by decide +kernel
theorem dX11_thick_19 : decode cX11_thick 19 = .ok (.aload_n 0, 1) := by decide +kernel
theorem dX11_thick_20 : decode cX11_thick 20 = .ok (.getfield 60, 3) := by decide +kernel
theorem dX11_thick_23 : decode cX11_thick 23 = .ok (.iload_n 1, 1) := by decide +kernel
theorem dX11_thick_24 : decode cX11_thick 24 = .ok (.aaload, 1) := by decide +kernel
theorem dX11_thick_25 : decode cX11_thick 25 = .ok (.getfield 189, 3) := by decide +kernel
theorem dX11_thick_28 : decode cX11_thick 28 = .ok (.iload_n 2, 1) := by decide +kernel
theorem dX11_thick_29 : decode cX11_thick 29 = .ok (.iaload, 1) := by decide +kernel
theorem dX11_thick_30 : decode cX11_thick 30 = .ok (.ireturn, 1) := by decide +kernel
theorem dX11_tried_0 : decode cX11_tried 0 = .ok (.aload_n 0, 1) := by decide +kernel
theorem dX11_tried_1 : decode cX11_tried 1 = .ok (.iload_n 1, 1) := by decide +kernel
theorem dX11_tried_2 : decode cX11_tried 2 = .ok (.invokevirtual 125, 3) := by decide +kernel
theorem dX11_tried_5 : decode cX11_tried 5 = .ok (.ifCond .ne 6, 3) := by decide +kernel
theorem dX11_tried_8 : decode cX11_tried 8 = .ok (.bipush (-101), 2) := by decide +kernel
theorem dX11_tried_10 : decode cX11_tried 10 = .ok (.ireturn, 1) := by decide +kernel
theorem dX11_tried_11 : decode cX11_tried 11 = .ok (.aload_n 0, 1) := by decide +kernel
theorem dX11_tried_12 : decode cX11_tried 12 = .ok (.invokevirtual 153, 3) := by decide +kernel
theorem dX11_tried_15 : decode cX11_tried 15 = .ok (.ifCond .ne 6, 3) := by decide +kernel
theorem dX11_tried_18 : decode cX11_tried 18 = .ok (.bipush (-103), 2) := by decide +kernel
theorem dX11_tried_20 : decode cX11_tried 20 = .ok (.ireturn, 1) := by decide +kernel
theorem dX11_tried_21 : decode cX11_tried 21 = .ok (.iload_n 2, 1) := by decide +kernel
theorem dX11_tried_22 : decode cX11_tried 22 = .ok (.iconst 0, 1) := by decide +kernel
theorem dX11_tried_23 : decode cX11_tried 23 = .ok (.bipush 6, 2) := by decide +kernel
theorem dX11_tried_25 : decode cX11_tried 25 = .ok (.invokestatic 85, 3) := by decide +kernel
theorem dX11_tried_28 : decode cX11_tried 28 = .ok (.ifCond .ne 6, 3) := by decide +kernel
theorem dX11_tried_31 : decode cX11_tried 31 = .ok (.bipush (-102), 2) := by decide +kernel
theorem dX11_tried_33 : decode cX11_tried 33 = .ok (.ireturn, 1) := by decide +kernel
theorem dX11_tried_34 : decode cX11_tried 34 = .ok (.aload_n 0, 1) := by decide +kernel
theorem dX11_tried_35 : decode cX11_tried 35 = .ok (.getfield 33, 3) := by decide +kernel
theorem dX11_tried_38 : decode cX11_tried 38 = .ok (.aload_n 0, 1) := by decide +kernel
theorem dX11_tried_39 : decode cX11_tried 39 = .ok (.getfield 45, 3) := by decide +kernel
theorem dX11_tried_42 : decode cX11_tried 42 = .ok (.aload_n 0, 1) := by decide +kernel
theorem dX11_tried_43 : decode cX11_tried 43 = .ok (.getfield 54, 3) := by decide +kernel
theorem dX11_tried_46 : decode cX11_tried 46 = .ok (.iload_n 1, 1) := by decide +kernel
theorem dX11_tried_47 : decode cX11_tried 47 = .ok (.aaload, 1) := by decide +kernel
theorem dX11_tried_48 : decode cX11_tried 48 = .ok (.invokevirtual 192, 3) := by decide +kernel
theorem dX11_tried_51 : decode cX11_tried 51 = .ok (.getfield 181, 3) := by decide +kernel
theorem dX11_tried_54 : decode cX11_tried 54 = .ok (.iload_n 2, 1) := by decide +kernel
theorem dX11_tried_55 : decode cX11_tried 55 = .ok (.iaload, 1) := by decide +kernel
theorem dX11_tried_56 : decode cX11_tried 56 = .ok (.ireturn, 1) := by decide +kernel
theorem dX11_from_0 : decode cX11_from 0 = .ok (.aload_n 0, 1) := by decide +kernel
theorem dX11_from_1 : decode cX11_from 1 = .ok (.iload_n 1, 1) := by decide +kernel
theorem dX11_from_2 : decode cX11_from 2 = .ok (.invokevirtual 125, 3) := by decide +kernel
theorem dX11_from_5 : decode cX11_from 5 = .ok (.ifCond .ne 6, 3) := by decide +kernel
theorem dX11_from_8 : decode cX11_from 8 = .ok (.bipush (-101), 2) := by decide +kernel
theorem dX11_from_10 : decode cX11_from 10 = .ok (.ireturn, 1) := by decide +kernel
theorem dX11_from_11 : decode cX11_from 11 = .ok (.aload_n 0, 1) := by decide +kernel
theorem dX11_from_12 : decode cX11_from 12 = .ok (.invokevirtual 153, 3) := by decide +kernel
theorem dX11_from_15 : decode cX11_from 15 = .ok (.ifCond .eq 23, 3) := by decide +kernel
theorem dX11_from_18 : decode cX11_from 18 = .ok (.aload_n 0, 1) := by decide +kernel
theorem dX11_from_19 : decode cX11_from 19 = .ok (.getfield 33, 3) := by decide +kernel
theorem dX11_from_22 : decode cX11_from 22 = .ok (.aload_n 0, 1) := by decide +kernel
theorem dX11_from_23 : decode cX11_from 23 = .ok (.getfield 45, 3) := by decide +kernel
theorem dX11_from_26 : decode cX11_from 26 = .ok (.aload_n 0, 1) := by decide +kernel
theorem dX11_from_27 : decode cX11_from 27 = .ok (.getfield 54, 3) := by decide +kernel
theorem dX11_from_30 : decode cX11_from 30 = .ok (.iload_n 1, 1) := by decide +kernel
theorem dX11_from_31 : decode cX11_from 31 = .ok (.aaload, 1) := by decide +kernel
theorem dX11_from_32 : decode cX11_from 32 = .ok (.invokevirtual 196, 3) := by decide +kernel
theorem dX11_from_35 : decode cX11_from 35 = .ok (.goto 5, 3) := by decide +kernel
theorem dX11_from_38 : decode cX11_from 38 = .ok (.bipush (-103), 2) := by decide +kernel
theorem dX11_from_40 : decode cX11_from 40 = .ok (.ireturn, 1) := by decide +kernel
theorem dX11_dogs_0 : decode cX11_dogs 0 = .ok (.aload_n 0, 1) := by decide +kernel
theorem dX11_dogs_1 : decode cX11_dogs 1 = .ok (.iload_n 1, 1) := by decide +kernel
theorem dX11_dogs_2 : decode cX11_dogs 2 = .ok (.invokevirtual 125, 3) := by decide +kernel
theorem dX11_dogs_5 : decode cX11_dogs 5 = .ok (.ifCond .ne 6, 3) := by decide +kernel
theorem dX11_dogs_8 : decode cX11_dogs 8 = .ok (.bipush (-101), 2) := by decide +kernel
theorem dX11_dogs_10 : decode cX11_dogs 10 = .ok (.ireturn, 1) := by decide +kernel
theorem dX11_dogs_11 : decode cX11_dogs 11 = .ok (.aload_n 0, 1) := by decide +kernel
theorem dX11_dogs_12 : decode cX11_dogs 12 = .ok (.invokevirtual 153, 3) := by decide +kernel
theorem dX11_dogs_15 : decode cX11_dogs 15 = .ok (.ifCond .eq 23, 3) := by decide +kernel
theorem dX11_dogs_18 : decode cX11_dogs 18 = .ok (.aload_n 0, 1) := by decide +kernel
theorem dX11_dogs_19 : decode cX11_dogs 19 = .ok (.getfield 33, 3) := by decide +kernel
theorem dX11_dogs_22 : decode cX11_dogs 22 = .ok (.aload_n 0, 1) := by decide +kernel
theorem dX11_dogs_23 : decode cX11_dogs 23 = .ok (.getfield 45, 3) := by decide +kernel
theorem dX11_dogs_26 : decode cX11_dogs 26 = .ok (.aload_n 0, 1) := by decide +kernel
theorem dX11_dogs_27 : decode cX11_dogs 27 = .ok (.getfield 54, 3) := by decide +kernel
theorem dX11_dogs_30 : decode cX11_dogs 30 = .ok (.iload_n 1, 1) := by decide +kernel
theorem dX11_dogs_31 : decode cX11_dogs 31 = .ok (.aaload, 1) := by decide +kernel
theorem dX11_dogs_32 : decode cX11_dogs 32 = .ok (.invokevirtual 200, 3) := by decide +kernel
theorem dX11_dogs_35 : decode cX11_dogs 35 = .ok (.goto 5, 3) := by decide +kernel
theorem dX11_dogs_38 : decode cX11_dogs 38 = .ok (.bipush (-103), 2) := by decide +kernel
theorem dX11_dogs_40 : decode cX11_dogs 40 = .ok (.ireturn, 1) := by decide +kernel
theorem dX11_why_0 : decode cX11_why 0 = .ok (.aload_n 0, 1) := by decide +kernel
theorem dX11_why_1 : decode cX11_why 1 = .ok (.iload_n 1, 1) := by decide +kernel
theorem dX11_why_2 : decode cX11_why 2 = .ok (.invokevirtual 125, 3) := by decide +kernel
theorem dX11_why_5 : decode cX11_why 5 = .ok (.ifCond .ne 6, 3) := by decide +kernel
theorem dX11_why_8 : decode cX11_why 8 = .ok (.bipush (-101), 2) := by decide +kernel
theorem dX11_why_10 : decode cX11_why 10 = .ok (.ireturn, 1) := by decide +kernel
theorem dX11_why_11 : decode cX11_why 11 = .ok (.aload_n 0, 1) := by decide +kernel
theorem dX11_why_12 : decode cX11_why 12 = .ok (.invokevirtual 153, 3) := by decide +kernel
theorem dX11_why_15 : decode cX11_why 15 = .ok (.ifCond .eq 23, 3) := by decide +kernel
theorem dX11_why_18 : decode cX11_why 18 = .ok (.aload_n 0, 1) := by decide +kernel
theorem dX11_why_19 : decode cX11_why 19 = .ok (.getfield 33, 3) := by decide +kernel
theorem dX11_why_22 : decode cX11_why 22 = .ok (.aload_n 0, 1) := by decide +kernel
theorem dX11_why_23 : decode cX11_why 23 = .ok (.getfield 45, 3) := by decide +kernel
theorem dX11_why_26 : decode cX11_why 26 = .ok (.aload_n 0, 1) := by decide +kernel
theorem dX11_why_27 : decode cX11_why 27 = .ok (.getfield 54, 3) := by decide +kernel
theorem dX11_why_30 : decode cX11_why 30 = .ok (.iload_n 1, 1) := by decide +kernel
theorem dX11_why_31 : decode cX11_why 31 = .ok (.aaload, 1) := by decide +kernel
theorem dX11_why_32 : decode cX11_why 32 = .ok (.invokevirtual 203, 3) := by decide +kernel
theorem dX11_why_35 : decode cX11_why 35 = .ok (.goto 5, 3) := by decide +kernel
theorem dX11_why_38 : decode cX11_why 38 = .ok (.bipush (-103), 2) := by decide +kernel
theorem dX11_why_40 : decode cX11_why 40 = .ok (.ireturn, 1) := by decide +kernel
theorem dX11_bestFire_0 : decode cX11_bestFire 0 = .ok (.aload_n 0, 1) := by decide +kernel
theorem dX11_bestFire_1 : decode cX11_bestFire 1 = .ok (.iload_n 1, 1) := by decide +kernel
theorem dX11_bestFire_2 : decode cX11_bestFire 2 = .ok (.invokevirtual 125, 3) := by decide +kernel
theorem dX11_bestFire_5 : decode cX11_bestFire 5 = .ok (.ifCond .ne 6, 3) := by decide +kernel
theorem dX11_bestFire_8 : decode cX11_bestFire 8 = .ok (.bipush (-101), 2) := by decide +kernel
theorem dX11_bestFire_10 : decode cX11_bestFire 10 = .ok (.ireturn, 1) := by decide +kernel
theorem dX11_bestFire_11 : decode cX11_bestFire 11 = .ok (.aload_n 0, 1) := by decide +kernel
theorem dX11_bestFire_12 : decode cX11_bestFire 12 = .ok (.invokevirtual 153, 3) := by decide +kernel
theorem dX11_bestFire_15 : decode cX11_bestFire 15 = .ok (.ifCond .ne 6, 3) := by decide +kernel
theorem dX11_bestFire_18 : decode cX11_bestFire 18 = .ok (.bipush (-103), 2) := by decide +kernel
theorem dX11_bestFire_20 : decode cX11_bestFire 20 = .ok (.ireturn, 1) := by decide +kernel
theorem dX11_bestFire_21 : decode cX11_bestFire 21 = .ok (.iload_n 2, 1) := by decide +kernel
theorem dX11_bestFire_22 : decode cX11_bestFire 22 = .ok (.iconst 1, 1) := by decide +kernel
theorem dX11_bestFire_23 : decode cX11_bestFire 23 = .ok (.bipush 12, 2) := by decide +kernel
theorem dX11_bestFire_25 : decode cX11_bestFire 25 = .ok (.invokestatic 85, 3) := by decide +kernel
theorem dX11_bestFire_28 : decode cX11_bestFire 28 = .ok (.ifCond .eq 12, 3) := by decide +kernel
theorem dX11_bestFire_31 : decode cX11_bestFire 31 = .ok (.iload_n 3, 1) := by decide +kernel
theorem dX11_bestFire_32 : decode cX11_bestFire 32 = .ok (.iconst 0, 1) := by decide +kernel
theorem dX11_bestFire_33 : decode cX11_bestFire 33 = .ok (.iconst 1, 1) := by decide +kernel
theorem dX11_bestFire_34 : decode cX11_bestFire 34 = .ok (.invokestatic 85, 3) := by decide +kernel
theorem dX11_bestFire_37 : decode cX11_bestFire 37 = .ok (.ifCond .ne 6, 3) := by decide +kernel
theorem dX11_bestFire_40 : decode cX11_bestFire 40 = .ok (.bipush (-102), 2) := by decide +kernel
theorem dX11_bestFire_42 : decode cX11_bestFire 42 = .ok (.ireturn, 1) := by decide +kernel
theorem dX11_bestFire_43 : decode cX11_bestFire 43 = .ok (.aload_n 0, 1) := by decide +kernel
theorem dX11_bestFire_44 : decode cX11_bestFire 44 = .ok (.getfield 33, 3) := by decide +kernel
theorem dX11_bestFire_47 : decode cX11_bestFire 47 = .ok (.aload_n 0, 1) := by decide +kernel
theorem dX11_bestFire_48 : decode cX11_bestFire 48 = .ok (.getfield 45, 3) := by decide +kernel
theorem dX11_bestFire_51 : decode cX11_bestFire 51 = .ok (.aload_n 0, 1) := by decide +kernel
theorem dX11_bestFire_52 : decode cX11_bestFire 52 = .ok (.getfield 54, 3) := by decide +kernel
theorem dX11_bestFire_55 : decode cX11_bestFire 55 = .ok (.iload_n 1, 1) := by decide +kernel
theorem dX11_bestFire_56 : decode cX11_bestFire 56 = .ok (.aaload, 1) := by decide +kernel
theorem dX11_bestFire_57 : decode cX11_bestFire 57 = .ok (.iload_n 2, 1) := by decide +kernel
theorem dX11_bestFire_58 : decode cX11_bestFire 58 = .ok (.invokevirtual 206, 3) := by decide +kernel
theorem dX11_bestFire_61 : decode cX11_bestFire 61 = .ok (.iload_n 3, 1) := by decide +kernel
theorem dX11_bestFire_62 : decode cX11_bestFire 62 = .ok (.ifCond .ne 13, 3) := by decide +kernel
theorem dX11_bestFire_65 : decode cX11_bestFire 65 = .ok (.aload_n 0, 1) := by decide +kernel
theorem dX11_bestFire_66 : decode cX11_bestFire 66 = .ok (.getfield 33, 3) := by decide +kernel
theorem dX11_bestFire_69 : decode cX11_bestFire 69 = .ok (.getfield 210, 3) := by decide +kernel
theorem dX11_bestFire_72 : decode cX11_bestFire 72 = .ok (.goto 10, 3) := by decide +kernel
theorem dX11_bestFire_75 : decode cX11_bestFire 75 = .ok (.aload_n 0, 1) := by decide +kernel
theorem dX11_bestFire_76 : decode cX11_bestFire 76 = .ok (.getfield 33, 3) := by decide +kernel
theorem dX11_bestFire_79 : decode cX11_bestFire 79 = .ok (.getfield 213, 3) := by decide +kernel
theorem dX11_bestFire_82 : decode cX11_bestFire 82 = .ok (.ireturn, 1) := by decide +kernel
theorem dX11_bestSwing_0 : decode cX11_bestSwing 0 = .ok (.aload_n 0, 1) := by decide +kernel
theorem dX11_bestSwing_1 : decode cX11_bestSwing 1 = .ok (.iload_n 1, 1) := by decide +kernel
theorem dX11_bestSwing_2 : decode cX11_bestSwing 2 = .ok (.invokevirtual 125, 3) := by decide +kernel
theorem dX11_bestSwing_5 : decode cX11_bestSwing 5 = .ok (.ifCond .ne 6, 3) := by decide +kernel
theorem dX11_bestSwing_8 : decode cX11_bestSwing 8 = .ok (.bipush (-101), 2) := by decide +kernel
theorem dX11_bestSwing_10 : decode cX11_bestSwing 10 = .ok (.ireturn, 1) := by decide +kernel
theorem dX11_bestSwing_11 : decode cX11_bestSwing 11 = .ok (.aload_n 0, 1) := by decide +kernel
theorem dX11_bestSwing_12 : decode cX11_bestSwing 12 = .ok (.invokevirtual 153, 3) := by decide +kernel
theorem dX11_bestSwing_15 : decode cX11_bestSwing 15 = .ok (.ifCond .ne 6, 3) := by decide +kernel
theorem dX11_bestSwing_18 : decode cX11_bestSwing 18 = .ok (.bipush (-103), 2) := by decide +kernel
theorem dX11_bestSwing_20 : decode cX11_bestSwing 20 = .ok (.ireturn, 1) := by decide +kernel
theorem dX11_bestSwing_21 : decode cX11_bestSwing 21 = .ok (.iload_n 2, 1) := by decide +kernel
theorem dX11_bestSwing_22 : decode cX11_bestSwing 22 = .ok (.iconst 1, 1) := by decide +kernel
theorem dX11_bestSwing_23 : decode cX11_bestSwing 23 = .ok (.iconst 3, 1) := by decide +kernel
theorem dX11_bestSwing_24 : decode cX11_bestSwing 24 = .ok (.invokestatic 85, 3) := by decide +kernel
theorem dX11_bestSwing_27 : decode cX11_bestSwing 27 = .ok (.ifCond .eq 12, 3) := by decide +kernel
theorem dX11_bestSwing_30 : decode cX11_bestSwing 30 = .ok (.iload_n 3, 1) := by decide +kernel
theorem dX11_bestSwing_31 : decode cX11_bestSwing 31 = .ok (.iconst 0, 1) := by decide +kernel
theorem dX11_bestSwing_32 : decode cX11_bestSwing 32 = .ok (.iconst 3, 1) := by decide +kernel
theorem dX11_bestSwing_33 : decode cX11_bestSwing 33 = .ok (.invokestatic 85, 3) := by decide +kernel
theorem dX11_bestSwing_36 : decode cX11_bestSwing 36 = .ok (.ifCond .ne 6, 3) := by decide +kernel
theorem dX11_bestSwing_39 : decode cX11_bestSwing 39 = .ok (.bipush (-102), 2) := by decide +kernel
theorem dX11_bestSwing_41 : decode cX11_bestSwing 41 = .ok (.ireturn, 1) := by decide +kernel
theorem dX11_bestSwing_42 : decode cX11_bestSwing 42 = .ok (.aload_n 0, 1) := by decide +kernel
theorem dX11_bestSwing_43 : decode cX11_bestSwing 43 = .ok (.getfield 216, 3) := by decide +kernel
theorem dX11_bestSwing_46 : decode cX11_bestSwing 46 = .ok (.bipush 30, 2) := by decide +kernel
theorem dX11_bestSwing_48 : decode cX11_bestSwing 48 = .ok (.if_icmp .lt 6, 3) := by decide +kernel
theorem dX11_bestSwing_51 : decode cX11_bestSwing 51 = .ok (.bipush (-103), 2) := by decide +kernel
theorem dX11_bestSwing_53 : decode cX11_bestSwing 53 = .ok (.ireturn, 1) := by decide +kernel
theorem dX11_bestSwing_54 : decode cX11_bestSwing 54 = .ok (.aload_n 0, 1) := by decide +kernel
theorem dX11_bestSwing_55 : decode cX11_bestSwing 55 = .ok (.dup, 1) := by decide +kernel
theorem dX11_bestSwing_56 : decode cX11_bestSwing 56 = .ok (.getfield 216, 3) := by decide +kernel
theorem dX11_bestSwing_59 : decode cX11_bestSwing 59 = .ok (.iconst 1, 1) := by decide +kernel
theorem dX11_bestSwing_60 : decode cX11_bestSwing 60 = .ok (.iadd, 1) := by decide +kernel
theorem dX11_bestSwing_61 : decode cX11_bestSwing 61 = .ok (.putfield 216, 3) := by decide +kernel
theorem dX11_bestSwing_64 : decode cX11_bestSwing 64 = .ok (.aload_n 0, 1) := by decide +kernel
theorem dX11_bestSwing_65 : decode cX11_bestSwing 65 = .ok (.getfield 33, 3) := by decide +kernel
theorem dX11_bestSwing_68 : decode cX11_bestSwing 68 = .ok (.aload_n 0, 1) := by decide +kernel
theorem dX11_bestSwing_69 : decode cX11_bestSwing 69 = .ok (.getfield 45, 3) := by decide +kernel
theorem dX11_bestSwing_72 : decode cX11_bestSwing 72 = .ok (.aload_n 0, 1) := by decide +kernel
theorem dX11_bestSwing_73 : decode cX11_bestSwing 73 = .ok (.getfield 54, 3) := by decide +kernel
theorem dX11_bestSwing_76 : decode cX11_bestSwing 76 = .ok (.iload_n 1, 1) := by decide +kernel
theorem dX11_bestSwing_77 : decode cX11_bestSwing 77 = .ok (.aaload, 1) := by decide +kernel
theorem dX11_bestSwing_78 : decode cX11_bestSwing 78 = .ok (.iload_n 2, 1) := by decide +kernel
theorem dX11_bestSwing_79 : decode cX11_bestSwing 79 = .ok (.invokevirtual 219, 3) := by decide +kernel
theorem dX11_bestSwing_82 : decode cX11_bestSwing 82 = .ok (.iload_n 3, 1) := by decide +kernel
theorem dX11_bestSwing_83 : decode cX11_bestSwing 83 = .ok (.iconst 3, 1) := by decide +kernel
theorem dX11_bestSwing_84 : decode cX11_bestSwing 84 = .ok (.if_icmp .ne 11, 3) := by decide +kernel
theorem dX11_bestSwing_87 : decode cX11_bestSwing 87 = .ok (.aload_n 0, 1) := by decide +kernel
theorem dX11_bestSwing_88 : decode cX11_bestSwing 88 = .ok (.getfield 33, 3) := by decide +kernel
theorem dX11_bestSwing_91 : decode cX11_bestSwing 91 = .ok (.getfield 213, 3) := by decide +kernel
theorem dX11_bestSwing_94 : decode cX11_bestSwing 94 = .ok (.ireturn, 1) := by decide +kernel
theorem dX11_bestSwing_95 : decode cX11_bestSwing 95 = .ok (.iload_n 3, 1) := by decide +kernel
theorem dX11_bestSwing_96 : decode cX11_bestSwing 96 = .ok (.iload_n 2, 1) := by decide +kernel
theorem dX11_bestSwing_97 : decode cX11_bestSwing 97 = .ok (.if_icmp .ge 18, 3) := by decide +kernel
theorem dX11_bestSwing_100 : decode cX11_bestSwing 100 = .ok (.aload_n 0, 1) := by decide +kernel
theorem dX11_bestSwing_101 : decode cX11_bestSwing 101 = .ok (.getfield 33, 3) := by decide +kernel
theorem dX11_bestSwing_104 : decode cX11_bestSwing 104 = .ok (.getfield 210, 3) := by decide +kernel
theorem dX11_bestSwing_107 : decode cX11_bestSwing 107 = .ok (.iload_n 2, 1) := by decide +kernel
theorem dX11_bestSwing_108 : decode cX11_bestSwing 108 = .ok (.iload_n 3, 1) := by decide +kernel
theorem dX11_bestSwing_109 : decode cX11_bestSwing 109 = .ok (.invokestatic 222, 3) := by decide +kernel
theorem dX11_bestSwing_112 : decode cX11_bestSwing 112 = .ok (.goto 4, 3) := by decide +kernel
theorem dX11_bestSwing_115 : decode cX11_bestSwing 115 = .ok (.iconst (-1), 1) := by decide +kernel
theorem dX11_bestSwing_116 : decode cX11_bestSwing 116 = .ok (.ireturn, 1) := by decide +kernel
theorem dX11_nextTwo_0 : decode cX11_nextTwo 0 = .ok (.aload_n 0, 1) := by decide +kernel
theorem dX11_nextTwo_1 : decode cX11_nextTwo 1 = .ok (.invokevirtual 153, 3) := by decide +kernel
theorem dX11_nextTwo_4 : decode cX11_nextTwo 4 = .ok (.ifCond .eq 10, 3) := by decide +kernel
theorem dX11_nextTwo_7 : decode cX11_nextTwo 7 = .ok (.aload_n 0, 1) := by decide +kernel
theorem dX11_nextTwo_8 : decode cX11_nextTwo 8 = .ok (.getfield 119, 3) := by decide +kernel
theorem dX11_nextTwo_11 : decode cX11_nextTwo 11 = .ok (.ifCond .ne 6, 3) := by decide +kernel
theorem dX11_nextTwo_14 : decode cX11_nextTwo 14 = .ok (.bipush (-103), 2) := by decide +kernel
theorem dX11_nextTwo_16 : decode cX11_nextTwo 16 = .ok (.ireturn, 1) := by decide +kernel
theorem dX11_nextTwo_17 : decode cX11_nextTwo 17 = .ok (.iload_n 1, 1) := by decide +kernel
theorem dX11_nextTwo_18 : decode cX11_nextTwo 18 = .ok (.iconst 0, 1) := by decide +kernel
theorem dX11_nextTwo_19 : decode cX11_nextTwo 19 = .ok (.iconst 2, 1) := by decide +kernel
theorem dX11_nextTwo_20 : decode cX11_nextTwo 20 = .ok (.invokestatic 85, 3) := by decide +kernel
theorem dX11_nextTwo_23 : decode cX11_nextTwo 23 = .ok (.ifCond .ne 6, 3) := by decide +kernel
theorem dX11_nextTwo_26 : decode cX11_nextTwo 26 = .ok (.bipush (-102), 2) := by decide +kernel
theorem dX11_nextTwo_28 : decode cX11_nextTwo 28 = .ok (.ireturn, 1) := by decide +kernel
theorem dX11_nextTwo_29 : decode cX11_nextTwo 29 = .ok (.aload_n 0, 1) := by decide +kernel
theorem dX11_nextTwo_30 : decode cX11_nextTwo 30 = .ok (.getfield 216, 3) := by decide +kernel
theorem dX11_nextTwo_33 : decode cX11_nextTwo 33 = .ok (.bipush 30, 2) := by decide +kernel
theorem dX11_nextTwo_35 : decode cX11_nextTwo 35 = .ok (.if_icmp .lt 6, 3) := by decide +kernel
theorem dX11_nextTwo_38 : decode cX11_nextTwo 38 = .ok (.bipush (-103), 2) := by decide +kernel
theorem dX11_nextTwo_40 : decode cX11_nextTwo 40 = .ok (.ireturn, 1) := by decide +kernel
theorem dX11_nextTwo_41 : decode cX11_nextTwo 41 = .ok (.aload_n 0, 1) := by decide +kernel
theorem dX11_nextTwo_42 : decode cX11_nextTwo 42 = .ok (.dup, 1) := by decide +kernel
theorem dX11_nextTwo_43 : decode cX11_nextTwo 43 = .ok (.getfield 216, 3) := by decide +kernel
theorem dX11_nextTwo_46 : decode cX11_nextTwo 46 = .ok (.iconst 1, 1) := by decide +kernel
theorem dX11_nextTwo_47 : decode cX11_nextTwo 47 = .ok (.iadd, 1) := by decide +kernel
theorem dX11_nextTwo_48 : decode cX11_nextTwo 48 = .ok (.putfield 216, 3) := by decide +kernel
theorem dX11_nextTwo_51 : decode cX11_nextTwo 51 = .ok (.aload_n 0, 1) := by decide +kernel
theorem dX11_nextTwo_52 : decode cX11_nextTwo 52 = .ok (.getfield 33, 3) := by decide +kernel
theorem dX11_nextTwo_55 : decode cX11_nextTwo 55 = .ok (.aload_n 0, 1) := by decide +kernel
theorem dX11_nextTwo_56 : decode cX11_nextTwo 56 = .ok (.getfield 45, 3) := by decide +kernel
theorem dX11_nextTwo_59 : decode cX11_nextTwo 59 = .ok (.aload_n 0, 1) := by decide +kernel
theorem dX11_nextTwo_60 : decode cX11_nextTwo 60 = .ok (.getfield 54, 3) := by decide +kernel
theorem dX11_nextTwo_63 : decode cX11_nextTwo 63 = .ok (.aload_n 0, 1) := by decide +kernel
theorem dX11_nextTwo_64 : decode cX11_nextTwo 64 = .ok (.getfield 119, 3) := by decide +kernel
theorem dX11_nextTwo_67 : decode cX11_nextTwo 67 = .ok (.invokevirtual 226, 3) := by decide +kernel
theorem dX11_nextTwo_70 : decode cX11_nextTwo 70 = .ok (.iload_n 1, 1) := by decide +kernel
theorem dX11_nextTwo_71 : decode cX11_nextTwo 71 = .ok (.iconst 2, 1) := by decide +kernel
theorem dX11_nextTwo_72 : decode cX11_nextTwo 72 = .ok (.if_icmp .ne 11, 3) := by decide +kernel
theorem dX11_nextTwo_75 : decode cX11_nextTwo 75 = .ok (.aload_n 0, 1) := by decide +kernel
theorem dX11_nextTwo_76 : decode cX11_nextTwo 76 = .ok (.getfield 33, 3) := by decide +kernel
theorem dX11_nextTwo_79 : decode cX11_nextTwo 79 = .ok (.getfield 213, 3) := by decide +kernel
theorem dX11_nextTwo_82 : decode cX11_nextTwo 82 = .ok (.ireturn, 1) := by decide +kernel
theorem dX11_nextTwo_83 : decode cX11_nextTwo 83 = .ok (.iload_n 1, 1) := by decide +kernel
theorem dX11_nextTwo_84 : decode cX11_nextTwo 84 = .ok (.ifCond .ne 13, 3) := by decide +kernel
theorem dX11_nextTwo_87 : decode cX11_nextTwo 87 = .ok (.aload_n 0, 1) := by decide +kernel
theorem dX11_nextTwo_88 : decode cX11_nextTwo 88 = .ok (.getfield 33, 3) := by decide +kernel
theorem dX11_nextTwo_91 : decode cX11_nextTwo 91 = .ok (.getfield 210, 3) := by decide +kernel
theorem dX11_nextTwo_94 : decode cX11_nextTwo 94 = .ok (.goto 10, 3) := by decide +kernel
theorem dX11_nextTwo_97 : decode cX11_nextTwo 97 = .ok (.aload_n 0, 1) := by decide +kernel
theorem dX11_nextTwo_98 : decode cX11_nextTwo 98 = .ok (.getfield 33, 3) := by decide +kernel
theorem dX11_nextTwo_101 : decode cX11_nextTwo 101 = .ok (.getfield 230, 3) := by decide +kernel
theorem dX11_nextTwo_104 : decode cX11_nextTwo 104 = .ok (.ireturn, 1) := by decide +kernel
theorem dX11_rounds_0 : decode cX11_rounds 0 = .ok (.iload_n 1, 1) := by decide +kernel
theorem dX11_rounds_1 : decode cX11_rounds 1 = .ok (.iconst 1, 1) := by decide +kernel
theorem dX11_rounds_2 : decode cX11_rounds 2 = .ok (.bipush 9, 2) := by decide +kernel
theorem dX11_rounds_4 : decode cX11_rounds 4 = .ok (.invokestatic 85, 3) := by decide +kernel
theorem dX11_rounds_7 : decode cX11_rounds 7 = .ok (.ifCond .eq 56, 3) := by decide +kernel
theorem dX11_rounds_10 : decode cX11_rounds 10 = .ok (.iload_n 2, 1) := by decide +kernel
theorem dX11_rounds_11 : decode cX11_rounds 11 = .ok (.iconst 1, 1) := by decide +kernel
theorem dX11_rounds_12 : decode cX11_rounds 12 = .ok (.bipush 99, 2) := by decide +kernel
theorem dX11_rounds_14 : decode cX11_rounds 14 = .ok (.invokestatic 85, 3) := by decide +kernel
theorem dX11_rounds_17 : decode cX11_rounds 17 = .ok (.ifCond .eq 46, 3) := by decide +kernel
theorem dX11_rounds_20 : decode cX11_rounds 20 = .ok (.iload_n 3, 1) := by decide +kernel
theorem dX11_rounds_21 : decode cX11_rounds 21 = .ok (.iconst 1, 1) := by decide +kernel
theorem dX11_rounds_22 : decode cX11_rounds 22 = .ok (.bipush 99, 2) := by decide +kernel
theorem dX11_rounds_24 : decode cX11_rounds 24 = .ok (.invokestatic 85, 3) := by decide +kernel
theorem dX11_rounds_27 : decode cX11_rounds 27 = .ok (.ifCond .eq 36, 3) := by decide +kernel
theorem dX11_rounds_30 : decode cX11_rounds 30 = .ok (.iload 4, 2) := by decide +kernel
theorem dX11_rounds_32 : decode cX11_rounds 32 = .ok (.iconst 1, 1) := by decide +kernel
theorem dX11_rounds_33 : decode cX11_rounds 33 = .ok (.bipush 9, 2) := by decide +kernel
theorem dX11_rounds_35 : decode cX11_rounds 35 = .ok (.invokestatic 85, 3) := by decide +kernel
theorem dX11_rounds_38 : decode cX11_rounds 38 = .ok (.ifCond .eq 25, 3) := by decide +kernel
theorem dX11_rounds_41 : decode cX11_rounds 41 = .ok (.iload 5, 2) := by decide +kernel
theorem dX11_rounds_43 : decode cX11_rounds 43 = .ok (.iconst 0, 1) := by decide +kernel
theorem dX11_rounds_44 : decode cX11_rounds 44 = .ok (.sipush 999, 3) := by decide +kernel
theorem dX11_rounds_47 : decode cX11_rounds 47 = .ok (.invokestatic 85, 3) := by decide +kernel
theorem dX11_rounds_50 : decode cX11_rounds 50 = .ok (.ifCond .eq 13, 3) := by decide +kernel
theorem dX11_rounds_53 : decode cX11_rounds 53 = .ok (.iload 6, 2) := by decide +kernel
theorem dX11_rounds_55 : decode cX11_rounds 55 = .ok (.iconst 0, 1) := by decide +kernel
theorem dX11_rounds_56 : decode cX11_rounds 56 = .ok (.iconst 1, 1) := by decide +kernel
theorem dX11_rounds_57 : decode cX11_rounds 57 = .ok (.invokestatic 85, 3) := by decide +kernel
theorem dX11_rounds_60 : decode cX11_rounds 60 = .ok (.ifCond .ne 6, 3) := by decide +kernel
theorem dX11_rounds_63 : decode cX11_rounds 63 = .ok (.bipush (-102), 2) := by decide +kernel
theorem dX11_rounds_65 : decode cX11_rounds 65 = .ok (.ireturn, 1) := by decide +kernel
theorem dX11_rounds_66 : decode cX11_rounds 66 = .ok (.aload_n 0, 1) := by decide +kernel
theorem dX11_rounds_67 : decode cX11_rounds 67 = .ok (.getfield 67, 3) := by decide +kernel
theorem dX11_rounds_70 : decode cX11_rounds 70 = .ok (.iload_n 1, 1) := by decide +kernel
theorem dX11_rounds_71 : decode cX11_rounds 71 = .ok (.iload_n 2, 1) := by decide +kernel
theorem dX11_rounds_72 : decode cX11_rounds 72 = .ok (.iload_n 3, 1) := by decide +kernel
theorem dX11_rounds_73 : decode cX11_rounds 73 = .ok (.iload 4, 2) := by decide +kernel
theorem dX11_rounds_75 : decode cX11_rounds 75 = .ok (.iload 5, 2) := by decide +kernel
theorem dX11_rounds_77 : decode cX11_rounds 77 = .ok (.invokevirtual 233, 3) := by decide +kernel
theorem dX11_rounds_80 : decode cX11_rounds 80 = .ok (.iload 6, 2) := by decide +kernel
theorem dX11_rounds_82 : decode cX11_rounds 82 = .ok (.ifCond .ne 13, 3) := by decide +kernel
theorem dX11_rounds_85 : decode cX11_rounds 85 = .ok (.aload_n 0, 1) := by decide +kernel
theorem dX11_rounds_86 : decode cX11_rounds 86 = .ok (.getfield 67, 3) := by decide +kernel
theorem dX11_rounds_89 : decode cX11_rounds 89 = .ok (.getfield 237, 3) := by decide +kernel
theorem dX11_rounds_92 : decode cX11_rounds 92 = .ok (.goto 10, 3) := by decide +kernel
theorem dX11_rounds_95 : decode cX11_rounds 95 = .ok (.aload_n 0, 1) := by decide +kernel
theorem dX11_rounds_96 : decode cX11_rounds 96 = .ok (.getfield 67, 3) := by decide +kernel
theorem dX11_rounds_99 : decode cX11_rounds 99 = .ok (.getfield 240, 3) := by decide +kernel
theorem dX11_rounds_102 : decode cX11_rounds 102 = .ok (.ireturn, 1) := by decide +kernel
theorem dX11_toss_0 : decode cX11_toss 0 = .ok (.iload_n 1, 1) := by decide +kernel
theorem dX11_toss_1 : decode cX11_toss 1 = .ok (.iconst 1, 1) := by decide +kernel
theorem dX11_toss_2 : decode cX11_toss 2 = .ok (.bipush 30, 2) := by decide +kernel
theorem dX11_toss_4 : decode cX11_toss 4 = .ok (.invokestatic 85, 3) := by decide +kernel
theorem dX11_toss_7 : decode cX11_toss 7 = .ok (.ifCond .eq 13, 3) := by decide +kernel
theorem dX11_toss_10 : decode cX11_toss 10 = .ok (.iload_n 2, 1) := by decide +kernel
theorem dX11_toss_11 : decode cX11_toss 11 = .ok (.iconst 1, 1) := by decide +kernel
theorem dX11_toss_12 : decode cX11_toss 12 = .ok (.bipush 30, 2) := by decide +kernel
theorem dX11_toss_14 : decode cX11_toss 14 = .ok (.invokestatic 85, 3) := by decide +kernel
theorem dX11_toss_17 : decode cX11_toss 17 = .ok (.ifCond .ne 6, 3) := by decide +kernel
theorem dX11_toss_20 : decode cX11_toss 20 = .ok (.bipush (-102), 2) := by decide +kernel
theorem dX11_toss_22 : decode cX11_toss 22 = .ok (.ireturn, 1) := by decide +kernel
theorem dX11_toss_23 : decode cX11_toss 23 = .ok (.iload_n 1, 1) := by decide +kernel
theorem dX11_toss_24 : decode cX11_toss 24 = .ok (.iload_n 2, 1) := by decide +kernel
theorem dX11_toss_25 : decode cX11_toss 25 = .ok (.invokestatic 243, 3) := by decide +kernel
theorem dX11_toss_28 : decode cX11_toss 28 = .ok (.ifCond .eq 7, 3) := by decide +kernel
theorem dX11_toss_31 : decode cX11_toss 31 = .ok (.iconst 1, 1) := by decide +kernel
theorem dX11_toss_32 : decode cX11_toss 32 = .ok (.goto 4, 3) := by decide +kernel
theorem dX11_toss_35 : decode cX11_toss 35 = .ok (.iconst 0, 1) := by decide +kernel
theorem dX11_toss_36 : decode cX11_toss 36 = .ok (.ireturn, 1) := by decide +kernel
theorem dX11_lands_0 : decode cX11_lands 0 = .ok (.iload_n 1, 1) := by decide +kernel
theorem dX11_lands_1 : decode cX11_lands 1 = .ok (.iconst 1, 1) := by decide +kernel
theorem dX11_lands_2 : decode cX11_lands 2 = .ok (.bipush 30, 2) := by decide +kernel
theorem dX11_lands_4 : decode cX11_lands 4 = .ok (.invokestatic 85, 3) := by decide +kernel
theorem dX11_lands_7 : decode cX11_lands 7 = .ok (.ifCond .eq 33, 3) := by decide +kernel
theorem dX11_lands_10 : decode cX11_lands 10 = .ok (.iload_n 2, 1) := by decide +kernel
theorem dX11_lands_11 : decode cX11_lands 11 = .ok (.iconst 1, 1) := by decide +kernel
theorem dX11_lands_12 : decode cX11_lands 12 = .ok (.bipush 30, 2) := by decide +kernel
theorem dX11_lands_14 : decode cX11_lands 14 = .ok (.invokestatic 85, 3) := by decide +kernel
theorem dX11_lands_17 : decode cX11_lands 17 = .ok (.ifCond .eq 23, 3) := by decide +kernel
theorem dX11_lands_20 : decode cX11_lands 20 = .ok (.iload_n 3, 1) := by decide +kernel
theorem dX11_lands_21 : decode cX11_lands 21 = .ok (.iconst 0, 1) := by decide +kernel
theorem dX11_lands_22 : decode cX11_lands 22 = .ok (.bipush 9, 2) := by decide +kernel
theorem dX11_lands_24 : decode cX11_lands 24 = .ok (.invokestatic 85, 3) := by decide +kernel
theorem dX11_lands_27 : decode cX11_lands 27 = .ok (.ifCond .eq 13, 3) := by decide +kernel
theorem dX11_lands_30 : decode cX11_lands 30 = .ok (.iload 4, 2) := by decide +kernel
theorem dX11_lands_32 : decode cX11_lands 32 = .ok (.iconst 0, 1) := by decide +kernel
theorem dX11_lands_33 : decode cX11_lands 33 = .ok (.iconst 1, 1) := by decide +kernel
theorem dX11_lands_34 : decode cX11_lands 34 = .ok (.invokestatic 85, 3) := by decide +kernel
theorem dX11_lands_37 : decode cX11_lands 37 = .ok (.ifCond .ne 6, 3) := by decide +kernel
theorem dX11_lands_40 : decode cX11_lands 40 = .ok (.bipush (-102), 2) := by decide +kernel
theorem dX11_lands_42 : decode cX11_lands 42 = .ok (.ireturn, 1) := by decide +kernel
theorem dX11_lands_43 : decode cX11_lands 43 = .ok (.iload_n 1, 1) := by decide +kernel
theorem dX11_lands_44 : decode cX11_lands 44 = .ok (.iload_n 2, 1) := by decide +kernel
theorem dX11_lands_45 : decode cX11_lands 45 = .ok (.iload_n 3, 1) := by decide +kernel
theorem dX11_lands_46 : decode cX11_lands 46 = .ok (.invokestatic 249, 3) := by decide +kernel
theorem dX11_lands_49 : decode cX11_lands 49 = .ok (.istore 5, 2) := by decide +kernel
theorem dX11_lands_51 : decode cX11_lands 51 = .ok (.iload_n 1, 1) := by decide +kernel
theorem dX11_lands_52 : decode cX11_lands 52 = .ok (.iload_n 3, 1) := by decide +kernel
theorem dX11_lands_53 : decode cX11_lands 53 = .ok (.invokestatic 252, 3) := by decide +kernel
theorem dX11_lands_56 : decode cX11_lands 56 = .ok (.istore 6, 2) := by decide +kernel
theorem dX11_lands_58 : decode cX11_lands 58 = .ok (.iconst 1, 1) := by decide +kernel
theorem dX11_lands_59 : decode cX11_lands 59 = .ok (.iload 5, 2) := by decide +kernel
theorem dX11_lands_61 : decode cX11_lands 61 = .ok (.iload 6, 2) := by decide +kernel
theorem dX11_lands_63 : decode cX11_lands 63 = .ok (.invokestatic 255, 3) := by decide +kernel
theorem dX11_lands_66 : decode cX11_lands 66 = .ok (.invokestatic 161, 3) := by decide +kernel
theorem dX11_lands_69 : decode cX11_lands 69 = .ok (.istore 7, 2) := by decide +kernel
theorem dX11_lands_71 : decode cX11_lands 71 = .ok (.iload 4, 2) := by decide +kernel
theorem dX11_lands_73 : decode cX11_lands 73 = .ok (.ifCond .ne 8, 3) := by decide +kernel
theorem dX11_lands_76 : decode cX11_lands 76 = .ok (.iload 5, 2) := by decide +kernel
theorem dX11_lands_78 : decode cX11_lands 78 = .ok (.goto 5, 3) := by decide +kernel
theorem dX11_lands_81 : decode cX11_lands 81 = .ok (.iload 6, 2) := by decide +kernel
theorem dX11_lands_83 : decode cX11_lands 83 = .ok (.iload 7, 2) := by decide +kernel
theorem dX11_lands_85 : decode cX11_lands 85 = .ok (.idiv, 1) := by decide +kernel
theorem dX11_lands_86 : decode cX11_lands 86 = .ok (.ireturn, 1) := by decide +kernel
theorem dX11_bestSpin_0 : decode cX11_bestSpin 0 = .ok (.iload_n 1, 1) := by decide +kernel
theorem dX11_bestSpin_1 : decode cX11_bestSpin 1 = .ok (.iconst 1, 1) := by decide +kernel
theorem dX11_bestSpin_2 : decode cX11_bestSpin 2 = .ok (.bipush 30, 2) := by decide +kernel
theorem dX11_bestSpin_4 : decode cX11_bestSpin 4 = .ok (.invokestatic 85, 3) := by decide +kernel
theorem dX11_bestSpin_7 : decode cX11_bestSpin 7 = .ok (.ifCond .eq 13, 3) := by decide +kernel
theorem dX11_bestSpin_10 : decode cX11_bestSpin 10 = .ok (.iload_n 2, 1) := by decide +kernel
theorem dX11_bestSpin_11 : decode cX11_bestSpin 11 = .ok (.iconst 0, 1) := by decide +kernel
theorem dX11_bestSpin_12 : decode cX11_bestSpin 12 = .ok (.bipush 9, 2) := by decide +kernel
theorem dX11_bestSpin_14 : decode cX11_bestSpin 14 = .ok (.invokestatic 85, 3) := by decide +kernel
theorem dX11_bestSpin_17 : decode cX11_bestSpin 17 = .ok (.ifCond .ne 6, 3) := by decide +kernel
theorem dX11_bestSpin_20 : decode cX11_bestSpin 20 = .ok (.bipush (-102), 2) := by decide +kernel
theorem dX11_bestSpin_22 : decode cX11_bestSpin 22 = .ok (.ireturn, 1) := by decide +kernel
theorem dX11_bestSpin_23 : decode cX11_bestSpin 23 = .ok (.iload_n 1, 1) := by decide +kernel
theorem dX11_bestSpin_24 : decode cX11_bestSpin 24 = .ok (.iload_n 2, 1) := by decide +kernel
theorem dX11_bestSpin_25 : decode cX11_bestSpin 25 = .ok (.invokestatic 258, 3) := by decide +kernel
theorem dX11_bestSpin_28 : decode cX11_bestSpin 28 = .ok (.ireturn, 1) := by decide +kernel
theorem dX11_image_0 : decode cX11_image 0 = .ok (.aload_n 0, 1) := by decide +kernel
theorem dX11_image_1 : decode cX11_image 1 = .ok (.invokevirtual 153, 3) := by decide +kernel
theorem dX11_image_4 : decode cX11_image 4 = .ok (.ifCond .ne 6, 3) := by decide +kernel
theorem dX11_image_7 : decode cX11_image 7 = .ok (.bipush (-103), 2) := by decide +kernel
theorem dX11_image_9 : decode cX11_image 9 = .ok (.ireturn, 1) := by decide +kernel
theorem dX11_image_10 : decode cX11_image 10 = .ok (.aload_n 0, 1) := by decide +kernel
theorem dX11_image_11 : decode cX11_image 11 = .ok (.getfield 49, 3) := by decide +kernel
theorem dX11_image_14 : decode cX11_image 14 = .ok (.aload_n 0, 1) := by decide +kernel
theorem dX11_image_15 : decode cX11_image 15 = .ok (.getfield 45, 3) := by decide +kernel
theorem dX11_image_18 : decode cX11_image 18 = .ok (.invokevirtual 261, 3) := by decide +kernel
theorem dX11_image_21 : decode cX11_image 21 = .ok (.aload_n 0, 1) := by decide +kernel
theorem dX11_image_22 : decode cX11_image 22 = .ok (.aload_n 0, 1) := by decide +kernel
theorem dX11_image_23 : decode cX11_image 23 = .ok (.getfield 106, 3) := by decide +kernel
theorem dX11_image_26 : decode cX11_image 26 = .ok (.putfield 264, 3) := by decide +kernel
theorem dX11_image_29 : decode cX11_image 29 = .ok (.aload_n 0, 1) := by decide +kernel
theorem dX11_image_30 : decode cX11_image 30 = .ok (.iconst 1, 1) := by decide +kernel
theorem dX11_image_31 : decode cX11_image 31 = .ok (.putfield 109, 3) := by decide +kernel
theorem dX11_image_34 : decode cX11_image 34 = .ok (.aload_n 0, 1) := by decide +kernel
theorem dX11_image_35 : decode cX11_image 35 = .ok (.getfield 264, 3) := by decide +kernel
theorem dX11_image_38 : decode cX11_image 38 = .ok (.ireturn, 1) := by decide +kernel
theorem dX11_restore_0 : decode cX11_restore 0 = .ok (.aload_n 0, 1) := by decide +kernel
theorem dX11_restore_1 : decode cX11_restore 1 = .ok (.getfield 109, 3) := by decide +kernel
theorem dX11_restore_4 : decode cX11_restore 4 = .ok (.ifCond .ne 6, 3) := by decide +kernel
theorem dX11_restore_7 : decode cX11_restore 7 = .ok (.bipush (-103), 2) := by decide +kernel
theorem dX11_restore_9 : decode cX11_restore 9 = .ok (.ireturn, 1) := by decide +kernel
theorem dX11_restore_10 : decode cX11_restore 10 = .ok (.aload_n 0, 1) := by decide +kernel
theorem dX11_restore_11 : decode cX11_restore 11 = .ok (.getfield 45, 3) := by decide +kernel
theorem dX11_restore_14 : decode cX11_restore 14 = .ok (.aload_n 0, 1) := by decide +kernel
theorem dX11_restore_15 : decode cX11_restore 15 = .ok (.getfield 49, 3) := by decide +kernel
theorem dX11_restore_18 : decode cX11_restore 18 = .ok (.invokevirtual 261, 3) := by decide +kernel
theorem dX11_restore_21 : decode cX11_restore 21 = .ok (.aload_n 0, 1) := by decide +kernel
theorem dX11_restore_22 : decode cX11_restore 22 = .ok (.aload_n 0, 1) := by decide +kernel
theorem dX11_restore_23 : decode cX11_restore 23 = .ok (.getfield 264, 3) := by decide +kernel
theorem dX11_restore_26 : decode cX11_restore 26 = .ok (.putfield 106, 3) := by decide +kernel
theorem dX11_restore_29 : decode cX11_restore 29 = .ok (.aload_n 0, 1) := by decide +kernel
theorem dX11_restore_30 : decode cX11_restore 30 = .ok (.getfield 106, 3) := by decide +kernel
theorem dX11_restore_33 : decode cX11_restore 33 = .ok (.ireturn, 1) := by decide +kernel
theorem dX11_count_0 : decode cX11_count 0 = .ok (.iload_n 1, 1) := by decide +kernel
theorem dX11_count_1 : decode cX11_count 1 = .ok (.tableswitch 108 0 8 #[51, 59, 64, 69, 77, 85, 93, 98, 103], 51) := by decide +kernel
theorem dX11_count_52 : decode cX11_count 52 = .ok (.aload_n 0, 1) := by decide +kernel
theorem dX11_count_53 : decode cX11_count 53 = .ok (.getfield 41, 3) := by decide +kernel
theorem dX11_count_56 : decode cX11_count 56 = .ok (.getfield 116, 3) := by decide +kernel
theorem dX11_count_59 : decode cX11_count 59 = .ok (.ireturn, 1) := by decide +kernel
theorem dX11_count_60 : decode cX11_count 60 = .ok (.aload_n 0, 1) := by decide +kernel
theorem dX11_count_61 : decode cX11_count 61 = .ok (.getfield 119, 3) := by decide +kernel
theorem dX11_count_64 : decode cX11_count 64 = .ok (.ireturn, 1) := by decide +kernel
theorem dX11_count_65 : decode cX11_count 65 = .ok (.aload_n 0, 1) := by decide +kernel
theorem dX11_count_66 : decode cX11_count 66 = .ok (.getfield 106, 3) := by decide +kernel
theorem dX11_count_69 : decode cX11_count 69 = .ok (.ireturn, 1) := by decide +kernel
theorem dX11_count_70 : decode cX11_count 70 = .ok (.aload_n 0, 1) := by decide +kernel
theorem dX11_count_71 : decode cX11_count 71 = .ok (.getfield 10, 3) := by decide +kernel
theorem dX11_count_74 : decode cX11_count 74 = .ok (.getfield 77, 3) := by decide +kernel
theorem dX11_count_77 : decode cX11_count 77 = .ok (.ireturn, 1) := by decide +kernel
theorem dX11_count_78 : decode cX11_count 78 = .ok (.aload_n 0, 1) := by decide +kernel
theorem dX11_count_79 : decode cX11_count 79 = .ok (.getfield 45, 3) := by decide +kernel
theorem dX11_count_82 : decode cX11_count 82 = .ok (.getfield 167, 3) := by decide +kernel
theorem dX11_count_85 : decode cX11_count 85 = .ok (.ireturn, 1) := by decide +kernel
theorem dX11_count_86 : decode cX11_count 86 = .ok (.aload_n 0, 1) := by decide +kernel
theorem dX11_count_87 : decode cX11_count 87 = .ok (.getfield 45, 3) := by decide +kernel
theorem dX11_count_90 : decode cX11_count 90 = .ok (.invokevirtual 170, 3) := by decide +kernel
theorem dX11_count_93 : decode cX11_count 93 = .ok (.ireturn, 1) := by decide +kernel
theorem dX11_count_94 : decode cX11_count 94 = .ok (.aload_n 0, 1) := by decide +kernel
theorem dX11_count_95 : decode cX11_count 95 = .ok (.getfield 113, 3) := by decide +kernel
theorem dX11_count_98 : decode cX11_count 98 = .ok (.ireturn, 1) := by decide +kernel
theorem dX11_count_99 : decode cX11_count 99 = .ok (.aload_n 0, 1) := by decide +kernel
theorem dX11_count_100 : decode cX11_count 100 = .ok (.getfield 216, 3) := by decide +kernel
theorem dX11_count_103 : decode cX11_count 103 = .ok (.ireturn, 1) := by decide +kernel
theorem dX11_count_104 : decode cX11_count 104 = .ok (.aload_n 0, 1) := by decide +kernel
theorem dX11_count_105 : decode cX11_count 105 = .ok (.invokevirtual 267, 3) := by decide +kernel
theorem dX11_count_108 : decode cX11_count 108 = .ok (.ireturn, 1) := by decide +kernel
theorem dX11_count_109 : decode cX11_count 109 = .ok (.bipush (-102), 2) := by decide +kernel
theorem dX11_count_111 : decode cX11_count 111 = .ok (.ireturn, 1) := by decide +kernel
theorem dX11_digest_0 : decode cX11_digest 0 = .ok (.aload_n 0, 1) := by decide +kernel
theorem dX11_digest_1 : decode cX11_digest 1 = .ok (.ldc2_w 270, 3) := by decide +kernel
theorem dX11_digest_4 : decode cX11_digest 4 = .ok (.invokevirtual 272, 3) := by decide +kernel
theorem dX11_digest_7 : decode cX11_digest 7 = .ok (.lstore_n 1, 1) := by decide +kernel
theorem dX11_digest_8 : decode cX11_digest 8 = .ok (.aload_n 0, 1) := by decide +kernel
theorem dX11_digest_9 : decode cX11_digest 9 = .ok (.lload_n 1, 1) := by decide +kernel
theorem dX11_digest_10 : decode cX11_digest 10 = .ok (.invokevirtual 276, 3) := by decide +kernel
theorem dX11_digest_13 : decode cX11_digest 13 = .ok (.lstore_n 1, 1) := by decide +kernel
theorem dX11_digest_14 : decode cX11_digest 14 = .ok (.aload_n 0, 1) := by decide +kernel
theorem dX11_digest_15 : decode cX11_digest 15 = .ok (.lload_n 1, 1) := by decide +kernel
theorem dX11_digest_16 : decode cX11_digest 16 = .ok (.invokevirtual 279, 3) := by decide +kernel
theorem dX11_digest_19 : decode cX11_digest 19 = .ok (.lstore_n 1, 1) := by decide +kernel
theorem dX11_digest_20 : decode cX11_digest 20 = .ok (.aload_n 0, 1) := by decide +kernel
theorem dX11_digest_21 : decode cX11_digest 21 = .ok (.lload_n 1, 1) := by decide +kernel
theorem dX11_digest_22 : decode cX11_digest 22 = .ok (.invokevirtual 282, 3) := by decide +kernel
theorem dX11_digest_25 : decode cX11_digest 25 = .ok (.lstore_n 1, 1) := by decide +kernel
theorem dX11_digest_26 : decode cX11_digest 26 = .ok (.iconst 0, 1) := by decide +kernel
theorem dX11_digest_27 : decode cX11_digest 27 = .ok (.istore_n 3, 1) := by decide +kernel
theorem dX11_digest_28 : decode cX11_digest 28 = .ok (.iload_n 3, 1) := by decide +kernel
theorem dX11_digest_29 : decode cX11_digest 29 = .ok (.aload_n 0, 1) := by decide +kernel
theorem dX11_digest_30 : decode cX11_digest 30 = .ok (.getfield 10, 3) := by decide +kernel
theorem dX11_digest_33 : decode cX11_digest 33 = .ok (.getfield 77, 3) := by decide +kernel
theorem dX11_digest_36 : decode cX11_digest 36 = .ok (.if_icmp .ge 24, 3) := by decide +kernel
theorem dX11_digest_39 : decode cX11_digest 39 = .ok (.lload_n 1, 1) := by decide +kernel
theorem dX11_digest_40 : decode cX11_digest 40 = .ok (.aload_n 0, 1) := by decide +kernel
theorem dX11_digest_41 : decode cX11_digest 41 = .ok (.getfield 10, 3) := by decide +kernel
theorem dX11_digest_44 : decode cX11_digest 44 = .ok (.getfield 285, 3) := by decide +kernel
theorem dX11_digest_47 : decode cX11_digest 47 = .ok (.iload_n 3, 1) := by decide +kernel
theorem dX11_digest_48 : decode cX11_digest 48 = .ok (.iaload, 1) := by decide +kernel
theorem dX11_digest_49 : decode cX11_digest 49 = .ok (.i2l, 1) := by decide +kernel
theorem dX11_digest_50 : decode cX11_digest 50 = .ok (.invokestatic 288, 3) := by decide +kernel
theorem dX11_digest_53 : decode cX11_digest 53 = .ok (.lstore_n 1, 1) := by decide +kernel
theorem dX11_digest_54 : decode cX11_digest 54 = .ok (.iinc 3 1, 3) := by decide +kernel
theorem dX11_digest_57 : decode cX11_digest 57 = .ok (.goto (-29), 3) := by decide +kernel
theorem dX11_digest_60 : decode cX11_digest 60 = .ok (.iconst 0, 1) := by decide +kernel
theorem dX11_digest_61 : decode cX11_digest 61 = .ok (.istore_n 3, 1) := by decide +kernel
theorem dX11_digest_62 : decode cX11_digest 62 = .ok (.iload_n 3, 1) := by decide +kernel
theorem dX11_digest_63 : decode cX11_digest 63 = .ok (.bipush 8, 2) := by decide +kernel
theorem dX11_digest_65 : decode cX11_digest 65 = .ok (.if_icmp .gt 20, 3) := by decide +kernel
theorem dX11_digest_68 : decode cX11_digest 68 = .ok (.lload_n 1, 1) := by decide +kernel
theorem dX11_digest_69 : decode cX11_digest 69 = .ok (.aload_n 0, 1) := by decide +kernel
theorem dX11_digest_70 : decode cX11_digest 70 = .ok (.iload_n 3, 1) := by decide +kernel
theorem dX11_digest_71 : decode cX11_digest 71 = .ok (.invokevirtual 292, 3) := by decide +kernel
theorem dX11_digest_74 : decode cX11_digest 74 = .ok (.i2l, 1) := by decide +kernel
theorem dX11_digest_75 : decode cX11_digest 75 = .ok (.invokestatic 288, 3) := by decide +kernel
theorem dX11_digest_78 : decode cX11_digest 78 = .ok (.lstore_n 1, 1) := by decide +kernel
theorem dX11_digest_79 : decode cX11_digest 79 = .ok (.iinc 3 1, 3) := by decide +kernel
theorem dX11_digest_82 : decode cX11_digest 82 = .ok (.goto (-20), 3) := by decide +kernel
theorem dX11_digest_85 : decode cX11_digest 85 = .ok (.lload_n 1, 1) := by decide +kernel
theorem dX11_digest_86 : decode cX11_digest 86 = .ok (.lreturn, 1) := by decide +kernel
theorem dX11_digestOfCells_0 : decode cX11_digestOfCells 0 = .ok (.lload_n 1, 1) := by decide +kernel
theorem dX11_digestOfCells_1 : decode cX11_digestOfCells 1 = .ok (.lstore_n 3, 1) := by decide +kernel
theorem dX11_digestOfCells_2 : decode cX11_digestOfCells 2 = .ok (.iconst 0, 1) := by decide +kernel
theorem dX11_digestOfCells_3 : decode cX11_digestOfCells 3 = .ok (.istore 5, 2) := by decide +kernel
theorem dX11_digestOfCells_5 : decode cX11_digestOfCells 5 = .ok (.iload 5, 2) := by decide +kernel
theorem dX11_digestOfCells_7 : decode cX11_digestOfCells 7 = .ok (.aload_n 0, 1) := by decide +kernel
theorem dX11_digestOfCells_8 : decode cX11_digestOfCells 8 = .ok (.getfield 41, 3) := by decide +kernel
theorem dX11_digestOfCells_11 : decode cX11_digestOfCells 11 = .ok (.getfield 116, 3) := by decide +kernel
theorem dX11_digestOfCells_14 : decode cX11_digestOfCells 14 = .ok (.if_icmp .ge 38, 3) := by decide +kernel
theorem dX11_digestOfCells_17 : decode cX11_digestOfCells 17 = .ok (.iconst 0, 1) := by decide +kernel
theorem dX11_digestOfCells_18 : decode cX11_digestOfCells 18 = .ok (.istore 6, 2) := by decide +kernel
theorem dX11_digestOfCells_20 : decode cX11_digestOfCells 20 = .ok (.iload 6, 2) := by decide +kernel
theorem dX11_digestOfCells_22 : decode cX11_digestOfCells 22 = .ok (.iconst 3, 1) := by decide +kernel
theorem dX11_digestOfCells_23 : decode cX11_digestOfCells 23 = .ok (.if_icmp .gt 23, 3) := by decide +kernel
theorem dX11_digestOfCells_26 : decode cX11_digestOfCells 26 = .ok (.lload_n 3, 1) := by decide +kernel
theorem dX11_digestOfCells_27 : decode cX11_digestOfCells 27 = .ok (.aload_n 0, 1) := by decide +kernel
theorem dX11_digestOfCells_28 : decode cX11_digestOfCells 28 = .ok (.iload 5, 2) := by decide +kernel
theorem dX11_digestOfCells_30 : decode cX11_digestOfCells 30 = .ok (.iload 6, 2) := by decide +kernel
theorem dX11_digestOfCells_32 : decode cX11_digestOfCells 32 = .ok (.invokevirtual 295, 3) := by decide +kernel
theorem dX11_digestOfCells_35 : decode cX11_digestOfCells 35 = .ok (.i2l, 1) := by decide +kernel
theorem dX11_digestOfCells_36 : decode cX11_digestOfCells 36 = .ok (.invokestatic 288, 3) := by decide +kernel
theorem dX11_digestOfCells_39 : decode cX11_digestOfCells 39 = .ok (.lstore_n 3, 1) := by decide +kernel
theorem dX11_digestOfCells_40 : decode cX11_digestOfCells 40 = .ok (.iinc 6 1, 3) := by decide +kernel
theorem dX11_digestOfCells_43 : decode cX11_digestOfCells 43 = .ok (.goto (-23), 3) := by decide +kernel
theorem dX11_digestOfCells_46 : decode cX11_digestOfCells 46 = .ok (.iinc 5 1, 3) := by decide +kernel
theorem dX11_digestOfCells_49 : decode cX11_digestOfCells 49 = .ok (.goto (-44), 3) := by decide +kernel
theorem dX11_digestOfCells_52 : decode cX11_digestOfCells 52 = .ok (.lload_n 3, 1) := by decide +kernel
theorem dX11_digestOfCells_53 : decode cX11_digestOfCells 53 = .ok (.lreturn, 1) := by decide +kernel
theorem dX11_digestOfPlans_0 : decode cX11_digestOfPlans 0 = .ok (.lload_n 1, 1) := by decide +kernel
theorem dX11_digestOfPlans_1 : decode cX11_digestOfPlans 1 = .ok (.lstore_n 3, 1) := by decide +kernel
theorem dX11_digestOfPlans_2 : decode cX11_digestOfPlans 2 = .ok (.iconst 0, 1) := by decide +kernel
theorem dX11_digestOfPlans_3 : decode cX11_digestOfPlans 3 = .ok (.istore 5, 2) := by decide +kernel
theorem dX11_digestOfPlans_5 : decode cX11_digestOfPlans 5 = .ok (.iload 5, 2) := by decide +kernel
theorem dX11_digestOfPlans_7 : decode cX11_digestOfPlans 7 = .ok (.aload_n 0, 1) := by decide +kernel
theorem dX11_digestOfPlans_8 : decode cX11_digestOfPlans 8 = .ok (.getfield 119, 3) := by decide +kernel
theorem dX11_digestOfPlans_11 : decode cX11_digestOfPlans 11 = .ok (.if_icmp .ge 84, 3) := by decide +kernel
theorem dX11_digestOfPlans_14 : decode cX11_digestOfPlans 14 = .ok (.iconst 0, 1) := by decide +kernel
theorem dX11_digestOfPlans_15 : decode cX11_digestOfPlans 15 = .ok (.istore 6, 2) := by decide +kernel
theorem dX11_digestOfPlans_17 : decode cX11_digestOfPlans 17 = .ok (.iload 6, 2) := by decide +kernel
theorem dX11_digestOfPlans_19 : decode cX11_digestOfPlans 19 = .ok (.iconst 4, 1) := by decide +kernel
theorem dX11_digestOfPlans_20 : decode cX11_digestOfPlans 20 = .ok (.if_icmp .gt 27, 3) := by decide +kernel
theorem dX11_digestOfPlans_23 : decode cX11_digestOfPlans 23 = .ok (.lload_n 3, 1) := by decide +kernel
theorem dX11_digestOfPlans_24 : decode cX11_digestOfPlans 24 = .ok (.aload_n 0, 1) := by decide +kernel
theorem dX11_digestOfPlans_25 : decode cX11_digestOfPlans 25 = .ok (.getfield 54, 3) := by decide +kernel
theorem dX11_digestOfPlans_28 : decode cX11_digestOfPlans 28 = .ok (.iload 5, 2) := by decide +kernel
theorem dX11_digestOfPlans_30 : decode cX11_digestOfPlans 30 = .ok (.aaload, 1) := by decide +kernel
theorem dX11_digestOfPlans_31 : decode cX11_digestOfPlans 31 = .ok (.iload 6, 2) := by decide +kernel
theorem dX11_digestOfPlans_33 : decode cX11_digestOfPlans 33 = .ok (.invokevirtual 133, 3) := by decide +kernel
theorem dX11_digestOfPlans_36 : decode cX11_digestOfPlans 36 = .ok (.i2l, 1) := by decide +kernel
theorem dX11_digestOfPlans_37 : decode cX11_digestOfPlans 37 = .ok (.invokestatic 288, 3) := by decide +kernel
theorem dX11_digestOfPlans_40 : decode cX11_digestOfPlans 40 = .ok (.lstore_n 3, 1) := by decide +kernel
theorem dX11_digestOfPlans_41 : decode cX11_digestOfPlans 41 = .ok (.iinc 6 1, 3) := by decide +kernel
theorem dX11_digestOfPlans_44 : decode cX11_digestOfPlans 44 = .ok (.goto (-27), 3) := by decide +kernel
theorem dX11_digestOfPlans_47 : decode cX11_digestOfPlans 47 = .ok (.iconst 0, 1) := by decide +kernel
theorem dX11_digestOfPlans_48 : decode cX11_digestOfPlans 48 = .ok (.istore 6, 2) := by decide +kernel
theorem dX11_digestOfPlans_50 : decode cX11_digestOfPlans 50 = .ok (.iload 6, 2) := by decide +kernel
theorem dX11_digestOfPlans_52 : decode cX11_digestOfPlans 52 = .ok (.aload_n 0, 1) := by decide +kernel
theorem dX11_digestOfPlans_53 : decode cX11_digestOfPlans 53 = .ok (.getfield 54, 3) := by decide +kernel
theorem dX11_digestOfPlans_56 : decode cX11_digestOfPlans 56 = .ok (.iload 5, 2) := by decide +kernel
theorem dX11_digestOfPlans_58 : decode cX11_digestOfPlans 58 = .ok (.aaload, 1) := by decide +kernel
theorem dX11_digestOfPlans_59 : decode cX11_digestOfPlans 59 = .ok (.getfield 298, 3) := by decide +kernel
theorem dX11_digestOfPlans_62 : decode cX11_digestOfPlans 62 = .ok (.if_icmp .ge 27, 3) := by decide +kernel
theorem dX11_digestOfPlans_65 : decode cX11_digestOfPlans 65 = .ok (.lload_n 3, 1) := by decide +kernel
theorem dX11_digestOfPlans_66 : decode cX11_digestOfPlans 66 = .ok (.aload_n 0, 1) := by decide +kernel
theorem dX11_digestOfPlans_67 : decode cX11_digestOfPlans 67 = .ok (.getfield 54, 3) := by decide +kernel
theorem dX11_digestOfPlans_70 : decode cX11_digestOfPlans 70 = .ok (.iload 5, 2) := by decide +kernel
theorem dX11_digestOfPlans_72 : decode cX11_digestOfPlans 72 = .ok (.aaload, 1) := by decide +kernel
theorem dX11_digestOfPlans_73 : decode cX11_digestOfPlans 73 = .ok (.iload 6, 2) := by decide +kernel
theorem dX11_digestOfPlans_75 : decode cX11_digestOfPlans 75 = .ok (.invokevirtual 129, 3) := by decide +kernel
theorem dX11_digestOfPlans_78 : decode cX11_digestOfPlans 78 = .ok (.i2l, 1) := by decide +kernel
theorem dX11_digestOfPlans_79 : decode cX11_digestOfPlans 79 = .ok (.invokestatic 288, 3) := by decide +kernel
theorem dX11_digestOfPlans_82 : decode cX11_digestOfPlans 82 = .ok (.lstore_n 3, 1) := by decide +kernel
theorem dX11_digestOfPlans_83 : decode cX11_digestOfPlans 83 = .ok (.iinc 6 1, 3) := by decide +kernel
theorem dX11_digestOfPlans_86 : decode cX11_digestOfPlans 86 = .ok (.goto (-36), 3) := by decide +kernel
theorem dX11_digestOfPlans_89 : decode cX11_digestOfPlans 89 = .ok (.iinc 5 1, 3) := by decide +kernel
theorem dX11_digestOfPlans_92 : decode cX11_digestOfPlans 92 = .ok (.goto (-87), 3) := by decide +kernel
theorem dX11_digestOfPlans_95 : decode cX11_digestOfPlans 95 = .ok (.lload_n 3, 1) := by decide +kernel
theorem dX11_digestOfPlans_96 : decode cX11_digestOfPlans 96 = .ok (.lreturn, 1) := by decide +kernel
theorem dX11_digestOfCakes_0 : decode cX11_digestOfCakes 0 = .ok (.lload_n 1, 1) := by decide +kernel
theorem dX11_digestOfCakes_1 : decode cX11_digestOfCakes 1 = .ok (.lstore_n 3, 1) := by decide +kernel
theorem dX11_digestOfCakes_2 : decode cX11_digestOfCakes 2 = .ok (.iconst 0, 1) := by decide +kernel
theorem dX11_digestOfCakes_3 : decode cX11_digestOfCakes 3 = .ok (.istore 5, 2) := by decide +kernel
theorem dX11_digestOfCakes_5 : decode cX11_digestOfCakes 5 = .ok (.iload 5, 2) := by decide +kernel
theorem dX11_digestOfCakes_7 : decode cX11_digestOfCakes 7 = .ok (.aload_n 0, 1) := by decide +kernel
theorem dX11_digestOfCakes_8 : decode cX11_digestOfCakes 8 = .ok (.getfield 106, 3) := by decide +kernel
theorem dX11_digestOfCakes_11 : decode cX11_digestOfCakes 11 = .ok (.if_icmp .ge 84, 3) := by decide +kernel
theorem dX11_digestOfCakes_14 : decode cX11_digestOfCakes 14 = .ok (.iconst 0, 1) := by decide +kernel
theorem dX11_digestOfCakes_15 : decode cX11_digestOfCakes 15 = .ok (.istore 6, 2) := by decide +kernel
theorem dX11_digestOfCakes_17 : decode cX11_digestOfCakes 17 = .ok (.iload 6, 2) := by decide +kernel
theorem dX11_digestOfCakes_19 : decode cX11_digestOfCakes 19 = .ok (.bipush 6, 2) := by decide +kernel
theorem dX11_digestOfCakes_21 : decode cX11_digestOfCakes 21 = .ok (.if_icmp .gt 28, 3) := by decide +kernel
theorem dX11_digestOfCakes_24 : decode cX11_digestOfCakes 24 = .ok (.lload_n 3, 1) := by decide +kernel
theorem dX11_digestOfCakes_25 : decode cX11_digestOfCakes 25 = .ok (.aload_n 0, 1) := by decide +kernel
theorem dX11_digestOfCakes_26 : decode cX11_digestOfCakes 26 = .ok (.getfield 60, 3) := by decide +kernel
theorem dX11_digestOfCakes_29 : decode cX11_digestOfCakes 29 = .ok (.iload 5, 2) := by decide +kernel
theorem dX11_digestOfCakes_31 : decode cX11_digestOfCakes 31 = .ok (.aaload, 1) := by decide +kernel
theorem dX11_digestOfCakes_32 : decode cX11_digestOfCakes 32 = .ok (.getfield 181, 3) := by decide +kernel
theorem dX11_digestOfCakes_35 : decode cX11_digestOfCakes 35 = .ok (.iload 6, 2) := by decide +kernel
theorem dX11_digestOfCakes_37 : decode cX11_digestOfCakes 37 = .ok (.iaload, 1) := by decide +kernel
theorem dX11_digestOfCakes_38 : decode cX11_digestOfCakes 38 = .ok (.i2l, 1) := by decide +kernel
theorem dX11_digestOfCakes_39 : decode cX11_digestOfCakes 39 = .ok (.invokestatic 288, 3) := by decide +kernel
theorem dX11_digestOfCakes_42 : decode cX11_digestOfCakes 42 = .ok (.lstore_n 3, 1) := by decide +kernel
theorem dX11_digestOfCakes_43 : decode cX11_digestOfCakes 43 = .ok (.iinc 6 1, 3) := by decide +kernel
theorem dX11_digestOfCakes_46 : decode cX11_digestOfCakes 46 = .ok (.goto (-29), 3) := by decide +kernel
theorem dX11_digestOfCakes_49 : decode cX11_digestOfCakes 49 = .ok (.iconst 0, 1) := by decide +kernel
theorem dX11_digestOfCakes_50 : decode cX11_digestOfCakes 50 = .ok (.istore 6, 2) := by decide +kernel
theorem dX11_digestOfCakes_52 : decode cX11_digestOfCakes 52 = .ok (.iload 6, 2) := by decide +kernel
theorem dX11_digestOfCakes_54 : decode cX11_digestOfCakes 54 = .ok (.aload_n 0, 1) := by decide +kernel
theorem dX11_digestOfCakes_55 : decode cX11_digestOfCakes 55 = .ok (.getfield 41, 3) := by decide +kernel
theorem dX11_digestOfCakes_58 : decode cX11_digestOfCakes 58 = .ok (.getfield 116, 3) := by decide +kernel
theorem dX11_digestOfCakes_61 : decode cX11_digestOfCakes 61 = .ok (.if_icmp .ge 28, 3) := by decide +kernel
theorem dX11_digestOfCakes_64 : decode cX11_digestOfCakes 64 = .ok (.lload_n 3, 1) := by decide +kernel
theorem dX11_digestOfCakes_65 : decode cX11_digestOfCakes 65 = .ok (.aload_n 0, 1) := by decide +kernel
theorem dX11_digestOfCakes_66 : decode cX11_digestOfCakes 66 = .ok (.getfield 60, 3) := by decide +kernel
theorem dX11_digestOfCakes_69 : decode cX11_digestOfCakes 69 = .ok (.iload 5, 2) := by decide +kernel
theorem dX11_digestOfCakes_71 : decode cX11_digestOfCakes 71 = .ok (.aaload, 1) := by decide +kernel
theorem dX11_digestOfCakes_72 : decode cX11_digestOfCakes 72 = .ok (.getfield 189, 3) := by decide +kernel
theorem dX11_digestOfCakes_75 : decode cX11_digestOfCakes 75 = .ok (.iload 6, 2) := by decide +kernel
theorem dX11_digestOfCakes_77 : decode cX11_digestOfCakes 77 = .ok (.iaload, 1) := by decide +kernel
theorem dX11_digestOfCakes_78 : decode cX11_digestOfCakes 78 = .ok (.i2l, 1) := by decide +kernel
theorem dX11_digestOfCakes_79 : decode cX11_digestOfCakes 79 = .ok (.invokestatic 288, 3) := by decide +kernel
theorem dX11_digestOfCakes_82 : decode cX11_digestOfCakes 82 = .ok (.lstore_n 3, 1) := by decide +kernel
theorem dX11_digestOfCakes_83 : decode cX11_digestOfCakes 83 = .ok (.iinc 6 1, 3) := by decide +kernel
theorem dX11_digestOfCakes_86 : decode cX11_digestOfCakes 86 = .ok (.goto (-34), 3) := by decide +kernel
theorem dX11_digestOfCakes_89 : decode cX11_digestOfCakes 89 = .ok (.iinc 5 1, 3) := by decide +kernel
theorem dX11_digestOfCakes_92 : decode cX11_digestOfCakes 92 = .ok (.goto (-87), 3) := by decide +kernel
theorem dX11_digestOfCakes_95 : decode cX11_digestOfCakes 95 = .ok (.lload_n 3, 1) := by decide +kernel
theorem dX11_digestOfCakes_96 : decode cX11_digestOfCakes 96 = .ok (.lreturn, 1) := by decide +kernel
theorem dX11_digestOfTried_0 : decode cX11_digestOfTried 0 = .ok (.lload_n 1, 1) := by decide +kernel
theorem dX11_digestOfTried_1 : decode cX11_digestOfTried 1 = .ok (.lstore_n 3, 1) := by decide +kernel
theorem dX11_digestOfTried_2 : decode cX11_digestOfTried 2 = .ok (.aload_n 0, 1) := by decide +kernel
theorem dX11_digestOfTried_3 : decode cX11_digestOfTried 3 = .ok (.invokevirtual 153, 3) := by decide +kernel
theorem dX11_digestOfTried_6 : decode cX11_digestOfTried 6 = .ok (.ifCond .ne 5, 3) := by decide +kernel
theorem dX11_digestOfTried_9 : decode cX11_digestOfTried 9 = .ok (.lload_n 3, 1) := by decide +kernel
theorem dX11_digestOfTried_10 : decode cX11_digestOfTried 10 = .ok (.lreturn, 1) := by decide +kernel
theorem dX11_digestOfTried_11 : decode cX11_digestOfTried 11 = .ok (.iconst 0, 1) := by decide +kernel
theorem dX11_digestOfTried_12 : decode cX11_digestOfTried 12 = .ok (.istore 5, 2) := by decide +kernel
theorem dX11_digestOfTried_14 : decode cX11_digestOfTried 14 = .ok (.iload 5, 2) := by decide +kernel
theorem dX11_digestOfTried_16 : decode cX11_digestOfTried 16 = .ok (.aload_n 0, 1) := by decide +kernel
theorem dX11_digestOfTried_17 : decode cX11_digestOfTried 17 = .ok (.getfield 119, 3) := by decide +kernel
theorem dX11_digestOfTried_20 : decode cX11_digestOfTried 20 = .ok (.if_icmp .ge 55, 3) := by decide +kernel
theorem dX11_digestOfTried_23 : decode cX11_digestOfTried 23 = .ok (.aload_n 0, 1) := by decide +kernel
theorem dX11_digestOfTried_24 : decode cX11_digestOfTried 24 = .ok (.getfield 33, 3) := by decide +kernel
theorem dX11_digestOfTried_27 : decode cX11_digestOfTried 27 = .ok (.aload_n 0, 1) := by decide +kernel
theorem dX11_digestOfTried_28 : decode cX11_digestOfTried 28 = .ok (.getfield 45, 3) := by decide +kernel
theorem dX11_digestOfTried_31 : decode cX11_digestOfTried 31 = .ok (.aload_n 0, 1) := by decide +kernel
theorem dX11_digestOfTried_32 : decode cX11_digestOfTried 32 = .ok (.getfield 54, 3) := by decide +kernel
theorem dX11_digestOfTried_35 : decode cX11_digestOfTried 35 = .ok (.iload 5, 2) := by decide +kernel
theorem dX11_digestOfTried_37 : decode cX11_digestOfTried 37 = .ok (.aaload, 1) := by decide +kernel
theorem dX11_digestOfTried_38 : decode cX11_digestOfTried 38 = .ok (.invokevirtual 192, 3) := by decide +kernel
theorem dX11_digestOfTried_41 : decode cX11_digestOfTried 41 = .ok (.astore 6, 2) := by decide +kernel
theorem dX11_digestOfTried_43 : decode cX11_digestOfTried 43 = .ok (.lload_n 3, 1) := by decide +kernel
theorem dX11_digestOfTried_44 : decode cX11_digestOfTried 44 = .ok (.aload 6, 2) := by decide +kernel
theorem dX11_digestOfTried_46 : decode cX11_digestOfTried 46 = .ok (.getfield 181, 3) := by decide +kernel
theorem dX11_digestOfTried_49 : decode cX11_digestOfTried 49 = .ok (.iconst 0, 1) := by decide +kernel
theorem dX11_digestOfTried_50 : decode cX11_digestOfTried 50 = .ok (.iaload, 1) := by decide +kernel
theorem dX11_digestOfTried_51 : decode cX11_digestOfTried 51 = .ok (.i2l, 1) := by decide +kernel
theorem dX11_digestOfTried_52 : decode cX11_digestOfTried 52 = .ok (.invokestatic 288, 3) := by decide +kernel
theorem dX11_digestOfTried_55 : decode cX11_digestOfTried 55 = .ok (.lstore_n 3, 1) := by decide +kernel
theorem dX11_digestOfTried_56 : decode cX11_digestOfTried 56 = .ok (.lload_n 3, 1) := by decide +kernel
theorem dX11_digestOfTried_57 : decode cX11_digestOfTried 57 = .ok (.aload 6, 2) := by decide +kernel
theorem dX11_digestOfTried_59 : decode cX11_digestOfTried 59 = .ok (.getfield 181, 3) := by decide +kernel
theorem dX11_digestOfTried_62 : decode cX11_digestOfTried 62 = .ok (.iconst 1, 1) := by decide +kernel
theorem dX11_digestOfTried_63 : decode cX11_digestOfTried 63 = .ok (.iaload, 1) := by decide +kernel
theorem dX11_digestOfTried_64 : decode cX11_digestOfTried 64 = .ok (.i2l, 1) := by decide +kernel
theorem dX11_digestOfTried_65 : decode cX11_digestOfTried 65 = .ok (.invokestatic 288, 3) := by decide +kernel
theorem dX11_digestOfTried_68 : decode cX11_digestOfTried 68 = .ok (.lstore_n 3, 1) := by decide +kernel
theorem dX11_digestOfTried_69 : decode cX11_digestOfTried 69 = .ok (.iinc 5 1, 3) := by decide +kernel
theorem dX11_digestOfTried_72 : decode cX11_digestOfTried 72 = .ok (.goto (-58), 3) := by decide +kernel
theorem dX11_digestOfTried_75 : decode cX11_digestOfTried 75 = .ok (.lload_n 3, 1) := by decide +kernel
theorem dX11_digestOfTried_76 : decode cX11_digestOfTried 76 = .ok (.lreturn, 1) := by decide +kernel
theorem dX11_worthTogether_0 : decode cX11_worthTogether 0 = .ok (.iconst 0, 1) := by decide +kernel
theorem dX11_worthTogether_1 : decode cX11_worthTogether 1 = .ok (.istore_n 1, 1) := by decide +kernel
theorem dX11_worthTogether_2 : decode cX11_worthTogether 2 = .ok (.iconst 0, 1) := by decide +kernel
theorem dX11_worthTogether_3 : decode cX11_worthTogether 3 = .ok (.istore_n 2, 1) := by decide +kernel
theorem dX11_worthTogether_4 : decode cX11_worthTogether 4 = .ok (.iload_n 2, 1) := by decide +kernel
theorem dX11_worthTogether_5 : decode cX11_worthTogether 5 = .ok (.aload_n 0, 1) := by decide +kernel
theorem dX11_worthTogether_6 : decode cX11_worthTogether 6 = .ok (.getfield 106, 3) := by decide +kernel
theorem dX11_worthTogether_9 : decode cX11_worthTogether 9 = .ok (.if_icmp .ge 24, 3) := by decide +kernel
theorem dX11_worthTogether_12 : decode cX11_worthTogether 12 = .ok (.iload_n 1, 1) := by decide +kernel
theorem dX11_worthTogether_13 : decode cX11_worthTogether 13 = .ok (.aload_n 0, 1) := by decide +kernel
theorem dX11_worthTogether_14 : decode cX11_worthTogether 14 = .ok (.getfield 60, 3) := by decide +kernel
theorem dX11_worthTogether_17 : decode cX11_worthTogether 17 = .ok (.iload_n 2, 1) := by decide +kernel
theorem dX11_worthTogether_18 : decode cX11_worthTogether 18 = .ok (.aaload, 1) := by decide +kernel
theorem dX11_worthTogether_19 : decode cX11_worthTogether 19 = .ok (.getfield 181, 3) := by decide +kernel
theorem dX11_worthTogether_22 : decode cX11_worthTogether 22 = .ok (.bipush 6, 2) := by decide +kernel
theorem dX11_worthTogether_24 : decode cX11_worthTogether 24 = .ok (.iaload, 1) := by decide +kernel
theorem dX11_worthTogether_25 : decode cX11_worthTogether 25 = .ok (.iadd, 1) := by decide +kernel
theorem dX11_worthTogether_26 : decode cX11_worthTogether 26 = .ok (.istore_n 1, 1) := by decide +kernel
theorem dX11_worthTogether_27 : decode cX11_worthTogether 27 = .ok (.iinc 2 1, 3) := by decide +kernel
theorem dX11_worthTogether_30 : decode cX11_worthTogether 30 = .ok (.goto (-26), 3) := by decide +kernel
theorem dX11_worthTogether_33 : decode cX11_worthTogether 33 = .ok (.iload_n 1, 1) := by decide +kernel
theorem dX11_worthTogether_34 : decode cX11_worthTogether 34 = .ok (.ireturn, 1) := by decide +kernel
theorem dX11_hasPan_0 : decode cX11_hasPan 0 = .ok (.aload_n 0, 1) := by decide +kernel
theorem dX11_hasPan_1 : decode cX11_hasPan 1 = .ok (.getfield 41, 3) := by decide +kernel
theorem dX11_hasPan_4 : decode cX11_hasPan 4 = .ok (.getfield 116, 3) := by decide +kernel
theorem dX11_hasPan_7 : decode cX11_hasPan 7 = .ok (.ifCond .le 7, 3) := by decide +kernel
theorem dX11_hasPan_10 : decode cX11_hasPan 10 = .ok (.iconst 1, 1) := by decide +kernel
theorem dX11_hasPan_11 : decode cX11_hasPan 11 = .ok (.goto 4, 3) := by decide +kernel
theorem dX11_hasPan_14 : decode cX11_hasPan 14 = .ok (.iconst 0, 1) := by decide +kernel
theorem dX11_hasPan_15 : decode cX11_hasPan 15 = .ok (.ireturn, 1) := by decide +kernel
theorem dX11_isPlan_0 : decode cX11_isPlan 0 = .ok (.iload_n 1, 1) := by decide +kernel
theorem dX11_isPlan_1 : decode cX11_isPlan 1 = .ok (.iconst 0, 1) := by decide +kernel
theorem dX11_isPlan_2 : decode cX11_isPlan 2 = .ok (.aload_n 0, 1) := by decide +kernel
theorem dX11_isPlan_3 : decode cX11_isPlan 3 = .ok (.getfield 119, 3) := by decide +kernel
theorem dX11_isPlan_6 : decode cX11_isPlan 6 = .ok (.iconst 1, 1) := by decide +kernel
theorem dX11_isPlan_7 : decode cX11_isPlan 7 = .ok (.isub, 1) := by decide +kernel
theorem dX11_isPlan_8 : decode cX11_isPlan 8 = .ok (.invokestatic 85, 3) := by decide +kernel
theorem dX11_isPlan_11 : decode cX11_isPlan 11 = .ok (.ireturn, 1) := by decide +kernel
theorem dX11_isCell_0 : decode cX11_isCell 0 = .ok (.iload_n 1, 1) := by decide +kernel
theorem dX11_isCell_1 : decode cX11_isCell 1 = .ok (.iconst 0, 1) := by decide +kernel
theorem dX11_isCell_2 : decode cX11_isCell 2 = .ok (.aload_n 0, 1) := by decide +kernel
theorem dX11_isCell_3 : decode cX11_isCell 3 = .ok (.getfield 41, 3) := by decide +kernel
theorem dX11_isCell_6 : decode cX11_isCell 6 = .ok (.getfield 116, 3) := by decide +kernel
theorem dX11_isCell_9 : decode cX11_isCell 9 = .ok (.iconst 1, 1) := by decide +kernel
theorem dX11_isCell_10 : decode cX11_isCell 10 = .ok (.isub, 1) := by decide +kernel
theorem dX11_isCell_11 : decode cX11_isCell 11 = .ok (.invokestatic 85, 3) := by decide +kernel
theorem dX11_isCell_14 : decode cX11_isCell 14 = .ok (.ireturn, 1) := by decide +kernel
theorem dX11_isCake_0 : decode cX11_isCake 0 = .ok (.iload_n 1, 1) := by decide +kernel
theorem dX11_isCake_1 : decode cX11_isCake 1 = .ok (.iconst 0, 1) := by decide +kernel
theorem dX11_isCake_2 : decode cX11_isCake 2 = .ok (.aload_n 0, 1) := by decide +kernel
theorem dX11_isCake_3 : decode cX11_isCake 3 = .ok (.getfield 106, 3) := by decide +kernel
theorem dX11_isCake_6 : decode cX11_isCake 6 = .ok (.iconst 1, 1) := by decide +kernel
theorem dX11_isCake_7 : decode cX11_isCake 7 = .ok (.isub, 1) := by decide +kernel
theorem dX11_isCake_8 : decode cX11_isCake 8 = .ok (.invokestatic 85, 3) := by decide +kernel
theorem dX11_isCake_11 : decode cX11_isCake 11 = .ok (.ireturn, 1) := by decide +kernel
theorem dX11_within_0 : decode cX11_within 0 = .ok (.iload_n 0, 1) := by decide +kernel
theorem dX11_within_1 : decode cX11_within 1 = .ok (.iload_n 1, 1) := by decide +kernel
theorem dX11_within_2 : decode cX11_within 2 = .ok (.if_icmp .lt 12, 3) := by decide +kernel
theorem dX11_within_5 : decode cX11_within 5 = .ok (.iload_n 0, 1) := by decide +kernel
theorem dX11_within_6 : decode cX11_within 6 = .ok (.iload_n 2, 1) := by decide +kernel
theorem dX11_within_7 : decode cX11_within 7 = .ok (.if_icmp .gt 7, 3) := by decide +kernel
theorem dX11_within_10 : decode cX11_within 10 = .ok (.iconst 1, 1) := by decide +kernel
theorem dX11_within_11 : decode cX11_within 11 = .ok (.goto 4, 3) := by decide +kernel
theorem dX11_within_14 : decode cX11_within 14 = .ok (.iconst 0, 1) := by decide +kernel
theorem dX11_within_15 : decode cX11_within 15 = .ok (.ireturn, 1) := by decide +kernel
theorem dX11_mixed_0 : decode cX11_mixed 0 = .ok (.ldc2_w 301, 3) := by decide +kernel
theorem dX11_mixed_3 : decode cX11_mixed 3 = .ok (.lload_n 0, 1) := by decide +kernel
theorem dX11_mixed_4 : decode cX11_mixed 4 = .ok (.lmul, 1) := by decide +kernel
theorem dX11_mixed_5 : decode cX11_mixed 5 = .ok (.lload_n 2, 1) := by decide +kernel
theorem dX11_mixed_6 : decode cX11_mixed 6 = .ok (.ladd, 1) := by decide +kernel
theorem dX11_mixed_7 : decode cX11_mixed 7 = .ok (.lreturn, 1) := by decide +kernel
theorem dL_law_0 : decode cL_law 0 = .ok (.new 7, 3) := by decide +kernel
theorem dL_law_3 : decode cL_law 3 = .ok (.dup, 1) := by decide +kernel
theorem dL_law_4 : decode cL_law 4 = .ok (.invokespecial 9, 3) := by decide +kernel
theorem dL_law_7 : decode cL_law 7 = .ok (.astore_n 1, 1) := by decide +kernel
theorem dL_law_8 : decode cL_law 8 = .ok (.new 10, 3) := by decide +kernel
theorem dL_law_11 : decode cL_law 11 = .ok (.dup, 1) := by decide +kernel
theorem dL_law_12 : decode cL_law 12 = .ok (.invokespecial 12, 3) := by decide +kernel
theorem dL_law_15 : decode cL_law 15 = .ok (.astore_n 2, 1) := by decide +kernel
theorem dL_law_16 : decode cL_law 16 = .ok (.iconst 0, 1) := by decide +kernel
theorem dL_law_17 : decode cL_law 17 = .ok (.istore_n 3, 1) := by decide +kernel
theorem dL_law_18 : decode cL_law 18 = .ok (.iload_n 3, 1) := by decide +kernel
theorem dL_law_19 : decode cL_law 19 = .ok (.aload_n 0, 1) := by decide +kernel
theorem dL_law_20 : decode cL_law 20 = .ok (.arraylength, 1) := by decide +kernel
theorem dL_law_21 : decode cL_law 21 = .ok (.bipush 7, 2) := by decide +kernel
theorem dL_law_23 : decode cL_law 23 = .ok (.isub, 1) := by decide +kernel
theorem dL_law_24 : decode cL_law 24 = .ok (.if_icmp .gt 986, 3) := by decide +kernel
theorem dL_law_27 : decode cL_law 27 = .ok (.aload_n 0, 1) := by decide +kernel
theorem dL_law_28 : decode cL_law 28 = .ok (.iload_n 3, 1) := by decide +kernel
theorem dL_law_29 : decode cL_law 29 = .ok (.iaload, 1) := by decide +kernel
theorem dL_law_30 : decode cL_law 30 = .ok (.bipush 31, 2) := by decide +kernel
theorem dL_law_32 : decode cL_law 32 = .ok (.iand, 1) := by decide +kernel
theorem dL_law_33 : decode cL_law 33 = .ok (.tableswitch 971 0 28 #[131, 184, 197, 220, 233, 246, 279, 312, 345, 368, 381, 404, 437, 470, 503, 536, 559, 582, 605, 648, 691, 714, 789, 822, 875, 908, 921, 934, 957], 131) := by decide +kernel
theorem dL_law_164 : decode cL_law 164 = .ok (.aload_n 1, 1) := by decide +kernel
theorem dL_law_165 : decode cL_law 165 = .ok (.aload_n 0, 1) := by decide +kernel
theorem dL_law_166 : decode cL_law 166 = .ok (.iload_n 3, 1) := by decide +kernel
theorem dL_law_167 : decode cL_law 167 = .ok (.iconst 1, 1) := by decide +kernel
theorem dL_law_168 : decode cL_law 168 = .ok (.iadd, 1) := by decide +kernel
theorem dL_law_169 : decode cL_law 169 = .ok (.iaload, 1) := by decide +kernel
theorem dL_law_170 : decode cL_law 170 = .ok (.i2l, 1) := by decide +kernel
theorem dL_law_171 : decode cL_law 171 = .ok (.bipush 32, 2) := by decide +kernel
theorem dL_law_173 : decode cL_law 173 = .ok (.lshl, 1) := by decide +kernel
theorem dL_law_174 : decode cL_law 174 = .ok (.aload_n 0, 1) := by decide +kernel
theorem dL_law_175 : decode cL_law 175 = .ok (.iload_n 3, 1) := by decide +kernel
theorem dL_law_176 : decode cL_law 176 = .ok (.iconst 2, 1) := by decide +kernel
theorem dL_law_177 : decode cL_law 177 = .ok (.iadd, 1) := by decide +kernel
theorem dL_law_178 : decode cL_law 178 = .ok (.iaload, 1) := by decide +kernel
theorem dL_law_179 : decode cL_law 179 = .ok (.i2l, 1) := by decide +kernel
theorem dL_law_180 : decode cL_law 180 = .ok (.ldc2_w 13, 3) := by decide +kernel
theorem dL_law_183 : decode cL_law 183 = .ok (.land, 1) := by decide +kernel
theorem dL_law_184 : decode cL_law 184 = .ok (.lor, 1) := by decide +kernel
theorem dL_law_185 : decode cL_law 185 = .ok (.invokevirtual 15, 3) := by decide +kernel
theorem dL_law_188 : decode cL_law 188 = .ok (.aload_n 2, 1) := by decide +kernel
theorem dL_law_189 : decode cL_law 189 = .ok (.aload_n 0, 1) := by decide +kernel
theorem dL_law_190 : decode cL_law 190 = .ok (.iload_n 3, 1) := by decide +kernel
theorem dL_law_191 : decode cL_law 191 = .ok (.iconst 1, 1) := by decide +kernel
theorem dL_law_192 : decode cL_law 192 = .ok (.iadd, 1) := by decide +kernel
theorem dL_law_193 : decode cL_law 193 = .ok (.iaload, 1) := by decide +kernel
theorem dL_law_194 : decode cL_law 194 = .ok (.i2l, 1) := by decide +kernel
theorem dL_law_195 : decode cL_law 195 = .ok (.bipush 32, 2) := by decide +kernel
theorem dL_law_197 : decode cL_law 197 = .ok (.lshl, 1) := by decide +kernel
theorem dL_law_198 : decode cL_law 198 = .ok (.aload_n 0, 1) := by decide +kernel
theorem dL_law_199 : decode cL_law 199 = .ok (.iload_n 3, 1) := by decide +kernel
theorem dL_law_200 : decode cL_law 200 = .ok (.iconst 2, 1) := by decide +kernel
theorem dL_law_201 : decode cL_law 201 = .ok (.iadd, 1) := by decide +kernel
theorem dL_law_202 : decode cL_law 202 = .ok (.iaload, 1) := by decide +kernel
theorem dL_law_203 : decode cL_law 203 = .ok (.i2l, 1) := by decide +kernel
theorem dL_law_204 : decode cL_law 204 = .ok (.ldc2_w 13, 3) := by decide +kernel
theorem dL_law_207 : decode cL_law 207 = .ok (.land, 1) := by decide +kernel
theorem dL_law_208 : decode cL_law 208 = .ok (.lor, 1) := by decide +kernel
theorem dL_law_209 : decode cL_law 209 = .ok (.invokevirtual 19, 3) := by decide +kernel
theorem dL_law_212 : decode cL_law 212 = .ok (.if_icmp .eq 792, 3) := by decide +kernel
theorem dL_law_215 : decode cL_law 215 = .ok (.iconst 0, 1) := by decide +kernel
theorem dL_law_216 : decode cL_law 216 = .ok (.ireturn, 1) := by decide +kernel
theorem dL_law_217 : decode cL_law 217 = .ok (.aload_n 1, 1) := by decide +kernel
theorem dL_law_218 : decode cL_law 218 = .ok (.invokevirtual 20, 3) := by decide +kernel
theorem dL_law_221 : decode cL_law 221 = .ok (.aload_n 2, 1) := by decide +kernel
theorem dL_law_222 : decode cL_law 222 = .ok (.invokevirtual 24, 3) := by decide +kernel
theorem dL_law_225 : decode cL_law 225 = .ok (.if_icmp .eq 779, 3) := by decide +kernel
theorem dL_law_228 : decode cL_law 228 = .ok (.iconst 0, 1) := by decide +kernel
theorem dL_law_229 : decode cL_law 229 = .ok (.ireturn, 1) := by decide +kernel
theorem dL_law_230 : decode cL_law 230 = .ok (.aload_n 1, 1) := by decide +kernel
theorem dL_law_231 : decode cL_law 231 = .ok (.aload_n 0, 1) := by decide +kernel
theorem dL_law_232 : decode cL_law 232 = .ok (.iload_n 3, 1) := by decide +kernel
theorem dL_law_233 : decode cL_law 233 = .ok (.iconst 1, 1) := by decide +kernel
theorem dL_law_234 : decode cL_law 234 = .ok (.iadd, 1) := by decide +kernel
theorem dL_law_235 : decode cL_law 235 = .ok (.iaload, 1) := by decide +kernel
theorem dL_law_236 : decode cL_law 236 = .ok (.invokevirtual 25, 3) := by decide +kernel
theorem dL_law_239 : decode cL_law 239 = .ok (.aload_n 2, 1) := by decide +kernel
theorem dL_law_240 : decode cL_law 240 = .ok (.aload_n 0, 1) := by decide +kernel
theorem dL_law_241 : decode cL_law 241 = .ok (.iload_n 3, 1) := by decide +kernel
theorem dL_law_242 : decode cL_law 242 = .ok (.iconst 1, 1) := by decide +kernel
theorem dL_law_243 : decode cL_law 243 = .ok (.iadd, 1) := by decide +kernel
theorem dL_law_244 : decode cL_law 244 = .ok (.iaload, 1) := by decide +kernel
theorem dL_law_245 : decode cL_law 245 = .ok (.invokevirtual 29, 3) := by decide +kernel
theorem dL_law_248 : decode cL_law 248 = .ok (.if_icmp .eq 756, 3) := by decide +kernel
theorem dL_law_251 : decode cL_law 251 = .ok (.iconst 0, 1) := by decide +kernel
theorem dL_law_252 : decode cL_law 252 = .ok (.ireturn, 1) := by decide +kernel
theorem dL_law_253 : decode cL_law 253 = .ok (.aload_n 1, 1) := by decide +kernel
theorem dL_law_254 : decode cL_law 254 = .ok (.invokevirtual 30, 3) := by decide +kernel
theorem dL_law_257 : decode cL_law 257 = .ok (.aload_n 2, 1) := by decide +kernel
theorem dL_law_258 : decode cL_law 258 = .ok (.invokevirtual 33, 3) := by decide +kernel
theorem dL_law_261 : decode cL_law 261 = .ok (.if_icmp .eq 743, 3) := by decide +kernel
theorem dL_law_264 : decode cL_law 264 = .ok (.iconst 0, 1) := by decide +kernel
theorem dL_law_265 : decode cL_law 265 = .ok (.ireturn, 1) := by decide +kernel
theorem dL_law_266 : decode cL_law 266 = .ok (.aload_n 1, 1) := by decide +kernel
theorem dL_law_267 : decode cL_law 267 = .ok (.invokevirtual 34, 3) := by decide +kernel
theorem dL_law_270 : decode cL_law 270 = .ok (.aload_n 2, 1) := by decide +kernel
theorem dL_law_271 : decode cL_law 271 = .ok (.invokevirtual 37, 3) := by decide +kernel
theorem dL_law_274 : decode cL_law 274 = .ok (.if_icmp .eq 730, 3) := by decide +kernel
theorem dL_law_277 : decode cL_law 277 = .ok (.iconst 0, 1) := by decide +kernel
theorem dL_law_278 : decode cL_law 278 = .ok (.ireturn, 1) := by decide +kernel
theorem dL_law_279 : decode cL_law 279 = .ok (.aload_n 1, 1) := by decide +kernel
theorem dL_law_280 : decode cL_law 280 = .ok (.aload_n 0, 1) := by decide +kernel
theorem dL_law_281 : decode cL_law 281 = .ok (.iload_n 3, 1) := by decide +kernel
theorem dL_law_282 : decode cL_law 282 = .ok (.iconst 1, 1) := by decide +kernel
theorem dL_law_283 : decode cL_law 283 = .ok (.iadd, 1) := by decide +kernel
theorem dL_law_284 : decode cL_law 284 = .ok (.iaload, 1) := by decide +kernel
theorem dL_law_285 : decode cL_law 285 = .ok (.aload_n 0, 1) := by decide +kernel
theorem dL_law_286 : decode cL_law 286 = .ok (.iload_n 3, 1) := by decide +kernel
theorem dL_law_287 : decode cL_law 287 = .ok (.iconst 2, 1) := by decide +kernel
theorem dL_law_288 : decode cL_law 288 = .ok (.iadd, 1) := by decide +kernel
theorem dL_law_289 : decode cL_law 289 = .ok (.iaload, 1) := by decide +kernel
theorem dL_law_290 : decode cL_law 290 = .ok (.invokevirtual 38, 3) := by decide +kernel
theorem dL_law_293 : decode cL_law 293 = .ok (.aload_n 2, 1) := by decide +kernel
theorem dL_law_294 : decode cL_law 294 = .ok (.aload_n 0, 1) := by decide +kernel
theorem dL_law_295 : decode cL_law 295 = .ok (.iload_n 3, 1) := by decide +kernel
theorem dL_law_296 : decode cL_law 296 = .ok (.iconst 1, 1) := by decide +kernel
theorem dL_law_297 : decode cL_law 297 = .ok (.iadd, 1) := by decide +kernel
theorem dL_law_298 : decode cL_law 298 = .ok (.iaload, 1) := by decide +kernel
theorem dL_law_299 : decode cL_law 299 = .ok (.aload_n 0, 1) := by decide +kernel
theorem dL_law_300 : decode cL_law 300 = .ok (.iload_n 3, 1) := by decide +kernel
theorem dL_law_301 : decode cL_law 301 = .ok (.iconst 2, 1) := by decide +kernel
theorem dL_law_302 : decode cL_law 302 = .ok (.iadd, 1) := by decide +kernel
theorem dL_law_303 : decode cL_law 303 = .ok (.iaload, 1) := by decide +kernel
theorem dL_law_304 : decode cL_law 304 = .ok (.invokevirtual 42, 3) := by decide +kernel
theorem dL_law_307 : decode cL_law 307 = .ok (.if_icmp .eq 697, 3) := by decide +kernel
theorem dL_law_310 : decode cL_law 310 = .ok (.iconst 0, 1) := by decide +kernel
theorem dL_law_311 : decode cL_law 311 = .ok (.ireturn, 1) := by decide +kernel
theorem dL_law_312 : decode cL_law 312 = .ok (.aload_n 1, 1) := by decide +kernel
theorem dL_law_313 : decode cL_law 313 = .ok (.aload_n 0, 1) := by decide +kernel
theorem dL_law_314 : decode cL_law 314 = .ok (.iload_n 3, 1) := by decide +kernel
theorem dL_law_315 : decode cL_law 315 = .ok (.iconst 1, 1) := by decide +kernel
theorem dL_law_316 : decode cL_law 316 = .ok (.iadd, 1) := by decide +kernel
theorem dL_law_317 : decode cL_law 317 = .ok (.iaload, 1) := by decide +kernel
theorem dL_law_318 : decode cL_law 318 = .ok (.aload_n 0, 1) := by decide +kernel
theorem dL_law_319 : decode cL_law 319 = .ok (.iload_n 3, 1) := by decide +kernel
theorem dL_law_320 : decode cL_law 320 = .ok (.iconst 2, 1) := by decide +kernel
theorem dL_law_321 : decode cL_law 321 = .ok (.iadd, 1) := by decide +kernel
theorem dL_law_322 : decode cL_law 322 = .ok (.iaload, 1) := by decide +kernel
theorem dL_law_323 : decode cL_law 323 = .ok (.invokevirtual 43, 3) := by decide +kernel
theorem dL_law_326 : decode cL_law 326 = .ok (.aload_n 2, 1) := by decide +kernel
theorem dL_law_327 : decode cL_law 327 = .ok (.aload_n 0, 1) := by decide +kernel
theorem dL_law_328 : decode cL_law 328 = .ok (.iload_n 3, 1) := by decide +kernel
theorem dL_law_329 : decode cL_law 329 = .ok (.iconst 1, 1) := by decide +kernel
theorem dL_law_330 : decode cL_law 330 = .ok (.iadd, 1) := by decide +kernel
theorem dL_law_331 : decode cL_law 331 = .ok (.iaload, 1) := by decide +kernel
theorem dL_law_332 : decode cL_law 332 = .ok (.aload_n 0, 1) := by decide +kernel
theorem dL_law_333 : decode cL_law 333 = .ok (.iload_n 3, 1) := by decide +kernel
theorem dL_law_334 : decode cL_law 334 = .ok (.iconst 2, 1) := by decide +kernel
theorem dL_law_335 : decode cL_law 335 = .ok (.iadd, 1) := by decide +kernel
theorem dL_law_336 : decode cL_law 336 = .ok (.iaload, 1) := by decide +kernel
theorem dL_law_337 : decode cL_law 337 = .ok (.invokevirtual 46, 3) := by decide +kernel
theorem dL_law_340 : decode cL_law 340 = .ok (.if_icmp .eq 664, 3) := by decide +kernel
theorem dL_law_343 : decode cL_law 343 = .ok (.iconst 0, 1) := by decide +kernel
theorem dL_law_344 : decode cL_law 344 = .ok (.ireturn, 1) := by decide +kernel
theorem dL_law_345 : decode cL_law 345 = .ok (.aload_n 1, 1) := by decide +kernel
theorem dL_law_346 : decode cL_law 346 = .ok (.aload_n 0, 1) := by decide +kernel
theorem dL_law_347 : decode cL_law 347 = .ok (.iload_n 3, 1) := by decide +kernel
theorem dL_law_348 : decode cL_law 348 = .ok (.iconst 1, 1) := by decide +kernel
theorem dL_law_349 : decode cL_law 349 = .ok (.iadd, 1) := by decide +kernel
theorem dL_law_350 : decode cL_law 350 = .ok (.iaload, 1) := by decide +kernel
theorem dL_law_351 : decode cL_law 351 = .ok (.aload_n 0, 1) := by decide +kernel
theorem dL_law_352 : decode cL_law 352 = .ok (.iload_n 3, 1) := by decide +kernel
theorem dL_law_353 : decode cL_law 353 = .ok (.iconst 2, 1) := by decide +kernel
theorem dL_law_354 : decode cL_law 354 = .ok (.iadd, 1) := by decide +kernel
theorem dL_law_355 : decode cL_law 355 = .ok (.iaload, 1) := by decide +kernel
theorem dL_law_356 : decode cL_law 356 = .ok (.invokevirtual 47, 3) := by decide +kernel
theorem dL_law_359 : decode cL_law 359 = .ok (.aload_n 2, 1) := by decide +kernel
theorem dL_law_360 : decode cL_law 360 = .ok (.aload_n 0, 1) := by decide +kernel
theorem dL_law_361 : decode cL_law 361 = .ok (.iload_n 3, 1) := by decide +kernel
theorem dL_law_362 : decode cL_law 362 = .ok (.iconst 1, 1) := by decide +kernel
theorem dL_law_363 : decode cL_law 363 = .ok (.iadd, 1) := by decide +kernel
theorem dL_law_364 : decode cL_law 364 = .ok (.iaload, 1) := by decide +kernel
theorem dL_law_365 : decode cL_law 365 = .ok (.aload_n 0, 1) := by decide +kernel
theorem dL_law_366 : decode cL_law 366 = .ok (.iload_n 3, 1) := by decide +kernel
theorem dL_law_367 : decode cL_law 367 = .ok (.iconst 2, 1) := by decide +kernel
theorem dL_law_368 : decode cL_law 368 = .ok (.iadd, 1) := by decide +kernel
theorem dL_law_369 : decode cL_law 369 = .ok (.iaload, 1) := by decide +kernel
theorem dL_law_370 : decode cL_law 370 = .ok (.invokevirtual 50, 3) := by decide +kernel
theorem dL_law_373 : decode cL_law 373 = .ok (.if_icmp .eq 631, 3) := by decide +kernel
theorem dL_law_376 : decode cL_law 376 = .ok (.iconst 0, 1) := by decide +kernel
theorem dL_law_377 : decode cL_law 377 = .ok (.ireturn, 1) := by decide +kernel
theorem dL_law_378 : decode cL_law 378 = .ok (.aload_n 1, 1) := by decide +kernel
theorem dL_law_379 : decode cL_law 379 = .ok (.aload_n 0, 1) := by decide +kernel
theorem dL_law_380 : decode cL_law 380 = .ok (.iload_n 3, 1) := by decide +kernel
theorem dL_law_381 : decode cL_law 381 = .ok (.iconst 1, 1) := by decide +kernel
theorem dL_law_382 : decode cL_law 382 = .ok (.iadd, 1) := by decide +kernel
theorem dL_law_383 : decode cL_law 383 = .ok (.iaload, 1) := by decide +kernel
theorem dL_law_384 : decode cL_law 384 = .ok (.invokevirtual 51, 3) := by decide +kernel
theorem dL_law_387 : decode cL_law 387 = .ok (.aload_n 2, 1) := by decide +kernel
theorem dL_law_388 : decode cL_law 388 = .ok (.aload_n 0, 1) := by decide +kernel
theorem dL_law_389 : decode cL_law 389 = .ok (.iload_n 3, 1) := by decide +kernel
theorem dL_law_390 : decode cL_law 390 = .ok (.iconst 1, 1) := by decide +kernel
theorem dL_law_391 : decode cL_law 391 = .ok (.iadd, 1) := by decide +kernel
theorem dL_law_392 : decode cL_law 392 = .ok (.iaload, 1) := by decide +kernel
theorem dL_law_393 : decode cL_law 393 = .ok (.invokevirtual 54, 3) := by decide +kernel
theorem dL_law_396 : decode cL_law 396 = .ok (.if_icmp .eq 608, 3) := by decide +kernel
theorem dL_law_399 : decode cL_law 399 = .ok (.iconst 0, 1) := by decide +kernel
theorem dL_law_400 : decode cL_law 400 = .ok (.ireturn, 1) := by decide +kernel
theorem dL_law_401 : decode cL_law 401 = .ok (.aload_n 1, 1) := by decide +kernel
theorem dL_law_402 : decode cL_law 402 = .ok (.invokevirtual 55, 3) := by decide +kernel
theorem dL_law_405 : decode cL_law 405 = .ok (.aload_n 2, 1) := by decide +kernel
theorem dL_law_406 : decode cL_law 406 = .ok (.invokevirtual 58, 3) := by decide +kernel
theorem dL_law_409 : decode cL_law 409 = .ok (.if_icmp .eq 595, 3) := by decide +kernel
theorem dL_law_412 : decode cL_law 412 = .ok (.iconst 0, 1) := by decide +kernel
theorem dL_law_413 : decode cL_law 413 = .ok (.ireturn, 1) := by decide +kernel
theorem dL_law_414 : decode cL_law 414 = .ok (.aload_n 1, 1) := by decide +kernel
theorem dL_law_415 : decode cL_law 415 = .ok (.aload_n 0, 1) := by decide +kernel
theorem dL_law_416 : decode cL_law 416 = .ok (.iload_n 3, 1) := by decide +kernel
theorem dL_law_417 : decode cL_law 417 = .ok (.iconst 1, 1) := by decide +kernel
theorem dL_law_418 : decode cL_law 418 = .ok (.iadd, 1) := by decide +kernel
theorem dL_law_419 : decode cL_law 419 = .ok (.iaload, 1) := by decide +kernel
theorem dL_law_420 : decode cL_law 420 = .ok (.invokevirtual 59, 3) := by decide +kernel
theorem dL_law_423 : decode cL_law 423 = .ok (.aload_n 2, 1) := by decide +kernel
theorem dL_law_424 : decode cL_law 424 = .ok (.aload_n 0, 1) := by decide +kernel
theorem dL_law_425 : decode cL_law 425 = .ok (.iload_n 3, 1) := by decide +kernel
theorem dL_law_426 : decode cL_law 426 = .ok (.iconst 1, 1) := by decide +kernel
theorem dL_law_427 : decode cL_law 427 = .ok (.iadd, 1) := by decide +kernel
theorem dL_law_428 : decode cL_law 428 = .ok (.iaload, 1) := by decide +kernel
theorem dL_law_429 : decode cL_law 429 = .ok (.invokevirtual 62, 3) := by decide +kernel
theorem dL_law_432 : decode cL_law 432 = .ok (.if_icmp .eq 572, 3) := by decide +kernel
theorem dL_law_435 : decode cL_law 435 = .ok (.iconst 0, 1) := by decide +kernel
theorem dL_law_436 : decode cL_law 436 = .ok (.ireturn, 1) := by decide +kernel
theorem dL_law_437 : decode cL_law 437 = .ok (.aload_n 1, 1) := by decide +kernel
theorem dL_law_438 : decode cL_law 438 = .ok (.aload_n 0, 1) := by decide +kernel
theorem dL_law_439 : decode cL_law 439 = .ok (.iload_n 3, 1) := by decide +kernel
theorem dL_law_440 : decode cL_law 440 = .ok (.iconst 1, 1) := by decide +kernel
theorem dL_law_441 : decode cL_law 441 = .ok (.iadd, 1) := by decide +kernel
theorem dL_law_442 : decode cL_law 442 = .ok (.iaload, 1) := by decide +kernel
theorem dL_law_443 : decode cL_law 443 = .ok (.aload_n 0, 1) := by decide +kernel
theorem dL_law_444 : decode cL_law 444 = .ok (.iload_n 3, 1) := by decide +kernel
theorem dL_law_445 : decode cL_law 445 = .ok (.iconst 2, 1) := by decide +kernel
theorem dL_law_446 : decode cL_law 446 = .ok (.iadd, 1) := by decide +kernel
theorem dL_law_447 : decode cL_law 447 = .ok (.iaload, 1) := by decide +kernel
theorem dL_law_448 : decode cL_law 448 = .ok (.invokevirtual 63, 3) := by decide +kernel
theorem dL_law_451 : decode cL_law 451 = .ok (.aload_n 2, 1) := by decide +kernel
theorem dL_law_452 : decode cL_law 452 = .ok (.aload_n 0, 1) := by decide +kernel
theorem dL_law_453 : decode cL_law 453 = .ok (.iload_n 3, 1) := by decide +kernel
theorem dL_law_454 : decode cL_law 454 = .ok (.iconst 1, 1) := by decide +kernel
theorem dL_law_455 : decode cL_law 455 = .ok (.iadd, 1) := by decide +kernel
theorem dL_law_456 : decode cL_law 456 = .ok (.iaload, 1) := by decide +kernel
theorem dL_law_457 : decode cL_law 457 = .ok (.aload_n 0, 1) := by decide +kernel
theorem dL_law_458 : decode cL_law 458 = .ok (.iload_n 3, 1) := by decide +kernel
theorem dL_law_459 : decode cL_law 459 = .ok (.iconst 2, 1) := by decide +kernel
theorem dL_law_460 : decode cL_law 460 = .ok (.iadd, 1) := by decide +kernel
theorem dL_law_461 : decode cL_law 461 = .ok (.iaload, 1) := by decide +kernel
theorem dL_law_462 : decode cL_law 462 = .ok (.invokevirtual 66, 3) := by decide +kernel
theorem dL_law_465 : decode cL_law 465 = .ok (.if_icmp .eq 539, 3) := by decide +kernel
theorem dL_law_468 : decode cL_law 468 = .ok (.iconst 0, 1) := by decide +kernel
theorem dL_law_469 : decode cL_law 469 = .ok (.ireturn, 1) := by decide +kernel
theorem dL_law_470 : decode cL_law 470 = .ok (.aload_n 1, 1) := by decide +kernel
theorem dL_law_471 : decode cL_law 471 = .ok (.aload_n 0, 1) := by decide +kernel
theorem dL_law_472 : decode cL_law 472 = .ok (.iload_n 3, 1) := by decide +kernel
theorem dL_law_473 : decode cL_law 473 = .ok (.iconst 1, 1) := by decide +kernel
theorem dL_law_474 : decode cL_law 474 = .ok (.iadd, 1) := by decide +kernel
theorem dL_law_475 : decode cL_law 475 = .ok (.iaload, 1) := by decide +kernel
theorem dL_law_476 : decode cL_law 476 = .ok (.aload_n 0, 1) := by decide +kernel
theorem dL_law_477 : decode cL_law 477 = .ok (.iload_n 3, 1) := by decide +kernel
theorem dL_law_478 : decode cL_law 478 = .ok (.iconst 2, 1) := by decide +kernel
theorem dL_law_479 : decode cL_law 479 = .ok (.iadd, 1) := by decide +kernel
theorem dL_law_480 : decode cL_law 480 = .ok (.iaload, 1) := by decide +kernel
theorem dL_law_481 : decode cL_law 481 = .ok (.invokevirtual 67, 3) := by decide +kernel
theorem dL_law_484 : decode cL_law 484 = .ok (.aload_n 2, 1) := by decide +kernel
theorem dL_law_485 : decode cL_law 485 = .ok (.aload_n 0, 1) := by decide +kernel
theorem dL_law_486 : decode cL_law 486 = .ok (.iload_n 3, 1) := by decide +kernel
theorem dL_law_487 : decode cL_law 487 = .ok (.iconst 1, 1) := by decide +kernel
theorem dL_law_488 : decode cL_law 488 = .ok (.iadd, 1) := by decide +kernel
theorem dL_law_489 : decode cL_law 489 = .ok (.iaload, 1) := by decide +kernel
theorem dL_law_490 : decode cL_law 490 = .ok (.aload_n 0, 1) := by decide +kernel
theorem dL_law_491 : decode cL_law 491 = .ok (.iload_n 3, 1) := by decide +kernel
theorem dL_law_492 : decode cL_law 492 = .ok (.iconst 2, 1) := by decide +kernel
theorem dL_law_493 : decode cL_law 493 = .ok (.iadd, 1) := by decide +kernel
theorem dL_law_494 : decode cL_law 494 = .ok (.iaload, 1) := by decide +kernel
theorem dL_law_495 : decode cL_law 495 = .ok (.invokevirtual 70, 3) := by decide +kernel
theorem dL_law_498 : decode cL_law 498 = .ok (.if_icmp .eq 506, 3) := by decide +kernel
theorem dL_law_501 : decode cL_law 501 = .ok (.iconst 0, 1) := by decide +kernel
theorem dL_law_502 : decode cL_law 502 = .ok (.ireturn, 1) := by decide +kernel
theorem dL_law_503 : decode cL_law 503 = .ok (.aload_n 1, 1) := by decide +kernel
theorem dL_law_504 : decode cL_law 504 = .ok (.aload_n 0, 1) := by decide +kernel
theorem dL_law_505 : decode cL_law 505 = .ok (.iload_n 3, 1) := by decide +kernel
theorem dL_law_506 : decode cL_law 506 = .ok (.iconst 1, 1) := by decide +kernel
theorem dL_law_507 : decode cL_law 507 = .ok (.iadd, 1) := by decide +kernel
theorem dL_law_508 : decode cL_law 508 = .ok (.iaload, 1) := by decide +kernel
theorem dL_law_509 : decode cL_law 509 = .ok (.aload_n 0, 1) := by decide +kernel
theorem dL_law_510 : decode cL_law 510 = .ok (.iload_n 3, 1) := by decide +kernel
theorem dL_law_511 : decode cL_law 511 = .ok (.iconst 2, 1) := by decide +kernel
theorem dL_law_512 : decode cL_law 512 = .ok (.iadd, 1) := by decide +kernel
theorem dL_law_513 : decode cL_law 513 = .ok (.iaload, 1) := by decide +kernel
theorem dL_law_514 : decode cL_law 514 = .ok (.invokevirtual 71, 3) := by decide +kernel
theorem dL_law_517 : decode cL_law 517 = .ok (.aload_n 2, 1) := by decide +kernel
theorem dL_law_518 : decode cL_law 518 = .ok (.aload_n 0, 1) := by decide +kernel
theorem dL_law_519 : decode cL_law 519 = .ok (.iload_n 3, 1) := by decide +kernel
theorem dL_law_520 : decode cL_law 520 = .ok (.iconst 1, 1) := by decide +kernel
theorem dL_law_521 : decode cL_law 521 = .ok (.iadd, 1) := by decide +kernel
theorem dL_law_522 : decode cL_law 522 = .ok (.iaload, 1) := by decide +kernel
theorem dL_law_523 : decode cL_law 523 = .ok (.aload_n 0, 1) := by decide +kernel
theorem dL_law_524 : decode cL_law 524 = .ok (.iload_n 3, 1) := by decide +kernel
theorem dL_law_525 : decode cL_law 525 = .ok (.iconst 2, 1) := by decide +kernel
theorem dL_law_526 : decode cL_law 526 = .ok (.iadd, 1) := by decide +kernel
theorem dL_law_527 : decode cL_law 527 = .ok (.iaload, 1) := by decide +kernel
theorem dL_law_528 : decode cL_law 528 = .ok (.invokevirtual 74, 3) := by decide +kernel
theorem dL_law_531 : decode cL_law 531 = .ok (.if_icmp .eq 473, 3) := by decide +kernel
theorem dL_law_534 : decode cL_law 534 = .ok (.iconst 0, 1) := by decide +kernel
theorem dL_law_535 : decode cL_law 535 = .ok (.ireturn, 1) := by decide +kernel
theorem dL_law_536 : decode cL_law 536 = .ok (.aload_n 1, 1) := by decide +kernel
theorem dL_law_537 : decode cL_law 537 = .ok (.aload_n 0, 1) := by decide +kernel
theorem dL_law_538 : decode cL_law 538 = .ok (.iload_n 3, 1) := by decide +kernel
theorem dL_law_539 : decode cL_law 539 = .ok (.iconst 1, 1) := by decide +kernel
theorem dL_law_540 : decode cL_law 540 = .ok (.iadd, 1) := by decide +kernel
theorem dL_law_541 : decode cL_law 541 = .ok (.iaload, 1) := by decide +kernel
theorem dL_law_542 : decode cL_law 542 = .ok (.aload_n 0, 1) := by decide +kernel
theorem dL_law_543 : decode cL_law 543 = .ok (.iload_n 3, 1) := by decide +kernel
theorem dL_law_544 : decode cL_law 544 = .ok (.iconst 2, 1) := by decide +kernel
theorem dL_law_545 : decode cL_law 545 = .ok (.iadd, 1) := by decide +kernel
theorem dL_law_546 : decode cL_law 546 = .ok (.iaload, 1) := by decide +kernel
theorem dL_law_547 : decode cL_law 547 = .ok (.invokevirtual 75, 3) := by decide +kernel
theorem dL_law_550 : decode cL_law 550 = .ok (.aload_n 2, 1) := by decide +kernel
theorem dL_law_551 : decode cL_law 551 = .ok (.aload_n 0, 1) := by decide +kernel
theorem dL_law_552 : decode cL_law 552 = .ok (.iload_n 3, 1) := by decide +kernel
theorem dL_law_553 : decode cL_law 553 = .ok (.iconst 1, 1) := by decide +kernel
theorem dL_law_554 : decode cL_law 554 = .ok (.iadd, 1) := by decide +kernel
theorem dL_law_555 : decode cL_law 555 = .ok (.iaload, 1) := by decide +kernel
theorem dL_law_556 : decode cL_law 556 = .ok (.aload_n 0, 1) := by decide +kernel
theorem dL_law_557 : decode cL_law 557 = .ok (.iload_n 3, 1) := by decide +kernel
theorem dL_law_558 : decode cL_law 558 = .ok (.iconst 2, 1) := by decide +kernel
theorem dL_law_559 : decode cL_law 559 = .ok (.iadd, 1) := by decide +kernel
theorem dL_law_560 : decode cL_law 560 = .ok (.iaload, 1) := by decide +kernel
theorem dL_law_561 : decode cL_law 561 = .ok (.invokevirtual 78, 3) := by decide +kernel
theorem dL_law_564 : decode cL_law 564 = .ok (.if_icmp .eq 440, 3) := by decide +kernel
theorem dL_law_567 : decode cL_law 567 = .ok (.iconst 0, 1) := by decide +kernel
theorem dL_law_568 : decode cL_law 568 = .ok (.ireturn, 1) := by decide +kernel
theorem dL_law_569 : decode cL_law 569 = .ok (.aload_n 1, 1) := by decide +kernel
theorem dL_law_570 : decode cL_law 570 = .ok (.aload_n 0, 1) := by decide +kernel
theorem dL_law_571 : decode cL_law 571 = .ok (.iload_n 3, 1) := by decide +kernel
theorem dL_law_572 : decode cL_law 572 = .ok (.iconst 1, 1) := by decide +kernel
theorem dL_law_573 : decode cL_law 573 = .ok (.iadd, 1) := by decide +kernel
theorem dL_law_574 : decode cL_law 574 = .ok (.iaload, 1) := by decide +kernel
theorem dL_law_575 : decode cL_law 575 = .ok (.invokevirtual 79, 3) := by decide +kernel
theorem dL_law_578 : decode cL_law 578 = .ok (.aload_n 2, 1) := by decide +kernel
theorem dL_law_579 : decode cL_law 579 = .ok (.aload_n 0, 1) := by decide +kernel
theorem dL_law_580 : decode cL_law 580 = .ok (.iload_n 3, 1) := by decide +kernel
theorem dL_law_581 : decode cL_law 581 = .ok (.iconst 1, 1) := by decide +kernel
theorem dL_law_582 : decode cL_law 582 = .ok (.iadd, 1) := by decide +kernel
theorem dL_law_583 : decode cL_law 583 = .ok (.iaload, 1) := by decide +kernel
theorem dL_law_584 : decode cL_law 584 = .ok (.invokevirtual 82, 3) := by decide +kernel
theorem dL_law_587 : decode cL_law 587 = .ok (.if_icmp .eq 417, 3) := by decide +kernel
theorem dL_law_590 : decode cL_law 590 = .ok (.iconst 0, 1) := by decide +kernel
theorem dL_law_591 : decode cL_law 591 = .ok (.ireturn, 1) := by decide +kernel
theorem dL_law_592 : decode cL_law 592 = .ok (.aload_n 1, 1) := by decide +kernel
theorem dL_law_593 : decode cL_law 593 = .ok (.aload_n 0, 1) := by decide +kernel
theorem dL_law_594 : decode cL_law 594 = .ok (.iload_n 3, 1) := by decide +kernel
theorem dL_law_595 : decode cL_law 595 = .ok (.iconst 1, 1) := by decide +kernel
theorem dL_law_596 : decode cL_law 596 = .ok (.iadd, 1) := by decide +kernel
theorem dL_law_597 : decode cL_law 597 = .ok (.iaload, 1) := by decide +kernel
theorem dL_law_598 : decode cL_law 598 = .ok (.invokevirtual 83, 3) := by decide +kernel
theorem dL_law_601 : decode cL_law 601 = .ok (.aload_n 2, 1) := by decide +kernel
theorem dL_law_602 : decode cL_law 602 = .ok (.aload_n 0, 1) := by decide +kernel
theorem dL_law_603 : decode cL_law 603 = .ok (.iload_n 3, 1) := by decide +kernel
theorem dL_law_604 : decode cL_law 604 = .ok (.iconst 1, 1) := by decide +kernel
theorem dL_law_605 : decode cL_law 605 = .ok (.iadd, 1) := by decide +kernel
theorem dL_law_606 : decode cL_law 606 = .ok (.iaload, 1) := by decide +kernel
theorem dL_law_607 : decode cL_law 607 = .ok (.invokevirtual 86, 3) := by decide +kernel
theorem dL_law_610 : decode cL_law 610 = .ok (.if_icmp .eq 394, 3) := by decide +kernel
theorem dL_law_613 : decode cL_law 613 = .ok (.iconst 0, 1) := by decide +kernel
theorem dL_law_614 : decode cL_law 614 = .ok (.ireturn, 1) := by decide +kernel
theorem dL_law_615 : decode cL_law 615 = .ok (.aload_n 1, 1) := by decide +kernel
theorem dL_law_616 : decode cL_law 616 = .ok (.aload_n 0, 1) := by decide +kernel
theorem dL_law_617 : decode cL_law 617 = .ok (.iload_n 3, 1) := by decide +kernel
theorem dL_law_618 : decode cL_law 618 = .ok (.iconst 1, 1) := by decide +kernel
theorem dL_law_619 : decode cL_law 619 = .ok (.iadd, 1) := by decide +kernel
theorem dL_law_620 : decode cL_law 620 = .ok (.iaload, 1) := by decide +kernel
theorem dL_law_621 : decode cL_law 621 = .ok (.invokevirtual 87, 3) := by decide +kernel
theorem dL_law_624 : decode cL_law 624 = .ok (.aload_n 2, 1) := by decide +kernel
theorem dL_law_625 : decode cL_law 625 = .ok (.aload_n 0, 1) := by decide +kernel
theorem dL_law_626 : decode cL_law 626 = .ok (.iload_n 3, 1) := by decide +kernel
theorem dL_law_627 : decode cL_law 627 = .ok (.iconst 1, 1) := by decide +kernel
theorem dL_law_628 : decode cL_law 628 = .ok (.iadd, 1) := by decide +kernel
theorem dL_law_629 : decode cL_law 629 = .ok (.iaload, 1) := by decide +kernel
theorem dL_law_630 : decode cL_law 630 = .ok (.invokevirtual 90, 3) := by decide +kernel
theorem dL_law_633 : decode cL_law 633 = .ok (.if_icmp .eq 371, 3) := by decide +kernel
theorem dL_law_636 : decode cL_law 636 = .ok (.iconst 0, 1) := by decide +kernel
theorem dL_law_637 : decode cL_law 637 = .ok (.ireturn, 1) := by decide +kernel
theorem dL_law_638 : decode cL_law 638 = .ok (.aload_n 1, 1) := by decide +kernel
theorem dL_law_639 : decode cL_law 639 = .ok (.aload_n 0, 1) := by decide +kernel
theorem dL_law_640 : decode cL_law 640 = .ok (.iload_n 3, 1) := by decide +kernel
theorem dL_law_641 : decode cL_law 641 = .ok (.iconst 1, 1) := by decide +kernel
theorem dL_law_642 : decode cL_law 642 = .ok (.iadd, 1) := by decide +kernel
theorem dL_law_643 : decode cL_law 643 = .ok (.iaload, 1) := by decide +kernel
theorem dL_law_644 : decode cL_law 644 = .ok (.aload_n 0, 1) := by decide +kernel
theorem dL_law_645 : decode cL_law 645 = .ok (.iload_n 3, 1) := by decide +kernel
theorem dL_law_646 : decode cL_law 646 = .ok (.iconst 2, 1) := by decide +kernel
theorem dL_law_647 : decode cL_law 647 = .ok (.iadd, 1) := by decide +kernel
theorem dL_law_648 : decode cL_law 648 = .ok (.iaload, 1) := by decide +kernel
theorem dL_law_649 : decode cL_law 649 = .ok (.aload_n 0, 1) := by decide +kernel
theorem dL_law_650 : decode cL_law 650 = .ok (.iload_n 3, 1) := by decide +kernel
theorem dL_law_651 : decode cL_law 651 = .ok (.iconst 3, 1) := by decide +kernel
theorem dL_law_652 : decode cL_law 652 = .ok (.iadd, 1) := by decide +kernel
theorem dL_law_653 : decode cL_law 653 = .ok (.iaload, 1) := by decide +kernel
theorem dL_law_654 : decode cL_law 654 = .ok (.invokevirtual 91, 3) := by decide +kernel
theorem dL_law_657 : decode cL_law 657 = .ok (.aload_n 2, 1) := by decide +kernel
theorem dL_law_658 : decode cL_law 658 = .ok (.aload_n 0, 1) := by decide +kernel
theorem dL_law_659 : decode cL_law 659 = .ok (.iload_n 3, 1) := by decide +kernel
theorem dL_law_660 : decode cL_law 660 = .ok (.iconst 1, 1) := by decide +kernel
theorem dL_law_661 : decode cL_law 661 = .ok (.iadd, 1) := by decide +kernel
theorem dL_law_662 : decode cL_law 662 = .ok (.iaload, 1) := by decide +kernel
theorem dL_law_663 : decode cL_law 663 = .ok (.aload_n 0, 1) := by decide +kernel
theorem dL_law_664 : decode cL_law 664 = .ok (.iload_n 3, 1) := by decide +kernel
theorem dL_law_665 : decode cL_law 665 = .ok (.iconst 2, 1) := by decide +kernel
theorem dL_law_666 : decode cL_law 666 = .ok (.iadd, 1) := by decide +kernel
theorem dL_law_667 : decode cL_law 667 = .ok (.iaload, 1) := by decide +kernel
theorem dL_law_668 : decode cL_law 668 = .ok (.aload_n 0, 1) := by decide +kernel
theorem dL_law_669 : decode cL_law 669 = .ok (.iload_n 3, 1) := by decide +kernel
theorem dL_law_670 : decode cL_law 670 = .ok (.iconst 3, 1) := by decide +kernel
theorem dL_law_671 : decode cL_law 671 = .ok (.iadd, 1) := by decide +kernel
theorem dL_law_672 : decode cL_law 672 = .ok (.iaload, 1) := by decide +kernel
theorem dL_law_673 : decode cL_law 673 = .ok (.invokevirtual 95, 3) := by decide +kernel
theorem dL_law_676 : decode cL_law 676 = .ok (.if_icmp .eq 328, 3) := by decide +kernel
theorem dL_law_679 : decode cL_law 679 = .ok (.iconst 0, 1) := by decide +kernel
theorem dL_law_680 : decode cL_law 680 = .ok (.ireturn, 1) := by decide +kernel
theorem dL_law_681 : decode cL_law 681 = .ok (.aload_n 1, 1) := by decide +kernel
theorem dL_law_682 : decode cL_law 682 = .ok (.aload_n 0, 1) := by decide +kernel
theorem dL_law_683 : decode cL_law 683 = .ok (.iload_n 3, 1) := by decide +kernel
theorem dL_law_684 : decode cL_law 684 = .ok (.iconst 1, 1) := by decide +kernel
theorem dL_law_685 : decode cL_law 685 = .ok (.iadd, 1) := by decide +kernel
theorem dL_law_686 : decode cL_law 686 = .ok (.iaload, 1) := by decide +kernel
theorem dL_law_687 : decode cL_law 687 = .ok (.aload_n 0, 1) := by decide +kernel
theorem dL_law_688 : decode cL_law 688 = .ok (.iload_n 3, 1) := by decide +kernel
theorem dL_law_689 : decode cL_law 689 = .ok (.iconst 2, 1) := by decide +kernel
theorem dL_law_690 : decode cL_law 690 = .ok (.iadd, 1) := by decide +kernel
theorem dL_law_691 : decode cL_law 691 = .ok (.iaload, 1) := by decide +kernel
theorem dL_law_692 : decode cL_law 692 = .ok (.aload_n 0, 1) := by decide +kernel
theorem dL_law_693 : decode cL_law 693 = .ok (.iload_n 3, 1) := by decide +kernel
theorem dL_law_694 : decode cL_law 694 = .ok (.iconst 3, 1) := by decide +kernel
theorem dL_law_695 : decode cL_law 695 = .ok (.iadd, 1) := by decide +kernel
theorem dL_law_696 : decode cL_law 696 = .ok (.iaload, 1) := by decide +kernel
theorem dL_law_697 : decode cL_law 697 = .ok (.invokevirtual 96, 3) := by decide +kernel
theorem dL_law_700 : decode cL_law 700 = .ok (.aload_n 2, 1) := by decide +kernel
theorem dL_law_701 : decode cL_law 701 = .ok (.aload_n 0, 1) := by decide +kernel
theorem dL_law_702 : decode cL_law 702 = .ok (.iload_n 3, 1) := by decide +kernel
theorem dL_law_703 : decode cL_law 703 = .ok (.iconst 1, 1) := by decide +kernel
theorem dL_law_704 : decode cL_law 704 = .ok (.iadd, 1) := by decide +kernel
theorem dL_law_705 : decode cL_law 705 = .ok (.iaload, 1) := by decide +kernel
theorem dL_law_706 : decode cL_law 706 = .ok (.aload_n 0, 1) := by decide +kernel
theorem dL_law_707 : decode cL_law 707 = .ok (.iload_n 3, 1) := by decide +kernel
theorem dL_law_708 : decode cL_law 708 = .ok (.iconst 2, 1) := by decide +kernel
theorem dL_law_709 : decode cL_law 709 = .ok (.iadd, 1) := by decide +kernel
theorem dL_law_710 : decode cL_law 710 = .ok (.iaload, 1) := by decide +kernel
theorem dL_law_711 : decode cL_law 711 = .ok (.aload_n 0, 1) := by decide +kernel
theorem dL_law_712 : decode cL_law 712 = .ok (.iload_n 3, 1) := by decide +kernel
theorem dL_law_713 : decode cL_law 713 = .ok (.iconst 3, 1) := by decide +kernel
theorem dL_law_714 : decode cL_law 714 = .ok (.iadd, 1) := by decide +kernel
theorem dL_law_715 : decode cL_law 715 = .ok (.iaload, 1) := by decide +kernel
theorem dL_law_716 : decode cL_law 716 = .ok (.invokevirtual 99, 3) := by decide +kernel
theorem dL_law_719 : decode cL_law 719 = .ok (.if_icmp .eq 285, 3) := by decide +kernel
theorem dL_law_722 : decode cL_law 722 = .ok (.iconst 0, 1) := by decide +kernel
theorem dL_law_723 : decode cL_law 723 = .ok (.ireturn, 1) := by decide +kernel
theorem dL_law_724 : decode cL_law 724 = .ok (.aload_n 1, 1) := by decide +kernel
theorem dL_law_725 : decode cL_law 725 = .ok (.aload_n 0, 1) := by decide +kernel
theorem dL_law_726 : decode cL_law 726 = .ok (.iload_n 3, 1) := by decide +kernel
theorem dL_law_727 : decode cL_law 727 = .ok (.iconst 1, 1) := by decide +kernel
theorem dL_law_728 : decode cL_law 728 = .ok (.iadd, 1) := by decide +kernel
theorem dL_law_729 : decode cL_law 729 = .ok (.iaload, 1) := by decide +kernel
theorem dL_law_730 : decode cL_law 730 = .ok (.invokevirtual 100, 3) := by decide +kernel
theorem dL_law_733 : decode cL_law 733 = .ok (.aload_n 2, 1) := by decide +kernel
theorem dL_law_734 : decode cL_law 734 = .ok (.aload_n 0, 1) := by decide +kernel
theorem dL_law_735 : decode cL_law 735 = .ok (.iload_n 3, 1) := by decide +kernel
theorem dL_law_736 : decode cL_law 736 = .ok (.iconst 1, 1) := by decide +kernel
theorem dL_law_737 : decode cL_law 737 = .ok (.iadd, 1) := by decide +kernel
theorem dL_law_738 : decode cL_law 738 = .ok (.iaload, 1) := by decide +kernel
theorem dL_law_739 : decode cL_law 739 = .ok (.invokevirtual 103, 3) := by decide +kernel
theorem dL_law_742 : decode cL_law 742 = .ok (.if_icmp .eq 262, 3) := by decide +kernel
theorem dL_law_745 : decode cL_law 745 = .ok (.iconst 0, 1) := by decide +kernel
theorem dL_law_746 : decode cL_law 746 = .ok (.ireturn, 1) := by decide +kernel
theorem dL_law_747 : decode cL_law 747 = .ok (.aload_n 1, 1) := by decide +kernel
theorem dL_law_748 : decode cL_law 748 = .ok (.aload_n 0, 1) := by decide +kernel
theorem dL_law_749 : decode cL_law 749 = .ok (.iload_n 3, 1) := by decide +kernel
theorem dL_law_750 : decode cL_law 750 = .ok (.iconst 1, 1) := by decide +kernel
theorem dL_law_751 : decode cL_law 751 = .ok (.iadd, 1) := by decide +kernel
theorem dL_law_752 : decode cL_law 752 = .ok (.iaload, 1) := by decide +kernel
theorem dL_law_753 : decode cL_law 753 = .ok (.aload_n 0, 1) := by decide +kernel
theorem dL_law_754 : decode cL_law 754 = .ok (.iload_n 3, 1) := by decide +kernel
theorem dL_law_755 : decode cL_law 755 = .ok (.iconst 2, 1) := by decide +kernel
theorem dL_law_756 : decode cL_law 756 = .ok (.iadd, 1) := by decide +kernel
theorem dL_law_757 : decode cL_law 757 = .ok (.iaload, 1) := by decide +kernel
theorem dL_law_758 : decode cL_law 758 = .ok (.aload_n 0, 1) := by decide +kernel
theorem dL_law_759 : decode cL_law 759 = .ok (.iload_n 3, 1) := by decide +kernel
theorem dL_law_760 : decode cL_law 760 = .ok (.iconst 3, 1) := by decide +kernel
theorem dL_law_761 : decode cL_law 761 = .ok (.iadd, 1) := by decide +kernel
theorem dL_law_762 : decode cL_law 762 = .ok (.iaload, 1) := by decide +kernel
theorem dL_law_763 : decode cL_law 763 = .ok (.aload_n 0, 1) := by decide +kernel
theorem dL_law_764 : decode cL_law 764 = .ok (.iload_n 3, 1) := by decide +kernel
theorem dL_law_765 : decode cL_law 765 = .ok (.iconst 4, 1) := by decide +kernel
theorem dL_law_766 : decode cL_law 766 = .ok (.iadd, 1) := by decide +kernel
theorem dL_law_767 : decode cL_law 767 = .ok (.iaload, 1) := by decide +kernel
theorem dL_law_768 : decode cL_law 768 = .ok (.aload_n 0, 1) := by decide +kernel
theorem dL_law_769 : decode cL_law 769 = .ok (.iload_n 3, 1) := by decide +kernel
theorem dL_law_770 : decode cL_law 770 = .ok (.iconst 5, 1) := by decide +kernel
theorem dL_law_771 : decode cL_law 771 = .ok (.iadd, 1) := by decide +kernel
theorem dL_law_772 : decode cL_law 772 = .ok (.iaload, 1) := by decide +kernel
theorem dL_law_773 : decode cL_law 773 = .ok (.aload_n 0, 1) := by decide +kernel
theorem dL_law_774 : decode cL_law 774 = .ok (.iload_n 3, 1) := by decide +kernel
theorem dL_law_775 : decode cL_law 775 = .ok (.bipush 6, 2) := by decide +kernel
theorem dL_law_777 : decode cL_law 777 = .ok (.iadd, 1) := by decide +kernel
theorem dL_law_778 : decode cL_law 778 = .ok (.iaload, 1) := by decide +kernel
theorem dL_law_779 : decode cL_law 779 = .ok (.invokevirtual 104, 3) := by decide +kernel
theorem dL_law_782 : decode cL_law 782 = .ok (.aload_n 2, 1) := by decide +kernel
theorem dL_law_783 : decode cL_law 783 = .ok (.aload_n 0, 1) := by decide +kernel
theorem dL_law_784 : decode cL_law 784 = .ok (.iload_n 3, 1) := by decide +kernel
theorem dL_law_785 : decode cL_law 785 = .ok (.iconst 1, 1) := by decide +kernel
theorem dL_law_786 : decode cL_law 786 = .ok (.iadd, 1) := by decide +kernel
theorem dL_law_787 : decode cL_law 787 = .ok (.iaload, 1) := by decide +kernel
theorem dL_law_788 : decode cL_law 788 = .ok (.aload_n 0, 1) := by decide +kernel
theorem dL_law_789 : decode cL_law 789 = .ok (.iload_n 3, 1) := by decide +kernel
theorem dL_law_790 : decode cL_law 790 = .ok (.iconst 2, 1) := by decide +kernel
theorem dL_law_791 : decode cL_law 791 = .ok (.iadd, 1) := by decide +kernel
theorem dL_law_792 : decode cL_law 792 = .ok (.iaload, 1) := by decide +kernel
theorem dL_law_793 : decode cL_law 793 = .ok (.aload_n 0, 1) := by decide +kernel
theorem dL_law_794 : decode cL_law 794 = .ok (.iload_n 3, 1) := by decide +kernel
theorem dL_law_795 : decode cL_law 795 = .ok (.iconst 3, 1) := by decide +kernel
theorem dL_law_796 : decode cL_law 796 = .ok (.iadd, 1) := by decide +kernel
theorem dL_law_797 : decode cL_law 797 = .ok (.iaload, 1) := by decide +kernel
theorem dL_law_798 : decode cL_law 798 = .ok (.aload_n 0, 1) := by decide +kernel
theorem dL_law_799 : decode cL_law 799 = .ok (.iload_n 3, 1) := by decide +kernel
theorem dL_law_800 : decode cL_law 800 = .ok (.iconst 4, 1) := by decide +kernel
theorem dL_law_801 : decode cL_law 801 = .ok (.iadd, 1) := by decide +kernel
theorem dL_law_802 : decode cL_law 802 = .ok (.iaload, 1) := by decide +kernel
theorem dL_law_803 : decode cL_law 803 = .ok (.aload_n 0, 1) := by decide +kernel
theorem dL_law_804 : decode cL_law 804 = .ok (.iload_n 3, 1) := by decide +kernel
theorem dL_law_805 : decode cL_law 805 = .ok (.iconst 5, 1) := by decide +kernel
theorem dL_law_806 : decode cL_law 806 = .ok (.iadd, 1) := by decide +kernel
theorem dL_law_807 : decode cL_law 807 = .ok (.iaload, 1) := by decide +kernel
theorem dL_law_808 : decode cL_law 808 = .ok (.aload_n 0, 1) := by decide +kernel
theorem dL_law_809 : decode cL_law 809 = .ok (.iload_n 3, 1) := by decide +kernel
theorem dL_law_810 : decode cL_law 810 = .ok (.bipush 6, 2) := by decide +kernel
theorem dL_law_812 : decode cL_law 812 = .ok (.iadd, 1) := by decide +kernel
theorem dL_law_813 : decode cL_law 813 = .ok (.iaload, 1) := by decide +kernel
theorem dL_law_814 : decode cL_law 814 = .ok (.invokevirtual 108, 3) := by decide +kernel
theorem dL_law_817 : decode cL_law 817 = .ok (.if_icmp .eq 187, 3) := by decide +kernel
theorem dL_law_820 : decode cL_law 820 = .ok (.iconst 0, 1) := by decide +kernel
theorem dL_law_821 : decode cL_law 821 = .ok (.ireturn, 1) := by decide +kernel
theorem dL_law_822 : decode cL_law 822 = .ok (.aload_n 1, 1) := by decide +kernel
theorem dL_law_823 : decode cL_law 823 = .ok (.aload_n 0, 1) := by decide +kernel
theorem dL_law_824 : decode cL_law 824 = .ok (.iload_n 3, 1) := by decide +kernel
theorem dL_law_825 : decode cL_law 825 = .ok (.iconst 1, 1) := by decide +kernel
theorem dL_law_826 : decode cL_law 826 = .ok (.iadd, 1) := by decide +kernel
theorem dL_law_827 : decode cL_law 827 = .ok (.iaload, 1) := by decide +kernel
theorem dL_law_828 : decode cL_law 828 = .ok (.aload_n 0, 1) := by decide +kernel
theorem dL_law_829 : decode cL_law 829 = .ok (.iload_n 3, 1) := by decide +kernel
theorem dL_law_830 : decode cL_law 830 = .ok (.iconst 2, 1) := by decide +kernel
theorem dL_law_831 : decode cL_law 831 = .ok (.iadd, 1) := by decide +kernel
theorem dL_law_832 : decode cL_law 832 = .ok (.iaload, 1) := by decide +kernel
theorem dL_law_833 : decode cL_law 833 = .ok (.invokevirtual 109, 3) := by decide +kernel
theorem dL_law_836 : decode cL_law 836 = .ok (.aload_n 2, 1) := by decide +kernel
theorem dL_law_837 : decode cL_law 837 = .ok (.aload_n 0, 1) := by decide +kernel
theorem dL_law_838 : decode cL_law 838 = .ok (.iload_n 3, 1) := by decide +kernel
theorem dL_law_839 : decode cL_law 839 = .ok (.iconst 1, 1) := by decide +kernel
theorem dL_law_840 : decode cL_law 840 = .ok (.iadd, 1) := by decide +kernel
theorem dL_law_841 : decode cL_law 841 = .ok (.iaload, 1) := by decide +kernel
theorem dL_law_842 : decode cL_law 842 = .ok (.aload_n 0, 1) := by decide +kernel
theorem dL_law_843 : decode cL_law 843 = .ok (.iload_n 3, 1) := by decide +kernel
theorem dL_law_844 : decode cL_law 844 = .ok (.iconst 2, 1) := by decide +kernel
theorem dL_law_845 : decode cL_law 845 = .ok (.iadd, 1) := by decide +kernel
theorem dL_law_846 : decode cL_law 846 = .ok (.iaload, 1) := by decide +kernel
theorem dL_law_847 : decode cL_law 847 = .ok (.invokevirtual 112, 3) := by decide +kernel
theorem dL_law_850 : decode cL_law 850 = .ok (.if_icmp .eq 154, 3) := by decide +kernel
theorem dL_law_853 : decode cL_law 853 = .ok (.iconst 0, 1) := by decide +kernel
theorem dL_law_854 : decode cL_law 854 = .ok (.ireturn, 1) := by decide +kernel
theorem dL_law_855 : decode cL_law 855 = .ok (.aload_n 1, 1) := by decide +kernel
theorem dL_law_856 : decode cL_law 856 = .ok (.aload_n 0, 1) := by decide +kernel
theorem dL_law_857 : decode cL_law 857 = .ok (.iload_n 3, 1) := by decide +kernel
theorem dL_law_858 : decode cL_law 858 = .ok (.iconst 1, 1) := by decide +kernel
theorem dL_law_859 : decode cL_law 859 = .ok (.iadd, 1) := by decide +kernel
theorem dL_law_860 : decode cL_law 860 = .ok (.iaload, 1) := by decide +kernel
theorem dL_law_861 : decode cL_law 861 = .ok (.aload_n 0, 1) := by decide +kernel
theorem dL_law_862 : decode cL_law 862 = .ok (.iload_n 3, 1) := by decide +kernel
theorem dL_law_863 : decode cL_law 863 = .ok (.iconst 2, 1) := by decide +kernel
theorem dL_law_864 : decode cL_law 864 = .ok (.iadd, 1) := by decide +kernel
theorem dL_law_865 : decode cL_law 865 = .ok (.iaload, 1) := by decide +kernel
theorem dL_law_866 : decode cL_law 866 = .ok (.aload_n 0, 1) := by decide +kernel
theorem dL_law_867 : decode cL_law 867 = .ok (.iload_n 3, 1) := by decide +kernel
theorem dL_law_868 : decode cL_law 868 = .ok (.iconst 3, 1) := by decide +kernel
theorem dL_law_869 : decode cL_law 869 = .ok (.iadd, 1) := by decide +kernel
theorem dL_law_870 : decode cL_law 870 = .ok (.iaload, 1) := by decide +kernel
theorem dL_law_871 : decode cL_law 871 = .ok (.aload_n 0, 1) := by decide +kernel
theorem dL_law_872 : decode cL_law 872 = .ok (.iload_n 3, 1) := by decide +kernel
theorem dL_law_873 : decode cL_law 873 = .ok (.iconst 4, 1) := by decide +kernel
theorem dL_law_874 : decode cL_law 874 = .ok (.iadd, 1) := by decide +kernel
theorem dL_law_875 : decode cL_law 875 = .ok (.iaload, 1) := by decide +kernel
theorem dL_law_876 : decode cL_law 876 = .ok (.invokevirtual 113, 3) := by decide +kernel
theorem dL_law_879 : decode cL_law 879 = .ok (.aload_n 2, 1) := by decide +kernel
theorem dL_law_880 : decode cL_law 880 = .ok (.aload_n 0, 1) := by decide +kernel
theorem dL_law_881 : decode cL_law 881 = .ok (.iload_n 3, 1) := by decide +kernel
theorem dL_law_882 : decode cL_law 882 = .ok (.iconst 1, 1) := by decide +kernel
theorem dL_law_883 : decode cL_law 883 = .ok (.iadd, 1) := by decide +kernel
theorem dL_law_884 : decode cL_law 884 = .ok (.iaload, 1) := by decide +kernel
theorem dL_law_885 : decode cL_law 885 = .ok (.aload_n 0, 1) := by decide +kernel
theorem dL_law_886 : decode cL_law 886 = .ok (.iload_n 3, 1) := by decide +kernel
theorem dL_law_887 : decode cL_law 887 = .ok (.iconst 2, 1) := by decide +kernel
theorem dL_law_888 : decode cL_law 888 = .ok (.iadd, 1) := by decide +kernel
theorem dL_law_889 : decode cL_law 889 = .ok (.iaload, 1) := by decide +kernel
theorem dL_law_890 : decode cL_law 890 = .ok (.aload_n 0, 1) := by decide +kernel
theorem dL_law_891 : decode cL_law 891 = .ok (.iload_n 3, 1) := by decide +kernel
theorem dL_law_892 : decode cL_law 892 = .ok (.iconst 3, 1) := by decide +kernel
theorem dL_law_893 : decode cL_law 893 = .ok (.iadd, 1) := by decide +kernel
theorem dL_law_894 : decode cL_law 894 = .ok (.iaload, 1) := by decide +kernel
theorem dL_law_895 : decode cL_law 895 = .ok (.aload_n 0, 1) := by decide +kernel
theorem dL_law_896 : decode cL_law 896 = .ok (.iload_n 3, 1) := by decide +kernel
theorem dL_law_897 : decode cL_law 897 = .ok (.iconst 4, 1) := by decide +kernel
theorem dL_law_898 : decode cL_law 898 = .ok (.iadd, 1) := by decide +kernel
theorem dL_law_899 : decode cL_law 899 = .ok (.iaload, 1) := by decide +kernel
theorem dL_law_900 : decode cL_law 900 = .ok (.invokevirtual 117, 3) := by decide +kernel
theorem dL_law_903 : decode cL_law 903 = .ok (.if_icmp .eq 101, 3) := by decide +kernel
theorem dL_law_906 : decode cL_law 906 = .ok (.iconst 0, 1) := by decide +kernel
theorem dL_law_907 : decode cL_law 907 = .ok (.ireturn, 1) := by decide +kernel
theorem dL_law_908 : decode cL_law 908 = .ok (.aload_n 1, 1) := by decide +kernel
theorem dL_law_909 : decode cL_law 909 = .ok (.aload_n 0, 1) := by decide +kernel
theorem dL_law_910 : decode cL_law 910 = .ok (.iload_n 3, 1) := by decide +kernel
theorem dL_law_911 : decode cL_law 911 = .ok (.iconst 1, 1) := by decide +kernel
theorem dL_law_912 : decode cL_law 912 = .ok (.iadd, 1) := by decide +kernel
theorem dL_law_913 : decode cL_law 913 = .ok (.iaload, 1) := by decide +kernel
theorem dL_law_914 : decode cL_law 914 = .ok (.aload_n 0, 1) := by decide +kernel
theorem dL_law_915 : decode cL_law 915 = .ok (.iload_n 3, 1) := by decide +kernel
theorem dL_law_916 : decode cL_law 916 = .ok (.iconst 2, 1) := by decide +kernel
theorem dL_law_917 : decode cL_law 917 = .ok (.iadd, 1) := by decide +kernel
theorem dL_law_918 : decode cL_law 918 = .ok (.iaload, 1) := by decide +kernel
theorem dL_law_919 : decode cL_law 919 = .ok (.invokevirtual 118, 3) := by decide +kernel
theorem dL_law_922 : decode cL_law 922 = .ok (.aload_n 2, 1) := by decide +kernel
theorem dL_law_923 : decode cL_law 923 = .ok (.aload_n 0, 1) := by decide +kernel
theorem dL_law_924 : decode cL_law 924 = .ok (.iload_n 3, 1) := by decide +kernel
theorem dL_law_925 : decode cL_law 925 = .ok (.iconst 1, 1) := by decide +kernel
theorem dL_law_926 : decode cL_law 926 = .ok (.iadd, 1) := by decide +kernel
theorem dL_law_927 : decode cL_law 927 = .ok (.iaload, 1) := by decide +kernel
theorem dL_law_928 : decode cL_law 928 = .ok (.aload_n 0, 1) := by decide +kernel
theorem dL_law_929 : decode cL_law 929 = .ok (.iload_n 3, 1) := by decide +kernel
theorem dL_law_930 : decode cL_law 930 = .ok (.iconst 2, 1) := by decide +kernel
theorem dL_law_931 : decode cL_law 931 = .ok (.iadd, 1) := by decide +kernel
theorem dL_law_932 : decode cL_law 932 = .ok (.iaload, 1) := by decide +kernel
theorem dL_law_933 : decode cL_law 933 = .ok (.invokevirtual 121, 3) := by decide +kernel
theorem dL_law_936 : decode cL_law 936 = .ok (.if_icmp .eq 68, 3) := by decide +kernel
theorem dL_law_939 : decode cL_law 939 = .ok (.iconst 0, 1) := by decide +kernel
theorem dL_law_940 : decode cL_law 940 = .ok (.ireturn, 1) := by decide +kernel
theorem dL_law_941 : decode cL_law 941 = .ok (.aload_n 1, 1) := by decide +kernel
theorem dL_law_942 : decode cL_law 942 = .ok (.invokevirtual 122, 3) := by decide +kernel
theorem dL_law_945 : decode cL_law 945 = .ok (.aload_n 2, 1) := by decide +kernel
theorem dL_law_946 : decode cL_law 946 = .ok (.invokevirtual 125, 3) := by decide +kernel
theorem dL_law_949 : decode cL_law 949 = .ok (.if_icmp .eq 55, 3) := by decide +kernel
theorem dL_law_952 : decode cL_law 952 = .ok (.iconst 0, 1) := by decide +kernel
theorem dL_law_953 : decode cL_law 953 = .ok (.ireturn, 1) := by decide +kernel
theorem dL_law_954 : decode cL_law 954 = .ok (.aload_n 1, 1) := by decide +kernel
theorem dL_law_955 : decode cL_law 955 = .ok (.invokevirtual 126, 3) := by decide +kernel
theorem dL_law_958 : decode cL_law 958 = .ok (.aload_n 2, 1) := by decide +kernel
theorem dL_law_959 : decode cL_law 959 = .ok (.invokevirtual 129, 3) := by decide +kernel
theorem dL_law_962 : decode cL_law 962 = .ok (.if_icmp .eq 42, 3) := by decide +kernel
theorem dL_law_965 : decode cL_law 965 = .ok (.iconst 0, 1) := by decide +kernel
theorem dL_law_966 : decode cL_law 966 = .ok (.ireturn, 1) := by decide +kernel
theorem dL_law_967 : decode cL_law 967 = .ok (.aload_n 1, 1) := by decide +kernel
theorem dL_law_968 : decode cL_law 968 = .ok (.aload_n 0, 1) := by decide +kernel
theorem dL_law_969 : decode cL_law 969 = .ok (.iload_n 3, 1) := by decide +kernel
theorem dL_law_970 : decode cL_law 970 = .ok (.iconst 1, 1) := by decide +kernel
theorem dL_law_971 : decode cL_law 971 = .ok (.iadd, 1) := by decide +kernel
theorem dL_law_972 : decode cL_law 972 = .ok (.iaload, 1) := by decide +kernel
theorem dL_law_973 : decode cL_law 973 = .ok (.invokevirtual 130, 3) := by decide +kernel
theorem dL_law_976 : decode cL_law 976 = .ok (.aload_n 2, 1) := by decide +kernel
theorem dL_law_977 : decode cL_law 977 = .ok (.aload_n 0, 1) := by decide +kernel
theorem dL_law_978 : decode cL_law 978 = .ok (.iload_n 3, 1) := by decide +kernel
theorem dL_law_979 : decode cL_law 979 = .ok (.iconst 1, 1) := by decide +kernel
theorem dL_law_980 : decode cL_law 980 = .ok (.iadd, 1) := by decide +kernel
theorem dL_law_981 : decode cL_law 981 = .ok (.iaload, 1) := by decide +kernel
theorem dL_law_982 : decode cL_law 982 = .ok (.invokevirtual 133, 3) := by decide +kernel
theorem dL_law_985 : decode cL_law 985 = .ok (.if_icmp .eq 19, 3) := by decide +kernel
theorem dL_law_988 : decode cL_law 988 = .ok (.iconst 0, 1) := by decide +kernel
theorem dL_law_989 : decode cL_law 989 = .ok (.ireturn, 1) := by decide +kernel
theorem dL_law_990 : decode cL_law 990 = .ok (.aload_n 1, 1) := by decide +kernel
theorem dL_law_991 : decode cL_law 991 = .ok (.invokevirtual 134, 3) := by decide +kernel
theorem dL_law_994 : decode cL_law 994 = .ok (.aload_n 2, 1) := by decide +kernel
theorem dL_law_995 : decode cL_law 995 = .ok (.invokevirtual 138, 3) := by decide +kernel
theorem dL_law_998 : decode cL_law 998 = .ok (.lcmp, 1) := by decide +kernel
theorem dL_law_999 : decode cL_law 999 = .ok (.ifCond .eq 5, 3) := by decide +kernel
theorem dL_law_1002 : decode cL_law 1002 = .ok (.iconst 0, 1) := by decide +kernel
theorem dL_law_1003 : decode cL_law 1003 = .ok (.ireturn, 1) := by decide +kernel
theorem dL_law_1004 : decode cL_law 1004 = .ok (.iinc 3 7, 3) := by decide +kernel
theorem dL_law_1007 : decode cL_law 1007 = .ok (.goto (-989), 3) := by decide +kernel
theorem dL_law_1010 : decode cL_law 1010 = .ok (.iconst 1, 1) := by decide +kernel
theorem dL_law_1011 : decode cL_law 1011 = .ok (.ireturn, 1) := by decide +kernel
