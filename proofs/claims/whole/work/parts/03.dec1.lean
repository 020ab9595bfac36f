theorem dCL_init_0 : decode bCL_init 0 = .ok (.aload_n 0, 1) := by decide +kernel
theorem dCL_init_1 : decode bCL_init 1 = .ok (.invokespecial 3, 3) := by decide +kernel
theorem dCL_init_4 : decode bCL_init 4 = .ok (.aload_n 0, 1) := by decide +kernel
theorem dCL_init_5 : decode bCL_init 5 = .ok (.iload_n 1, 1) := by decide +kernel
theorem dCL_init_6 : decode bCL_init 6 = .ok (.iconst 1, 1) := by decide +kernel
theorem dCL_init_7 : decode bCL_init 7 = .ok (.bipush 24, 2) := by decide +kernel
theorem dCL_init_9 : decode bCL_init 9 = .ok (.invokestatic 9, 3) := by decide +kernel
theorem dCL_init_12 : decode bCL_init 12 = .ok (.putfield 13, 3) := by decide +kernel
theorem dCL_init_15 : decode bCL_init 15 = .ok (.aload_n 0, 1) := by decide +kernel
theorem dCL_init_16 : decode bCL_init 16 = .ok (.iload_n 2, 1) := by decide +kernel
theorem dCL_init_17 : decode bCL_init 17 = .ok (.iconst 1, 1) := by decide +kernel
theorem dCL_init_18 : decode bCL_init 18 = .ok (.bipush 24, 2) := by decide +kernel
theorem dCL_init_20 : decode bCL_init 20 = .ok (.invokestatic 9, 3) := by decide +kernel
theorem dCL_init_23 : decode bCL_init 23 = .ok (.putfield 17, 3) := by decide +kernel
theorem dCL_init_26 : decode bCL_init 26 = .ok (.aload_n 0, 1) := by decide +kernel
theorem dCL_init_27 : decode bCL_init 27 = .ok (.getfield 13, 3) := by decide +kernel
theorem dCL_init_30 : decode bCL_init 30 = .ok (.aload_n 0, 1) := by decide +kernel
theorem dCL_init_31 : decode bCL_init 31 = .ok (.getfield 17, 3) := by decide +kernel
theorem dCL_init_34 : decode bCL_init 34 = .ok (.imul, 1) := by decide +kernel
theorem dCL_init_35 : decode bCL_init 35 = .ok (.istore_n 3, 1) := by decide +kernel
theorem dCL_init_36 : decode bCL_init 36 = .ok (.aload_n 0, 1) := by decide +kernel
theorem dCL_init_37 : decode bCL_init 37 = .ok (.iload_n 3, 1) := by decide +kernel
theorem dCL_init_38 : decode bCL_init 38 = .ok (.newarray .int, 2) := by decide +kernel
theorem dCL_init_40 : decode bCL_init 40 = .ok (.putfield 20, 3) := by decide +kernel
theorem dCL_init_43 : decode bCL_init 43 = .ok (.aload_n 0, 1) := by decide +kernel
theorem dCL_init_44 : decode bCL_init 44 = .ok (.iload_n 3, 1) := by decide +kernel
theorem dCL_init_45 : decode bCL_init 45 = .ok (.newarray .int, 2) := by decide +kernel
theorem dCL_init_47 : decode bCL_init 47 = .ok (.putfield 24, 3) := by decide +kernel
theorem dCL_init_50 : decode bCL_init 50 = .ok (.aload_n 0, 1) := by decide +kernel
theorem dCL_init_51 : decode bCL_init 51 = .ok (.new 27, 3) := by decide +kernel
theorem dCL_init_54 : decode bCL_init 54 = .ok (.dup, 1) := by decide +kernel
theorem dCL_init_55 : decode bCL_init 55 = .ok (.iload_n 3, 1) := by decide +kernel
theorem dCL_init_56 : decode bCL_init 56 = .ok (.invokespecial 29, 3) := by decide +kernel
theorem dCL_init_59 : decode bCL_init 59 = .ok (.putfield 32, 3) := by decide +kernel
theorem dCL_init_62 : decode bCL_init 62 = .ok (.aload_n 0, 1) := by decide +kernel
theorem dCL_init_63 : decode bCL_init 63 = .ok (.new 36, 3) := by decide +kernel
theorem dCL_init_66 : decode bCL_init 66 = .ok (.dup, 1) := by decide +kernel
theorem dCL_init_67 : decode bCL_init 67 = .ok (.iload_n 3, 1) := by decide +kernel
theorem dCL_init_68 : decode bCL_init 68 = .ok (.invokespecial 38, 3) := by decide +kernel
theorem dCL_init_71 : decode bCL_init 71 = .ok (.putfield 39, 3) := by decide +kernel
theorem dCL_init_74 : decode bCL_init 74 = .ok (.aload_n 0, 1) := by decide +kernel
theorem dCL_init_75 : decode bCL_init 75 = .ok (.new 43, 3) := by decide +kernel
theorem dCL_init_78 : decode bCL_init 78 = .ok (.dup, 1) := by decide +kernel
theorem dCL_init_79 : decode bCL_init 79 = .ok (.invokespecial 45, 3) := by decide +kernel
theorem dCL_init_82 : decode bCL_init 82 = .ok (.putfield 46, 3) := by decide +kernel
theorem dCL_init_85 : decode bCL_init 85 = .ok (.aload_n 0, 1) := by decide +kernel
theorem dCL_init_86 : decode bCL_init 86 = .ok (.new 50, 3) := by decide +kernel
theorem dCL_init_89 : decode bCL_init 89 = .ok (.dup, 1) := by decide +kernel
theorem dCL_init_90 : decode bCL_init 90 = .ok (.invokespecial 52, 3) := by decide +kernel
theorem dCL_init_93 : decode bCL_init 93 = .ok (.putfield 53, 3) := by decide +kernel
theorem dCL_init_96 : decode bCL_init 96 = .ok (.aload_n 0, 1) := by decide +kernel
theorem dCL_init_97 : decode bCL_init 97 = .ok (.new 57, 3) := by decide +kernel
theorem dCL_init_100 : decode bCL_init 100 = .ok (.dup, 1) := by decide +kernel
theorem dCL_init_101 : decode bCL_init 101 = .ok (.invokespecial 59, 3) := by decide +kernel
theorem dCL_init_104 : decode bCL_init 104 = .ok (.putfield 60, 3) := by decide +kernel
theorem dCL_init_107 : decode bCL_init 107 = .ok (.aload_n 0, 1) := by decide +kernel
theorem dCL_init_108 : decode bCL_init 108 = .ok (.new 64, 3) := by decide +kernel
theorem dCL_init_111 : decode bCL_init 111 = .ok (.dup, 1) := by decide +kernel
theorem dCL_init_112 : decode bCL_init 112 = .ok (.iload_n 3, 1) := by decide +kernel
theorem dCL_init_113 : decode bCL_init 113 = .ok (.invokespecial 66, 3) := by decide +kernel
theorem dCL_init_116 : decode bCL_init 116 = .ok (.putfield 67, 3) := by decide +kernel
theorem dCL_init_119 : decode bCL_init 119 = .ok (.aload_n 0, 1) := by decide +kernel
theorem dCL_init_120 : decode bCL_init 120 = .ok (.new 71, 3) := by decide +kernel
theorem dCL_init_123 : decode bCL_init 123 = .ok (.dup, 1) := by decide +kernel
theorem dCL_init_124 : decode bCL_init 124 = .ok (.aload_n 0, 1) := by decide +kernel
theorem dCL_init_125 : decode bCL_init 125 = .ok (.getfield 13, 3) := by decide +kernel
theorem dCL_init_128 : decode bCL_init 128 = .ok (.invokespecial 73, 3) := by decide +kernel
theorem dCL_init_131 : decode bCL_init 131 = .ok (.putfield 74, 3) := by decide +kernel
theorem dCL_init_134 : decode bCL_init 134 = .ok (.return_, 1) := by decide +kernel
theorem dCL_within_0 : decode bCL_within 0 = .ok (.iload_n 1, 1) := by decide +kernel
theorem dCL_within_1 : decode bCL_within 1 = .ok (.iload_n 2, 1) := by decide +kernel
theorem dCL_within_2 : decode bCL_within 2 = .ok (.iload_n 0, 1) := by decide +kernel
theorem dCL_within_3 : decode bCL_within 3 = .ok (.invokestatic 104, 3) := by decide +kernel
theorem dCL_within_6 : decode bCL_within 6 = .ok (.invokestatic 276, 3) := by decide +kernel
theorem dCL_within_9 : decode bCL_within 9 = .ok (.ireturn, 1) := by decide +kernel
theorem dSh_init_0 : decode bSh_init 0 = .ok (.aload_n 0, 1) := by decide +kernel
theorem dSh_init_1 : decode bSh_init 1 = .ok (.invokespecial 3, 3) := by decide +kernel
theorem dSh_init_4 : decode bSh_init 4 = .ok (.aload_n 0, 1) := by decide +kernel
theorem dSh_init_5 : decode bSh_init 5 = .ok (.iload_n 1, 1) := by decide +kernel
theorem dSh_init_6 : decode bSh_init 6 = .ok (.newarray .int, 2) := by decide +kernel
theorem dSh_init_8 : decode bSh_init 8 = .ok (.putfield 9, 3) := by decide +kernel
theorem dSh_init_11 : decode bSh_init 11 = .ok (.aload_n 0, 1) := by decide +kernel
theorem dSh_init_12 : decode bSh_init 12 = .ok (.iload_n 1, 1) := by decide +kernel
theorem dSh_init_13 : decode bSh_init 13 = .ok (.newarray .int, 2) := by decide +kernel
theorem dSh_init_15 : decode bSh_init 15 = .ok (.putfield 15, 3) := by decide +kernel
theorem dSh_init_18 : decode bSh_init 18 = .ok (.aload_n 0, 1) := by decide +kernel
theorem dSh_init_19 : decode bSh_init 19 = .ok (.iload_n 1, 1) := by decide +kernel
theorem dSh_init_20 : decode bSh_init 20 = .ok (.newarray .int, 2) := by decide +kernel
theorem dSh_init_22 : decode bSh_init 22 = .ok (.putfield 18, 3) := by decide +kernel
theorem dSh_init_25 : decode bSh_init 25 = .ok (.aload_n 0, 1) := by decide +kernel
theorem dSh_init_26 : decode bSh_init 26 = .ok (.iload_n 1, 1) := by decide +kernel
theorem dSh_init_27 : decode bSh_init 27 = .ok (.newarray .long, 2) := by decide +kernel
theorem dSh_init_29 : decode bSh_init 29 = .ok (.putfield 21, 3) := by decide +kernel
theorem dSh_init_32 : decode bSh_init 32 = .ok (.aload_n 0, 1) := by decide +kernel
theorem dSh_init_33 : decode bSh_init 33 = .ok (.iconst 0, 1) := by decide +kernel
theorem dSh_init_34 : decode bSh_init 34 = .ok (.putfield 25, 3) := by decide +kernel
theorem dSh_init_37 : decode bSh_init 37 = .ok (.aload_n 0, 1) := by decide +kernel
theorem dSh_init_38 : decode bSh_init 38 = .ok (.iconst 1, 1) := by decide +kernel
theorem dSh_init_39 : decode bSh_init 39 = .ok (.putfield 29, 3) := by decide +kernel
theorem dSh_init_42 : decode bSh_init 42 = .ok (.return_, 1) := by decide +kernel
theorem dBx_init_0 : decode bBx_init 0 = .ok (.aload_n 0, 1) := by decide +kernel
theorem dBx_init_1 : decode bBx_init 1 = .ok (.invokespecial 3, 3) := by decide +kernel
theorem dBx_init_4 : decode bBx_init 4 = .ok (.aload_n 0, 1) := by decide +kernel
theorem dBx_init_5 : decode bBx_init 5 = .ok (.bipush 64, 2) := by decide +kernel
theorem dBx_init_7 : decode bBx_init 7 = .ok (.newarray .int, 2) := by decide +kernel
theorem dBx_init_9 : decode bBx_init 9 = .ok (.putfield 9, 3) := by decide +kernel
theorem dBx_init_12 : decode bBx_init 12 = .ok (.aload_n 0, 1) := by decide +kernel
theorem dBx_init_13 : decode bBx_init 13 = .ok (.bipush 64, 2) := by decide +kernel
theorem dBx_init_15 : decode bBx_init 15 = .ok (.newarray .int, 2) := by decide +kernel
theorem dBx_init_17 : decode bBx_init 17 = .ok (.putfield 15, 3) := by decide +kernel
theorem dBx_init_20 : decode bBx_init 20 = .ok (.aload_n 0, 1) := by decide +kernel
theorem dBx_init_21 : decode bBx_init 21 = .ok (.bipush 64, 2) := by decide +kernel
theorem dBx_init_23 : decode bBx_init 23 = .ok (.newarray .int, 2) := by decide +kernel
theorem dBx_init_25 : decode bBx_init 25 = .ok (.putfield 18, 3) := by decide +kernel
theorem dBx_init_28 : decode bBx_init 28 = .ok (.aload_n 0, 1) := by decide +kernel
theorem dBx_init_29 : decode bBx_init 29 = .ok (.bipush 64, 2) := by decide +kernel
theorem dBx_init_31 : decode bBx_init 31 = .ok (.newarray .int, 2) := by decide +kernel
theorem dBx_init_33 : decode bBx_init 33 = .ok (.putfield 21, 3) := by decide +kernel
theorem dBx_init_36 : decode bBx_init 36 = .ok (.aload_n 0, 1) := by decide +kernel
theorem dBx_init_37 : decode bBx_init 37 = .ok (.bipush 64, 2) := by decide +kernel
theorem dBx_init_39 : decode bBx_init 39 = .ok (.newarray .int, 2) := by decide +kernel
theorem dBx_init_41 : decode bBx_init 41 = .ok (.putfield 24, 3) := by decide +kernel
theorem dBx_init_44 : decode bBx_init 44 = .ok (.aload_n 0, 1) := by decide +kernel
theorem dBx_init_45 : decode bBx_init 45 = .ok (.iload_n 1, 1) := by decide +kernel
theorem dBx_init_46 : decode bBx_init 46 = .ok (.newarray .int, 2) := by decide +kernel
theorem dBx_init_48 : decode bBx_init 48 = .ok (.putfield 27, 3) := by decide +kernel
theorem dBx_init_51 : decode bBx_init 51 = .ok (.aload_n 0, 1) := by decide +kernel
theorem dBx_init_52 : decode bBx_init 52 = .ok (.iconst 0, 1) := by decide +kernel
theorem dBx_init_53 : decode bBx_init 53 = .ok (.putfield 30, 3) := by decide +kernel
theorem dBx_init_56 : decode bBx_init 56 = .ok (.return_, 1) := by decide +kernel
theorem dPo_init_0 : decode bPo_init 0 = .ok (.aload_n 0, 1) := by decide +kernel
theorem dPo_init_1 : decode bPo_init 1 = .ok (.invokespecial 3, 3) := by decide +kernel
theorem dPo_init_4 : decode bPo_init 4 = .ok (.aload_n 0, 1) := by decide +kernel
theorem dPo_init_5 : decode bPo_init 5 = .ok (.sipush 256, 3) := by decide +kernel
theorem dPo_init_8 : decode bPo_init 8 = .ok (.newarray .int, 2) := by decide +kernel
theorem dPo_init_10 : decode bPo_init 10 = .ok (.putfield 9, 3) := by decide +kernel
theorem dPo_init_13 : decode bPo_init 13 = .ok (.aload_n 0, 1) := by decide +kernel
theorem dPo_init_14 : decode bPo_init 14 = .ok (.bipush 64, 2) := by decide +kernel
theorem dPo_init_16 : decode bPo_init 16 = .ok (.newarray .int, 2) := by decide +kernel
theorem dPo_init_18 : decode bPo_init 18 = .ok (.putfield 15, 3) := by decide +kernel
theorem dPo_init_21 : decode bPo_init 21 = .ok (.aload_n 0, 1) := by decide +kernel
theorem dPo_init_22 : decode bPo_init 22 = .ok (.bipush 64, 2) := by decide +kernel
theorem dPo_init_24 : decode bPo_init 24 = .ok (.newarray .int, 2) := by decide +kernel
theorem dPo_init_26 : decode bPo_init 26 = .ok (.putfield 18, 3) := by decide +kernel
theorem dPo_init_29 : decode bPo_init 29 = .ok (.return_, 1) := by decide +kernel
theorem dOf_init_0 : decode bOf_init 0 = .ok (.aload_n 0, 1) := by decide +kernel
theorem dOf_init_1 : decode bOf_init 1 = .ok (.invokespecial 3, 3) := by decide +kernel
theorem dOf_init_4 : decode bOf_init 4 = .ok (.aload_n 0, 1) := by decide +kernel
theorem dOf_init_5 : decode bOf_init 5 = .ok (.bipush 64, 2) := by decide +kernel
theorem dOf_init_7 : decode bOf_init 7 = .ok (.newarray .int, 2) := by decide +kernel
theorem dOf_init_9 : decode bOf_init 9 = .ok (.putfield 9, 3) := by decide +kernel
theorem dOf_init_12 : decode bOf_init 12 = .ok (.aload_n 0, 1) := by decide +kernel
theorem dOf_init_13 : decode bOf_init 13 = .ok (.bipush 64, 2) := by decide +kernel
theorem dOf_init_15 : decode bOf_init 15 = .ok (.newarray .boolean, 2) := by decide +kernel
theorem dOf_init_17 : decode bOf_init 17 = .ok (.putfield 15, 3) := by decide +kernel
theorem dOf_init_20 : decode bOf_init 20 = .ok (.return_, 1) := by decide +kernel
theorem dPa_init_0 : decode bPa_init 0 = .ok (.aload_n 0, 1) := by decide +kernel
theorem dPa_init_1 : decode bPa_init 1 = .ok (.invokespecial 3, 3) := by decide +kernel
theorem dPa_init_4 : decode bPa_init 4 = .ok (.aload_n 0, 1) := by decide +kernel
theorem dPa_init_5 : decode bPa_init 5 = .ok (.sipush 256, 3) := by decide +kernel
theorem dPa_init_8 : decode bPa_init 8 = .ok (.newarray .int, 2) := by decide +kernel
theorem dPa_init_10 : decode bPa_init 10 = .ok (.putfield 9, 3) := by decide +kernel
theorem dPa_init_13 : decode bPa_init 13 = .ok (.return_, 1) := by decide +kernel
theorem dFi_init_0 : decode bFi_init 0 = .ok (.aload_n 0, 1) := by decide +kernel
theorem dFi_init_1 : decode bFi_init 1 = .ok (.invokespecial 3, 3) := by decide +kernel
theorem dFi_init_4 : decode bFi_init 4 = .ok (.aload_n 0, 1) := by decide +kernel
theorem dFi_init_5 : decode bFi_init 5 = .ok (.bipush 21, 2) := by decide +kernel
theorem dFi_init_7 : decode bFi_init 7 = .ok (.newarray .long, 2) := by decide +kernel
theorem dFi_init_9 : decode bFi_init 9 = .ok (.putfield 9, 3) := by decide +kernel
theorem dFi_init_12 : decode bFi_init 12 = .ok (.aload_n 0, 1) := by decide +kernel
theorem dFi_init_13 : decode bFi_init 13 = .ok (.bipush 64, 2) := by decide +kernel
theorem dFi_init_15 : decode bFi_init 15 = .ok (.newarray .int, 2) := by decide +kernel
theorem dFi_init_17 : decode bFi_init 17 = .ok (.putfield 15, 3) := by decide +kernel
theorem dFi_init_20 : decode bFi_init 20 = .ok (.aload_n 0, 1) := by decide +kernel
theorem dFi_init_21 : decode bFi_init 21 = .ok (.bipush 64, 2) := by decide +kernel
theorem dFi_init_23 : decode bFi_init 23 = .ok (.newarray .long, 2) := by decide +kernel
theorem dFi_init_25 : decode bFi_init 25 = .ok (.putfield 19, 3) := by decide +kernel
theorem dFi_init_28 : decode bFi_init 28 = .ok (.aload_n 0, 1) := by decide +kernel
theorem dFi_init_29 : decode bFi_init 29 = .ok (.iload_n 1, 1) := by decide +kernel
theorem dFi_init_30 : decode bFi_init 30 = .ok (.newarray .int, 2) := by decide +kernel
theorem dFi_init_32 : decode bFi_init 32 = .ok (.putfield 22, 3) := by decide +kernel
theorem dFi_init_35 : decode bFi_init 35 = .ok (.aload_n 0, 1) := by decide +kernel
theorem dFi_init_36 : decode bFi_init 36 = .ok (.iconst 0, 1) := by decide +kernel
theorem dFi_init_37 : decode bFi_init 37 = .ok (.putfield 25, 3) := by decide +kernel
theorem dFi_init_40 : decode bFi_init 40 = .ok (.return_, 1) := by decide +kernel
theorem dCa_init_0 : decode bCa_init 0 = .ok (.aload_n 0, 1) := by decide +kernel
theorem dCa_init_1 : decode bCa_init 1 = .ok (.invokespecial 3, 3) := by decide +kernel
theorem dCa_init_4 : decode bCa_init 4 = .ok (.aload_n 0, 1) := by decide +kernel
theorem dCa_init_5 : decode bCa_init 5 = .ok (.iconst 4, 1) := by decide +kernel
theorem dCa_init_6 : decode bCa_init 6 = .ok (.newarray .int, 2) := by decide +kernel
theorem dCa_init_8 : decode bCa_init 8 = .ok (.putfield 9, 3) := by decide +kernel
theorem dCa_init_11 : decode bCa_init 11 = .ok (.aload_n 0, 1) := by decide +kernel
theorem dCa_init_12 : decode bCa_init 12 = .ok (.iconst 4, 1) := by decide +kernel
theorem dCa_init_13 : decode bCa_init 13 = .ok (.newarray .int, 2) := by decide +kernel
theorem dCa_init_15 : decode bCa_init 15 = .ok (.putfield 15, 3) := by decide +kernel
theorem dCa_init_18 : decode bCa_init 18 = .ok (.aload_n 0, 1) := by decide +kernel
theorem dCa_init_19 : decode bCa_init 19 = .ok (.iload_n 1, 1) := by decide +kernel
theorem dCa_init_20 : decode bCa_init 20 = .ok (.iconst 4, 1) := by decide +kernel
theorem dCa_init_21 : decode bCa_init 21 = .ok (.imul, 1) := by decide +kernel
theorem dCa_init_22 : decode bCa_init 22 = .ok (.newarray .int, 2) := by decide +kernel
theorem dCa_init_24 : decode bCa_init 24 = .ok (.putfield 18, 3) := by decide +kernel
theorem dCa_init_27 : decode bCa_init 27 = .ok (.return_, 1) := by decide +kernel
theorem dCL_told_0 : decode bCL_told 0 = .ok (.iload_n 1, 1) := by decide +kernel
theorem dCL_told_1 : decode bCL_told 1 = .ok (.tableswitch 80 0 4 #[35, 40, 45, 64, 72], 35) := by decide +kernel
theorem dCL_told_36 : decode bCL_told 36 = .ok (.aload_n 0, 1) := by decide +kernel
theorem dCL_told_37 : decode bCL_told 37 = .ok (.getfield 13, 3) := by decide +kernel
theorem dCL_told_40 : decode bCL_told 40 = .ok (.ireturn, 1) := by decide +kernel
theorem dCL_told_41 : decode bCL_told 41 = .ok (.aload_n 0, 1) := by decide +kernel
theorem dCL_told_42 : decode bCL_told 42 = .ok (.getfield 17, 3) := by decide +kernel
theorem dCL_told_45 : decode bCL_told 45 = .ok (.ireturn, 1) := by decide +kernel
theorem dCL_told_46 : decode bCL_told 46 = .ok (.aload_n 0, 1) := by decide +kernel
theorem dCL_told_47 : decode bCL_told 47 = .ok (.getfield 32, 3) := by decide +kernel
theorem dCL_told_50 : decode bCL_told 50 = .ok (.aload_n 0, 1) := by decide +kernel
theorem dCL_told_51 : decode bCL_told 51 = .ok (.getfield 20, 3) := by decide +kernel
theorem dCL_told_54 : decode bCL_told 54 = .ok (.invokevirtual 123, 3) := by decide +kernel
theorem dCL_told_57 : decode bCL_told 57 = .ok (.aload_n 0, 1) := by decide +kernel
theorem dCL_told_58 : decode bCL_told 58 = .ok (.getfield 32, 3) := by decide +kernel
theorem dCL_told_61 : decode bCL_told 61 = .ok (.getfield 193, 3) := by decide +kernel
theorem dCL_told_64 : decode bCL_told 64 = .ok (.ireturn, 1) := by decide +kernel
theorem dCL_told_65 : decode bCL_told 65 = .ok (.aload_n 0, 1) := by decide +kernel
theorem dCL_told_66 : decode bCL_told 66 = .ok (.getfield 60, 3) := by decide +kernel
theorem dCL_told_69 : decode bCL_told 69 = .ok (.getfield 144, 3) := by decide +kernel
theorem dCL_told_72 : decode bCL_told 72 = .ok (.ireturn, 1) := by decide +kernel
theorem dCL_told_73 : decode bCL_told 73 = .ok (.aload_n 0, 1) := by decide +kernel
theorem dCL_told_74 : decode bCL_told 74 = .ok (.getfield 53, 3) := by decide +kernel
theorem dCL_told_77 : decode bCL_told 77 = .ok (.getfield 118, 3) := by decide +kernel
theorem dCL_told_80 : decode bCL_told 80 = .ok (.ireturn, 1) := by decide +kernel
theorem dCL_told_81 : decode bCL_told 81 = .ok (.iconst (-1), 1) := by decide +kernel
theorem dCL_told_82 : decode bCL_told 82 = .ok (.ireturn, 1) := by decide +kernel
theorem dSh_gather_0 : decode bSh_gather 0 = .ok (.aload_n 0, 1) := by decide +kernel
theorem dSh_gather_1 : decode bSh_gather 1 = .ok (.getfield 29, 3) := by decide +kernel
theorem dSh_gather_4 : decode bSh_gather 4 = .ok (.ifCond .ne 4, 3) := by decide +kernel
theorem dSh_gather_7 : decode bSh_gather 7 = .ok (.return_, 1) := by decide +kernel
theorem dSh_gather_8 : decode bSh_gather 8 = .ok (.iconst 0, 1) := by decide +kernel
theorem dSh_gather_9 : decode bSh_gather 9 = .ok (.istore_n 2, 1) := by decide +kernel
theorem dSh_gather_10 : decode bSh_gather 10 = .ok (.iload_n 2, 1) := by decide +kernel
theorem dSh_gather_11 : decode bSh_gather 11 = .ok (.aload_n 0, 1) := by decide +kernel
theorem dSh_gather_12 : decode bSh_gather 12 = .ok (.getfield 21, 3) := by decide +kernel
theorem dSh_gather_15 : decode bSh_gather 15 = .ok (.arraylength, 1) := by decide +kernel
theorem dSh_gather_16 : decode bSh_gather 16 = .ok (.if_icmp .ge 29, 3) := by decide +kernel
theorem dSh_gather_19 : decode bSh_gather 19 = .ok (.aload_n 0, 1) := by decide +kernel
theorem dSh_gather_20 : decode bSh_gather 20 = .ok (.getfield 21, 3) := by decide +kernel
theorem dSh_gather_23 : decode bSh_gather 23 = .ok (.iload_n 2, 1) := by decide +kernel
theorem dSh_gather_24 : decode bSh_gather 24 = .ok (.aload_n 1, 1) := by decide +kernel
theorem dSh_gather_25 : decode bSh_gather 25 = .ok (.iload_n 2, 1) := by decide +kernel
theorem dSh_gather_26 : decode bSh_gather 26 = .ok (.iaload, 1) := by decide +kernel
theorem dSh_gather_27 : decode bSh_gather 27 = .ok (.i2l, 1) := by decide +kernel
theorem dSh_gather_28 : decode bSh_gather 28 = .ok (.ldc2_w 33, 3) := by decide +kernel
theorem dSh_gather_31 : decode bSh_gather 31 = .ok (.land, 1) := by decide +kernel
theorem dSh_gather_32 : decode bSh_gather 32 = .ok (.bipush 10, 2) := by decide +kernel
theorem dSh_gather_34 : decode bSh_gather 34 = .ok (.lshl, 1) := by decide +kernel
theorem dSh_gather_35 : decode bSh_gather 35 = .ok (.iload_n 2, 1) := by decide +kernel
theorem dSh_gather_36 : decode bSh_gather 36 = .ok (.i2l, 1) := by decide +kernel
theorem dSh_gather_37 : decode bSh_gather 37 = .ok (.lor, 1) := by decide +kernel
theorem dSh_gather_38 : decode bSh_gather 38 = .ok (.lastore, 1) := by decide +kernel
theorem dSh_gather_39 : decode bSh_gather 39 = .ok (.iinc 2 1, 3) := by decide +kernel
theorem dSh_gather_42 : decode bSh_gather 42 = .ok (.goto (-32), 3) := by decide +kernel
theorem dSh_gather_45 : decode bSh_gather 45 = .ok (.aload_n 0, 1) := by decide +kernel
theorem dSh_gather_46 : decode bSh_gather 46 = .ok (.getfield 21, 3) := by decide +kernel
theorem dSh_gather_49 : decode bSh_gather 49 = .ok (.iconst 0, 1) := by decide +kernel
theorem dSh_gather_50 : decode bSh_gather 50 = .ok (.aload_n 0, 1) := by decide +kernel
theorem dSh_gather_51 : decode bSh_gather 51 = .ok (.getfield 21, 3) := by decide +kernel
theorem dSh_gather_54 : decode bSh_gather 54 = .ok (.arraylength, 1) := by decide +kernel
theorem dSh_gather_55 : decode bSh_gather 55 = .ok (.invokestatic 35, 3) := by decide +kernel
theorem dSh_gather_58 : decode bSh_gather 58 = .ok (.aload_n 0, 1) := by decide +kernel
theorem dSh_gather_59 : decode bSh_gather 59 = .ok (.iconst 0, 1) := by decide +kernel
theorem dSh_gather_60 : decode bSh_gather 60 = .ok (.putfield 25, 3) := by decide +kernel
theorem dSh_gather_63 : decode bSh_gather 63 = .ok (.iconst 0, 1) := by decide +kernel
theorem dSh_gather_64 : decode bSh_gather 64 = .ok (.istore_n 2, 1) := by decide +kernel
theorem dSh_gather_65 : decode bSh_gather 65 = .ok (.iload_n 2, 1) := by decide +kernel
theorem dSh_gather_66 : decode bSh_gather 66 = .ok (.aload_n 0, 1) := by decide +kernel
theorem dSh_gather_67 : decode bSh_gather 67 = .ok (.getfield 21, 3) := by decide +kernel
theorem dSh_gather_70 : decode bSh_gather 70 = .ok (.arraylength, 1) := by decide +kernel
theorem dSh_gather_71 : decode bSh_gather 71 = .ok (.if_icmp .ge 40, 3) := by decide +kernel
theorem dSh_gather_74 : decode bSh_gather 74 = .ok (.aload_n 0, 1) := by decide +kernel
theorem dSh_gather_75 : decode bSh_gather 75 = .ok (.getfield 21, 3) := by decide +kernel
theorem dSh_gather_78 : decode bSh_gather 78 = .ok (.iload_n 2, 1) := by decide +kernel
theorem dSh_gather_79 : decode bSh_gather 79 = .ok (.laload, 1) := by decide +kernel
theorem dSh_gather_80 : decode bSh_gather 80 = .ok (.ldc2_w 39, 3) := by decide +kernel
theorem dSh_gather_83 : decode bSh_gather 83 = .ok (.land, 1) := by decide +kernel
theorem dSh_gather_84 : decode bSh_gather 84 = .ok (.l2i, 1) := by decide +kernel
theorem dSh_gather_85 : decode bSh_gather 85 = .ok (.istore_n 3, 1) := by decide +kernel
theorem dSh_gather_86 : decode bSh_gather 86 = .ok (.aload_n 0, 1) := by decide +kernel
theorem dSh_gather_87 : decode bSh_gather 87 = .ok (.aload_n 1, 1) := by decide +kernel
theorem dSh_gather_88 : decode bSh_gather 88 = .ok (.iload_n 3, 1) := by decide +kernel
theorem dSh_gather_89 : decode bSh_gather 89 = .ok (.iaload, 1) := by decide +kernel
theorem dSh_gather_90 : decode bSh_gather 90 = .ok (.invokevirtual 41, 3) := by decide +kernel
theorem dSh_gather_93 : decode bSh_gather 93 = .ok (.aload_n 0, 1) := by decide +kernel
theorem dSh_gather_94 : decode bSh_gather 94 = .ok (.getfield 18, 3) := by decide +kernel
theorem dSh_gather_97 : decode bSh_gather 97 = .ok (.iload_n 3, 1) := by decide +kernel
theorem dSh_gather_98 : decode bSh_gather 98 = .ok (.aload_n 0, 1) := by decide +kernel
theorem dSh_gather_99 : decode bSh_gather 99 = .ok (.getfield 25, 3) := by decide +kernel
theorem dSh_gather_102 : decode bSh_gather 102 = .ok (.iconst 1, 1) := by decide +kernel
theorem dSh_gather_103 : decode bSh_gather 103 = .ok (.isub, 1) := by decide +kernel
theorem dSh_gather_104 : decode bSh_gather 104 = .ok (.iastore, 1) := by decide +kernel
theorem dSh_gather_105 : decode bSh_gather 105 = .ok (.iinc 2 1, 3) := by decide +kernel
theorem dSh_gather_108 : decode bSh_gather 108 = .ok (.goto (-43), 3) := by decide +kernel
theorem dSh_gather_111 : decode bSh_gather 111 = .ok (.aload_n 0, 1) := by decide +kernel
theorem dSh_gather_112 : decode bSh_gather 112 = .ok (.iconst 0, 1) := by decide +kernel
theorem dSh_gather_113 : decode bSh_gather 113 = .ok (.putfield 29, 3) := by decide +kernel
theorem dSh_gather_116 : decode bSh_gather 116 = .ok (.return_, 1) := by decide +kernel
theorem dCL_sortKeys_0 : decode bCL_sortKeys 0 = .ok (.iload_n 2, 1) := by decide +kernel
theorem dCL_sortKeys_1 : decode bCL_sortKeys 1 = .ok (.iload_n 1, 1) := by decide +kernel
theorem dCL_sortKeys_2 : decode bCL_sortKeys 2 = .ok (.isub, 1) := by decide +kernel
theorem dCL_sortKeys_3 : decode bCL_sortKeys 3 = .ok (.istore_n 3, 1) := by decide +kernel
theorem dCL_sortKeys_4 : decode bCL_sortKeys 4 = .ok (.iload_n 3, 1) := by decide +kernel
theorem dCL_sortKeys_5 : decode bCL_sortKeys 5 = .ok (.iconst 2, 1) := by decide +kernel
theorem dCL_sortKeys_6 : decode bCL_sortKeys 6 = .ok (.idiv, 1) := by decide +kernel
theorem dCL_sortKeys_7 : decode bCL_sortKeys 7 = .ok (.iconst 1, 1) := by decide +kernel
theorem dCL_sortKeys_8 : decode bCL_sortKeys 8 = .ok (.isub, 1) := by decide +kernel
theorem dCL_sortKeys_9 : decode bCL_sortKeys 9 = .ok (.istore 4, 2) := by decide +kernel
theorem dCL_sortKeys_11 : decode bCL_sortKeys 11 = .ok (.iload 4, 2) := by decide +kernel
theorem dCL_sortKeys_13 : decode bCL_sortKeys 13 = .ok (.ifCond .lt 17, 3) := by decide +kernel
theorem dCL_sortKeys_16 : decode bCL_sortKeys 16 = .ok (.aload_n 0, 1) := by decide +kernel
theorem dCL_sortKeys_17 : decode bCL_sortKeys 17 = .ok (.iload_n 1, 1) := by decide +kernel
theorem dCL_sortKeys_18 : decode bCL_sortKeys 18 = .ok (.iload 4, 2) := by decide +kernel
theorem dCL_sortKeys_20 : decode bCL_sortKeys 20 = .ok (.iload_n 3, 1) := by decide +kernel
theorem dCL_sortKeys_21 : decode bCL_sortKeys 21 = .ok (.invokestatic 285, 3) := by decide +kernel
theorem dCL_sortKeys_24 : decode bCL_sortKeys 24 = .ok (.iinc 4 (-1), 3) := by decide +kernel
theorem dCL_sortKeys_27 : decode bCL_sortKeys 27 = .ok (.goto (-16), 3) := by decide +kernel
theorem dCL_sortKeys_30 : decode bCL_sortKeys 30 = .ok (.iload_n 3, 1) := by decide +kernel
theorem dCL_sortKeys_31 : decode bCL_sortKeys 31 = .ok (.iconst 1, 1) := by decide +kernel
theorem dCL_sortKeys_32 : decode bCL_sortKeys 32 = .ok (.isub, 1) := by decide +kernel
theorem dCL_sortKeys_33 : decode bCL_sortKeys 33 = .ok (.istore 4, 2) := by decide +kernel
theorem dCL_sortKeys_35 : decode bCL_sortKeys 35 = .ok (.iload 4, 2) := by decide +kernel
theorem dCL_sortKeys_37 : decode bCL_sortKeys 37 = .ok (.ifCond .le 39, 3) := by decide +kernel
theorem dCL_sortKeys_40 : decode bCL_sortKeys 40 = .ok (.aload_n 0, 1) := by decide +kernel
theorem dCL_sortKeys_41 : decode bCL_sortKeys 41 = .ok (.iload_n 1, 1) := by decide +kernel
theorem dCL_sortKeys_42 : decode bCL_sortKeys 42 = .ok (.laload, 1) := by decide +kernel
theorem dCL_sortKeys_43 : decode bCL_sortKeys 43 = .ok (.lstore 5, 2) := by decide +kernel
theorem dCL_sortKeys_45 : decode bCL_sortKeys 45 = .ok (.aload_n 0, 1) := by decide +kernel
theorem dCL_sortKeys_46 : decode bCL_sortKeys 46 = .ok (.iload_n 1, 1) := by decide +kernel
theorem dCL_sortKeys_47 : decode bCL_sortKeys 47 = .ok (.aload_n 0, 1) := by decide +kernel
theorem dCL_sortKeys_48 : decode bCL_sortKeys 48 = .ok (.iload_n 1, 1) := by decide +kernel
theorem dCL_sortKeys_49 : decode bCL_sortKeys 49 = .ok (.iload 4, 2) := by decide +kernel
theorem dCL_sortKeys_51 : decode bCL_sortKeys 51 = .ok (.iadd, 1) := by decide +kernel
theorem dCL_sortKeys_52 : decode bCL_sortKeys 52 = .ok (.laload, 1) := by decide +kernel
theorem dCL_sortKeys_53 : decode bCL_sortKeys 53 = .ok (.lastore, 1) := by decide +kernel
theorem dCL_sortKeys_54 : decode bCL_sortKeys 54 = .ok (.aload_n 0, 1) := by decide +kernel
theorem dCL_sortKeys_55 : decode bCL_sortKeys 55 = .ok (.iload_n 1, 1) := by decide +kernel
theorem dCL_sortKeys_56 : decode bCL_sortKeys 56 = .ok (.iload 4, 2) := by decide +kernel
theorem dCL_sortKeys_58 : decode bCL_sortKeys 58 = .ok (.iadd, 1) := by decide +kernel
theorem dCL_sortKeys_59 : decode bCL_sortKeys 59 = .ok (.lload 5, 2) := by decide +kernel
theorem dCL_sortKeys_61 : decode bCL_sortKeys 61 = .ok (.lastore, 1) := by decide +kernel
theorem dCL_sortKeys_62 : decode bCL_sortKeys 62 = .ok (.aload_n 0, 1) := by decide +kernel
theorem dCL_sortKeys_63 : decode bCL_sortKeys 63 = .ok (.iload_n 1, 1) := by decide +kernel
theorem dCL_sortKeys_64 : decode bCL_sortKeys 64 = .ok (.iconst 0, 1) := by decide +kernel
theorem dCL_sortKeys_65 : decode bCL_sortKeys 65 = .ok (.iload 4, 2) := by decide +kernel
theorem dCL_sortKeys_67 : decode bCL_sortKeys 67 = .ok (.invokestatic 285, 3) := by decide +kernel
theorem dCL_sortKeys_70 : decode bCL_sortKeys 70 = .ok (.iinc 4 (-1), 3) := by decide +kernel
theorem dCL_sortKeys_73 : decode bCL_sortKeys 73 = .ok (.goto (-38), 3) := by decide +kernel
theorem dCL_sortKeys_76 : decode bCL_sortKeys 76 = .ok (.return_, 1) := by decide +kernel
theorem dCL_sink_0 : decode bCL_sink 0 = .ok (.aload_n 0, 1) := by decide +kernel
theorem dCL_sink_1 : decode bCL_sink 1 = .ok (.iload_n 1, 1) := by decide +kernel
theorem dCL_sink_2 : decode bCL_sink 2 = .ok (.iload_n 2, 1) := by decide +kernel
theorem dCL_sink_3 : decode bCL_sink 3 = .ok (.iadd, 1) := by decide +kernel
theorem dCL_sink_4 : decode bCL_sink 4 = .ok (.laload, 1) := by decide +kernel
theorem dCL_sink_5 : decode bCL_sink 5 = .ok (.lstore 4, 2) := by decide +kernel
theorem dCL_sink_7 : decode bCL_sink 7 = .ok (.iload_n 2, 1) := by decide +kernel
theorem dCL_sink_8 : decode bCL_sink 8 = .ok (.istore 6, 2) := by decide +kernel
theorem dCL_sink_10 : decode bCL_sink 10 = .ok (.iconst 2, 1) := by decide +kernel
theorem dCL_sink_11 : decode bCL_sink 11 = .ok (.iload_n 2, 1) := by decide +kernel
theorem dCL_sink_12 : decode bCL_sink 12 = .ok (.imul, 1) := by decide +kernel
theorem dCL_sink_13 : decode bCL_sink 13 = .ok (.iconst 1, 1) := by decide +kernel
theorem dCL_sink_14 : decode bCL_sink 14 = .ok (.iadd, 1) := by decide +kernel
theorem dCL_sink_15 : decode bCL_sink 15 = .ok (.istore 7, 2) := by decide +kernel
theorem dCL_sink_17 : decode bCL_sink 17 = .ok (.iload 7, 2) := by decide +kernel
theorem dCL_sink_19 : decode bCL_sink 19 = .ok (.iload_n 3, 1) := by decide +kernel
theorem dCL_sink_20 : decode bCL_sink 20 = .ok (.if_icmp .ge 74, 3) := by decide +kernel
theorem dCL_sink_23 : decode bCL_sink 23 = .ok (.iload 7, 2) := by decide +kernel
theorem dCL_sink_25 : decode bCL_sink 25 = .ok (.iconst 1, 1) := by decide +kernel
theorem dCL_sink_26 : decode bCL_sink 26 = .ok (.iadd, 1) := by decide +kernel
theorem dCL_sink_27 : decode bCL_sink 27 = .ok (.iload_n 3, 1) := by decide +kernel
theorem dCL_sink_28 : decode bCL_sink 28 = .ok (.if_icmp .ge 24, 3) := by decide +kernel
theorem dCL_sink_31 : decode bCL_sink 31 = .ok (.aload_n 0, 1) := by decide +kernel
theorem dCL_sink_32 : decode bCL_sink 32 = .ok (.iload_n 1, 1) := by decide +kernel
theorem dCL_sink_33 : decode bCL_sink 33 = .ok (.iload 7, 2) := by decide +kernel
theorem dCL_sink_35 : decode bCL_sink 35 = .ok (.iadd, 1) := by decide +kernel
theorem dCL_sink_36 : decode bCL_sink 36 = .ok (.laload, 1) := by decide +kernel
theorem dCL_sink_37 : decode bCL_sink 37 = .ok (.aload_n 0, 1) := by decide +kernel
theorem dCL_sink_38 : decode bCL_sink 38 = .ok (.iload_n 1, 1) := by decide +kernel
theorem dCL_sink_39 : decode bCL_sink 39 = .ok (.iload 7, 2) := by decide +kernel
theorem dCL_sink_41 : decode bCL_sink 41 = .ok (.iadd, 1) := by decide +kernel
theorem dCL_sink_42 : decode bCL_sink 42 = .ok (.iconst 1, 1) := by decide +kernel
theorem dCL_sink_43 : decode bCL_sink 43 = .ok (.iadd, 1) := by decide +kernel
theorem dCL_sink_44 : decode bCL_sink 44 = .ok (.laload, 1) := by decide +kernel
theorem dCL_sink_45 : decode bCL_sink 45 = .ok (.lcmp, 1) := by decide +kernel
theorem dCL_sink_46 : decode bCL_sink 46 = .ok (.ifCond .ge 6, 3) := by decide +kernel
theorem dCL_sink_49 : decode bCL_sink 49 = .ok (.iinc 7 1, 3) := by decide +kernel
theorem dCL_sink_52 : decode bCL_sink 52 = .ok (.aload_n 0, 1) := by decide +kernel
theorem dCL_sink_53 : decode bCL_sink 53 = .ok (.iload_n 1, 1) := by decide +kernel
theorem dCL_sink_54 : decode bCL_sink 54 = .ok (.iload 7, 2) := by decide +kernel
theorem dCL_sink_56 : decode bCL_sink 56 = .ok (.iadd, 1) := by decide +kernel
theorem dCL_sink_57 : decode bCL_sink 57 = .ok (.laload, 1) := by decide +kernel
theorem dCL_sink_58 : decode bCL_sink 58 = .ok (.lload 4, 2) := by decide +kernel
theorem dCL_sink_60 : decode bCL_sink 60 = .ok (.lcmp, 1) := by decide +kernel
theorem dCL_sink_61 : decode bCL_sink 61 = .ok (.ifCond .gt 6, 3) := by decide +kernel
theorem dCL_sink_64 : decode bCL_sink 64 = .ok (.goto 30, 3) := by decide +kernel
theorem dCL_sink_67 : decode bCL_sink 67 = .ok (.aload_n 0, 1) := by decide +kernel
theorem dCL_sink_68 : decode bCL_sink 68 = .ok (.iload_n 1, 1) := by decide +kernel
theorem dCL_sink_69 : decode bCL_sink 69 = .ok (.iload 6, 2) := by decide +kernel
theorem dCL_sink_71 : decode bCL_sink 71 = .ok (.iadd, 1) := by decide +kernel
theorem dCL_sink_72 : decode bCL_sink 72 = .ok (.aload_n 0, 1) := by decide +kernel
theorem dCL_sink_73 : decode bCL_sink 73 = .ok (.iload_n 1, 1) := by decide +kernel
theorem dCL_sink_74 : decode bCL_sink 74 = .ok (.iload 7, 2) := by decide +kernel
theorem dCL_sink_76 : decode bCL_sink 76 = .ok (.iadd, 1) := by decide +kernel
theorem dCL_sink_77 : decode bCL_sink 77 = .ok (.laload, 1) := by decide +kernel
theorem dCL_sink_78 : decode bCL_sink 78 = .ok (.lastore, 1) := by decide +kernel
theorem dCL_sink_79 : decode bCL_sink 79 = .ok (.iload 7, 2) := by decide +kernel
theorem dCL_sink_81 : decode bCL_sink 81 = .ok (.istore 6, 2) := by decide +kernel
theorem dCL_sink_83 : decode bCL_sink 83 = .ok (.iconst 2, 1) := by decide +kernel
theorem dCL_sink_84 : decode bCL_sink 84 = .ok (.iload 7, 2) := by decide +kernel
theorem dCL_sink_86 : decode bCL_sink 86 = .ok (.imul, 1) := by decide +kernel
theorem dCL_sink_87 : decode bCL_sink 87 = .ok (.iconst 1, 1) := by decide +kernel
theorem dCL_sink_88 : decode bCL_sink 88 = .ok (.iadd, 1) := by decide +kernel
theorem dCL_sink_89 : decode bCL_sink 89 = .ok (.istore 7, 2) := by decide +kernel
theorem dCL_sink_91 : decode bCL_sink 91 = .ok (.goto (-74), 3) := by decide +kernel
theorem dCL_sink_94 : decode bCL_sink 94 = .ok (.aload_n 0, 1) := by decide +kernel
theorem dCL_sink_95 : decode bCL_sink 95 = .ok (.iload_n 1, 1) := by decide +kernel
theorem dCL_sink_96 : decode bCL_sink 96 = .ok (.iload 6, 2) := by decide +kernel
theorem dCL_sink_98 : decode bCL_sink 98 = .ok (.iadd, 1) := by decide +kernel
theorem dCL_sink_99 : decode bCL_sink 99 = .ok (.lload 4, 2) := by decide +kernel
theorem dCL_sink_101 : decode bCL_sink 101 = .ok (.lastore, 1) := by decide +kernel
theorem dCL_sink_102 : decode bCL_sink 102 = .ok (.return_, 1) := by decide +kernel
theorem dSh_enlist_0 : decode bSh_enlist 0 = .ok (.aload_n 0, 1) := by decide +kernel
theorem dSh_enlist_1 : decode bSh_enlist 1 = .ok (.getfield 25, 3) := by decide +kernel
theorem dSh_enlist_4 : decode bSh_enlist 4 = .ok (.ifCond .eq 18, 3) := by decide +kernel
theorem dSh_enlist_7 : decode bSh_enlist 7 = .ok (.aload_n 0, 1) := by decide +kernel
theorem dSh_enlist_8 : decode bSh_enlist 8 = .ok (.getfield 9, 3) := by decide +kernel
theorem dSh_enlist_11 : decode bSh_enlist 11 = .ok (.aload_n 0, 1) := by decide +kernel
theorem dSh_enlist_12 : decode bSh_enlist 12 = .ok (.getfield 25, 3) := by decide +kernel
theorem dSh_enlist_15 : decode bSh_enlist 15 = .ok (.iconst 1, 1) := by decide +kernel
theorem dSh_enlist_16 : decode bSh_enlist 16 = .ok (.isub, 1) := by decide +kernel
theorem dSh_enlist_17 : decode bSh_enlist 17 = .ok (.iaload, 1) := by decide +kernel
theorem dSh_enlist_18 : decode bSh_enlist 18 = .ok (.iload_n 1, 1) := by decide +kernel
theorem dSh_enlist_19 : decode bSh_enlist 19 = .ok (.if_icmp .eq 33, 3) := by decide +kernel
theorem dSh_enlist_22 : decode bSh_enlist 22 = .ok (.aload_n 0, 1) := by decide +kernel
theorem dSh_enlist_23 : decode bSh_enlist 23 = .ok (.getfield 9, 3) := by decide +kernel
theorem dSh_enlist_26 : decode bSh_enlist 26 = .ok (.aload_n 0, 1) := by decide +kernel
theorem dSh_enlist_27 : decode bSh_enlist 27 = .ok (.getfield 25, 3) := by decide +kernel
theorem dSh_enlist_30 : decode bSh_enlist 30 = .ok (.iload_n 1, 1) := by decide +kernel
theorem dSh_enlist_31 : decode bSh_enlist 31 = .ok (.iastore, 1) := by decide +kernel
theorem dSh_enlist_32 : decode bSh_enlist 32 = .ok (.aload_n 0, 1) := by decide +kernel
theorem dSh_enlist_33 : decode bSh_enlist 33 = .ok (.getfield 15, 3) := by decide +kernel
theorem dSh_enlist_36 : decode bSh_enlist 36 = .ok (.aload_n 0, 1) := by decide +kernel
theorem dSh_enlist_37 : decode bSh_enlist 37 = .ok (.getfield 25, 3) := by decide +kernel
theorem dSh_enlist_40 : decode bSh_enlist 40 = .ok (.iconst 0, 1) := by decide +kernel
theorem dSh_enlist_41 : decode bSh_enlist 41 = .ok (.iastore, 1) := by decide +kernel
theorem dSh_enlist_42 : decode bSh_enlist 42 = .ok (.aload_n 0, 1) := by decide +kernel
theorem dSh_enlist_43 : decode bSh_enlist 43 = .ok (.dup, 1) := by decide +kernel
theorem dSh_enlist_44 : decode bSh_enlist 44 = .ok (.getfield 25, 3) := by decide +kernel
theorem dSh_enlist_47 : decode bSh_enlist 47 = .ok (.iconst 1, 1) := by decide +kernel
theorem dSh_enlist_48 : decode bSh_enlist 48 = .ok (.iadd, 1) := by decide +kernel
theorem dSh_enlist_49 : decode bSh_enlist 49 = .ok (.putfield 25, 3) := by decide +kernel
theorem dSh_enlist_52 : decode bSh_enlist 52 = .ok (.aload_n 0, 1) := by decide +kernel
theorem dSh_enlist_53 : decode bSh_enlist 53 = .ok (.getfield 15, 3) := by decide +kernel
theorem dSh_enlist_56 : decode bSh_enlist 56 = .ok (.aload_n 0, 1) := by decide +kernel
theorem dSh_enlist_57 : decode bSh_enlist 57 = .ok (.getfield 25, 3) := by decide +kernel
theorem dSh_enlist_60 : decode bSh_enlist 60 = .ok (.iconst 1, 1) := by decide +kernel
theorem dSh_enlist_61 : decode bSh_enlist 61 = .ok (.isub, 1) := by decide +kernel
theorem dSh_enlist_62 : decode bSh_enlist 62 = .ok (.dup2, 1) := by decide +kernel
theorem dSh_enlist_63 : decode bSh_enlist 63 = .ok (.iaload, 1) := by decide +kernel
theorem dSh_enlist_64 : decode bSh_enlist 64 = .ok (.iconst 1, 1) := by decide +kernel
theorem dSh_enlist_65 : decode bSh_enlist 65 = .ok (.iadd, 1) := by decide +kernel
theorem dSh_enlist_66 : decode bSh_enlist 66 = .ok (.iastore, 1) := by decide +kernel
theorem dSh_enlist_67 : decode bSh_enlist 67 = .ok (.return_, 1) := by decide +kernel
theorem dCL_clear_0 : decode bCL_clear 0 = .ok (.aload_n 0, 1) := by decide +kernel
theorem dCL_clear_1 : decode bCL_clear 1 = .ok (.getfield 20, 3) := by decide +kernel
theorem dCL_clear_4 : decode bCL_clear 4 = .ok (.iconst 0, 1) := by decide +kernel
theorem dCL_clear_5 : decode bCL_clear 5 = .ok (.invokestatic 194, 3) := by decide +kernel
theorem dCL_clear_8 : decode bCL_clear 8 = .ok (.aload_n 0, 1) := by decide +kernel
theorem dCL_clear_9 : decode bCL_clear 9 = .ok (.getfield 53, 3) := by decide +kernel
theorem dCL_clear_12 : decode bCL_clear 12 = .ok (.invokevirtual 200, 3) := by decide +kernel
theorem dCL_clear_15 : decode bCL_clear 15 = .ok (.aload_n 0, 1) := by decide +kernel
theorem dCL_clear_16 : decode bCL_clear 16 = .ok (.invokevirtual 94, 3) := by decide +kernel
theorem dCL_clear_19 : decode bCL_clear 19 = .ok (.return_, 1) := by decide +kernel
theorem dAr_fill_0 : decode bAr_fill 0 = .ok (.iconst 0, 1) := by decide +kernel
theorem dAr_fill_1 : decode bAr_fill 1 = .ok (.istore_n 2, 1) := by decide +kernel
theorem dAr_fill_2 : decode bAr_fill 2 = .ok (.aload_n 0, 1) := by decide +kernel
theorem dAr_fill_3 : decode bAr_fill 3 = .ok (.arraylength, 1) := by decide +kernel
theorem dAr_fill_4 : decode bAr_fill 4 = .ok (.istore_n 3, 1) := by decide +kernel
theorem dAr_fill_5 : decode bAr_fill 5 = .ok (.iload_n 2, 1) := by decide +kernel
theorem dAr_fill_6 : decode bAr_fill 6 = .ok (.iload_n 3, 1) := by decide +kernel
theorem dAr_fill_7 : decode bAr_fill 7 = .ok (.if_icmp .ge 13, 3) := by decide +kernel
theorem dAr_fill_10 : decode bAr_fill 10 = .ok (.aload_n 0, 1) := by decide +kernel
theorem dAr_fill_11 : decode bAr_fill 11 = .ok (.iload_n 2, 1) := by decide +kernel
theorem dAr_fill_12 : decode bAr_fill 12 = .ok (.iload_n 1, 1) := by decide +kernel
theorem dAr_fill_13 : decode bAr_fill 13 = .ok (.iastore, 1) := by decide +kernel
theorem dAr_fill_14 : decode bAr_fill 14 = .ok (.iinc 2 1, 3) := by decide +kernel
theorem dAr_fill_17 : decode bAr_fill 17 = .ok (.goto (-12), 3) := by decide +kernel
theorem dAr_fill_20 : decode bAr_fill 20 = .ok (.return_, 1) := by decide +kernel
theorem dOf_withdrawAll_0 : decode bOf_withdrawAll 0 = .ok (.iconst 0, 1) := by decide +kernel
theorem dOf_withdrawAll_1 : decode bOf_withdrawAll 1 = .ok (.istore_n 1, 1) := by decide +kernel
theorem dOf_withdrawAll_2 : decode bOf_withdrawAll 2 = .ok (.iload_n 1, 1) := by decide +kernel
theorem dOf_withdrawAll_3 : decode bOf_withdrawAll 3 = .ok (.bipush 64, 2) := by decide +kernel
theorem dOf_withdrawAll_5 : decode bOf_withdrawAll 5 = .ok (.if_icmp .ge 14, 3) := by decide +kernel
theorem dOf_withdrawAll_8 : decode bOf_withdrawAll 8 = .ok (.aload_n 0, 1) := by decide +kernel
theorem dOf_withdrawAll_9 : decode bOf_withdrawAll 9 = .ok (.iload_n 1, 1) := by decide +kernel
theorem dOf_withdrawAll_10 : decode bOf_withdrawAll 10 = .ok (.invokevirtual 23, 3) := by decide +kernel
theorem dOf_withdrawAll_13 : decode bOf_withdrawAll 13 = .ok (.iinc 1 1, 3) := by decide +kernel
theorem dOf_withdrawAll_16 : decode bOf_withdrawAll 16 = .ok (.goto (-14), 3) := by decide +kernel
theorem dOf_withdrawAll_19 : decode bOf_withdrawAll 19 = .ok (.return_, 1) := by decide +kernel
theorem dOf_withdraw_0 : decode bOf_withdraw 0 = .ok (.aload_n 0, 1) := by decide +kernel
theorem dOf_withdraw_1 : decode bOf_withdraw 1 = .ok (.getfield 15, 3) := by decide +kernel
theorem dOf_withdraw_4 : decode bOf_withdraw 4 = .ok (.iload_n 1, 1) := by decide +kernel
theorem dOf_withdraw_5 : decode bOf_withdraw 5 = .ok (.baload, 1) := by decide +kernel
theorem dOf_withdraw_6 : decode bOf_withdraw 6 = .ok (.ifCond .eq 20, 3) := by decide +kernel
theorem dOf_withdraw_9 : decode bOf_withdraw 9 = .ok (.aload_n 0, 1) := by decide +kernel
theorem dOf_withdraw_10 : decode bOf_withdraw 10 = .ok (.getfield 15, 3) := by decide +kernel
theorem dOf_withdraw_13 : decode bOf_withdraw 13 = .ok (.iload_n 1, 1) := by decide +kernel
theorem dOf_withdraw_14 : decode bOf_withdraw 14 = .ok (.iconst 0, 1) := by decide +kernel
theorem dOf_withdraw_15 : decode bOf_withdraw 15 = .ok (.bastore, 1) := by decide +kernel
theorem dOf_withdraw_16 : decode bOf_withdraw 16 = .ok (.aload_n 0, 1) := by decide +kernel
theorem dOf_withdraw_17 : decode bOf_withdraw 17 = .ok (.dup, 1) := by decide +kernel
theorem dOf_withdraw_18 : decode bOf_withdraw 18 = .ok (.getfield 19, 3) := by decide +kernel
theorem dOf_withdraw_21 : decode bOf_withdraw 21 = .ok (.iconst 1, 1) := by decide +kernel
theorem dOf_withdraw_22 : decode bOf_withdraw 22 = .ok (.isub, 1) := by decide +kernel
theorem dOf_withdraw_23 : decode bOf_withdraw 23 = .ok (.putfield 19, 3) := by decide +kernel
theorem dOf_withdraw_26 : decode bOf_withdraw 26 = .ok (.return_, 1) := by decide +kernel
theorem dCL_forgetMade_0 : decode bCL_forgetMade 0 = .ok (.aload_n 0, 1) := by decide +kernel
theorem dCL_forgetMade_1 : decode bCL_forgetMade 1 = .ok (.getfield 32, 3) := by decide +kernel
theorem dCL_forgetMade_4 : decode bCL_forgetMade 4 = .ok (.iconst 1, 1) := by decide +kernel
theorem dCL_forgetMade_5 : decode bCL_forgetMade 5 = .ok (.putfield 218, 3) := by decide +kernel
theorem dCL_forgetMade_8 : decode bCL_forgetMade 8 = .ok (.aload_n 0, 1) := by decide +kernel
theorem dCL_forgetMade_9 : decode bCL_forgetMade 9 = .ok (.getfield 60, 3) := by decide +kernel
theorem dCL_forgetMade_12 : decode bCL_forgetMade 12 = .ok (.invokevirtual 127, 3) := by decide +kernel
theorem dCL_forgetMade_15 : decode bCL_forgetMade 15 = .ok (.return_, 1) := by decide +kernel
theorem dPa_drop_0 : decode bPa_drop 0 = .ok (.aload_n 0, 1) := by decide +kernel
theorem dPa_drop_1 : decode bPa_drop 1 = .ok (.iconst 0, 1) := by decide +kernel
theorem dPa_drop_2 : decode bPa_drop 2 = .ok (.putfield 15, 3) := by decide +kernel
theorem dPa_drop_5 : decode bPa_drop 5 = .ok (.return_, 1) := by decide +kernel
theorem dLw_cell_0 : decode bLw_cell 0 = .ok (.iload_n 1, 1) := by decide +kernel
theorem dLw_cell_1 : decode bLw_cell 1 = .ok (.aload_n 0, 1) := by decide +kernel
theorem dLw_cell_2 : decode bLw_cell 2 = .ok (.arraylength, 1) := by decide +kernel
theorem dLw_cell_3 : decode bLw_cell 3 = .ok (.if_icmp .ge 9, 3) := by decide +kernel
theorem dLw_cell_6 : decode bLw_cell 6 = .ok (.aload_n 0, 1) := by decide +kernel
theorem dLw_cell_7 : decode bLw_cell 7 = .ok (.iload_n 1, 1) := by decide +kernel
theorem dLw_cell_8 : decode bLw_cell 8 = .ok (.iaload, 1) := by decide +kernel
theorem dLw_cell_9 : decode bLw_cell 9 = .ok (.goto 4, 3) := by decide +kernel
theorem dLw_cell_12 : decode bLw_cell 12 = .ok (.iconst 0, 1) := by decide +kernel
theorem dLw_cell_13 : decode bLw_cell 13 = .ok (.ireturn, 1) := by decide +kernel
theorem dLw_put_0 : decode bLw_put 0 = .ok (.aload 7, 2) := by decide +kernel
theorem dLw_put_2 : decode bLw_put 2 = .ok (.iconst 0, 1) := by decide +kernel
theorem dLw_put_3 : decode bLw_put 3 = .ok (.aload_n 0, 1) := by decide +kernel
theorem dLw_put_4 : decode bLw_put 4 = .ok (.iload_n 1, 1) := by decide +kernel
theorem dLw_put_5 : decode bLw_put 5 = .ok (.iload_n 2, 1) := by decide +kernel
theorem dLw_put_6 : decode bLw_put 6 = .ok (.iload_n 3, 1) := by decide +kernel
theorem dLw_put_7 : decode bLw_put 7 = .ok (.iload 4, 2) := by decide +kernel
theorem dLw_put_9 : decode bLw_put 9 = .ok (.iload 5, 2) := by decide +kernel
theorem dLw_put_11 : decode bLw_put 11 = .ok (.iload 6, 2) := by decide +kernel
theorem dLw_put_13 : decode bLw_put 13 = .ok (.invokevirtual 7, 3) := by decide +kernel
theorem dLw_put_16 : decode bLw_put 16 = .ok (.ifCond .eq 7, 3) := by decide +kernel
theorem dLw_put_19 : decode bLw_put 19 = .ok (.lconst 1, 1) := by decide +kernel
theorem dLw_put_20 : decode bLw_put 20 = .ok (.goto 4, 3) := by decide +kernel
theorem dLw_put_23 : decode bLw_put 23 = .ok (.lconst 0, 1) := by decide +kernel
theorem dLw_put_24 : decode bLw_put 24 = .ok (.lastore, 1) := by decide +kernel
theorem dLw_put_25 : decode bLw_put 25 = .ok (.goto 11, 3) := by decide +kernel
theorem dLw_put_28 : decode bLw_put 28 = .ok (.astore 8, 2) := by decide +kernel
theorem dLw_put_30 : decode bLw_put 30 = .ok (.iconst 1, 1) := by decide +kernel
theorem dLw_put_31 : decode bLw_put 31 = .ok (.ireturn, 1) := by decide +kernel
theorem dLw_put_32 : decode bLw_put 32 = .ok (.astore 8, 2) := by decide +kernel
theorem dLw_put_34 : decode bLw_put 34 = .ok (.iconst 2, 1) := by decide +kernel
theorem dLw_put_35 : decode bLw_put 35 = .ok (.ireturn, 1) := by decide +kernel
theorem dLw_put_36 : decode bLw_put 36 = .ok (.iconst 0, 1) := by decide +kernel
theorem dLw_put_37 : decode bLw_put 37 = .ok (.ireturn, 1) := by decide +kernel
theorem dCL_put_0 : decode bCL_put 0 = .ok (.aload_n 0, 1) := by decide +kernel
theorem dCL_put_1 : decode bCL_put 1 = .ok (.iload_n 1, 1) := by decide +kernel
theorem dCL_put_2 : decode bCL_put 2 = .ok (.iload_n 2, 1) := by decide +kernel
theorem dCL_put_3 : decode bCL_put 3 = .ok (.invokevirtual 78, 3) := by decide +kernel
theorem dCL_put_6 : decode bCL_put 6 = .ok (.iload_n 3, 1) := by decide +kernel
theorem dCL_put_7 : decode bCL_put 7 = .ok (.iload 4, 2) := by decide +kernel
theorem dCL_put_9 : decode bCL_put 9 = .ok (.iload 5, 2) := by decide +kernel
theorem dCL_put_11 : decode bCL_put 11 = .ok (.iload 6, 2) := by decide +kernel
theorem dCL_put_13 : decode bCL_put 13 = .ok (.invokestatic 82, 3) := by decide +kernel
theorem dCL_put_16 : decode bCL_put 16 = .ok (.aload_n 0, 1) := by decide +kernel
theorem dCL_put_17 : decode bCL_put 17 = .ok (.iload_n 1, 1) := by decide +kernel
theorem dCL_put_18 : decode bCL_put 18 = .ok (.iload_n 2, 1) := by decide +kernel
theorem dCL_put_19 : decode bCL_put 19 = .ok (.invokevirtual 86, 3) := by decide +kernel
theorem dCL_put_22 : decode bCL_put 22 = .ok (.istore 7, 2) := by decide +kernel
theorem dCL_put_24 : decode bCL_put 24 = .ok (.iload_n 3, 1) := by decide +kernel
theorem dCL_put_25 : decode bCL_put 25 = .ok (.iload 4, 2) := by decide +kernel
theorem dCL_put_27 : decode bCL_put 27 = .ok (.iload 5, 2) := by decide +kernel
theorem dCL_put_29 : decode bCL_put 29 = .ok (.iload 6, 2) := by decide +kernel
theorem dCL_put_31 : decode bCL_put 31 = .ok (.invokestatic 90, 3) := by decide +kernel
theorem dCL_put_34 : decode bCL_put 34 = .ok (.istore 8, 2) := by decide +kernel
theorem dCL_put_36 : decode bCL_put 36 = .ok (.aload_n 0, 1) := by decide +kernel
theorem dCL_put_37 : decode bCL_put 37 = .ok (.getfield 20, 3) := by decide +kernel
theorem dCL_put_40 : decode bCL_put 40 = .ok (.iload 7, 2) := by decide +kernel
theorem dCL_put_42 : decode bCL_put 42 = .ok (.iaload, 1) := by decide +kernel
theorem dCL_put_43 : decode bCL_put 43 = .ok (.iload 8, 2) := by decide +kernel
theorem dCL_put_45 : decode bCL_put 45 = .ok (.if_icmp .eq 7, 3) := by decide +kernel
theorem dCL_put_48 : decode bCL_put 48 = .ok (.iconst 1, 1) := by decide +kernel
theorem dCL_put_49 : decode bCL_put 49 = .ok (.goto 4, 3) := by decide +kernel
theorem dCL_put_52 : decode bCL_put 52 = .ok (.iconst 0, 1) := by decide +kernel
theorem dCL_put_53 : decode bCL_put 53 = .ok (.istore 9, 2) := by decide +kernel
theorem dCL_put_55 : decode bCL_put 55 = .ok (.aload_n 0, 1) := by decide +kernel
theorem dCL_put_56 : decode bCL_put 56 = .ok (.getfield 20, 3) := by decide +kernel
theorem dCL_put_59 : decode bCL_put 59 = .ok (.iload 7, 2) := by decide +kernel
theorem dCL_put_61 : decode bCL_put 61 = .ok (.iload 8, 2) := by decide +kernel
theorem dCL_put_63 : decode bCL_put 63 = .ok (.iastore, 1) := by decide +kernel
theorem dCL_put_64 : decode bCL_put 64 = .ok (.aload_n 0, 1) := by decide +kernel
theorem dCL_put_65 : decode bCL_put 65 = .ok (.invokevirtual 94, 3) := by decide +kernel
theorem dCL_put_68 : decode bCL_put 68 = .ok (.iload 9, 2) := by decide +kernel
theorem dCL_put_70 : decode bCL_put 70 = .ok (.ireturn, 1) := by decide +kernel
theorem dCL_checkPlace_0 : decode bCL_checkPlace 0 = .ok (.iload_n 1, 1) := by decide +kernel
theorem dCL_checkPlace_1 : decode bCL_checkPlace 1 = .ok (.ifCond .lt 23, 3) := by decide +kernel
theorem dCL_checkPlace_4 : decode bCL_checkPlace 4 = .ok (.iload_n 1, 1) := by decide +kernel
theorem dCL_checkPlace_5 : decode bCL_checkPlace 5 = .ok (.aload_n 0, 1) := by decide +kernel
theorem dCL_checkPlace_6 : decode bCL_checkPlace 6 = .ok (.getfield 13, 3) := by decide +kernel
theorem dCL_checkPlace_9 : decode bCL_checkPlace 9 = .ok (.if_icmp .ge 15, 3) := by decide +kernel
theorem dCL_checkPlace_12 : decode bCL_checkPlace 12 = .ok (.iload_n 2, 1) := by decide +kernel
theorem dCL_checkPlace_13 : decode bCL_checkPlace 13 = .ok (.ifCond .lt 11, 3) := by decide +kernel
theorem dCL_checkPlace_16 : decode bCL_checkPlace 16 = .ok (.iload_n 2, 1) := by decide +kernel
theorem dCL_checkPlace_17 : decode bCL_checkPlace 17 = .ok (.aload_n 0, 1) := by decide +kernel
theorem dCL_checkPlace_18 : decode bCL_checkPlace 18 = .ok (.getfield 17, 3) := by decide +kernel
theorem dCL_checkPlace_21 : decode bCL_checkPlace 21 = .ok (.if_icmp .lt 13, 3) := by decide +kernel
theorem dCL_checkPlace_24 : decode bCL_checkPlace 24 = .ok (.new 145, 3) := by decide +kernel
theorem dCL_checkPlace_27 : decode bCL_checkPlace 27 = .ok (.dup, 1) := by decide +kernel
theorem dCL_checkPlace_28 : decode bCL_checkPlace 28 = .ok (.ldc 203, 2) := by decide +kernel
theorem dCL_checkPlace_30 : decode bCL_checkPlace 30 = .ok (.invokespecial 149, 3) := by decide +kernel
theorem dCL_checkPlace_33 : decode bCL_checkPlace 33 = .ok (.athrow, 1) := by decide +kernel
theorem dCL_checkPlace_34 : decode bCL_checkPlace 34 = .ok (.return_, 1) := by decide +kernel
theorem dCL_checkLevels_0 : decode bCL_checkLevels 0 = .ok (.iload_n 0, 1) := by decide +kernel
theorem dCL_checkLevels_1 : decode bCL_checkLevels 1 = .ok (.invokestatic 212, 3) := by decide +kernel
theorem dCL_checkLevels_4 : decode bCL_checkLevels 4 = .ok (.ifCond .eq 24, 3) := by decide +kernel
theorem dCL_checkLevels_7 : decode bCL_checkLevels 7 = .ok (.iload_n 1, 1) := by decide +kernel
theorem dCL_checkLevels_8 : decode bCL_checkLevels 8 = .ok (.invokestatic 212, 3) := by decide +kernel
theorem dCL_checkLevels_11 : decode bCL_checkLevels 11 = .ok (.ifCond .eq 17, 3) := by decide +kernel
theorem dCL_checkLevels_14 : decode bCL_checkLevels 14 = .ok (.iload_n 2, 1) := by decide +kernel
theorem dCL_checkLevels_15 : decode bCL_checkLevels 15 = .ok (.invokestatic 212, 3) := by decide +kernel
theorem dCL_checkLevels_18 : decode bCL_checkLevels 18 = .ok (.ifCond .eq 10, 3) := by decide +kernel
theorem dCL_checkLevels_21 : decode bCL_checkLevels 21 = .ok (.iload_n 3, 1) := by decide +kernel
theorem dCL_checkLevels_22 : decode bCL_checkLevels 22 = .ok (.invokestatic 212, 3) := by decide +kernel
theorem dCL_checkLevels_25 : decode bCL_checkLevels 25 = .ok (.ifCond .ne 13, 3) := by decide +kernel
theorem dCL_checkLevels_28 : decode bCL_checkLevels 28 = .ok (.new 97, 3) := by decide +kernel
theorem dCL_checkLevels_31 : decode bCL_checkLevels 31 = .ok (.dup, 1) := by decide +kernel
theorem dCL_checkLevels_32 : decode bCL_checkLevels 32 = .ok (.ldc 216, 2) := by decide +kernel
theorem dCL_checkLevels_34 : decode bCL_checkLevels 34 = .ok (.invokespecial 101, 3) := by decide +kernel
theorem dCL_checkLevels_37 : decode bCL_checkLevels 37 = .ok (.athrow, 1) := by decide +kernel
theorem dCL_checkLevels_38 : decode bCL_checkLevels 38 = .ok (.return_, 1) := by decide +kernel
theorem dCL_isLevel_0 : decode bCL_isLevel 0 = .ok (.iload_n 0, 1) := by decide +kernel
theorem dCL_isLevel_1 : decode bCL_isLevel 1 = .ok (.ifCond .lt 14, 3) := by decide +kernel
theorem dCL_isLevel_4 : decode bCL_isLevel 4 = .ok (.iload_n 0, 1) := by decide +kernel
theorem dCL_isLevel_5 : decode bCL_isLevel 5 = .ok (.sipush 255, 3) := by decide +kernel
theorem dCL_isLevel_8 : decode bCL_isLevel 8 = .ok (.if_icmp .gt 7, 3) := by decide +kernel
theorem dCL_isLevel_11 : decode bCL_isLevel 11 = .ok (.iconst 1, 1) := by decide +kernel
theorem dCL_isLevel_12 : decode bCL_isLevel 12 = .ok (.goto 4, 3) := by decide +kernel
theorem dCL_isLevel_15 : decode bCL_isLevel 15 = .ok (.iconst 0, 1) := by decide +kernel
theorem dCL_isLevel_16 : decode bCL_isLevel 16 = .ok (.ireturn, 1) := by decide +kernel
theorem dCL_placeOf_0 : decode bCL_placeOf 0 = .ok (.iload_n 2, 1) := by decide +kernel
theorem dCL_placeOf_1 : decode bCL_placeOf 1 = .ok (.aload_n 0, 1) := by decide +kernel
theorem dCL_placeOf_2 : decode bCL_placeOf 2 = .ok (.getfield 13, 3) := by decide +kernel
theorem dCL_placeOf_5 : decode bCL_placeOf 5 = .ok (.imul, 1) := by decide +kernel
theorem dCL_placeOf_6 : decode bCL_placeOf 6 = .ok (.iload_n 1, 1) := by decide +kernel
theorem dCL_placeOf_7 : decode bCL_placeOf 7 = .ok (.iadd, 1) := by decide +kernel
theorem dCL_placeOf_8 : decode bCL_placeOf 8 = .ok (.ireturn, 1) := by decide +kernel
theorem dCL_packed_0 : decode bCL_packed 0 = .ok (.iload_n 0, 1) := by decide +kernel
theorem dCL_packed_1 : decode bCL_packed 1 = .ok (.bipush 24, 2) := by decide +kernel
theorem dCL_packed_3 : decode bCL_packed 3 = .ok (.ishl, 1) := by decide +kernel
theorem dCL_packed_4 : decode bCL_packed 4 = .ok (.iload_n 1, 1) := by decide +kernel
theorem dCL_packed_5 : decode bCL_packed 5 = .ok (.bipush 16, 2) := by decide +kernel
theorem dCL_packed_7 : decode bCL_packed 7 = .ok (.ishl, 1) := by decide +kernel
theorem dCL_packed_8 : decode bCL_packed 8 = .ok (.ior, 1) := by decide +kernel
theorem dCL_packed_9 : decode bCL_packed 9 = .ok (.iload_n 2, 1) := by decide +kernel
theorem dCL_packed_10 : decode bCL_packed 10 = .ok (.bipush 8, 2) := by decide +kernel
theorem dCL_packed_12 : decode bCL_packed 12 = .ok (.ishl, 1) := by decide +kernel
theorem dCL_packed_13 : decode bCL_packed 13 = .ok (.ior, 1) := by decide +kernel
theorem dCL_packed_14 : decode bCL_packed 14 = .ok (.iload_n 3, 1) := by decide +kernel
theorem dCL_packed_15 : decode bCL_packed 15 = .ok (.ior, 1) := by decide +kernel
theorem dCL_packed_16 : decode bCL_packed 16 = .ok (.ireturn, 1) := by decide +kernel
theorem dLw_paint_0 : decode bLw_paint 0 = .ok (.aload 6, 2) := by decide +kernel
theorem dLw_paint_2 : decode bLw_paint 2 = .ok (.iconst 0, 1) := by decide +kernel
theorem dLw_paint_3 : decode bLw_paint 3 = .ok (.aload_n 0, 1) := by decide +kernel
theorem dLw_paint_4 : decode bLw_paint 4 = .ok (.iload_n 1, 1) := by decide +kernel
theorem dLw_paint_5 : decode bLw_paint 5 = .ok (.iload_n 2, 1) := by decide +kernel
theorem dLw_paint_6 : decode bLw_paint 6 = .ok (.iload_n 3, 1) := by decide +kernel
theorem dLw_paint_7 : decode bLw_paint 7 = .ok (.iload 4, 2) := by decide +kernel
theorem dLw_paint_9 : decode bLw_paint 9 = .ok (.iload 5, 2) := by decide +kernel
theorem dLw_paint_11 : decode bLw_paint 11 = .ok (.invokevirtual 17, 3) := by decide +kernel
theorem dLw_paint_14 : decode bLw_paint 14 = .ok (.i2l, 1) := by decide +kernel
theorem dLw_paint_15 : decode bLw_paint 15 = .ok (.lastore, 1) := by decide +kernel
theorem dLw_paint_16 : decode bLw_paint 16 = .ok (.goto 11, 3) := by decide +kernel
theorem dLw_paint_19 : decode bLw_paint 19 = .ok (.astore 7, 2) := by decide +kernel
theorem dLw_paint_21 : decode bLw_paint 21 = .ok (.iconst 1, 1) := by decide +kernel
theorem dLw_paint_22 : decode bLw_paint 22 = .ok (.ireturn, 1) := by decide +kernel
theorem dLw_paint_23 : decode bLw_paint 23 = .ok (.astore 7, 2) := by decide +kernel
theorem dLw_paint_25 : decode bLw_paint 25 = .ok (.iconst 2, 1) := by decide +kernel
theorem dLw_paint_26 : decode bLw_paint 26 = .ok (.ireturn, 1) := by decide +kernel
theorem dLw_paint_27 : decode bLw_paint 27 = .ok (.iconst 0, 1) := by decide +kernel
theorem dLw_paint_28 : decode bLw_paint 28 = .ok (.ireturn, 1) := by decide +kernel
theorem dCL_paint_0 : decode bCL_paint 0 = .ok (.aload_n 0, 1) := by decide +kernel
theorem dCL_paint_1 : decode bCL_paint 1 = .ok (.iload_n 1, 1) := by decide +kernel
theorem dCL_paint_2 : decode bCL_paint 2 = .ok (.iload_n 2, 1) := by decide +kernel
theorem dCL_paint_3 : decode bCL_paint 3 = .ok (.invokevirtual 78, 3) := by decide +kernel
theorem dCL_paint_6 : decode bCL_paint 6 = .ok (.iload_n 3, 1) := by decide +kernel
theorem dCL_paint_7 : decode bCL_paint 7 = .ok (.ifCond .ge 13, 3) := by decide +kernel
theorem dCL_paint_10 : decode bCL_paint 10 = .ok (.new 97, 3) := by decide +kernel
theorem dCL_paint_13 : decode bCL_paint 13 = .ok (.dup, 1) := by decide +kernel
theorem dCL_paint_14 : decode bCL_paint 14 = .ok (.ldc 99, 2) := by decide +kernel
theorem dCL_paint_16 : decode bCL_paint 16 = .ok (.invokespecial 101, 3) := by decide +kernel
theorem dCL_paint_19 : decode bCL_paint 19 = .ok (.athrow, 1) := by decide +kernel
theorem dCL_paint_20 : decode bCL_paint 20 = .ok (.aload_n 0, 1) := by decide +kernel
theorem dCL_paint_21 : decode bCL_paint 21 = .ok (.iload_n 1, 1) := by decide +kernel
theorem dCL_paint_22 : decode bCL_paint 22 = .ok (.iload_n 2, 1) := by decide +kernel
theorem dCL_paint_23 : decode bCL_paint 23 = .ok (.invokevirtual 86, 3) := by decide +kernel
theorem dCL_paint_26 : decode bCL_paint 26 = .ok (.istore 6, 2) := by decide +kernel
theorem dCL_paint_28 : decode bCL_paint 28 = .ok (.iload_n 3, 1) := by decide +kernel
theorem dCL_paint_29 : decode bCL_paint 29 = .ok (.aload_n 0, 1) := by decide +kernel
theorem dCL_paint_30 : decode bCL_paint 30 = .ok (.getfield 20, 3) := by decide +kernel
theorem dCL_paint_33 : decode bCL_paint 33 = .ok (.arraylength, 1) := by decide +kernel
theorem dCL_paint_34 : decode bCL_paint 34 = .ok (.iload 6, 2) := by decide +kernel
theorem dCL_paint_36 : decode bCL_paint 36 = .ok (.isub, 1) := by decide +kernel
theorem dCL_paint_37 : decode bCL_paint 37 = .ok (.invokestatic 104, 3) := by decide +kernel
theorem dCL_paint_40 : decode bCL_paint 40 = .ok (.istore 7, 2) := by decide +kernel
theorem dCL_paint_42 : decode bCL_paint 42 = .ok (.iload 4, 2) := by decide +kernel
theorem dCL_paint_44 : decode bCL_paint 44 = .ok (.istore 8, 2) := by decide +kernel
theorem dCL_paint_46 : decode bCL_paint 46 = .ok (.iload 6, 2) := by decide +kernel
theorem dCL_paint_48 : decode bCL_paint 48 = .ok (.istore 9, 2) := by decide +kernel
theorem dCL_paint_50 : decode bCL_paint 50 = .ok (.iload 9, 2) := by decide +kernel
theorem dCL_paint_52 : decode bCL_paint 52 = .ok (.iload 6, 2) := by decide +kernel
theorem dCL_paint_54 : decode bCL_paint 54 = .ok (.iload 7, 2) := by decide +kernel
theorem dCL_paint_56 : decode bCL_paint 56 = .ok (.iadd, 1) := by decide +kernel
theorem dCL_paint_57 : decode bCL_paint 57 = .ok (.if_icmp .ge 27, 3) := by decide +kernel
theorem dCL_paint_60 : decode bCL_paint 60 = .ok (.aload_n 0, 1) := by decide +kernel
theorem dCL_paint_61 : decode bCL_paint 61 = .ok (.getfield 20, 3) := by decide +kernel
theorem dCL_paint_64 : decode bCL_paint 64 = .ok (.iload 9, 2) := by decide +kernel
theorem dCL_paint_66 : decode bCL_paint 66 = .ok (.iload 8, 2) := by decide +kernel
theorem dCL_paint_68 : decode bCL_paint 68 = .ok (.iastore, 1) := by decide +kernel
theorem dCL_paint_69 : decode bCL_paint 69 = .ok (.iload 8, 2) := by decide +kernel
theorem dCL_paint_71 : decode bCL_paint 71 = .ok (.iload 5, 2) := by decide +kernel
theorem dCL_paint_73 : decode bCL_paint 73 = .ok (.invokestatic 109, 3) := by decide +kernel
theorem dCL_paint_76 : decode bCL_paint 76 = .ok (.istore 8, 2) := by decide +kernel
theorem dCL_paint_78 : decode bCL_paint 78 = .ok (.iinc 9 1, 3) := by decide +kernel
theorem dCL_paint_81 : decode bCL_paint 81 = .ok (.goto (-31), 3) := by decide +kernel
theorem dCL_paint_84 : decode bCL_paint 84 = .ok (.aload_n 0, 1) := by decide +kernel
theorem dCL_paint_85 : decode bCL_paint 85 = .ok (.invokevirtual 94, 3) := by decide +kernel
theorem dCL_paint_88 : decode bCL_paint 88 = .ok (.iload 7, 2) := by decide +kernel
theorem dCL_paint_90 : decode bCL_paint 90 = .ok (.ireturn, 1) := by decide +kernel
theorem dCL_stepped_0 : decode bCL_stepped 0 = .ok (.iload_n 0, 1) := by decide +kernel
theorem dCL_stepped_1 : decode bCL_stepped 1 = .ok (.iconst 0, 1) := by decide +kernel
theorem dCL_stepped_2 : decode bCL_stepped 2 = .ok (.invokestatic 279, 3) := by decide +kernel
theorem dCL_stepped_5 : decode bCL_stepped 5 = .ok (.iload_n 1, 1) := by decide +kernel
theorem dCL_stepped_6 : decode bCL_stepped 6 = .ok (.iadd, 1) := by decide +kernel
theorem dCL_stepped_7 : decode bCL_stepped 7 = .ok (.sipush 255, 3) := by decide +kernel
theorem dCL_stepped_10 : decode bCL_stepped 10 = .ok (.iand, 1) := by decide +kernel
theorem dCL_stepped_11 : decode bCL_stepped 11 = .ok (.iload_n 0, 1) := by decide +kernel
theorem dCL_stepped_12 : decode bCL_stepped 12 = .ok (.iconst 1, 1) := by decide +kernel
theorem dCL_stepped_13 : decode bCL_stepped 13 = .ok (.invokestatic 279, 3) := by decide +kernel
theorem dCL_stepped_16 : decode bCL_stepped 16 = .ok (.iload_n 1, 1) := by decide +kernel
theorem dCL_stepped_17 : decode bCL_stepped 17 = .ok (.iadd, 1) := by decide +kernel
theorem dCL_stepped_18 : decode bCL_stepped 18 = .ok (.sipush 255, 3) := by decide +kernel
theorem dCL_stepped_21 : decode bCL_stepped 21 = .ok (.iand, 1) := by decide +kernel
theorem dCL_stepped_22 : decode bCL_stepped 22 = .ok (.iload_n 0, 1) := by decide +kernel
theorem dCL_stepped_23 : decode bCL_stepped 23 = .ok (.iconst 2, 1) := by decide +kernel
theorem dCL_stepped_24 : decode bCL_stepped 24 = .ok (.invokestatic 279, 3) := by decide +kernel
theorem dCL_stepped_27 : decode bCL_stepped 27 = .ok (.iload_n 1, 1) := by decide +kernel
theorem dCL_stepped_28 : decode bCL_stepped 28 = .ok (.iadd, 1) := by decide +kernel
theorem dCL_stepped_29 : decode bCL_stepped 29 = .ok (.sipush 255, 3) := by decide +kernel
theorem dCL_stepped_32 : decode bCL_stepped 32 = .ok (.iand, 1) := by decide +kernel
theorem dCL_stepped_33 : decode bCL_stepped 33 = .ok (.iload_n 0, 1) := by decide +kernel
theorem dCL_stepped_34 : decode bCL_stepped 34 = .ok (.iconst 3, 1) := by decide +kernel
theorem dCL_stepped_35 : decode bCL_stepped 35 = .ok (.invokestatic 279, 3) := by decide +kernel
theorem dCL_stepped_38 : decode bCL_stepped 38 = .ok (.iload_n 1, 1) := by decide +kernel
theorem dCL_stepped_39 : decode bCL_stepped 39 = .ok (.iadd, 1) := by decide +kernel
theorem dCL_stepped_40 : decode bCL_stepped 40 = .ok (.sipush 255, 3) := by decide +kernel
theorem dCL_stepped_43 : decode bCL_stepped 43 = .ok (.iand, 1) := by decide +kernel
theorem dCL_stepped_44 : decode bCL_stepped 44 = .ok (.invokestatic 90, 3) := by decide +kernel
theorem dCL_stepped_47 : decode bCL_stepped 47 = .ok (.ireturn, 1) := by decide +kernel
theorem dCL_levelOf_0 : decode bCL_levelOf 0 = .ok (.iload_n 0, 1) := by decide +kernel
theorem dCL_levelOf_1 : decode bCL_levelOf 1 = .ok (.bipush 24, 2) := by decide +kernel
theorem dCL_levelOf_3 : decode bCL_levelOf 3 = .ok (.bipush 8, 2) := by decide +kernel
theorem dCL_levelOf_5 : decode bCL_levelOf 5 = .ok (.iload_n 1, 1) := by decide +kernel
theorem dCL_levelOf_6 : decode bCL_levelOf 6 = .ok (.imul, 1) := by decide +kernel
theorem dCL_levelOf_7 : decode bCL_levelOf 7 = .ok (.isub, 1) := by decide +kernel
theorem dCL_levelOf_8 : decode bCL_levelOf 8 = .ok (.iushr, 1) := by decide +kernel
theorem dCL_levelOf_9 : decode bCL_levelOf 9 = .ok (.sipush 255, 3) := by decide +kernel
theorem dCL_levelOf_12 : decode bCL_levelOf 12 = .ok (.iand, 1) := by decide +kernel
theorem dCL_levelOf_13 : decode bCL_levelOf 13 = .ok (.ireturn, 1) := by decide +kernel
theorem dLw_at_0 : decode bLw_at 0 = .ok (.aload_n 3, 1) := by decide +kernel
theorem dLw_at_1 : decode bLw_at 1 = .ok (.iconst 0, 1) := by decide +kernel
theorem dLw_at_2 : decode bLw_at 2 = .ok (.aload_n 0, 1) := by decide +kernel
theorem dLw_at_3 : decode bLw_at 3 = .ok (.iload_n 1, 1) := by decide +kernel
theorem dLw_at_4 : decode bLw_at 4 = .ok (.iload_n 2, 1) := by decide +kernel
theorem dLw_at_5 : decode bLw_at 5 = .ok (.invokevirtual 21, 3) := by decide +kernel
theorem dLw_at_8 : decode bLw_at 8 = .ok (.i2l, 1) := by decide +kernel
theorem dLw_at_9 : decode bLw_at 9 = .ok (.lastore, 1) := by decide +kernel
theorem dLw_at_10 : decode bLw_at 10 = .ok (.goto 7, 3) := by decide +kernel
theorem dLw_at_13 : decode bLw_at 13 = .ok (.astore 4, 2) := by decide +kernel
theorem dLw_at_15 : decode bLw_at 15 = .ok (.iconst 1, 1) := by decide +kernel
theorem dLw_at_16 : decode bLw_at 16 = .ok (.ireturn, 1) := by decide +kernel
theorem dLw_at_17 : decode bLw_at 17 = .ok (.iconst 0, 1) := by decide +kernel
theorem dLw_at_18 : decode bLw_at 18 = .ok (.ireturn, 1) := by decide +kernel
theorem dCL_at_0 : decode bCL_at 0 = .ok (.aload_n 0, 1) := by decide +kernel
theorem dCL_at_1 : decode bCL_at 1 = .ok (.iload_n 1, 1) := by decide +kernel
theorem dCL_at_2 : decode bCL_at 2 = .ok (.iload_n 2, 1) := by decide +kernel
theorem dCL_at_3 : decode bCL_at 3 = .ok (.invokevirtual 78, 3) := by decide +kernel
theorem dCL_at_6 : decode bCL_at 6 = .ok (.aload_n 0, 1) := by decide +kernel
theorem dCL_at_7 : decode bCL_at 7 = .ok (.getfield 20, 3) := by decide +kernel
theorem dCL_at_10 : decode bCL_at 10 = .ok (.aload_n 0, 1) := by decide +kernel
theorem dCL_at_11 : decode bCL_at 11 = .ok (.iload_n 1, 1) := by decide +kernel
theorem dCL_at_12 : decode bCL_at 12 = .ok (.iload_n 2, 1) := by decide +kernel
theorem dCL_at_13 : decode bCL_at 13 = .ok (.invokevirtual 86, 3) := by decide +kernel
theorem dCL_at_16 : decode bCL_at 16 = .ok (.iaload, 1) := by decide +kernel
theorem dCL_at_17 : decode bCL_at 17 = .ok (.ireturn, 1) := by decide +kernel
theorem dLw_run_0 : decode bLw_run 0 = .ok (.aload 4, 2) := by decide +kernel
theorem dLw_run_2 : decode bLw_run 2 = .ok (.iconst 0, 1) := by decide +kernel
theorem dLw_run_3 : decode bLw_run 3 = .ok (.aload_n 0, 1) := by decide +kernel
theorem dLw_run_4 : decode bLw_run 4 = .ok (.iload_n 1, 1) := by decide +kernel
theorem dLw_run_5 : decode bLw_run 5 = .ok (.iload_n 2, 1) := by decide +kernel
theorem dLw_run_6 : decode bLw_run 6 = .ok (.iload_n 3, 1) := by decide +kernel
theorem dLw_run_7 : decode bLw_run 7 = .ok (.invokevirtual 25, 3) := by decide +kernel
theorem dLw_run_10 : decode bLw_run 10 = .ok (.i2l, 1) := by decide +kernel
theorem dLw_run_11 : decode bLw_run 11 = .ok (.lastore, 1) := by decide +kernel
theorem dLw_run_12 : decode bLw_run 12 = .ok (.goto 7, 3) := by decide +kernel
theorem dLw_run_15 : decode bLw_run 15 = .ok (.astore 5, 2) := by decide +kernel
theorem dLw_run_17 : decode bLw_run 17 = .ok (.iconst 1, 1) := by decide +kernel
theorem dLw_run_18 : decode bLw_run 18 = .ok (.ireturn, 1) := by decide +kernel
theorem dLw_run_19 : decode bLw_run 19 = .ok (.iconst 0, 1) := by decide +kernel
theorem dLw_run_20 : decode bLw_run 20 = .ok (.ireturn, 1) := by decide +kernel
theorem dCL_run_0 : decode bCL_run 0 = .ok (.iload_n 1, 1) := by decide +kernel
theorem dCL_run_1 : decode bCL_run 1 = .ok (.ifCond .lt 8, 3) := by decide +kernel
theorem dCL_run_4 : decode bCL_run 4 = .ok (.iload_n 1, 1) := by decide +kernel
theorem dCL_run_5 : decode bCL_run 5 = .ok (.iconst 2, 1) := by decide +kernel
theorem dCL_run_6 : decode bCL_run 6 = .ok (.if_icmp .le 13, 3) := by decide +kernel
theorem dCL_run_9 : decode bCL_run 9 = .ok (.new 97, 3) := by decide +kernel
theorem dCL_run_12 : decode bCL_run 12 = .ok (.dup, 1) := by decide +kernel
theorem dCL_run_13 : decode bCL_run 13 = .ok (.ldc 112, 2) := by decide +kernel
theorem dCL_run_15 : decode bCL_run 15 = .ok (.invokespecial 101, 3) := by decide +kernel
theorem dCL_run_18 : decode bCL_run 18 = .ok (.athrow, 1) := by decide +kernel
theorem dCL_run_19 : decode bCL_run 19 = .ok (.iload_n 2, 1) := by decide +kernel
theorem dCL_run_20 : decode bCL_run 20 = .ok (.iconst 1, 1) := by decide +kernel
theorem dCL_run_21 : decode bCL_run 21 = .ok (.if_icmp .lt 9, 3) := by decide +kernel
theorem dCL_run_24 : decode bCL_run 24 = .ok (.iload_n 2, 1) := by decide +kernel
theorem dCL_run_25 : decode bCL_run 25 = .ok (.bipush 64, 2) := by decide +kernel
theorem dCL_run_27 : decode bCL_run 27 = .ok (.if_icmp .le 13, 3) := by decide +kernel
theorem dCL_run_30 : decode bCL_run 30 = .ok (.new 97, 3) := by decide +kernel
theorem dCL_run_33 : decode bCL_run 33 = .ok (.dup, 1) := by decide +kernel
theorem dCL_run_34 : decode bCL_run 34 = .ok (.ldc 114, 2) := by decide +kernel
theorem dCL_run_36 : decode bCL_run 36 = .ok (.invokespecial 101, 3) := by decide +kernel
theorem dCL_run_39 : decode bCL_run 39 = .ok (.athrow, 1) := by decide +kernel
theorem dCL_run_40 : decode bCL_run 40 = .ok (.iload_n 3, 1) := by decide +kernel
theorem dCL_run_41 : decode bCL_run 41 = .ok (.ifCond .lt 9, 3) := by decide +kernel
theorem dCL_run_44 : decode bCL_run 44 = .ok (.iload_n 3, 1) := by decide +kernel
theorem dCL_run_45 : decode bCL_run 45 = .ok (.bipush 20, 2) := by decide +kernel
theorem dCL_run_47 : decode bCL_run 47 = .ok (.if_icmp .le 13, 3) := by decide +kernel
theorem dCL_run_50 : decode bCL_run 50 = .ok (.new 97, 3) := by decide +kernel
theorem dCL_run_53 : decode bCL_run 53 = .ok (.dup, 1) := by decide +kernel
theorem dCL_run_54 : decode bCL_run 54 = .ok (.ldc 116, 2) := by decide +kernel
theorem dCL_run_56 : decode bCL_run 56 = .ok (.invokespecial 101, 3) := by decide +kernel
theorem dCL_run_59 : decode bCL_run 59 = .ok (.athrow, 1) := by decide +kernel
theorem dCL_run_60 : decode bCL_run 60 = .ok (.iload_n 1, 1) := by decide +kernel
theorem dCL_run_61 : decode bCL_run 61 = .ok (.iconst 2, 1) := by decide +kernel
theorem dCL_run_62 : decode bCL_run 62 = .ok (.if_icmp .ne 23, 3) := by decide +kernel
theorem dCL_run_65 : decode bCL_run 65 = .ok (.aload_n 0, 1) := by decide +kernel
theorem dCL_run_66 : decode bCL_run 66 = .ok (.getfield 53, 3) := by decide +kernel
theorem dCL_run_69 : decode bCL_run 69 = .ok (.getfield 118, 3) := by decide +kernel
theorem dCL_run_72 : decode bCL_run 72 = .ok (.ifCond .ne 13, 3) := by decide +kernel
theorem dCL_run_75 : decode bCL_run 75 = .ok (.new 97, 3) := by decide +kernel
theorem dCL_run_78 : decode bCL_run 78 = .ok (.dup, 1) := by decide +kernel
theorem dCL_run_79 : decode bCL_run 79 = .ok (.ldc 121, 2) := by decide +kernel
theorem dCL_run_81 : decode bCL_run 81 = .ok (.invokespecial 101, 3) := by decide +kernel
theorem dCL_run_84 : decode bCL_run 84 = .ok (.athrow, 1) := by decide +kernel
theorem dCL_run_85 : decode bCL_run 85 = .ok (.aload_n 0, 1) := by decide +kernel
theorem dCL_run_86 : decode bCL_run 86 = .ok (.getfield 32, 3) := by decide +kernel
theorem dCL_run_89 : decode bCL_run 89 = .ok (.aload_n 0, 1) := by decide +kernel
theorem dCL_run_90 : decode bCL_run 90 = .ok (.getfield 20, 3) := by decide +kernel
theorem dCL_run_93 : decode bCL_run 93 = .ok (.invokevirtual 123, 3) := by decide +kernel
theorem dCL_run_96 : decode bCL_run 96 = .ok (.aload_n 0, 1) := by decide +kernel
theorem dCL_run_97 : decode bCL_run 97 = .ok (.getfield 60, 3) := by decide +kernel
theorem dCL_run_100 : decode bCL_run 100 = .ok (.invokevirtual 127, 3) := by decide +kernel
theorem dCL_run_103 : decode bCL_run 103 = .ok (.aload_n 0, 1) := by decide +kernel
theorem dCL_run_104 : decode bCL_run 104 = .ok (.iload_n 1, 1) := by decide +kernel
theorem dCL_run_105 : decode bCL_run 105 = .ok (.iload_n 2, 1) := by decide +kernel
theorem dCL_run_106 : decode bCL_run 106 = .ok (.invokevirtual 130, 3) := by decide +kernel
theorem dCL_run_109 : decode bCL_run 109 = .ok (.aload_n 0, 1) := by decide +kernel
theorem dCL_run_110 : decode bCL_run 110 = .ok (.getfield 67, 3) := by decide +kernel
theorem dCL_run_113 : decode bCL_run 113 = .ok (.aload_n 0, 1) := by decide +kernel
theorem dCL_run_114 : decode bCL_run 114 = .ok (.getfield 32, 3) := by decide +kernel
theorem dCL_run_117 : decode bCL_run 117 = .ok (.aload_n 0, 1) := by decide +kernel
theorem dCL_run_118 : decode bCL_run 118 = .ok (.getfield 60, 3) := by decide +kernel
theorem dCL_run_121 : decode bCL_run 121 = .ok (.aload_n 0, 1) := by decide +kernel
theorem dCL_run_122 : decode bCL_run 122 = .ok (.getfield 46, 3) := by decide +kernel
theorem dCL_run_125 : decode bCL_run 125 = .ok (.iload_n 3, 1) := by decide +kernel
theorem dCL_run_126 : decode bCL_run 126 = .ok (.invokevirtual 133, 3) := by decide +kernel
theorem dCL_run_129 : decode bCL_run 129 = .ok (.iload_n 1, 1) := by decide +kernel
theorem dCL_run_130 : decode bCL_run 130 = .ok (.iconst 2, 1) := by decide +kernel
theorem dCL_run_131 : decode bCL_run 131 = .ok (.if_icmp .eq 18, 3) := by decide +kernel
theorem dCL_run_134 : decode bCL_run 134 = .ok (.aload_n 0, 1) := by decide +kernel
theorem dCL_run_135 : decode bCL_run 135 = .ok (.getfield 67, 3) := by decide +kernel
theorem dCL_run_138 : decode bCL_run 138 = .ok (.aload_n 0, 1) := by decide +kernel
theorem dCL_run_139 : decode bCL_run 139 = .ok (.getfield 32, 3) := by decide +kernel
theorem dCL_run_142 : decode bCL_run 142 = .ok (.aload_n 0, 1) := by decide +kernel
theorem dCL_run_143 : decode bCL_run 143 = .ok (.getfield 60, 3) := by decide +kernel
theorem dCL_run_146 : decode bCL_run 146 = .ok (.invokevirtual 137, 3) := by decide +kernel
theorem dCL_run_149 : decode bCL_run 149 = .ok (.aload_n 0, 1) := by decide +kernel
theorem dCL_run_150 : decode bCL_run 150 = .ok (.invokevirtual 141, 3) := by decide +kernel
theorem dCL_run_153 : decode bCL_run 153 = .ok (.aload_n 0, 1) := by decide +kernel
theorem dCL_run_154 : decode bCL_run 154 = .ok (.getfield 60, 3) := by decide +kernel
theorem dCL_run_157 : decode bCL_run 157 = .ok (.getfield 144, 3) := by decide +kernel
theorem dCL_run_160 : decode bCL_run 160 = .ok (.ireturn, 1) := by decide +kernel
theorem dCL_fillPalette_0 : decode bCL_fillPalette 0 = .ok (.iload_n 1, 1) := by decide +kernel
theorem dCL_fillPalette_1 : decode bCL_fillPalette 1 = .ok (.iconst 2, 1) := by decide +kernel
theorem dCL_fillPalette_2 : decode bCL_fillPalette 2 = .ok (.if_icmp .ne 18, 3) := by decide +kernel
theorem dCL_fillPalette_5 : decode bCL_fillPalette 5 = .ok (.aload_n 0, 1) := by decide +kernel
theorem dCL_fillPalette_6 : decode bCL_fillPalette 6 = .ok (.getfield 53, 3) := by decide +kernel
theorem dCL_fillPalette_9 : decode bCL_fillPalette 9 = .ok (.aload_n 0, 1) := by decide +kernel
theorem dCL_fillPalette_10 : decode bCL_fillPalette 10 = .ok (.getfield 60, 3) := by decide +kernel
theorem dCL_fillPalette_13 : decode bCL_fillPalette 13 = .ok (.iload_n 2, 1) := by decide +kernel
theorem dCL_fillPalette_14 : decode bCL_fillPalette 14 = .ok (.invokevirtual 222, 3) := by decide +kernel
theorem dCL_fillPalette_17 : decode bCL_fillPalette 17 = .ok (.goto 110, 3) := by decide +kernel
theorem dCL_fillPalette_20 : decode bCL_fillPalette 20 = .ok (.aload_n 0, 1) := by decide +kernel
theorem dCL_fillPalette_21 : decode bCL_fillPalette 21 = .ok (.getfield 32, 3) := by decide +kernel
theorem dCL_fillPalette_24 : decode bCL_fillPalette 24 = .ok (.getfield 193, 3) := by decide +kernel
theorem dCL_fillPalette_27 : decode bCL_fillPalette 27 = .ok (.iload_n 2, 1) := by decide +kernel
theorem dCL_fillPalette_28 : decode bCL_fillPalette 28 = .ok (.if_icmp .gt 41, 3) := by decide +kernel
theorem dCL_fillPalette_31 : decode bCL_fillPalette 31 = .ok (.iconst 0, 1) := by decide +kernel
theorem dCL_fillPalette_32 : decode bCL_fillPalette 32 = .ok (.istore_n 3, 1) := by decide +kernel
theorem dCL_fillPalette_33 : decode bCL_fillPalette 33 = .ok (.iload_n 3, 1) := by decide +kernel
theorem dCL_fillPalette_34 : decode bCL_fillPalette 34 = .ok (.aload_n 0, 1) := by decide +kernel
theorem dCL_fillPalette_35 : decode bCL_fillPalette 35 = .ok (.getfield 32, 3) := by decide +kernel
theorem dCL_fillPalette_38 : decode bCL_fillPalette 38 = .ok (.getfield 193, 3) := by decide +kernel
theorem dCL_fillPalette_41 : decode bCL_fillPalette 41 = .ok (.if_icmp .ge 25, 3) := by decide +kernel
theorem dCL_fillPalette_44 : decode bCL_fillPalette 44 = .ok (.aload_n 0, 1) := by decide +kernel
theorem dCL_fillPalette_45 : decode bCL_fillPalette 45 = .ok (.getfield 60, 3) := by decide +kernel
theorem dCL_fillPalette_48 : decode bCL_fillPalette 48 = .ok (.aload_n 0, 1) := by decide +kernel
theorem dCL_fillPalette_49 : decode bCL_fillPalette 49 = .ok (.getfield 32, 3) := by decide +kernel
theorem dCL_fillPalette_52 : decode bCL_fillPalette 52 = .ok (.getfield 226, 3) := by decide +kernel
theorem dCL_fillPalette_55 : decode bCL_fillPalette 55 = .ok (.iload_n 3, 1) := by decide +kernel
theorem dCL_fillPalette_56 : decode bCL_fillPalette 56 = .ok (.iaload, 1) := by decide +kernel
theorem dCL_fillPalette_57 : decode bCL_fillPalette 57 = .ok (.invokevirtual 229, 3) := by decide +kernel
theorem dCL_fillPalette_60 : decode bCL_fillPalette 60 = .ok (.iinc 3 1, 3) := by decide +kernel
theorem dCL_fillPalette_63 : decode bCL_fillPalette 63 = .ok (.goto (-30), 3) := by decide +kernel
theorem dCL_fillPalette_66 : decode bCL_fillPalette 66 = .ok (.goto 61, 3) := by decide +kernel
theorem dCL_fillPalette_69 : decode bCL_fillPalette 69 = .ok (.iload_n 1, 1) := by decide +kernel
theorem dCL_fillPalette_70 : decode bCL_fillPalette 70 = .ok (.iconst 1, 1) := by decide +kernel
theorem dCL_fillPalette_71 : decode bCL_fillPalette 71 = .ok (.if_icmp .ne 18, 3) := by decide +kernel
theorem dCL_fillPalette_74 : decode bCL_fillPalette 74 = .ok (.aload_n 0, 1) := by decide +kernel
theorem dCL_fillPalette_75 : decode bCL_fillPalette 75 = .ok (.invokevirtual 232, 3) := by decide +kernel
theorem dCL_fillPalette_78 : decode bCL_fillPalette 78 = .ok (.aload_n 0, 1) := by decide +kernel
theorem dCL_fillPalette_79 : decode bCL_fillPalette 79 = .ok (.getfield 46, 3) := by decide +kernel
theorem dCL_fillPalette_82 : decode bCL_fillPalette 82 = .ok (.iload_n 2, 1) := by decide +kernel
theorem dCL_fillPalette_83 : decode bCL_fillPalette 83 = .ok (.invokevirtual 235, 3) := by decide +kernel
theorem dCL_fillPalette_86 : decode bCL_fillPalette 86 = .ok (.goto 30, 3) := by decide +kernel
theorem dCL_fillPalette_89 : decode bCL_fillPalette 89 = .ok (.aload_n 0, 1) := by decide +kernel
theorem dCL_fillPalette_90 : decode bCL_fillPalette 90 = .ok (.getfield 39, 3) := by decide +kernel
theorem dCL_fillPalette_93 : decode bCL_fillPalette 93 = .ok (.aload_n 0, 1) := by decide +kernel
theorem dCL_fillPalette_94 : decode bCL_fillPalette 94 = .ok (.getfield 32, 3) := by decide +kernel
theorem dCL_fillPalette_97 : decode bCL_fillPalette 97 = .ok (.iload_n 2, 1) := by decide +kernel
theorem dCL_fillPalette_98 : decode bCL_fillPalette 98 = .ok (.invokevirtual 238, 3) := by decide +kernel
theorem dCL_fillPalette_101 : decode bCL_fillPalette 101 = .ok (.aload_n 0, 1) := by decide +kernel
theorem dCL_fillPalette_102 : decode bCL_fillPalette 102 = .ok (.getfield 39, 3) := by decide +kernel
theorem dCL_fillPalette_105 : decode bCL_fillPalette 105 = .ok (.aload_n 0, 1) := by decide +kernel
theorem dCL_fillPalette_106 : decode bCL_fillPalette 106 = .ok (.getfield 46, 3) := by decide +kernel
theorem dCL_fillPalette_109 : decode bCL_fillPalette 109 = .ok (.aload_n 0, 1) := by decide +kernel
theorem dCL_fillPalette_110 : decode bCL_fillPalette 110 = .ok (.getfield 32, 3) := by decide +kernel
theorem dCL_fillPalette_113 : decode bCL_fillPalette 113 = .ok (.invokevirtual 242, 3) := by decide +kernel
theorem dCL_fillPalette_116 : decode bCL_fillPalette 116 = .ok (.aload_n 0, 1) := by decide +kernel
theorem dCL_fillPalette_117 : decode bCL_fillPalette 117 = .ok (.getfield 46, 3) := by decide +kernel
theorem dCL_fillPalette_120 : decode bCL_fillPalette 120 = .ok (.aload_n 0, 1) := by decide +kernel
theorem dCL_fillPalette_121 : decode bCL_fillPalette 121 = .ok (.getfield 60, 3) := by decide +kernel
theorem dCL_fillPalette_124 : decode bCL_fillPalette 124 = .ok (.invokevirtual 246, 3) := by decide +kernel
theorem dCL_fillPalette_127 : decode bCL_fillPalette 127 = .ok (.return_, 1) := by decide +kernel
theorem dOf_addTo_0 : decode bOf_addTo 0 = .ok (.iconst 0, 1) := by decide +kernel
theorem dOf_addTo_1 : decode bOf_addTo 1 = .ok (.istore_n 3, 1) := by decide +kernel
theorem dOf_addTo_2 : decode bOf_addTo 2 = .ok (.iload_n 3, 1) := by decide +kernel
theorem dOf_addTo_3 : decode bOf_addTo 3 = .ok (.bipush 64, 2) := by decide +kernel
theorem dOf_addTo_5 : decode bOf_addTo 5 = .ok (.if_icmp .ge 36, 3) := by decide +kernel
theorem dOf_addTo_8 : decode bOf_addTo 8 = .ok (.aload_n 1, 1) := by decide +kernel
theorem dOf_addTo_9 : decode bOf_addTo 9 = .ok (.getfield 27, 3) := by decide +kernel
theorem dOf_addTo_12 : decode bOf_addTo 12 = .ok (.iload_n 2, 1) := by decide +kernel
theorem dOf_addTo_13 : decode bOf_addTo 13 = .ok (.if_icmp .ge 28, 3) := by decide +kernel
theorem dOf_addTo_16 : decode bOf_addTo 16 = .ok (.aload_n 0, 1) := by decide +kernel
theorem dOf_addTo_17 : decode bOf_addTo 17 = .ok (.getfield 15, 3) := by decide +kernel
theorem dOf_addTo_20 : decode bOf_addTo 20 = .ok (.iload_n 3, 1) := by decide +kernel
theorem dOf_addTo_21 : decode bOf_addTo 21 = .ok (.baload, 1) := by decide +kernel
theorem dOf_addTo_22 : decode bOf_addTo 22 = .ok (.ifCond .eq 13, 3) := by decide +kernel
theorem dOf_addTo_25 : decode bOf_addTo 25 = .ok (.aload_n 1, 1) := by decide +kernel
theorem dOf_addTo_26 : decode bOf_addTo 26 = .ok (.aload_n 0, 1) := by decide +kernel
theorem dOf_addTo_27 : decode bOf_addTo 27 = .ok (.getfield 9, 3) := by decide +kernel
theorem dOf_addTo_30 : decode bOf_addTo 30 = .ok (.iload_n 3, 1) := by decide +kernel
theorem dOf_addTo_31 : decode bOf_addTo 31 = .ok (.iaload, 1) := by decide +kernel
theorem dOf_addTo_32 : decode bOf_addTo 32 = .ok (.invokevirtual 30, 3) := by decide +kernel
theorem dOf_addTo_35 : decode bOf_addTo 35 = .ok (.iinc 3 1, 3) := by decide +kernel
theorem dOf_addTo_38 : decode bOf_addTo 38 = .ok (.goto (-36), 3) := by decide +kernel
theorem dOf_addTo_41 : decode bOf_addTo 41 = .ok (.return_, 1) := by decide +kernel
theorem dPa_add_0 : decode bPa_add 0 = .ok (.aload_n 0, 1) := by decide +kernel
theorem dPa_add_1 : decode bPa_add 1 = .ok (.getfield 15, 3) := by decide +kernel
theorem dPa_add_4 : decode bPa_add 4 = .ok (.bipush 64, 2) := by decide +kernel
theorem dPa_add_6 : decode bPa_add 6 = .ok (.if_icmp .ge 22, 3) := by decide +kernel
theorem dPa_add_9 : decode bPa_add 9 = .ok (.aload_n 0, 1) := by decide +kernel
theorem dPa_add_10 : decode bPa_add 10 = .ok (.aload_n 0, 1) := by decide +kernel
theorem dPa_add_11 : decode bPa_add 11 = .ok (.getfield 15, 3) := by decide +kernel
theorem dPa_add_14 : decode bPa_add 14 = .ok (.iload_n 1, 1) := by decide +kernel
theorem dPa_add_15 : decode bPa_add 15 = .ok (.invokevirtual 19, 3) := by decide +kernel
theorem dPa_add_18 : decode bPa_add 18 = .ok (.aload_n 0, 1) := by decide +kernel
theorem dPa_add_19 : decode bPa_add 19 = .ok (.dup, 1) := by decide +kernel
theorem dPa_add_20 : decode bPa_add 20 = .ok (.getfield 15, 3) := by decide +kernel
theorem dPa_add_23 : decode bPa_add 23 = .ok (.iconst 1, 1) := by decide +kernel
theorem dPa_add_24 : decode bPa_add 24 = .ok (.iadd, 1) := by decide +kernel
theorem dPa_add_25 : decode bPa_add 25 = .ok (.putfield 15, 3) := by decide +kernel
theorem dPa_add_28 : decode bPa_add 28 = .ok (.return_, 1) := by decide +kernel
theorem dPa_replace_0 : decode bPa_replace 0 = .ok (.iconst 0, 1) := by decide +kernel
theorem dPa_replace_1 : decode bPa_replace 1 = .ok (.istore_n 3, 1) := by decide +kernel
theorem dPa_replace_2 : decode bPa_replace 2 = .ok (.iload_n 3, 1) := by decide +kernel
theorem dPa_replace_3 : decode bPa_replace 3 = .ok (.iconst 4, 1) := by decide +kernel
theorem dPa_replace_4 : decode bPa_replace 4 = .ok (.if_icmp .ge 24, 3) := by decide +kernel
theorem dPa_replace_7 : decode bPa_replace 7 = .ok (.aload_n 0, 1) := by decide +kernel
theorem dPa_replace_8 : decode bPa_replace 8 = .ok (.getfield 9, 3) := by decide +kernel
theorem dPa_replace_11 : decode bPa_replace 11 = .ok (.iload_n 1, 1) := by decide +kernel
theorem dPa_replace_12 : decode bPa_replace 12 = .ok (.iconst 4, 1) := by decide +kernel
theorem dPa_replace_13 : decode bPa_replace 13 = .ok (.imul, 1) := by decide +kernel
theorem dPa_replace_14 : decode bPa_replace 14 = .ok (.iload_n 3, 1) := by decide +kernel
theorem dPa_replace_15 : decode bPa_replace 15 = .ok (.iadd, 1) := by decide +kernel
theorem dPa_replace_16 : decode bPa_replace 16 = .ok (.iload_n 2, 1) := by decide +kernel
theorem dPa_replace_17 : decode bPa_replace 17 = .ok (.iload_n 3, 1) := by decide +kernel
theorem dPa_replace_18 : decode bPa_replace 18 = .ok (.invokestatic 23, 3) := by decide +kernel
theorem dPa_replace_21 : decode bPa_replace 21 = .ok (.iastore, 1) := by decide +kernel
theorem dPa_replace_22 : decode bPa_replace 22 = .ok (.iinc 3 1, 3) := by decide +kernel
theorem dPa_replace_25 : decode bPa_replace 25 = .ok (.goto (-23), 3) := by decide +kernel
theorem dPa_replace_28 : decode bPa_replace 28 = .ok (.return_, 1) := by decide +kernel
theorem dCL_poolGroups_0 : decode bCL_poolGroups 0 = .ok (.aload_n 0, 1) := by decide +kernel
theorem dCL_poolGroups_1 : decode bCL_poolGroups 1 = .ok (.getfield 32, 3) := by decide +kernel
theorem dCL_poolGroups_4 : decode bCL_poolGroups 4 = .ok (.getfield 193, 3) := by decide +kernel
theorem dCL_poolGroups_7 : decode bCL_poolGroups 7 = .ok (.bipush 40, 2) := by decide +kernel
theorem dCL_poolGroups_9 : decode bCL_poolGroups 9 = .ok (.if_icmp .le 32, 3) := by decide +kernel
theorem dCL_poolGroups_12 : decode bCL_poolGroups 12 = .ok (.aload_n 0, 1) := by decide +kernel
theorem dCL_poolGroups_13 : decode bCL_poolGroups 13 = .ok (.getfield 39, 3) := by decide +kernel
theorem dCL_poolGroups_16 : decode bCL_poolGroups 16 = .ok (.aload_n 0, 1) := by decide +kernel
theorem dCL_poolGroups_17 : decode bCL_poolGroups 17 = .ok (.getfield 32, 3) := by decide +kernel
theorem dCL_poolGroups_20 : decode bCL_poolGroups 20 = .ok (.bipush 40, 2) := by decide +kernel
theorem dCL_poolGroups_22 : decode bCL_poolGroups 22 = .ok (.invokevirtual 238, 3) := by decide +kernel
theorem dCL_poolGroups_25 : decode bCL_poolGroups 25 = .ok (.aload_n 0, 1) := by decide +kernel
theorem dCL_poolGroups_26 : decode bCL_poolGroups 26 = .ok (.getfield 39, 3) := by decide +kernel
theorem dCL_poolGroups_29 : decode bCL_poolGroups 29 = .ok (.aload_n 0, 1) := by decide +kernel
theorem dCL_poolGroups_30 : decode bCL_poolGroups 30 = .ok (.getfield 46, 3) := by decide +kernel
theorem dCL_poolGroups_33 : decode bCL_poolGroups 33 = .ok (.aload_n 0, 1) := by decide +kernel
theorem dCL_poolGroups_34 : decode bCL_poolGroups 34 = .ok (.getfield 32, 3) := by decide +kernel
theorem dCL_poolGroups_37 : decode bCL_poolGroups 37 = .ok (.invokevirtual 242, 3) := by decide +kernel
theorem dCL_poolGroups_40 : decode bCL_poolGroups 40 = .ok (.return_, 1) := by decide +kernel
theorem dCL_poolGroups_41 : decode bCL_poolGroups 41 = .ok (.aload_n 0, 1) := by decide +kernel
theorem dCL_poolGroups_42 : decode bCL_poolGroups 42 = .ok (.getfield 46, 3) := by decide +kernel
theorem dCL_poolGroups_45 : decode bCL_poolGroups 45 = .ok (.aload_n 0, 1) := by decide +kernel
theorem dCL_poolGroups_46 : decode bCL_poolGroups 46 = .ok (.getfield 32, 3) := by decide +kernel
theorem dCL_poolGroups_49 : decode bCL_poolGroups 49 = .ok (.getfield 193, 3) := by decide +kernel
theorem dCL_poolGroups_52 : decode bCL_poolGroups 52 = .ok (.invokevirtual 250, 3) := by decide +kernel
theorem dCL_poolGroups_55 : decode bCL_poolGroups 55 = .ok (.iconst 0, 1) := by decide +kernel
theorem dCL_poolGroups_56 : decode bCL_poolGroups 56 = .ok (.istore_n 1, 1) := by decide +kernel
theorem dCL_poolGroups_57 : decode bCL_poolGroups 57 = .ok (.iload_n 1, 1) := by decide +kernel
theorem dCL_poolGroups_58 : decode bCL_poolGroups 58 = .ok (.aload_n 0, 1) := by decide +kernel
theorem dCL_poolGroups_59 : decode bCL_poolGroups 59 = .ok (.getfield 32, 3) := by decide +kernel
theorem dCL_poolGroups_62 : decode bCL_poolGroups 62 = .ok (.getfield 193, 3) := by decide +kernel
theorem dCL_poolGroups_65 : decode bCL_poolGroups 65 = .ok (.if_icmp .ge 35, 3) := by decide +kernel
theorem dCL_poolGroups_68 : decode bCL_poolGroups 68 = .ok (.aload_n 0, 1) := by decide +kernel
theorem dCL_poolGroups_69 : decode bCL_poolGroups 69 = .ok (.getfield 46, 3) := by decide +kernel
theorem dCL_poolGroups_72 : decode bCL_poolGroups 72 = .ok (.iload_n 1, 1) := by decide +kernel
theorem dCL_poolGroups_73 : decode bCL_poolGroups 73 = .ok (.aload_n 0, 1) := by decide +kernel
theorem dCL_poolGroups_74 : decode bCL_poolGroups 74 = .ok (.getfield 32, 3) := by decide +kernel
theorem dCL_poolGroups_77 : decode bCL_poolGroups 77 = .ok (.getfield 226, 3) := by decide +kernel
theorem dCL_poolGroups_80 : decode bCL_poolGroups 80 = .ok (.iload_n 1, 1) := by decide +kernel
theorem dCL_poolGroups_81 : decode bCL_poolGroups 81 = .ok (.iaload, 1) := by decide +kernel
theorem dCL_poolGroups_82 : decode bCL_poolGroups 82 = .ok (.aload_n 0, 1) := by decide +kernel
theorem dCL_poolGroups_83 : decode bCL_poolGroups 83 = .ok (.getfield 32, 3) := by decide +kernel
theorem dCL_poolGroups_86 : decode bCL_poolGroups 86 = .ok (.getfield 253, 3) := by decide +kernel
theorem dCL_poolGroups_89 : decode bCL_poolGroups 89 = .ok (.iload_n 1, 1) := by decide +kernel
theorem dCL_poolGroups_90 : decode bCL_poolGroups 90 = .ok (.iaload, 1) := by decide +kernel
theorem dCL_poolGroups_91 : decode bCL_poolGroups 91 = .ok (.invokevirtual 256, 3) := by decide +kernel
theorem dCL_poolGroups_94 : decode bCL_poolGroups 94 = .ok (.iinc 1 1, 3) := by decide +kernel
theorem dCL_poolGroups_97 : decode bCL_poolGroups 97 = .ok (.goto (-40), 3) := by decide +kernel
theorem dCL_poolGroups_100 : decode bCL_poolGroups 100 = .ok (.return_, 1) := by decide +kernel
theorem dBx_cut_0 : decode bBx_cut 0 = .ok (.iconst 0, 1) := by decide +kernel
theorem dBx_cut_1 : decode bBx_cut 1 = .ok (.istore_n 3, 1) := by decide +kernel
theorem dBx_cut_2 : decode bBx_cut 2 = .ok (.iload_n 3, 1) := by decide +kernel
theorem dBx_cut_3 : decode bBx_cut 3 = .ok (.aload_n 1, 1) := by decide +kernel
theorem dBx_cut_4 : decode bBx_cut 4 = .ok (.getfield 34, 3) := by decide +kernel
theorem dBx_cut_7 : decode bBx_cut 7 = .ok (.if_icmp .ge 16, 3) := by decide +kernel
theorem dBx_cut_10 : decode bBx_cut 10 = .ok (.aload_n 0, 1) := by decide +kernel
theorem dBx_cut_11 : decode bBx_cut 11 = .ok (.getfield 27, 3) := by decide +kernel
theorem dBx_cut_14 : decode bBx_cut 14 = .ok (.iload_n 3, 1) := by decide +kernel
theorem dBx_cut_15 : decode bBx_cut 15 = .ok (.iload_n 3, 1) := by decide +kernel
theorem dBx_cut_16 : decode bBx_cut 16 = .ok (.iastore, 1) := by decide +kernel
theorem dBx_cut_17 : decode bBx_cut 17 = .ok (.iinc 3 1, 3) := by decide +kernel
theorem dBx_cut_20 : decode bBx_cut 20 = .ok (.goto (-18), 3) := by decide +kernel
theorem dBx_cut_23 : decode bBx_cut 23 = .ok (.aload_n 0, 1) := by decide +kernel
theorem dBx_cut_24 : decode bBx_cut 24 = .ok (.iconst 1, 1) := by decide +kernel
theorem dBx_cut_25 : decode bBx_cut 25 = .ok (.putfield 30, 3) := by decide +kernel
theorem dBx_cut_28 : decode bBx_cut 28 = .ok (.aload_n 0, 1) := by decide +kernel
theorem dBx_cut_29 : decode bBx_cut 29 = .ok (.iconst 0, 1) := by decide +kernel
theorem dBx_cut_30 : decode bBx_cut 30 = .ok (.iconst 0, 1) := by decide +kernel
theorem dBx_cut_31 : decode bBx_cut 31 = .ok (.aload_n 1, 1) := by decide +kernel
theorem dBx_cut_32 : decode bBx_cut 32 = .ok (.getfield 34, 3) := by decide +kernel
theorem dBx_cut_35 : decode bBx_cut 35 = .ok (.aload_n 1, 1) := by decide +kernel
theorem dBx_cut_36 : decode bBx_cut 36 = .ok (.invokevirtual 37, 3) := by decide +kernel
theorem dBx_cut_39 : decode bBx_cut 39 = .ok (.iconst 1, 1) := by decide +kernel
theorem dBx_cut_40 : decode bBx_cut 40 = .ok (.istore_n 3, 1) := by decide +kernel
theorem dBx_cut_41 : decode bBx_cut 41 = .ok (.iload_n 3, 1) := by decide +kernel
theorem dBx_cut_42 : decode bBx_cut 42 = .ok (.iload_n 2, 1) := by decide +kernel
theorem dBx_cut_43 : decode bBx_cut 43 = .ok (.if_icmp .ge 99, 3) := by decide +kernel
theorem dBx_cut_46 : decode bBx_cut 46 = .ok (.iload_n 3, 1) := by decide +kernel
theorem dBx_cut_47 : decode bBx_cut 47 = .ok (.bipush 64, 2) := by decide +kernel
theorem dBx_cut_49 : decode bBx_cut 49 = .ok (.if_icmp .ge 93, 3) := by decide +kernel
theorem dBx_cut_52 : decode bBx_cut 52 = .ok (.aload_n 0, 1) := by decide +kernel
theorem dBx_cut_53 : decode bBx_cut 53 = .ok (.invokevirtual 41, 3) := by decide +kernel
theorem dBx_cut_56 : decode bBx_cut 56 = .ok (.istore 4, 2) := by decide +kernel
theorem dBx_cut_58 : decode bBx_cut 58 = .ok (.aload_n 0, 1) := by decide +kernel
theorem dBx_cut_59 : decode bBx_cut 59 = .ok (.getfield 15, 3) := by decide +kernel
theorem dBx_cut_62 : decode bBx_cut 62 = .ok (.iload 4, 2) := by decide +kernel
theorem dBx_cut_64 : decode bBx_cut 64 = .ok (.iaload, 1) := by decide +kernel
theorem dBx_cut_65 : decode bBx_cut 65 = .ok (.aload_n 0, 1) := by decide +kernel
theorem dBx_cut_66 : decode bBx_cut 66 = .ok (.getfield 9, 3) := by decide +kernel
theorem dBx_cut_69 : decode bBx_cut 69 = .ok (.iload 4, 2) := by decide +kernel
theorem dBx_cut_71 : decode bBx_cut 71 = .ok (.iaload, 1) := by decide +kernel
theorem dBx_cut_72 : decode bBx_cut 72 = .ok (.isub, 1) := by decide +kernel
theorem dBx_cut_73 : decode bBx_cut 73 = .ok (.iconst 2, 1) := by decide +kernel
theorem dBx_cut_74 : decode bBx_cut 74 = .ok (.if_icmp .ge 4, 3) := by decide +kernel
theorem dBx_cut_77 : decode bBx_cut 77 = .ok (.return_, 1) := by decide +kernel
theorem dBx_cut_78 : decode bBx_cut 78 = .ok (.aload_n 0, 1) := by decide +kernel
theorem dBx_cut_79 : decode bBx_cut 79 = .ok (.iload 4, 2) := by decide +kernel
theorem dBx_cut_81 : decode bBx_cut 81 = .ok (.aload_n 1, 1) := by decide +kernel
theorem dBx_cut_82 : decode bBx_cut 82 = .ok (.invokevirtual 45, 3) := by decide +kernel
theorem dBx_cut_85 : decode bBx_cut 85 = .ok (.aload_n 0, 1) := by decide +kernel
theorem dBx_cut_86 : decode bBx_cut 86 = .ok (.iload 4, 2) := by decide +kernel
theorem dBx_cut_88 : decode bBx_cut 88 = .ok (.aload_n 1, 1) := by decide +kernel
theorem dBx_cut_89 : decode bBx_cut 89 = .ok (.invokevirtual 49, 3) := by decide +kernel
theorem dBx_cut_92 : decode bBx_cut 92 = .ok (.istore 5, 2) := by decide +kernel
theorem dBx_cut_94 : decode bBx_cut 94 = .ok (.aload_n 0, 1) := by decide +kernel
theorem dBx_cut_95 : decode bBx_cut 95 = .ok (.getfield 15, 3) := by decide +kernel
theorem dBx_cut_98 : decode bBx_cut 98 = .ok (.iload 4, 2) := by decide +kernel
theorem dBx_cut_100 : decode bBx_cut 100 = .ok (.iaload, 1) := by decide +kernel
theorem dBx_cut_101 : decode bBx_cut 101 = .ok (.istore 6, 2) := by decide +kernel
theorem dBx_cut_103 : decode bBx_cut 103 = .ok (.aload_n 0, 1) := by decide +kernel
theorem dBx_cut_104 : decode bBx_cut 104 = .ok (.iload_n 3, 1) := by decide +kernel
theorem dBx_cut_105 : decode bBx_cut 105 = .ok (.iconst 1, 1) := by decide +kernel
theorem dBx_cut_106 : decode bBx_cut 106 = .ok (.iadd, 1) := by decide +kernel
theorem dBx_cut_107 : decode bBx_cut 107 = .ok (.putfield 30, 3) := by decide +kernel
theorem dBx_cut_110 : decode bBx_cut 110 = .ok (.aload_n 0, 1) := by decide +kernel
theorem dBx_cut_111 : decode bBx_cut 111 = .ok (.iload 4, 2) := by decide +kernel
theorem dBx_cut_113 : decode bBx_cut 113 = .ok (.aload_n 0, 1) := by decide +kernel
theorem dBx_cut_114 : decode bBx_cut 114 = .ok (.getfield 9, 3) := by decide +kernel
theorem dBx_cut_117 : decode bBx_cut 117 = .ok (.iload 4, 2) := by decide +kernel
theorem dBx_cut_119 : decode bBx_cut 119 = .ok (.iaload, 1) := by decide +kernel
theorem dBx_cut_120 : decode bBx_cut 120 = .ok (.iload 5, 2) := by decide +kernel
theorem dBx_cut_122 : decode bBx_cut 122 = .ok (.aload_n 1, 1) := by decide +kernel
theorem dBx_cut_123 : decode bBx_cut 123 = .ok (.invokevirtual 37, 3) := by decide +kernel
theorem dBx_cut_126 : decode bBx_cut 126 = .ok (.aload_n 0, 1) := by decide +kernel
theorem dBx_cut_127 : decode bBx_cut 127 = .ok (.iload_n 3, 1) := by decide +kernel
theorem dBx_cut_128 : decode bBx_cut 128 = .ok (.iload 5, 2) := by decide +kernel
theorem dBx_cut_130 : decode bBx_cut 130 = .ok (.iload 6, 2) := by decide +kernel
theorem dBx_cut_132 : decode bBx_cut 132 = .ok (.aload_n 1, 1) := by decide +kernel
theorem dBx_cut_133 : decode bBx_cut 133 = .ok (.invokevirtual 37, 3) := by decide +kernel
theorem dBx_cut_136 : decode bBx_cut 136 = .ok (.iinc 3 1, 3) := by decide +kernel
theorem dBx_cut_139 : decode bBx_cut 139 = .ok (.goto (-98), 3) := by decide +kernel
theorem dBx_cut_142 : decode bBx_cut 142 = .ok (.return_, 1) := by decide +kernel
theorem dBx_measure_0 : decode bBx_measure 0 = .ok (.aload_n 0, 1) := by decide +kernel
theorem dBx_measure_1 : decode bBx_measure 1 = .ok (.getfield 9, 3) := by decide +kernel
theorem dBx_measure_4 : decode bBx_measure 4 = .ok (.iload_n 1, 1) := by decide +kernel
theorem dBx_measure_5 : decode bBx_measure 5 = .ok (.iload_n 2, 1) := by decide +kernel
theorem dBx_measure_6 : decode bBx_measure 6 = .ok (.iastore, 1) := by decide +kernel
theorem dBx_measure_7 : decode bBx_measure 7 = .ok (.aload_n 0, 1) := by decide +kernel
theorem dBx_measure_8 : decode bBx_measure 8 = .ok (.getfield 15, 3) := by decide +kernel
theorem dBx_measure_11 : decode bBx_measure 11 = .ok (.iload_n 1, 1) := by decide +kernel
theorem dBx_measure_12 : decode bBx_measure 12 = .ok (.iload_n 3, 1) := by decide +kernel
theorem dBx_measure_13 : decode bBx_measure 13 = .ok (.iastore, 1) := by decide +kernel
theorem dBx_measure_14 : decode bBx_measure 14 = .ok (.aload_n 0, 1) := by decide +kernel
theorem dBx_measure_15 : decode bBx_measure 15 = .ok (.getfield 18, 3) := by decide +kernel
theorem dBx_measure_18 : decode bBx_measure 18 = .ok (.iload_n 1, 1) := by decide +kernel
theorem dBx_measure_19 : decode bBx_measure 19 = .ok (.iconst 0, 1) := by decide +kernel
theorem dBx_measure_20 : decode bBx_measure 20 = .ok (.iastore, 1) := by decide +kernel
theorem dBx_measure_21 : decode bBx_measure 21 = .ok (.iload_n 2, 1) := by decide +kernel
theorem dBx_measure_22 : decode bBx_measure 22 = .ok (.istore 5, 2) := by decide +kernel
theorem dBx_measure_24 : decode bBx_measure 24 = .ok (.iload 5, 2) := by decide +kernel
theorem dBx_measure_26 : decode bBx_measure 26 = .ok (.iload_n 3, 1) := by decide +kernel
theorem dBx_measure_27 : decode bBx_measure 27 = .ok (.if_icmp .ge 31, 3) := by decide +kernel
theorem dBx_measure_30 : decode bBx_measure 30 = .ok (.aload_n 0, 1) := by decide +kernel
theorem dBx_measure_31 : decode bBx_measure 31 = .ok (.getfield 18, 3) := by decide +kernel
theorem dBx_measure_34 : decode bBx_measure 34 = .ok (.iload_n 1, 1) := by decide +kernel
theorem dBx_measure_35 : decode bBx_measure 35 = .ok (.dup2, 1) := by decide +kernel
theorem dBx_measure_36 : decode bBx_measure 36 = .ok (.iaload, 1) := by decide +kernel
theorem dBx_measure_37 : decode bBx_measure 37 = .ok (.aload 4, 2) := by decide +kernel
theorem dBx_measure_39 : decode bBx_measure 39 = .ok (.getfield 61, 3) := by decide +kernel
theorem dBx_measure_42 : decode bBx_measure 42 = .ok (.aload_n 0, 1) := by decide +kernel
theorem dBx_measure_43 : decode bBx_measure 43 = .ok (.getfield 27, 3) := by decide +kernel
theorem dBx_measure_46 : decode bBx_measure 46 = .ok (.iload 5, 2) := by decide +kernel
theorem dBx_measure_48 : decode bBx_measure 48 = .ok (.iaload, 1) := by decide +kernel
theorem dBx_measure_49 : decode bBx_measure 49 = .ok (.iaload, 1) := by decide +kernel
theorem dBx_measure_50 : decode bBx_measure 50 = .ok (.iadd, 1) := by decide +kernel
theorem dBx_measure_51 : decode bBx_measure 51 = .ok (.iastore, 1) := by decide +kernel
theorem dBx_measure_52 : decode bBx_measure 52 = .ok (.iinc 5 1, 3) := by decide +kernel
theorem dBx_measure_55 : decode bBx_measure 55 = .ok (.goto (-31), 3) := by decide +kernel
theorem dBx_measure_58 : decode bBx_measure 58 = .ok (.aload_n 0, 1) := by decide +kernel
theorem dBx_measure_59 : decode bBx_measure 59 = .ok (.getfield 21, 3) := by decide +kernel
theorem dBx_measure_62 : decode bBx_measure 62 = .ok (.iload_n 1, 1) := by decide +kernel
theorem dBx_measure_63 : decode bBx_measure 63 = .ok (.iconst (-1), 1) := by decide +kernel
theorem dBx_measure_64 : decode bBx_measure 64 = .ok (.iastore, 1) := by decide +kernel
theorem dBx_measure_65 : decode bBx_measure 65 = .ok (.iconst 0, 1) := by decide +kernel
theorem dBx_measure_66 : decode bBx_measure 66 = .ok (.istore 5, 2) := by decide +kernel
theorem dBx_measure_68 : decode bBx_measure 68 = .ok (.iload 5, 2) := by decide +kernel
theorem dBx_measure_70 : decode bBx_measure 70 = .ok (.iconst 4, 1) := by decide +kernel
theorem dBx_measure_71 : decode bBx_measure 71 = .ok (.if_icmp .ge 48, 3) := by decide +kernel
theorem dBx_measure_74 : decode bBx_measure 74 = .ok (.aload_n 0, 1) := by decide +kernel
theorem dBx_measure_75 : decode bBx_measure 75 = .ok (.iload 5, 2) := by decide +kernel
theorem dBx_measure_77 : decode bBx_measure 77 = .ok (.iload_n 2, 1) := by decide +kernel
theorem dBx_measure_78 : decode bBx_measure 78 = .ok (.iload_n 3, 1) := by decide +kernel
theorem dBx_measure_79 : decode bBx_measure 79 = .ok (.aload 4, 2) := by decide +kernel
theorem dBx_measure_81 : decode bBx_measure 81 = .ok (.invokevirtual 68, 3) := by decide +kernel
theorem dBx_measure_84 : decode bBx_measure 84 = .ok (.istore 6, 2) := by decide +kernel
theorem dBx_measure_86 : decode bBx_measure 86 = .ok (.iload 6, 2) := by decide +kernel
theorem dBx_measure_88 : decode bBx_measure 88 = .ok (.aload_n 0, 1) := by decide +kernel
theorem dBx_measure_89 : decode bBx_measure 89 = .ok (.getfield 21, 3) := by decide +kernel
theorem dBx_measure_92 : decode bBx_measure 92 = .ok (.iload_n 1, 1) := by decide +kernel
theorem dBx_measure_93 : decode bBx_measure 93 = .ok (.iaload, 1) := by decide +kernel
theorem dBx_measure_94 : decode bBx_measure 94 = .ok (.if_icmp .le 19, 3) := by decide +kernel
theorem dBx_measure_97 : decode bBx_measure 97 = .ok (.aload_n 0, 1) := by decide +kernel
theorem dBx_measure_98 : decode bBx_measure 98 = .ok (.getfield 21, 3) := by decide +kernel
theorem dBx_measure_101 : decode bBx_measure 101 = .ok (.iload_n 1, 1) := by decide +kernel
theorem dBx_measure_102 : decode bBx_measure 102 = .ok (.iload 6, 2) := by decide +kernel
theorem dBx_measure_104 : decode bBx_measure 104 = .ok (.iastore, 1) := by decide +kernel
theorem dBx_measure_105 : decode bBx_measure 105 = .ok (.aload_n 0, 1) := by decide +kernel
theorem dBx_measure_106 : decode bBx_measure 106 = .ok (.getfield 24, 3) := by decide +kernel
theorem dBx_measure_109 : decode bBx_measure 109 = .ok (.iload_n 1, 1) := by decide +kernel
theorem dBx_measure_110 : decode bBx_measure 110 = .ok (.iload 5, 2) := by decide +kernel
theorem dBx_measure_112 : decode bBx_measure 112 = .ok (.iastore, 1) := by decide +kernel
theorem dBx_measure_113 : decode bBx_measure 113 = .ok (.iinc 5 1, 3) := by decide +kernel
theorem dBx_measure_116 : decode bBx_measure 116 = .ok (.goto (-48), 3) := by decide +kernel
theorem dBx_measure_119 : decode bBx_measure 119 = .ok (.return_, 1) := by decide +kernel
theorem dBx_spreadOf_0 : decode bBx_spreadOf 0 = .ok (.sipush 255, 3) := by decide +kernel
theorem dBx_spreadOf_3 : decode bBx_spreadOf 3 = .ok (.istore 5, 2) := by decide +kernel
theorem dBx_spreadOf_5 : decode bBx_spreadOf 5 = .ok (.iconst 0, 1) := by decide +kernel
theorem dBx_spreadOf_6 : decode bBx_spreadOf 6 = .ok (.istore 6, 2) := by decide +kernel
theorem dBx_spreadOf_8 : decode bBx_spreadOf 8 = .ok (.iload_n 2, 1) := by decide +kernel
theorem dBx_spreadOf_9 : decode bBx_spreadOf 9 = .ok (.istore 7, 2) := by decide +kernel
theorem dBx_spreadOf_11 : decode bBx_spreadOf 11 = .ok (.iload 7, 2) := by decide +kernel
theorem dBx_spreadOf_13 : decode bBx_spreadOf 13 = .ok (.iload_n 3, 1) := by decide +kernel
theorem dBx_spreadOf_14 : decode bBx_spreadOf 14 = .ok (.if_icmp .ge 46, 3) := by decide +kernel
theorem dBx_spreadOf_17 : decode bBx_spreadOf 17 = .ok (.aload 4, 2) := by decide +kernel
theorem dBx_spreadOf_19 : decode bBx_spreadOf 19 = .ok (.getfield 58, 3) := by decide +kernel
theorem dBx_spreadOf_22 : decode bBx_spreadOf 22 = .ok (.aload_n 0, 1) := by decide +kernel
theorem dBx_spreadOf_23 : decode bBx_spreadOf 23 = .ok (.getfield 27, 3) := by decide +kernel
theorem dBx_spreadOf_26 : decode bBx_spreadOf 26 = .ok (.iload 7, 2) := by decide +kernel
theorem dBx_spreadOf_28 : decode bBx_spreadOf 28 = .ok (.iaload, 1) := by decide +kernel
theorem dBx_spreadOf_29 : decode bBx_spreadOf 29 = .ok (.iaload, 1) := by decide +kernel
theorem dBx_spreadOf_30 : decode bBx_spreadOf 30 = .ok (.iload_n 1, 1) := by decide +kernel
theorem dBx_spreadOf_31 : decode bBx_spreadOf 31 = .ok (.invokestatic 72, 3) := by decide +kernel
theorem dBx_spreadOf_34 : decode bBx_spreadOf 34 = .ok (.istore 8, 2) := by decide +kernel
theorem dBx_spreadOf_36 : decode bBx_spreadOf 36 = .ok (.iload 5, 2) := by decide +kernel
theorem dBx_spreadOf_38 : decode bBx_spreadOf 38 = .ok (.iload 8, 2) := by decide +kernel
theorem dBx_spreadOf_40 : decode bBx_spreadOf 40 = .ok (.invokestatic 76, 3) := by decide +kernel
theorem dBx_spreadOf_43 : decode bBx_spreadOf 43 = .ok (.istore 5, 2) := by decide +kernel
theorem dBx_spreadOf_45 : decode bBx_spreadOf 45 = .ok (.iload 6, 2) := by decide +kernel
theorem dBx_spreadOf_47 : decode bBx_spreadOf 47 = .ok (.iload 8, 2) := by decide +kernel
theorem dBx_spreadOf_49 : decode bBx_spreadOf 49 = .ok (.invokestatic 81, 3) := by decide +kernel
theorem dBx_spreadOf_52 : decode bBx_spreadOf 52 = .ok (.istore 6, 2) := by decide +kernel
theorem dBx_spreadOf_54 : decode bBx_spreadOf 54 = .ok (.iinc 7 1, 3) := by decide +kernel
theorem dBx_spreadOf_57 : decode bBx_spreadOf 57 = .ok (.goto (-46), 3) := by decide +kernel
theorem dBx_spreadOf_60 : decode bBx_spreadOf 60 = .ok (.iload 6, 2) := by decide +kernel
theorem dBx_spreadOf_62 : decode bBx_spreadOf 62 = .ok (.iload 5, 2) := by decide +kernel
theorem dBx_spreadOf_64 : decode bBx_spreadOf 64 = .ok (.isub, 1) := by decide +kernel
theorem dBx_spreadOf_65 : decode bBx_spreadOf 65 = .ok (.ireturn, 1) := by decide +kernel
