theorem dBx_nextToCut_0 : decode bBx_nextToCut 0 = .ok (.iconst 0, 1) := by decide +kernel
theorem dBx_nextToCut_1 : decode bBx_nextToCut 1 = .ok (.istore_n 1, 1) := by decide +kernel
theorem dBx_nextToCut_2 : decode bBx_nextToCut 2 = .ok (.iconst 1, 1) := by decide +kernel
theorem dBx_nextToCut_3 : decode bBx_nextToCut 3 = .ok (.istore_n 2, 1) := by decide +kernel
theorem dBx_nextToCut_4 : decode bBx_nextToCut 4 = .ok (.iload_n 2, 1) := by decide +kernel
theorem dBx_nextToCut_5 : decode bBx_nextToCut 5 = .ok (.aload_n 0, 1) := by decide +kernel
theorem dBx_nextToCut_6 : decode bBx_nextToCut 6 = .ok (.getfield 30, 3) := by decide +kernel
theorem dBx_nextToCut_9 : decode bBx_nextToCut 9 = .ok (.if_icmp .ge 78, 3) := by decide +kernel
theorem dBx_nextToCut_12 : decode bBx_nextToCut 12 = .ok (.aload_n 0, 1) := by decide +kernel
theorem dBx_nextToCut_13 : decode bBx_nextToCut 13 = .ok (.getfield 21, 3) := by decide +kernel
theorem dBx_nextToCut_16 : decode bBx_nextToCut 16 = .ok (.iload_n 2, 1) := by decide +kernel
theorem dBx_nextToCut_17 : decode bBx_nextToCut 17 = .ok (.iaload, 1) := by decide +kernel
theorem dBx_nextToCut_18 : decode bBx_nextToCut 18 = .ok (.aload_n 0, 1) := by decide +kernel
theorem dBx_nextToCut_19 : decode bBx_nextToCut 19 = .ok (.getfield 21, 3) := by decide +kernel
theorem dBx_nextToCut_22 : decode bBx_nextToCut 22 = .ok (.iload_n 1, 1) := by decide +kernel
theorem dBx_nextToCut_23 : decode bBx_nextToCut 23 = .ok (.iaload, 1) := by decide +kernel
theorem dBx_nextToCut_24 : decode bBx_nextToCut 24 = .ok (.if_icmp .le 7, 3) := by decide +kernel
theorem dBx_nextToCut_27 : decode bBx_nextToCut 27 = .ok (.iconst 1, 1) := by decide +kernel
theorem dBx_nextToCut_28 : decode bBx_nextToCut 28 = .ok (.goto 4, 3) := by decide +kernel
theorem dBx_nextToCut_31 : decode bBx_nextToCut 31 = .ok (.iconst 0, 1) := by decide +kernel
theorem dBx_nextToCut_32 : decode bBx_nextToCut 32 = .ok (.istore_n 3, 1) := by decide +kernel
theorem dBx_nextToCut_33 : decode bBx_nextToCut 33 = .ok (.aload_n 0, 1) := by decide +kernel
theorem dBx_nextToCut_34 : decode bBx_nextToCut 34 = .ok (.getfield 21, 3) := by decide +kernel
theorem dBx_nextToCut_37 : decode bBx_nextToCut 37 = .ok (.iload_n 2, 1) := by decide +kernel
theorem dBx_nextToCut_38 : decode bBx_nextToCut 38 = .ok (.iaload, 1) := by decide +kernel
theorem dBx_nextToCut_39 : decode bBx_nextToCut 39 = .ok (.aload_n 0, 1) := by decide +kernel
theorem dBx_nextToCut_40 : decode bBx_nextToCut 40 = .ok (.getfield 21, 3) := by decide +kernel
theorem dBx_nextToCut_43 : decode bBx_nextToCut 43 = .ok (.iload_n 1, 1) := by decide +kernel
theorem dBx_nextToCut_44 : decode bBx_nextToCut 44 = .ok (.iaload, 1) := by decide +kernel
theorem dBx_nextToCut_45 : decode bBx_nextToCut 45 = .ok (.if_icmp .ne 22, 3) := by decide +kernel
theorem dBx_nextToCut_48 : decode bBx_nextToCut 48 = .ok (.aload_n 0, 1) := by decide +kernel
theorem dBx_nextToCut_49 : decode bBx_nextToCut 49 = .ok (.getfield 18, 3) := by decide +kernel
theorem dBx_nextToCut_52 : decode bBx_nextToCut 52 = .ok (.iload_n 2, 1) := by decide +kernel
theorem dBx_nextToCut_53 : decode bBx_nextToCut 53 = .ok (.iaload, 1) := by decide +kernel
theorem dBx_nextToCut_54 : decode bBx_nextToCut 54 = .ok (.aload_n 0, 1) := by decide +kernel
theorem dBx_nextToCut_55 : decode bBx_nextToCut 55 = .ok (.getfield 18, 3) := by decide +kernel
theorem dBx_nextToCut_58 : decode bBx_nextToCut 58 = .ok (.iload_n 1, 1) := by decide +kernel
theorem dBx_nextToCut_59 : decode bBx_nextToCut 59 = .ok (.iaload, 1) := by decide +kernel
theorem dBx_nextToCut_60 : decode bBx_nextToCut 60 = .ok (.if_icmp .le 7, 3) := by decide +kernel
theorem dBx_nextToCut_63 : decode bBx_nextToCut 63 = .ok (.iconst 1, 1) := by decide +kernel
theorem dBx_nextToCut_64 : decode bBx_nextToCut 64 = .ok (.goto 4, 3) := by decide +kernel
theorem dBx_nextToCut_67 : decode bBx_nextToCut 67 = .ok (.iconst 0, 1) := by decide +kernel
theorem dBx_nextToCut_68 : decode bBx_nextToCut 68 = .ok (.istore 4, 2) := by decide +kernel
theorem dBx_nextToCut_70 : decode bBx_nextToCut 70 = .ok (.iload_n 3, 1) := by decide +kernel
theorem dBx_nextToCut_71 : decode bBx_nextToCut 71 = .ok (.ifCond .ne 8, 3) := by decide +kernel
theorem dBx_nextToCut_74 : decode bBx_nextToCut 74 = .ok (.iload 4, 2) := by decide +kernel
theorem dBx_nextToCut_76 : decode bBx_nextToCut 76 = .ok (.ifCond .eq 5, 3) := by decide +kernel
theorem dBx_nextToCut_79 : decode bBx_nextToCut 79 = .ok (.iload_n 2, 1) := by decide +kernel
theorem dBx_nextToCut_80 : decode bBx_nextToCut 80 = .ok (.istore_n 1, 1) := by decide +kernel
theorem dBx_nextToCut_81 : decode bBx_nextToCut 81 = .ok (.iinc 2 1, 3) := by decide +kernel
theorem dBx_nextToCut_84 : decode bBx_nextToCut 84 = .ok (.goto (-80), 3) := by decide +kernel
theorem dBx_nextToCut_87 : decode bBx_nextToCut 87 = .ok (.iload_n 1, 1) := by decide +kernel
theorem dBx_nextToCut_88 : decode bBx_nextToCut 88 = .ok (.ireturn, 1) := by decide +kernel
theorem dBx_sortAlongWidest_0 : decode bBx_sortAlongWidest 0 = .ok (.aload_n 0, 1) := by decide +kernel
theorem dBx_sortAlongWidest_1 : decode bBx_sortAlongWidest 1 = .ok (.getfield 9, 3) := by decide +kernel
theorem dBx_sortAlongWidest_4 : decode bBx_sortAlongWidest 4 = .ok (.iload_n 1, 1) := by decide +kernel
theorem dBx_sortAlongWidest_5 : decode bBx_sortAlongWidest 5 = .ok (.iaload, 1) := by decide +kernel
theorem dBx_sortAlongWidest_6 : decode bBx_sortAlongWidest 6 = .ok (.istore_n 3, 1) := by decide +kernel
theorem dBx_sortAlongWidest_7 : decode bBx_sortAlongWidest 7 = .ok (.iload_n 3, 1) := by decide +kernel
theorem dBx_sortAlongWidest_8 : decode bBx_sortAlongWidest 8 = .ok (.aload_n 0, 1) := by decide +kernel
theorem dBx_sortAlongWidest_9 : decode bBx_sortAlongWidest 9 = .ok (.getfield 15, 3) := by decide +kernel
theorem dBx_sortAlongWidest_12 : decode bBx_sortAlongWidest 12 = .ok (.iload_n 1, 1) := by decide +kernel
theorem dBx_sortAlongWidest_13 : decode bBx_sortAlongWidest 13 = .ok (.iaload, 1) := by decide +kernel
theorem dBx_sortAlongWidest_14 : decode bBx_sortAlongWidest 14 = .ok (.if_icmp .ge 51, 3) := by decide +kernel
theorem dBx_sortAlongWidest_17 : decode bBx_sortAlongWidest 17 = .ok (.aload_n 2, 1) := by decide +kernel
theorem dBx_sortAlongWidest_18 : decode bBx_sortAlongWidest 18 = .ok (.getfield 58, 3) := by decide +kernel
theorem dBx_sortAlongWidest_21 : decode bBx_sortAlongWidest 21 = .ok (.aload_n 0, 1) := by decide +kernel
theorem dBx_sortAlongWidest_22 : decode bBx_sortAlongWidest 22 = .ok (.getfield 27, 3) := by decide +kernel
theorem dBx_sortAlongWidest_25 : decode bBx_sortAlongWidest 25 = .ok (.iload_n 3, 1) := by decide +kernel
theorem dBx_sortAlongWidest_26 : decode bBx_sortAlongWidest 26 = .ok (.iaload, 1) := by decide +kernel
theorem dBx_sortAlongWidest_27 : decode bBx_sortAlongWidest 27 = .ok (.iaload, 1) := by decide +kernel
theorem dBx_sortAlongWidest_28 : decode bBx_sortAlongWidest 28 = .ok (.aload_n 0, 1) := by decide +kernel
theorem dBx_sortAlongWidest_29 : decode bBx_sortAlongWidest 29 = .ok (.getfield 24, 3) := by decide +kernel
theorem dBx_sortAlongWidest_32 : decode bBx_sortAlongWidest 32 = .ok (.iload_n 1, 1) := by decide +kernel
theorem dBx_sortAlongWidest_33 : decode bBx_sortAlongWidest 33 = .ok (.iaload, 1) := by decide +kernel
theorem dBx_sortAlongWidest_34 : decode bBx_sortAlongWidest 34 = .ok (.invokestatic 72, 3) := by decide +kernel
theorem dBx_sortAlongWidest_37 : decode bBx_sortAlongWidest 37 = .ok (.istore 4, 2) := by decide +kernel
theorem dBx_sortAlongWidest_39 : decode bBx_sortAlongWidest 39 = .ok (.aload_n 2, 1) := by decide +kernel
theorem dBx_sortAlongWidest_40 : decode bBx_sortAlongWidest 40 = .ok (.getfield 84, 3) := by decide +kernel
theorem dBx_sortAlongWidest_43 : decode bBx_sortAlongWidest 43 = .ok (.iload_n 3, 1) := by decide +kernel
theorem dBx_sortAlongWidest_44 : decode bBx_sortAlongWidest 44 = .ok (.iload 4, 2) := by decide +kernel
theorem dBx_sortAlongWidest_46 : decode bBx_sortAlongWidest 46 = .ok (.i2l, 1) := by decide +kernel
theorem dBx_sortAlongWidest_47 : decode bBx_sortAlongWidest 47 = .ok (.bipush 10, 2) := by decide +kernel
theorem dBx_sortAlongWidest_49 : decode bBx_sortAlongWidest 49 = .ok (.lshl, 1) := by decide +kernel
theorem dBx_sortAlongWidest_50 : decode bBx_sortAlongWidest 50 = .ok (.aload_n 0, 1) := by decide +kernel
theorem dBx_sortAlongWidest_51 : decode bBx_sortAlongWidest 51 = .ok (.getfield 27, 3) := by decide +kernel
theorem dBx_sortAlongWidest_54 : decode bBx_sortAlongWidest 54 = .ok (.iload_n 3, 1) := by decide +kernel
theorem dBx_sortAlongWidest_55 : decode bBx_sortAlongWidest 55 = .ok (.iaload, 1) := by decide +kernel
theorem dBx_sortAlongWidest_56 : decode bBx_sortAlongWidest 56 = .ok (.i2l, 1) := by decide +kernel
theorem dBx_sortAlongWidest_57 : decode bBx_sortAlongWidest 57 = .ok (.lor, 1) := by decide +kernel
theorem dBx_sortAlongWidest_58 : decode bBx_sortAlongWidest 58 = .ok (.lastore, 1) := by decide +kernel
theorem dBx_sortAlongWidest_59 : decode bBx_sortAlongWidest 59 = .ok (.iinc 3 1, 3) := by decide +kernel
theorem dBx_sortAlongWidest_62 : decode bBx_sortAlongWidest 62 = .ok (.goto (-55), 3) := by decide +kernel
theorem dBx_sortAlongWidest_65 : decode bBx_sortAlongWidest 65 = .ok (.aload_n 2, 1) := by decide +kernel
theorem dBx_sortAlongWidest_66 : decode bBx_sortAlongWidest 66 = .ok (.getfield 84, 3) := by decide +kernel
theorem dBx_sortAlongWidest_69 : decode bBx_sortAlongWidest 69 = .ok (.aload_n 0, 1) := by decide +kernel
theorem dBx_sortAlongWidest_70 : decode bBx_sortAlongWidest 70 = .ok (.getfield 9, 3) := by decide +kernel
theorem dBx_sortAlongWidest_73 : decode bBx_sortAlongWidest 73 = .ok (.iload_n 1, 1) := by decide +kernel
theorem dBx_sortAlongWidest_74 : decode bBx_sortAlongWidest 74 = .ok (.iaload, 1) := by decide +kernel
theorem dBx_sortAlongWidest_75 : decode bBx_sortAlongWidest 75 = .ok (.aload_n 0, 1) := by decide +kernel
theorem dBx_sortAlongWidest_76 : decode bBx_sortAlongWidest 76 = .ok (.getfield 15, 3) := by decide +kernel
theorem dBx_sortAlongWidest_79 : decode bBx_sortAlongWidest 79 = .ok (.iload_n 1, 1) := by decide +kernel
theorem dBx_sortAlongWidest_80 : decode bBx_sortAlongWidest 80 = .ok (.iaload, 1) := by decide +kernel
theorem dBx_sortAlongWidest_81 : decode bBx_sortAlongWidest 81 = .ok (.invokestatic 88, 3) := by decide +kernel
theorem dBx_sortAlongWidest_84 : decode bBx_sortAlongWidest 84 = .ok (.aload_n 0, 1) := by decide +kernel
theorem dBx_sortAlongWidest_85 : decode bBx_sortAlongWidest 85 = .ok (.getfield 9, 3) := by decide +kernel
theorem dBx_sortAlongWidest_88 : decode bBx_sortAlongWidest 88 = .ok (.iload_n 1, 1) := by decide +kernel
theorem dBx_sortAlongWidest_89 : decode bBx_sortAlongWidest 89 = .ok (.iaload, 1) := by decide +kernel
theorem dBx_sortAlongWidest_90 : decode bBx_sortAlongWidest 90 = .ok (.istore_n 3, 1) := by decide +kernel
theorem dBx_sortAlongWidest_91 : decode bBx_sortAlongWidest 91 = .ok (.iload_n 3, 1) := by decide +kernel
theorem dBx_sortAlongWidest_92 : decode bBx_sortAlongWidest 92 = .ok (.aload_n 0, 1) := by decide +kernel
theorem dBx_sortAlongWidest_93 : decode bBx_sortAlongWidest 93 = .ok (.getfield 15, 3) := by decide +kernel
theorem dBx_sortAlongWidest_96 : decode bBx_sortAlongWidest 96 = .ok (.iload_n 1, 1) := by decide +kernel
theorem dBx_sortAlongWidest_97 : decode bBx_sortAlongWidest 97 = .ok (.iaload, 1) := by decide +kernel
theorem dBx_sortAlongWidest_98 : decode bBx_sortAlongWidest 98 = .ok (.if_icmp .ge 26, 3) := by decide +kernel
theorem dBx_sortAlongWidest_101 : decode bBx_sortAlongWidest 101 = .ok (.aload_n 0, 1) := by decide +kernel
theorem dBx_sortAlongWidest_102 : decode bBx_sortAlongWidest 102 = .ok (.getfield 27, 3) := by decide +kernel
theorem dBx_sortAlongWidest_105 : decode bBx_sortAlongWidest 105 = .ok (.iload_n 3, 1) := by decide +kernel
theorem dBx_sortAlongWidest_106 : decode bBx_sortAlongWidest 106 = .ok (.aload_n 2, 1) := by decide +kernel
theorem dBx_sortAlongWidest_107 : decode bBx_sortAlongWidest 107 = .ok (.getfield 84, 3) := by decide +kernel
theorem dBx_sortAlongWidest_110 : decode bBx_sortAlongWidest 110 = .ok (.iload_n 3, 1) := by decide +kernel
theorem dBx_sortAlongWidest_111 : decode bBx_sortAlongWidest 111 = .ok (.laload, 1) := by decide +kernel
theorem dBx_sortAlongWidest_112 : decode bBx_sortAlongWidest 112 = .ok (.ldc2_w 92, 3) := by decide +kernel
theorem dBx_sortAlongWidest_115 : decode bBx_sortAlongWidest 115 = .ok (.land, 1) := by decide +kernel
theorem dBx_sortAlongWidest_116 : decode bBx_sortAlongWidest 116 = .ok (.l2i, 1) := by decide +kernel
theorem dBx_sortAlongWidest_117 : decode bBx_sortAlongWidest 117 = .ok (.iastore, 1) := by decide +kernel
theorem dBx_sortAlongWidest_118 : decode bBx_sortAlongWidest 118 = .ok (.iinc 3 1, 3) := by decide +kernel
theorem dBx_sortAlongWidest_121 : decode bBx_sortAlongWidest 121 = .ok (.goto (-30), 3) := by decide +kernel
theorem dBx_sortAlongWidest_124 : decode bBx_sortAlongWidest 124 = .ok (.return_, 1) := by decide +kernel
theorem dBx_cutPlace_0 : decode bBx_cutPlace 0 = .ok (.aload_n 0, 1) := by decide +kernel
theorem dBx_cutPlace_1 : decode bBx_cutPlace 1 = .ok (.getfield 15, 3) := by decide +kernel
theorem dBx_cutPlace_4 : decode bBx_cutPlace 4 = .ok (.iload_n 1, 1) := by decide +kernel
theorem dBx_cutPlace_5 : decode bBx_cutPlace 5 = .ok (.iaload, 1) := by decide +kernel
theorem dBx_cutPlace_6 : decode bBx_cutPlace 6 = .ok (.iconst 1, 1) := by decide +kernel
theorem dBx_cutPlace_7 : decode bBx_cutPlace 7 = .ok (.isub, 1) := by decide +kernel
theorem dBx_cutPlace_8 : decode bBx_cutPlace 8 = .ok (.istore_n 3, 1) := by decide +kernel
theorem dBx_cutPlace_9 : decode bBx_cutPlace 9 = .ok (.aload_n 0, 1) := by decide +kernel
theorem dBx_cutPlace_10 : decode bBx_cutPlace 10 = .ok (.getfield 18, 3) := by decide +kernel
theorem dBx_cutPlace_13 : decode bBx_cutPlace 13 = .ok (.iload_n 1, 1) := by decide +kernel
theorem dBx_cutPlace_14 : decode bBx_cutPlace 14 = .ok (.iaload, 1) := by decide +kernel
theorem dBx_cutPlace_15 : decode bBx_cutPlace 15 = .ok (.aload_n 2, 1) := by decide +kernel
theorem dBx_cutPlace_16 : decode bBx_cutPlace 16 = .ok (.getfield 61, 3) := by decide +kernel
theorem dBx_cutPlace_19 : decode bBx_cutPlace 19 = .ok (.aload_n 0, 1) := by decide +kernel
theorem dBx_cutPlace_20 : decode bBx_cutPlace 20 = .ok (.getfield 27, 3) := by decide +kernel
theorem dBx_cutPlace_23 : decode bBx_cutPlace 23 = .ok (.iload_n 3, 1) := by decide +kernel
theorem dBx_cutPlace_24 : decode bBx_cutPlace 24 = .ok (.iaload, 1) := by decide +kernel
theorem dBx_cutPlace_25 : decode bBx_cutPlace 25 = .ok (.iaload, 1) := by decide +kernel
theorem dBx_cutPlace_26 : decode bBx_cutPlace 26 = .ok (.isub, 1) := by decide +kernel
theorem dBx_cutPlace_27 : decode bBx_cutPlace 27 = .ok (.istore 4, 2) := by decide +kernel
theorem dBx_cutPlace_29 : decode bBx_cutPlace 29 = .ok (.iload_n 3, 1) := by decide +kernel
theorem dBx_cutPlace_30 : decode bBx_cutPlace 30 = .ok (.iconst 1, 1) := by decide +kernel
theorem dBx_cutPlace_31 : decode bBx_cutPlace 31 = .ok (.isub, 1) := by decide +kernel
theorem dBx_cutPlace_32 : decode bBx_cutPlace 32 = .ok (.istore 5, 2) := by decide +kernel
theorem dBx_cutPlace_34 : decode bBx_cutPlace 34 = .ok (.iload 5, 2) := by decide +kernel
theorem dBx_cutPlace_36 : decode bBx_cutPlace 36 = .ok (.aload_n 0, 1) := by decide +kernel
theorem dBx_cutPlace_37 : decode bBx_cutPlace 37 = .ok (.getfield 9, 3) := by decide +kernel
theorem dBx_cutPlace_40 : decode bBx_cutPlace 40 = .ok (.iload_n 1, 1) := by decide +kernel
theorem dBx_cutPlace_41 : decode bBx_cutPlace 41 = .ok (.iaload, 1) := by decide +kernel
theorem dBx_cutPlace_42 : decode bBx_cutPlace 42 = .ok (.if_icmp .le 45, 3) := by decide +kernel
theorem dBx_cutPlace_45 : decode bBx_cutPlace 45 = .ok (.iload 4, 2) := by decide +kernel
theorem dBx_cutPlace_47 : decode bBx_cutPlace 47 = .ok (.aload_n 2, 1) := by decide +kernel
theorem dBx_cutPlace_48 : decode bBx_cutPlace 48 = .ok (.getfield 61, 3) := by decide +kernel
theorem dBx_cutPlace_51 : decode bBx_cutPlace 51 = .ok (.aload_n 0, 1) := by decide +kernel
theorem dBx_cutPlace_52 : decode bBx_cutPlace 52 = .ok (.getfield 27, 3) := by decide +kernel
theorem dBx_cutPlace_55 : decode bBx_cutPlace 55 = .ok (.iload 5, 2) := by decide +kernel
theorem dBx_cutPlace_57 : decode bBx_cutPlace 57 = .ok (.iaload, 1) := by decide +kernel
theorem dBx_cutPlace_58 : decode bBx_cutPlace 58 = .ok (.iaload, 1) := by decide +kernel
theorem dBx_cutPlace_59 : decode bBx_cutPlace 59 = .ok (.isub, 1) := by decide +kernel
theorem dBx_cutPlace_60 : decode bBx_cutPlace 60 = .ok (.istore 4, 2) := by decide +kernel
theorem dBx_cutPlace_62 : decode bBx_cutPlace 62 = .ok (.iconst 2, 1) := by decide +kernel
theorem dBx_cutPlace_63 : decode bBx_cutPlace 63 = .ok (.iload 4, 2) := by decide +kernel
theorem dBx_cutPlace_65 : decode bBx_cutPlace 65 = .ok (.imul, 1) := by decide +kernel
theorem dBx_cutPlace_66 : decode bBx_cutPlace 66 = .ok (.aload_n 0, 1) := by decide +kernel
theorem dBx_cutPlace_67 : decode bBx_cutPlace 67 = .ok (.getfield 18, 3) := by decide +kernel
theorem dBx_cutPlace_70 : decode bBx_cutPlace 70 = .ok (.iload_n 1, 1) := by decide +kernel
theorem dBx_cutPlace_71 : decode bBx_cutPlace 71 = .ok (.iaload, 1) := by decide +kernel
theorem dBx_cutPlace_72 : decode bBx_cutPlace 72 = .ok (.if_icmp .ge 6, 3) := by decide +kernel
theorem dBx_cutPlace_75 : decode bBx_cutPlace 75 = .ok (.goto 12, 3) := by decide +kernel
theorem dBx_cutPlace_78 : decode bBx_cutPlace 78 = .ok (.iload 5, 2) := by decide +kernel
theorem dBx_cutPlace_80 : decode bBx_cutPlace 80 = .ok (.istore_n 3, 1) := by decide +kernel
theorem dBx_cutPlace_81 : decode bBx_cutPlace 81 = .ok (.iinc 5 (-1), 3) := by decide +kernel
theorem dBx_cutPlace_84 : decode bBx_cutPlace 84 = .ok (.goto (-50), 3) := by decide +kernel
theorem dBx_cutPlace_87 : decode bBx_cutPlace 87 = .ok (.iload_n 3, 1) := by decide +kernel
theorem dBx_cutPlace_88 : decode bBx_cutPlace 88 = .ok (.ireturn, 1) := by decide +kernel
theorem dBx_pourInto_0 : decode bBx_pourInto 0 = .ok (.aload_n 1, 1) := by decide +kernel
theorem dBx_pourInto_1 : decode bBx_pourInto 1 = .ok (.aload_n 0, 1) := by decide +kernel
theorem dBx_pourInto_2 : decode bBx_pourInto 2 = .ok (.getfield 30, 3) := by decide +kernel
theorem dBx_pourInto_5 : decode bBx_pourInto 5 = .ok (.invokevirtual 53, 3) := by decide +kernel
theorem dBx_pourInto_8 : decode bBx_pourInto 8 = .ok (.iconst 0, 1) := by decide +kernel
theorem dBx_pourInto_9 : decode bBx_pourInto 9 = .ok (.istore_n 3, 1) := by decide +kernel
theorem dBx_pourInto_10 : decode bBx_pourInto 10 = .ok (.iload_n 3, 1) := by decide +kernel
theorem dBx_pourInto_11 : decode bBx_pourInto 11 = .ok (.aload_n 0, 1) := by decide +kernel
theorem dBx_pourInto_12 : decode bBx_pourInto 12 = .ok (.getfield 30, 3) := by decide +kernel
theorem dBx_pourInto_15 : decode bBx_pourInto 15 = .ok (.if_icmp .ge 63, 3) := by decide +kernel
theorem dBx_pourInto_18 : decode bBx_pourInto 18 = .ok (.aload_n 0, 1) := by decide +kernel
theorem dBx_pourInto_19 : decode bBx_pourInto 19 = .ok (.getfield 9, 3) := by decide +kernel
theorem dBx_pourInto_22 : decode bBx_pourInto 22 = .ok (.iload_n 3, 1) := by decide +kernel
theorem dBx_pourInto_23 : decode bBx_pourInto 23 = .ok (.iaload, 1) := by decide +kernel
theorem dBx_pourInto_24 : decode bBx_pourInto 24 = .ok (.istore 4, 2) := by decide +kernel
theorem dBx_pourInto_26 : decode bBx_pourInto 26 = .ok (.iload 4, 2) := by decide +kernel
theorem dBx_pourInto_28 : decode bBx_pourInto 28 = .ok (.aload_n 0, 1) := by decide +kernel
theorem dBx_pourInto_29 : decode bBx_pourInto 29 = .ok (.getfield 15, 3) := by decide +kernel
theorem dBx_pourInto_32 : decode bBx_pourInto 32 = .ok (.iload_n 3, 1) := by decide +kernel
theorem dBx_pourInto_33 : decode bBx_pourInto 33 = .ok (.iaload, 1) := by decide +kernel
theorem dBx_pourInto_34 : decode bBx_pourInto 34 = .ok (.if_icmp .ge 38, 3) := by decide +kernel
theorem dBx_pourInto_37 : decode bBx_pourInto 37 = .ok (.aload_n 1, 1) := by decide +kernel
theorem dBx_pourInto_38 : decode bBx_pourInto 38 = .ok (.iload_n 3, 1) := by decide +kernel
theorem dBx_pourInto_39 : decode bBx_pourInto 39 = .ok (.aload_n 2, 1) := by decide +kernel
theorem dBx_pourInto_40 : decode bBx_pourInto 40 = .ok (.getfield 58, 3) := by decide +kernel
theorem dBx_pourInto_43 : decode bBx_pourInto 43 = .ok (.aload_n 0, 1) := by decide +kernel
theorem dBx_pourInto_44 : decode bBx_pourInto 44 = .ok (.getfield 27, 3) := by decide +kernel
theorem dBx_pourInto_47 : decode bBx_pourInto 47 = .ok (.iload 4, 2) := by decide +kernel
theorem dBx_pourInto_49 : decode bBx_pourInto 49 = .ok (.iaload, 1) := by decide +kernel
theorem dBx_pourInto_50 : decode bBx_pourInto 50 = .ok (.iaload, 1) := by decide +kernel
theorem dBx_pourInto_51 : decode bBx_pourInto 51 = .ok (.aload_n 2, 1) := by decide +kernel
theorem dBx_pourInto_52 : decode bBx_pourInto 52 = .ok (.getfield 61, 3) := by decide +kernel
theorem dBx_pourInto_55 : decode bBx_pourInto 55 = .ok (.aload_n 0, 1) := by decide +kernel
theorem dBx_pourInto_56 : decode bBx_pourInto 56 = .ok (.getfield 27, 3) := by decide +kernel
theorem dBx_pourInto_59 : decode bBx_pourInto 59 = .ok (.iload 4, 2) := by decide +kernel
theorem dBx_pourInto_61 : decode bBx_pourInto 61 = .ok (.iaload, 1) := by decide +kernel
theorem dBx_pourInto_62 : decode bBx_pourInto 62 = .ok (.iaload, 1) := by decide +kernel
theorem dBx_pourInto_63 : decode bBx_pourInto 63 = .ok (.invokevirtual 64, 3) := by decide +kernel
theorem dBx_pourInto_66 : decode bBx_pourInto 66 = .ok (.iinc 4 1, 3) := by decide +kernel
theorem dBx_pourInto_69 : decode bBx_pourInto 69 = .ok (.goto (-43), 3) := by decide +kernel
theorem dBx_pourInto_72 : decode bBx_pourInto 72 = .ok (.iinc 3 1, 3) := by decide +kernel
theorem dBx_pourInto_75 : decode bBx_pourInto 75 = .ok (.goto (-65), 3) := by decide +kernel
theorem dBx_pourInto_78 : decode bBx_pourInto 78 = .ok (.return_, 1) := by decide +kernel
theorem dPo_start_0 : decode bPo_start 0 = .ok (.aload_n 0, 1) := by decide +kernel
theorem dPo_start_1 : decode bPo_start 1 = .ok (.iload_n 1, 1) := by decide +kernel
theorem dPo_start_2 : decode bPo_start 2 = .ok (.bipush 64, 2) := by decide +kernel
theorem dPo_start_4 : decode bPo_start 4 = .ok (.invokestatic 21, 3) := by decide +kernel
theorem dPo_start_7 : decode bPo_start 7 = .ok (.putfield 27, 3) := by decide +kernel
theorem dPo_start_10 : decode bPo_start 10 = .ok (.aload_n 0, 1) := by decide +kernel
theorem dPo_start_11 : decode bPo_start 11 = .ok (.getfield 9, 3) := by decide +kernel
theorem dPo_start_14 : decode bPo_start 14 = .ok (.iconst 0, 1) := by decide +kernel
theorem dPo_start_15 : decode bPo_start 15 = .ok (.invokestatic 31, 3) := by decide +kernel
theorem dPo_start_18 : decode bPo_start 18 = .ok (.aload_n 0, 1) := by decide +kernel
theorem dPo_start_19 : decode bPo_start 19 = .ok (.getfield 15, 3) := by decide +kernel
theorem dPo_start_22 : decode bPo_start 22 = .ok (.iconst 0, 1) := by decide +kernel
theorem dPo_start_23 : decode bPo_start 23 = .ok (.invokestatic 31, 3) := by decide +kernel
theorem dPo_start_26 : decode bPo_start 26 = .ok (.return_, 1) := by decide +kernel
theorem dPo_pour_0 : decode bPo_pour 0 = .ok (.iconst 0, 1) := by decide +kernel
theorem dPo_pour_1 : decode bPo_pour 1 = .ok (.istore 4, 2) := by decide +kernel
theorem dPo_pour_3 : decode bPo_pour 3 = .ok (.iload 4, 2) := by decide +kernel
theorem dPo_pour_5 : decode bPo_pour 5 = .ok (.iconst 4, 1) := by decide +kernel
theorem dPo_pour_6 : decode bPo_pour 6 = .ok (.if_icmp .ge 31, 3) := by decide +kernel
theorem dPo_pour_9 : decode bPo_pour 9 = .ok (.aload_n 0, 1) := by decide +kernel
theorem dPo_pour_10 : decode bPo_pour 10 = .ok (.getfield 9, 3) := by decide +kernel
theorem dPo_pour_13 : decode bPo_pour 13 = .ok (.iload_n 1, 1) := by decide +kernel
theorem dPo_pour_14 : decode bPo_pour 14 = .ok (.iconst 4, 1) := by decide +kernel
theorem dPo_pour_15 : decode bPo_pour 15 = .ok (.imul, 1) := by decide +kernel
theorem dPo_pour_16 : decode bPo_pour 16 = .ok (.iload 4, 2) := by decide +kernel
theorem dPo_pour_18 : decode bPo_pour 18 = .ok (.iadd, 1) := by decide +kernel
theorem dPo_pour_19 : decode bPo_pour 19 = .ok (.dup2, 1) := by decide +kernel
theorem dPo_pour_20 : decode bPo_pour 20 = .ok (.iaload, 1) := by decide +kernel
theorem dPo_pour_21 : decode bPo_pour 21 = .ok (.iload_n 2, 1) := by decide +kernel
theorem dPo_pour_22 : decode bPo_pour 22 = .ok (.iload 4, 2) := by decide +kernel
theorem dPo_pour_24 : decode bPo_pour 24 = .ok (.invokestatic 37, 3) := by decide +kernel
theorem dPo_pour_27 : decode bPo_pour 27 = .ok (.iload_n 3, 1) := by decide +kernel
theorem dPo_pour_28 : decode bPo_pour 28 = .ok (.imul, 1) := by decide +kernel
theorem dPo_pour_29 : decode bPo_pour 29 = .ok (.iadd, 1) := by decide +kernel
theorem dPo_pour_30 : decode bPo_pour 30 = .ok (.iastore, 1) := by decide +kernel
theorem dPo_pour_31 : decode bPo_pour 31 = .ok (.iinc 4 1, 3) := by decide +kernel
theorem dPo_pour_34 : decode bPo_pour 34 = .ok (.goto (-31), 3) := by decide +kernel
theorem dPo_pour_37 : decode bPo_pour 37 = .ok (.aload_n 0, 1) := by decide +kernel
theorem dPo_pour_38 : decode bPo_pour 38 = .ok (.getfield 15, 3) := by decide +kernel
theorem dPo_pour_41 : decode bPo_pour 41 = .ok (.iload_n 1, 1) := by decide +kernel
theorem dPo_pour_42 : decode bPo_pour 42 = .ok (.dup2, 1) := by decide +kernel
theorem dPo_pour_43 : decode bPo_pour 43 = .ok (.iaload, 1) := by decide +kernel
theorem dPo_pour_44 : decode bPo_pour 44 = .ok (.iload_n 3, 1) := by decide +kernel
theorem dPo_pour_45 : decode bPo_pour 45 = .ok (.iadd, 1) := by decide +kernel
theorem dPo_pour_46 : decode bPo_pour 46 = .ok (.iastore, 1) := by decide +kernel
theorem dPo_pour_47 : decode bPo_pour 47 = .ok (.return_, 1) := by decide +kernel
theorem dPo_joinDownTo_0 : decode bPo_joinDownTo 0 = .ok (.iconst 0, 1) := by decide +kernel
theorem dPo_joinDownTo_1 : decode bPo_joinDownTo 1 = .ok (.istore_n 2, 1) := by decide +kernel
theorem dPo_joinDownTo_2 : decode bPo_joinDownTo 2 = .ok (.iload_n 2, 1) := by decide +kernel
theorem dPo_joinDownTo_3 : decode bPo_joinDownTo 3 = .ok (.aload_n 0, 1) := by decide +kernel
theorem dPo_joinDownTo_4 : decode bPo_joinDownTo 4 = .ok (.getfield 27, 3) := by decide +kernel
theorem dPo_joinDownTo_7 : decode bPo_joinDownTo 7 = .ok (.if_icmp .ge 20, 3) := by decide +kernel
theorem dPo_joinDownTo_10 : decode bPo_joinDownTo 10 = .ok (.aload_n 0, 1) := by decide +kernel
theorem dPo_joinDownTo_11 : decode bPo_joinDownTo 11 = .ok (.getfield 18, 3) := by decide +kernel
theorem dPo_joinDownTo_14 : decode bPo_joinDownTo 14 = .ok (.iload_n 2, 1) := by decide +kernel
theorem dPo_joinDownTo_15 : decode bPo_joinDownTo 15 = .ok (.aload_n 0, 1) := by decide +kernel
theorem dPo_joinDownTo_16 : decode bPo_joinDownTo 16 = .ok (.iload_n 2, 1) := by decide +kernel
theorem dPo_joinDownTo_17 : decode bPo_joinDownTo 17 = .ok (.invokevirtual 47, 3) := by decide +kernel
theorem dPo_joinDownTo_20 : decode bPo_joinDownTo 20 = .ok (.iastore, 1) := by decide +kernel
theorem dPo_joinDownTo_21 : decode bPo_joinDownTo 21 = .ok (.iinc 2 1, 3) := by decide +kernel
theorem dPo_joinDownTo_24 : decode bPo_joinDownTo 24 = .ok (.goto (-22), 3) := by decide +kernel
theorem dPo_joinDownTo_27 : decode bPo_joinDownTo 27 = .ok (.aload_n 0, 1) := by decide +kernel
theorem dPo_joinDownTo_28 : decode bPo_joinDownTo 28 = .ok (.getfield 27, 3) := by decide +kernel
theorem dPo_joinDownTo_31 : decode bPo_joinDownTo 31 = .ok (.istore_n 2, 1) := by decide +kernel
theorem dPo_joinDownTo_32 : decode bPo_joinDownTo 32 = .ok (.iload_n 2, 1) := by decide +kernel
theorem dPo_joinDownTo_33 : decode bPo_joinDownTo 33 = .ok (.iload_n 1, 1) := by decide +kernel
theorem dPo_joinDownTo_34 : decode bPo_joinDownTo 34 = .ok (.if_icmp .le 18, 3) := by decide +kernel
theorem dPo_joinDownTo_37 : decode bPo_joinDownTo 37 = .ok (.iload_n 2, 1) := by decide +kernel
theorem dPo_joinDownTo_38 : decode bPo_joinDownTo 38 = .ok (.iconst 1, 1) := by decide +kernel
theorem dPo_joinDownTo_39 : decode bPo_joinDownTo 39 = .ok (.if_icmp .le 13, 3) := by decide +kernel
theorem dPo_joinDownTo_42 : decode bPo_joinDownTo 42 = .ok (.aload_n 0, 1) := by decide +kernel
theorem dPo_joinDownTo_43 : decode bPo_joinDownTo 43 = .ok (.invokevirtual 57, 3) := by decide +kernel
theorem dPo_joinDownTo_46 : decode bPo_joinDownTo 46 = .ok (.iinc 2 (-1), 3) := by decide +kernel
theorem dPo_joinDownTo_49 : decode bPo_joinDownTo 49 = .ok (.goto (-17), 3) := by decide +kernel
theorem dPo_joinDownTo_52 : decode bPo_joinDownTo 52 = .ok (.return_, 1) := by decide +kernel
theorem dPo_meanOf_0 : decode bPo_meanOf 0 = .ok (.aload_n 0, 1) := by decide +kernel
theorem dPo_meanOf_1 : decode bPo_meanOf 1 = .ok (.iload_n 1, 1) := by decide +kernel
theorem dPo_meanOf_2 : decode bPo_meanOf 2 = .ok (.iconst 0, 1) := by decide +kernel
theorem dPo_meanOf_3 : decode bPo_meanOf 3 = .ok (.invokevirtual 40, 3) := by decide +kernel
theorem dPo_meanOf_6 : decode bPo_meanOf 6 = .ok (.aload_n 0, 1) := by decide +kernel
theorem dPo_meanOf_7 : decode bPo_meanOf 7 = .ok (.iload_n 1, 1) := by decide +kernel
theorem dPo_meanOf_8 : decode bPo_meanOf 8 = .ok (.iconst 1, 1) := by decide +kernel
theorem dPo_meanOf_9 : decode bPo_meanOf 9 = .ok (.invokevirtual 40, 3) := by decide +kernel
theorem dPo_meanOf_12 : decode bPo_meanOf 12 = .ok (.aload_n 0, 1) := by decide +kernel
theorem dPo_meanOf_13 : decode bPo_meanOf 13 = .ok (.iload_n 1, 1) := by decide +kernel
theorem dPo_meanOf_14 : decode bPo_meanOf 14 = .ok (.iconst 2, 1) := by decide +kernel
theorem dPo_meanOf_15 : decode bPo_meanOf 15 = .ok (.invokevirtual 40, 3) := by decide +kernel
theorem dPo_meanOf_18 : decode bPo_meanOf 18 = .ok (.aload_n 0, 1) := by decide +kernel
theorem dPo_meanOf_19 : decode bPo_meanOf 19 = .ok (.iload_n 1, 1) := by decide +kernel
theorem dPo_meanOf_20 : decode bPo_meanOf 20 = .ok (.iconst 3, 1) := by decide +kernel
theorem dPo_meanOf_21 : decode bPo_meanOf 21 = .ok (.invokevirtual 40, 3) := by decide +kernel
theorem dPo_meanOf_24 : decode bPo_meanOf 24 = .ok (.invokestatic 43, 3) := by decide +kernel
theorem dPo_meanOf_27 : decode bPo_meanOf 27 = .ok (.ireturn, 1) := by decide +kernel
theorem dPo_meanLevel_0 : decode bPo_meanLevel 0 = .ok (.aload_n 0, 1) := by decide +kernel
theorem dPo_meanLevel_1 : decode bPo_meanLevel 1 = .ok (.getfield 15, 3) := by decide +kernel
theorem dPo_meanLevel_4 : decode bPo_meanLevel 4 = .ok (.iload_n 1, 1) := by decide +kernel
theorem dPo_meanLevel_5 : decode bPo_meanLevel 5 = .ok (.iaload, 1) := by decide +kernel
theorem dPo_meanLevel_6 : decode bPo_meanLevel 6 = .ok (.ifCond .gt 5, 3) := by decide +kernel
theorem dPo_meanLevel_9 : decode bPo_meanLevel 9 = .ok (.iconst 0, 1) := by decide +kernel
theorem dPo_meanLevel_10 : decode bPo_meanLevel 10 = .ok (.ireturn, 1) := by decide +kernel
theorem dPo_meanLevel_11 : decode bPo_meanLevel 11 = .ok (.iconst 2, 1) := by decide +kernel
theorem dPo_meanLevel_12 : decode bPo_meanLevel 12 = .ok (.aload_n 0, 1) := by decide +kernel
theorem dPo_meanLevel_13 : decode bPo_meanLevel 13 = .ok (.getfield 9, 3) := by decide +kernel
theorem dPo_meanLevel_16 : decode bPo_meanLevel 16 = .ok (.iload_n 1, 1) := by decide +kernel
theorem dPo_meanLevel_17 : decode bPo_meanLevel 17 = .ok (.iconst 4, 1) := by decide +kernel
theorem dPo_meanLevel_18 : decode bPo_meanLevel 18 = .ok (.imul, 1) := by decide +kernel
theorem dPo_meanLevel_19 : decode bPo_meanLevel 19 = .ok (.iload_n 2, 1) := by decide +kernel
theorem dPo_meanLevel_20 : decode bPo_meanLevel 20 = .ok (.iadd, 1) := by decide +kernel
theorem dPo_meanLevel_21 : decode bPo_meanLevel 21 = .ok (.iaload, 1) := by decide +kernel
theorem dPo_meanLevel_22 : decode bPo_meanLevel 22 = .ok (.imul, 1) := by decide +kernel
theorem dPo_meanLevel_23 : decode bPo_meanLevel 23 = .ok (.aload_n 0, 1) := by decide +kernel
theorem dPo_meanLevel_24 : decode bPo_meanLevel 24 = .ok (.getfield 15, 3) := by decide +kernel
theorem dPo_meanLevel_27 : decode bPo_meanLevel 27 = .ok (.iload_n 1, 1) := by decide +kernel
theorem dPo_meanLevel_28 : decode bPo_meanLevel 28 = .ok (.iaload, 1) := by decide +kernel
theorem dPo_meanLevel_29 : decode bPo_meanLevel 29 = .ok (.iadd, 1) := by decide +kernel
theorem dPo_meanLevel_30 : decode bPo_meanLevel 30 = .ok (.iconst 2, 1) := by decide +kernel
theorem dPo_meanLevel_31 : decode bPo_meanLevel 31 = .ok (.aload_n 0, 1) := by decide +kernel
theorem dPo_meanLevel_32 : decode bPo_meanLevel 32 = .ok (.getfield 15, 3) := by decide +kernel
theorem dPo_meanLevel_35 : decode bPo_meanLevel 35 = .ok (.iload_n 1, 1) := by decide +kernel
theorem dPo_meanLevel_36 : decode bPo_meanLevel 36 = .ok (.iaload, 1) := by decide +kernel
theorem dPo_meanLevel_37 : decode bPo_meanLevel 37 = .ok (.imul, 1) := by decide +kernel
theorem dPo_meanLevel_38 : decode bPo_meanLevel 38 = .ok (.idiv, 1) := by decide +kernel
theorem dPo_meanLevel_39 : decode bPo_meanLevel 39 = .ok (.ireturn, 1) := by decide +kernel
theorem dPo_joinCheapestPair_0 : decode bPo_joinCheapestPair 0 = .ok (.iconst 0, 1) := by decide +kernel
theorem dPo_joinCheapestPair_1 : decode bPo_joinCheapestPair 1 = .ok (.istore_n 1, 1) := by decide +kernel
theorem dPo_joinCheapestPair_2 : decode bPo_joinCheapestPair 2 = .ok (.iconst 1, 1) := by decide +kernel
theorem dPo_joinCheapestPair_3 : decode bPo_joinCheapestPair 3 = .ok (.istore_n 2, 1) := by decide +kernel
theorem dPo_joinCheapestPair_4 : decode bPo_joinCheapestPair 4 = .ok (.ldc2_w 62, 3) := by decide +kernel
theorem dPo_joinCheapestPair_7 : decode bPo_joinCheapestPair 7 = .ok (.lstore_n 3, 1) := by decide +kernel
theorem dPo_joinCheapestPair_8 : decode bPo_joinCheapestPair 8 = .ok (.iconst 0, 1) := by decide +kernel
theorem dPo_joinCheapestPair_9 : decode bPo_joinCheapestPair 9 = .ok (.istore 5, 2) := by decide +kernel
theorem dPo_joinCheapestPair_11 : decode bPo_joinCheapestPair 11 = .ok (.iload 5, 2) := by decide +kernel
theorem dPo_joinCheapestPair_13 : decode bPo_joinCheapestPair 13 = .ok (.aload_n 0, 1) := by decide +kernel
theorem dPo_joinCheapestPair_14 : decode bPo_joinCheapestPair 14 = .ok (.getfield 27, 3) := by decide +kernel
theorem dPo_joinCheapestPair_17 : decode bPo_joinCheapestPair 17 = .ok (.if_icmp .ge 56, 3) := by decide +kernel
theorem dPo_joinCheapestPair_20 : decode bPo_joinCheapestPair 20 = .ok (.iload 5, 2) := by decide +kernel
theorem dPo_joinCheapestPair_22 : decode bPo_joinCheapestPair 22 = .ok (.iconst 1, 1) := by decide +kernel
theorem dPo_joinCheapestPair_23 : decode bPo_joinCheapestPair 23 = .ok (.iadd, 1) := by decide +kernel
theorem dPo_joinCheapestPair_24 : decode bPo_joinCheapestPair 24 = .ok (.istore 6, 2) := by decide +kernel
theorem dPo_joinCheapestPair_26 : decode bPo_joinCheapestPair 26 = .ok (.iload 6, 2) := by decide +kernel
theorem dPo_joinCheapestPair_28 : decode bPo_joinCheapestPair 28 = .ok (.aload_n 0, 1) := by decide +kernel
theorem dPo_joinCheapestPair_29 : decode bPo_joinCheapestPair 29 = .ok (.getfield 27, 3) := by decide +kernel
theorem dPo_joinCheapestPair_32 : decode bPo_joinCheapestPair 32 = .ok (.if_icmp .ge 35, 3) := by decide +kernel
theorem dPo_joinCheapestPair_35 : decode bPo_joinCheapestPair 35 = .ok (.aload_n 0, 1) := by decide +kernel
theorem dPo_joinCheapestPair_36 : decode bPo_joinCheapestPair 36 = .ok (.iload 5, 2) := by decide +kernel
theorem dPo_joinCheapestPair_38 : decode bPo_joinCheapestPair 38 = .ok (.iload 6, 2) := by decide +kernel
theorem dPo_joinCheapestPair_40 : decode bPo_joinCheapestPair 40 = .ok (.invokevirtual 64, 3) := by decide +kernel
theorem dPo_joinCheapestPair_43 : decode bPo_joinCheapestPair 43 = .ok (.lstore 7, 2) := by decide +kernel
theorem dPo_joinCheapestPair_45 : decode bPo_joinCheapestPair 45 = .ok (.lload 7, 2) := by decide +kernel
theorem dPo_joinCheapestPair_47 : decode bPo_joinCheapestPair 47 = .ok (.lload_n 3, 1) := by decide +kernel
theorem dPo_joinCheapestPair_48 : decode bPo_joinCheapestPair 48 = .ok (.lcmp, 1) := by decide +kernel
theorem dPo_joinCheapestPair_49 : decode bPo_joinCheapestPair 49 = .ok (.ifCond .ge 12, 3) := by decide +kernel
theorem dPo_joinCheapestPair_52 : decode bPo_joinCheapestPair 52 = .ok (.lload 7, 2) := by decide +kernel
theorem dPo_joinCheapestPair_54 : decode bPo_joinCheapestPair 54 = .ok (.lstore_n 3, 1) := by decide +kernel
theorem dPo_joinCheapestPair_55 : decode bPo_joinCheapestPair 55 = .ok (.iload 5, 2) := by decide +kernel
theorem dPo_joinCheapestPair_57 : decode bPo_joinCheapestPair 57 = .ok (.istore_n 1, 1) := by decide +kernel
theorem dPo_joinCheapestPair_58 : decode bPo_joinCheapestPair 58 = .ok (.iload 6, 2) := by decide +kernel
theorem dPo_joinCheapestPair_60 : decode bPo_joinCheapestPair 60 = .ok (.istore_n 2, 1) := by decide +kernel
theorem dPo_joinCheapestPair_61 : decode bPo_joinCheapestPair 61 = .ok (.iinc 6 1, 3) := by decide +kernel
theorem dPo_joinCheapestPair_64 : decode bPo_joinCheapestPair 64 = .ok (.goto (-38), 3) := by decide +kernel
theorem dPo_joinCheapestPair_67 : decode bPo_joinCheapestPair 67 = .ok (.iinc 5 1, 3) := by decide +kernel
theorem dPo_joinCheapestPair_70 : decode bPo_joinCheapestPair 70 = .ok (.goto (-59), 3) := by decide +kernel
theorem dPo_joinCheapestPair_73 : decode bPo_joinCheapestPair 73 = .ok (.aload_n 0, 1) := by decide +kernel
theorem dPo_joinCheapestPair_74 : decode bPo_joinCheapestPair 74 = .ok (.iload_n 1, 1) := by decide +kernel
theorem dPo_joinCheapestPair_75 : decode bPo_joinCheapestPair 75 = .ok (.iload_n 2, 1) := by decide +kernel
theorem dPo_joinCheapestPair_76 : decode bPo_joinCheapestPair 76 = .ok (.invokevirtual 68, 3) := by decide +kernel
theorem dPo_joinCheapestPair_79 : decode bPo_joinCheapestPair 79 = .ok (.return_, 1) := by decide +kernel
theorem dPo_costOfJoining_0 : decode bPo_costOfJoining 0 = .ok (.aload_n 0, 1) := by decide +kernel
theorem dPo_costOfJoining_1 : decode bPo_costOfJoining 1 = .ok (.getfield 15, 3) := by decide +kernel
theorem dPo_costOfJoining_4 : decode bPo_costOfJoining 4 = .ok (.iload_n 1, 1) := by decide +kernel
theorem dPo_costOfJoining_5 : decode bPo_costOfJoining 5 = .ok (.iaload, 1) := by decide +kernel
theorem dPo_costOfJoining_6 : decode bPo_costOfJoining 6 = .ok (.aload_n 0, 1) := by decide +kernel
theorem dPo_costOfJoining_7 : decode bPo_costOfJoining 7 = .ok (.getfield 15, 3) := by decide +kernel
theorem dPo_costOfJoining_10 : decode bPo_costOfJoining 10 = .ok (.iload_n 2, 1) := by decide +kernel
theorem dPo_costOfJoining_11 : decode bPo_costOfJoining 11 = .ok (.iaload, 1) := by decide +kernel
theorem dPo_costOfJoining_12 : decode bPo_costOfJoining 12 = .ok (.iadd, 1) := by decide +kernel
theorem dPo_costOfJoining_13 : decode bPo_costOfJoining 13 = .ok (.istore_n 3, 1) := by decide +kernel
theorem dPo_costOfJoining_14 : decode bPo_costOfJoining 14 = .ok (.iload_n 3, 1) := by decide +kernel
theorem dPo_costOfJoining_15 : decode bPo_costOfJoining 15 = .ok (.ifCond .gt 5, 3) := by decide +kernel
theorem dPo_costOfJoining_18 : decode bPo_costOfJoining 18 = .ok (.lconst 0, 1) := by decide +kernel
theorem dPo_costOfJoining_19 : decode bPo_costOfJoining 19 = .ok (.lreturn, 1) := by decide +kernel
theorem dPo_costOfJoining_20 : decode bPo_costOfJoining 20 = .ok (.aload_n 0, 1) := by decide +kernel
theorem dPo_costOfJoining_21 : decode bPo_costOfJoining 21 = .ok (.getfield 15, 3) := by decide +kernel
theorem dPo_costOfJoining_24 : decode bPo_costOfJoining 24 = .ok (.iload_n 1, 1) := by decide +kernel
theorem dPo_costOfJoining_25 : decode bPo_costOfJoining 25 = .ok (.iaload, 1) := by decide +kernel
theorem dPo_costOfJoining_26 : decode bPo_costOfJoining 26 = .ok (.i2l, 1) := by decide +kernel
theorem dPo_costOfJoining_27 : decode bPo_costOfJoining 27 = .ok (.aload_n 0, 1) := by decide +kernel
theorem dPo_costOfJoining_28 : decode bPo_costOfJoining 28 = .ok (.getfield 15, 3) := by decide +kernel
theorem dPo_costOfJoining_31 : decode bPo_costOfJoining 31 = .ok (.iload_n 2, 1) := by decide +kernel
theorem dPo_costOfJoining_32 : decode bPo_costOfJoining 32 = .ok (.iaload, 1) := by decide +kernel
theorem dPo_costOfJoining_33 : decode bPo_costOfJoining 33 = .ok (.i2l, 1) := by decide +kernel
theorem dPo_costOfJoining_34 : decode bPo_costOfJoining 34 = .ok (.lmul, 1) := by decide +kernel
theorem dPo_costOfJoining_35 : decode bPo_costOfJoining 35 = .ok (.aload_n 0, 1) := by decide +kernel
theorem dPo_costOfJoining_36 : decode bPo_costOfJoining 36 = .ok (.getfield 18, 3) := by decide +kernel
theorem dPo_costOfJoining_39 : decode bPo_costOfJoining 39 = .ok (.iload_n 1, 1) := by decide +kernel
theorem dPo_costOfJoining_40 : decode bPo_costOfJoining 40 = .ok (.iaload, 1) := by decide +kernel
theorem dPo_costOfJoining_41 : decode bPo_costOfJoining 41 = .ok (.aload_n 0, 1) := by decide +kernel
theorem dPo_costOfJoining_42 : decode bPo_costOfJoining 42 = .ok (.getfield 18, 3) := by decide +kernel
theorem dPo_costOfJoining_45 : decode bPo_costOfJoining 45 = .ok (.iload_n 2, 1) := by decide +kernel
theorem dPo_costOfJoining_46 : decode bPo_costOfJoining 46 = .ok (.iaload, 1) := by decide +kernel
theorem dPo_costOfJoining_47 : decode bPo_costOfJoining 47 = .ok (.invokestatic 72, 3) := by decide +kernel
theorem dPo_costOfJoining_50 : decode bPo_costOfJoining 50 = .ok (.i2l, 1) := by decide +kernel
theorem dPo_costOfJoining_51 : decode bPo_costOfJoining 51 = .ok (.lmul, 1) := by decide +kernel
theorem dPo_costOfJoining_52 : decode bPo_costOfJoining 52 = .ok (.iload_n 3, 1) := by decide +kernel
theorem dPo_costOfJoining_53 : decode bPo_costOfJoining 53 = .ok (.i2l, 1) := by decide +kernel
theorem dPo_costOfJoining_54 : decode bPo_costOfJoining 54 = .ok (.ldiv, 1) := by decide +kernel
theorem dPo_costOfJoining_55 : decode bPo_costOfJoining 55 = .ok (.lreturn, 1) := by decide +kernel
theorem dCL_farApart_0 : decode bCL_farApart 0 = .ok (.iconst 0, 1) := by decide +kernel
theorem dCL_farApart_1 : decode bCL_farApart 1 = .ok (.istore_n 2, 1) := by decide +kernel
theorem dCL_farApart_2 : decode bCL_farApart 2 = .ok (.iconst 0, 1) := by decide +kernel
theorem dCL_farApart_3 : decode bCL_farApart 3 = .ok (.istore_n 3, 1) := by decide +kernel
theorem dCL_farApart_4 : decode bCL_farApart 4 = .ok (.iload_n 3, 1) := by decide +kernel
theorem dCL_farApart_5 : decode bCL_farApart 5 = .ok (.iconst 4, 1) := by decide +kernel
theorem dCL_farApart_6 : decode bCL_farApart 6 = .ok (.if_icmp .ge 26, 3) := by decide +kernel
theorem dCL_farApart_9 : decode bCL_farApart 9 = .ok (.iload_n 2, 1) := by decide +kernel
theorem dCL_farApart_10 : decode bCL_farApart 10 = .ok (.iload_n 0, 1) := by decide +kernel
theorem dCL_farApart_11 : decode bCL_farApart 11 = .ok (.iload_n 3, 1) := by decide +kernel
theorem dCL_farApart_12 : decode bCL_farApart 12 = .ok (.invokestatic 279, 3) := by decide +kernel
theorem dCL_farApart_15 : decode bCL_farApart 15 = .ok (.iload_n 1, 1) := by decide +kernel
theorem dCL_farApart_16 : decode bCL_farApart 16 = .ok (.iload_n 3, 1) := by decide +kernel
theorem dCL_farApart_17 : decode bCL_farApart 17 = .ok (.invokestatic 279, 3) := by decide +kernel
theorem dCL_farApart_20 : decode bCL_farApart 20 = .ok (.isub, 1) := by decide +kernel
theorem dCL_farApart_21 : decode bCL_farApart 21 = .ok (.invokestatic 282, 3) := by decide +kernel
theorem dCL_farApart_24 : decode bCL_farApart 24 = .ok (.iadd, 1) := by decide +kernel
theorem dCL_farApart_25 : decode bCL_farApart 25 = .ok (.istore_n 2, 1) := by decide +kernel
theorem dCL_farApart_26 : decode bCL_farApart 26 = .ok (.iinc 3 1, 3) := by decide +kernel
theorem dCL_farApart_29 : decode bCL_farApart 29 = .ok (.goto (-25), 3) := by decide +kernel
theorem dCL_farApart_32 : decode bCL_farApart 32 = .ok (.iload_n 2, 1) := by decide +kernel
theorem dCL_farApart_33 : decode bCL_farApart 33 = .ok (.ireturn, 1) := by decide +kernel
theorem dCL_square_0 : decode bCL_square 0 = .ok (.iload_n 0, 1) := by decide +kernel
theorem dCL_square_1 : decode bCL_square 1 = .ok (.iload_n 0, 1) := by decide +kernel
theorem dCL_square_2 : decode bCL_square 2 = .ok (.imul, 1) := by decide +kernel
theorem dCL_square_3 : decode bCL_square 3 = .ok (.ireturn, 1) := by decide +kernel
theorem dPo_join_0 : decode bPo_join 0 = .ok (.iconst 0, 1) := by decide +kernel
theorem dPo_join_1 : decode bPo_join 1 = .ok (.istore_n 3, 1) := by decide +kernel
theorem dPo_join_2 : decode bPo_join 2 = .ok (.iload_n 3, 1) := by decide +kernel
theorem dPo_join_3 : decode bPo_join 3 = .ok (.iconst 4, 1) := by decide +kernel
theorem dPo_join_4 : decode bPo_join 4 = .ok (.if_icmp .ge 32, 3) := by decide +kernel
theorem dPo_join_7 : decode bPo_join 7 = .ok (.aload_n 0, 1) := by decide +kernel
theorem dPo_join_8 : decode bPo_join 8 = .ok (.getfield 9, 3) := by decide +kernel
theorem dPo_join_11 : decode bPo_join 11 = .ok (.iload_n 1, 1) := by decide +kernel
theorem dPo_join_12 : decode bPo_join 12 = .ok (.iconst 4, 1) := by decide +kernel
theorem dPo_join_13 : decode bPo_join 13 = .ok (.imul, 1) := by decide +kernel
theorem dPo_join_14 : decode bPo_join 14 = .ok (.iload_n 3, 1) := by decide +kernel
theorem dPo_join_15 : decode bPo_join 15 = .ok (.iadd, 1) := by decide +kernel
theorem dPo_join_16 : decode bPo_join 16 = .ok (.dup2, 1) := by decide +kernel
theorem dPo_join_17 : decode bPo_join 17 = .ok (.iaload, 1) := by decide +kernel
theorem dPo_join_18 : decode bPo_join 18 = .ok (.aload_n 0, 1) := by decide +kernel
theorem dPo_join_19 : decode bPo_join 19 = .ok (.getfield 9, 3) := by decide +kernel
theorem dPo_join_22 : decode bPo_join 22 = .ok (.iload_n 2, 1) := by decide +kernel
theorem dPo_join_23 : decode bPo_join 23 = .ok (.iconst 4, 1) := by decide +kernel
theorem dPo_join_24 : decode bPo_join 24 = .ok (.imul, 1) := by decide +kernel
theorem dPo_join_25 : decode bPo_join 25 = .ok (.iload_n 3, 1) := by decide +kernel
theorem dPo_join_26 : decode bPo_join 26 = .ok (.iadd, 1) := by decide +kernel
theorem dPo_join_27 : decode bPo_join 27 = .ok (.iaload, 1) := by decide +kernel
theorem dPo_join_28 : decode bPo_join 28 = .ok (.iadd, 1) := by decide +kernel
theorem dPo_join_29 : decode bPo_join 29 = .ok (.iastore, 1) := by decide +kernel
theorem dPo_join_30 : decode bPo_join 30 = .ok (.iinc 3 1, 3) := by decide +kernel
theorem dPo_join_33 : decode bPo_join 33 = .ok (.goto (-31), 3) := by decide +kernel
theorem dPo_join_36 : decode bPo_join 36 = .ok (.aload_n 0, 1) := by decide +kernel
theorem dPo_join_37 : decode bPo_join 37 = .ok (.getfield 15, 3) := by decide +kernel
theorem dPo_join_40 : decode bPo_join 40 = .ok (.iload_n 1, 1) := by decide +kernel
theorem dPo_join_41 : decode bPo_join 41 = .ok (.dup2, 1) := by decide +kernel
theorem dPo_join_42 : decode bPo_join 42 = .ok (.iaload, 1) := by decide +kernel
theorem dPo_join_43 : decode bPo_join 43 = .ok (.aload_n 0, 1) := by decide +kernel
theorem dPo_join_44 : decode bPo_join 44 = .ok (.getfield 15, 3) := by decide +kernel
theorem dPo_join_47 : decode bPo_join 47 = .ok (.iload_n 2, 1) := by decide +kernel
theorem dPo_join_48 : decode bPo_join 48 = .ok (.iaload, 1) := by decide +kernel
theorem dPo_join_49 : decode bPo_join 49 = .ok (.iadd, 1) := by decide +kernel
theorem dPo_join_50 : decode bPo_join 50 = .ok (.iastore, 1) := by decide +kernel
theorem dPo_join_51 : decode bPo_join 51 = .ok (.aload_n 0, 1) := by decide +kernel
theorem dPo_join_52 : decode bPo_join 52 = .ok (.getfield 18, 3) := by decide +kernel
theorem dPo_join_55 : decode bPo_join 55 = .ok (.iload_n 1, 1) := by decide +kernel
theorem dPo_join_56 : decode bPo_join 56 = .ok (.aload_n 0, 1) := by decide +kernel
theorem dPo_join_57 : decode bPo_join 57 = .ok (.iload_n 1, 1) := by decide +kernel
theorem dPo_join_58 : decode bPo_join 58 = .ok (.invokevirtual 47, 3) := by decide +kernel
theorem dPo_join_61 : decode bPo_join 61 = .ok (.iastore, 1) := by decide +kernel
theorem dPo_join_62 : decode bPo_join 62 = .ok (.aload_n 0, 1) := by decide +kernel
theorem dPo_join_63 : decode bPo_join 63 = .ok (.getfield 27, 3) := by decide +kernel
theorem dPo_join_66 : decode bPo_join 66 = .ok (.iload_n 2, 1) := by decide +kernel
theorem dPo_join_67 : decode bPo_join 67 = .ok (.isub, 1) := by decide +kernel
theorem dPo_join_68 : decode bPo_join 68 = .ok (.iconst 1, 1) := by decide +kernel
theorem dPo_join_69 : decode bPo_join 69 = .ok (.isub, 1) := by decide +kernel
theorem dPo_join_70 : decode bPo_join 70 = .ok (.istore_n 3, 1) := by decide +kernel
theorem dPo_join_71 : decode bPo_join 71 = .ok (.aload_n 0, 1) := by decide +kernel
theorem dPo_join_72 : decode bPo_join 72 = .ok (.getfield 9, 3) := by decide +kernel
theorem dPo_join_75 : decode bPo_join 75 = .ok (.iload_n 2, 1) := by decide +kernel
theorem dPo_join_76 : decode bPo_join 76 = .ok (.iconst 1, 1) := by decide +kernel
theorem dPo_join_77 : decode bPo_join 77 = .ok (.iadd, 1) := by decide +kernel
theorem dPo_join_78 : decode bPo_join 78 = .ok (.iconst 4, 1) := by decide +kernel
theorem dPo_join_79 : decode bPo_join 79 = .ok (.imul, 1) := by decide +kernel
theorem dPo_join_80 : decode bPo_join 80 = .ok (.aload_n 0, 1) := by decide +kernel
theorem dPo_join_81 : decode bPo_join 81 = .ok (.getfield 9, 3) := by decide +kernel
theorem dPo_join_84 : decode bPo_join 84 = .ok (.iload_n 2, 1) := by decide +kernel
theorem dPo_join_85 : decode bPo_join 85 = .ok (.iconst 4, 1) := by decide +kernel
theorem dPo_join_86 : decode bPo_join 86 = .ok (.imul, 1) := by decide +kernel
theorem dPo_join_87 : decode bPo_join 87 = .ok (.iload_n 3, 1) := by decide +kernel
theorem dPo_join_88 : decode bPo_join 88 = .ok (.iconst 4, 1) := by decide +kernel
theorem dPo_join_89 : decode bPo_join 89 = .ok (.imul, 1) := by decide +kernel
theorem dPo_join_90 : decode bPo_join 90 = .ok (.invokestatic 75, 3) := by decide +kernel
theorem dPo_join_93 : decode bPo_join 93 = .ok (.aload_n 0, 1) := by decide +kernel
theorem dPo_join_94 : decode bPo_join 94 = .ok (.getfield 15, 3) := by decide +kernel
theorem dPo_join_97 : decode bPo_join 97 = .ok (.iload_n 2, 1) := by decide +kernel
theorem dPo_join_98 : decode bPo_join 98 = .ok (.iconst 1, 1) := by decide +kernel
theorem dPo_join_99 : decode bPo_join 99 = .ok (.iadd, 1) := by decide +kernel
theorem dPo_join_100 : decode bPo_join 100 = .ok (.aload_n 0, 1) := by decide +kernel
theorem dPo_join_101 : decode bPo_join 101 = .ok (.getfield 15, 3) := by decide +kernel
theorem dPo_join_104 : decode bPo_join 104 = .ok (.iload_n 2, 1) := by decide +kernel
theorem dPo_join_105 : decode bPo_join 105 = .ok (.iload_n 3, 1) := by decide +kernel
theorem dPo_join_106 : decode bPo_join 106 = .ok (.invokestatic 75, 3) := by decide +kernel
theorem dPo_join_109 : decode bPo_join 109 = .ok (.aload_n 0, 1) := by decide +kernel
theorem dPo_join_110 : decode bPo_join 110 = .ok (.getfield 18, 3) := by decide +kernel
theorem dPo_join_113 : decode bPo_join 113 = .ok (.iload_n 2, 1) := by decide +kernel
theorem dPo_join_114 : decode bPo_join 114 = .ok (.iconst 1, 1) := by decide +kernel
theorem dPo_join_115 : decode bPo_join 115 = .ok (.iadd, 1) := by decide +kernel
theorem dPo_join_116 : decode bPo_join 116 = .ok (.aload_n 0, 1) := by decide +kernel
theorem dPo_join_117 : decode bPo_join 117 = .ok (.getfield 18, 3) := by decide +kernel
theorem dPo_join_120 : decode bPo_join 120 = .ok (.iload_n 2, 1) := by decide +kernel
theorem dPo_join_121 : decode bPo_join 121 = .ok (.iload_n 3, 1) := by decide +kernel
theorem dPo_join_122 : decode bPo_join 122 = .ok (.invokestatic 75, 3) := by decide +kernel
theorem dPo_join_125 : decode bPo_join 125 = .ok (.aload_n 0, 1) := by decide +kernel
theorem dPo_join_126 : decode bPo_join 126 = .ok (.dup, 1) := by decide +kernel
theorem dPo_join_127 : decode bPo_join 127 = .ok (.getfield 27, 3) := by decide +kernel
theorem dPo_join_130 : decode bPo_join 130 = .ok (.iconst 1, 1) := by decide +kernel
theorem dPo_join_131 : decode bPo_join 131 = .ok (.isub, 1) := by decide +kernel
theorem dPo_join_132 : decode bPo_join 132 = .ok (.putfield 27, 3) := by decide +kernel
theorem dPo_join_135 : decode bPo_join 135 = .ok (.return_, 1) := by decide +kernel
theorem dPo_addMeansTo_0 : decode bPo_addMeansTo 0 = .ok (.iconst 0, 1) := by decide +kernel
theorem dPo_addMeansTo_1 : decode bPo_addMeansTo 1 = .ok (.istore_n 2, 1) := by decide +kernel
theorem dPo_addMeansTo_2 : decode bPo_addMeansTo 2 = .ok (.iload_n 2, 1) := by decide +kernel
theorem dPo_addMeansTo_3 : decode bPo_addMeansTo 3 = .ok (.aload_n 0, 1) := by decide +kernel
theorem dPo_addMeansTo_4 : decode bPo_addMeansTo 4 = .ok (.getfield 27, 3) := by decide +kernel
theorem dPo_addMeansTo_7 : decode bPo_addMeansTo 7 = .ok (.if_icmp .ge 18, 3) := by decide +kernel
theorem dPo_addMeansTo_10 : decode bPo_addMeansTo 10 = .ok (.aload_n 1, 1) := by decide +kernel
theorem dPo_addMeansTo_11 : decode bPo_addMeansTo 11 = .ok (.aload_n 0, 1) := by decide +kernel
theorem dPo_addMeansTo_12 : decode bPo_addMeansTo 12 = .ok (.iload_n 2, 1) := by decide +kernel
theorem dPo_addMeansTo_13 : decode bPo_addMeansTo 13 = .ok (.invokevirtual 47, 3) := by decide +kernel
theorem dPo_addMeansTo_16 : decode bPo_addMeansTo 16 = .ok (.invokevirtual 51, 3) := by decide +kernel
theorem dPo_addMeansTo_19 : decode bPo_addMeansTo 19 = .ok (.iinc 2 1, 3) := by decide +kernel
theorem dPo_addMeansTo_22 : decode bPo_addMeansTo 22 = .ok (.goto (-20), 3) := by decide +kernel
theorem dPo_addMeansTo_25 : decode bPo_addMeansTo 25 = .ok (.return_, 1) := by decide +kernel
theorem dFi_bringToMeans_0 : decode bFi_bringToMeans 0 = .ok (.aload_n 0, 1) := by decide +kernel
theorem dFi_bringToMeans_1 : decode bFi_bringToMeans 1 = .ok (.iload 4, 2) := by decide +kernel
theorem dFi_bringToMeans_3 : decode bFi_bringToMeans 3 = .ok (.bipush 20, 2) := by decide +kernel
theorem dFi_bringToMeans_5 : decode bFi_bringToMeans 5 = .ok (.invokestatic 29, 3) := by decide +kernel
theorem dFi_bringToMeans_8 : decode bFi_bringToMeans 8 = .ok (.putfield 25, 3) := by decide +kernel
theorem dFi_bringToMeans_11 : decode bFi_bringToMeans 11 = .ok (.aload_n 0, 1) := by decide +kernel
theorem dFi_bringToMeans_12 : decode bFi_bringToMeans 12 = .ok (.aload_n 1, 1) := by decide +kernel
theorem dFi_bringToMeans_13 : decode bFi_bringToMeans 13 = .ok (.aload_n 2, 1) := by decide +kernel
theorem dFi_bringToMeans_14 : decode bFi_bringToMeans 14 = .ok (.invokevirtual 35, 3) := by decide +kernel
theorem dFi_bringToMeans_17 : decode bFi_bringToMeans 17 = .ok (.lstore 5, 2) := by decide +kernel
theorem dFi_bringToMeans_19 : decode bFi_bringToMeans 19 = .ok (.iconst 1, 1) := by decide +kernel
theorem dFi_bringToMeans_20 : decode bFi_bringToMeans 20 = .ok (.istore 7, 2) := by decide +kernel
theorem dFi_bringToMeans_22 : decode bFi_bringToMeans 22 = .ok (.iconst 0, 1) := by decide +kernel
theorem dFi_bringToMeans_23 : decode bFi_bringToMeans 23 = .ok (.istore 8, 2) := by decide +kernel
theorem dFi_bringToMeans_25 : decode bFi_bringToMeans 25 = .ok (.iload 8, 2) := by decide +kernel
theorem dFi_bringToMeans_27 : decode bFi_bringToMeans 27 = .ok (.aload_n 0, 1) := by decide +kernel
theorem dFi_bringToMeans_28 : decode bFi_bringToMeans 28 = .ok (.getfield 25, 3) := by decide +kernel
theorem dFi_bringToMeans_31 : decode bFi_bringToMeans 31 = .ok (.if_icmp .ge 53, 3) := by decide +kernel
theorem dFi_bringToMeans_34 : decode bFi_bringToMeans 34 = .ok (.aload_n 0, 1) := by decide +kernel
theorem dFi_bringToMeans_35 : decode bFi_bringToMeans 35 = .ok (.getfield 9, 3) := by decide +kernel
theorem dFi_bringToMeans_38 : decode bFi_bringToMeans 38 = .ok (.iload 8, 2) := by decide +kernel
theorem dFi_bringToMeans_40 : decode bFi_bringToMeans 40 = .ok (.lload 5, 2) := by decide +kernel
theorem dFi_bringToMeans_42 : decode bFi_bringToMeans 42 = .ok (.lastore, 1) := by decide +kernel
theorem dFi_bringToMeans_43 : decode bFi_bringToMeans 43 = .ok (.iload 7, 2) := by decide +kernel
theorem dFi_bringToMeans_45 : decode bFi_bringToMeans 45 = .ok (.ifCond .eq 17, 3) := by decide +kernel
theorem dFi_bringToMeans_48 : decode bFi_bringToMeans 48 = .ok (.aload_n 0, 1) := by decide +kernel
theorem dFi_bringToMeans_49 : decode bFi_bringToMeans 49 = .ok (.aload_n 1, 1) := by decide +kernel
theorem dFi_bringToMeans_50 : decode bFi_bringToMeans 50 = .ok (.aload_n 2, 1) := by decide +kernel
theorem dFi_bringToMeans_51 : decode bFi_bringToMeans 51 = .ok (.aload_n 3, 1) := by decide +kernel
theorem dFi_bringToMeans_52 : decode bFi_bringToMeans 52 = .ok (.invokevirtual 39, 3) := by decide +kernel
theorem dFi_bringToMeans_55 : decode bFi_bringToMeans 55 = .ok (.ifCond .eq 7, 3) := by decide +kernel
theorem dFi_bringToMeans_58 : decode bFi_bringToMeans 58 = .ok (.iconst 1, 1) := by decide +kernel
theorem dFi_bringToMeans_59 : decode bFi_bringToMeans 59 = .ok (.goto 4, 3) := by decide +kernel
theorem dFi_bringToMeans_62 : decode bFi_bringToMeans 62 = .ok (.iconst 0, 1) := by decide +kernel
theorem dFi_bringToMeans_63 : decode bFi_bringToMeans 63 = .ok (.istore 7, 2) := by decide +kernel
theorem dFi_bringToMeans_65 : decode bFi_bringToMeans 65 = .ok (.iload 7, 2) := by decide +kernel
theorem dFi_bringToMeans_67 : decode bFi_bringToMeans 67 = .ok (.ifCond .eq 11, 3) := by decide +kernel
theorem dFi_bringToMeans_70 : decode bFi_bringToMeans 70 = .ok (.aload_n 0, 1) := by decide +kernel
theorem dFi_bringToMeans_71 : decode bFi_bringToMeans 71 = .ok (.aload_n 1, 1) := by decide +kernel
theorem dFi_bringToMeans_72 : decode bFi_bringToMeans 72 = .ok (.aload_n 2, 1) := by decide +kernel
theorem dFi_bringToMeans_73 : decode bFi_bringToMeans 73 = .ok (.invokevirtual 35, 3) := by decide +kernel
theorem dFi_bringToMeans_76 : decode bFi_bringToMeans 76 = .ok (.lstore 5, 2) := by decide +kernel
theorem dFi_bringToMeans_78 : decode bFi_bringToMeans 78 = .ok (.iinc 8 1, 3) := by decide +kernel
theorem dFi_bringToMeans_81 : decode bFi_bringToMeans 81 = .ok (.goto (-56), 3) := by decide +kernel
theorem dFi_bringToMeans_84 : decode bFi_bringToMeans 84 = .ok (.aload_n 0, 1) := by decide +kernel
theorem dFi_bringToMeans_85 : decode bFi_bringToMeans 85 = .ok (.getfield 9, 3) := by decide +kernel
theorem dFi_bringToMeans_88 : decode bFi_bringToMeans 88 = .ok (.aload_n 0, 1) := by decide +kernel
theorem dFi_bringToMeans_89 : decode bFi_bringToMeans 89 = .ok (.getfield 25, 3) := by decide +kernel
theorem dFi_bringToMeans_92 : decode bFi_bringToMeans 92 = .ok (.lload 5, 2) := by decide +kernel
theorem dFi_bringToMeans_94 : decode bFi_bringToMeans 94 = .ok (.lastore, 1) := by decide +kernel
theorem dFi_bringToMeans_95 : decode bFi_bringToMeans 95 = .ok (.return_, 1) := by decide +kernel
theorem dFi_takeClosest_0 : decode bFi_takeClosest 0 = .ok (.lconst 0, 1) := by decide +kernel
theorem dFi_takeClosest_1 : decode bFi_takeClosest 1 = .ok (.lstore_n 3, 1) := by decide +kernel
theorem dFi_takeClosest_2 : decode bFi_takeClosest 2 = .ok (.iconst 0, 1) := by decide +kernel
theorem dFi_takeClosest_3 : decode bFi_takeClosest 3 = .ok (.istore 5, 2) := by decide +kernel
theorem dFi_takeClosest_5 : decode bFi_takeClosest 5 = .ok (.iload 5, 2) := by decide +kernel
theorem dFi_takeClosest_7 : decode bFi_takeClosest 7 = .ok (.aload_n 1, 1) := by decide +kernel
theorem dFi_takeClosest_8 : decode bFi_takeClosest 8 = .ok (.getfield 49, 3) := by decide +kernel
theorem dFi_takeClosest_11 : decode bFi_takeClosest 11 = .ok (.if_icmp .ge 81, 3) := by decide +kernel
theorem dFi_takeClosest_14 : decode bFi_takeClosest 14 = .ok (.aload_n 1, 1) := by decide +kernel
theorem dFi_takeClosest_15 : decode bFi_takeClosest 15 = .ok (.getfield 74, 3) := by decide +kernel
theorem dFi_takeClosest_18 : decode bFi_takeClosest 18 = .ok (.iload 5, 2) := by decide +kernel
theorem dFi_takeClosest_20 : decode bFi_takeClosest 20 = .ok (.iaload, 1) := by decide +kernel
theorem dFi_takeClosest_21 : decode bFi_takeClosest 21 = .ok (.istore 6, 2) := by decide +kernel
theorem dFi_takeClosest_23 : decode bFi_takeClosest 23 = .ok (.aload_n 2, 1) := by decide +kernel
theorem dFi_takeClosest_24 : decode bFi_takeClosest 24 = .ok (.iload 6, 2) := by decide +kernel
theorem dFi_takeClosest_26 : decode bFi_takeClosest 26 = .ok (.iconst 0, 1) := by decide +kernel
theorem dFi_takeClosest_27 : decode bFi_takeClosest 27 = .ok (.invokestatic 77, 3) := by decide +kernel
theorem dFi_takeClosest_30 : decode bFi_takeClosest 30 = .ok (.iload 6, 2) := by decide +kernel
theorem dFi_takeClosest_32 : decode bFi_takeClosest 32 = .ok (.iconst 1, 1) := by decide +kernel
theorem dFi_takeClosest_33 : decode bFi_takeClosest 33 = .ok (.invokestatic 77, 3) := by decide +kernel
theorem dFi_takeClosest_36 : decode bFi_takeClosest 36 = .ok (.iload 6, 2) := by decide +kernel
theorem dFi_takeClosest_38 : decode bFi_takeClosest 38 = .ok (.iconst 2, 1) := by decide +kernel
theorem dFi_takeClosest_39 : decode bFi_takeClosest 39 = .ok (.invokestatic 77, 3) := by decide +kernel
theorem dFi_takeClosest_42 : decode bFi_takeClosest 42 = .ok (.iload 6, 2) := by decide +kernel
theorem dFi_takeClosest_44 : decode bFi_takeClosest 44 = .ok (.iconst 3, 1) := by decide +kernel
theorem dFi_takeClosest_45 : decode bFi_takeClosest 45 = .ok (.invokestatic 77, 3) := by decide +kernel
theorem dFi_takeClosest_48 : decode bFi_takeClosest 48 = .ok (.invokevirtual 80, 3) := by decide +kernel
theorem dFi_takeClosest_51 : decode bFi_takeClosest 51 = .ok (.istore 7, 2) := by decide +kernel
theorem dFi_takeClosest_53 : decode bFi_takeClosest 53 = .ok (.aload_n 0, 1) := by decide +kernel
theorem dFi_takeClosest_54 : decode bFi_takeClosest 54 = .ok (.getfield 22, 3) := by decide +kernel
theorem dFi_takeClosest_57 : decode bFi_takeClosest 57 = .ok (.iload 5, 2) := by decide +kernel
theorem dFi_takeClosest_59 : decode bFi_takeClosest 59 = .ok (.iload 7, 2) := by decide +kernel
theorem dFi_takeClosest_61 : decode bFi_takeClosest 61 = .ok (.iastore, 1) := by decide +kernel
theorem dFi_takeClosest_62 : decode bFi_takeClosest 62 = .ok (.lload_n 3, 1) := by decide +kernel
theorem dFi_takeClosest_63 : decode bFi_takeClosest 63 = .ok (.aload_n 1, 1) := by decide +kernel
theorem dFi_takeClosest_64 : decode bFi_takeClosest 64 = .ok (.getfield 54, 3) := by decide +kernel
theorem dFi_takeClosest_67 : decode bFi_takeClosest 67 = .ok (.iload 5, 2) := by decide +kernel
theorem dFi_takeClosest_69 : decode bFi_takeClosest 69 = .ok (.iaload, 1) := by decide +kernel
theorem dFi_takeClosest_70 : decode bFi_takeClosest 70 = .ok (.i2l, 1) := by decide +kernel
theorem dFi_takeClosest_71 : decode bFi_takeClosest 71 = .ok (.iload 6, 2) := by decide +kernel
theorem dFi_takeClosest_73 : decode bFi_takeClosest 73 = .ok (.aload_n 2, 1) := by decide +kernel
theorem dFi_takeClosest_74 : decode bFi_takeClosest 74 = .ok (.iload 7, 2) := by decide +kernel
theorem dFi_takeClosest_76 : decode bFi_takeClosest 76 = .ok (.invokevirtual 60, 3) := by decide +kernel
theorem dFi_takeClosest_79 : decode bFi_takeClosest 79 = .ok (.invokestatic 84, 3) := by decide +kernel
theorem dFi_takeClosest_82 : decode bFi_takeClosest 82 = .ok (.i2l, 1) := by decide +kernel
theorem dFi_takeClosest_83 : decode bFi_takeClosest 83 = .ok (.lmul, 1) := by decide +kernel
theorem dFi_takeClosest_84 : decode bFi_takeClosest 84 = .ok (.ladd, 1) := by decide +kernel
theorem dFi_takeClosest_85 : decode bFi_takeClosest 85 = .ok (.lstore_n 3, 1) := by decide +kernel
theorem dFi_takeClosest_86 : decode bFi_takeClosest 86 = .ok (.iinc 5 1, 3) := by decide +kernel
theorem dFi_takeClosest_89 : decode bFi_takeClosest 89 = .ok (.goto (-84), 3) := by decide +kernel
theorem dFi_takeClosest_92 : decode bFi_takeClosest 92 = .ok (.lload_n 3, 1) := by decide +kernel
theorem dFi_takeClosest_93 : decode bFi_takeClosest 93 = .ok (.lreturn, 1) := by decide +kernel
theorem dPa_closest_0 : decode bPa_closest 0 = .ok (.iconst 0, 1) := by decide +kernel
theorem dPa_closest_1 : decode bPa_closest 1 = .ok (.istore 5, 2) := by decide +kernel
theorem dPa_closest_3 : decode bPa_closest 3 = .ok (.ldc 33, 2) := by decide +kernel
theorem dPa_closest_5 : decode bPa_closest 5 = .ok (.istore 6, 2) := by decide +kernel
theorem dPa_closest_7 : decode bPa_closest 7 = .ok (.iconst 0, 1) := by decide +kernel
theorem dPa_closest_8 : decode bPa_closest 8 = .ok (.istore 7, 2) := by decide +kernel
theorem dPa_closest_10 : decode bPa_closest 10 = .ok (.iload 7, 2) := by decide +kernel
theorem dPa_closest_12 : decode bPa_closest 12 = .ok (.aload_n 0, 1) := by decide +kernel
theorem dPa_closest_13 : decode bPa_closest 13 = .ok (.getfield 15, 3) := by decide +kernel
theorem dPa_closest_16 : decode bPa_closest 16 = .ok (.if_icmp .ge 101, 3) := by decide +kernel
theorem dPa_closest_19 : decode bPa_closest 19 = .ok (.iload 7, 2) := by decide +kernel
theorem dPa_closest_21 : decode bPa_closest 21 = .ok (.iconst 4, 1) := by decide +kernel
theorem dPa_closest_22 : decode bPa_closest 22 = .ok (.imul, 1) := by decide +kernel
theorem dPa_closest_23 : decode bPa_closest 23 = .ok (.istore 8, 2) := by decide +kernel
theorem dPa_closest_25 : decode bPa_closest 25 = .ok (.iload_n 1, 1) := by decide +kernel
theorem dPa_closest_26 : decode bPa_closest 26 = .ok (.aload_n 0, 1) := by decide +kernel
theorem dPa_closest_27 : decode bPa_closest 27 = .ok (.getfield 9, 3) := by decide +kernel
theorem dPa_closest_30 : decode bPa_closest 30 = .ok (.iload 8, 2) := by decide +kernel
theorem dPa_closest_32 : decode bPa_closest 32 = .ok (.iaload, 1) := by decide +kernel
theorem dPa_closest_33 : decode bPa_closest 33 = .ok (.isub, 1) := by decide +kernel
theorem dPa_closest_34 : decode bPa_closest 34 = .ok (.invokestatic 34, 3) := by decide +kernel
theorem dPa_closest_37 : decode bPa_closest 37 = .ok (.iload_n 2, 1) := by decide +kernel
theorem dPa_closest_38 : decode bPa_closest 38 = .ok (.aload_n 0, 1) := by decide +kernel
theorem dPa_closest_39 : decode bPa_closest 39 = .ok (.getfield 9, 3) := by decide +kernel
theorem dPa_closest_42 : decode bPa_closest 42 = .ok (.iload 8, 2) := by decide +kernel
theorem dPa_closest_44 : decode bPa_closest 44 = .ok (.iconst 1, 1) := by decide +kernel
theorem dPa_closest_45 : decode bPa_closest 45 = .ok (.iadd, 1) := by decide +kernel
theorem dPa_closest_46 : decode bPa_closest 46 = .ok (.iaload, 1) := by decide +kernel
theorem dPa_closest_47 : decode bPa_closest 47 = .ok (.isub, 1) := by decide +kernel
theorem dPa_closest_48 : decode bPa_closest 48 = .ok (.invokestatic 34, 3) := by decide +kernel
theorem dPa_closest_51 : decode bPa_closest 51 = .ok (.iadd, 1) := by decide +kernel
theorem dPa_closest_52 : decode bPa_closest 52 = .ok (.istore 9, 2) := by decide +kernel
theorem dPa_closest_54 : decode bPa_closest 54 = .ok (.iload 9, 2) := by decide +kernel
theorem dPa_closest_56 : decode bPa_closest 56 = .ok (.iload 6, 2) := by decide +kernel
theorem dPa_closest_58 : decode bPa_closest 58 = .ok (.if_icmp .ge 53, 3) := by decide +kernel
theorem dPa_closest_61 : decode bPa_closest 61 = .ok (.iload 9, 2) := by decide +kernel
theorem dPa_closest_63 : decode bPa_closest 63 = .ok (.iload_n 3, 1) := by decide +kernel
theorem dPa_closest_64 : decode bPa_closest 64 = .ok (.aload_n 0, 1) := by decide +kernel
theorem dPa_closest_65 : decode bPa_closest 65 = .ok (.getfield 9, 3) := by decide +kernel
theorem dPa_closest_68 : decode bPa_closest 68 = .ok (.iload 8, 2) := by decide +kernel
theorem dPa_closest_70 : decode bPa_closest 70 = .ok (.iconst 2, 1) := by decide +kernel
theorem dPa_closest_71 : decode bPa_closest 71 = .ok (.iadd, 1) := by decide +kernel
theorem dPa_closest_72 : decode bPa_closest 72 = .ok (.iaload, 1) := by decide +kernel
theorem dPa_closest_73 : decode bPa_closest 73 = .ok (.isub, 1) := by decide +kernel
theorem dPa_closest_74 : decode bPa_closest 74 = .ok (.invokestatic 34, 3) := by decide +kernel
theorem dPa_closest_77 : decode bPa_closest 77 = .ok (.iload 4, 2) := by decide +kernel
theorem dPa_closest_79 : decode bPa_closest 79 = .ok (.aload_n 0, 1) := by decide +kernel
theorem dPa_closest_80 : decode bPa_closest 80 = .ok (.getfield 9, 3) := by decide +kernel
theorem dPa_closest_83 : decode bPa_closest 83 = .ok (.iload 8, 2) := by decide +kernel
theorem dPa_closest_85 : decode bPa_closest 85 = .ok (.iconst 3, 1) := by decide +kernel
theorem dPa_closest_86 : decode bPa_closest 86 = .ok (.iadd, 1) := by decide +kernel
theorem dPa_closest_87 : decode bPa_closest 87 = .ok (.iaload, 1) := by decide +kernel
theorem dPa_closest_88 : decode bPa_closest 88 = .ok (.isub, 1) := by decide +kernel
theorem dPa_closest_89 : decode bPa_closest 89 = .ok (.invokestatic 34, 3) := by decide +kernel
theorem dPa_closest_92 : decode bPa_closest 92 = .ok (.iadd, 1) := by decide +kernel
theorem dPa_closest_93 : decode bPa_closest 93 = .ok (.iadd, 1) := by decide +kernel
theorem dPa_closest_94 : decode bPa_closest 94 = .ok (.istore 9, 2) := by decide +kernel
theorem dPa_closest_96 : decode bPa_closest 96 = .ok (.iload 9, 2) := by decide +kernel
theorem dPa_closest_98 : decode bPa_closest 98 = .ok (.iload 6, 2) := by decide +kernel
theorem dPa_closest_100 : decode bPa_closest 100 = .ok (.if_icmp .ge 11, 3) := by decide +kernel
theorem dPa_closest_103 : decode bPa_closest 103 = .ok (.iload 9, 2) := by decide +kernel
theorem dPa_closest_105 : decode bPa_closest 105 = .ok (.istore 6, 2) := by decide +kernel
theorem dPa_closest_107 : decode bPa_closest 107 = .ok (.iload 7, 2) := by decide +kernel
theorem dPa_closest_109 : decode bPa_closest 109 = .ok (.istore 5, 2) := by decide +kernel
theorem dPa_closest_111 : decode bPa_closest 111 = .ok (.iinc 7 1, 3) := by decide +kernel
theorem dPa_closest_114 : decode bPa_closest 114 = .ok (.goto (-104), 3) := by decide +kernel
theorem dPa_closest_117 : decode bPa_closest 117 = .ok (.iload 5, 2) := by decide +kernel
theorem dPa_closest_119 : decode bPa_closest 119 = .ok (.ireturn, 1) := by decide +kernel
theorem dPa_packedOf_0 : decode bPa_packedOf 0 = .ok (.iload_n 1, 1) := by decide +kernel
theorem dPa_packedOf_1 : decode bPa_packedOf 1 = .ok (.iconst 4, 1) := by decide +kernel
theorem dPa_packedOf_2 : decode bPa_packedOf 2 = .ok (.imul, 1) := by decide +kernel
theorem dPa_packedOf_3 : decode bPa_packedOf 3 = .ok (.istore_n 2, 1) := by decide +kernel
theorem dPa_packedOf_4 : decode bPa_packedOf 4 = .ok (.aload_n 0, 1) := by decide +kernel
theorem dPa_packedOf_5 : decode bPa_packedOf 5 = .ok (.getfield 9, 3) := by decide +kernel
theorem dPa_packedOf_8 : decode bPa_packedOf 8 = .ok (.iload_n 2, 1) := by decide +kernel
theorem dPa_packedOf_9 : decode bPa_packedOf 9 = .ok (.iaload, 1) := by decide +kernel
theorem dPa_packedOf_10 : decode bPa_packedOf 10 = .ok (.aload_n 0, 1) := by decide +kernel
theorem dPa_packedOf_11 : decode bPa_packedOf 11 = .ok (.getfield 9, 3) := by decide +kernel
theorem dPa_packedOf_14 : decode bPa_packedOf 14 = .ok (.iload_n 2, 1) := by decide +kernel
theorem dPa_packedOf_15 : decode bPa_packedOf 15 = .ok (.iconst 1, 1) := by decide +kernel
theorem dPa_packedOf_16 : decode bPa_packedOf 16 = .ok (.iadd, 1) := by decide +kernel
theorem dPa_packedOf_17 : decode bPa_packedOf 17 = .ok (.iaload, 1) := by decide +kernel
theorem dPa_packedOf_18 : decode bPa_packedOf 18 = .ok (.aload_n 0, 1) := by decide +kernel
theorem dPa_packedOf_19 : decode bPa_packedOf 19 = .ok (.getfield 9, 3) := by decide +kernel
theorem dPa_packedOf_22 : decode bPa_packedOf 22 = .ok (.iload_n 2, 1) := by decide +kernel
theorem dPa_packedOf_23 : decode bPa_packedOf 23 = .ok (.iconst 2, 1) := by decide +kernel
theorem dPa_packedOf_24 : decode bPa_packedOf 24 = .ok (.iadd, 1) := by decide +kernel
theorem dPa_packedOf_25 : decode bPa_packedOf 25 = .ok (.iaload, 1) := by decide +kernel
theorem dPa_packedOf_26 : decode bPa_packedOf 26 = .ok (.aload_n 0, 1) := by decide +kernel
theorem dPa_packedOf_27 : decode bPa_packedOf 27 = .ok (.getfield 9, 3) := by decide +kernel
theorem dPa_packedOf_30 : decode bPa_packedOf 30 = .ok (.iload_n 2, 1) := by decide +kernel
theorem dPa_packedOf_31 : decode bPa_packedOf 31 = .ok (.iconst 3, 1) := by decide +kernel
theorem dPa_packedOf_32 : decode bPa_packedOf 32 = .ok (.iadd, 1) := by decide +kernel
theorem dPa_packedOf_33 : decode bPa_packedOf 33 = .ok (.iaload, 1) := by decide +kernel
theorem dPa_packedOf_34 : decode bPa_packedOf 34 = .ok (.invokestatic 27, 3) := by decide +kernel
theorem dPa_packedOf_37 : decode bPa_packedOf 37 = .ok (.ireturn, 1) := by decide +kernel
theorem dFi_moveToMeans_0 : decode bFi_moveToMeans 0 = .ok (.aload_n 3, 1) := by decide +kernel
theorem dFi_moveToMeans_1 : decode bFi_moveToMeans 1 = .ok (.aload_n 2, 1) := by decide +kernel
theorem dFi_moveToMeans_2 : decode bFi_moveToMeans 2 = .ok (.getfield 57, 3) := by decide +kernel
theorem dFi_moveToMeans_5 : decode bFi_moveToMeans 5 = .ok (.invokevirtual 87, 3) := by decide +kernel
theorem dFi_moveToMeans_8 : decode bFi_moveToMeans 8 = .ok (.iconst 0, 1) := by decide +kernel
theorem dFi_moveToMeans_9 : decode bFi_moveToMeans 9 = .ok (.istore 4, 2) := by decide +kernel
theorem dFi_moveToMeans_11 : decode bFi_moveToMeans 11 = .ok (.iload 4, 2) := by decide +kernel
theorem dFi_moveToMeans_13 : decode bFi_moveToMeans 13 = .ok (.aload_n 1, 1) := by decide +kernel
theorem dFi_moveToMeans_14 : decode bFi_moveToMeans 14 = .ok (.getfield 49, 3) := by decide +kernel
theorem dFi_moveToMeans_17 : decode bFi_moveToMeans 17 = .ok (.if_icmp .ge 34, 3) := by decide +kernel
theorem dFi_moveToMeans_20 : decode bFi_moveToMeans 20 = .ok (.aload_n 3, 1) := by decide +kernel
theorem dFi_moveToMeans_21 : decode bFi_moveToMeans 21 = .ok (.aload_n 0, 1) := by decide +kernel
theorem dFi_moveToMeans_22 : decode bFi_moveToMeans 22 = .ok (.getfield 22, 3) := by decide +kernel
theorem dFi_moveToMeans_25 : decode bFi_moveToMeans 25 = .ok (.iload 4, 2) := by decide +kernel
theorem dFi_moveToMeans_27 : decode bFi_moveToMeans 27 = .ok (.iaload, 1) := by decide +kernel
theorem dFi_moveToMeans_28 : decode bFi_moveToMeans 28 = .ok (.aload_n 1, 1) := by decide +kernel
theorem dFi_moveToMeans_29 : decode bFi_moveToMeans 29 = .ok (.getfield 74, 3) := by decide +kernel
theorem dFi_moveToMeans_32 : decode bFi_moveToMeans 32 = .ok (.iload 4, 2) := by decide +kernel
theorem dFi_moveToMeans_34 : decode bFi_moveToMeans 34 = .ok (.iaload, 1) := by decide +kernel
theorem dFi_moveToMeans_35 : decode bFi_moveToMeans 35 = .ok (.aload_n 1, 1) := by decide +kernel
theorem dFi_moveToMeans_36 : decode bFi_moveToMeans 36 = .ok (.getfield 54, 3) := by decide +kernel
theorem dFi_moveToMeans_39 : decode bFi_moveToMeans 39 = .ok (.iload 4, 2) := by decide +kernel
theorem dFi_moveToMeans_41 : decode bFi_moveToMeans 41 = .ok (.iaload, 1) := by decide +kernel
theorem dFi_moveToMeans_42 : decode bFi_moveToMeans 42 = .ok (.invokevirtual 93, 3) := by decide +kernel
theorem dFi_moveToMeans_45 : decode bFi_moveToMeans 45 = .ok (.iinc 4 1, 3) := by decide +kernel
theorem dFi_moveToMeans_48 : decode bFi_moveToMeans 48 = .ok (.goto (-37), 3) := by decide +kernel
theorem dFi_moveToMeans_51 : decode bFi_moveToMeans 51 = .ok (.iconst 0, 1) := by decide +kernel
theorem dFi_moveToMeans_52 : decode bFi_moveToMeans 52 = .ok (.istore 4, 2) := by decide +kernel
theorem dFi_moveToMeans_54 : decode bFi_moveToMeans 54 = .ok (.iconst 0, 1) := by decide +kernel
theorem dFi_moveToMeans_55 : decode bFi_moveToMeans 55 = .ok (.istore 5, 2) := by decide +kernel
theorem dFi_moveToMeans_57 : decode bFi_moveToMeans 57 = .ok (.iload 5, 2) := by decide +kernel
theorem dFi_moveToMeans_59 : decode bFi_moveToMeans 59 = .ok (.aload_n 2, 1) := by decide +kernel
theorem dFi_moveToMeans_60 : decode bFi_moveToMeans 60 = .ok (.getfield 57, 3) := by decide +kernel
theorem dFi_moveToMeans_63 : decode bFi_moveToMeans 63 = .ok (.if_icmp .ge 49, 3) := by decide +kernel
theorem dFi_moveToMeans_66 : decode bFi_moveToMeans 66 = .ok (.aload_n 3, 1) := by decide +kernel
theorem dFi_moveToMeans_67 : decode bFi_moveToMeans 67 = .ok (.getfield 97, 3) := by decide +kernel
theorem dFi_moveToMeans_70 : decode bFi_moveToMeans 70 = .ok (.iload 5, 2) := by decide +kernel
theorem dFi_moveToMeans_72 : decode bFi_moveToMeans 72 = .ok (.iaload, 1) := by decide +kernel
theorem dFi_moveToMeans_73 : decode bFi_moveToMeans 73 = .ok (.ifCond .le 33, 3) := by decide +kernel
theorem dFi_moveToMeans_76 : decode bFi_moveToMeans 76 = .ok (.aload_n 3, 1) := by decide +kernel
theorem dFi_moveToMeans_77 : decode bFi_moveToMeans 77 = .ok (.iload 5, 2) := by decide +kernel
theorem dFi_moveToMeans_79 : decode bFi_moveToMeans 79 = .ok (.invokevirtual 98, 3) := by decide +kernel
theorem dFi_moveToMeans_82 : decode bFi_moveToMeans 82 = .ok (.aload_n 2, 1) := by decide +kernel
theorem dFi_moveToMeans_83 : decode bFi_moveToMeans 83 = .ok (.iload 5, 2) := by decide +kernel
theorem dFi_moveToMeans_85 : decode bFi_moveToMeans 85 = .ok (.invokevirtual 60, 3) := by decide +kernel
theorem dFi_moveToMeans_88 : decode bFi_moveToMeans 88 = .ok (.if_icmp .eq 18, 3) := by decide +kernel
theorem dFi_moveToMeans_91 : decode bFi_moveToMeans 91 = .ok (.aload_n 2, 1) := by decide +kernel
theorem dFi_moveToMeans_92 : decode bFi_moveToMeans 92 = .ok (.iload 5, 2) := by decide +kernel
theorem dFi_moveToMeans_94 : decode bFi_moveToMeans 94 = .ok (.aload_n 3, 1) := by decide +kernel
theorem dFi_moveToMeans_95 : decode bFi_moveToMeans 95 = .ok (.iload 5, 2) := by decide +kernel
theorem dFi_moveToMeans_97 : decode bFi_moveToMeans 97 = .ok (.invokevirtual 98, 3) := by decide +kernel
theorem dFi_moveToMeans_100 : decode bFi_moveToMeans 100 = .ok (.invokevirtual 70, 3) := by decide +kernel
theorem dFi_moveToMeans_103 : decode bFi_moveToMeans 103 = .ok (.iconst 1, 1) := by decide +kernel
theorem dFi_moveToMeans_104 : decode bFi_moveToMeans 104 = .ok (.istore 4, 2) := by decide +kernel
theorem dFi_moveToMeans_106 : decode bFi_moveToMeans 106 = .ok (.iinc 5 1, 3) := by decide +kernel
theorem dFi_moveToMeans_109 : decode bFi_moveToMeans 109 = .ok (.goto (-52), 3) := by decide +kernel
theorem dFi_moveToMeans_112 : decode bFi_moveToMeans 112 = .ok (.iload 4, 2) := by decide +kernel
theorem dFi_moveToMeans_114 : decode bFi_moveToMeans 114 = .ok (.ireturn, 1) := by decide +kernel
theorem dFi_putInOrder_0 : decode bFi_putInOrder 0 = .ok (.aload_n 0, 1) := by decide +kernel
theorem dFi_putInOrder_1 : decode bFi_putInOrder 1 = .ok (.getfield 15, 3) := by decide +kernel
theorem dFi_putInOrder_4 : decode bFi_putInOrder 4 = .ok (.iconst 0, 1) := by decide +kernel
theorem dFi_putInOrder_5 : decode bFi_putInOrder 5 = .ok (.invokestatic 43, 3) := by decide +kernel
theorem dFi_putInOrder_8 : decode bFi_putInOrder 8 = .ok (.iconst 0, 1) := by decide +kernel
theorem dFi_putInOrder_9 : decode bFi_putInOrder 9 = .ok (.istore_n 3, 1) := by decide +kernel
theorem dFi_putInOrder_10 : decode bFi_putInOrder 10 = .ok (.iload_n 3, 1) := by decide +kernel
theorem dFi_putInOrder_11 : decode bFi_putInOrder 11 = .ok (.aload_n 1, 1) := by decide +kernel
theorem dFi_putInOrder_12 : decode bFi_putInOrder 12 = .ok (.getfield 49, 3) := by decide +kernel
theorem dFi_putInOrder_15 : decode bFi_putInOrder 15 = .ok (.if_icmp .ge 29, 3) := by decide +kernel
theorem dFi_putInOrder_18 : decode bFi_putInOrder 18 = .ok (.aload_n 0, 1) := by decide +kernel
theorem dFi_putInOrder_19 : decode bFi_putInOrder 19 = .ok (.getfield 15, 3) := by decide +kernel
theorem dFi_putInOrder_22 : decode bFi_putInOrder 22 = .ok (.aload_n 0, 1) := by decide +kernel
theorem dFi_putInOrder_23 : decode bFi_putInOrder 23 = .ok (.getfield 22, 3) := by decide +kernel
theorem dFi_putInOrder_26 : decode bFi_putInOrder 26 = .ok (.iload_n 3, 1) := by decide +kernel
theorem dFi_putInOrder_27 : decode bFi_putInOrder 27 = .ok (.iaload, 1) := by decide +kernel
theorem dFi_putInOrder_28 : decode bFi_putInOrder 28 = .ok (.dup2, 1) := by decide +kernel
theorem dFi_putInOrder_29 : decode bFi_putInOrder 29 = .ok (.iaload, 1) := by decide +kernel
theorem dFi_putInOrder_30 : decode bFi_putInOrder 30 = .ok (.aload_n 1, 1) := by decide +kernel
theorem dFi_putInOrder_31 : decode bFi_putInOrder 31 = .ok (.getfield 54, 3) := by decide +kernel
theorem dFi_putInOrder_34 : decode bFi_putInOrder 34 = .ok (.iload_n 3, 1) := by decide +kernel
theorem dFi_putInOrder_35 : decode bFi_putInOrder 35 = .ok (.iaload, 1) := by decide +kernel
theorem dFi_putInOrder_36 : decode bFi_putInOrder 36 = .ok (.iadd, 1) := by decide +kernel
theorem dFi_putInOrder_37 : decode bFi_putInOrder 37 = .ok (.iastore, 1) := by decide +kernel
theorem dFi_putInOrder_38 : decode bFi_putInOrder 38 = .ok (.iinc 3 1, 3) := by decide +kernel
theorem dFi_putInOrder_41 : decode bFi_putInOrder 41 = .ok (.goto (-31), 3) := by decide +kernel
theorem dFi_putInOrder_44 : decode bFi_putInOrder 44 = .ok (.iconst 0, 1) := by decide +kernel
theorem dFi_putInOrder_45 : decode bFi_putInOrder 45 = .ok (.istore_n 3, 1) := by decide +kernel
theorem dFi_putInOrder_46 : decode bFi_putInOrder 46 = .ok (.iload_n 3, 1) := by decide +kernel
theorem dFi_putInOrder_47 : decode bFi_putInOrder 47 = .ok (.aload_n 2, 1) := by decide +kernel
theorem dFi_putInOrder_48 : decode bFi_putInOrder 48 = .ok (.getfield 57, 3) := by decide +kernel
theorem dFi_putInOrder_51 : decode bFi_putInOrder 51 = .ok (.if_icmp .ge 44, 3) := by decide +kernel
theorem dFi_putInOrder_54 : decode bFi_putInOrder 54 = .ok (.sipush 576, 3) := by decide +kernel
theorem dFi_putInOrder_57 : decode bFi_putInOrder 57 = .ok (.aload_n 0, 1) := by decide +kernel
theorem dFi_putInOrder_58 : decode bFi_putInOrder 58 = .ok (.getfield 15, 3) := by decide +kernel
theorem dFi_putInOrder_61 : decode bFi_putInOrder 61 = .ok (.iload_n 3, 1) := by decide +kernel
theorem dFi_putInOrder_62 : decode bFi_putInOrder 62 = .ok (.iaload, 1) := by decide +kernel
theorem dFi_putInOrder_63 : decode bFi_putInOrder 63 = .ok (.isub, 1) := by decide +kernel
theorem dFi_putInOrder_64 : decode bFi_putInOrder 64 = .ok (.i2l, 1) := by decide +kernel
theorem dFi_putInOrder_65 : decode bFi_putInOrder 65 = .ok (.lstore 4, 2) := by decide +kernel
theorem dFi_putInOrder_67 : decode bFi_putInOrder 67 = .ok (.aload_n 0, 1) := by decide +kernel
theorem dFi_putInOrder_68 : decode bFi_putInOrder 68 = .ok (.getfield 19, 3) := by decide +kernel
theorem dFi_putInOrder_71 : decode bFi_putInOrder 71 = .ok (.iload_n 3, 1) := by decide +kernel
theorem dFi_putInOrder_72 : decode bFi_putInOrder 72 = .ok (.lload 4, 2) := by decide +kernel
theorem dFi_putInOrder_74 : decode bFi_putInOrder 74 = .ok (.bipush 32, 2) := by decide +kernel
theorem dFi_putInOrder_76 : decode bFi_putInOrder 76 = .ok (.lshl, 1) := by decide +kernel
theorem dFi_putInOrder_77 : decode bFi_putInOrder 77 = .ok (.aload_n 2, 1) := by decide +kernel
theorem dFi_putInOrder_78 : decode bFi_putInOrder 78 = .ok (.iload_n 3, 1) := by decide +kernel
theorem dFi_putInOrder_79 : decode bFi_putInOrder 79 = .ok (.invokevirtual 60, 3) := by decide +kernel
theorem dFi_putInOrder_82 : decode bFi_putInOrder 82 = .ok (.i2l, 1) := by decide +kernel
theorem dFi_putInOrder_83 : decode bFi_putInOrder 83 = .ok (.ldc2_w 64, 3) := by decide +kernel
theorem dFi_putInOrder_86 : decode bFi_putInOrder 86 = .ok (.land, 1) := by decide +kernel
theorem dFi_putInOrder_87 : decode bFi_putInOrder 87 = .ok (.lor, 1) := by decide +kernel
theorem dFi_putInOrder_88 : decode bFi_putInOrder 88 = .ok (.lastore, 1) := by decide +kernel
theorem dFi_putInOrder_89 : decode bFi_putInOrder 89 = .ok (.iinc 3 1, 3) := by decide +kernel
theorem dFi_putInOrder_92 : decode bFi_putInOrder 92 = .ok (.goto (-46), 3) := by decide +kernel
theorem dFi_putInOrder_95 : decode bFi_putInOrder 95 = .ok (.aload_n 0, 1) := by decide +kernel
theorem dFi_putInOrder_96 : decode bFi_putInOrder 96 = .ok (.getfield 19, 3) := by decide +kernel
theorem dFi_putInOrder_99 : decode bFi_putInOrder 99 = .ok (.iconst 0, 1) := by decide +kernel
theorem dFi_putInOrder_100 : decode bFi_putInOrder 100 = .ok (.aload_n 2, 1) := by decide +kernel
theorem dFi_putInOrder_101 : decode bFi_putInOrder 101 = .ok (.getfield 57, 3) := by decide +kernel
theorem dFi_putInOrder_104 : decode bFi_putInOrder 104 = .ok (.invokestatic 66, 3) := by decide +kernel
theorem dFi_putInOrder_107 : decode bFi_putInOrder 107 = .ok (.iconst 0, 1) := by decide +kernel
theorem dFi_putInOrder_108 : decode bFi_putInOrder 108 = .ok (.istore_n 3, 1) := by decide +kernel
theorem dFi_putInOrder_109 : decode bFi_putInOrder 109 = .ok (.iload_n 3, 1) := by decide +kernel
theorem dFi_putInOrder_110 : decode bFi_putInOrder 110 = .ok (.aload_n 2, 1) := by decide +kernel
theorem dFi_putInOrder_111 : decode bFi_putInOrder 111 = .ok (.getfield 57, 3) := by decide +kernel
theorem dFi_putInOrder_114 : decode bFi_putInOrder 114 = .ok (.if_icmp .ge 21, 3) := by decide +kernel
theorem dFi_putInOrder_117 : decode bFi_putInOrder 117 = .ok (.aload_n 2, 1) := by decide +kernel
theorem dFi_putInOrder_118 : decode bFi_putInOrder 118 = .ok (.iload_n 3, 1) := by decide +kernel
theorem dFi_putInOrder_119 : decode bFi_putInOrder 119 = .ok (.aload_n 0, 1) := by decide +kernel
theorem dFi_putInOrder_120 : decode bFi_putInOrder 120 = .ok (.getfield 19, 3) := by decide +kernel
theorem dFi_putInOrder_123 : decode bFi_putInOrder 123 = .ok (.iload_n 3, 1) := by decide +kernel
theorem dFi_putInOrder_124 : decode bFi_putInOrder 124 = .ok (.laload, 1) := by decide +kernel
theorem dFi_putInOrder_125 : decode bFi_putInOrder 125 = .ok (.l2i, 1) := by decide +kernel
theorem dFi_putInOrder_126 : decode bFi_putInOrder 126 = .ok (.invokevirtual 70, 3) := by decide +kernel
theorem dFi_putInOrder_129 : decode bFi_putInOrder 129 = .ok (.iinc 3 1, 3) := by decide +kernel
theorem dFi_putInOrder_132 : decode bFi_putInOrder 132 = .ok (.goto (-23), 3) := by decide +kernel
theorem dFi_putInOrder_135 : decode bFi_putInOrder 135 = .ok (.aload_n 0, 1) := by decide +kernel
theorem dFi_putInOrder_136 : decode bFi_putInOrder 136 = .ok (.aload_n 1, 1) := by decide +kernel
theorem dFi_putInOrder_137 : decode bFi_putInOrder 137 = .ok (.aload_n 2, 1) := by decide +kernel
theorem dFi_putInOrder_138 : decode bFi_putInOrder 138 = .ok (.invokevirtual 35, 3) := by decide +kernel
theorem dFi_putInOrder_141 : decode bFi_putInOrder 141 = .ok (.pop2, 1) := by decide +kernel
theorem dFi_putInOrder_142 : decode bFi_putInOrder 142 = .ok (.return_, 1) := by decide +kernel
theorem dCL_holdClosest_0 : decode bCL_holdClosest 0 = .ok (.iconst 0, 1) := by decide +kernel
theorem dCL_holdClosest_1 : decode bCL_holdClosest 1 = .ok (.istore_n 1, 1) := by decide +kernel
theorem dCL_holdClosest_2 : decode bCL_holdClosest 2 = .ok (.iload_n 1, 1) := by decide +kernel
theorem dCL_holdClosest_3 : decode bCL_holdClosest 3 = .ok (.aload_n 0, 1) := by decide +kernel
theorem dCL_holdClosest_4 : decode bCL_holdClosest 4 = .ok (.getfield 24, 3) := by decide +kernel
theorem dCL_holdClosest_7 : decode bCL_holdClosest 7 = .ok (.arraylength, 1) := by decide +kernel
theorem dCL_holdClosest_8 : decode bCL_holdClosest 8 = .ok (.if_icmp .ge 32, 3) := by decide +kernel
theorem dCL_holdClosest_11 : decode bCL_holdClosest 11 = .ok (.aload_n 0, 1) := by decide +kernel
theorem dCL_holdClosest_12 : decode bCL_holdClosest 12 = .ok (.getfield 24, 3) := by decide +kernel
theorem dCL_holdClosest_15 : decode bCL_holdClosest 15 = .ok (.iload_n 1, 1) := by decide +kernel
theorem dCL_holdClosest_16 : decode bCL_holdClosest 16 = .ok (.aload_n 0, 1) := by decide +kernel
theorem dCL_holdClosest_17 : decode bCL_holdClosest 17 = .ok (.getfield 67, 3) := by decide +kernel
theorem dCL_holdClosest_20 : decode bCL_holdClosest 20 = .ok (.getfield 260, 3) := by decide +kernel
theorem dCL_holdClosest_23 : decode bCL_holdClosest 23 = .ok (.aload_n 0, 1) := by decide +kernel
theorem dCL_holdClosest_24 : decode bCL_holdClosest 24 = .ok (.getfield 32, 3) := by decide +kernel
theorem dCL_holdClosest_27 : decode bCL_holdClosest 27 = .ok (.getfield 263, 3) := by decide +kernel
theorem dCL_holdClosest_30 : decode bCL_holdClosest 30 = .ok (.iload_n 1, 1) := by decide +kernel
theorem dCL_holdClosest_31 : decode bCL_holdClosest 31 = .ok (.iaload, 1) := by decide +kernel
theorem dCL_holdClosest_32 : decode bCL_holdClosest 32 = .ok (.iaload, 1) := by decide +kernel
theorem dCL_holdClosest_33 : decode bCL_holdClosest 33 = .ok (.iastore, 1) := by decide +kernel
theorem dCL_holdClosest_34 : decode bCL_holdClosest 34 = .ok (.iinc 1 1, 3) := by decide +kernel
theorem dCL_holdClosest_37 : decode bCL_holdClosest 37 = .ok (.goto (-35), 3) := by decide +kernel
theorem dCL_holdClosest_40 : decode bCL_holdClosest 40 = .ok (.return_, 1) := by decide +kernel
theorem dLw_given_0 : decode bLw_given 0 = .ok (.aload 6, 2) := by decide +kernel
theorem dLw_given_2 : decode bLw_given 2 = .ok (.iconst 0, 1) := by decide +kernel
theorem dLw_given_3 : decode bLw_given 3 = .ok (.aload_n 0, 1) := by decide +kernel
theorem dLw_given_4 : decode bLw_given 4 = .ok (.iload_n 1, 1) := by decide +kernel
theorem dLw_given_5 : decode bLw_given 5 = .ok (.iload_n 2, 1) := by decide +kernel
theorem dLw_given_6 : decode bLw_given 6 = .ok (.iload_n 3, 1) := by decide +kernel
theorem dLw_given_7 : decode bLw_given 7 = .ok (.iload 4, 2) := by decide +kernel
theorem dLw_given_9 : decode bLw_given 9 = .ok (.iload 5, 2) := by decide +kernel
theorem dLw_given_11 : decode bLw_given 11 = .ok (.invokevirtual 29, 3) := by decide +kernel
theorem dLw_given_14 : decode bLw_given 14 = .ok (.i2l, 1) := by decide +kernel
theorem dLw_given_15 : decode bLw_given 15 = .ok (.lastore, 1) := by decide +kernel
theorem dLw_given_16 : decode bLw_given 16 = .ok (.goto 11, 3) := by decide +kernel
theorem dLw_given_19 : decode bLw_given 19 = .ok (.astore 7, 2) := by decide +kernel
theorem dLw_given_21 : decode bLw_given 21 = .ok (.iconst 1, 1) := by decide +kernel
theorem dLw_given_22 : decode bLw_given 22 = .ok (.ireturn, 1) := by decide +kernel
theorem dLw_given_23 : decode bLw_given 23 = .ok (.astore 7, 2) := by decide +kernel
theorem dLw_given_25 : decode bLw_given 25 = .ok (.iconst 2, 1) := by decide +kernel
theorem dLw_given_26 : decode bLw_given 26 = .ok (.ireturn, 1) := by decide +kernel
theorem dLw_given_27 : decode bLw_given 27 = .ok (.iconst 0, 1) := by decide +kernel
theorem dLw_given_28 : decode bLw_given 28 = .ok (.ireturn, 1) := by decide +kernel
theorem dCL_given_0 : decode bCL_given 0 = .ok (.iload_n 1, 1) := by decide +kernel
theorem dCL_given_1 : decode bCL_given 1 = .ok (.ifCond .lt 9, 3) := by decide +kernel
theorem dCL_given_4 : decode bCL_given 4 = .ok (.iload_n 1, 1) := by decide +kernel
theorem dCL_given_5 : decode bCL_given 5 = .ok (.bipush 64, 2) := by decide +kernel
theorem dCL_given_7 : decode bCL_given 7 = .ok (.if_icmp .lt 13, 3) := by decide +kernel
theorem dCL_given_10 : decode bCL_given 10 = .ok (.new 145, 3) := by decide +kernel
theorem dCL_given_13 : decode bCL_given 13 = .ok (.dup, 1) := by decide +kernel
theorem dCL_given_14 : decode bCL_given 14 = .ok (.ldc 147, 2) := by decide +kernel
theorem dCL_given_16 : decode bCL_given 16 = .ok (.invokespecial 149, 3) := by decide +kernel
theorem dCL_given_19 : decode bCL_given 19 = .ok (.athrow, 1) := by decide +kernel
theorem dCL_given_20 : decode bCL_given 20 = .ok (.iload_n 2, 1) := by decide +kernel
theorem dCL_given_21 : decode bCL_given 21 = .ok (.iconst (-1), 1) := by decide +kernel
theorem dCL_given_22 : decode bCL_given 22 = .ok (.if_icmp .ne 14, 3) := by decide +kernel
theorem dCL_given_25 : decode bCL_given 25 = .ok (.aload_n 0, 1) := by decide +kernel
theorem dCL_given_26 : decode bCL_given 26 = .ok (.getfield 53, 3) := by decide +kernel
theorem dCL_given_29 : decode bCL_given 29 = .ok (.iload_n 1, 1) := by decide +kernel
theorem dCL_given_30 : decode bCL_given 30 = .ok (.invokevirtual 150, 3) := by decide +kernel
theorem dCL_given_33 : decode bCL_given 33 = .ok (.goto 29, 3) := by decide +kernel
theorem dCL_given_36 : decode bCL_given 36 = .ok (.iload_n 2, 1) := by decide +kernel
theorem dCL_given_37 : decode bCL_given 37 = .ok (.iload_n 3, 1) := by decide +kernel
theorem dCL_given_38 : decode bCL_given 38 = .ok (.iload 4, 2) := by decide +kernel
theorem dCL_given_40 : decode bCL_given 40 = .ok (.iload 5, 2) := by decide +kernel
theorem dCL_given_42 : decode bCL_given 42 = .ok (.invokestatic 82, 3) := by decide +kernel
theorem dCL_given_45 : decode bCL_given 45 = .ok (.aload_n 0, 1) := by decide +kernel
theorem dCL_given_46 : decode bCL_given 46 = .ok (.getfield 53, 3) := by decide +kernel
theorem dCL_given_49 : decode bCL_given 49 = .ok (.iload_n 1, 1) := by decide +kernel
theorem dCL_given_50 : decode bCL_given 50 = .ok (.iload_n 2, 1) := by decide +kernel
theorem dCL_given_51 : decode bCL_given 51 = .ok (.iload_n 3, 1) := by decide +kernel
theorem dCL_given_52 : decode bCL_given 52 = .ok (.iload 4, 2) := by decide +kernel
theorem dCL_given_54 : decode bCL_given 54 = .ok (.iload 5, 2) := by decide +kernel
theorem dCL_given_56 : decode bCL_given 56 = .ok (.invokestatic 90, 3) := by decide +kernel
theorem dCL_given_59 : decode bCL_given 59 = .ok (.invokevirtual 153, 3) := by decide +kernel
theorem dCL_given_62 : decode bCL_given 62 = .ok (.aload_n 0, 1) := by decide +kernel
theorem dCL_given_63 : decode bCL_given 63 = .ok (.getfield 53, 3) := by decide +kernel
theorem dCL_given_66 : decode bCL_given 66 = .ok (.getfield 118, 3) := by decide +kernel
theorem dCL_given_69 : decode bCL_given 69 = .ok (.ireturn, 1) := by decide +kernel
theorem dOf_accept_0 : decode bOf_accept 0 = .ok (.aload_n 0, 1) := by decide +kernel
theorem dOf_accept_1 : decode bOf_accept 1 = .ok (.getfield 15, 3) := by decide +kernel
theorem dOf_accept_4 : decode bOf_accept 4 = .ok (.iload_n 1, 1) := by decide +kernel
theorem dOf_accept_5 : decode bOf_accept 5 = .ok (.baload, 1) := by decide +kernel
theorem dOf_accept_6 : decode bOf_accept 6 = .ok (.ifCond .ne 20, 3) := by decide +kernel
theorem dOf_accept_9 : decode bOf_accept 9 = .ok (.aload_n 0, 1) := by decide +kernel
theorem dOf_accept_10 : decode bOf_accept 10 = .ok (.getfield 15, 3) := by decide +kernel
theorem dOf_accept_13 : decode bOf_accept 13 = .ok (.iload_n 1, 1) := by decide +kernel
theorem dOf_accept_14 : decode bOf_accept 14 = .ok (.iconst 1, 1) := by decide +kernel
theorem dOf_accept_15 : decode bOf_accept 15 = .ok (.bastore, 1) := by decide +kernel
theorem dOf_accept_16 : decode bOf_accept 16 = .ok (.aload_n 0, 1) := by decide +kernel
theorem dOf_accept_17 : decode bOf_accept 17 = .ok (.dup, 1) := by decide +kernel
theorem dOf_accept_18 : decode bOf_accept 18 = .ok (.getfield 19, 3) := by decide +kernel
theorem dOf_accept_21 : decode bOf_accept 21 = .ok (.iconst 1, 1) := by decide +kernel
theorem dOf_accept_22 : decode bOf_accept 22 = .ok (.iadd, 1) := by decide +kernel
theorem dOf_accept_23 : decode bOf_accept 23 = .ok (.putfield 19, 3) := by decide +kernel
theorem dOf_accept_26 : decode bOf_accept 26 = .ok (.aload_n 0, 1) := by decide +kernel
theorem dOf_accept_27 : decode bOf_accept 27 = .ok (.getfield 9, 3) := by decide +kernel
theorem dOf_accept_30 : decode bOf_accept 30 = .ok (.iload_n 1, 1) := by decide +kernel
theorem dOf_accept_31 : decode bOf_accept 31 = .ok (.iload_n 2, 1) := by decide +kernel
theorem dOf_accept_32 : decode bOf_accept 32 = .ok (.iastore, 1) := by decide +kernel
theorem dOf_accept_33 : decode bOf_accept 33 = .ok (.return_, 1) := by decide +kernel
theorem dLw_colour_0 : decode bLw_colour 0 = .ok (.aload_n 3, 1) := by decide +kernel
theorem dLw_colour_1 : decode bLw_colour 1 = .ok (.iconst 0, 1) := by decide +kernel
theorem dLw_colour_2 : decode bLw_colour 2 = .ok (.aload_n 0, 1) := by decide +kernel
theorem dLw_colour_3 : decode bLw_colour 3 = .ok (.iload_n 1, 1) := by decide +kernel
theorem dLw_colour_4 : decode bLw_colour 4 = .ok (.iload_n 2, 1) := by decide +kernel
theorem dLw_colour_5 : decode bLw_colour 5 = .ok (.invokevirtual 32, 3) := by decide +kernel
theorem dLw_colour_8 : decode bLw_colour 8 = .ok (.i2l, 1) := by decide +kernel
theorem dLw_colour_9 : decode bLw_colour 9 = .ok (.lastore, 1) := by decide +kernel
theorem dLw_colour_10 : decode bLw_colour 10 = .ok (.goto 11, 3) := by decide +kernel
theorem dLw_colour_13 : decode bLw_colour 13 = .ok (.astore 4, 2) := by decide +kernel
theorem dLw_colour_15 : decode bLw_colour 15 = .ok (.iconst 1, 1) := by decide +kernel
theorem dLw_colour_16 : decode bLw_colour 16 = .ok (.ireturn, 1) := by decide +kernel
theorem dLw_colour_17 : decode bLw_colour 17 = .ok (.astore 4, 2) := by decide +kernel
theorem dLw_colour_19 : decode bLw_colour 19 = .ok (.iconst 2, 1) := by decide +kernel
theorem dLw_colour_20 : decode bLw_colour 20 = .ok (.ireturn, 1) := by decide +kernel
theorem dLw_colour_21 : decode bLw_colour 21 = .ok (.iconst 0, 1) := by decide +kernel
theorem dLw_colour_22 : decode bLw_colour 22 = .ok (.ireturn, 1) := by decide +kernel
theorem dCL_colour_0 : decode bCL_colour 0 = .ok (.aload_n 0, 1) := by decide +kernel
theorem dCL_colour_1 : decode bCL_colour 1 = .ok (.invokevirtual 156, 3) := by decide +kernel
theorem dCL_colour_4 : decode bCL_colour 4 = .ok (.aload_n 0, 1) := by decide +kernel
theorem dCL_colour_5 : decode bCL_colour 5 = .ok (.iload_n 1, 1) := by decide +kernel
theorem dCL_colour_6 : decode bCL_colour 6 = .ok (.invokevirtual 159, 3) := by decide +kernel
theorem dCL_colour_9 : decode bCL_colour 9 = .ok (.iload_n 2, 1) := by decide +kernel
theorem dCL_colour_10 : decode bCL_colour 10 = .ok (.ifCond .lt 8, 3) := by decide +kernel
theorem dCL_colour_13 : decode bCL_colour 13 = .ok (.iload_n 2, 1) := by decide +kernel
theorem dCL_colour_14 : decode bCL_colour 14 = .ok (.iconst 4, 1) := by decide +kernel
theorem dCL_colour_15 : decode bCL_colour 15 = .ok (.if_icmp .lt 13, 3) := by decide +kernel
theorem dCL_colour_18 : decode bCL_colour 18 = .ok (.new 145, 3) := by decide +kernel
theorem dCL_colour_21 : decode bCL_colour 21 = .ok (.dup, 1) := by decide +kernel
theorem dCL_colour_22 : decode bCL_colour 22 = .ok (.ldc 162, 2) := by decide +kernel
theorem dCL_colour_24 : decode bCL_colour 24 = .ok (.invokespecial 149, 3) := by decide +kernel
theorem dCL_colour_27 : decode bCL_colour 27 = .ok (.athrow, 1) := by decide +kernel
theorem dCL_colour_28 : decode bCL_colour 28 = .ok (.aload_n 0, 1) := by decide +kernel
theorem dCL_colour_29 : decode bCL_colour 29 = .ok (.getfield 60, 3) := by decide +kernel
theorem dCL_colour_32 : decode bCL_colour 32 = .ok (.getfield 164, 3) := by decide +kernel
theorem dCL_colour_35 : decode bCL_colour 35 = .ok (.iload_n 1, 1) := by decide +kernel
theorem dCL_colour_36 : decode bCL_colour 36 = .ok (.iconst 4, 1) := by decide +kernel
theorem dCL_colour_37 : decode bCL_colour 37 = .ok (.imul, 1) := by decide +kernel
theorem dCL_colour_38 : decode bCL_colour 38 = .ok (.iload_n 2, 1) := by decide +kernel
theorem dCL_colour_39 : decode bCL_colour 39 = .ok (.iadd, 1) := by decide +kernel
theorem dCL_colour_40 : decode bCL_colour 40 = .ok (.iaload, 1) := by decide +kernel
theorem dCL_colour_41 : decode bCL_colour 41 = .ok (.ireturn, 1) := by decide +kernel
theorem dCL_checkPalette_0 : decode bCL_checkPalette 0 = .ok (.aload_n 0, 1) := by decide +kernel
theorem dCL_checkPalette_1 : decode bCL_checkPalette 1 = .ok (.getfield 60, 3) := by decide +kernel
theorem dCL_checkPalette_4 : decode bCL_checkPalette 4 = .ok (.getfield 144, 3) := by decide +kernel
theorem dCL_checkPalette_7 : decode bCL_checkPalette 7 = .ok (.ifCond .ne 13, 3) := by decide +kernel
theorem dCL_checkPalette_10 : decode bCL_checkPalette 10 = .ok (.new 205, 3) := by decide +kernel
theorem dCL_checkPalette_13 : decode bCL_checkPalette 13 = .ok (.dup, 1) := by decide +kernel
theorem dCL_checkPalette_14 : decode bCL_checkPalette 14 = .ok (.ldc 207, 2) := by decide +kernel
theorem dCL_checkPalette_16 : decode bCL_checkPalette 16 = .ok (.invokespecial 209, 3) := by decide +kernel
theorem dCL_checkPalette_19 : decode bCL_checkPalette 19 = .ok (.athrow, 1) := by decide +kernel
theorem dCL_checkPalette_20 : decode bCL_checkPalette 20 = .ok (.return_, 1) := by decide +kernel
theorem dCL_checkPaletteColour_0 : decode bCL_checkPaletteColour 0 = .ok (.iload_n 1, 1) := by decide +kernel
theorem dCL_checkPaletteColour_1 : decode bCL_checkPaletteColour 1 = .ok (.ifCond .lt 14, 3) := by decide +kernel
theorem dCL_checkPaletteColour_4 : decode bCL_checkPaletteColour 4 = .ok (.iload_n 1, 1) := by decide +kernel
theorem dCL_checkPaletteColour_5 : decode bCL_checkPaletteColour 5 = .ok (.aload_n 0, 1) := by decide +kernel
theorem dCL_checkPaletteColour_6 : decode bCL_checkPaletteColour 6 = .ok (.getfield 60, 3) := by decide +kernel
theorem dCL_checkPaletteColour_9 : decode bCL_checkPaletteColour 9 = .ok (.getfield 144, 3) := by decide +kernel
theorem dCL_checkPaletteColour_12 : decode bCL_checkPaletteColour 12 = .ok (.if_icmp .lt 13, 3) := by decide +kernel
theorem dCL_checkPaletteColour_15 : decode bCL_checkPaletteColour 15 = .ok (.new 145, 3) := by decide +kernel
theorem dCL_checkPaletteColour_18 : decode bCL_checkPaletteColour 18 = .ok (.dup, 1) := by decide +kernel
theorem dCL_checkPaletteColour_19 : decode bCL_checkPaletteColour 19 = .ok (.ldc 210, 2) := by decide +kernel
theorem dCL_checkPaletteColour_21 : decode bCL_checkPaletteColour 21 = .ok (.invokespecial 149, 3) := by decide +kernel
theorem dCL_checkPaletteColour_24 : decode bCL_checkPaletteColour 24 = .ok (.athrow, 1) := by decide +kernel
theorem dCL_checkPaletteColour_25 : decode bCL_checkPaletteColour 25 = .ok (.return_, 1) := by decide +kernel
theorem dLw_index_0 : decode bLw_index 0 = .ok (.aload_n 3, 1) := by decide +kernel
theorem dLw_index_1 : decode bLw_index 1 = .ok (.iconst 0, 1) := by decide +kernel
theorem dLw_index_2 : decode bLw_index 2 = .ok (.aload_n 0, 1) := by decide +kernel
theorem dLw_index_3 : decode bLw_index 3 = .ok (.iload_n 1, 1) := by decide +kernel
theorem dLw_index_4 : decode bLw_index 4 = .ok (.iload_n 2, 1) := by decide +kernel
theorem dLw_index_5 : decode bLw_index 5 = .ok (.invokevirtual 37, 3) := by decide +kernel
theorem dLw_index_8 : decode bLw_index 8 = .ok (.i2l, 1) := by decide +kernel
theorem dLw_index_9 : decode bLw_index 9 = .ok (.lastore, 1) := by decide +kernel
theorem dLw_index_10 : decode bLw_index 10 = .ok (.goto 11, 3) := by decide +kernel
theorem dLw_index_13 : decode bLw_index 13 = .ok (.astore 4, 2) := by decide +kernel
theorem dLw_index_15 : decode bLw_index 15 = .ok (.iconst 1, 1) := by decide +kernel
theorem dLw_index_16 : decode bLw_index 16 = .ok (.ireturn, 1) := by decide +kernel
theorem dLw_index_17 : decode bLw_index 17 = .ok (.astore 4, 2) := by decide +kernel
theorem dLw_index_19 : decode bLw_index 19 = .ok (.iconst 2, 1) := by decide +kernel
theorem dLw_index_20 : decode bLw_index 20 = .ok (.ireturn, 1) := by decide +kernel
theorem dLw_index_21 : decode bLw_index 21 = .ok (.iconst 0, 1) := by decide +kernel
theorem dLw_index_22 : decode bLw_index 22 = .ok (.ireturn, 1) := by decide +kernel
theorem dCL_index_0 : decode bCL_index 0 = .ok (.aload_n 0, 1) := by decide +kernel
theorem dCL_index_1 : decode bCL_index 1 = .ok (.invokevirtual 156, 3) := by decide +kernel
theorem dCL_index_4 : decode bCL_index 4 = .ok (.aload_n 0, 1) := by decide +kernel
theorem dCL_index_5 : decode bCL_index 5 = .ok (.iload_n 1, 1) := by decide +kernel
theorem dCL_index_6 : decode bCL_index 6 = .ok (.iload_n 2, 1) := by decide +kernel
theorem dCL_index_7 : decode bCL_index 7 = .ok (.invokevirtual 78, 3) := by decide +kernel
theorem dCL_index_10 : decode bCL_index 10 = .ok (.aload_n 0, 1) := by decide +kernel
theorem dCL_index_11 : decode bCL_index 11 = .ok (.getfield 24, 3) := by decide +kernel
theorem dCL_index_14 : decode bCL_index 14 = .ok (.aload_n 0, 1) := by decide +kernel
theorem dCL_index_15 : decode bCL_index 15 = .ok (.iload_n 1, 1) := by decide +kernel
theorem dCL_index_16 : decode bCL_index 16 = .ok (.iload_n 2, 1) := by decide +kernel
theorem dCL_index_17 : decode bCL_index 17 = .ok (.invokevirtual 86, 3) := by decide +kernel
theorem dCL_index_20 : decode bCL_index 20 = .ok (.iaload, 1) := by decide +kernel
theorem dCL_index_21 : decode bCL_index 21 = .ok (.ireturn, 1) := by decide +kernel
theorem dLw_nearest_0 : decode bLw_nearest 0 = .ok (.aload 5, 2) := by decide +kernel
theorem dLw_nearest_2 : decode bLw_nearest 2 = .ok (.iconst 0, 1) := by decide +kernel
theorem dLw_nearest_3 : decode bLw_nearest 3 = .ok (.aload_n 0, 1) := by decide +kernel
theorem dLw_nearest_4 : decode bLw_nearest 4 = .ok (.iload_n 1, 1) := by decide +kernel
theorem dLw_nearest_5 : decode bLw_nearest 5 = .ok (.iload_n 2, 1) := by decide +kernel
theorem dLw_nearest_6 : decode bLw_nearest 6 = .ok (.iload_n 3, 1) := by decide +kernel
theorem dLw_nearest_7 : decode bLw_nearest 7 = .ok (.iload 4, 2) := by decide +kernel
theorem dLw_nearest_9 : decode bLw_nearest 9 = .ok (.invokevirtual 40, 3) := by decide +kernel
theorem dLw_nearest_12 : decode bLw_nearest 12 = .ok (.i2l, 1) := by decide +kernel
theorem dLw_nearest_13 : decode bLw_nearest 13 = .ok (.lastore, 1) := by decide +kernel
theorem dLw_nearest_14 : decode bLw_nearest 14 = .ok (.goto 11, 3) := by decide +kernel
theorem dLw_nearest_17 : decode bLw_nearest 17 = .ok (.astore 6, 2) := by decide +kernel
theorem dLw_nearest_19 : decode bLw_nearest 19 = .ok (.iconst 1, 1) := by decide +kernel
theorem dLw_nearest_20 : decode bLw_nearest 20 = .ok (.ireturn, 1) := by decide +kernel
theorem dLw_nearest_21 : decode bLw_nearest 21 = .ok (.astore 6, 2) := by decide +kernel
theorem dLw_nearest_23 : decode bLw_nearest 23 = .ok (.iconst 2, 1) := by decide +kernel
theorem dLw_nearest_24 : decode bLw_nearest 24 = .ok (.ireturn, 1) := by decide +kernel
theorem dLw_nearest_25 : decode bLw_nearest 25 = .ok (.iconst 0, 1) := by decide +kernel
theorem dLw_nearest_26 : decode bLw_nearest 26 = .ok (.ireturn, 1) := by decide +kernel
theorem dCL_nearest_0 : decode bCL_nearest 0 = .ok (.aload_n 0, 1) := by decide +kernel
theorem dCL_nearest_1 : decode bCL_nearest 1 = .ok (.invokevirtual 156, 3) := by decide +kernel
theorem dCL_nearest_4 : decode bCL_nearest 4 = .ok (.iload_n 1, 1) := by decide +kernel
theorem dCL_nearest_5 : decode bCL_nearest 5 = .ok (.iload_n 2, 1) := by decide +kernel
theorem dCL_nearest_6 : decode bCL_nearest 6 = .ok (.iload_n 3, 1) := by decide +kernel
theorem dCL_nearest_7 : decode bCL_nearest 7 = .ok (.iload 4, 2) := by decide +kernel
theorem dCL_nearest_9 : decode bCL_nearest 9 = .ok (.invokestatic 82, 3) := by decide +kernel
theorem dCL_nearest_12 : decode bCL_nearest 12 = .ok (.aload_n 0, 1) := by decide +kernel
theorem dCL_nearest_13 : decode bCL_nearest 13 = .ok (.getfield 60, 3) := by decide +kernel
theorem dCL_nearest_16 : decode bCL_nearest 16 = .ok (.iload_n 1, 1) := by decide +kernel
theorem dCL_nearest_17 : decode bCL_nearest 17 = .ok (.iload_n 2, 1) := by decide +kernel
theorem dCL_nearest_18 : decode bCL_nearest 18 = .ok (.iload_n 3, 1) := by decide +kernel
theorem dCL_nearest_19 : decode bCL_nearest 19 = .ok (.iload 4, 2) := by decide +kernel
theorem dCL_nearest_21 : decode bCL_nearest 21 = .ok (.invokevirtual 167, 3) := by decide +kernel
theorem dCL_nearest_24 : decode bCL_nearest 24 = .ok (.ireturn, 1) := by decide +kernel
theorem dLw_sum_0 : decode bLw_sum 0 = .ok (.aload_n 2, 1) := by decide +kernel
theorem dLw_sum_1 : decode bLw_sum 1 = .ok (.iconst 0, 1) := by decide +kernel
theorem dLw_sum_2 : decode bLw_sum 2 = .ok (.aload_n 0, 1) := by decide +kernel
theorem dLw_sum_3 : decode bLw_sum 3 = .ok (.iload_n 1, 1) := by decide +kernel
theorem dLw_sum_4 : decode bLw_sum 4 = .ok (.invokevirtual 44, 3) := by decide +kernel
theorem dLw_sum_7 : decode bLw_sum 7 = .ok (.lastore, 1) := by decide +kernel
theorem dLw_sum_8 : decode bLw_sum 8 = .ok (.goto 9, 3) := by decide +kernel
theorem dLw_sum_11 : decode bLw_sum 11 = .ok (.astore_n 3, 1) := by decide +kernel
theorem dLw_sum_12 : decode bLw_sum 12 = .ok (.iconst 1, 1) := by decide +kernel
theorem dLw_sum_13 : decode bLw_sum 13 = .ok (.ireturn, 1) := by decide +kernel
theorem dLw_sum_14 : decode bLw_sum 14 = .ok (.astore_n 3, 1) := by decide +kernel
theorem dLw_sum_15 : decode bLw_sum 15 = .ok (.iconst 2, 1) := by decide +kernel
theorem dLw_sum_16 : decode bLw_sum 16 = .ok (.ireturn, 1) := by decide +kernel
theorem dLw_sum_17 : decode bLw_sum 17 = .ok (.iconst 0, 1) := by decide +kernel
theorem dLw_sum_18 : decode bLw_sum 18 = .ok (.ireturn, 1) := by decide +kernel
theorem dCL_sum_0 : decode bCL_sum 0 = .ok (.aload_n 0, 1) := by decide +kernel
theorem dCL_sum_1 : decode bCL_sum 1 = .ok (.invokevirtual 156, 3) := by decide +kernel
theorem dCL_sum_4 : decode bCL_sum 4 = .ok (.iload_n 1, 1) := by decide +kernel
theorem dCL_sum_5 : decode bCL_sum 5 = .ok (.ifCond .lt 14, 3) := by decide +kernel
theorem dCL_sum_8 : decode bCL_sum 8 = .ok (.iload_n 1, 1) := by decide +kernel
theorem dCL_sum_9 : decode bCL_sum 9 = .ok (.aload_n 0, 1) := by decide +kernel
theorem dCL_sum_10 : decode bCL_sum 10 = .ok (.getfield 67, 3) := by decide +kernel
theorem dCL_sum_13 : decode bCL_sum 13 = .ok (.getfield 170, 3) := by decide +kernel
theorem dCL_sum_16 : decode bCL_sum 16 = .ok (.if_icmp .le 13, 3) := by decide +kernel
theorem dCL_sum_19 : decode bCL_sum 19 = .ok (.new 145, 3) := by decide +kernel
theorem dCL_sum_22 : decode bCL_sum 22 = .ok (.dup, 1) := by decide +kernel
theorem dCL_sum_23 : decode bCL_sum 23 = .ok (.ldc 173, 2) := by decide +kernel
theorem dCL_sum_25 : decode bCL_sum 25 = .ok (.invokespecial 149, 3) := by decide +kernel
theorem dCL_sum_28 : decode bCL_sum 28 = .ok (.athrow, 1) := by decide +kernel
theorem dCL_sum_29 : decode bCL_sum 29 = .ok (.aload_n 0, 1) := by decide +kernel
theorem dCL_sum_30 : decode bCL_sum 30 = .ok (.getfield 67, 3) := by decide +kernel
theorem dCL_sum_33 : decode bCL_sum 33 = .ok (.getfield 175, 3) := by decide +kernel
theorem dCL_sum_36 : decode bCL_sum 36 = .ok (.iload_n 1, 1) := by decide +kernel
theorem dCL_sum_37 : decode bCL_sum 37 = .ok (.laload, 1) := by decide +kernel
theorem dCL_sum_38 : decode bCL_sum 38 = .ok (.lreturn, 1) := by decide +kernel
theorem dLw_dither_0 : decode bLw_dither 0 = .ok (.aload_n 2, 1) := by decide +kernel
theorem dLw_dither_1 : decode bLw_dither 1 = .ok (.iconst 0, 1) := by decide +kernel
theorem dLw_dither_2 : decode bLw_dither 2 = .ok (.aload_n 0, 1) := by decide +kernel
theorem dLw_dither_3 : decode bLw_dither 3 = .ok (.iload_n 1, 1) := by decide +kernel
theorem dLw_dither_4 : decode bLw_dither 4 = .ok (.invokevirtual 48, 3) := by decide +kernel
theorem dLw_dither_7 : decode bLw_dither 7 = .ok (.i2l, 1) := by decide +kernel
theorem dLw_dither_8 : decode bLw_dither 8 = .ok (.lastore, 1) := by decide +kernel
theorem dLw_dither_9 : decode bLw_dither 9 = .ok (.goto 9, 3) := by decide +kernel
theorem dLw_dither_12 : decode bLw_dither 12 = .ok (.astore_n 3, 1) := by decide +kernel
theorem dLw_dither_13 : decode bLw_dither 13 = .ok (.iconst 1, 1) := by decide +kernel
theorem dLw_dither_14 : decode bLw_dither 14 = .ok (.ireturn, 1) := by decide +kernel
theorem dLw_dither_15 : decode bLw_dither 15 = .ok (.astore_n 3, 1) := by decide +kernel
theorem dLw_dither_16 : decode bLw_dither 16 = .ok (.iconst 2, 1) := by decide +kernel
theorem dLw_dither_17 : decode bLw_dither 17 = .ok (.ireturn, 1) := by decide +kernel
theorem dLw_dither_18 : decode bLw_dither 18 = .ok (.iconst 0, 1) := by decide +kernel
theorem dLw_dither_19 : decode bLw_dither 19 = .ok (.ireturn, 1) := by decide +kernel
theorem dCL_dither_0 : decode bCL_dither 0 = .ok (.aload_n 0, 1) := by decide +kernel
theorem dCL_dither_1 : decode bCL_dither 1 = .ok (.invokevirtual 156, 3) := by decide +kernel
theorem dCL_dither_4 : decode bCL_dither 4 = .ok (.iload_n 1, 1) := by decide +kernel
theorem dCL_dither_5 : decode bCL_dither 5 = .ok (.ifCond .lt 8, 3) := by decide +kernel
theorem dCL_dither_8 : decode bCL_dither 8 = .ok (.iload_n 1, 1) := by decide +kernel
theorem dCL_dither_9 : decode bCL_dither 9 = .ok (.iconst 2, 1) := by decide +kernel
theorem dCL_dither_10 : decode bCL_dither 10 = .ok (.if_icmp .le 13, 3) := by decide +kernel
theorem dCL_dither_13 : decode bCL_dither 13 = .ok (.new 97, 3) := by decide +kernel
theorem dCL_dither_16 : decode bCL_dither 16 = .ok (.dup, 1) := by decide +kernel
theorem dCL_dither_17 : decode bCL_dither 17 = .ok (.ldc 179, 2) := by decide +kernel
theorem dCL_dither_19 : decode bCL_dither 19 = .ok (.invokespecial 101, 3) := by decide +kernel
theorem dCL_dither_22 : decode bCL_dither 22 = .ok (.athrow, 1) := by decide +kernel
theorem dCL_dither_23 : decode bCL_dither 23 = .ok (.iload_n 1, 1) := by decide +kernel
theorem dCL_dither_24 : decode bCL_dither 24 = .ok (.ifCond .ne 10, 3) := by decide +kernel
theorem dCL_dither_27 : decode bCL_dither 27 = .ok (.aload_n 0, 1) := by decide +kernel
theorem dCL_dither_28 : decode bCL_dither 28 = .ok (.invokevirtual 141, 3) := by decide +kernel
theorem dCL_dither_31 : decode bCL_dither 31 = .ok (.goto 17, 3) := by decide +kernel
theorem dCL_dither_34 : decode bCL_dither 34 = .ok (.aload_n 0, 1) := by decide +kernel
theorem dCL_dither_35 : decode bCL_dither 35 = .ok (.iload_n 1, 1) := by decide +kernel
theorem dCL_dither_36 : decode bCL_dither 36 = .ok (.iconst 2, 1) := by decide +kernel
theorem dCL_dither_37 : decode bCL_dither 37 = .ok (.if_icmp .ne 7, 3) := by decide +kernel
theorem dCL_dither_40 : decode bCL_dither 40 = .ok (.iconst 1, 1) := by decide +kernel
theorem dCL_dither_41 : decode bCL_dither 41 = .ok (.goto 4, 3) := by decide +kernel
theorem dCL_dither_44 : decode bCL_dither 44 = .ok (.iconst 0, 1) := by decide +kernel
theorem dCL_dither_45 : decode bCL_dither 45 = .ok (.invokevirtual 181, 3) := by decide +kernel
theorem dCL_dither_48 : decode bCL_dither 48 = .ok (.aload_n 0, 1) := by decide +kernel
theorem dCL_dither_49 : decode bCL_dither 49 = .ok (.invokevirtual 185, 3) := by decide +kernel
theorem dCL_dither_52 : decode bCL_dither 52 = .ok (.ireturn, 1) := by decide +kernel
theorem dCL_holdWithCarry_0 : decode bCL_holdWithCarry 0 = .ok (.aload_n 0, 1) := by decide +kernel
theorem dCL_holdWithCarry_1 : decode bCL_holdWithCarry 1 = .ok (.getfield 74, 3) := by decide +kernel
theorem dCL_holdWithCarry_4 : decode bCL_holdWithCarry 4 = .ok (.invokevirtual 266, 3) := by decide +kernel
theorem dCL_holdWithCarry_7 : decode bCL_holdWithCarry 7 = .ok (.iconst 0, 1) := by decide +kernel
theorem dCL_holdWithCarry_8 : decode bCL_holdWithCarry 8 = .ok (.istore_n 2, 1) := by decide +kernel
theorem dCL_holdWithCarry_9 : decode bCL_holdWithCarry 9 = .ok (.iload_n 2, 1) := by decide +kernel
theorem dCL_holdWithCarry_10 : decode bCL_holdWithCarry 10 = .ok (.aload_n 0, 1) := by decide +kernel
theorem dCL_holdWithCarry_11 : decode bCL_holdWithCarry 11 = .ok (.getfield 17, 3) := by decide +kernel
theorem dCL_holdWithCarry_14 : decode bCL_holdWithCarry 14 = .ok (.if_icmp .ge 107, 3) := by decide +kernel
theorem dCL_holdWithCarry_17 : decode bCL_holdWithCarry 17 = .ok (.iload_n 1, 1) := by decide +kernel
theorem dCL_holdWithCarry_18 : decode bCL_holdWithCarry 18 = .ok (.ifCond .eq 14, 3) := by decide +kernel
theorem dCL_holdWithCarry_21 : decode bCL_holdWithCarry 21 = .ok (.iload_n 2, 1) := by decide +kernel
theorem dCL_holdWithCarry_22 : decode bCL_holdWithCarry 22 = .ok (.iconst 1, 1) := by decide +kernel
theorem dCL_holdWithCarry_23 : decode bCL_holdWithCarry 23 = .ok (.iand, 1) := by decide +kernel
theorem dCL_holdWithCarry_24 : decode bCL_holdWithCarry 24 = .ok (.iconst 1, 1) := by decide +kernel
theorem dCL_holdWithCarry_25 : decode bCL_holdWithCarry 25 = .ok (.if_icmp .ne 7, 3) := by decide +kernel
theorem dCL_holdWithCarry_28 : decode bCL_holdWithCarry 28 = .ok (.iconst 1, 1) := by decide +kernel
theorem dCL_holdWithCarry_29 : decode bCL_holdWithCarry 29 = .ok (.goto 4, 3) := by decide +kernel
theorem dCL_holdWithCarry_32 : decode bCL_holdWithCarry 32 = .ok (.iconst 0, 1) := by decide +kernel
theorem dCL_holdWithCarry_33 : decode bCL_holdWithCarry 33 = .ok (.istore_n 3, 1) := by decide +kernel
theorem dCL_holdWithCarry_34 : decode bCL_holdWithCarry 34 = .ok (.aload_n 0, 1) := by decide +kernel
theorem dCL_holdWithCarry_35 : decode bCL_holdWithCarry 35 = .ok (.getfield 74, 3) := by decide +kernel
theorem dCL_holdWithCarry_38 : decode bCL_holdWithCarry 38 = .ok (.invokevirtual 269, 3) := by decide +kernel
theorem dCL_holdWithCarry_41 : decode bCL_holdWithCarry 41 = .ok (.iconst 0, 1) := by decide +kernel
theorem dCL_holdWithCarry_42 : decode bCL_holdWithCarry 42 = .ok (.istore 4, 2) := by decide +kernel
theorem dCL_holdWithCarry_44 : decode bCL_holdWithCarry 44 = .ok (.iload 4, 2) := by decide +kernel
theorem dCL_holdWithCarry_46 : decode bCL_holdWithCarry 46 = .ok (.aload_n 0, 1) := by decide +kernel
theorem dCL_holdWithCarry_47 : decode bCL_holdWithCarry 47 = .ok (.getfield 13, 3) := by decide +kernel
theorem dCL_holdWithCarry_50 : decode bCL_holdWithCarry 50 = .ok (.if_icmp .ge 65, 3) := by decide +kernel
theorem dCL_holdWithCarry_53 : decode bCL_holdWithCarry 53 = .ok (.iload_n 3, 1) := by decide +kernel
theorem dCL_holdWithCarry_54 : decode bCL_holdWithCarry 54 = .ok (.ifCond .eq 15, 3) := by decide +kernel
theorem dCL_holdWithCarry_57 : decode bCL_holdWithCarry 57 = .ok (.aload_n 0, 1) := by decide +kernel
theorem dCL_holdWithCarry_58 : decode bCL_holdWithCarry 58 = .ok (.getfield 13, 3) := by decide +kernel
theorem dCL_holdWithCarry_61 : decode bCL_holdWithCarry 61 = .ok (.iconst 1, 1) := by decide +kernel
theorem dCL_holdWithCarry_62 : decode bCL_holdWithCarry 62 = .ok (.isub, 1) := by decide +kernel
theorem dCL_holdWithCarry_63 : decode bCL_holdWithCarry 63 = .ok (.iload 4, 2) := by decide +kernel
theorem dCL_holdWithCarry_65 : decode bCL_holdWithCarry 65 = .ok (.isub, 1) := by decide +kernel
theorem dCL_holdWithCarry_66 : decode bCL_holdWithCarry 66 = .ok (.goto 5, 3) := by decide +kernel
theorem dCL_holdWithCarry_69 : decode bCL_holdWithCarry 69 = .ok (.iload 4, 2) := by decide +kernel
theorem dCL_holdWithCarry_71 : decode bCL_holdWithCarry 71 = .ok (.istore 5, 2) := by decide +kernel
theorem dCL_holdWithCarry_73 : decode bCL_holdWithCarry 73 = .ok (.aload_n 0, 1) := by decide +kernel
theorem dCL_holdWithCarry_74 : decode bCL_holdWithCarry 74 = .ok (.iload 5, 2) := by decide +kernel
theorem dCL_holdWithCarry_76 : decode bCL_holdWithCarry 76 = .ok (.iload_n 2, 1) := by decide +kernel
theorem dCL_holdWithCarry_77 : decode bCL_holdWithCarry 77 = .ok (.invokevirtual 86, 3) := by decide +kernel
theorem dCL_holdWithCarry_80 : decode bCL_holdWithCarry 80 = .ok (.istore 6, 2) := by decide +kernel
theorem dCL_holdWithCarry_82 : decode bCL_holdWithCarry 82 = .ok (.aload_n 0, 1) := by decide +kernel
theorem dCL_holdWithCarry_83 : decode bCL_holdWithCarry 83 = .ok (.getfield 24, 3) := by decide +kernel
theorem dCL_holdWithCarry_86 : decode bCL_holdWithCarry 86 = .ok (.iload 6, 2) := by decide +kernel
theorem dCL_holdWithCarry_88 : decode bCL_holdWithCarry 88 = .ok (.aload_n 0, 1) := by decide +kernel
theorem dCL_holdWithCarry_89 : decode bCL_holdWithCarry 89 = .ok (.getfield 74, 3) := by decide +kernel
theorem dCL_holdWithCarry_92 : decode bCL_holdWithCarry 92 = .ok (.aload_n 0, 1) := by decide +kernel
theorem dCL_holdWithCarry_93 : decode bCL_holdWithCarry 93 = .ok (.getfield 20, 3) := by decide +kernel
theorem dCL_holdWithCarry_96 : decode bCL_holdWithCarry 96 = .ok (.iload 6, 2) := by decide +kernel
theorem dCL_holdWithCarry_98 : decode bCL_holdWithCarry 98 = .ok (.iaload, 1) := by decide +kernel
theorem dCL_holdWithCarry_99 : decode bCL_holdWithCarry 99 = .ok (.iload 5, 2) := by decide +kernel
theorem dCL_holdWithCarry_101 : decode bCL_holdWithCarry 101 = .ok (.aload_n 0, 1) := by decide +kernel
theorem dCL_holdWithCarry_102 : decode bCL_holdWithCarry 102 = .ok (.getfield 60, 3) := by decide +kernel
theorem dCL_holdWithCarry_105 : decode bCL_holdWithCarry 105 = .ok (.invokevirtual 272, 3) := by decide +kernel
theorem dCL_holdWithCarry_108 : decode bCL_holdWithCarry 108 = .ok (.iastore, 1) := by decide +kernel
theorem dCL_holdWithCarry_109 : decode bCL_holdWithCarry 109 = .ok (.iinc 4 1, 3) := by decide +kernel
theorem dCL_holdWithCarry_112 : decode bCL_holdWithCarry 112 = .ok (.goto (-68), 3) := by decide +kernel
theorem dCL_holdWithCarry_115 : decode bCL_holdWithCarry 115 = .ok (.iinc 2 1, 3) := by decide +kernel
theorem dCL_holdWithCarry_118 : decode bCL_holdWithCarry 118 = .ok (.goto (-109), 3) := by decide +kernel
theorem dCL_holdWithCarry_121 : decode bCL_holdWithCarry 121 = .ok (.return_, 1) := by decide +kernel
theorem dCa_startPicture_0 : decode bCa_startPicture 0 = .ok (.aload_n 0, 1) := by decide +kernel
theorem dCa_startPicture_1 : decode bCa_startPicture 1 = .ok (.getfield 18, 3) := by decide +kernel
theorem dCa_startPicture_4 : decode bCa_startPicture 4 = .ok (.iconst 0, 1) := by decide +kernel
theorem dCa_startPicture_5 : decode bCa_startPicture 5 = .ok (.invokestatic 21, 3) := by decide +kernel
theorem dCa_startPicture_8 : decode bCa_startPicture 8 = .ok (.return_, 1) := by decide +kernel
theorem dCa_startRow_0 : decode bCa_startRow 0 = .ok (.aload_n 0, 1) := by decide +kernel
theorem dCa_startRow_1 : decode bCa_startRow 1 = .ok (.getfield 9, 3) := by decide +kernel
theorem dCa_startRow_4 : decode bCa_startRow 4 = .ok (.iconst 0, 1) := by decide +kernel
theorem dCa_startRow_5 : decode bCa_startRow 5 = .ok (.invokestatic 21, 3) := by decide +kernel
theorem dCa_startRow_8 : decode bCa_startRow 8 = .ok (.return_, 1) := by decide +kernel
