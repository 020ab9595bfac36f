theorem dCa_choose_0 : decode bCa_choose 0 = .ok (.iconst 0, 1) := by decide +kernel
theorem dCa_choose_1 : decode bCa_choose 1 = .ok (.istore 4, 2) := by decide +kernel
theorem dCa_choose_3 : decode bCa_choose 3 = .ok (.iload 4, 2) := by decide +kernel
theorem dCa_choose_5 : decode bCa_choose 5 = .ok (.iconst 4, 1) := by decide +kernel
theorem dCa_choose_6 : decode bCa_choose 6 = .ok (.if_icmp .ge 42, 3) := by decide +kernel
theorem dCa_choose_9 : decode bCa_choose 9 = .ok (.aload_n 0, 1) := by decide +kernel
theorem dCa_choose_10 : decode bCa_choose 10 = .ok (.getfield 15, 3) := by decide +kernel
theorem dCa_choose_13 : decode bCa_choose 13 = .ok (.iload 4, 2) := by decide +kernel
theorem dCa_choose_15 : decode bCa_choose 15 = .ok (.iload_n 1, 1) := by decide +kernel
theorem dCa_choose_16 : decode bCa_choose 16 = .ok (.iload 4, 2) := by decide +kernel
theorem dCa_choose_18 : decode bCa_choose 18 = .ok (.invokestatic 27, 3) := by decide +kernel
theorem dCa_choose_21 : decode bCa_choose 21 = .ok (.aload_n 0, 1) := by decide +kernel
theorem dCa_choose_22 : decode bCa_choose 22 = .ok (.getfield 9, 3) := by decide +kernel
theorem dCa_choose_25 : decode bCa_choose 25 = .ok (.iload 4, 2) := by decide +kernel
theorem dCa_choose_27 : decode bCa_choose 27 = .ok (.iaload, 1) := by decide +kernel
theorem dCa_choose_28 : decode bCa_choose 28 = .ok (.iadd, 1) := by decide +kernel
theorem dCa_choose_29 : decode bCa_choose 29 = .ok (.aload_n 0, 1) := by decide +kernel
theorem dCa_choose_30 : decode bCa_choose 30 = .ok (.getfield 18, 3) := by decide +kernel
theorem dCa_choose_33 : decode bCa_choose 33 = .ok (.iload_n 2, 1) := by decide +kernel
theorem dCa_choose_34 : decode bCa_choose 34 = .ok (.iconst 4, 1) := by decide +kernel
theorem dCa_choose_35 : decode bCa_choose 35 = .ok (.imul, 1) := by decide +kernel
theorem dCa_choose_36 : decode bCa_choose 36 = .ok (.iload 4, 2) := by decide +kernel
theorem dCa_choose_38 : decode bCa_choose 38 = .ok (.iadd, 1) := by decide +kernel
theorem dCa_choose_39 : decode bCa_choose 39 = .ok (.iaload, 1) := by decide +kernel
theorem dCa_choose_40 : decode bCa_choose 40 = .ok (.iadd, 1) := by decide +kernel
theorem dCa_choose_41 : decode bCa_choose 41 = .ok (.iastore, 1) := by decide +kernel
theorem dCa_choose_42 : decode bCa_choose 42 = .ok (.iinc 4 1, 3) := by decide +kernel
theorem dCa_choose_45 : decode bCa_choose 45 = .ok (.goto (-42), 3) := by decide +kernel
theorem dCa_choose_48 : decode bCa_choose 48 = .ok (.aload_n 3, 1) := by decide +kernel
theorem dCa_choose_49 : decode bCa_choose 49 = .ok (.aload_n 0, 1) := by decide +kernel
theorem dCa_choose_50 : decode bCa_choose 50 = .ok (.iconst 0, 1) := by decide +kernel
theorem dCa_choose_51 : decode bCa_choose 51 = .ok (.invokevirtual 31, 3) := by decide +kernel
theorem dCa_choose_54 : decode bCa_choose 54 = .ok (.aload_n 0, 1) := by decide +kernel
theorem dCa_choose_55 : decode bCa_choose 55 = .ok (.iconst 1, 1) := by decide +kernel
theorem dCa_choose_56 : decode bCa_choose 56 = .ok (.invokevirtual 31, 3) := by decide +kernel
theorem dCa_choose_59 : decode bCa_choose 59 = .ok (.aload_n 0, 1) := by decide +kernel
theorem dCa_choose_60 : decode bCa_choose 60 = .ok (.iconst 2, 1) := by decide +kernel
theorem dCa_choose_61 : decode bCa_choose 61 = .ok (.invokevirtual 31, 3) := by decide +kernel
theorem dCa_choose_64 : decode bCa_choose 64 = .ok (.aload_n 0, 1) := by decide +kernel
theorem dCa_choose_65 : decode bCa_choose 65 = .ok (.iconst 3, 1) := by decide +kernel
theorem dCa_choose_66 : decode bCa_choose 66 = .ok (.invokevirtual 31, 3) := by decide +kernel
theorem dCa_choose_69 : decode bCa_choose 69 = .ok (.invokevirtual 35, 3) := by decide +kernel
theorem dCa_choose_72 : decode bCa_choose 72 = .ok (.istore 4, 2) := by decide +kernel
theorem dCa_choose_74 : decode bCa_choose 74 = .ok (.iconst 0, 1) := by decide +kernel
theorem dCa_choose_75 : decode bCa_choose 75 = .ok (.istore 5, 2) := by decide +kernel
theorem dCa_choose_77 : decode bCa_choose 77 = .ok (.iload 5, 2) := by decide +kernel
theorem dCa_choose_79 : decode bCa_choose 79 = .ok (.iconst 4, 1) := by decide +kernel
theorem dCa_choose_80 : decode bCa_choose 80 = .ok (.if_icmp .ge 60, 3) := by decide +kernel
theorem dCa_choose_83 : decode bCa_choose 83 = .ok (.aload_n 0, 1) := by decide +kernel
theorem dCa_choose_84 : decode bCa_choose 84 = .ok (.getfield 15, 3) := by decide +kernel
theorem dCa_choose_87 : decode bCa_choose 87 = .ok (.iload 5, 2) := by decide +kernel
theorem dCa_choose_89 : decode bCa_choose 89 = .ok (.iaload, 1) := by decide +kernel
theorem dCa_choose_90 : decode bCa_choose 90 = .ok (.aload_n 3, 1) := by decide +kernel
theorem dCa_choose_91 : decode bCa_choose 91 = .ok (.getfield 41, 3) := by decide +kernel
theorem dCa_choose_94 : decode bCa_choose 94 = .ok (.iload 4, 2) := by decide +kernel
theorem dCa_choose_96 : decode bCa_choose 96 = .ok (.iconst 4, 1) := by decide +kernel
theorem dCa_choose_97 : decode bCa_choose 97 = .ok (.imul, 1) := by decide +kernel
theorem dCa_choose_98 : decode bCa_choose 98 = .ok (.iload 5, 2) := by decide +kernel
theorem dCa_choose_100 : decode bCa_choose 100 = .ok (.iadd, 1) := by decide +kernel
theorem dCa_choose_101 : decode bCa_choose 101 = .ok (.iaload, 1) := by decide +kernel
theorem dCa_choose_102 : decode bCa_choose 102 = .ok (.isub, 1) := by decide +kernel
theorem dCa_choose_103 : decode bCa_choose 103 = .ok (.istore 6, 2) := by decide +kernel
theorem dCa_choose_105 : decode bCa_choose 105 = .ok (.aload_n 0, 1) := by decide +kernel
theorem dCa_choose_106 : decode bCa_choose 106 = .ok (.getfield 9, 3) := by decide +kernel
theorem dCa_choose_109 : decode bCa_choose 109 = .ok (.iload 5, 2) := by decide +kernel
theorem dCa_choose_111 : decode bCa_choose 111 = .ok (.iload 6, 2) := by decide +kernel
theorem dCa_choose_113 : decode bCa_choose 113 = .ok (.iconst 2, 1) := by decide +kernel
theorem dCa_choose_114 : decode bCa_choose 114 = .ok (.idiv, 1) := by decide +kernel
theorem dCa_choose_115 : decode bCa_choose 115 = .ok (.iastore, 1) := by decide +kernel
theorem dCa_choose_116 : decode bCa_choose 116 = .ok (.aload_n 0, 1) := by decide +kernel
theorem dCa_choose_117 : decode bCa_choose 117 = .ok (.getfield 18, 3) := by decide +kernel
theorem dCa_choose_120 : decode bCa_choose 120 = .ok (.iload_n 2, 1) := by decide +kernel
theorem dCa_choose_121 : decode bCa_choose 121 = .ok (.iconst 4, 1) := by decide +kernel
theorem dCa_choose_122 : decode bCa_choose 122 = .ok (.imul, 1) := by decide +kernel
theorem dCa_choose_123 : decode bCa_choose 123 = .ok (.iload 5, 2) := by decide +kernel
theorem dCa_choose_125 : decode bCa_choose 125 = .ok (.iadd, 1) := by decide +kernel
theorem dCa_choose_126 : decode bCa_choose 126 = .ok (.iload 6, 2) := by decide +kernel
theorem dCa_choose_128 : decode bCa_choose 128 = .ok (.iload 6, 2) := by decide +kernel
theorem dCa_choose_130 : decode bCa_choose 130 = .ok (.iconst 2, 1) := by decide +kernel
theorem dCa_choose_131 : decode bCa_choose 131 = .ok (.idiv, 1) := by decide +kernel
theorem dCa_choose_132 : decode bCa_choose 132 = .ok (.isub, 1) := by decide +kernel
theorem dCa_choose_133 : decode bCa_choose 133 = .ok (.iastore, 1) := by decide +kernel
theorem dCa_choose_134 : decode bCa_choose 134 = .ok (.iinc 5 1, 3) := by decide +kernel
theorem dCa_choose_137 : decode bCa_choose 137 = .ok (.goto (-60), 3) := by decide +kernel
theorem dCa_choose_140 : decode bCa_choose 140 = .ok (.iload 4, 2) := by decide +kernel
theorem dCa_choose_142 : decode bCa_choose 142 = .ok (.ireturn, 1) := by decide +kernel
theorem dCa_broughtIn_0 : decode bCa_broughtIn 0 = .ok (.aload_n 0, 1) := by decide +kernel
theorem dCa_broughtIn_1 : decode bCa_broughtIn 1 = .ok (.getfield 15, 3) := by decide +kernel
theorem dCa_broughtIn_4 : decode bCa_broughtIn 4 = .ok (.iload_n 1, 1) := by decide +kernel
theorem dCa_broughtIn_5 : decode bCa_broughtIn 5 = .ok (.iaload, 1) := by decide +kernel
theorem dCa_broughtIn_6 : decode bCa_broughtIn 6 = .ok (.iconst 0, 1) := by decide +kernel
theorem dCa_broughtIn_7 : decode bCa_broughtIn 7 = .ok (.sipush 255, 3) := by decide +kernel
theorem dCa_broughtIn_10 : decode bCa_broughtIn 10 = .ok (.invokestatic 44, 3) := by decide +kernel
theorem dCa_broughtIn_13 : decode bCa_broughtIn 13 = .ok (.ireturn, 1) := by decide +kernel
theorem dCL_heldOtherThanClosest_0 : decode bCL_heldOtherThanClosest 0 = .ok (.iconst 0, 1) := by decide +kernel
theorem dCL_heldOtherThanClosest_1 : decode bCL_heldOtherThanClosest 1 = .ok (.istore_n 1, 1) := by decide +kernel
theorem dCL_heldOtherThanClosest_2 : decode bCL_heldOtherThanClosest 2 = .ok (.iconst 0, 1) := by decide +kernel
theorem dCL_heldOtherThanClosest_3 : decode bCL_heldOtherThanClosest 3 = .ok (.istore_n 2, 1) := by decide +kernel
theorem dCL_heldOtherThanClosest_4 : decode bCL_heldOtherThanClosest 4 = .ok (.iload_n 2, 1) := by decide +kernel
theorem dCL_heldOtherThanClosest_5 : decode bCL_heldOtherThanClosest 5 = .ok (.aload_n 0, 1) := by decide +kernel
theorem dCL_heldOtherThanClosest_6 : decode bCL_heldOtherThanClosest 6 = .ok (.getfield 24, 3) := by decide +kernel
theorem dCL_heldOtherThanClosest_9 : decode bCL_heldOtherThanClosest 9 = .ok (.arraylength, 1) := by decide +kernel
theorem dCL_heldOtherThanClosest_10 : decode bCL_heldOtherThanClosest 10 = .ok (.if_icmp .ge 38, 3) := by decide +kernel
theorem dCL_heldOtherThanClosest_13 : decode bCL_heldOtherThanClosest 13 = .ok (.aload_n 0, 1) := by decide +kernel
theorem dCL_heldOtherThanClosest_14 : decode bCL_heldOtherThanClosest 14 = .ok (.getfield 24, 3) := by decide +kernel
theorem dCL_heldOtherThanClosest_17 : decode bCL_heldOtherThanClosest 17 = .ok (.iload_n 2, 1) := by decide +kernel
theorem dCL_heldOtherThanClosest_18 : decode bCL_heldOtherThanClosest 18 = .ok (.iaload, 1) := by decide +kernel
theorem dCL_heldOtherThanClosest_19 : decode bCL_heldOtherThanClosest 19 = .ok (.aload_n 0, 1) := by decide +kernel
theorem dCL_heldOtherThanClosest_20 : decode bCL_heldOtherThanClosest 20 = .ok (.getfield 67, 3) := by decide +kernel
theorem dCL_heldOtherThanClosest_23 : decode bCL_heldOtherThanClosest 23 = .ok (.getfield 260, 3) := by decide +kernel
theorem dCL_heldOtherThanClosest_26 : decode bCL_heldOtherThanClosest 26 = .ok (.aload_n 0, 1) := by decide +kernel
theorem dCL_heldOtherThanClosest_27 : decode bCL_heldOtherThanClosest 27 = .ok (.getfield 32, 3) := by decide +kernel
theorem dCL_heldOtherThanClosest_30 : decode bCL_heldOtherThanClosest 30 = .ok (.getfield 263, 3) := by decide +kernel
theorem dCL_heldOtherThanClosest_33 : decode bCL_heldOtherThanClosest 33 = .ok (.iload_n 2, 1) := by decide +kernel
theorem dCL_heldOtherThanClosest_34 : decode bCL_heldOtherThanClosest 34 = .ok (.iaload, 1) := by decide +kernel
theorem dCL_heldOtherThanClosest_35 : decode bCL_heldOtherThanClosest 35 = .ok (.iaload, 1) := by decide +kernel
theorem dCL_heldOtherThanClosest_36 : decode bCL_heldOtherThanClosest 36 = .ok (.if_icmp .eq 6, 3) := by decide +kernel
theorem dCL_heldOtherThanClosest_39 : decode bCL_heldOtherThanClosest 39 = .ok (.iinc 1 1, 3) := by decide +kernel
theorem dCL_heldOtherThanClosest_42 : decode bCL_heldOtherThanClosest 42 = .ok (.iinc 2 1, 3) := by decide +kernel
theorem dCL_heldOtherThanClosest_45 : decode bCL_heldOtherThanClosest 45 = .ok (.goto (-41), 3) := by decide +kernel
theorem dCL_heldOtherThanClosest_48 : decode bCL_heldOtherThanClosest 48 = .ok (.iload_n 1, 1) := by decide +kernel
theorem dCL_heldOtherThanClosest_49 : decode bCL_heldOtherThanClosest 49 = .ok (.ireturn, 1) := by decide +kernel
theorem dLw_count_0 : decode bLw_count 0 = .ok (.aload_n 2, 1) := by decide +kernel
theorem dLw_count_1 : decode bLw_count 1 = .ok (.iconst 0, 1) := by decide +kernel
theorem dLw_count_2 : decode bLw_count 2 = .ok (.aload_n 0, 1) := by decide +kernel
theorem dLw_count_3 : decode bLw_count 3 = .ok (.iload_n 1, 1) := by decide +kernel
theorem dLw_count_4 : decode bLw_count 4 = .ok (.invokevirtual 52, 3) := by decide +kernel
theorem dLw_count_7 : decode bLw_count 7 = .ok (.i2l, 1) := by decide +kernel
theorem dLw_count_8 : decode bLw_count 8 = .ok (.lastore, 1) := by decide +kernel
theorem dLw_count_9 : decode bLw_count 9 = .ok (.goto 9, 3) := by decide +kernel
theorem dLw_count_12 : decode bLw_count 12 = .ok (.astore_n 3, 1) := by decide +kernel
theorem dLw_count_13 : decode bLw_count 13 = .ok (.iconst 1, 1) := by decide +kernel
theorem dLw_count_14 : decode bLw_count 14 = .ok (.ireturn, 1) := by decide +kernel
theorem dLw_count_15 : decode bLw_count 15 = .ok (.astore_n 3, 1) := by decide +kernel
theorem dLw_count_16 : decode bLw_count 16 = .ok (.iconst 2, 1) := by decide +kernel
theorem dLw_count_17 : decode bLw_count 17 = .ok (.ireturn, 1) := by decide +kernel
theorem dLw_count_18 : decode bLw_count 18 = .ok (.iconst 0, 1) := by decide +kernel
theorem dLw_count_19 : decode bLw_count 19 = .ok (.ireturn, 1) := by decide +kernel
theorem dCL_count_0 : decode bCL_count 0 = .ok (.aload_n 0, 1) := by decide +kernel
theorem dCL_count_1 : decode bCL_count 1 = .ok (.invokevirtual 156, 3) := by decide +kernel
theorem dCL_count_4 : decode bCL_count 4 = .ok (.aload_n 0, 1) := by decide +kernel
theorem dCL_count_5 : decode bCL_count 5 = .ok (.iload_n 1, 1) := by decide +kernel
theorem dCL_count_6 : decode bCL_count 6 = .ok (.invokevirtual 159, 3) := by decide +kernel
theorem dCL_count_9 : decode bCL_count 9 = .ok (.iconst 0, 1) := by decide +kernel
theorem dCL_count_10 : decode bCL_count 10 = .ok (.istore_n 2, 1) := by decide +kernel
theorem dCL_count_11 : decode bCL_count 11 = .ok (.iconst 0, 1) := by decide +kernel
theorem dCL_count_12 : decode bCL_count 12 = .ok (.istore_n 3, 1) := by decide +kernel
theorem dCL_count_13 : decode bCL_count 13 = .ok (.iload_n 3, 1) := by decide +kernel
theorem dCL_count_14 : decode bCL_count 14 = .ok (.aload_n 0, 1) := by decide +kernel
theorem dCL_count_15 : decode bCL_count 15 = .ok (.getfield 24, 3) := by decide +kernel
theorem dCL_count_18 : decode bCL_count 18 = .ok (.arraylength, 1) := by decide +kernel
theorem dCL_count_19 : decode bCL_count 19 = .ok (.if_icmp .ge 22, 3) := by decide +kernel
theorem dCL_count_22 : decode bCL_count 22 = .ok (.aload_n 0, 1) := by decide +kernel
theorem dCL_count_23 : decode bCL_count 23 = .ok (.getfield 24, 3) := by decide +kernel
theorem dCL_count_26 : decode bCL_count 26 = .ok (.iload_n 3, 1) := by decide +kernel
theorem dCL_count_27 : decode bCL_count 27 = .ok (.iaload, 1) := by decide +kernel
theorem dCL_count_28 : decode bCL_count 28 = .ok (.iload_n 1, 1) := by decide +kernel
theorem dCL_count_29 : decode bCL_count 29 = .ok (.if_icmp .ne 6, 3) := by decide +kernel
theorem dCL_count_32 : decode bCL_count 32 = .ok (.iinc 2 1, 3) := by decide +kernel
theorem dCL_count_35 : decode bCL_count 35 = .ok (.iinc 3 1, 3) := by decide +kernel
theorem dCL_count_38 : decode bCL_count 38 = .ok (.goto (-25), 3) := by decide +kernel
theorem dCL_count_41 : decode bCL_count 41 = .ok (.iload_n 2, 1) := by decide +kernel
theorem dCL_count_42 : decode bCL_count 42 = .ok (.ireturn, 1) := by decide +kernel
theorem dLw_exact_0 : decode bLw_exact 0 = .ok (.aload_n 1, 1) := by decide +kernel
theorem dLw_exact_1 : decode bLw_exact 1 = .ok (.iconst 0, 1) := by decide +kernel
theorem dLw_exact_2 : decode bLw_exact 2 = .ok (.aload_n 0, 1) := by decide +kernel
theorem dLw_exact_3 : decode bLw_exact 3 = .ok (.invokevirtual 55, 3) := by decide +kernel
theorem dLw_exact_6 : decode bLw_exact 6 = .ok (.ifCond .eq 7, 3) := by decide +kernel
theorem dLw_exact_9 : decode bLw_exact 9 = .ok (.lconst 1, 1) := by decide +kernel
theorem dLw_exact_10 : decode bLw_exact 10 = .ok (.goto 4, 3) := by decide +kernel
theorem dLw_exact_13 : decode bLw_exact 13 = .ok (.lconst 0, 1) := by decide +kernel
theorem dLw_exact_14 : decode bLw_exact 14 = .ok (.lastore, 1) := by decide +kernel
theorem dLw_exact_15 : decode bLw_exact 15 = .ok (.goto 6, 3) := by decide +kernel
theorem dLw_exact_18 : decode bLw_exact 18 = .ok (.astore_n 2, 1) := by decide +kernel
theorem dLw_exact_19 : decode bLw_exact 19 = .ok (.iconst 1, 1) := by decide +kernel
theorem dLw_exact_20 : decode bLw_exact 20 = .ok (.ireturn, 1) := by decide +kernel
theorem dLw_exact_21 : decode bLw_exact 21 = .ok (.iconst 0, 1) := by decide +kernel
theorem dLw_exact_22 : decode bLw_exact 22 = .ok (.ireturn, 1) := by decide +kernel
theorem dCL_exact_0 : decode bCL_exact 0 = .ok (.aload_n 0, 1) := by decide +kernel
theorem dCL_exact_1 : decode bCL_exact 1 = .ok (.invokevirtual 156, 3) := by decide +kernel
theorem dCL_exact_4 : decode bCL_exact 4 = .ok (.iconst 0, 1) := by decide +kernel
theorem dCL_exact_5 : decode bCL_exact 5 = .ok (.istore_n 1, 1) := by decide +kernel
theorem dCL_exact_6 : decode bCL_exact 6 = .ok (.iload_n 1, 1) := by decide +kernel
theorem dCL_exact_7 : decode bCL_exact 7 = .ok (.aload_n 0, 1) := by decide +kernel
theorem dCL_exact_8 : decode bCL_exact 8 = .ok (.getfield 20, 3) := by decide +kernel
theorem dCL_exact_11 : decode bCL_exact 11 = .ok (.arraylength, 1) := by decide +kernel
theorem dCL_exact_12 : decode bCL_exact 12 = .ok (.if_icmp .ge 33, 3) := by decide +kernel
theorem dCL_exact_15 : decode bCL_exact 15 = .ok (.aload_n 0, 1) := by decide +kernel
theorem dCL_exact_16 : decode bCL_exact 16 = .ok (.getfield 20, 3) := by decide +kernel
theorem dCL_exact_19 : decode bCL_exact 19 = .ok (.iload_n 1, 1) := by decide +kernel
theorem dCL_exact_20 : decode bCL_exact 20 = .ok (.iaload, 1) := by decide +kernel
theorem dCL_exact_21 : decode bCL_exact 21 = .ok (.aload_n 0, 1) := by decide +kernel
theorem dCL_exact_22 : decode bCL_exact 22 = .ok (.getfield 60, 3) := by decide +kernel
theorem dCL_exact_25 : decode bCL_exact 25 = .ok (.aload_n 0, 1) := by decide +kernel
theorem dCL_exact_26 : decode bCL_exact 26 = .ok (.getfield 24, 3) := by decide +kernel
theorem dCL_exact_29 : decode bCL_exact 29 = .ok (.iload_n 1, 1) := by decide +kernel
theorem dCL_exact_30 : decode bCL_exact 30 = .ok (.iaload, 1) := by decide +kernel
theorem dCL_exact_31 : decode bCL_exact 31 = .ok (.invokevirtual 189, 3) := by decide +kernel
theorem dCL_exact_34 : decode bCL_exact 34 = .ok (.if_icmp .eq 5, 3) := by decide +kernel
theorem dCL_exact_37 : decode bCL_exact 37 = .ok (.iconst 0, 1) := by decide +kernel
theorem dCL_exact_38 : decode bCL_exact 38 = .ok (.ireturn, 1) := by decide +kernel
theorem dCL_exact_39 : decode bCL_exact 39 = .ok (.iinc 1 1, 3) := by decide +kernel
theorem dCL_exact_42 : decode bCL_exact 42 = .ok (.goto (-36), 3) := by decide +kernel
theorem dCL_exact_45 : decode bCL_exact 45 = .ok (.iconst 1, 1) := by decide +kernel
theorem dCL_exact_46 : decode bCL_exact 46 = .ok (.ireturn, 1) := by decide +kernel
theorem dMd_init_0 : decode bMd_init 0 = .ok (.aload_n 0, 1) := by decide +kernel
theorem dMd_init_1 : decode bMd_init 1 = .ok (.invokespecial 1, 3) := by decide +kernel
theorem dMd_init_4 : decode bMd_init 4 = .ok (.aload_n 0, 1) := by decide +kernel
theorem dMd_init_5 : decode bMd_init 5 = .ok (.sipush 2304, 3) := by decide +kernel
theorem dMd_init_8 : decode bMd_init 8 = .ok (.newarray .int, 2) := by decide +kernel
theorem dMd_init_10 : decode bMd_init 10 = .ok (.putfield 7, 3) := by decide +kernel
theorem dMd_init_13 : decode bMd_init 13 = .ok (.aload_n 0, 1) := by decide +kernel
theorem dMd_init_14 : decode bMd_init 14 = .ok (.bipush 64, 2) := by decide +kernel
theorem dMd_init_16 : decode bMd_init 16 = .ok (.newarray .boolean, 2) := by decide +kernel
theorem dMd_init_18 : decode bMd_init 18 = .ok (.putfield 13, 3) := by decide +kernel
theorem dMd_init_21 : decode bMd_init 21 = .ok (.aload_n 0, 1) := by decide +kernel
theorem dMd_init_22 : decode bMd_init 22 = .ok (.sipush 256, 3) := by decide +kernel
theorem dMd_init_25 : decode bMd_init 25 = .ok (.newarray .int, 2) := by decide +kernel
theorem dMd_init_27 : decode bMd_init 27 = .ok (.putfield 17, 3) := by decide +kernel
theorem dMd_init_30 : decode bMd_init 30 = .ok (.aload_n 0, 1) := by decide +kernel
theorem dMd_init_31 : decode bMd_init 31 = .ok (.sipush 2304, 3) := by decide +kernel
theorem dMd_init_34 : decode bMd_init 34 = .ok (.newarray .int, 2) := by decide +kernel
theorem dMd_init_36 : decode bMd_init 36 = .ok (.putfield 20, 3) := by decide +kernel
theorem dMd_init_39 : decode bMd_init 39 = .ok (.aload_n 0, 1) := by decide +kernel
theorem dMd_init_40 : decode bMd_init 40 = .ok (.sipush 576, 3) := by decide +kernel
theorem dMd_init_43 : decode bMd_init 43 = .ok (.newarray .int, 2) := by decide +kernel
theorem dMd_init_45 : decode bMd_init 45 = .ok (.putfield 23, 3) := by decide +kernel
theorem dMd_init_48 : decode bMd_init 48 = .ok (.aload_n 0, 1) := by decide +kernel
theorem dMd_init_49 : decode bMd_init 49 = .ok (.sipush 576, 3) := by decide +kernel
theorem dMd_init_52 : decode bMd_init 52 = .ok (.newarray .int, 2) := by decide +kernel
theorem dMd_init_54 : decode bMd_init 54 = .ok (.putfield 26, 3) := by decide +kernel
theorem dMd_init_57 : decode bMd_init 57 = .ok (.aload_n 0, 1) := by decide +kernel
theorem dMd_init_58 : decode bMd_init 58 = .ok (.sipush 576, 3) := by decide +kernel
theorem dMd_init_61 : decode bMd_init 61 = .ok (.newarray .int, 2) := by decide +kernel
theorem dMd_init_63 : decode bMd_init 63 = .ok (.putfield 29, 3) := by decide +kernel
theorem dMd_init_66 : decode bMd_init 66 = .ok (.aload_n 0, 1) := by decide +kernel
theorem dMd_init_67 : decode bMd_init 67 = .ok (.bipush 64, 2) := by decide +kernel
theorem dMd_init_69 : decode bMd_init 69 = .ok (.newarray .int, 2) := by decide +kernel
theorem dMd_init_71 : decode bMd_init 71 = .ok (.putfield 32, 3) := by decide +kernel
theorem dMd_init_74 : decode bMd_init 74 = .ok (.aload_n 0, 1) := by decide +kernel
theorem dMd_init_75 : decode bMd_init 75 = .ok (.bipush 64, 2) := by decide +kernel
theorem dMd_init_77 : decode bMd_init 77 = .ok (.newarray .int, 2) := by decide +kernel
theorem dMd_init_79 : decode bMd_init 79 = .ok (.putfield 35, 3) := by decide +kernel
theorem dMd_init_82 : decode bMd_init 82 = .ok (.aload_n 0, 1) := by decide +kernel
theorem dMd_init_83 : decode bMd_init 83 = .ok (.bipush 64, 2) := by decide +kernel
theorem dMd_init_85 : decode bMd_init 85 = .ok (.newarray .int, 2) := by decide +kernel
theorem dMd_init_87 : decode bMd_init 87 = .ok (.putfield 38, 3) := by decide +kernel
theorem dMd_init_90 : decode bMd_init 90 = .ok (.aload_n 0, 1) := by decide +kernel
theorem dMd_init_91 : decode bMd_init 91 = .ok (.sipush 576, 3) := by decide +kernel
theorem dMd_init_94 : decode bMd_init 94 = .ok (.newarray .boolean, 2) := by decide +kernel
theorem dMd_init_96 : decode bMd_init 96 = .ok (.putfield 41, 3) := by decide +kernel
theorem dMd_init_99 : decode bMd_init 99 = .ok (.aload_n 0, 1) := by decide +kernel
theorem dMd_init_100 : decode bMd_init 100 = .ok (.sipush 576, 3) := by decide +kernel
theorem dMd_init_103 : decode bMd_init 103 = .ok (.newarray .long, 2) := by decide +kernel
theorem dMd_init_105 : decode bMd_init 105 = .ok (.putfield 44, 3) := by decide +kernel
theorem dMd_init_108 : decode bMd_init 108 = .ok (.aload_n 0, 1) := by decide +kernel
theorem dMd_init_109 : decode bMd_init 109 = .ok (.sipush 2304, 3) := by decide +kernel
theorem dMd_init_112 : decode bMd_init 112 = .ok (.newarray .int, 2) := by decide +kernel
theorem dMd_init_114 : decode bMd_init 114 = .ok (.putfield 48, 3) := by decide +kernel
theorem dMd_init_117 : decode bMd_init 117 = .ok (.aload_n 0, 1) := by decide +kernel
theorem dMd_init_118 : decode bMd_init 118 = .ok (.iconst 4, 1) := by decide +kernel
theorem dMd_init_119 : decode bMd_init 119 = .ok (.newarray .long, 2) := by decide +kernel
theorem dMd_init_121 : decode bMd_init 121 = .ok (.putfield 51, 3) := by decide +kernel
theorem dMd_init_124 : decode bMd_init 124 = .ok (.aload_n 0, 1) := by decide +kernel
theorem dMd_init_125 : decode bMd_init 125 = .ok (.sipush 256, 3) := by decide +kernel
theorem dMd_init_128 : decode bMd_init 128 = .ok (.newarray .int, 2) := by decide +kernel
theorem dMd_init_130 : decode bMd_init 130 = .ok (.putfield 54, 3) := by decide +kernel
theorem dMd_init_133 : decode bMd_init 133 = .ok (.aload_n 0, 1) := by decide +kernel
theorem dMd_init_134 : decode bMd_init 134 = .ok (.sipush 576, 3) := by decide +kernel
theorem dMd_init_137 : decode bMd_init 137 = .ok (.newarray .int, 2) := by decide +kernel
theorem dMd_init_139 : decode bMd_init 139 = .ok (.putfield 57, 3) := by decide +kernel
theorem dMd_init_142 : decode bMd_init 142 = .ok (.aload_n 0, 1) := by decide +kernel
theorem dMd_init_143 : decode bMd_init 143 = .ok (.bipush 64, 2) := by decide +kernel
theorem dMd_init_145 : decode bMd_init 145 = .ok (.newarray .int, 2) := by decide +kernel
theorem dMd_init_147 : decode bMd_init 147 = .ok (.putfield 60, 3) := by decide +kernel
theorem dMd_init_150 : decode bMd_init 150 = .ok (.aload_n 0, 1) := by decide +kernel
theorem dMd_init_151 : decode bMd_init 151 = .ok (.sipush 256, 3) := by decide +kernel
theorem dMd_init_154 : decode bMd_init 154 = .ok (.newarray .long, 2) := by decide +kernel
theorem dMd_init_156 : decode bMd_init 156 = .ok (.putfield 63, 3) := by decide +kernel
theorem dMd_init_159 : decode bMd_init 159 = .ok (.aload_n 0, 1) := by decide +kernel
theorem dMd_init_160 : decode bMd_init 160 = .ok (.bipush 64, 2) := by decide +kernel
theorem dMd_init_162 : decode bMd_init 162 = .ok (.newarray .int, 2) := by decide +kernel
theorem dMd_init_164 : decode bMd_init 164 = .ok (.putfield 66, 3) := by decide +kernel
theorem dMd_init_167 : decode bMd_init 167 = .ok (.aload_n 0, 1) := by decide +kernel
theorem dMd_init_168 : decode bMd_init 168 = .ok (.sipush 256, 3) := by decide +kernel
theorem dMd_init_171 : decode bMd_init 171 = .ok (.newarray .int, 2) := by decide +kernel
theorem dMd_init_173 : decode bMd_init 173 = .ok (.putfield 69, 3) := by decide +kernel
theorem dMd_init_176 : decode bMd_init 176 = .ok (.aload_n 0, 1) := by decide +kernel
theorem dMd_init_177 : decode bMd_init 177 = .ok (.bipush 21, 2) := by decide +kernel
theorem dMd_init_179 : decode bMd_init 179 = .ok (.newarray .long, 2) := by decide +kernel
theorem dMd_init_181 : decode bMd_init 181 = .ok (.putfield 72, 3) := by decide +kernel
theorem dMd_init_184 : decode bMd_init 184 = .ok (.aload_n 0, 1) := by decide +kernel
theorem dMd_init_185 : decode bMd_init 185 = .ok (.sipush 2304, 3) := by decide +kernel
theorem dMd_init_188 : decode bMd_init 188 = .ok (.newarray .int, 2) := by decide +kernel
theorem dMd_init_190 : decode bMd_init 190 = .ok (.putfield 75, 3) := by decide +kernel
theorem dMd_init_193 : decode bMd_init 193 = .ok (.aload_n 0, 1) := by decide +kernel
theorem dMd_init_194 : decode bMd_init 194 = .ok (.iload_n 1, 1) := by decide +kernel
theorem dMd_init_195 : decode bMd_init 195 = .ok (.iconst 1, 1) := by decide +kernel
theorem dMd_init_196 : decode bMd_init 196 = .ok (.if_icmp .ge 7, 3) := by decide +kernel
theorem dMd_init_199 : decode bMd_init 199 = .ok (.iconst 1, 1) := by decide +kernel
theorem dMd_init_200 : decode bMd_init 200 = .ok (.goto 15, 3) := by decide +kernel
theorem dMd_init_203 : decode bMd_init 203 = .ok (.iload_n 1, 1) := by decide +kernel
theorem dMd_init_204 : decode bMd_init 204 = .ok (.bipush 24, 2) := by decide +kernel
theorem dMd_init_206 : decode bMd_init 206 = .ok (.if_icmp .le 8, 3) := by decide +kernel
theorem dMd_init_209 : decode bMd_init 209 = .ok (.bipush 24, 2) := by decide +kernel
theorem dMd_init_211 : decode bMd_init 211 = .ok (.goto 4, 3) := by decide +kernel
theorem dMd_init_214 : decode bMd_init 214 = .ok (.iload_n 1, 1) := by decide +kernel
theorem dMd_init_215 : decode bMd_init 215 = .ok (.putfield 78, 3) := by decide +kernel
theorem dMd_init_218 : decode bMd_init 218 = .ok (.aload_n 0, 1) := by decide +kernel
theorem dMd_init_219 : decode bMd_init 219 = .ok (.iload_n 2, 1) := by decide +kernel
theorem dMd_init_220 : decode bMd_init 220 = .ok (.iconst 1, 1) := by decide +kernel
theorem dMd_init_221 : decode bMd_init 221 = .ok (.if_icmp .ge 7, 3) := by decide +kernel
theorem dMd_init_224 : decode bMd_init 224 = .ok (.iconst 1, 1) := by decide +kernel
theorem dMd_init_225 : decode bMd_init 225 = .ok (.goto 15, 3) := by decide +kernel
theorem dMd_init_228 : decode bMd_init 228 = .ok (.iload_n 2, 1) := by decide +kernel
theorem dMd_init_229 : decode bMd_init 229 = .ok (.bipush 24, 2) := by decide +kernel
theorem dMd_init_231 : decode bMd_init 231 = .ok (.if_icmp .le 8, 3) := by decide +kernel
theorem dMd_init_234 : decode bMd_init 234 = .ok (.bipush 24, 2) := by decide +kernel
theorem dMd_init_236 : decode bMd_init 236 = .ok (.goto 4, 3) := by decide +kernel
theorem dMd_init_239 : decode bMd_init 239 = .ok (.iload_n 2, 1) := by decide +kernel
theorem dMd_init_240 : decode bMd_init 240 = .ok (.putfield 82, 3) := by decide +kernel
theorem dMd_init_243 : decode bMd_init 243 = .ok (.return_, 1) := by decide +kernel
theorem dMd_thrown_0 : decode bMd_thrown 0 = .ok (.aload_n 0, 1) := by decide +kernel
theorem dMd_thrown_1 : decode bMd_thrown 1 = .ok (.getfield 85, 3) := by decide +kernel
theorem dMd_thrown_4 : decode bMd_thrown 4 = .ok (.ireturn, 1) := by decide +kernel
theorem dMd_put_0 : decode bMd_put 0 = .ok (.aload_n 0, 1) := by decide +kernel
theorem dMd_put_1 : decode bMd_put 1 = .ok (.aload_n 0, 1) := by decide +kernel
theorem dMd_put_2 : decode bMd_put 2 = .ok (.iload_n 1, 1) := by decide +kernel
theorem dMd_put_3 : decode bMd_put 3 = .ok (.iload_n 2, 1) := by decide +kernel
theorem dMd_put_4 : decode bMd_put 4 = .ok (.invokevirtual 92, 3) := by decide +kernel
theorem dMd_put_7 : decode bMd_put 7 = .ok (.ifCond .ne 7, 3) := by decide +kernel
theorem dMd_put_10 : decode bMd_put 10 = .ok (.iconst 1, 1) := by decide +kernel
theorem dMd_put_11 : decode bMd_put 11 = .ok (.goto 21, 3) := by decide +kernel
theorem dMd_put_14 : decode bMd_put 14 = .ok (.iload_n 3, 1) := by decide +kernel
theorem dMd_put_15 : decode bMd_put 15 = .ok (.iload 4, 2) := by decide +kernel
theorem dMd_put_17 : decode bMd_put 17 = .ok (.iload 5, 2) := by decide +kernel
theorem dMd_put_19 : decode bMd_put 19 = .ok (.iload 6, 2) := by decide +kernel
theorem dMd_put_21 : decode bMd_put 21 = .ok (.invokestatic 96, 3) := by decide +kernel
theorem dMd_put_24 : decode bMd_put 24 = .ok (.ifCond .eq 7, 3) := by decide +kernel
theorem dMd_put_27 : decode bMd_put 27 = .ok (.iconst 0, 1) := by decide +kernel
theorem dMd_put_28 : decode bMd_put 28 = .ok (.goto 4, 3) := by decide +kernel
theorem dMd_put_31 : decode bMd_put 31 = .ok (.iconst 2, 1) := by decide +kernel
theorem dMd_put_32 : decode bMd_put 32 = .ok (.putfield 85, 3) := by decide +kernel
theorem dMd_put_35 : decode bMd_put 35 = .ok (.aload_n 0, 1) := by decide +kernel
theorem dMd_put_36 : decode bMd_put 36 = .ok (.getfield 85, 3) := by decide +kernel
theorem dMd_put_39 : decode bMd_put 39 = .ok (.ifCond .le 5, 3) := by decide +kernel
theorem dMd_put_42 : decode bMd_put 42 = .ok (.iconst 0, 1) := by decide +kernel
theorem dMd_put_43 : decode bMd_put 43 = .ok (.ireturn, 1) := by decide +kernel
theorem dMd_put_44 : decode bMd_put 44 = .ok (.iconst 4, 1) := by decide +kernel
theorem dMd_put_45 : decode bMd_put 45 = .ok (.aload_n 0, 1) := by decide +kernel
theorem dMd_put_46 : decode bMd_put 46 = .ok (.getfield 78, 3) := by decide +kernel
theorem dMd_put_49 : decode bMd_put 49 = .ok (.iload_n 2, 1) := by decide +kernel
theorem dMd_put_50 : decode bMd_put 50 = .ok (.imul, 1) := by decide +kernel
theorem dMd_put_51 : decode bMd_put 51 = .ok (.iload_n 1, 1) := by decide +kernel
theorem dMd_put_52 : decode bMd_put 52 = .ok (.iadd, 1) := by decide +kernel
theorem dMd_put_53 : decode bMd_put 53 = .ok (.imul, 1) := by decide +kernel
theorem dMd_put_54 : decode bMd_put 54 = .ok (.istore 7, 2) := by decide +kernel
theorem dMd_put_56 : decode bMd_put 56 = .ok (.aload_n 0, 1) := by decide +kernel
theorem dMd_put_57 : decode bMd_put 57 = .ok (.getfield 7, 3) := by decide +kernel
theorem dMd_put_60 : decode bMd_put 60 = .ok (.iload 7, 2) := by decide +kernel
theorem dMd_put_62 : decode bMd_put 62 = .ok (.iaload, 1) := by decide +kernel
theorem dMd_put_63 : decode bMd_put 63 = .ok (.iload_n 3, 1) := by decide +kernel
theorem dMd_put_64 : decode bMd_put 64 = .ok (.if_icmp .ne 45, 3) := by decide +kernel
theorem dMd_put_67 : decode bMd_put 67 = .ok (.aload_n 0, 1) := by decide +kernel
theorem dMd_put_68 : decode bMd_put 68 = .ok (.getfield 7, 3) := by decide +kernel
theorem dMd_put_71 : decode bMd_put 71 = .ok (.iload 7, 2) := by decide +kernel
theorem dMd_put_73 : decode bMd_put 73 = .ok (.iconst 1, 1) := by decide +kernel
theorem dMd_put_74 : decode bMd_put 74 = .ok (.iadd, 1) := by decide +kernel
theorem dMd_put_75 : decode bMd_put 75 = .ok (.iaload, 1) := by decide +kernel
theorem dMd_put_76 : decode bMd_put 76 = .ok (.iload 4, 2) := by decide +kernel
theorem dMd_put_78 : decode bMd_put 78 = .ok (.if_icmp .ne 31, 3) := by decide +kernel
theorem dMd_put_81 : decode bMd_put 81 = .ok (.aload_n 0, 1) := by decide +kernel
theorem dMd_put_82 : decode bMd_put 82 = .ok (.getfield 7, 3) := by decide +kernel
theorem dMd_put_85 : decode bMd_put 85 = .ok (.iload 7, 2) := by decide +kernel
theorem dMd_put_87 : decode bMd_put 87 = .ok (.iconst 2, 1) := by decide +kernel
theorem dMd_put_88 : decode bMd_put 88 = .ok (.iadd, 1) := by decide +kernel
theorem dMd_put_89 : decode bMd_put 89 = .ok (.iaload, 1) := by decide +kernel
theorem dMd_put_90 : decode bMd_put 90 = .ok (.iload 5, 2) := by decide +kernel
theorem dMd_put_92 : decode bMd_put 92 = .ok (.if_icmp .ne 17, 3) := by decide +kernel
theorem dMd_put_95 : decode bMd_put 95 = .ok (.aload_n 0, 1) := by decide +kernel
theorem dMd_put_96 : decode bMd_put 96 = .ok (.getfield 7, 3) := by decide +kernel
theorem dMd_put_99 : decode bMd_put 99 = .ok (.iload 7, 2) := by decide +kernel
theorem dMd_put_101 : decode bMd_put 101 = .ok (.iconst 3, 1) := by decide +kernel
theorem dMd_put_102 : decode bMd_put 102 = .ok (.iadd, 1) := by decide +kernel
theorem dMd_put_103 : decode bMd_put 103 = .ok (.iaload, 1) := by decide +kernel
theorem dMd_put_104 : decode bMd_put 104 = .ok (.iload 6, 2) := by decide +kernel
theorem dMd_put_106 : decode bMd_put 106 = .ok (.if_icmp .eq 7, 3) := by decide +kernel
theorem dMd_put_109 : decode bMd_put 109 = .ok (.iconst 1, 1) := by decide +kernel
theorem dMd_put_110 : decode bMd_put 110 = .ok (.goto 4, 3) := by decide +kernel
theorem dMd_put_113 : decode bMd_put 113 = .ok (.iconst 0, 1) := by decide +kernel
theorem dMd_put_114 : decode bMd_put 114 = .ok (.istore 8, 2) := by decide +kernel
theorem dMd_put_116 : decode bMd_put 116 = .ok (.aload_n 0, 1) := by decide +kernel
theorem dMd_put_117 : decode bMd_put 117 = .ok (.getfield 7, 3) := by decide +kernel
theorem dMd_put_120 : decode bMd_put 120 = .ok (.iload 7, 2) := by decide +kernel
theorem dMd_put_122 : decode bMd_put 122 = .ok (.iload_n 3, 1) := by decide +kernel
theorem dMd_put_123 : decode bMd_put 123 = .ok (.iastore, 1) := by decide +kernel
theorem dMd_put_124 : decode bMd_put 124 = .ok (.aload_n 0, 1) := by decide +kernel
theorem dMd_put_125 : decode bMd_put 125 = .ok (.getfield 7, 3) := by decide +kernel
theorem dMd_put_128 : decode bMd_put 128 = .ok (.iload 7, 2) := by decide +kernel
theorem dMd_put_130 : decode bMd_put 130 = .ok (.iconst 1, 1) := by decide +kernel
theorem dMd_put_131 : decode bMd_put 131 = .ok (.iadd, 1) := by decide +kernel
theorem dMd_put_132 : decode bMd_put 132 = .ok (.iload 4, 2) := by decide +kernel
theorem dMd_put_134 : decode bMd_put 134 = .ok (.iastore, 1) := by decide +kernel
theorem dMd_put_135 : decode bMd_put 135 = .ok (.aload_n 0, 1) := by decide +kernel
theorem dMd_put_136 : decode bMd_put 136 = .ok (.getfield 7, 3) := by decide +kernel
theorem dMd_put_139 : decode bMd_put 139 = .ok (.iload 7, 2) := by decide +kernel
theorem dMd_put_141 : decode bMd_put 141 = .ok (.iconst 2, 1) := by decide +kernel
theorem dMd_put_142 : decode bMd_put 142 = .ok (.iadd, 1) := by decide +kernel
theorem dMd_put_143 : decode bMd_put 143 = .ok (.iload 5, 2) := by decide +kernel
theorem dMd_put_145 : decode bMd_put 145 = .ok (.iastore, 1) := by decide +kernel
theorem dMd_put_146 : decode bMd_put 146 = .ok (.aload_n 0, 1) := by decide +kernel
theorem dMd_put_147 : decode bMd_put 147 = .ok (.getfield 7, 3) := by decide +kernel
theorem dMd_put_150 : decode bMd_put 150 = .ok (.iload 7, 2) := by decide +kernel
theorem dMd_put_152 : decode bMd_put 152 = .ok (.iconst 3, 1) := by decide +kernel
theorem dMd_put_153 : decode bMd_put 153 = .ok (.iadd, 1) := by decide +kernel
theorem dMd_put_154 : decode bMd_put 154 = .ok (.iload 6, 2) := by decide +kernel
theorem dMd_put_156 : decode bMd_put 156 = .ok (.iastore, 1) := by decide +kernel
theorem dMd_put_157 : decode bMd_put 157 = .ok (.aload_n 0, 1) := by decide +kernel
theorem dMd_put_158 : decode bMd_put 158 = .ok (.iconst 0, 1) := by decide +kernel
theorem dMd_put_159 : decode bMd_put 159 = .ok (.putfield 100, 3) := by decide +kernel
theorem dMd_put_162 : decode bMd_put 162 = .ok (.iload 8, 2) := by decide +kernel
theorem dMd_put_164 : decode bMd_put 164 = .ok (.ireturn, 1) := by decide +kernel
theorem dMd_isPlace_0 : decode bMd_isPlace 0 = .ok (.iload_n 1, 1) := by decide +kernel
theorem dMd_isPlace_1 : decode bMd_isPlace 1 = .ok (.ifCond .lt 27, 3) := by decide +kernel
theorem dMd_isPlace_4 : decode bMd_isPlace 4 = .ok (.iload_n 1, 1) := by decide +kernel
theorem dMd_isPlace_5 : decode bMd_isPlace 5 = .ok (.aload_n 0, 1) := by decide +kernel
theorem dMd_isPlace_6 : decode bMd_isPlace 6 = .ok (.getfield 78, 3) := by decide +kernel
theorem dMd_isPlace_9 : decode bMd_isPlace 9 = .ok (.if_icmp .ge 19, 3) := by decide +kernel
theorem dMd_isPlace_12 : decode bMd_isPlace 12 = .ok (.iload_n 2, 1) := by decide +kernel
theorem dMd_isPlace_13 : decode bMd_isPlace 13 = .ok (.ifCond .lt 15, 3) := by decide +kernel
theorem dMd_isPlace_16 : decode bMd_isPlace 16 = .ok (.iload_n 2, 1) := by decide +kernel
theorem dMd_isPlace_17 : decode bMd_isPlace 17 = .ok (.aload_n 0, 1) := by decide +kernel
theorem dMd_isPlace_18 : decode bMd_isPlace 18 = .ok (.getfield 82, 3) := by decide +kernel
theorem dMd_isPlace_21 : decode bMd_isPlace 21 = .ok (.if_icmp .ge 7, 3) := by decide +kernel
theorem dMd_isPlace_24 : decode bMd_isPlace 24 = .ok (.iconst 1, 1) := by decide +kernel
theorem dMd_isPlace_25 : decode bMd_isPlace 25 = .ok (.goto 4, 3) := by decide +kernel
theorem dMd_isPlace_28 : decode bMd_isPlace 28 = .ok (.iconst 0, 1) := by decide +kernel
theorem dMd_isPlace_29 : decode bMd_isPlace 29 = .ok (.ireturn, 1) := by decide +kernel
theorem dMd_areChannels_0 : decode bMd_areChannels 0 = .ok (.iload_n 0, 1) := by decide +kernel
theorem dMd_areChannels_1 : decode bMd_areChannels 1 = .ok (.invokestatic 88, 3) := by decide +kernel
theorem dMd_areChannels_4 : decode bMd_areChannels 4 = .ok (.ifCond .eq 28, 3) := by decide +kernel
theorem dMd_areChannels_7 : decode bMd_areChannels 7 = .ok (.iload_n 1, 1) := by decide +kernel
theorem dMd_areChannels_8 : decode bMd_areChannels 8 = .ok (.invokestatic 88, 3) := by decide +kernel
theorem dMd_areChannels_11 : decode bMd_areChannels 11 = .ok (.ifCond .eq 21, 3) := by decide +kernel
theorem dMd_areChannels_14 : decode bMd_areChannels 14 = .ok (.iload_n 2, 1) := by decide +kernel
theorem dMd_areChannels_15 : decode bMd_areChannels 15 = .ok (.invokestatic 88, 3) := by decide +kernel
theorem dMd_areChannels_18 : decode bMd_areChannels 18 = .ok (.ifCond .eq 14, 3) := by decide +kernel
theorem dMd_areChannels_21 : decode bMd_areChannels 21 = .ok (.iload_n 3, 1) := by decide +kernel
theorem dMd_areChannels_22 : decode bMd_areChannels 22 = .ok (.invokestatic 88, 3) := by decide +kernel
theorem dMd_areChannels_25 : decode bMd_areChannels 25 = .ok (.ifCond .eq 7, 3) := by decide +kernel
theorem dMd_areChannels_28 : decode bMd_areChannels 28 = .ok (.iconst 1, 1) := by decide +kernel
theorem dMd_areChannels_29 : decode bMd_areChannels 29 = .ok (.goto 4, 3) := by decide +kernel
theorem dMd_areChannels_32 : decode bMd_areChannels 32 = .ok (.iconst 0, 1) := by decide +kernel
theorem dMd_areChannels_33 : decode bMd_areChannels 33 = .ok (.ireturn, 1) := by decide +kernel
theorem dMd_isChannel_0 : decode bMd_isChannel 0 = .ok (.iload_n 0, 1) := by decide +kernel
theorem dMd_isChannel_1 : decode bMd_isChannel 1 = .ok (.ifCond .lt 14, 3) := by decide +kernel
theorem dMd_isChannel_4 : decode bMd_isChannel 4 = .ok (.iload_n 0, 1) := by decide +kernel
theorem dMd_isChannel_5 : decode bMd_isChannel 5 = .ok (.sipush 255, 3) := by decide +kernel
theorem dMd_isChannel_8 : decode bMd_isChannel 8 = .ok (.if_icmp .gt 7, 3) := by decide +kernel
theorem dMd_isChannel_11 : decode bMd_isChannel 11 = .ok (.iconst 1, 1) := by decide +kernel
theorem dMd_isChannel_12 : decode bMd_isChannel 12 = .ok (.goto 4, 3) := by decide +kernel
theorem dMd_isChannel_15 : decode bMd_isChannel 15 = .ok (.iconst 0, 1) := by decide +kernel
theorem dMd_isChannel_16 : decode bMd_isChannel 16 = .ok (.ireturn, 1) := by decide +kernel
theorem dMd_paint_0 : decode bMd_paint 0 = .ok (.aload_n 0, 1) := by decide +kernel
theorem dMd_paint_1 : decode bMd_paint 1 = .ok (.aload_n 0, 1) := by decide +kernel
theorem dMd_paint_2 : decode bMd_paint 2 = .ok (.iload_n 1, 1) := by decide +kernel
theorem dMd_paint_3 : decode bMd_paint 3 = .ok (.iload_n 2, 1) := by decide +kernel
theorem dMd_paint_4 : decode bMd_paint 4 = .ok (.invokevirtual 92, 3) := by decide +kernel
theorem dMd_paint_7 : decode bMd_paint 7 = .ok (.ifCond .ne 7, 3) := by decide +kernel
theorem dMd_paint_10 : decode bMd_paint 10 = .ok (.iconst 1, 1) := by decide +kernel
theorem dMd_paint_11 : decode bMd_paint 11 = .ok (.goto 12, 3) := by decide +kernel
theorem dMd_paint_14 : decode bMd_paint 14 = .ok (.iload_n 3, 1) := by decide +kernel
theorem dMd_paint_15 : decode bMd_paint 15 = .ok (.ifCond .ge 7, 3) := by decide +kernel
theorem dMd_paint_18 : decode bMd_paint 18 = .ok (.iconst 2, 1) := by decide +kernel
theorem dMd_paint_19 : decode bMd_paint 19 = .ok (.goto 4, 3) := by decide +kernel
theorem dMd_paint_22 : decode bMd_paint 22 = .ok (.iconst 0, 1) := by decide +kernel
theorem dMd_paint_23 : decode bMd_paint 23 = .ok (.putfield 85, 3) := by decide +kernel
theorem dMd_paint_26 : decode bMd_paint 26 = .ok (.aload_n 0, 1) := by decide +kernel
theorem dMd_paint_27 : decode bMd_paint 27 = .ok (.getfield 85, 3) := by decide +kernel
theorem dMd_paint_30 : decode bMd_paint 30 = .ok (.ifCond .le 5, 3) := by decide +kernel
theorem dMd_paint_33 : decode bMd_paint 33 = .ok (.iconst 0, 1) := by decide +kernel
theorem dMd_paint_34 : decode bMd_paint 34 = .ok (.ireturn, 1) := by decide +kernel
theorem dMd_paint_35 : decode bMd_paint 35 = .ok (.aload_n 0, 1) := by decide +kernel
theorem dMd_paint_36 : decode bMd_paint 36 = .ok (.getfield 78, 3) := by decide +kernel
theorem dMd_paint_39 : decode bMd_paint 39 = .ok (.iload_n 2, 1) := by decide +kernel
theorem dMd_paint_40 : decode bMd_paint 40 = .ok (.imul, 1) := by decide +kernel
theorem dMd_paint_41 : decode bMd_paint 41 = .ok (.iload_n 1, 1) := by decide +kernel
theorem dMd_paint_42 : decode bMd_paint 42 = .ok (.iadd, 1) := by decide +kernel
theorem dMd_paint_43 : decode bMd_paint 43 = .ok (.istore 6, 2) := by decide +kernel
theorem dMd_paint_45 : decode bMd_paint 45 = .ok (.aload_n 0, 1) := by decide +kernel
theorem dMd_paint_46 : decode bMd_paint 46 = .ok (.getfield 78, 3) := by decide +kernel
theorem dMd_paint_49 : decode bMd_paint 49 = .ok (.aload_n 0, 1) := by decide +kernel
theorem dMd_paint_50 : decode bMd_paint 50 = .ok (.getfield 82, 3) := by decide +kernel
theorem dMd_paint_53 : decode bMd_paint 53 = .ok (.imul, 1) := by decide +kernel
theorem dMd_paint_54 : decode bMd_paint 54 = .ok (.iload 6, 2) := by decide +kernel
theorem dMd_paint_56 : decode bMd_paint 56 = .ok (.isub, 1) := by decide +kernel
theorem dMd_paint_57 : decode bMd_paint 57 = .ok (.iload_n 3, 1) := by decide +kernel
theorem dMd_paint_58 : decode bMd_paint 58 = .ok (.if_icmp .ge 18, 3) := by decide +kernel
theorem dMd_paint_61 : decode bMd_paint 61 = .ok (.aload_n 0, 1) := by decide +kernel
theorem dMd_paint_62 : decode bMd_paint 62 = .ok (.getfield 78, 3) := by decide +kernel
theorem dMd_paint_65 : decode bMd_paint 65 = .ok (.aload_n 0, 1) := by decide +kernel
theorem dMd_paint_66 : decode bMd_paint 66 = .ok (.getfield 82, 3) := by decide +kernel
theorem dMd_paint_69 : decode bMd_paint 69 = .ok (.imul, 1) := by decide +kernel
theorem dMd_paint_70 : decode bMd_paint 70 = .ok (.iload 6, 2) := by decide +kernel
theorem dMd_paint_72 : decode bMd_paint 72 = .ok (.isub, 1) := by decide +kernel
theorem dMd_paint_73 : decode bMd_paint 73 = .ok (.goto 4, 3) := by decide +kernel
theorem dMd_paint_76 : decode bMd_paint 76 = .ok (.iload_n 3, 1) := by decide +kernel
theorem dMd_paint_77 : decode bMd_paint 77 = .ok (.istore 7, 2) := by decide +kernel
theorem dMd_paint_79 : decode bMd_paint 79 = .ok (.iconst 0, 1) := by decide +kernel
theorem dMd_paint_80 : decode bMd_paint 80 = .ok (.istore 8, 2) := by decide +kernel
theorem dMd_paint_82 : decode bMd_paint 82 = .ok (.iload 8, 2) := by decide +kernel
theorem dMd_paint_84 : decode bMd_paint 84 = .ok (.iload 7, 2) := by decide +kernel
theorem dMd_paint_86 : decode bMd_paint 86 = .ok (.if_icmp .ge 64, 3) := by decide +kernel
theorem dMd_paint_89 : decode bMd_paint 89 = .ok (.iconst 0, 1) := by decide +kernel
theorem dMd_paint_90 : decode bMd_paint 90 = .ok (.istore 9, 2) := by decide +kernel
theorem dMd_paint_92 : decode bMd_paint 92 = .ok (.iload 9, 2) := by decide +kernel
theorem dMd_paint_94 : decode bMd_paint 94 = .ok (.iconst 4, 1) := by decide +kernel
theorem dMd_paint_95 : decode bMd_paint 95 = .ok (.if_icmp .ge 49, 3) := by decide +kernel
theorem dMd_paint_98 : decode bMd_paint 98 = .ok (.aload_n 0, 1) := by decide +kernel
theorem dMd_paint_99 : decode bMd_paint 99 = .ok (.getfield 7, 3) := by decide +kernel
theorem dMd_paint_102 : decode bMd_paint 102 = .ok (.iconst 4, 1) := by decide +kernel
theorem dMd_paint_103 : decode bMd_paint 103 = .ok (.iload 6, 2) := by decide +kernel
theorem dMd_paint_105 : decode bMd_paint 105 = .ok (.iload 8, 2) := by decide +kernel
theorem dMd_paint_107 : decode bMd_paint 107 = .ok (.iadd, 1) := by decide +kernel
theorem dMd_paint_108 : decode bMd_paint 108 = .ok (.imul, 1) := by decide +kernel
theorem dMd_paint_109 : decode bMd_paint 109 = .ok (.iload 9, 2) := by decide +kernel
theorem dMd_paint_111 : decode bMd_paint 111 = .ok (.iadd, 1) := by decide +kernel
theorem dMd_paint_112 : decode bMd_paint 112 = .ok (.iload 4, 2) := by decide +kernel
theorem dMd_paint_114 : decode bMd_paint 114 = .ok (.bipush 24, 2) := by decide +kernel
theorem dMd_paint_116 : decode bMd_paint 116 = .ok (.bipush 8, 2) := by decide +kernel
theorem dMd_paint_118 : decode bMd_paint 118 = .ok (.iload 9, 2) := by decide +kernel
theorem dMd_paint_120 : decode bMd_paint 120 = .ok (.imul, 1) := by decide +kernel
theorem dMd_paint_121 : decode bMd_paint 121 = .ok (.isub, 1) := by decide +kernel
theorem dMd_paint_122 : decode bMd_paint 122 = .ok (.ishr, 1) := by decide +kernel
theorem dMd_paint_123 : decode bMd_paint 123 = .ok (.sipush 255, 3) := by decide +kernel
theorem dMd_paint_126 : decode bMd_paint 126 = .ok (.iand, 1) := by decide +kernel
theorem dMd_paint_127 : decode bMd_paint 127 = .ok (.iload 5, 2) := by decide +kernel
theorem dMd_paint_129 : decode bMd_paint 129 = .ok (.iload 8, 2) := by decide +kernel
theorem dMd_paint_131 : decode bMd_paint 131 = .ok (.imul, 1) := by decide +kernel
theorem dMd_paint_132 : decode bMd_paint 132 = .ok (.iadd, 1) := by decide +kernel
theorem dMd_paint_133 : decode bMd_paint 133 = .ok (.sipush 255, 3) := by decide +kernel
theorem dMd_paint_136 : decode bMd_paint 136 = .ok (.iand, 1) := by decide +kernel
theorem dMd_paint_137 : decode bMd_paint 137 = .ok (.iastore, 1) := by decide +kernel
theorem dMd_paint_138 : decode bMd_paint 138 = .ok (.iinc 9 1, 3) := by decide +kernel
theorem dMd_paint_141 : decode bMd_paint 141 = .ok (.goto (-49), 3) := by decide +kernel
theorem dMd_paint_144 : decode bMd_paint 144 = .ok (.iinc 8 1, 3) := by decide +kernel
theorem dMd_paint_147 : decode bMd_paint 147 = .ok (.goto (-65), 3) := by decide +kernel
theorem dMd_paint_150 : decode bMd_paint 150 = .ok (.aload_n 0, 1) := by decide +kernel
theorem dMd_paint_151 : decode bMd_paint 151 = .ok (.iconst 0, 1) := by decide +kernel
theorem dMd_paint_152 : decode bMd_paint 152 = .ok (.putfield 100, 3) := by decide +kernel
theorem dMd_paint_155 : decode bMd_paint 155 = .ok (.iload 7, 2) := by decide +kernel
theorem dMd_paint_157 : decode bMd_paint 157 = .ok (.ireturn, 1) := by decide +kernel
theorem dMd_at_0 : decode bMd_at 0 = .ok (.aload_n 0, 1) := by decide +kernel
theorem dMd_at_1 : decode bMd_at 1 = .ok (.aload_n 0, 1) := by decide +kernel
theorem dMd_at_2 : decode bMd_at 2 = .ok (.iload_n 1, 1) := by decide +kernel
theorem dMd_at_3 : decode bMd_at 3 = .ok (.iload_n 2, 1) := by decide +kernel
theorem dMd_at_4 : decode bMd_at 4 = .ok (.invokevirtual 92, 3) := by decide +kernel
theorem dMd_at_7 : decode bMd_at 7 = .ok (.ifCond .eq 7, 3) := by decide +kernel
theorem dMd_at_10 : decode bMd_at 10 = .ok (.iconst 0, 1) := by decide +kernel
theorem dMd_at_11 : decode bMd_at 11 = .ok (.goto 4, 3) := by decide +kernel
theorem dMd_at_14 : decode bMd_at 14 = .ok (.iconst 1, 1) := by decide +kernel
theorem dMd_at_15 : decode bMd_at 15 = .ok (.putfield 85, 3) := by decide +kernel
theorem dMd_at_18 : decode bMd_at 18 = .ok (.iconst 4, 1) := by decide +kernel
theorem dMd_at_19 : decode bMd_at 19 = .ok (.aload_n 0, 1) := by decide +kernel
theorem dMd_at_20 : decode bMd_at 20 = .ok (.getfield 78, 3) := by decide +kernel
theorem dMd_at_23 : decode bMd_at 23 = .ok (.iload_n 2, 1) := by decide +kernel
theorem dMd_at_24 : decode bMd_at 24 = .ok (.imul, 1) := by decide +kernel
theorem dMd_at_25 : decode bMd_at 25 = .ok (.iload_n 1, 1) := by decide +kernel
theorem dMd_at_26 : decode bMd_at 26 = .ok (.iadd, 1) := by decide +kernel
theorem dMd_at_27 : decode bMd_at 27 = .ok (.imul, 1) := by decide +kernel
theorem dMd_at_28 : decode bMd_at 28 = .ok (.istore_n 3, 1) := by decide +kernel
theorem dMd_at_29 : decode bMd_at 29 = .ok (.aload_n 0, 1) := by decide +kernel
theorem dMd_at_30 : decode bMd_at 30 = .ok (.getfield 85, 3) := by decide +kernel
theorem dMd_at_33 : decode bMd_at 33 = .ok (.ifCond .le 7, 3) := by decide +kernel
theorem dMd_at_36 : decode bMd_at 36 = .ok (.iconst 0, 1) := by decide +kernel
theorem dMd_at_37 : decode bMd_at 37 = .ok (.goto 45, 3) := by decide +kernel
theorem dMd_at_40 : decode bMd_at 40 = .ok (.aload_n 0, 1) := by decide +kernel
theorem dMd_at_41 : decode bMd_at 41 = .ok (.getfield 7, 3) := by decide +kernel
theorem dMd_at_44 : decode bMd_at 44 = .ok (.iload_n 3, 1) := by decide +kernel
theorem dMd_at_45 : decode bMd_at 45 = .ok (.iaload, 1) := by decide +kernel
theorem dMd_at_46 : decode bMd_at 46 = .ok (.bipush 24, 2) := by decide +kernel
theorem dMd_at_48 : decode bMd_at 48 = .ok (.ishl, 1) := by decide +kernel
theorem dMd_at_49 : decode bMd_at 49 = .ok (.aload_n 0, 1) := by decide +kernel
theorem dMd_at_50 : decode bMd_at 50 = .ok (.getfield 7, 3) := by decide +kernel
theorem dMd_at_53 : decode bMd_at 53 = .ok (.iload_n 3, 1) := by decide +kernel
theorem dMd_at_54 : decode bMd_at 54 = .ok (.iconst 1, 1) := by decide +kernel
theorem dMd_at_55 : decode bMd_at 55 = .ok (.iadd, 1) := by decide +kernel
theorem dMd_at_56 : decode bMd_at 56 = .ok (.iaload, 1) := by decide +kernel
theorem dMd_at_57 : decode bMd_at 57 = .ok (.bipush 16, 2) := by decide +kernel
theorem dMd_at_59 : decode bMd_at 59 = .ok (.ishl, 1) := by decide +kernel
theorem dMd_at_60 : decode bMd_at 60 = .ok (.ior, 1) := by decide +kernel
theorem dMd_at_61 : decode bMd_at 61 = .ok (.aload_n 0, 1) := by decide +kernel
theorem dMd_at_62 : decode bMd_at 62 = .ok (.getfield 7, 3) := by decide +kernel
theorem dMd_at_65 : decode bMd_at 65 = .ok (.iload_n 3, 1) := by decide +kernel
theorem dMd_at_66 : decode bMd_at 66 = .ok (.iconst 2, 1) := by decide +kernel
theorem dMd_at_67 : decode bMd_at 67 = .ok (.iadd, 1) := by decide +kernel
theorem dMd_at_68 : decode bMd_at 68 = .ok (.iaload, 1) := by decide +kernel
theorem dMd_at_69 : decode bMd_at 69 = .ok (.bipush 8, 2) := by decide +kernel
theorem dMd_at_71 : decode bMd_at 71 = .ok (.ishl, 1) := by decide +kernel
theorem dMd_at_72 : decode bMd_at 72 = .ok (.ior, 1) := by decide +kernel
theorem dMd_at_73 : decode bMd_at 73 = .ok (.aload_n 0, 1) := by decide +kernel
theorem dMd_at_74 : decode bMd_at 74 = .ok (.getfield 7, 3) := by decide +kernel
theorem dMd_at_77 : decode bMd_at 77 = .ok (.iload_n 3, 1) := by decide +kernel
theorem dMd_at_78 : decode bMd_at 78 = .ok (.iconst 3, 1) := by decide +kernel
theorem dMd_at_79 : decode bMd_at 79 = .ok (.iadd, 1) := by decide +kernel
theorem dMd_at_80 : decode bMd_at 80 = .ok (.iaload, 1) := by decide +kernel
theorem dMd_at_81 : decode bMd_at 81 = .ok (.ior, 1) := by decide +kernel
theorem dMd_at_82 : decode bMd_at 82 = .ok (.ireturn, 1) := by decide +kernel
theorem dMd_given_0 : decode bMd_given 0 = .ok (.aload_n 0, 1) := by decide +kernel
theorem dMd_given_1 : decode bMd_given 1 = .ok (.iload_n 1, 1) := by decide +kernel
theorem dMd_given_2 : decode bMd_given 2 = .ok (.ifCond .lt 9, 3) := by decide +kernel
theorem dMd_given_5 : decode bMd_given 5 = .ok (.iload_n 1, 1) := by decide +kernel
theorem dMd_given_6 : decode bMd_given 6 = .ok (.bipush 64, 2) := by decide +kernel
theorem dMd_given_8 : decode bMd_given 8 = .ok (.if_icmp .lt 7, 3) := by decide +kernel
theorem dMd_given_11 : decode bMd_given 11 = .ok (.iconst 1, 1) := by decide +kernel
theorem dMd_given_12 : decode bMd_given 12 = .ok (.goto 25, 3) := by decide +kernel
theorem dMd_given_15 : decode bMd_given 15 = .ok (.iload_n 2, 1) := by decide +kernel
theorem dMd_given_16 : decode bMd_given 16 = .ok (.iconst (-1), 1) := by decide +kernel
theorem dMd_given_17 : decode bMd_given 17 = .ok (.if_icmp .eq 15, 3) := by decide +kernel
theorem dMd_given_20 : decode bMd_given 20 = .ok (.iload_n 2, 1) := by decide +kernel
theorem dMd_given_21 : decode bMd_given 21 = .ok (.iload_n 3, 1) := by decide +kernel
theorem dMd_given_22 : decode bMd_given 22 = .ok (.iload 4, 2) := by decide +kernel
theorem dMd_given_24 : decode bMd_given 24 = .ok (.iload 5, 2) := by decide +kernel
theorem dMd_given_26 : decode bMd_given 26 = .ok (.invokestatic 96, 3) := by decide +kernel
theorem dMd_given_29 : decode bMd_given 29 = .ok (.ifCond .eq 7, 3) := by decide +kernel
theorem dMd_given_32 : decode bMd_given 32 = .ok (.iconst 0, 1) := by decide +kernel
theorem dMd_given_33 : decode bMd_given 33 = .ok (.goto 4, 3) := by decide +kernel
theorem dMd_given_36 : decode bMd_given 36 = .ok (.iconst 2, 1) := by decide +kernel
theorem dMd_given_37 : decode bMd_given 37 = .ok (.putfield 85, 3) := by decide +kernel
theorem dMd_given_40 : decode bMd_given 40 = .ok (.aload_n 0, 1) := by decide +kernel
theorem dMd_given_41 : decode bMd_given 41 = .ok (.getfield 85, 3) := by decide +kernel
theorem dMd_given_44 : decode bMd_given 44 = .ok (.ifCond .le 5, 3) := by decide +kernel
theorem dMd_given_47 : decode bMd_given 47 = .ok (.iconst 0, 1) := by decide +kernel
theorem dMd_given_48 : decode bMd_given 48 = .ok (.ireturn, 1) := by decide +kernel
theorem dMd_given_49 : decode bMd_given 49 = .ok (.aload_n 0, 1) := by decide +kernel
theorem dMd_given_50 : decode bMd_given 50 = .ok (.getfield 13, 3) := by decide +kernel
theorem dMd_given_53 : decode bMd_given 53 = .ok (.iload_n 1, 1) := by decide +kernel
theorem dMd_given_54 : decode bMd_given 54 = .ok (.iload_n 2, 1) := by decide +kernel
theorem dMd_given_55 : decode bMd_given 55 = .ok (.iconst (-1), 1) := by decide +kernel
theorem dMd_given_56 : decode bMd_given 56 = .ok (.if_icmp .eq 7, 3) := by decide +kernel
theorem dMd_given_59 : decode bMd_given 59 = .ok (.iconst 1, 1) := by decide +kernel
theorem dMd_given_60 : decode bMd_given 60 = .ok (.goto 4, 3) := by decide +kernel
theorem dMd_given_63 : decode bMd_given 63 = .ok (.iconst 0, 1) := by decide +kernel
theorem dMd_given_64 : decode bMd_given 64 = .ok (.bastore, 1) := by decide +kernel
theorem dMd_given_65 : decode bMd_given 65 = .ok (.aload_n 0, 1) := by decide +kernel
theorem dMd_given_66 : decode bMd_given 66 = .ok (.getfield 17, 3) := by decide +kernel
theorem dMd_given_69 : decode bMd_given 69 = .ok (.iconst 4, 1) := by decide +kernel
theorem dMd_given_70 : decode bMd_given 70 = .ok (.iload_n 1, 1) := by decide +kernel
theorem dMd_given_71 : decode bMd_given 71 = .ok (.imul, 1) := by decide +kernel
theorem dMd_given_72 : decode bMd_given 72 = .ok (.iload_n 2, 1) := by decide +kernel
theorem dMd_given_73 : decode bMd_given 73 = .ok (.iastore, 1) := by decide +kernel
theorem dMd_given_74 : decode bMd_given 74 = .ok (.aload_n 0, 1) := by decide +kernel
theorem dMd_given_75 : decode bMd_given 75 = .ok (.getfield 17, 3) := by decide +kernel
theorem dMd_given_78 : decode bMd_given 78 = .ok (.iconst 4, 1) := by decide +kernel
theorem dMd_given_79 : decode bMd_given 79 = .ok (.iload_n 1, 1) := by decide +kernel
theorem dMd_given_80 : decode bMd_given 80 = .ok (.imul, 1) := by decide +kernel
theorem dMd_given_81 : decode bMd_given 81 = .ok (.iconst 1, 1) := by decide +kernel
theorem dMd_given_82 : decode bMd_given 82 = .ok (.iadd, 1) := by decide +kernel
theorem dMd_given_83 : decode bMd_given 83 = .ok (.iload_n 3, 1) := by decide +kernel
theorem dMd_given_84 : decode bMd_given 84 = .ok (.iastore, 1) := by decide +kernel
theorem dMd_given_85 : decode bMd_given 85 = .ok (.aload_n 0, 1) := by decide +kernel
theorem dMd_given_86 : decode bMd_given 86 = .ok (.getfield 17, 3) := by decide +kernel
theorem dMd_given_89 : decode bMd_given 89 = .ok (.iconst 4, 1) := by decide +kernel
theorem dMd_given_90 : decode bMd_given 90 = .ok (.iload_n 1, 1) := by decide +kernel
theorem dMd_given_91 : decode bMd_given 91 = .ok (.imul, 1) := by decide +kernel
theorem dMd_given_92 : decode bMd_given 92 = .ok (.iconst 2, 1) := by decide +kernel
theorem dMd_given_93 : decode bMd_given 93 = .ok (.iadd, 1) := by decide +kernel
theorem dMd_given_94 : decode bMd_given 94 = .ok (.iload 4, 2) := by decide +kernel
theorem dMd_given_96 : decode bMd_given 96 = .ok (.iastore, 1) := by decide +kernel
theorem dMd_given_97 : decode bMd_given 97 = .ok (.aload_n 0, 1) := by decide +kernel
theorem dMd_given_98 : decode bMd_given 98 = .ok (.getfield 17, 3) := by decide +kernel
theorem dMd_given_101 : decode bMd_given 101 = .ok (.iconst 4, 1) := by decide +kernel
theorem dMd_given_102 : decode bMd_given 102 = .ok (.iload_n 1, 1) := by decide +kernel
theorem dMd_given_103 : decode bMd_given 103 = .ok (.imul, 1) := by decide +kernel
theorem dMd_given_104 : decode bMd_given 104 = .ok (.iconst 3, 1) := by decide +kernel
theorem dMd_given_105 : decode bMd_given 105 = .ok (.iadd, 1) := by decide +kernel
theorem dMd_given_106 : decode bMd_given 106 = .ok (.iload 5, 2) := by decide +kernel
theorem dMd_given_108 : decode bMd_given 108 = .ok (.iastore, 1) := by decide +kernel
theorem dMd_given_109 : decode bMd_given 109 = .ok (.aload_n 0, 1) := by decide +kernel
theorem dMd_given_110 : decode bMd_given 110 = .ok (.invokevirtual 104, 3) := by decide +kernel
theorem dMd_given_113 : decode bMd_given 113 = .ok (.ireturn, 1) := by decide +kernel
theorem dMd_givenCount_0 : decode bMd_givenCount 0 = .ok (.iconst 0, 1) := by decide +kernel
theorem dMd_givenCount_1 : decode bMd_givenCount 1 = .ok (.istore_n 1, 1) := by decide +kernel
theorem dMd_givenCount_2 : decode bMd_givenCount 2 = .ok (.iconst 0, 1) := by decide +kernel
theorem dMd_givenCount_3 : decode bMd_givenCount 3 = .ok (.istore_n 2, 1) := by decide +kernel
theorem dMd_givenCount_4 : decode bMd_givenCount 4 = .ok (.iload_n 2, 1) := by decide +kernel
theorem dMd_givenCount_5 : decode bMd_givenCount 5 = .ok (.bipush 64, 2) := by decide +kernel
theorem dMd_givenCount_7 : decode bMd_givenCount 7 = .ok (.if_icmp .ge 26, 3) := by decide +kernel
theorem dMd_givenCount_10 : decode bMd_givenCount 10 = .ok (.iload_n 1, 1) := by decide +kernel
theorem dMd_givenCount_11 : decode bMd_givenCount 11 = .ok (.aload_n 0, 1) := by decide +kernel
theorem dMd_givenCount_12 : decode bMd_givenCount 12 = .ok (.getfield 13, 3) := by decide +kernel
theorem dMd_givenCount_15 : decode bMd_givenCount 15 = .ok (.iload_n 2, 1) := by decide +kernel
theorem dMd_givenCount_16 : decode bMd_givenCount 16 = .ok (.baload, 1) := by decide +kernel
theorem dMd_givenCount_17 : decode bMd_givenCount 17 = .ok (.ifCond .eq 7, 3) := by decide +kernel
theorem dMd_givenCount_20 : decode bMd_givenCount 20 = .ok (.iconst 1, 1) := by decide +kernel
theorem dMd_givenCount_21 : decode bMd_givenCount 21 = .ok (.goto 4, 3) := by decide +kernel
theorem dMd_givenCount_24 : decode bMd_givenCount 24 = .ok (.iconst 0, 1) := by decide +kernel
theorem dMd_givenCount_25 : decode bMd_givenCount 25 = .ok (.iadd, 1) := by decide +kernel
theorem dMd_givenCount_26 : decode bMd_givenCount 26 = .ok (.istore_n 1, 1) := by decide +kernel
theorem dMd_givenCount_27 : decode bMd_givenCount 27 = .ok (.iinc 2 1, 3) := by decide +kernel
theorem dMd_givenCount_30 : decode bMd_givenCount 30 = .ok (.goto (-26), 3) := by decide +kernel
theorem dMd_givenCount_33 : decode bMd_givenCount 33 = .ok (.iload_n 1, 1) := by decide +kernel
theorem dMd_givenCount_34 : decode bMd_givenCount 34 = .ok (.ireturn, 1) := by decide +kernel
theorem dMd_run_0 : decode bMd_run 0 = .ok (.aload_n 0, 1) := by decide +kernel
theorem dMd_run_1 : decode bMd_run 1 = .ok (.iload_n 1, 1) := by decide +kernel
theorem dMd_run_2 : decode bMd_run 2 = .ok (.ifCond .lt 41, 3) := by decide +kernel
theorem dMd_run_5 : decode bMd_run 5 = .ok (.iload_n 1, 1) := by decide +kernel
theorem dMd_run_6 : decode bMd_run 6 = .ok (.iconst 2, 1) := by decide +kernel
theorem dMd_run_7 : decode bMd_run 7 = .ok (.if_icmp .gt 36, 3) := by decide +kernel
theorem dMd_run_10 : decode bMd_run 10 = .ok (.iload_n 2, 1) := by decide +kernel
theorem dMd_run_11 : decode bMd_run 11 = .ok (.iconst 1, 1) := by decide +kernel
theorem dMd_run_12 : decode bMd_run 12 = .ok (.if_icmp .lt 31, 3) := by decide +kernel
theorem dMd_run_15 : decode bMd_run 15 = .ok (.iload_n 2, 1) := by decide +kernel
theorem dMd_run_16 : decode bMd_run 16 = .ok (.bipush 64, 2) := by decide +kernel
theorem dMd_run_18 : decode bMd_run 18 = .ok (.if_icmp .gt 25, 3) := by decide +kernel
theorem dMd_run_21 : decode bMd_run 21 = .ok (.iload_n 3, 1) := by decide +kernel
theorem dMd_run_22 : decode bMd_run 22 = .ok (.ifCond .lt 21, 3) := by decide +kernel
theorem dMd_run_25 : decode bMd_run 25 = .ok (.iload_n 3, 1) := by decide +kernel
theorem dMd_run_26 : decode bMd_run 26 = .ok (.bipush 20, 2) := by decide +kernel
theorem dMd_run_28 : decode bMd_run 28 = .ok (.if_icmp .gt 15, 3) := by decide +kernel
theorem dMd_run_31 : decode bMd_run 31 = .ok (.iload_n 1, 1) := by decide +kernel
theorem dMd_run_32 : decode bMd_run 32 = .ok (.iconst 2, 1) := by decide +kernel
theorem dMd_run_33 : decode bMd_run 33 = .ok (.if_icmp .ne 14, 3) := by decide +kernel
theorem dMd_run_36 : decode bMd_run 36 = .ok (.aload_n 0, 1) := by decide +kernel
theorem dMd_run_37 : decode bMd_run 37 = .ok (.invokevirtual 104, 3) := by decide +kernel
theorem dMd_run_40 : decode bMd_run 40 = .ok (.ifCond .ne 7, 3) := by decide +kernel
theorem dMd_run_43 : decode bMd_run 43 = .ok (.iconst 1, 1) := by decide +kernel
theorem dMd_run_44 : decode bMd_run 44 = .ok (.goto 4, 3) := by decide +kernel
theorem dMd_run_47 : decode bMd_run 47 = .ok (.iconst 0, 1) := by decide +kernel
theorem dMd_run_48 : decode bMd_run 48 = .ok (.putfield 85, 3) := by decide +kernel
theorem dMd_run_51 : decode bMd_run 51 = .ok (.aload_n 0, 1) := by decide +kernel
theorem dMd_run_52 : decode bMd_run 52 = .ok (.getfield 85, 3) := by decide +kernel
theorem dMd_run_55 : decode bMd_run 55 = .ok (.ifCond .le 5, 3) := by decide +kernel
theorem dMd_run_58 : decode bMd_run 58 = .ok (.iconst 0, 1) := by decide +kernel
theorem dMd_run_59 : decode bMd_run 59 = .ok (.ireturn, 1) := by decide +kernel
theorem dMd_run_60 : decode bMd_run 60 = .ok (.aload_n 0, 1) := by decide +kernel
theorem dMd_run_61 : decode bMd_run 61 = .ok (.iload_n 1, 1) := by decide +kernel
theorem dMd_run_62 : decode bMd_run 62 = .ok (.iload_n 2, 1) := by decide +kernel
theorem dMd_run_63 : decode bMd_run 63 = .ok (.invokevirtual 171, 3) := by decide +kernel
theorem dMd_run_66 : decode bMd_run 66 = .ok (.aload_n 0, 1) := by decide +kernel
theorem dMd_run_67 : decode bMd_run 67 = .ok (.iload_n 3, 1) := by decide +kernel
theorem dMd_run_68 : decode bMd_run 68 = .ok (.putfield 175, 3) := by decide +kernel
theorem dMd_run_71 : decode bMd_run 71 = .ok (.iconst 0, 1) := by decide +kernel
theorem dMd_run_72 : decode bMd_run 72 = .ok (.istore 4, 2) := by decide +kernel
theorem dMd_run_74 : decode bMd_run 74 = .ok (.iload 4, 2) := by decide +kernel
theorem dMd_run_76 : decode bMd_run 76 = .ok (.iload_n 3, 1) := by decide +kernel
theorem dMd_run_77 : decode bMd_run 77 = .ok (.if_icmp .ge 24, 3) := by decide +kernel
theorem dMd_run_80 : decode bMd_run 80 = .ok (.aload_n 0, 1) := by decide +kernel
theorem dMd_run_81 : decode bMd_run 81 = .ok (.getfield 72, 3) := by decide +kernel
theorem dMd_run_84 : decode bMd_run 84 = .ok (.iload 4, 2) := by decide +kernel
theorem dMd_run_86 : decode bMd_run 86 = .ok (.aload_n 0, 1) := by decide +kernel
theorem dMd_run_87 : decode bMd_run 87 = .ok (.invokevirtual 178, 3) := by decide +kernel
theorem dMd_run_90 : decode bMd_run 90 = .ok (.lastore, 1) := by decide +kernel
theorem dMd_run_91 : decode bMd_run 91 = .ok (.aload_n 0, 1) := by decide +kernel
theorem dMd_run_92 : decode bMd_run 92 = .ok (.invokevirtual 182, 3) := by decide +kernel
theorem dMd_run_95 : decode bMd_run 95 = .ok (.iinc 4 1, 3) := by decide +kernel
theorem dMd_run_98 : decode bMd_run 98 = .ok (.goto (-24), 3) := by decide +kernel
theorem dMd_run_101 : decode bMd_run 101 = .ok (.aload_n 0, 1) := by decide +kernel
theorem dMd_run_102 : decode bMd_run 102 = .ok (.getfield 72, 3) := by decide +kernel
theorem dMd_run_105 : decode bMd_run 105 = .ok (.iload_n 3, 1) := by decide +kernel
theorem dMd_run_106 : decode bMd_run 106 = .ok (.aload_n 0, 1) := by decide +kernel
theorem dMd_run_107 : decode bMd_run 107 = .ok (.invokevirtual 178, 3) := by decide +kernel
theorem dMd_run_110 : decode bMd_run 110 = .ok (.lastore, 1) := by decide +kernel
theorem dMd_run_111 : decode bMd_run 111 = .ok (.iload_n 1, 1) := by decide +kernel
theorem dMd_run_112 : decode bMd_run 112 = .ok (.iconst 2, 1) := by decide +kernel
theorem dMd_run_113 : decode bMd_run 113 = .ok (.if_icmp .eq 13, 3) := by decide +kernel
theorem dMd_run_116 : decode bMd_run 116 = .ok (.aload_n 0, 1) := by decide +kernel
theorem dMd_run_117 : decode bMd_run 117 = .ok (.invokevirtual 185, 3) := by decide +kernel
theorem dMd_run_120 : decode bMd_run 120 = .ok (.aload_n 0, 1) := by decide +kernel
theorem dMd_run_121 : decode bMd_run 121 = .ok (.invokevirtual 178, 3) := by decide +kernel
theorem dMd_run_124 : decode bMd_run 124 = .ok (.lstore 4, 2) := by decide +kernel
theorem dMd_run_126 : decode bMd_run 126 = .ok (.aload_n 0, 1) := by decide +kernel
theorem dMd_run_127 : decode bMd_run 127 = .ok (.iconst 1, 1) := by decide +kernel
theorem dMd_run_128 : decode bMd_run 128 = .ok (.putfield 100, 3) := by decide +kernel
theorem dMd_run_131 : decode bMd_run 131 = .ok (.aload_n 0, 1) := by decide +kernel
theorem dMd_run_132 : decode bMd_run 132 = .ok (.getfield 158, 3) := by decide +kernel
theorem dMd_run_135 : decode bMd_run 135 = .ok (.ireturn, 1) := by decide +kernel
theorem dMd_begin_0 : decode bMd_begin 0 = .ok (.aload_n 0, 1) := by decide +kernel
theorem dMd_begin_1 : decode bMd_begin 1 = .ok (.iconst 0, 1) := by decide +kernel
theorem dMd_begin_2 : decode bMd_begin 2 = .ok (.putfield 158, 3) := by decide +kernel
theorem dMd_begin_5 : decode bMd_begin 5 = .ok (.iload_n 1, 1) := by decide +kernel
theorem dMd_begin_6 : decode bMd_begin 6 = .ok (.iconst 2, 1) := by decide +kernel
theorem dMd_begin_7 : decode bMd_begin 7 = .ok (.if_icmp .ne 65, 3) := by decide +kernel
theorem dMd_begin_10 : decode bMd_begin 10 = .ok (.iconst 0, 1) := by decide +kernel
theorem dMd_begin_11 : decode bMd_begin 11 = .ok (.istore_n 3, 1) := by decide +kernel
theorem dMd_begin_12 : decode bMd_begin 12 = .ok (.iload_n 3, 1) := by decide +kernel
theorem dMd_begin_13 : decode bMd_begin 13 = .ok (.bipush 64, 2) := by decide +kernel
theorem dMd_begin_15 : decode bMd_begin 15 = .ok (.if_icmp .ge 56, 3) := by decide +kernel
theorem dMd_begin_18 : decode bMd_begin 18 = .ok (.aload_n 0, 1) := by decide +kernel
theorem dMd_begin_19 : decode bMd_begin 19 = .ok (.getfield 158, 3) := by decide +kernel
theorem dMd_begin_22 : decode bMd_begin 22 = .ok (.iload_n 2, 1) := by decide +kernel
theorem dMd_begin_23 : decode bMd_begin 23 = .ok (.if_icmp .ge 48, 3) := by decide +kernel
theorem dMd_begin_26 : decode bMd_begin 26 = .ok (.aload_n 0, 1) := by decide +kernel
theorem dMd_begin_27 : decode bMd_begin 27 = .ok (.getfield 13, 3) := by decide +kernel
theorem dMd_begin_30 : decode bMd_begin 30 = .ok (.iload_n 3, 1) := by decide +kernel
theorem dMd_begin_31 : decode bMd_begin 31 = .ok (.baload, 1) := by decide +kernel
theorem dMd_begin_32 : decode bMd_begin 32 = .ok (.ifCond .eq 33, 3) := by decide +kernel
theorem dMd_begin_35 : decode bMd_begin 35 = .ok (.aload_n 0, 1) := by decide +kernel
theorem dMd_begin_36 : decode bMd_begin 36 = .ok (.getfield 17, 3) := by decide +kernel
theorem dMd_begin_39 : decode bMd_begin 39 = .ok (.iconst 4, 1) := by decide +kernel
theorem dMd_begin_40 : decode bMd_begin 40 = .ok (.iload_n 3, 1) := by decide +kernel
theorem dMd_begin_41 : decode bMd_begin 41 = .ok (.imul, 1) := by decide +kernel
theorem dMd_begin_42 : decode bMd_begin 42 = .ok (.aload_n 0, 1) := by decide +kernel
theorem dMd_begin_43 : decode bMd_begin 43 = .ok (.getfield 54, 3) := by decide +kernel
theorem dMd_begin_46 : decode bMd_begin 46 = .ok (.iconst 4, 1) := by decide +kernel
theorem dMd_begin_47 : decode bMd_begin 47 = .ok (.aload_n 0, 1) := by decide +kernel
theorem dMd_begin_48 : decode bMd_begin 48 = .ok (.getfield 158, 3) := by decide +kernel
theorem dMd_begin_51 : decode bMd_begin 51 = .ok (.imul, 1) := by decide +kernel
theorem dMd_begin_52 : decode bMd_begin 52 = .ok (.invokestatic 115, 3) := by decide +kernel
theorem dMd_begin_55 : decode bMd_begin 55 = .ok (.aload_n 0, 1) := by decide +kernel
theorem dMd_begin_56 : decode bMd_begin 56 = .ok (.dup, 1) := by decide +kernel
theorem dMd_begin_57 : decode bMd_begin 57 = .ok (.getfield 158, 3) := by decide +kernel
theorem dMd_begin_60 : decode bMd_begin 60 = .ok (.iconst 1, 1) := by decide +kernel
theorem dMd_begin_61 : decode bMd_begin 61 = .ok (.iadd, 1) := by decide +kernel
theorem dMd_begin_62 : decode bMd_begin 62 = .ok (.putfield 158, 3) := by decide +kernel
theorem dMd_begin_65 : decode bMd_begin 65 = .ok (.iinc 3 1, 3) := by decide +kernel
theorem dMd_begin_68 : decode bMd_begin 68 = .ok (.goto (-56), 3) := by decide +kernel
theorem dMd_begin_71 : decode bMd_begin 71 = .ok (.return_, 1) := by decide +kernel
theorem dMd_begin_72 : decode bMd_begin 72 = .ok (.aload_n 0, 1) := by decide +kernel
theorem dMd_begin_73 : decode bMd_begin 73 = .ok (.invokevirtual 161, 3) := by decide +kernel
theorem dMd_begin_76 : decode bMd_begin 76 = .ok (.aload_n 0, 1) := by decide +kernel
theorem dMd_begin_77 : decode bMd_begin 77 = .ok (.getfield 108, 3) := by decide +kernel
theorem dMd_begin_80 : decode bMd_begin 80 = .ok (.iload_n 2, 1) := by decide +kernel
theorem dMd_begin_81 : decode bMd_begin 81 = .ok (.if_icmp .gt 45, 3) := by decide +kernel
theorem dMd_begin_84 : decode bMd_begin 84 = .ok (.aload_n 0, 1) := by decide +kernel
theorem dMd_begin_85 : decode bMd_begin 85 = .ok (.aload_n 0, 1) := by decide +kernel
theorem dMd_begin_86 : decode bMd_begin 86 = .ok (.getfield 108, 3) := by decide +kernel
theorem dMd_begin_89 : decode bMd_begin 89 = .ok (.putfield 158, 3) := by decide +kernel
theorem dMd_begin_92 : decode bMd_begin 92 = .ok (.iconst 0, 1) := by decide +kernel
theorem dMd_begin_93 : decode bMd_begin 93 = .ok (.istore_n 3, 1) := by decide +kernel
theorem dMd_begin_94 : decode bMd_begin 94 = .ok (.iload_n 3, 1) := by decide +kernel
theorem dMd_begin_95 : decode bMd_begin 95 = .ok (.aload_n 0, 1) := by decide +kernel
theorem dMd_begin_96 : decode bMd_begin 96 = .ok (.getfield 108, 3) := by decide +kernel
theorem dMd_begin_99 : decode bMd_begin 99 = .ok (.if_icmp .ge 26, 3) := by decide +kernel
theorem dMd_begin_102 : decode bMd_begin 102 = .ok (.aload_n 0, 1) := by decide +kernel
theorem dMd_begin_103 : decode bMd_begin 103 = .ok (.getfield 20, 3) := by decide +kernel
theorem dMd_begin_106 : decode bMd_begin 106 = .ok (.iconst 4, 1) := by decide +kernel
theorem dMd_begin_107 : decode bMd_begin 107 = .ok (.iload_n 3, 1) := by decide +kernel
theorem dMd_begin_108 : decode bMd_begin 108 = .ok (.imul, 1) := by decide +kernel
theorem dMd_begin_109 : decode bMd_begin 109 = .ok (.aload_n 0, 1) := by decide +kernel
theorem dMd_begin_110 : decode bMd_begin 110 = .ok (.getfield 54, 3) := by decide +kernel
theorem dMd_begin_113 : decode bMd_begin 113 = .ok (.iconst 4, 1) := by decide +kernel
theorem dMd_begin_114 : decode bMd_begin 114 = .ok (.iload_n 3, 1) := by decide +kernel
theorem dMd_begin_115 : decode bMd_begin 115 = .ok (.imul, 1) := by decide +kernel
theorem dMd_begin_116 : decode bMd_begin 116 = .ok (.invokestatic 115, 3) := by decide +kernel
theorem dMd_begin_119 : decode bMd_begin 119 = .ok (.iinc 3 1, 3) := by decide +kernel
theorem dMd_begin_122 : decode bMd_begin 122 = .ok (.goto (-28), 3) := by decide +kernel
theorem dMd_begin_125 : decode bMd_begin 125 = .ok (.return_, 1) := by decide +kernel
theorem dMd_begin_126 : decode bMd_begin 126 = .ok (.iload_n 1, 1) := by decide +kernel
theorem dMd_begin_127 : decode bMd_begin 127 = .ok (.ifCond .ne 39, 3) := by decide +kernel
theorem dMd_begin_130 : decode bMd_begin 130 = .ok (.aload_n 0, 1) := by decide +kernel
theorem dMd_begin_131 : decode bMd_begin 131 = .ok (.iload_n 2, 1) := by decide +kernel
theorem dMd_begin_132 : decode bMd_begin 132 = .ok (.invokevirtual 145, 3) := by decide +kernel
theorem dMd_begin_135 : decode bMd_begin 135 = .ok (.iconst 0, 1) := by decide +kernel
theorem dMd_begin_136 : decode bMd_begin 136 = .ok (.istore_n 3, 1) := by decide +kernel
theorem dMd_begin_137 : decode bMd_begin 137 = .ok (.iload_n 3, 1) := by decide +kernel
theorem dMd_begin_138 : decode bMd_begin 138 = .ok (.aload_n 0, 1) := by decide +kernel
theorem dMd_begin_139 : decode bMd_begin 139 = .ok (.getfield 130, 3) := by decide +kernel
theorem dMd_begin_142 : decode bMd_begin 142 = .ok (.if_icmp .ge 21, 3) := by decide +kernel
theorem dMd_begin_145 : decode bMd_begin 145 = .ok (.aload_n 0, 1) := by decide +kernel
theorem dMd_begin_146 : decode bMd_begin 146 = .ok (.getfield 41, 3) := by decide +kernel
theorem dMd_begin_149 : decode bMd_begin 149 = .ok (.iload_n 3, 1) := by decide +kernel
theorem dMd_begin_150 : decode bMd_begin 150 = .ok (.iconst 1, 1) := by decide +kernel
theorem dMd_begin_151 : decode bMd_begin 151 = .ok (.bastore, 1) := by decide +kernel
theorem dMd_begin_152 : decode bMd_begin 152 = .ok (.aload_n 0, 1) := by decide +kernel
theorem dMd_begin_153 : decode bMd_begin 153 = .ok (.iload_n 3, 1) := by decide +kernel
theorem dMd_begin_154 : decode bMd_begin 154 = .ok (.invokevirtual 148, 3) := by decide +kernel
theorem dMd_begin_157 : decode bMd_begin 157 = .ok (.iinc 3 1, 3) := by decide +kernel
theorem dMd_begin_160 : decode bMd_begin 160 = .ok (.goto (-23), 3) := by decide +kernel
theorem dMd_begin_163 : decode bMd_begin 163 = .ok (.goto 8, 3) := by decide +kernel
theorem dMd_begin_166 : decode bMd_begin 166 = .ok (.aload_n 0, 1) := by decide +kernel
theorem dMd_begin_167 : decode bMd_begin 167 = .ok (.iload_n 2, 1) := by decide +kernel
theorem dMd_begin_168 : decode bMd_begin 168 = .ok (.invokevirtual 164, 3) := by decide +kernel
theorem dMd_begin_171 : decode bMd_begin 171 = .ok (.iconst 0, 1) := by decide +kernel
theorem dMd_begin_172 : decode bMd_begin 172 = .ok (.istore_n 3, 1) := by decide +kernel
theorem dMd_begin_173 : decode bMd_begin 173 = .ok (.iload_n 3, 1) := by decide +kernel
theorem dMd_begin_174 : decode bMd_begin 174 = .ok (.aload_n 0, 1) := by decide +kernel
theorem dMd_begin_175 : decode bMd_begin 175 = .ok (.getfield 130, 3) := by decide +kernel
theorem dMd_begin_178 : decode bMd_begin 178 = .ok (.if_icmp .ge 48, 3) := by decide +kernel
theorem dMd_begin_181 : decode bMd_begin 181 = .ok (.aload_n 0, 1) := by decide +kernel
theorem dMd_begin_182 : decode bMd_begin 182 = .ok (.getfield 41, 3) := by decide +kernel
theorem dMd_begin_185 : decode bMd_begin 185 = .ok (.iload_n 3, 1) := by decide +kernel
theorem dMd_begin_186 : decode bMd_begin 186 = .ok (.baload, 1) := by decide +kernel
theorem dMd_begin_187 : decode bMd_begin 187 = .ok (.ifCond .eq 33, 3) := by decide +kernel
theorem dMd_begin_190 : decode bMd_begin 190 = .ok (.aload_n 0, 1) := by decide +kernel
theorem dMd_begin_191 : decode bMd_begin 191 = .ok (.getfield 48, 3) := by decide +kernel
theorem dMd_begin_194 : decode bMd_begin 194 = .ok (.iconst 4, 1) := by decide +kernel
theorem dMd_begin_195 : decode bMd_begin 195 = .ok (.iload_n 3, 1) := by decide +kernel
theorem dMd_begin_196 : decode bMd_begin 196 = .ok (.imul, 1) := by decide +kernel
theorem dMd_begin_197 : decode bMd_begin 197 = .ok (.aload_n 0, 1) := by decide +kernel
theorem dMd_begin_198 : decode bMd_begin 198 = .ok (.getfield 54, 3) := by decide +kernel
theorem dMd_begin_201 : decode bMd_begin 201 = .ok (.iconst 4, 1) := by decide +kernel
theorem dMd_begin_202 : decode bMd_begin 202 = .ok (.aload_n 0, 1) := by decide +kernel
theorem dMd_begin_203 : decode bMd_begin 203 = .ok (.getfield 158, 3) := by decide +kernel
theorem dMd_begin_206 : decode bMd_begin 206 = .ok (.imul, 1) := by decide +kernel
theorem dMd_begin_207 : decode bMd_begin 207 = .ok (.invokestatic 115, 3) := by decide +kernel
theorem dMd_begin_210 : decode bMd_begin 210 = .ok (.aload_n 0, 1) := by decide +kernel
theorem dMd_begin_211 : decode bMd_begin 211 = .ok (.dup, 1) := by decide +kernel
theorem dMd_begin_212 : decode bMd_begin 212 = .ok (.getfield 158, 3) := by decide +kernel
theorem dMd_begin_215 : decode bMd_begin 215 = .ok (.iconst 1, 1) := by decide +kernel
theorem dMd_begin_216 : decode bMd_begin 216 = .ok (.iadd, 1) := by decide +kernel
theorem dMd_begin_217 : decode bMd_begin 217 = .ok (.putfield 158, 3) := by decide +kernel
theorem dMd_begin_220 : decode bMd_begin 220 = .ok (.iinc 3 1, 3) := by decide +kernel
theorem dMd_begin_223 : decode bMd_begin 223 = .ok (.goto (-50), 3) := by decide +kernel
theorem dMd_begin_226 : decode bMd_begin 226 = .ok (.return_, 1) := by decide +kernel
theorem dMd_copy_0 : decode bMd_copy 0 = .ok (.iconst 0, 1) := by decide +kernel
theorem dMd_copy_1 : decode bMd_copy 1 = .ok (.istore 4, 2) := by decide +kernel
theorem dMd_copy_3 : decode bMd_copy 3 = .ok (.iload 4, 2) := by decide +kernel
theorem dMd_copy_5 : decode bMd_copy 5 = .ok (.iconst 4, 1) := by decide +kernel
theorem dMd_copy_6 : decode bMd_copy 6 = .ok (.if_icmp .ge 21, 3) := by decide +kernel
theorem dMd_copy_9 : decode bMd_copy 9 = .ok (.aload_n 2, 1) := by decide +kernel
theorem dMd_copy_10 : decode bMd_copy 10 = .ok (.iload_n 3, 1) := by decide +kernel
theorem dMd_copy_11 : decode bMd_copy 11 = .ok (.iload 4, 2) := by decide +kernel
theorem dMd_copy_13 : decode bMd_copy 13 = .ok (.iadd, 1) := by decide +kernel
theorem dMd_copy_14 : decode bMd_copy 14 = .ok (.aload_n 0, 1) := by decide +kernel
theorem dMd_copy_15 : decode bMd_copy 15 = .ok (.iload_n 1, 1) := by decide +kernel
theorem dMd_copy_16 : decode bMd_copy 16 = .ok (.iload 4, 2) := by decide +kernel
theorem dMd_copy_18 : decode bMd_copy 18 = .ok (.iadd, 1) := by decide +kernel
theorem dMd_copy_19 : decode bMd_copy 19 = .ok (.iaload, 1) := by decide +kernel
theorem dMd_copy_20 : decode bMd_copy 20 = .ok (.iastore, 1) := by decide +kernel
theorem dMd_copy_21 : decode bMd_copy 21 = .ok (.iinc 4 1, 3) := by decide +kernel
theorem dMd_copy_24 : decode bMd_copy 24 = .ok (.goto (-21), 3) := by decide +kernel
theorem dMd_copy_27 : decode bMd_copy 27 = .ok (.return_, 1) := by decide +kernel
theorem dMd_findDifferent_0 : decode bMd_findDifferent 0 = .ok (.aload_n 0, 1) := by decide +kernel
theorem dMd_findDifferent_1 : decode bMd_findDifferent 1 = .ok (.iconst 0, 1) := by decide +kernel
theorem dMd_findDifferent_2 : decode bMd_findDifferent 2 = .ok (.putfield 108, 3) := by decide +kernel
theorem dMd_findDifferent_5 : decode bMd_findDifferent 5 = .ok (.iconst 0, 1) := by decide +kernel
theorem dMd_findDifferent_6 : decode bMd_findDifferent 6 = .ok (.istore_n 1, 1) := by decide +kernel
theorem dMd_findDifferent_7 : decode bMd_findDifferent 7 = .ok (.iload_n 1, 1) := by decide +kernel
theorem dMd_findDifferent_8 : decode bMd_findDifferent 8 = .ok (.aload_n 0, 1) := by decide +kernel
theorem dMd_findDifferent_9 : decode bMd_findDifferent 9 = .ok (.getfield 78, 3) := by decide +kernel
theorem dMd_findDifferent_12 : decode bMd_findDifferent 12 = .ok (.aload_n 0, 1) := by decide +kernel
theorem dMd_findDifferent_13 : decode bMd_findDifferent 13 = .ok (.getfield 82, 3) := by decide +kernel
theorem dMd_findDifferent_16 : decode bMd_findDifferent 16 = .ok (.imul, 1) := by decide +kernel
theorem dMd_findDifferent_17 : decode bMd_findDifferent 17 = .ok (.if_icmp .ge 169, 3) := by decide +kernel
theorem dMd_findDifferent_20 : decode bMd_findDifferent 20 = .ok (.iconst 0, 1) := by decide +kernel
theorem dMd_findDifferent_21 : decode bMd_findDifferent 21 = .ok (.istore_n 2, 1) := by decide +kernel
theorem dMd_findDifferent_22 : decode bMd_findDifferent 22 = .ok (.iload_n 2, 1) := by decide +kernel
theorem dMd_findDifferent_23 : decode bMd_findDifferent 23 = .ok (.aload_n 0, 1) := by decide +kernel
theorem dMd_findDifferent_24 : decode bMd_findDifferent 24 = .ok (.getfield 108, 3) := by decide +kernel
theorem dMd_findDifferent_27 : decode bMd_findDifferent 27 = .ok (.if_icmp .ge 29, 3) := by decide +kernel
theorem dMd_findDifferent_30 : decode bMd_findDifferent 30 = .ok (.aload_n 0, 1) := by decide +kernel
theorem dMd_findDifferent_31 : decode bMd_findDifferent 31 = .ok (.getfield 20, 3) := by decide +kernel
theorem dMd_findDifferent_34 : decode bMd_findDifferent 34 = .ok (.iconst 4, 1) := by decide +kernel
theorem dMd_findDifferent_35 : decode bMd_findDifferent 35 = .ok (.iload_n 2, 1) := by decide +kernel
theorem dMd_findDifferent_36 : decode bMd_findDifferent 36 = .ok (.imul, 1) := by decide +kernel
theorem dMd_findDifferent_37 : decode bMd_findDifferent 37 = .ok (.aload_n 0, 1) := by decide +kernel
theorem dMd_findDifferent_38 : decode bMd_findDifferent 38 = .ok (.getfield 7, 3) := by decide +kernel
theorem dMd_findDifferent_41 : decode bMd_findDifferent 41 = .ok (.iconst 4, 1) := by decide +kernel
theorem dMd_findDifferent_42 : decode bMd_findDifferent 42 = .ok (.iload_n 1, 1) := by decide +kernel
theorem dMd_findDifferent_43 : decode bMd_findDifferent 43 = .ok (.imul, 1) := by decide +kernel
theorem dMd_findDifferent_44 : decode bMd_findDifferent 44 = .ok (.invokestatic 111, 3) := by decide +kernel
theorem dMd_findDifferent_47 : decode bMd_findDifferent 47 = .ok (.ifCond .ge 9, 3) := by decide +kernel
theorem dMd_findDifferent_50 : decode bMd_findDifferent 50 = .ok (.iinc 2 1, 3) := by decide +kernel
theorem dMd_findDifferent_53 : decode bMd_findDifferent 53 = .ok (.goto (-31), 3) := by decide +kernel
theorem dMd_findDifferent_56 : decode bMd_findDifferent 56 = .ok (.iload_n 2, 1) := by decide +kernel
theorem dMd_findDifferent_57 : decode bMd_findDifferent 57 = .ok (.aload_n 0, 1) := by decide +kernel
theorem dMd_findDifferent_58 : decode bMd_findDifferent 58 = .ok (.getfield 108, 3) := by decide +kernel
theorem dMd_findDifferent_61 : decode bMd_findDifferent 61 = .ok (.if_icmp .ge 36, 3) := by decide +kernel
theorem dMd_findDifferent_64 : decode bMd_findDifferent 64 = .ok (.aload_n 0, 1) := by decide +kernel
theorem dMd_findDifferent_65 : decode bMd_findDifferent 65 = .ok (.getfield 20, 3) := by decide +kernel
theorem dMd_findDifferent_68 : decode bMd_findDifferent 68 = .ok (.iconst 4, 1) := by decide +kernel
theorem dMd_findDifferent_69 : decode bMd_findDifferent 69 = .ok (.iload_n 2, 1) := by decide +kernel
theorem dMd_findDifferent_70 : decode bMd_findDifferent 70 = .ok (.imul, 1) := by decide +kernel
theorem dMd_findDifferent_71 : decode bMd_findDifferent 71 = .ok (.aload_n 0, 1) := by decide +kernel
theorem dMd_findDifferent_72 : decode bMd_findDifferent 72 = .ok (.getfield 7, 3) := by decide +kernel
theorem dMd_findDifferent_75 : decode bMd_findDifferent 75 = .ok (.iconst 4, 1) := by decide +kernel
theorem dMd_findDifferent_76 : decode bMd_findDifferent 76 = .ok (.iload_n 1, 1) := by decide +kernel
theorem dMd_findDifferent_77 : decode bMd_findDifferent 77 = .ok (.imul, 1) := by decide +kernel
theorem dMd_findDifferent_78 : decode bMd_findDifferent 78 = .ok (.invokestatic 111, 3) := by decide +kernel
theorem dMd_findDifferent_81 : decode bMd_findDifferent 81 = .ok (.ifCond .ne 16, 3) := by decide +kernel
theorem dMd_findDifferent_84 : decode bMd_findDifferent 84 = .ok (.aload_n 0, 1) := by decide +kernel
theorem dMd_findDifferent_85 : decode bMd_findDifferent 85 = .ok (.getfield 23, 3) := by decide +kernel
theorem dMd_findDifferent_88 : decode bMd_findDifferent 88 = .ok (.iload_n 2, 1) := by decide +kernel
theorem dMd_findDifferent_89 : decode bMd_findDifferent 89 = .ok (.dup2, 1) := by decide +kernel
theorem dMd_findDifferent_90 : decode bMd_findDifferent 90 = .ok (.iaload, 1) := by decide +kernel
theorem dMd_findDifferent_91 : decode bMd_findDifferent 91 = .ok (.iconst 1, 1) := by decide +kernel
theorem dMd_findDifferent_92 : decode bMd_findDifferent 92 = .ok (.iadd, 1) := by decide +kernel
theorem dMd_findDifferent_93 : decode bMd_findDifferent 93 = .ok (.iastore, 1) := by decide +kernel
theorem dMd_findDifferent_94 : decode bMd_findDifferent 94 = .ok (.goto 86, 3) := by decide +kernel
theorem dMd_findDifferent_97 : decode bMd_findDifferent 97 = .ok (.aload_n 0, 1) := by decide +kernel
theorem dMd_findDifferent_98 : decode bMd_findDifferent 98 = .ok (.getfield 108, 3) := by decide +kernel
theorem dMd_findDifferent_101 : decode bMd_findDifferent 101 = .ok (.istore_n 3, 1) := by decide +kernel
theorem dMd_findDifferent_102 : decode bMd_findDifferent 102 = .ok (.iload_n 3, 1) := by decide +kernel
theorem dMd_findDifferent_103 : decode bMd_findDifferent 103 = .ok (.iload_n 2, 1) := by decide +kernel
theorem dMd_findDifferent_104 : decode bMd_findDifferent 104 = .ok (.if_icmp .le 42, 3) := by decide +kernel
theorem dMd_findDifferent_107 : decode bMd_findDifferent 107 = .ok (.aload_n 0, 1) := by decide +kernel
theorem dMd_findDifferent_108 : decode bMd_findDifferent 108 = .ok (.getfield 20, 3) := by decide +kernel
theorem dMd_findDifferent_111 : decode bMd_findDifferent 111 = .ok (.iconst 4, 1) := by decide +kernel
theorem dMd_findDifferent_112 : decode bMd_findDifferent 112 = .ok (.iload_n 3, 1) := by decide +kernel
theorem dMd_findDifferent_113 : decode bMd_findDifferent 113 = .ok (.imul, 1) := by decide +kernel
theorem dMd_findDifferent_114 : decode bMd_findDifferent 114 = .ok (.iconst 4, 1) := by decide +kernel
theorem dMd_findDifferent_115 : decode bMd_findDifferent 115 = .ok (.isub, 1) := by decide +kernel
theorem dMd_findDifferent_116 : decode bMd_findDifferent 116 = .ok (.aload_n 0, 1) := by decide +kernel
theorem dMd_findDifferent_117 : decode bMd_findDifferent 117 = .ok (.getfield 20, 3) := by decide +kernel
theorem dMd_findDifferent_120 : decode bMd_findDifferent 120 = .ok (.iconst 4, 1) := by decide +kernel
theorem dMd_findDifferent_121 : decode bMd_findDifferent 121 = .ok (.iload_n 3, 1) := by decide +kernel
theorem dMd_findDifferent_122 : decode bMd_findDifferent 122 = .ok (.imul, 1) := by decide +kernel
theorem dMd_findDifferent_123 : decode bMd_findDifferent 123 = .ok (.invokestatic 115, 3) := by decide +kernel
theorem dMd_findDifferent_126 : decode bMd_findDifferent 126 = .ok (.aload_n 0, 1) := by decide +kernel
theorem dMd_findDifferent_127 : decode bMd_findDifferent 127 = .ok (.getfield 23, 3) := by decide +kernel
theorem dMd_findDifferent_130 : decode bMd_findDifferent 130 = .ok (.iload_n 3, 1) := by decide +kernel
theorem dMd_findDifferent_131 : decode bMd_findDifferent 131 = .ok (.aload_n 0, 1) := by decide +kernel
theorem dMd_findDifferent_132 : decode bMd_findDifferent 132 = .ok (.getfield 23, 3) := by decide +kernel
theorem dMd_findDifferent_135 : decode bMd_findDifferent 135 = .ok (.iload_n 3, 1) := by decide +kernel
theorem dMd_findDifferent_136 : decode bMd_findDifferent 136 = .ok (.iconst 1, 1) := by decide +kernel
theorem dMd_findDifferent_137 : decode bMd_findDifferent 137 = .ok (.isub, 1) := by decide +kernel
theorem dMd_findDifferent_138 : decode bMd_findDifferent 138 = .ok (.iaload, 1) := by decide +kernel
theorem dMd_findDifferent_139 : decode bMd_findDifferent 139 = .ok (.iastore, 1) := by decide +kernel
theorem dMd_findDifferent_140 : decode bMd_findDifferent 140 = .ok (.iinc 3 (-1), 3) := by decide +kernel
theorem dMd_findDifferent_143 : decode bMd_findDifferent 143 = .ok (.goto (-41), 3) := by decide +kernel
theorem dMd_findDifferent_146 : decode bMd_findDifferent 146 = .ok (.aload_n 0, 1) := by decide +kernel
theorem dMd_findDifferent_147 : decode bMd_findDifferent 147 = .ok (.getfield 7, 3) := by decide +kernel
theorem dMd_findDifferent_150 : decode bMd_findDifferent 150 = .ok (.iconst 4, 1) := by decide +kernel
theorem dMd_findDifferent_151 : decode bMd_findDifferent 151 = .ok (.iload_n 1, 1) := by decide +kernel
theorem dMd_findDifferent_152 : decode bMd_findDifferent 152 = .ok (.imul, 1) := by decide +kernel
theorem dMd_findDifferent_153 : decode bMd_findDifferent 153 = .ok (.aload_n 0, 1) := by decide +kernel
theorem dMd_findDifferent_154 : decode bMd_findDifferent 154 = .ok (.getfield 20, 3) := by decide +kernel
theorem dMd_findDifferent_157 : decode bMd_findDifferent 157 = .ok (.iconst 4, 1) := by decide +kernel
theorem dMd_findDifferent_158 : decode bMd_findDifferent 158 = .ok (.iload_n 2, 1) := by decide +kernel
theorem dMd_findDifferent_159 : decode bMd_findDifferent 159 = .ok (.imul, 1) := by decide +kernel
theorem dMd_findDifferent_160 : decode bMd_findDifferent 160 = .ok (.invokestatic 115, 3) := by decide +kernel
theorem dMd_findDifferent_163 : decode bMd_findDifferent 163 = .ok (.aload_n 0, 1) := by decide +kernel
theorem dMd_findDifferent_164 : decode bMd_findDifferent 164 = .ok (.getfield 23, 3) := by decide +kernel
theorem dMd_findDifferent_167 : decode bMd_findDifferent 167 = .ok (.iload_n 2, 1) := by decide +kernel
theorem dMd_findDifferent_168 : decode bMd_findDifferent 168 = .ok (.iconst 1, 1) := by decide +kernel
theorem dMd_findDifferent_169 : decode bMd_findDifferent 169 = .ok (.iastore, 1) := by decide +kernel
theorem dMd_findDifferent_170 : decode bMd_findDifferent 170 = .ok (.aload_n 0, 1) := by decide +kernel
theorem dMd_findDifferent_171 : decode bMd_findDifferent 171 = .ok (.dup, 1) := by decide +kernel
theorem dMd_findDifferent_172 : decode bMd_findDifferent 172 = .ok (.getfield 108, 3) := by decide +kernel
theorem dMd_findDifferent_175 : decode bMd_findDifferent 175 = .ok (.iconst 1, 1) := by decide +kernel
theorem dMd_findDifferent_176 : decode bMd_findDifferent 176 = .ok (.iadd, 1) := by decide +kernel
theorem dMd_findDifferent_177 : decode bMd_findDifferent 177 = .ok (.putfield 108, 3) := by decide +kernel
theorem dMd_findDifferent_180 : decode bMd_findDifferent 180 = .ok (.iinc 1 1, 3) := by decide +kernel
theorem dMd_findDifferent_183 : decode bMd_findDifferent 183 = .ok (.goto (-176), 3) := by decide +kernel
theorem dMd_findDifferent_186 : decode bMd_findDifferent 186 = .ok (.return_, 1) := by decide +kernel
theorem dMd_compare_0 : decode bMd_compare 0 = .ok (.iconst 0, 1) := by decide +kernel
theorem dMd_compare_1 : decode bMd_compare 1 = .ok (.istore 4, 2) := by decide +kernel
theorem dMd_compare_3 : decode bMd_compare 3 = .ok (.iload 4, 2) := by decide +kernel
theorem dMd_compare_5 : decode bMd_compare 5 = .ok (.iconst 4, 1) := by decide +kernel
theorem dMd_compare_6 : decode bMd_compare 6 = .ok (.if_icmp .ge 38, 3) := by decide +kernel
theorem dMd_compare_9 : decode bMd_compare 9 = .ok (.aload_n 0, 1) := by decide +kernel
theorem dMd_compare_10 : decode bMd_compare 10 = .ok (.iload_n 1, 1) := by decide +kernel
theorem dMd_compare_11 : decode bMd_compare 11 = .ok (.iload 4, 2) := by decide +kernel
theorem dMd_compare_13 : decode bMd_compare 13 = .ok (.iadd, 1) := by decide +kernel
theorem dMd_compare_14 : decode bMd_compare 14 = .ok (.iaload, 1) := by decide +kernel
theorem dMd_compare_15 : decode bMd_compare 15 = .ok (.aload_n 2, 1) := by decide +kernel
theorem dMd_compare_16 : decode bMd_compare 16 = .ok (.iload_n 3, 1) := by decide +kernel
theorem dMd_compare_17 : decode bMd_compare 17 = .ok (.iload 4, 2) := by decide +kernel
theorem dMd_compare_19 : decode bMd_compare 19 = .ok (.iadd, 1) := by decide +kernel
theorem dMd_compare_20 : decode bMd_compare 20 = .ok (.iaload, 1) := by decide +kernel
theorem dMd_compare_21 : decode bMd_compare 21 = .ok (.if_icmp .eq 17, 3) := by decide +kernel
theorem dMd_compare_24 : decode bMd_compare 24 = .ok (.aload_n 0, 1) := by decide +kernel
theorem dMd_compare_25 : decode bMd_compare 25 = .ok (.iload_n 1, 1) := by decide +kernel
theorem dMd_compare_26 : decode bMd_compare 26 = .ok (.iload 4, 2) := by decide +kernel
theorem dMd_compare_28 : decode bMd_compare 28 = .ok (.iadd, 1) := by decide +kernel
theorem dMd_compare_29 : decode bMd_compare 29 = .ok (.iaload, 1) := by decide +kernel
theorem dMd_compare_30 : decode bMd_compare 30 = .ok (.aload_n 2, 1) := by decide +kernel
theorem dMd_compare_31 : decode bMd_compare 31 = .ok (.iload_n 3, 1) := by decide +kernel
theorem dMd_compare_32 : decode bMd_compare 32 = .ok (.iload 4, 2) := by decide +kernel
theorem dMd_compare_34 : decode bMd_compare 34 = .ok (.iadd, 1) := by decide +kernel
theorem dMd_compare_35 : decode bMd_compare 35 = .ok (.iaload, 1) := by decide +kernel
theorem dMd_compare_36 : decode bMd_compare 36 = .ok (.isub, 1) := by decide +kernel
theorem dMd_compare_37 : decode bMd_compare 37 = .ok (.ireturn, 1) := by decide +kernel
theorem dMd_compare_38 : decode bMd_compare 38 = .ok (.iinc 4 1, 3) := by decide +kernel
theorem dMd_compare_41 : decode bMd_compare 41 = .ok (.goto (-38), 3) := by decide +kernel
theorem dMd_compare_44 : decode bMd_compare 44 = .ok (.iconst 0, 1) := by decide +kernel
theorem dMd_compare_45 : decode bMd_compare 45 = .ok (.ireturn, 1) := by decide +kernel
theorem dMd_makeBoxes_0 : decode bMd_makeBoxes 0 = .ok (.aload_n 0, 1) := by decide +kernel
theorem dMd_makeBoxes_1 : decode bMd_makeBoxes 1 = .ok (.iconst 1, 1) := by decide +kernel
theorem dMd_makeBoxes_2 : decode bMd_makeBoxes 2 = .ok (.putfield 130, 3) := by decide +kernel
theorem dMd_makeBoxes_5 : decode bMd_makeBoxes 5 = .ok (.iconst 0, 1) := by decide +kernel
theorem dMd_makeBoxes_6 : decode bMd_makeBoxes 6 = .ok (.istore_n 2, 1) := by decide +kernel
theorem dMd_makeBoxes_7 : decode bMd_makeBoxes 7 = .ok (.iload_n 2, 1) := by decide +kernel
theorem dMd_makeBoxes_8 : decode bMd_makeBoxes 8 = .ok (.aload_n 0, 1) := by decide +kernel
theorem dMd_makeBoxes_9 : decode bMd_makeBoxes 9 = .ok (.getfield 108, 3) := by decide +kernel
theorem dMd_makeBoxes_12 : decode bMd_makeBoxes 12 = .ok (.if_icmp .ge 16, 3) := by decide +kernel
theorem dMd_makeBoxes_15 : decode bMd_makeBoxes 15 = .ok (.aload_n 0, 1) := by decide +kernel
theorem dMd_makeBoxes_16 : decode bMd_makeBoxes 16 = .ok (.getfield 26, 3) := by decide +kernel
theorem dMd_makeBoxes_19 : decode bMd_makeBoxes 19 = .ok (.iload_n 2, 1) := by decide +kernel
theorem dMd_makeBoxes_20 : decode bMd_makeBoxes 20 = .ok (.iconst 0, 1) := by decide +kernel
theorem dMd_makeBoxes_21 : decode bMd_makeBoxes 21 = .ok (.iastore, 1) := by decide +kernel
theorem dMd_makeBoxes_22 : decode bMd_makeBoxes 22 = .ok (.iinc 2 1, 3) := by decide +kernel
theorem dMd_makeBoxes_25 : decode bMd_makeBoxes 25 = .ok (.goto (-18), 3) := by decide +kernel
theorem dMd_makeBoxes_28 : decode bMd_makeBoxes 28 = .ok (.aload_n 0, 1) := by decide +kernel
theorem dMd_makeBoxes_29 : decode bMd_makeBoxes 29 = .ok (.iconst 0, 1) := by decide +kernel
theorem dMd_makeBoxes_30 : decode bMd_makeBoxes 30 = .ok (.invokevirtual 136, 3) := by decide +kernel
theorem dMd_makeBoxes_33 : decode bMd_makeBoxes 33 = .ok (.aload_n 0, 1) := by decide +kernel
theorem dMd_makeBoxes_34 : decode bMd_makeBoxes 34 = .ok (.getfield 130, 3) := by decide +kernel
theorem dMd_makeBoxes_37 : decode bMd_makeBoxes 37 = .ok (.iload_n 1, 1) := by decide +kernel
theorem dMd_makeBoxes_38 : decode bMd_makeBoxes 38 = .ok (.if_icmp .ge 95, 3) := by decide +kernel
theorem dMd_makeBoxes_41 : decode bMd_makeBoxes 41 = .ok (.iconst 0, 1) := by decide +kernel
theorem dMd_makeBoxes_42 : decode bMd_makeBoxes 42 = .ok (.istore_n 2, 1) := by decide +kernel
theorem dMd_makeBoxes_43 : decode bMd_makeBoxes 43 = .ok (.iconst 1, 1) := by decide +kernel
theorem dMd_makeBoxes_44 : decode bMd_makeBoxes 44 = .ok (.istore_n 3, 1) := by decide +kernel
theorem dMd_makeBoxes_45 : decode bMd_makeBoxes 45 = .ok (.iload_n 3, 1) := by decide +kernel
theorem dMd_makeBoxes_46 : decode bMd_makeBoxes 46 = .ok (.aload_n 0, 1) := by decide +kernel
theorem dMd_makeBoxes_47 : decode bMd_makeBoxes 47 = .ok (.getfield 130, 3) := by decide +kernel
theorem dMd_makeBoxes_50 : decode bMd_makeBoxes 50 = .ok (.if_icmp .ge 60, 3) := by decide +kernel
theorem dMd_makeBoxes_53 : decode bMd_makeBoxes 53 = .ok (.aload_n 0, 1) := by decide +kernel
theorem dMd_makeBoxes_54 : decode bMd_makeBoxes 54 = .ok (.getfield 35, 3) := by decide +kernel
theorem dMd_makeBoxes_57 : decode bMd_makeBoxes 57 = .ok (.iload_n 3, 1) := by decide +kernel
theorem dMd_makeBoxes_58 : decode bMd_makeBoxes 58 = .ok (.iaload, 1) := by decide +kernel
theorem dMd_makeBoxes_59 : decode bMd_makeBoxes 59 = .ok (.aload_n 0, 1) := by decide +kernel
theorem dMd_makeBoxes_60 : decode bMd_makeBoxes 60 = .ok (.getfield 35, 3) := by decide +kernel
theorem dMd_makeBoxes_63 : decode bMd_makeBoxes 63 = .ok (.iload_n 2, 1) := by decide +kernel
theorem dMd_makeBoxes_64 : decode bMd_makeBoxes 64 = .ok (.iaload, 1) := by decide +kernel
theorem dMd_makeBoxes_65 : decode bMd_makeBoxes 65 = .ok (.if_icmp .gt 33, 3) := by decide +kernel
theorem dMd_makeBoxes_68 : decode bMd_makeBoxes 68 = .ok (.aload_n 0, 1) := by decide +kernel
theorem dMd_makeBoxes_69 : decode bMd_makeBoxes 69 = .ok (.getfield 35, 3) := by decide +kernel
theorem dMd_makeBoxes_72 : decode bMd_makeBoxes 72 = .ok (.iload_n 3, 1) := by decide +kernel
theorem dMd_makeBoxes_73 : decode bMd_makeBoxes 73 = .ok (.iaload, 1) := by decide +kernel
theorem dMd_makeBoxes_74 : decode bMd_makeBoxes 74 = .ok (.aload_n 0, 1) := by decide +kernel
theorem dMd_makeBoxes_75 : decode bMd_makeBoxes 75 = .ok (.getfield 35, 3) := by decide +kernel
theorem dMd_makeBoxes_78 : decode bMd_makeBoxes 78 = .ok (.iload_n 2, 1) := by decide +kernel
theorem dMd_makeBoxes_79 : decode bMd_makeBoxes 79 = .ok (.iaload, 1) := by decide +kernel
theorem dMd_makeBoxes_80 : decode bMd_makeBoxes 80 = .ok (.if_icmp .ne 22, 3) := by decide +kernel
theorem dMd_makeBoxes_83 : decode bMd_makeBoxes 83 = .ok (.aload_n 0, 1) := by decide +kernel
theorem dMd_makeBoxes_84 : decode bMd_makeBoxes 84 = .ok (.getfield 38, 3) := by decide +kernel
theorem dMd_makeBoxes_87 : decode bMd_makeBoxes 87 = .ok (.iload_n 3, 1) := by decide +kernel
theorem dMd_makeBoxes_88 : decode bMd_makeBoxes 88 = .ok (.iaload, 1) := by decide +kernel
theorem dMd_makeBoxes_89 : decode bMd_makeBoxes 89 = .ok (.aload_n 0, 1) := by decide +kernel
theorem dMd_makeBoxes_90 : decode bMd_makeBoxes 90 = .ok (.getfield 38, 3) := by decide +kernel
theorem dMd_makeBoxes_93 : decode bMd_makeBoxes 93 = .ok (.iload_n 2, 1) := by decide +kernel
theorem dMd_makeBoxes_94 : decode bMd_makeBoxes 94 = .ok (.iaload, 1) := by decide +kernel
theorem dMd_makeBoxes_95 : decode bMd_makeBoxes 95 = .ok (.if_icmp .le 7, 3) := by decide +kernel
theorem dMd_makeBoxes_98 : decode bMd_makeBoxes 98 = .ok (.iload_n 3, 1) := by decide +kernel
theorem dMd_makeBoxes_99 : decode bMd_makeBoxes 99 = .ok (.goto 4, 3) := by decide +kernel
theorem dMd_makeBoxes_102 : decode bMd_makeBoxes 102 = .ok (.iload_n 2, 1) := by decide +kernel
theorem dMd_makeBoxes_103 : decode bMd_makeBoxes 103 = .ok (.istore_n 2, 1) := by decide +kernel
theorem dMd_makeBoxes_104 : decode bMd_makeBoxes 104 = .ok (.iinc 3 1, 3) := by decide +kernel
theorem dMd_makeBoxes_107 : decode bMd_makeBoxes 107 = .ok (.goto (-62), 3) := by decide +kernel
theorem dMd_makeBoxes_110 : decode bMd_makeBoxes 110 = .ok (.aload_n 0, 1) := by decide +kernel
theorem dMd_makeBoxes_111 : decode bMd_makeBoxes 111 = .ok (.iload_n 2, 1) := by decide +kernel
theorem dMd_makeBoxes_112 : decode bMd_makeBoxes 112 = .ok (.invokevirtual 140, 3) := by decide +kernel
theorem dMd_makeBoxes_115 : decode bMd_makeBoxes 115 = .ok (.aload_n 0, 1) := by decide +kernel
theorem dMd_makeBoxes_116 : decode bMd_makeBoxes 116 = .ok (.iload_n 2, 1) := by decide +kernel
theorem dMd_makeBoxes_117 : decode bMd_makeBoxes 117 = .ok (.invokevirtual 136, 3) := by decide +kernel
theorem dMd_makeBoxes_120 : decode bMd_makeBoxes 120 = .ok (.aload_n 0, 1) := by decide +kernel
theorem dMd_makeBoxes_121 : decode bMd_makeBoxes 121 = .ok (.aload_n 0, 1) := by decide +kernel
theorem dMd_makeBoxes_122 : decode bMd_makeBoxes 122 = .ok (.getfield 130, 3) := by decide +kernel
theorem dMd_makeBoxes_125 : decode bMd_makeBoxes 125 = .ok (.iconst 1, 1) := by decide +kernel
theorem dMd_makeBoxes_126 : decode bMd_makeBoxes 126 = .ok (.isub, 1) := by decide +kernel
theorem dMd_makeBoxes_127 : decode bMd_makeBoxes 127 = .ok (.invokevirtual 136, 3) := by decide +kernel
theorem dMd_makeBoxes_130 : decode bMd_makeBoxes 130 = .ok (.goto (-97), 3) := by decide +kernel
theorem dMd_makeBoxes_133 : decode bMd_makeBoxes 133 = .ok (.return_, 1) := by decide +kernel
theorem dMd_look_0 : decode bMd_look 0 = .ok (.aload_n 0, 1) := by decide +kernel
theorem dMd_look_1 : decode bMd_look 1 = .ok (.getfield 35, 3) := by decide +kernel
theorem dMd_look_4 : decode bMd_look 4 = .ok (.iload_n 1, 1) := by decide +kernel
theorem dMd_look_5 : decode bMd_look 5 = .ok (.aload_n 0, 1) := by decide +kernel
theorem dMd_look_6 : decode bMd_look 6 = .ok (.iload_n 1, 1) := by decide +kernel
theorem dMd_look_7 : decode bMd_look 7 = .ok (.invokevirtual 133, 3) := by decide +kernel
theorem dMd_look_10 : decode bMd_look 10 = .ok (.iastore, 1) := by decide +kernel
theorem dMd_look_11 : decode bMd_look 11 = .ok (.aload_n 0, 1) := by decide +kernel
theorem dMd_look_12 : decode bMd_look 12 = .ok (.getfield 38, 3) := by decide +kernel
theorem dMd_look_15 : decode bMd_look 15 = .ok (.iload_n 1, 1) := by decide +kernel
theorem dMd_look_16 : decode bMd_look 16 = .ok (.aload_n 0, 1) := by decide +kernel
theorem dMd_look_17 : decode bMd_look 17 = .ok (.iload_n 1, 1) := by decide +kernel
theorem dMd_look_18 : decode bMd_look 18 = .ok (.invokevirtual 126, 3) := by decide +kernel
theorem dMd_look_21 : decode bMd_look 21 = .ok (.iastore, 1) := by decide +kernel
theorem dMd_look_22 : decode bMd_look 22 = .ok (.return_, 1) := by decide +kernel
theorem dMd_spread_0 : decode bMd_spread 0 = .ok (.iconst (-1), 1) := by decide +kernel
theorem dMd_spread_1 : decode bMd_spread 1 = .ok (.istore_n 2, 1) := by decide +kernel
theorem dMd_spread_2 : decode bMd_spread 2 = .ok (.iconst 0, 1) := by decide +kernel
theorem dMd_spread_3 : decode bMd_spread 3 = .ok (.istore_n 3, 1) := by decide +kernel
theorem dMd_spread_4 : decode bMd_spread 4 = .ok (.iload_n 3, 1) := by decide +kernel
theorem dMd_spread_5 : decode bMd_spread 5 = .ok (.iconst 4, 1) := by decide +kernel
theorem dMd_spread_6 : decode bMd_spread 6 = .ok (.if_icmp .ge 33, 3) := by decide +kernel
theorem dMd_spread_9 : decode bMd_spread 9 = .ok (.aload_n 0, 1) := by decide +kernel
theorem dMd_spread_10 : decode bMd_spread 10 = .ok (.iload_n 1, 1) := by decide +kernel
theorem dMd_spread_11 : decode bMd_spread 11 = .ok (.iload_n 3, 1) := by decide +kernel
theorem dMd_spread_12 : decode bMd_spread 12 = .ok (.invokevirtual 119, 3) := by decide +kernel
theorem dMd_spread_15 : decode bMd_spread 15 = .ok (.istore 4, 2) := by decide +kernel
theorem dMd_spread_17 : decode bMd_spread 17 = .ok (.iload 4, 2) := by decide +kernel
theorem dMd_spread_19 : decode bMd_spread 19 = .ok (.iload_n 2, 1) := by decide +kernel
theorem dMd_spread_20 : decode bMd_spread 20 = .ok (.if_icmp .le 13, 3) := by decide +kernel
theorem dMd_spread_23 : decode bMd_spread 23 = .ok (.iload 4, 2) := by decide +kernel
theorem dMd_spread_25 : decode bMd_spread 25 = .ok (.istore_n 2, 1) := by decide +kernel
theorem dMd_spread_26 : decode bMd_spread 26 = .ok (.aload_n 0, 1) := by decide +kernel
theorem dMd_spread_27 : decode bMd_spread 27 = .ok (.getfield 32, 3) := by decide +kernel
theorem dMd_spread_30 : decode bMd_spread 30 = .ok (.iload_n 1, 1) := by decide +kernel
theorem dMd_spread_31 : decode bMd_spread 31 = .ok (.iload_n 3, 1) := by decide +kernel
theorem dMd_spread_32 : decode bMd_spread 32 = .ok (.iastore, 1) := by decide +kernel
theorem dMd_spread_33 : decode bMd_spread 33 = .ok (.iinc 3 1, 3) := by decide +kernel
theorem dMd_spread_36 : decode bMd_spread 36 = .ok (.goto (-32), 3) := by decide +kernel
theorem dMd_spread_39 : decode bMd_spread 39 = .ok (.iload_n 2, 1) := by decide +kernel
theorem dMd_spread_40 : decode bMd_spread 40 = .ok (.ireturn, 1) := by decide +kernel
theorem dMd_spreadOf_0 : decode bMd_spreadOf 0 = .ok (.sipush 256, 3) := by decide +kernel
theorem dMd_spreadOf_3 : decode bMd_spreadOf 3 = .ok (.istore_n 3, 1) := by decide +kernel
theorem dMd_spreadOf_4 : decode bMd_spreadOf 4 = .ok (.iconst (-1), 1) := by decide +kernel
theorem dMd_spreadOf_5 : decode bMd_spreadOf 5 = .ok (.istore 4, 2) := by decide +kernel
theorem dMd_spreadOf_7 : decode bMd_spreadOf 7 = .ok (.iconst 0, 1) := by decide +kernel
theorem dMd_spreadOf_8 : decode bMd_spreadOf 8 = .ok (.istore 5, 2) := by decide +kernel
theorem dMd_spreadOf_10 : decode bMd_spreadOf 10 = .ok (.iload 5, 2) := by decide +kernel
theorem dMd_spreadOf_12 : decode bMd_spreadOf 12 = .ok (.aload_n 0, 1) := by decide +kernel
theorem dMd_spreadOf_13 : decode bMd_spreadOf 13 = .ok (.getfield 108, 3) := by decide +kernel
theorem dMd_spreadOf_16 : decode bMd_spreadOf 16 = .ok (.if_icmp .ge 62, 3) := by decide +kernel
theorem dMd_spreadOf_19 : decode bMd_spreadOf 19 = .ok (.aload_n 0, 1) := by decide +kernel
theorem dMd_spreadOf_20 : decode bMd_spreadOf 20 = .ok (.getfield 26, 3) := by decide +kernel
theorem dMd_spreadOf_23 : decode bMd_spreadOf 23 = .ok (.iload 5, 2) := by decide +kernel
theorem dMd_spreadOf_25 : decode bMd_spreadOf 25 = .ok (.iaload, 1) := by decide +kernel
theorem dMd_spreadOf_26 : decode bMd_spreadOf 26 = .ok (.iload_n 1, 1) := by decide +kernel
theorem dMd_spreadOf_27 : decode bMd_spreadOf 27 = .ok (.if_icmp .ne 45, 3) := by decide +kernel
theorem dMd_spreadOf_30 : decode bMd_spreadOf 30 = .ok (.aload_n 0, 1) := by decide +kernel
theorem dMd_spreadOf_31 : decode bMd_spreadOf 31 = .ok (.getfield 20, 3) := by decide +kernel
theorem dMd_spreadOf_34 : decode bMd_spreadOf 34 = .ok (.iconst 4, 1) := by decide +kernel
theorem dMd_spreadOf_35 : decode bMd_spreadOf 35 = .ok (.iload 5, 2) := by decide +kernel
theorem dMd_spreadOf_37 : decode bMd_spreadOf 37 = .ok (.imul, 1) := by decide +kernel
theorem dMd_spreadOf_38 : decode bMd_spreadOf 38 = .ok (.iload_n 2, 1) := by decide +kernel
theorem dMd_spreadOf_39 : decode bMd_spreadOf 39 = .ok (.iadd, 1) := by decide +kernel
theorem dMd_spreadOf_40 : decode bMd_spreadOf 40 = .ok (.iaload, 1) := by decide +kernel
theorem dMd_spreadOf_41 : decode bMd_spreadOf 41 = .ok (.istore 6, 2) := by decide +kernel
theorem dMd_spreadOf_43 : decode bMd_spreadOf 43 = .ok (.iload 6, 2) := by decide +kernel
theorem dMd_spreadOf_45 : decode bMd_spreadOf 45 = .ok (.iload_n 3, 1) := by decide +kernel
theorem dMd_spreadOf_46 : decode bMd_spreadOf 46 = .ok (.if_icmp .ge 8, 3) := by decide +kernel
theorem dMd_spreadOf_49 : decode bMd_spreadOf 49 = .ok (.iload 6, 2) := by decide +kernel
theorem dMd_spreadOf_51 : decode bMd_spreadOf 51 = .ok (.goto 4, 3) := by decide +kernel
theorem dMd_spreadOf_54 : decode bMd_spreadOf 54 = .ok (.iload_n 3, 1) := by decide +kernel
theorem dMd_spreadOf_55 : decode bMd_spreadOf 55 = .ok (.istore_n 3, 1) := by decide +kernel
theorem dMd_spreadOf_56 : decode bMd_spreadOf 56 = .ok (.iload 6, 2) := by decide +kernel
theorem dMd_spreadOf_58 : decode bMd_spreadOf 58 = .ok (.iload 4, 2) := by decide +kernel
theorem dMd_spreadOf_60 : decode bMd_spreadOf 60 = .ok (.if_icmp .le 8, 3) := by decide +kernel
theorem dMd_spreadOf_63 : decode bMd_spreadOf 63 = .ok (.iload 6, 2) := by decide +kernel
theorem dMd_spreadOf_65 : decode bMd_spreadOf 65 = .ok (.goto 5, 3) := by decide +kernel
theorem dMd_spreadOf_68 : decode bMd_spreadOf 68 = .ok (.iload 4, 2) := by decide +kernel
theorem dMd_spreadOf_70 : decode bMd_spreadOf 70 = .ok (.istore 4, 2) := by decide +kernel
theorem dMd_spreadOf_72 : decode bMd_spreadOf 72 = .ok (.iinc 5 1, 3) := by decide +kernel
theorem dMd_spreadOf_75 : decode bMd_spreadOf 75 = .ok (.goto (-65), 3) := by decide +kernel
theorem dMd_spreadOf_78 : decode bMd_spreadOf 78 = .ok (.iload 4, 2) := by decide +kernel
theorem dMd_spreadOf_80 : decode bMd_spreadOf 80 = .ok (.iload_n 3, 1) := by decide +kernel
theorem dMd_spreadOf_81 : decode bMd_spreadOf 81 = .ok (.isub, 1) := by decide +kernel
theorem dMd_spreadOf_82 : decode bMd_spreadOf 82 = .ok (.ireturn, 1) := by decide +kernel
theorem dMd_samplesOf_0 : decode bMd_samplesOf 0 = .ok (.iconst 0, 1) := by decide +kernel
theorem dMd_samplesOf_1 : decode bMd_samplesOf 1 = .ok (.istore_n 2, 1) := by decide +kernel
theorem dMd_samplesOf_2 : decode bMd_samplesOf 2 = .ok (.iconst 0, 1) := by decide +kernel
theorem dMd_samplesOf_3 : decode bMd_samplesOf 3 = .ok (.istore_n 3, 1) := by decide +kernel
theorem dMd_samplesOf_4 : decode bMd_samplesOf 4 = .ok (.iload_n 3, 1) := by decide +kernel
theorem dMd_samplesOf_5 : decode bMd_samplesOf 5 = .ok (.aload_n 0, 1) := by decide +kernel
theorem dMd_samplesOf_6 : decode bMd_samplesOf 6 = .ok (.getfield 108, 3) := by decide +kernel
theorem dMd_samplesOf_9 : decode bMd_samplesOf 9 = .ok (.if_icmp .ge 32, 3) := by decide +kernel
theorem dMd_samplesOf_12 : decode bMd_samplesOf 12 = .ok (.iload_n 2, 1) := by decide +kernel
theorem dMd_samplesOf_13 : decode bMd_samplesOf 13 = .ok (.aload_n 0, 1) := by decide +kernel
theorem dMd_samplesOf_14 : decode bMd_samplesOf 14 = .ok (.getfield 26, 3) := by decide +kernel
theorem dMd_samplesOf_17 : decode bMd_samplesOf 17 = .ok (.iload_n 3, 1) := by decide +kernel
theorem dMd_samplesOf_18 : decode bMd_samplesOf 18 = .ok (.iaload, 1) := by decide +kernel
theorem dMd_samplesOf_19 : decode bMd_samplesOf 19 = .ok (.iload_n 1, 1) := by decide +kernel
theorem dMd_samplesOf_20 : decode bMd_samplesOf 20 = .ok (.if_icmp .ne 12, 3) := by decide +kernel
theorem dMd_samplesOf_23 : decode bMd_samplesOf 23 = .ok (.aload_n 0, 1) := by decide +kernel
theorem dMd_samplesOf_24 : decode bMd_samplesOf 24 = .ok (.getfield 23, 3) := by decide +kernel
theorem dMd_samplesOf_27 : decode bMd_samplesOf 27 = .ok (.iload_n 3, 1) := by decide +kernel
theorem dMd_samplesOf_28 : decode bMd_samplesOf 28 = .ok (.iaload, 1) := by decide +kernel
theorem dMd_samplesOf_29 : decode bMd_samplesOf 29 = .ok (.goto 4, 3) := by decide +kernel
theorem dMd_samplesOf_32 : decode bMd_samplesOf 32 = .ok (.iconst 0, 1) := by decide +kernel
theorem dMd_samplesOf_33 : decode bMd_samplesOf 33 = .ok (.iadd, 1) := by decide +kernel
theorem dMd_samplesOf_34 : decode bMd_samplesOf 34 = .ok (.istore_n 2, 1) := by decide +kernel
theorem dMd_samplesOf_35 : decode bMd_samplesOf 35 = .ok (.iinc 3 1, 3) := by decide +kernel
theorem dMd_samplesOf_38 : decode bMd_samplesOf 38 = .ok (.goto (-34), 3) := by decide +kernel
theorem dMd_samplesOf_41 : decode bMd_samplesOf 41 = .ok (.iload_n 2, 1) := by decide +kernel
theorem dMd_samplesOf_42 : decode bMd_samplesOf 42 = .ok (.ireturn, 1) := by decide +kernel
