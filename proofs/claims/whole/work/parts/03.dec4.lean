theorem dMd_cut_0 : decode bMd_cut 0 = .ok (.aload_n 0, 1) := by decide +kernel
theorem dMd_cut_1 : decode bMd_cut 1 = .ok (.getfield 32, 3) := by decide +kernel
theorem dMd_cut_4 : decode bMd_cut 4 = .ok (.iload_n 1, 1) := by decide +kernel
theorem dMd_cut_5 : decode bMd_cut 5 = .ok (.iaload, 1) := by decide +kernel
theorem dMd_cut_6 : decode bMd_cut 6 = .ok (.istore_n 2, 1) := by decide +kernel
theorem dMd_cut_7 : decode bMd_cut 7 = .ok (.aload_n 0, 1) := by decide +kernel
theorem dMd_cut_8 : decode bMd_cut 8 = .ok (.iconst 0, 1) := by decide +kernel
theorem dMd_cut_9 : decode bMd_cut 9 = .ok (.putfield 123, 3) := by decide +kernel
theorem dMd_cut_12 : decode bMd_cut 12 = .ok (.iconst 0, 1) := by decide +kernel
theorem dMd_cut_13 : decode bMd_cut 13 = .ok (.istore_n 3, 1) := by decide +kernel
theorem dMd_cut_14 : decode bMd_cut 14 = .ok (.iload_n 3, 1) := by decide +kernel
theorem dMd_cut_15 : decode bMd_cut 15 = .ok (.aload_n 0, 1) := by decide +kernel
theorem dMd_cut_16 : decode bMd_cut 16 = .ok (.getfield 108, 3) := by decide +kernel
theorem dMd_cut_19 : decode bMd_cut 19 = .ok (.if_icmp .ge 101, 3) := by decide +kernel
theorem dMd_cut_22 : decode bMd_cut 22 = .ok (.aload_n 0, 1) := by decide +kernel
theorem dMd_cut_23 : decode bMd_cut 23 = .ok (.getfield 26, 3) := by decide +kernel
theorem dMd_cut_26 : decode bMd_cut 26 = .ok (.iload_n 3, 1) := by decide +kernel
theorem dMd_cut_27 : decode bMd_cut 27 = .ok (.iaload, 1) := by decide +kernel
theorem dMd_cut_28 : decode bMd_cut 28 = .ok (.iload_n 1, 1) := by decide +kernel
theorem dMd_cut_29 : decode bMd_cut 29 = .ok (.if_icmp .ne 85, 3) := by decide +kernel
theorem dMd_cut_32 : decode bMd_cut 32 = .ok (.aload_n 0, 1) := by decide +kernel
theorem dMd_cut_33 : decode bMd_cut 33 = .ok (.getfield 123, 3) := by decide +kernel
theorem dMd_cut_36 : decode bMd_cut 36 = .ok (.istore 4, 2) := by decide +kernel
theorem dMd_cut_38 : decode bMd_cut 38 = .ok (.iload 4, 2) := by decide +kernel
theorem dMd_cut_40 : decode bMd_cut 40 = .ok (.ifCond .le 56, 3) := by decide +kernel
theorem dMd_cut_43 : decode bMd_cut 43 = .ok (.aload_n 0, 1) := by decide +kernel
theorem dMd_cut_44 : decode bMd_cut 44 = .ok (.getfield 20, 3) := by decide +kernel
theorem dMd_cut_47 : decode bMd_cut 47 = .ok (.iconst 4, 1) := by decide +kernel
theorem dMd_cut_48 : decode bMd_cut 48 = .ok (.aload_n 0, 1) := by decide +kernel
theorem dMd_cut_49 : decode bMd_cut 49 = .ok (.getfield 29, 3) := by decide +kernel
theorem dMd_cut_52 : decode bMd_cut 52 = .ok (.iload 4, 2) := by decide +kernel
theorem dMd_cut_54 : decode bMd_cut 54 = .ok (.iconst 1, 1) := by decide +kernel
theorem dMd_cut_55 : decode bMd_cut 55 = .ok (.isub, 1) := by decide +kernel
theorem dMd_cut_56 : decode bMd_cut 56 = .ok (.iaload, 1) := by decide +kernel
theorem dMd_cut_57 : decode bMd_cut 57 = .ok (.imul, 1) := by decide +kernel
theorem dMd_cut_58 : decode bMd_cut 58 = .ok (.iload_n 2, 1) := by decide +kernel
theorem dMd_cut_59 : decode bMd_cut 59 = .ok (.iadd, 1) := by decide +kernel
theorem dMd_cut_60 : decode bMd_cut 60 = .ok (.iaload, 1) := by decide +kernel
theorem dMd_cut_61 : decode bMd_cut 61 = .ok (.aload_n 0, 1) := by decide +kernel
theorem dMd_cut_62 : decode bMd_cut 62 = .ok (.getfield 20, 3) := by decide +kernel
theorem dMd_cut_65 : decode bMd_cut 65 = .ok (.iconst 4, 1) := by decide +kernel
theorem dMd_cut_66 : decode bMd_cut 66 = .ok (.iload_n 3, 1) := by decide +kernel
theorem dMd_cut_67 : decode bMd_cut 67 = .ok (.imul, 1) := by decide +kernel
theorem dMd_cut_68 : decode bMd_cut 68 = .ok (.iload_n 2, 1) := by decide +kernel
theorem dMd_cut_69 : decode bMd_cut 69 = .ok (.iadd, 1) := by decide +kernel
theorem dMd_cut_70 : decode bMd_cut 70 = .ok (.iaload, 1) := by decide +kernel
theorem dMd_cut_71 : decode bMd_cut 71 = .ok (.if_icmp .le 25, 3) := by decide +kernel
theorem dMd_cut_74 : decode bMd_cut 74 = .ok (.aload_n 0, 1) := by decide +kernel
theorem dMd_cut_75 : decode bMd_cut 75 = .ok (.getfield 29, 3) := by decide +kernel
theorem dMd_cut_78 : decode bMd_cut 78 = .ok (.iload 4, 2) := by decide +kernel
theorem dMd_cut_80 : decode bMd_cut 80 = .ok (.aload_n 0, 1) := by decide +kernel
theorem dMd_cut_81 : decode bMd_cut 81 = .ok (.getfield 29, 3) := by decide +kernel
theorem dMd_cut_84 : decode bMd_cut 84 = .ok (.iload 4, 2) := by decide +kernel
theorem dMd_cut_86 : decode bMd_cut 86 = .ok (.iconst 1, 1) := by decide +kernel
theorem dMd_cut_87 : decode bMd_cut 87 = .ok (.isub, 1) := by decide +kernel
theorem dMd_cut_88 : decode bMd_cut 88 = .ok (.iaload, 1) := by decide +kernel
theorem dMd_cut_89 : decode bMd_cut 89 = .ok (.iastore, 1) := by decide +kernel
theorem dMd_cut_90 : decode bMd_cut 90 = .ok (.iinc 4 (-1), 3) := by decide +kernel
theorem dMd_cut_93 : decode bMd_cut 93 = .ok (.goto (-55), 3) := by decide +kernel
theorem dMd_cut_96 : decode bMd_cut 96 = .ok (.aload_n 0, 1) := by decide +kernel
theorem dMd_cut_97 : decode bMd_cut 97 = .ok (.getfield 29, 3) := by decide +kernel
theorem dMd_cut_100 : decode bMd_cut 100 = .ok (.iload 4, 2) := by decide +kernel
theorem dMd_cut_102 : decode bMd_cut 102 = .ok (.iload_n 3, 1) := by decide +kernel
theorem dMd_cut_103 : decode bMd_cut 103 = .ok (.iastore, 1) := by decide +kernel
theorem dMd_cut_104 : decode bMd_cut 104 = .ok (.aload_n 0, 1) := by decide +kernel
theorem dMd_cut_105 : decode bMd_cut 105 = .ok (.dup, 1) := by decide +kernel
theorem dMd_cut_106 : decode bMd_cut 106 = .ok (.getfield 123, 3) := by decide +kernel
theorem dMd_cut_109 : decode bMd_cut 109 = .ok (.iconst 1, 1) := by decide +kernel
theorem dMd_cut_110 : decode bMd_cut 110 = .ok (.iadd, 1) := by decide +kernel
theorem dMd_cut_111 : decode bMd_cut 111 = .ok (.putfield 123, 3) := by decide +kernel
theorem dMd_cut_114 : decode bMd_cut 114 = .ok (.iinc 3 1, 3) := by decide +kernel
theorem dMd_cut_117 : decode bMd_cut 117 = .ok (.goto (-103), 3) := by decide +kernel
theorem dMd_cut_120 : decode bMd_cut 120 = .ok (.aload_n 0, 1) := by decide +kernel
theorem dMd_cut_121 : decode bMd_cut 121 = .ok (.iload_n 1, 1) := by decide +kernel
theorem dMd_cut_122 : decode bMd_cut 122 = .ok (.invokevirtual 126, 3) := by decide +kernel
theorem dMd_cut_125 : decode bMd_cut 125 = .ok (.istore_n 3, 1) := by decide +kernel
theorem dMd_cut_126 : decode bMd_cut 126 = .ok (.iload_n 3, 1) := by decide +kernel
theorem dMd_cut_127 : decode bMd_cut 127 = .ok (.istore 4, 2) := by decide +kernel
theorem dMd_cut_129 : decode bMd_cut 129 = .ok (.aload_n 0, 1) := by decide +kernel
theorem dMd_cut_130 : decode bMd_cut 130 = .ok (.getfield 123, 3) := by decide +kernel
theorem dMd_cut_133 : decode bMd_cut 133 = .ok (.iconst 1, 1) := by decide +kernel
theorem dMd_cut_134 : decode bMd_cut 134 = .ok (.isub, 1) := by decide +kernel
theorem dMd_cut_135 : decode bMd_cut 135 = .ok (.istore 5, 2) := by decide +kernel
theorem dMd_cut_137 : decode bMd_cut 137 = .ok (.iconst 1, 1) := by decide +kernel
theorem dMd_cut_138 : decode bMd_cut 138 = .ok (.istore 6, 2) := by decide +kernel
theorem dMd_cut_140 : decode bMd_cut 140 = .ok (.iload 6, 2) := by decide +kernel
theorem dMd_cut_142 : decode bMd_cut 142 = .ok (.ifCond .eq 75, 3) := by decide +kernel
theorem dMd_cut_145 : decode bMd_cut 145 = .ok (.iload 4, 2) := by decide +kernel
theorem dMd_cut_147 : decode bMd_cut 147 = .ok (.aload_n 0, 1) := by decide +kernel
theorem dMd_cut_148 : decode bMd_cut 148 = .ok (.getfield 23, 3) := by decide +kernel
theorem dMd_cut_151 : decode bMd_cut 151 = .ok (.aload_n 0, 1) := by decide +kernel
theorem dMd_cut_152 : decode bMd_cut 152 = .ok (.getfield 29, 3) := by decide +kernel
theorem dMd_cut_155 : decode bMd_cut 155 = .ok (.iload 5, 2) := by decide +kernel
theorem dMd_cut_157 : decode bMd_cut 157 = .ok (.iaload, 1) := by decide +kernel
theorem dMd_cut_158 : decode bMd_cut 158 = .ok (.iaload, 1) := by decide +kernel
theorem dMd_cut_159 : decode bMd_cut 159 = .ok (.isub, 1) := by decide +kernel
theorem dMd_cut_160 : decode bMd_cut 160 = .ok (.istore 4, 2) := by decide +kernel
theorem dMd_cut_162 : decode bMd_cut 162 = .ok (.aload_n 0, 1) := by decide +kernel
theorem dMd_cut_163 : decode bMd_cut 163 = .ok (.getfield 26, 3) := by decide +kernel
theorem dMd_cut_166 : decode bMd_cut 166 = .ok (.aload_n 0, 1) := by decide +kernel
theorem dMd_cut_167 : decode bMd_cut 167 = .ok (.getfield 29, 3) := by decide +kernel
theorem dMd_cut_170 : decode bMd_cut 170 = .ok (.iload 5, 2) := by decide +kernel
theorem dMd_cut_172 : decode bMd_cut 172 = .ok (.iaload, 1) := by decide +kernel
theorem dMd_cut_173 : decode bMd_cut 173 = .ok (.aload_n 0, 1) := by decide +kernel
theorem dMd_cut_174 : decode bMd_cut 174 = .ok (.getfield 130, 3) := by decide +kernel
theorem dMd_cut_177 : decode bMd_cut 177 = .ok (.iastore, 1) := by decide +kernel
theorem dMd_cut_178 : decode bMd_cut 178 = .ok (.iinc 5 (-1), 3) := by decide +kernel
theorem dMd_cut_181 : decode bMd_cut 181 = .ok (.iload 5, 2) := by decide +kernel
theorem dMd_cut_183 : decode bMd_cut 183 = .ok (.ifCond .le 28, 3) := by decide +kernel
theorem dMd_cut_186 : decode bMd_cut 186 = .ok (.iconst 2, 1) := by decide +kernel
theorem dMd_cut_187 : decode bMd_cut 187 = .ok (.iload 4, 2) := by decide +kernel
theorem dMd_cut_189 : decode bMd_cut 189 = .ok (.aload_n 0, 1) := by decide +kernel
theorem dMd_cut_190 : decode bMd_cut 190 = .ok (.getfield 23, 3) := by decide +kernel
theorem dMd_cut_193 : decode bMd_cut 193 = .ok (.aload_n 0, 1) := by decide +kernel
theorem dMd_cut_194 : decode bMd_cut 194 = .ok (.getfield 29, 3) := by decide +kernel
theorem dMd_cut_197 : decode bMd_cut 197 = .ok (.iload 5, 2) := by decide +kernel
theorem dMd_cut_199 : decode bMd_cut 199 = .ok (.iaload, 1) := by decide +kernel
theorem dMd_cut_200 : decode bMd_cut 200 = .ok (.iaload, 1) := by decide +kernel
theorem dMd_cut_201 : decode bMd_cut 201 = .ok (.isub, 1) := by decide +kernel
theorem dMd_cut_202 : decode bMd_cut 202 = .ok (.imul, 1) := by decide +kernel
theorem dMd_cut_203 : decode bMd_cut 203 = .ok (.iload_n 3, 1) := by decide +kernel
theorem dMd_cut_204 : decode bMd_cut 204 = .ok (.if_icmp .lt 7, 3) := by decide +kernel
theorem dMd_cut_207 : decode bMd_cut 207 = .ok (.iconst 1, 1) := by decide +kernel
theorem dMd_cut_208 : decode bMd_cut 208 = .ok (.goto 4, 3) := by decide +kernel
theorem dMd_cut_211 : decode bMd_cut 211 = .ok (.iconst 0, 1) := by decide +kernel
theorem dMd_cut_212 : decode bMd_cut 212 = .ok (.istore 6, 2) := by decide +kernel
theorem dMd_cut_214 : decode bMd_cut 214 = .ok (.goto (-74), 3) := by decide +kernel
theorem dMd_cut_217 : decode bMd_cut 217 = .ok (.aload_n 0, 1) := by decide +kernel
theorem dMd_cut_218 : decode bMd_cut 218 = .ok (.dup, 1) := by decide +kernel
theorem dMd_cut_219 : decode bMd_cut 219 = .ok (.getfield 130, 3) := by decide +kernel
theorem dMd_cut_222 : decode bMd_cut 222 = .ok (.iconst 1, 1) := by decide +kernel
theorem dMd_cut_223 : decode bMd_cut 223 = .ok (.iadd, 1) := by decide +kernel
theorem dMd_cut_224 : decode bMd_cut 224 = .ok (.putfield 130, 3) := by decide +kernel
theorem dMd_cut_227 : decode bMd_cut 227 = .ok (.return_, 1) := by decide +kernel
theorem dMd_findMean_0 : decode bMd_findMean 0 = .ok (.lconst 0, 1) := by decide +kernel
theorem dMd_findMean_1 : decode bMd_findMean 1 = .ok (.lstore_n 2, 1) := by decide +kernel
theorem dMd_findMean_2 : decode bMd_findMean 2 = .ok (.iconst 0, 1) := by decide +kernel
theorem dMd_findMean_3 : decode bMd_findMean 3 = .ok (.istore 4, 2) := by decide +kernel
theorem dMd_findMean_5 : decode bMd_findMean 5 = .ok (.iload 4, 2) := by decide +kernel
theorem dMd_findMean_7 : decode bMd_findMean 7 = .ok (.iconst 4, 1) := by decide +kernel
theorem dMd_findMean_8 : decode bMd_findMean 8 = .ok (.if_icmp .ge 17, 3) := by decide +kernel
theorem dMd_findMean_11 : decode bMd_findMean 11 = .ok (.aload_n 0, 1) := by decide +kernel
theorem dMd_findMean_12 : decode bMd_findMean 12 = .ok (.getfield 51, 3) := by decide +kernel
theorem dMd_findMean_15 : decode bMd_findMean 15 = .ok (.iload 4, 2) := by decide +kernel
theorem dMd_findMean_17 : decode bMd_findMean 17 = .ok (.lconst 0, 1) := by decide +kernel
theorem dMd_findMean_18 : decode bMd_findMean 18 = .ok (.lastore, 1) := by decide +kernel
theorem dMd_findMean_19 : decode bMd_findMean 19 = .ok (.iinc 4 1, 3) := by decide +kernel
theorem dMd_findMean_22 : decode bMd_findMean 22 = .ok (.goto (-17), 3) := by decide +kernel
theorem dMd_findMean_25 : decode bMd_findMean 25 = .ok (.iconst 0, 1) := by decide +kernel
theorem dMd_findMean_26 : decode bMd_findMean 26 = .ok (.istore 4, 2) := by decide +kernel
theorem dMd_findMean_28 : decode bMd_findMean 28 = .ok (.iload 4, 2) := by decide +kernel
theorem dMd_findMean_30 : decode bMd_findMean 30 = .ok (.aload_n 0, 1) := by decide +kernel
theorem dMd_findMean_31 : decode bMd_findMean 31 = .ok (.getfield 108, 3) := by decide +kernel
theorem dMd_findMean_34 : decode bMd_findMean 34 = .ok (.if_icmp .ge 78, 3) := by decide +kernel
theorem dMd_findMean_37 : decode bMd_findMean 37 = .ok (.aload_n 0, 1) := by decide +kernel
theorem dMd_findMean_38 : decode bMd_findMean 38 = .ok (.getfield 26, 3) := by decide +kernel
theorem dMd_findMean_41 : decode bMd_findMean 41 = .ok (.iload 4, 2) := by decide +kernel
theorem dMd_findMean_43 : decode bMd_findMean 43 = .ok (.iaload, 1) := by decide +kernel
theorem dMd_findMean_44 : decode bMd_findMean 44 = .ok (.iload_n 1, 1) := by decide +kernel
theorem dMd_findMean_45 : decode bMd_findMean 45 = .ok (.if_icmp .ne 61, 3) := by decide +kernel
theorem dMd_findMean_48 : decode bMd_findMean 48 = .ok (.lload_n 2, 1) := by decide +kernel
theorem dMd_findMean_49 : decode bMd_findMean 49 = .ok (.aload_n 0, 1) := by decide +kernel
theorem dMd_findMean_50 : decode bMd_findMean 50 = .ok (.getfield 23, 3) := by decide +kernel
theorem dMd_findMean_53 : decode bMd_findMean 53 = .ok (.iload 4, 2) := by decide +kernel
theorem dMd_findMean_55 : decode bMd_findMean 55 = .ok (.iaload, 1) := by decide +kernel
theorem dMd_findMean_56 : decode bMd_findMean 56 = .ok (.i2l, 1) := by decide +kernel
theorem dMd_findMean_57 : decode bMd_findMean 57 = .ok (.ladd, 1) := by decide +kernel
theorem dMd_findMean_58 : decode bMd_findMean 58 = .ok (.lstore_n 2, 1) := by decide +kernel
theorem dMd_findMean_59 : decode bMd_findMean 59 = .ok (.iconst 0, 1) := by decide +kernel
theorem dMd_findMean_60 : decode bMd_findMean 60 = .ok (.istore 5, 2) := by decide +kernel
theorem dMd_findMean_62 : decode bMd_findMean 62 = .ok (.iload 5, 2) := by decide +kernel
theorem dMd_findMean_64 : decode bMd_findMean 64 = .ok (.iconst 4, 1) := by decide +kernel
theorem dMd_findMean_65 : decode bMd_findMean 65 = .ok (.if_icmp .ge 41, 3) := by decide +kernel
theorem dMd_findMean_68 : decode bMd_findMean 68 = .ok (.aload_n 0, 1) := by decide +kernel
theorem dMd_findMean_69 : decode bMd_findMean 69 = .ok (.getfield 51, 3) := by decide +kernel
theorem dMd_findMean_72 : decode bMd_findMean 72 = .ok (.iload 5, 2) := by decide +kernel
theorem dMd_findMean_74 : decode bMd_findMean 74 = .ok (.dup2, 1) := by decide +kernel
theorem dMd_findMean_75 : decode bMd_findMean 75 = .ok (.laload, 1) := by decide +kernel
theorem dMd_findMean_76 : decode bMd_findMean 76 = .ok (.aload_n 0, 1) := by decide +kernel
theorem dMd_findMean_77 : decode bMd_findMean 77 = .ok (.getfield 23, 3) := by decide +kernel
theorem dMd_findMean_80 : decode bMd_findMean 80 = .ok (.iload 4, 2) := by decide +kernel
theorem dMd_findMean_82 : decode bMd_findMean 82 = .ok (.iaload, 1) := by decide +kernel
theorem dMd_findMean_83 : decode bMd_findMean 83 = .ok (.i2l, 1) := by decide +kernel
theorem dMd_findMean_84 : decode bMd_findMean 84 = .ok (.aload_n 0, 1) := by decide +kernel
theorem dMd_findMean_85 : decode bMd_findMean 85 = .ok (.getfield 20, 3) := by decide +kernel
theorem dMd_findMean_88 : decode bMd_findMean 88 = .ok (.iconst 4, 1) := by decide +kernel
theorem dMd_findMean_89 : decode bMd_findMean 89 = .ok (.iload 4, 2) := by decide +kernel
theorem dMd_findMean_91 : decode bMd_findMean 91 = .ok (.imul, 1) := by decide +kernel
theorem dMd_findMean_92 : decode bMd_findMean 92 = .ok (.iload 5, 2) := by decide +kernel
theorem dMd_findMean_94 : decode bMd_findMean 94 = .ok (.iadd, 1) := by decide +kernel
theorem dMd_findMean_95 : decode bMd_findMean 95 = .ok (.iaload, 1) := by decide +kernel
theorem dMd_findMean_96 : decode bMd_findMean 96 = .ok (.i2l, 1) := by decide +kernel
theorem dMd_findMean_97 : decode bMd_findMean 97 = .ok (.lmul, 1) := by decide +kernel
theorem dMd_findMean_98 : decode bMd_findMean 98 = .ok (.ladd, 1) := by decide +kernel
theorem dMd_findMean_99 : decode bMd_findMean 99 = .ok (.lastore, 1) := by decide +kernel
theorem dMd_findMean_100 : decode bMd_findMean 100 = .ok (.iinc 5 1, 3) := by decide +kernel
theorem dMd_findMean_103 : decode bMd_findMean 103 = .ok (.goto (-41), 3) := by decide +kernel
theorem dMd_findMean_106 : decode bMd_findMean 106 = .ok (.iinc 4 1, 3) := by decide +kernel
theorem dMd_findMean_109 : decode bMd_findMean 109 = .ok (.goto (-81), 3) := by decide +kernel
theorem dMd_findMean_112 : decode bMd_findMean 112 = .ok (.aload_n 0, 1) := by decide +kernel
theorem dMd_findMean_113 : decode bMd_findMean 113 = .ok (.getfield 44, 3) := by decide +kernel
theorem dMd_findMean_116 : decode bMd_findMean 116 = .ok (.iload_n 1, 1) := by decide +kernel
theorem dMd_findMean_117 : decode bMd_findMean 117 = .ok (.lload_n 2, 1) := by decide +kernel
theorem dMd_findMean_118 : decode bMd_findMean 118 = .ok (.lastore, 1) := by decide +kernel
theorem dMd_findMean_119 : decode bMd_findMean 119 = .ok (.iconst 0, 1) := by decide +kernel
theorem dMd_findMean_120 : decode bMd_findMean 120 = .ok (.istore 4, 2) := by decide +kernel
theorem dMd_findMean_122 : decode bMd_findMean 122 = .ok (.iload 4, 2) := by decide +kernel
theorem dMd_findMean_124 : decode bMd_findMean 124 = .ok (.iconst 4, 1) := by decide +kernel
theorem dMd_findMean_125 : decode bMd_findMean 125 = .ok (.if_icmp .ge 40, 3) := by decide +kernel
theorem dMd_findMean_128 : decode bMd_findMean 128 = .ok (.aload_n 0, 1) := by decide +kernel
theorem dMd_findMean_129 : decode bMd_findMean 129 = .ok (.getfield 48, 3) := by decide +kernel
theorem dMd_findMean_132 : decode bMd_findMean 132 = .ok (.iconst 4, 1) := by decide +kernel
theorem dMd_findMean_133 : decode bMd_findMean 133 = .ok (.iload_n 1, 1) := by decide +kernel
theorem dMd_findMean_134 : decode bMd_findMean 134 = .ok (.imul, 1) := by decide +kernel
theorem dMd_findMean_135 : decode bMd_findMean 135 = .ok (.iload 4, 2) := by decide +kernel
theorem dMd_findMean_137 : decode bMd_findMean 137 = .ok (.iadd, 1) := by decide +kernel
theorem dMd_findMean_138 : decode bMd_findMean 138 = .ok (.ldc2_w 143, 3) := by decide +kernel
theorem dMd_findMean_141 : decode bMd_findMean 141 = .ok (.aload_n 0, 1) := by decide +kernel
theorem dMd_findMean_142 : decode bMd_findMean 142 = .ok (.getfield 51, 3) := by decide +kernel
theorem dMd_findMean_145 : decode bMd_findMean 145 = .ok (.iload 4, 2) := by decide +kernel
theorem dMd_findMean_147 : decode bMd_findMean 147 = .ok (.laload, 1) := by decide +kernel
theorem dMd_findMean_148 : decode bMd_findMean 148 = .ok (.lmul, 1) := by decide +kernel
theorem dMd_findMean_149 : decode bMd_findMean 149 = .ok (.lload_n 2, 1) := by decide +kernel
theorem dMd_findMean_150 : decode bMd_findMean 150 = .ok (.ladd, 1) := by decide +kernel
theorem dMd_findMean_151 : decode bMd_findMean 151 = .ok (.ldc2_w 143, 3) := by decide +kernel
theorem dMd_findMean_154 : decode bMd_findMean 154 = .ok (.lload_n 2, 1) := by decide +kernel
theorem dMd_findMean_155 : decode bMd_findMean 155 = .ok (.lmul, 1) := by decide +kernel
theorem dMd_findMean_156 : decode bMd_findMean 156 = .ok (.ldiv, 1) := by decide +kernel
theorem dMd_findMean_157 : decode bMd_findMean 157 = .ok (.l2i, 1) := by decide +kernel
theorem dMd_findMean_158 : decode bMd_findMean 158 = .ok (.iastore, 1) := by decide +kernel
theorem dMd_findMean_159 : decode bMd_findMean 159 = .ok (.iinc 4 1, 3) := by decide +kernel
theorem dMd_findMean_162 : decode bMd_findMean 162 = .ok (.goto (-40), 3) := by decide +kernel
theorem dMd_findMean_165 : decode bMd_findMean 165 = .ok (.return_, 1) := by decide +kernel
theorem dMd_join_0 : decode bMd_join 0 = .ok (.aload_n 0, 1) := by decide +kernel
theorem dMd_join_1 : decode bMd_join 1 = .ok (.getfield 108, 3) := by decide +kernel
theorem dMd_join_4 : decode bMd_join 4 = .ok (.bipush 40, 2) := by decide +kernel
theorem dMd_join_6 : decode bMd_join 6 = .ok (.if_icmp .le 12, 3) := by decide +kernel
theorem dMd_join_9 : decode bMd_join 9 = .ok (.aload_n 0, 1) := by decide +kernel
theorem dMd_join_10 : decode bMd_join 10 = .ok (.bipush 40, 2) := by decide +kernel
theorem dMd_join_12 : decode bMd_join 12 = .ok (.invokevirtual 145, 3) := by decide +kernel
theorem dMd_join_15 : decode bMd_join 15 = .ok (.goto 34, 3) := by decide +kernel
theorem dMd_join_18 : decode bMd_join 18 = .ok (.aload_n 0, 1) := by decide +kernel
theorem dMd_join_19 : decode bMd_join 19 = .ok (.aload_n 0, 1) := by decide +kernel
theorem dMd_join_20 : decode bMd_join 20 = .ok (.getfield 108, 3) := by decide +kernel
theorem dMd_join_23 : decode bMd_join 23 = .ok (.putfield 130, 3) := by decide +kernel
theorem dMd_join_26 : decode bMd_join 26 = .ok (.iconst 0, 1) := by decide +kernel
theorem dMd_join_27 : decode bMd_join 27 = .ok (.istore_n 2, 1) := by decide +kernel
theorem dMd_join_28 : decode bMd_join 28 = .ok (.iload_n 2, 1) := by decide +kernel
theorem dMd_join_29 : decode bMd_join 29 = .ok (.aload_n 0, 1) := by decide +kernel
theorem dMd_join_30 : decode bMd_join 30 = .ok (.getfield 108, 3) := by decide +kernel
theorem dMd_join_33 : decode bMd_join 33 = .ok (.if_icmp .ge 16, 3) := by decide +kernel
theorem dMd_join_36 : decode bMd_join 36 = .ok (.aload_n 0, 1) := by decide +kernel
theorem dMd_join_37 : decode bMd_join 37 = .ok (.getfield 26, 3) := by decide +kernel
theorem dMd_join_40 : decode bMd_join 40 = .ok (.iload_n 2, 1) := by decide +kernel
theorem dMd_join_41 : decode bMd_join 41 = .ok (.iload_n 2, 1) := by decide +kernel
theorem dMd_join_42 : decode bMd_join 42 = .ok (.iastore, 1) := by decide +kernel
theorem dMd_join_43 : decode bMd_join 43 = .ok (.iinc 2 1, 3) := by decide +kernel
theorem dMd_join_46 : decode bMd_join 46 = .ok (.goto (-18), 3) := by decide +kernel
theorem dMd_join_49 : decode bMd_join 49 = .ok (.iconst 0, 1) := by decide +kernel
theorem dMd_join_50 : decode bMd_join 50 = .ok (.istore_n 2, 1) := by decide +kernel
theorem dMd_join_51 : decode bMd_join 51 = .ok (.iload_n 2, 1) := by decide +kernel
theorem dMd_join_52 : decode bMd_join 52 = .ok (.aload_n 0, 1) := by decide +kernel
theorem dMd_join_53 : decode bMd_join 53 = .ok (.getfield 130, 3) := by decide +kernel
theorem dMd_join_56 : decode bMd_join 56 = .ok (.if_icmp .ge 21, 3) := by decide +kernel
theorem dMd_join_59 : decode bMd_join 59 = .ok (.aload_n 0, 1) := by decide +kernel
theorem dMd_join_60 : decode bMd_join 60 = .ok (.getfield 41, 3) := by decide +kernel
theorem dMd_join_63 : decode bMd_join 63 = .ok (.iload_n 2, 1) := by decide +kernel
theorem dMd_join_64 : decode bMd_join 64 = .ok (.iconst 1, 1) := by decide +kernel
theorem dMd_join_65 : decode bMd_join 65 = .ok (.bastore, 1) := by decide +kernel
theorem dMd_join_66 : decode bMd_join 66 = .ok (.aload_n 0, 1) := by decide +kernel
theorem dMd_join_67 : decode bMd_join 67 = .ok (.iload_n 2, 1) := by decide +kernel
theorem dMd_join_68 : decode bMd_join 68 = .ok (.invokevirtual 148, 3) := by decide +kernel
theorem dMd_join_71 : decode bMd_join 71 = .ok (.iinc 2 1, 3) := by decide +kernel
theorem dMd_join_74 : decode bMd_join 74 = .ok (.goto (-23), 3) := by decide +kernel
theorem dMd_join_77 : decode bMd_join 77 = .ok (.aload_n 0, 1) := by decide +kernel
theorem dMd_join_78 : decode bMd_join 78 = .ok (.getfield 130, 3) := by decide +kernel
theorem dMd_join_81 : decode bMd_join 81 = .ok (.istore_n 2, 1) := by decide +kernel
theorem dMd_join_82 : decode bMd_join 82 = .ok (.iload_n 2, 1) := by decide +kernel
theorem dMd_join_83 : decode bMd_join 83 = .ok (.iload_n 1, 1) := by decide +kernel
theorem dMd_join_84 : decode bMd_join 84 = .ok (.if_icmp .le 13, 3) := by decide +kernel
theorem dMd_join_87 : decode bMd_join 87 = .ok (.aload_n 0, 1) := by decide +kernel
theorem dMd_join_88 : decode bMd_join 88 = .ok (.invokevirtual 151, 3) := by decide +kernel
theorem dMd_join_91 : decode bMd_join 91 = .ok (.iinc 2 (-1), 3) := by decide +kernel
theorem dMd_join_94 : decode bMd_join 94 = .ok (.goto (-12), 3) := by decide +kernel
theorem dMd_join_97 : decode bMd_join 97 = .ok (.return_, 1) := by decide +kernel
theorem dMd_joinOne_0 : decode bMd_joinOne 0 = .ok (.iconst (-1), 1) := by decide +kernel
theorem dMd_joinOne_1 : decode bMd_joinOne 1 = .ok (.istore_n 1, 1) := by decide +kernel
theorem dMd_joinOne_2 : decode bMd_joinOne 2 = .ok (.iconst (-1), 1) := by decide +kernel
theorem dMd_joinOne_3 : decode bMd_joinOne 3 = .ok (.istore_n 2, 1) := by decide +kernel
theorem dMd_joinOne_4 : decode bMd_joinOne 4 = .ok (.lconst 0, 1) := by decide +kernel
theorem dMd_joinOne_5 : decode bMd_joinOne 5 = .ok (.lstore_n 3, 1) := by decide +kernel
theorem dMd_joinOne_6 : decode bMd_joinOne 6 = .ok (.iconst 0, 1) := by decide +kernel
theorem dMd_joinOne_7 : decode bMd_joinOne 7 = .ok (.istore 5, 2) := by decide +kernel
theorem dMd_joinOne_9 : decode bMd_joinOne 9 = .ok (.iload 5, 2) := by decide +kernel
theorem dMd_joinOne_11 : decode bMd_joinOne 11 = .ok (.aload_n 0, 1) := by decide +kernel
theorem dMd_joinOne_12 : decode bMd_joinOne 12 = .ok (.getfield 130, 3) := by decide +kernel
theorem dMd_joinOne_15 : decode bMd_joinOne 15 = .ok (.if_icmp .ge 124, 3) := by decide +kernel
theorem dMd_joinOne_18 : decode bMd_joinOne 18 = .ok (.iload 5, 2) := by decide +kernel
theorem dMd_joinOne_20 : decode bMd_joinOne 20 = .ok (.iconst 1, 1) := by decide +kernel
theorem dMd_joinOne_21 : decode bMd_joinOne 21 = .ok (.iadd, 1) := by decide +kernel
theorem dMd_joinOne_22 : decode bMd_joinOne 22 = .ok (.istore 6, 2) := by decide +kernel
theorem dMd_joinOne_24 : decode bMd_joinOne 24 = .ok (.iload 6, 2) := by decide +kernel
theorem dMd_joinOne_26 : decode bMd_joinOne 26 = .ok (.aload_n 0, 1) := by decide +kernel
theorem dMd_joinOne_27 : decode bMd_joinOne 27 = .ok (.getfield 130, 3) := by decide +kernel
theorem dMd_joinOne_30 : decode bMd_joinOne 30 = .ok (.if_icmp .ge 103, 3) := by decide +kernel
theorem dMd_joinOne_33 : decode bMd_joinOne 33 = .ok (.aload_n 0, 1) := by decide +kernel
theorem dMd_joinOne_34 : decode bMd_joinOne 34 = .ok (.getfield 41, 3) := by decide +kernel
theorem dMd_joinOne_37 : decode bMd_joinOne 37 = .ok (.iload 5, 2) := by decide +kernel
theorem dMd_joinOne_39 : decode bMd_joinOne 39 = .ok (.baload, 1) := by decide +kernel
theorem dMd_joinOne_40 : decode bMd_joinOne 40 = .ok (.ifCond .eq 87, 3) := by decide +kernel
theorem dMd_joinOne_43 : decode bMd_joinOne 43 = .ok (.aload_n 0, 1) := by decide +kernel
theorem dMd_joinOne_44 : decode bMd_joinOne 44 = .ok (.getfield 41, 3) := by decide +kernel
theorem dMd_joinOne_47 : decode bMd_joinOne 47 = .ok (.iload 6, 2) := by decide +kernel
theorem dMd_joinOne_49 : decode bMd_joinOne 49 = .ok (.baload, 1) := by decide +kernel
theorem dMd_joinOne_50 : decode bMd_joinOne 50 = .ok (.ifCond .eq 77, 3) := by decide +kernel
theorem dMd_joinOne_53 : decode bMd_joinOne 53 = .ok (.aload_n 0, 1) := by decide +kernel
theorem dMd_joinOne_54 : decode bMd_joinOne 54 = .ok (.getfield 44, 3) := by decide +kernel
theorem dMd_joinOne_57 : decode bMd_joinOne 57 = .ok (.iload 5, 2) := by decide +kernel
theorem dMd_joinOne_59 : decode bMd_joinOne 59 = .ok (.laload, 1) := by decide +kernel
theorem dMd_joinOne_60 : decode bMd_joinOne 60 = .ok (.aload_n 0, 1) := by decide +kernel
theorem dMd_joinOne_61 : decode bMd_joinOne 61 = .ok (.getfield 44, 3) := by decide +kernel
theorem dMd_joinOne_64 : decode bMd_joinOne 64 = .ok (.iload 6, 2) := by decide +kernel
theorem dMd_joinOne_66 : decode bMd_joinOne 66 = .ok (.laload, 1) := by decide +kernel
theorem dMd_joinOne_67 : decode bMd_joinOne 67 = .ok (.lmul, 1) := by decide +kernel
theorem dMd_joinOne_68 : decode bMd_joinOne 68 = .ok (.aload_n 0, 1) := by decide +kernel
theorem dMd_joinOne_69 : decode bMd_joinOne 69 = .ok (.getfield 48, 3) := by decide +kernel
theorem dMd_joinOne_72 : decode bMd_joinOne 72 = .ok (.iconst 4, 1) := by decide +kernel
theorem dMd_joinOne_73 : decode bMd_joinOne 73 = .ok (.iload 5, 2) := by decide +kernel
theorem dMd_joinOne_75 : decode bMd_joinOne 75 = .ok (.imul, 1) := by decide +kernel
theorem dMd_joinOne_76 : decode bMd_joinOne 76 = .ok (.aload_n 0, 1) := by decide +kernel
theorem dMd_joinOne_77 : decode bMd_joinOne 77 = .ok (.getfield 48, 3) := by decide +kernel
theorem dMd_joinOne_80 : decode bMd_joinOne 80 = .ok (.iconst 4, 1) := by decide +kernel
theorem dMd_joinOne_81 : decode bMd_joinOne 81 = .ok (.iload 6, 2) := by decide +kernel
theorem dMd_joinOne_83 : decode bMd_joinOne 83 = .ok (.imul, 1) := by decide +kernel
theorem dMd_joinOne_84 : decode bMd_joinOne 84 = .ok (.invokestatic 154, 3) := by decide +kernel
theorem dMd_joinOne_87 : decode bMd_joinOne 87 = .ok (.lmul, 1) := by decide +kernel
theorem dMd_joinOne_88 : decode bMd_joinOne 88 = .ok (.aload_n 0, 1) := by decide +kernel
theorem dMd_joinOne_89 : decode bMd_joinOne 89 = .ok (.getfield 44, 3) := by decide +kernel
theorem dMd_joinOne_92 : decode bMd_joinOne 92 = .ok (.iload 5, 2) := by decide +kernel
theorem dMd_joinOne_94 : decode bMd_joinOne 94 = .ok (.laload, 1) := by decide +kernel
theorem dMd_joinOne_95 : decode bMd_joinOne 95 = .ok (.aload_n 0, 1) := by decide +kernel
theorem dMd_joinOne_96 : decode bMd_joinOne 96 = .ok (.getfield 44, 3) := by decide +kernel
theorem dMd_joinOne_99 : decode bMd_joinOne 99 = .ok (.iload 6, 2) := by decide +kernel
theorem dMd_joinOne_101 : decode bMd_joinOne 101 = .ok (.laload, 1) := by decide +kernel
theorem dMd_joinOne_102 : decode bMd_joinOne 102 = .ok (.ladd, 1) := by decide +kernel
theorem dMd_joinOne_103 : decode bMd_joinOne 103 = .ok (.ldiv, 1) := by decide +kernel
theorem dMd_joinOne_104 : decode bMd_joinOne 104 = .ok (.lstore 7, 2) := by decide +kernel
theorem dMd_joinOne_106 : decode bMd_joinOne 106 = .ok (.iload_n 1, 1) := by decide +kernel
theorem dMd_joinOne_107 : decode bMd_joinOne 107 = .ok (.iconst (-1), 1) := by decide +kernel
theorem dMd_joinOne_108 : decode bMd_joinOne 108 = .ok (.if_icmp .eq 10, 3) := by decide +kernel
theorem dMd_joinOne_111 : decode bMd_joinOne 111 = .ok (.lload 7, 2) := by decide +kernel
theorem dMd_joinOne_113 : decode bMd_joinOne 113 = .ok (.lload_n 3, 1) := by decide +kernel
theorem dMd_joinOne_114 : decode bMd_joinOne 114 = .ok (.lcmp, 1) := by decide +kernel
theorem dMd_joinOne_115 : decode bMd_joinOne 115 = .ok (.ifCond .ge 12, 3) := by decide +kernel
theorem dMd_joinOne_118 : decode bMd_joinOne 118 = .ok (.iload 5, 2) := by decide +kernel
theorem dMd_joinOne_120 : decode bMd_joinOne 120 = .ok (.istore_n 1, 1) := by decide +kernel
theorem dMd_joinOne_121 : decode bMd_joinOne 121 = .ok (.iload 6, 2) := by decide +kernel
theorem dMd_joinOne_123 : decode bMd_joinOne 123 = .ok (.istore_n 2, 1) := by decide +kernel
theorem dMd_joinOne_124 : decode bMd_joinOne 124 = .ok (.lload 7, 2) := by decide +kernel
theorem dMd_joinOne_126 : decode bMd_joinOne 126 = .ok (.lstore_n 3, 1) := by decide +kernel
theorem dMd_joinOne_127 : decode bMd_joinOne 127 = .ok (.iinc 6 1, 3) := by decide +kernel
theorem dMd_joinOne_130 : decode bMd_joinOne 130 = .ok (.goto (-106), 3) := by decide +kernel
theorem dMd_joinOne_133 : decode bMd_joinOne 133 = .ok (.iinc 5 1, 3) := by decide +kernel
theorem dMd_joinOne_136 : decode bMd_joinOne 136 = .ok (.goto (-127), 3) := by decide +kernel
theorem dMd_joinOne_139 : decode bMd_joinOne 139 = .ok (.iconst 0, 1) := by decide +kernel
theorem dMd_joinOne_140 : decode bMd_joinOne 140 = .ok (.istore 5, 2) := by decide +kernel
theorem dMd_joinOne_142 : decode bMd_joinOne 142 = .ok (.iload 5, 2) := by decide +kernel
theorem dMd_joinOne_144 : decode bMd_joinOne 144 = .ok (.aload_n 0, 1) := by decide +kernel
theorem dMd_joinOne_145 : decode bMd_joinOne 145 = .ok (.getfield 108, 3) := by decide +kernel
theorem dMd_joinOne_148 : decode bMd_joinOne 148 = .ok (.if_icmp .ge 38, 3) := by decide +kernel
theorem dMd_joinOne_151 : decode bMd_joinOne 151 = .ok (.aload_n 0, 1) := by decide +kernel
theorem dMd_joinOne_152 : decode bMd_joinOne 152 = .ok (.getfield 26, 3) := by decide +kernel
theorem dMd_joinOne_155 : decode bMd_joinOne 155 = .ok (.iload 5, 2) := by decide +kernel
theorem dMd_joinOne_157 : decode bMd_joinOne 157 = .ok (.aload_n 0, 1) := by decide +kernel
theorem dMd_joinOne_158 : decode bMd_joinOne 158 = .ok (.getfield 26, 3) := by decide +kernel
theorem dMd_joinOne_161 : decode bMd_joinOne 161 = .ok (.iload 5, 2) := by decide +kernel
theorem dMd_joinOne_163 : decode bMd_joinOne 163 = .ok (.iaload, 1) := by decide +kernel
theorem dMd_joinOne_164 : decode bMd_joinOne 164 = .ok (.iload_n 2, 1) := by decide +kernel
theorem dMd_joinOne_165 : decode bMd_joinOne 165 = .ok (.if_icmp .ne 7, 3) := by decide +kernel
theorem dMd_joinOne_168 : decode bMd_joinOne 168 = .ok (.iload_n 1, 1) := by decide +kernel
theorem dMd_joinOne_169 : decode bMd_joinOne 169 = .ok (.goto 10, 3) := by decide +kernel
theorem dMd_joinOne_172 : decode bMd_joinOne 172 = .ok (.aload_n 0, 1) := by decide +kernel
theorem dMd_joinOne_173 : decode bMd_joinOne 173 = .ok (.getfield 26, 3) := by decide +kernel
theorem dMd_joinOne_176 : decode bMd_joinOne 176 = .ok (.iload 5, 2) := by decide +kernel
theorem dMd_joinOne_178 : decode bMd_joinOne 178 = .ok (.iaload, 1) := by decide +kernel
theorem dMd_joinOne_179 : decode bMd_joinOne 179 = .ok (.iastore, 1) := by decide +kernel
theorem dMd_joinOne_180 : decode bMd_joinOne 180 = .ok (.iinc 5 1, 3) := by decide +kernel
theorem dMd_joinOne_183 : decode bMd_joinOne 183 = .ok (.goto (-41), 3) := by decide +kernel
theorem dMd_joinOne_186 : decode bMd_joinOne 186 = .ok (.aload_n 0, 1) := by decide +kernel
theorem dMd_joinOne_187 : decode bMd_joinOne 187 = .ok (.getfield 41, 3) := by decide +kernel
theorem dMd_joinOne_190 : decode bMd_joinOne 190 = .ok (.iload_n 2, 1) := by decide +kernel
theorem dMd_joinOne_191 : decode bMd_joinOne 191 = .ok (.iconst 0, 1) := by decide +kernel
theorem dMd_joinOne_192 : decode bMd_joinOne 192 = .ok (.bastore, 1) := by decide +kernel
theorem dMd_joinOne_193 : decode bMd_joinOne 193 = .ok (.aload_n 0, 1) := by decide +kernel
theorem dMd_joinOne_194 : decode bMd_joinOne 194 = .ok (.iload_n 1, 1) := by decide +kernel
theorem dMd_joinOne_195 : decode bMd_joinOne 195 = .ok (.invokevirtual 148, 3) := by decide +kernel
theorem dMd_joinOne_198 : decode bMd_joinOne 198 = .ok (.return_, 1) := by decide +kernel
theorem dMd_far_0 : decode bMd_far 0 = .ok (.lconst 0, 1) := by decide +kernel
theorem dMd_far_1 : decode bMd_far 1 = .ok (.lstore 4, 2) := by decide +kernel
theorem dMd_far_3 : decode bMd_far 3 = .ok (.iconst 0, 1) := by decide +kernel
theorem dMd_far_4 : decode bMd_far 4 = .ok (.istore 6, 2) := by decide +kernel
theorem dMd_far_6 : decode bMd_far 6 = .ok (.iload 6, 2) := by decide +kernel
theorem dMd_far_8 : decode bMd_far 8 = .ok (.iconst 4, 1) := by decide +kernel
theorem dMd_far_9 : decode bMd_far 9 = .ok (.if_icmp .ge 35, 3) := by decide +kernel
theorem dMd_far_12 : decode bMd_far 12 = .ok (.aload_n 0, 1) := by decide +kernel
theorem dMd_far_13 : decode bMd_far 13 = .ok (.iload_n 1, 1) := by decide +kernel
theorem dMd_far_14 : decode bMd_far 14 = .ok (.iload 6, 2) := by decide +kernel
theorem dMd_far_16 : decode bMd_far 16 = .ok (.iadd, 1) := by decide +kernel
theorem dMd_far_17 : decode bMd_far 17 = .ok (.iaload, 1) := by decide +kernel
theorem dMd_far_18 : decode bMd_far 18 = .ok (.aload_n 2, 1) := by decide +kernel
theorem dMd_far_19 : decode bMd_far 19 = .ok (.iload_n 3, 1) := by decide +kernel
theorem dMd_far_20 : decode bMd_far 20 = .ok (.iload 6, 2) := by decide +kernel
theorem dMd_far_22 : decode bMd_far 22 = .ok (.iadd, 1) := by decide +kernel
theorem dMd_far_23 : decode bMd_far 23 = .ok (.iaload, 1) := by decide +kernel
theorem dMd_far_24 : decode bMd_far 24 = .ok (.isub, 1) := by decide +kernel
theorem dMd_far_25 : decode bMd_far 25 = .ok (.i2l, 1) := by decide +kernel
theorem dMd_far_26 : decode bMd_far 26 = .ok (.lstore 7, 2) := by decide +kernel
theorem dMd_far_28 : decode bMd_far 28 = .ok (.lload 4, 2) := by decide +kernel
theorem dMd_far_30 : decode bMd_far 30 = .ok (.lload 7, 2) := by decide +kernel
theorem dMd_far_32 : decode bMd_far 32 = .ok (.lload 7, 2) := by decide +kernel
theorem dMd_far_34 : decode bMd_far 34 = .ok (.lmul, 1) := by decide +kernel
theorem dMd_far_35 : decode bMd_far 35 = .ok (.ladd, 1) := by decide +kernel
theorem dMd_far_36 : decode bMd_far 36 = .ok (.lstore 4, 2) := by decide +kernel
theorem dMd_far_38 : decode bMd_far 38 = .ok (.iinc 6 1, 3) := by decide +kernel
theorem dMd_far_41 : decode bMd_far 41 = .ok (.goto (-35), 3) := by decide +kernel
theorem dMd_far_44 : decode bMd_far 44 = .ok (.lload 4, 2) := by decide +kernel
theorem dMd_far_46 : decode bMd_far 46 = .ok (.lreturn, 1) := by decide +kernel
theorem dMd_take_0 : decode bMd_take 0 = .ok (.lconst 0, 1) := by decide +kernel
theorem dMd_take_1 : decode bMd_take 1 = .ok (.lstore_n 1, 1) := by decide +kernel
theorem dMd_take_2 : decode bMd_take 2 = .ok (.iconst 0, 1) := by decide +kernel
theorem dMd_take_3 : decode bMd_take 3 = .ok (.istore_n 3, 1) := by decide +kernel
theorem dMd_take_4 : decode bMd_take 4 = .ok (.iload_n 3, 1) := by decide +kernel
theorem dMd_take_5 : decode bMd_take 5 = .ok (.aload_n 0, 1) := by decide +kernel
theorem dMd_take_6 : decode bMd_take 6 = .ok (.getfield 158, 3) := by decide +kernel
theorem dMd_take_9 : decode bMd_take 9 = .ok (.if_icmp .ge 43, 3) := by decide +kernel
theorem dMd_take_12 : decode bMd_take 12 = .ok (.aload_n 0, 1) := by decide +kernel
theorem dMd_take_13 : decode bMd_take 13 = .ok (.getfield 60, 3) := by decide +kernel
theorem dMd_take_16 : decode bMd_take 16 = .ok (.iload_n 3, 1) := by decide +kernel
theorem dMd_take_17 : decode bMd_take 17 = .ok (.iconst 0, 1) := by decide +kernel
theorem dMd_take_18 : decode bMd_take 18 = .ok (.iastore, 1) := by decide +kernel
theorem dMd_take_19 : decode bMd_take 19 = .ok (.iconst 0, 1) := by decide +kernel
theorem dMd_take_20 : decode bMd_take 20 = .ok (.istore 4, 2) := by decide +kernel
theorem dMd_take_22 : decode bMd_take 22 = .ok (.iload 4, 2) := by decide +kernel
theorem dMd_take_24 : decode bMd_take 24 = .ok (.iconst 4, 1) := by decide +kernel
theorem dMd_take_25 : decode bMd_take 25 = .ok (.if_icmp .ge 21, 3) := by decide +kernel
theorem dMd_take_28 : decode bMd_take 28 = .ok (.aload_n 0, 1) := by decide +kernel
theorem dMd_take_29 : decode bMd_take 29 = .ok (.getfield 63, 3) := by decide +kernel
theorem dMd_take_32 : decode bMd_take 32 = .ok (.iconst 4, 1) := by decide +kernel
theorem dMd_take_33 : decode bMd_take 33 = .ok (.iload_n 3, 1) := by decide +kernel
theorem dMd_take_34 : decode bMd_take 34 = .ok (.imul, 1) := by decide +kernel
theorem dMd_take_35 : decode bMd_take 35 = .ok (.iload 4, 2) := by decide +kernel
theorem dMd_take_37 : decode bMd_take 37 = .ok (.iadd, 1) := by decide +kernel
theorem dMd_take_38 : decode bMd_take 38 = .ok (.lconst 0, 1) := by decide +kernel
theorem dMd_take_39 : decode bMd_take 39 = .ok (.lastore, 1) := by decide +kernel
theorem dMd_take_40 : decode bMd_take 40 = .ok (.iinc 4 1, 3) := by decide +kernel
theorem dMd_take_43 : decode bMd_take 43 = .ok (.goto (-21), 3) := by decide +kernel
theorem dMd_take_46 : decode bMd_take 46 = .ok (.iinc 3 1, 3) := by decide +kernel
theorem dMd_take_49 : decode bMd_take 49 = .ok (.goto (-45), 3) := by decide +kernel
theorem dMd_take_52 : decode bMd_take 52 = .ok (.iconst 0, 1) := by decide +kernel
theorem dMd_take_53 : decode bMd_take 53 = .ok (.istore_n 3, 1) := by decide +kernel
theorem dMd_take_54 : decode bMd_take 54 = .ok (.iload_n 3, 1) := by decide +kernel
theorem dMd_take_55 : decode bMd_take 55 = .ok (.aload_n 0, 1) := by decide +kernel
theorem dMd_take_56 : decode bMd_take 56 = .ok (.getfield 78, 3) := by decide +kernel
theorem dMd_take_59 : decode bMd_take 59 = .ok (.aload_n 0, 1) := by decide +kernel
theorem dMd_take_60 : decode bMd_take 60 = .ok (.getfield 82, 3) := by decide +kernel
theorem dMd_take_63 : decode bMd_take 63 = .ok (.imul, 1) := by decide +kernel
theorem dMd_take_64 : decode bMd_take 64 = .ok (.if_icmp .ge 104, 3) := by decide +kernel
theorem dMd_take_67 : decode bMd_take 67 = .ok (.aload_n 0, 1) := by decide +kernel
theorem dMd_take_68 : decode bMd_take 68 = .ok (.aload_n 0, 1) := by decide +kernel
theorem dMd_take_69 : decode bMd_take 69 = .ok (.getfield 7, 3) := by decide +kernel
theorem dMd_take_72 : decode bMd_take 72 = .ok (.iconst 4, 1) := by decide +kernel
theorem dMd_take_73 : decode bMd_take 73 = .ok (.iload_n 3, 1) := by decide +kernel
theorem dMd_take_74 : decode bMd_take 74 = .ok (.imul, 1) := by decide +kernel
theorem dMd_take_75 : decode bMd_take 75 = .ok (.invokevirtual 167, 3) := by decide +kernel
theorem dMd_take_78 : decode bMd_take 78 = .ok (.istore 4, 2) := by decide +kernel
theorem dMd_take_80 : decode bMd_take 80 = .ok (.aload_n 0, 1) := by decide +kernel
theorem dMd_take_81 : decode bMd_take 81 = .ok (.getfield 57, 3) := by decide +kernel
theorem dMd_take_84 : decode bMd_take 84 = .ok (.iload_n 3, 1) := by decide +kernel
theorem dMd_take_85 : decode bMd_take 85 = .ok (.iload 4, 2) := by decide +kernel
theorem dMd_take_87 : decode bMd_take 87 = .ok (.iastore, 1) := by decide +kernel
theorem dMd_take_88 : decode bMd_take 88 = .ok (.aload_n 0, 1) := by decide +kernel
theorem dMd_take_89 : decode bMd_take 89 = .ok (.getfield 60, 3) := by decide +kernel
theorem dMd_take_92 : decode bMd_take 92 = .ok (.iload 4, 2) := by decide +kernel
theorem dMd_take_94 : decode bMd_take 94 = .ok (.dup2, 1) := by decide +kernel
theorem dMd_take_95 : decode bMd_take 95 = .ok (.iaload, 1) := by decide +kernel
theorem dMd_take_96 : decode bMd_take 96 = .ok (.iconst 1, 1) := by decide +kernel
theorem dMd_take_97 : decode bMd_take 97 = .ok (.iadd, 1) := by decide +kernel
theorem dMd_take_98 : decode bMd_take 98 = .ok (.iastore, 1) := by decide +kernel
theorem dMd_take_99 : decode bMd_take 99 = .ok (.lload_n 1, 1) := by decide +kernel
theorem dMd_take_100 : decode bMd_take 100 = .ok (.aload_n 0, 1) := by decide +kernel
theorem dMd_take_101 : decode bMd_take 101 = .ok (.getfield 54, 3) := by decide +kernel
theorem dMd_take_104 : decode bMd_take 104 = .ok (.iconst 4, 1) := by decide +kernel
theorem dMd_take_105 : decode bMd_take 105 = .ok (.iload 4, 2) := by decide +kernel
theorem dMd_take_107 : decode bMd_take 107 = .ok (.imul, 1) := by decide +kernel
theorem dMd_take_108 : decode bMd_take 108 = .ok (.aload_n 0, 1) := by decide +kernel
theorem dMd_take_109 : decode bMd_take 109 = .ok (.getfield 7, 3) := by decide +kernel
theorem dMd_take_112 : decode bMd_take 112 = .ok (.iconst 4, 1) := by decide +kernel
theorem dMd_take_113 : decode bMd_take 113 = .ok (.iload_n 3, 1) := by decide +kernel
theorem dMd_take_114 : decode bMd_take 114 = .ok (.imul, 1) := by decide +kernel
theorem dMd_take_115 : decode bMd_take 115 = .ok (.invokestatic 154, 3) := by decide +kernel
theorem dMd_take_118 : decode bMd_take 118 = .ok (.ladd, 1) := by decide +kernel
theorem dMd_take_119 : decode bMd_take 119 = .ok (.lstore_n 1, 1) := by decide +kernel
theorem dMd_take_120 : decode bMd_take 120 = .ok (.iconst 0, 1) := by decide +kernel
theorem dMd_take_121 : decode bMd_take 121 = .ok (.istore 5, 2) := by decide +kernel
theorem dMd_take_123 : decode bMd_take 123 = .ok (.iload 5, 2) := by decide +kernel
theorem dMd_take_125 : decode bMd_take 125 = .ok (.iconst 4, 1) := by decide +kernel
theorem dMd_take_126 : decode bMd_take 126 = .ok (.if_icmp .ge 36, 3) := by decide +kernel
theorem dMd_take_129 : decode bMd_take 129 = .ok (.aload_n 0, 1) := by decide +kernel
theorem dMd_take_130 : decode bMd_take 130 = .ok (.getfield 63, 3) := by decide +kernel
theorem dMd_take_133 : decode bMd_take 133 = .ok (.iconst 4, 1) := by decide +kernel
theorem dMd_take_134 : decode bMd_take 134 = .ok (.iload 4, 2) := by decide +kernel
theorem dMd_take_136 : decode bMd_take 136 = .ok (.imul, 1) := by decide +kernel
theorem dMd_take_137 : decode bMd_take 137 = .ok (.iload 5, 2) := by decide +kernel
theorem dMd_take_139 : decode bMd_take 139 = .ok (.iadd, 1) := by decide +kernel
theorem dMd_take_140 : decode bMd_take 140 = .ok (.dup2, 1) := by decide +kernel
theorem dMd_take_141 : decode bMd_take 141 = .ok (.laload, 1) := by decide +kernel
theorem dMd_take_142 : decode bMd_take 142 = .ok (.aload_n 0, 1) := by decide +kernel
theorem dMd_take_143 : decode bMd_take 143 = .ok (.getfield 7, 3) := by decide +kernel
theorem dMd_take_146 : decode bMd_take 146 = .ok (.iconst 4, 1) := by decide +kernel
theorem dMd_take_147 : decode bMd_take 147 = .ok (.iload_n 3, 1) := by decide +kernel
theorem dMd_take_148 : decode bMd_take 148 = .ok (.imul, 1) := by decide +kernel
theorem dMd_take_149 : decode bMd_take 149 = .ok (.iload 5, 2) := by decide +kernel
theorem dMd_take_151 : decode bMd_take 151 = .ok (.iadd, 1) := by decide +kernel
theorem dMd_take_152 : decode bMd_take 152 = .ok (.iaload, 1) := by decide +kernel
theorem dMd_take_153 : decode bMd_take 153 = .ok (.i2l, 1) := by decide +kernel
theorem dMd_take_154 : decode bMd_take 154 = .ok (.ladd, 1) := by decide +kernel
theorem dMd_take_155 : decode bMd_take 155 = .ok (.lastore, 1) := by decide +kernel
theorem dMd_take_156 : decode bMd_take 156 = .ok (.iinc 5 1, 3) := by decide +kernel
theorem dMd_take_159 : decode bMd_take 159 = .ok (.goto (-36), 3) := by decide +kernel
theorem dMd_take_162 : decode bMd_take 162 = .ok (.iinc 3 1, 3) := by decide +kernel
theorem dMd_take_165 : decode bMd_take 165 = .ok (.goto (-111), 3) := by decide +kernel
theorem dMd_take_168 : decode bMd_take 168 = .ok (.lload_n 1, 1) := by decide +kernel
theorem dMd_take_169 : decode bMd_take 169 = .ok (.lreturn, 1) := by decide +kernel
theorem dMd_nearestTo_0 : decode bMd_nearestTo 0 = .ok (.iconst 0, 1) := by decide +kernel
theorem dMd_nearestTo_1 : decode bMd_nearestTo 1 = .ok (.istore_n 3, 1) := by decide +kernel
theorem dMd_nearestTo_2 : decode bMd_nearestTo 2 = .ok (.iconst 1, 1) := by decide +kernel
theorem dMd_nearestTo_3 : decode bMd_nearestTo 3 = .ok (.istore 4, 2) := by decide +kernel
theorem dMd_nearestTo_5 : decode bMd_nearestTo 5 = .ok (.iload 4, 2) := by decide +kernel
theorem dMd_nearestTo_7 : decode bMd_nearestTo 7 = .ok (.aload_n 0, 1) := by decide +kernel
theorem dMd_nearestTo_8 : decode bMd_nearestTo 8 = .ok (.getfield 158, 3) := by decide +kernel
theorem dMd_nearestTo_11 : decode bMd_nearestTo 11 = .ok (.if_icmp .ge 45, 3) := by decide +kernel
theorem dMd_nearestTo_14 : decode bMd_nearestTo 14 = .ok (.aload_n 0, 1) := by decide +kernel
theorem dMd_nearestTo_15 : decode bMd_nearestTo 15 = .ok (.getfield 54, 3) := by decide +kernel
theorem dMd_nearestTo_18 : decode bMd_nearestTo 18 = .ok (.iconst 4, 1) := by decide +kernel
theorem dMd_nearestTo_19 : decode bMd_nearestTo 19 = .ok (.iload 4, 2) := by decide +kernel
theorem dMd_nearestTo_21 : decode bMd_nearestTo 21 = .ok (.imul, 1) := by decide +kernel
theorem dMd_nearestTo_22 : decode bMd_nearestTo 22 = .ok (.aload_n 1, 1) := by decide +kernel
theorem dMd_nearestTo_23 : decode bMd_nearestTo 23 = .ok (.iload_n 2, 1) := by decide +kernel
theorem dMd_nearestTo_24 : decode bMd_nearestTo 24 = .ok (.invokestatic 154, 3) := by decide +kernel
theorem dMd_nearestTo_27 : decode bMd_nearestTo 27 = .ok (.aload_n 0, 1) := by decide +kernel
theorem dMd_nearestTo_28 : decode bMd_nearestTo 28 = .ok (.getfield 54, 3) := by decide +kernel
theorem dMd_nearestTo_31 : decode bMd_nearestTo 31 = .ok (.iconst 4, 1) := by decide +kernel
theorem dMd_nearestTo_32 : decode bMd_nearestTo 32 = .ok (.iload_n 3, 1) := by decide +kernel
theorem dMd_nearestTo_33 : decode bMd_nearestTo 33 = .ok (.imul, 1) := by decide +kernel
theorem dMd_nearestTo_34 : decode bMd_nearestTo 34 = .ok (.aload_n 1, 1) := by decide +kernel
theorem dMd_nearestTo_35 : decode bMd_nearestTo 35 = .ok (.iload_n 2, 1) := by decide +kernel
theorem dMd_nearestTo_36 : decode bMd_nearestTo 36 = .ok (.invokestatic 154, 3) := by decide +kernel
theorem dMd_nearestTo_39 : decode bMd_nearestTo 39 = .ok (.lcmp, 1) := by decide +kernel
theorem dMd_nearestTo_40 : decode bMd_nearestTo 40 = .ok (.ifCond .ge 8, 3) := by decide +kernel
theorem dMd_nearestTo_43 : decode bMd_nearestTo 43 = .ok (.iload 4, 2) := by decide +kernel
theorem dMd_nearestTo_45 : decode bMd_nearestTo 45 = .ok (.goto 4, 3) := by decide +kernel
theorem dMd_nearestTo_48 : decode bMd_nearestTo 48 = .ok (.iload_n 3, 1) := by decide +kernel
theorem dMd_nearestTo_49 : decode bMd_nearestTo 49 = .ok (.istore_n 3, 1) := by decide +kernel
theorem dMd_nearestTo_50 : decode bMd_nearestTo 50 = .ok (.iinc 4 1, 3) := by decide +kernel
theorem dMd_nearestTo_53 : decode bMd_nearestTo 53 = .ok (.goto (-48), 3) := by decide +kernel
theorem dMd_nearestTo_56 : decode bMd_nearestTo 56 = .ok (.iload_n 3, 1) := by decide +kernel
theorem dMd_nearestTo_57 : decode bMd_nearestTo 57 = .ok (.ireturn, 1) := by decide +kernel
theorem dMd_toMeans_0 : decode bMd_toMeans 0 = .ok (.iconst 0, 1) := by decide +kernel
theorem dMd_toMeans_1 : decode bMd_toMeans 1 = .ok (.istore_n 1, 1) := by decide +kernel
theorem dMd_toMeans_2 : decode bMd_toMeans 2 = .ok (.iload_n 1, 1) := by decide +kernel
theorem dMd_toMeans_3 : decode bMd_toMeans 3 = .ok (.aload_n 0, 1) := by decide +kernel
theorem dMd_toMeans_4 : decode bMd_toMeans 4 = .ok (.getfield 158, 3) := by decide +kernel
theorem dMd_toMeans_7 : decode bMd_toMeans 7 = .ok (.if_icmp .ge 73, 3) := by decide +kernel
theorem dMd_toMeans_10 : decode bMd_toMeans 10 = .ok (.aload_n 0, 1) := by decide +kernel
theorem dMd_toMeans_11 : decode bMd_toMeans 11 = .ok (.getfield 60, 3) := by decide +kernel
theorem dMd_toMeans_14 : decode bMd_toMeans 14 = .ok (.iload_n 1, 1) := by decide +kernel
theorem dMd_toMeans_15 : decode bMd_toMeans 15 = .ok (.iaload, 1) := by decide +kernel
theorem dMd_toMeans_16 : decode bMd_toMeans 16 = .ok (.i2l, 1) := by decide +kernel
theorem dMd_toMeans_17 : decode bMd_toMeans 17 = .ok (.lstore_n 2, 1) := by decide +kernel
theorem dMd_toMeans_18 : decode bMd_toMeans 18 = .ok (.iconst 0, 1) := by decide +kernel
theorem dMd_toMeans_19 : decode bMd_toMeans 19 = .ok (.istore 4, 2) := by decide +kernel
theorem dMd_toMeans_21 : decode bMd_toMeans 21 = .ok (.iload 4, 2) := by decide +kernel
theorem dMd_toMeans_23 : decode bMd_toMeans 23 = .ok (.iconst 4, 1) := by decide +kernel
theorem dMd_toMeans_24 : decode bMd_toMeans 24 = .ok (.if_icmp .ge 50, 3) := by decide +kernel
theorem dMd_toMeans_27 : decode bMd_toMeans 27 = .ok (.lload_n 2, 1) := by decide +kernel
theorem dMd_toMeans_28 : decode bMd_toMeans 28 = .ok (.lconst 0, 1) := by decide +kernel
theorem dMd_toMeans_29 : decode bMd_toMeans 29 = .ok (.lcmp, 1) := by decide +kernel
theorem dMd_toMeans_30 : decode bMd_toMeans 30 = .ok (.ifCond .le 44, 3) := by decide +kernel
theorem dMd_toMeans_33 : decode bMd_toMeans 33 = .ok (.aload_n 0, 1) := by decide +kernel
theorem dMd_toMeans_34 : decode bMd_toMeans 34 = .ok (.getfield 54, 3) := by decide +kernel
theorem dMd_toMeans_37 : decode bMd_toMeans 37 = .ok (.iconst 4, 1) := by decide +kernel
theorem dMd_toMeans_38 : decode bMd_toMeans 38 = .ok (.iload_n 1, 1) := by decide +kernel
theorem dMd_toMeans_39 : decode bMd_toMeans 39 = .ok (.imul, 1) := by decide +kernel
theorem dMd_toMeans_40 : decode bMd_toMeans 40 = .ok (.iload 4, 2) := by decide +kernel
theorem dMd_toMeans_42 : decode bMd_toMeans 42 = .ok (.iadd, 1) := by decide +kernel
theorem dMd_toMeans_43 : decode bMd_toMeans 43 = .ok (.ldc2_w 143, 3) := by decide +kernel
theorem dMd_toMeans_46 : decode bMd_toMeans 46 = .ok (.aload_n 0, 1) := by decide +kernel
theorem dMd_toMeans_47 : decode bMd_toMeans 47 = .ok (.getfield 63, 3) := by decide +kernel
theorem dMd_toMeans_50 : decode bMd_toMeans 50 = .ok (.iconst 4, 1) := by decide +kernel
theorem dMd_toMeans_51 : decode bMd_toMeans 51 = .ok (.iload_n 1, 1) := by decide +kernel
theorem dMd_toMeans_52 : decode bMd_toMeans 52 = .ok (.imul, 1) := by decide +kernel
theorem dMd_toMeans_53 : decode bMd_toMeans 53 = .ok (.iload 4, 2) := by decide +kernel
theorem dMd_toMeans_55 : decode bMd_toMeans 55 = .ok (.iadd, 1) := by decide +kernel
theorem dMd_toMeans_56 : decode bMd_toMeans 56 = .ok (.laload, 1) := by decide +kernel
theorem dMd_toMeans_57 : decode bMd_toMeans 57 = .ok (.lmul, 1) := by decide +kernel
theorem dMd_toMeans_58 : decode bMd_toMeans 58 = .ok (.lload_n 2, 1) := by decide +kernel
theorem dMd_toMeans_59 : decode bMd_toMeans 59 = .ok (.ladd, 1) := by decide +kernel
theorem dMd_toMeans_60 : decode bMd_toMeans 60 = .ok (.ldc2_w 143, 3) := by decide +kernel
theorem dMd_toMeans_63 : decode bMd_toMeans 63 = .ok (.lload_n 2, 1) := by decide +kernel
theorem dMd_toMeans_64 : decode bMd_toMeans 64 = .ok (.lmul, 1) := by decide +kernel
theorem dMd_toMeans_65 : decode bMd_toMeans 65 = .ok (.ldiv, 1) := by decide +kernel
theorem dMd_toMeans_66 : decode bMd_toMeans 66 = .ok (.l2i, 1) := by decide +kernel
theorem dMd_toMeans_67 : decode bMd_toMeans 67 = .ok (.iastore, 1) := by decide +kernel
theorem dMd_toMeans_68 : decode bMd_toMeans 68 = .ok (.iinc 4 1, 3) := by decide +kernel
theorem dMd_toMeans_71 : decode bMd_toMeans 71 = .ok (.goto (-50), 3) := by decide +kernel
theorem dMd_toMeans_74 : decode bMd_toMeans 74 = .ok (.iinc 1 1, 3) := by decide +kernel
theorem dMd_toMeans_77 : decode bMd_toMeans 77 = .ok (.goto (-75), 3) := by decide +kernel
theorem dMd_toMeans_80 : decode bMd_toMeans 80 = .ok (.return_, 1) := by decide +kernel
theorem dMd_arrange_0 : decode bMd_arrange 0 = .ok (.iconst 0, 1) := by decide +kernel
theorem dMd_arrange_1 : decode bMd_arrange 1 = .ok (.istore_n 1, 1) := by decide +kernel
theorem dMd_arrange_2 : decode bMd_arrange 2 = .ok (.iload_n 1, 1) := by decide +kernel
theorem dMd_arrange_3 : decode bMd_arrange 3 = .ok (.aload_n 0, 1) := by decide +kernel
theorem dMd_arrange_4 : decode bMd_arrange 4 = .ok (.getfield 158, 3) := by decide +kernel
theorem dMd_arrange_7 : decode bMd_arrange 7 = .ok (.if_icmp .ge 113, 3) := by decide +kernel
theorem dMd_arrange_10 : decode bMd_arrange 10 = .ok (.iload_n 1, 1) := by decide +kernel
theorem dMd_arrange_11 : decode bMd_arrange 11 = .ok (.istore_n 2, 1) := by decide +kernel
theorem dMd_arrange_12 : decode bMd_arrange 12 = .ok (.iload_n 2, 1) := by decide +kernel
theorem dMd_arrange_13 : decode bMd_arrange 13 = .ok (.ifCond .le 94, 3) := by decide +kernel
theorem dMd_arrange_16 : decode bMd_arrange 16 = .ok (.aload_n 0, 1) := by decide +kernel
theorem dMd_arrange_17 : decode bMd_arrange 17 = .ok (.getfield 60, 3) := by decide +kernel
theorem dMd_arrange_20 : decode bMd_arrange 20 = .ok (.iload_n 1, 1) := by decide +kernel
theorem dMd_arrange_21 : decode bMd_arrange 21 = .ok (.iaload, 1) := by decide +kernel
theorem dMd_arrange_22 : decode bMd_arrange 22 = .ok (.aload_n 0, 1) := by decide +kernel
theorem dMd_arrange_23 : decode bMd_arrange 23 = .ok (.getfield 60, 3) := by decide +kernel
theorem dMd_arrange_26 : decode bMd_arrange 26 = .ok (.aload_n 0, 1) := by decide +kernel
theorem dMd_arrange_27 : decode bMd_arrange 27 = .ok (.getfield 66, 3) := by decide +kernel
theorem dMd_arrange_30 : decode bMd_arrange 30 = .ok (.iload_n 2, 1) := by decide +kernel
theorem dMd_arrange_31 : decode bMd_arrange 31 = .ok (.iconst 1, 1) := by decide +kernel
theorem dMd_arrange_32 : decode bMd_arrange 32 = .ok (.isub, 1) := by decide +kernel
theorem dMd_arrange_33 : decode bMd_arrange 33 = .ok (.iaload, 1) := by decide +kernel
theorem dMd_arrange_34 : decode bMd_arrange 34 = .ok (.iaload, 1) := by decide +kernel
theorem dMd_arrange_35 : decode bMd_arrange 35 = .ok (.if_icmp .gt 52, 3) := by decide +kernel
theorem dMd_arrange_38 : decode bMd_arrange 38 = .ok (.aload_n 0, 1) := by decide +kernel
theorem dMd_arrange_39 : decode bMd_arrange 39 = .ok (.getfield 60, 3) := by decide +kernel
theorem dMd_arrange_42 : decode bMd_arrange 42 = .ok (.iload_n 1, 1) := by decide +kernel
theorem dMd_arrange_43 : decode bMd_arrange 43 = .ok (.iaload, 1) := by decide +kernel
theorem dMd_arrange_44 : decode bMd_arrange 44 = .ok (.aload_n 0, 1) := by decide +kernel
theorem dMd_arrange_45 : decode bMd_arrange 45 = .ok (.getfield 60, 3) := by decide +kernel
theorem dMd_arrange_48 : decode bMd_arrange 48 = .ok (.aload_n 0, 1) := by decide +kernel
theorem dMd_arrange_49 : decode bMd_arrange 49 = .ok (.getfield 66, 3) := by decide +kernel
theorem dMd_arrange_52 : decode bMd_arrange 52 = .ok (.iload_n 2, 1) := by decide +kernel
theorem dMd_arrange_53 : decode bMd_arrange 53 = .ok (.iconst 1, 1) := by decide +kernel
theorem dMd_arrange_54 : decode bMd_arrange 54 = .ok (.isub, 1) := by decide +kernel
theorem dMd_arrange_55 : decode bMd_arrange 55 = .ok (.iaload, 1) := by decide +kernel
theorem dMd_arrange_56 : decode bMd_arrange 56 = .ok (.iaload, 1) := by decide +kernel
theorem dMd_arrange_57 : decode bMd_arrange 57 = .ok (.if_icmp .ne 50, 3) := by decide +kernel
theorem dMd_arrange_60 : decode bMd_arrange 60 = .ok (.aload_n 0, 1) := by decide +kernel
theorem dMd_arrange_61 : decode bMd_arrange 61 = .ok (.getfield 54, 3) := by decide +kernel
theorem dMd_arrange_64 : decode bMd_arrange 64 = .ok (.iconst 4, 1) := by decide +kernel
theorem dMd_arrange_65 : decode bMd_arrange 65 = .ok (.iload_n 1, 1) := by decide +kernel
theorem dMd_arrange_66 : decode bMd_arrange 66 = .ok (.imul, 1) := by decide +kernel
theorem dMd_arrange_67 : decode bMd_arrange 67 = .ok (.aload_n 0, 1) := by decide +kernel
theorem dMd_arrange_68 : decode bMd_arrange 68 = .ok (.getfield 54, 3) := by decide +kernel
theorem dMd_arrange_71 : decode bMd_arrange 71 = .ok (.iconst 4, 1) := by decide +kernel
theorem dMd_arrange_72 : decode bMd_arrange 72 = .ok (.aload_n 0, 1) := by decide +kernel
theorem dMd_arrange_73 : decode bMd_arrange 73 = .ok (.getfield 66, 3) := by decide +kernel
theorem dMd_arrange_76 : decode bMd_arrange 76 = .ok (.iload_n 2, 1) := by decide +kernel
theorem dMd_arrange_77 : decode bMd_arrange 77 = .ok (.iconst 1, 1) := by decide +kernel
theorem dMd_arrange_78 : decode bMd_arrange 78 = .ok (.isub, 1) := by decide +kernel
theorem dMd_arrange_79 : decode bMd_arrange 79 = .ok (.iaload, 1) := by decide +kernel
theorem dMd_arrange_80 : decode bMd_arrange 80 = .ok (.imul, 1) := by decide +kernel
theorem dMd_arrange_81 : decode bMd_arrange 81 = .ok (.invokestatic 111, 3) := by decide +kernel
theorem dMd_arrange_84 : decode bMd_arrange 84 = .ok (.ifCond .ge 23, 3) := by decide +kernel
theorem dMd_arrange_87 : decode bMd_arrange 87 = .ok (.aload_n 0, 1) := by decide +kernel
theorem dMd_arrange_88 : decode bMd_arrange 88 = .ok (.getfield 66, 3) := by decide +kernel
theorem dMd_arrange_91 : decode bMd_arrange 91 = .ok (.iload_n 2, 1) := by decide +kernel
theorem dMd_arrange_92 : decode bMd_arrange 92 = .ok (.aload_n 0, 1) := by decide +kernel
theorem dMd_arrange_93 : decode bMd_arrange 93 = .ok (.getfield 66, 3) := by decide +kernel
theorem dMd_arrange_96 : decode bMd_arrange 96 = .ok (.iload_n 2, 1) := by decide +kernel
theorem dMd_arrange_97 : decode bMd_arrange 97 = .ok (.iconst 1, 1) := by decide +kernel
theorem dMd_arrange_98 : decode bMd_arrange 98 = .ok (.isub, 1) := by decide +kernel
theorem dMd_arrange_99 : decode bMd_arrange 99 = .ok (.iaload, 1) := by decide +kernel
theorem dMd_arrange_100 : decode bMd_arrange 100 = .ok (.iastore, 1) := by decide +kernel
theorem dMd_arrange_101 : decode bMd_arrange 101 = .ok (.iinc 2 (-1), 3) := by decide +kernel
theorem dMd_arrange_104 : decode bMd_arrange 104 = .ok (.goto (-92), 3) := by decide +kernel
theorem dMd_arrange_107 : decode bMd_arrange 107 = .ok (.aload_n 0, 1) := by decide +kernel
theorem dMd_arrange_108 : decode bMd_arrange 108 = .ok (.getfield 66, 3) := by decide +kernel
theorem dMd_arrange_111 : decode bMd_arrange 111 = .ok (.iload_n 2, 1) := by decide +kernel
theorem dMd_arrange_112 : decode bMd_arrange 112 = .ok (.iload_n 1, 1) := by decide +kernel
theorem dMd_arrange_113 : decode bMd_arrange 113 = .ok (.iastore, 1) := by decide +kernel
theorem dMd_arrange_114 : decode bMd_arrange 114 = .ok (.iinc 1 1, 3) := by decide +kernel
theorem dMd_arrange_117 : decode bMd_arrange 117 = .ok (.goto (-115), 3) := by decide +kernel
theorem dMd_arrange_120 : decode bMd_arrange 120 = .ok (.iconst 0, 1) := by decide +kernel
theorem dMd_arrange_121 : decode bMd_arrange 121 = .ok (.istore_n 1, 1) := by decide +kernel
theorem dMd_arrange_122 : decode bMd_arrange 122 = .ok (.iload_n 1, 1) := by decide +kernel
theorem dMd_arrange_123 : decode bMd_arrange 123 = .ok (.aload_n 0, 1) := by decide +kernel
theorem dMd_arrange_124 : decode bMd_arrange 124 = .ok (.getfield 158, 3) := by decide +kernel
theorem dMd_arrange_127 : decode bMd_arrange 127 = .ok (.if_icmp .ge 26, 3) := by decide +kernel
theorem dMd_arrange_130 : decode bMd_arrange 130 = .ok (.aload_n 0, 1) := by decide +kernel
theorem dMd_arrange_131 : decode bMd_arrange 131 = .ok (.getfield 54, 3) := by decide +kernel
theorem dMd_arrange_134 : decode bMd_arrange 134 = .ok (.iconst 4, 1) := by decide +kernel
theorem dMd_arrange_135 : decode bMd_arrange 135 = .ok (.iload_n 1, 1) := by decide +kernel
theorem dMd_arrange_136 : decode bMd_arrange 136 = .ok (.imul, 1) := by decide +kernel
theorem dMd_arrange_137 : decode bMd_arrange 137 = .ok (.aload_n 0, 1) := by decide +kernel
theorem dMd_arrange_138 : decode bMd_arrange 138 = .ok (.getfield 69, 3) := by decide +kernel
theorem dMd_arrange_141 : decode bMd_arrange 141 = .ok (.iconst 4, 1) := by decide +kernel
theorem dMd_arrange_142 : decode bMd_arrange 142 = .ok (.iload_n 1, 1) := by decide +kernel
theorem dMd_arrange_143 : decode bMd_arrange 143 = .ok (.imul, 1) := by decide +kernel
theorem dMd_arrange_144 : decode bMd_arrange 144 = .ok (.invokestatic 115, 3) := by decide +kernel
theorem dMd_arrange_147 : decode bMd_arrange 147 = .ok (.iinc 1 1, 3) := by decide +kernel
theorem dMd_arrange_150 : decode bMd_arrange 150 = .ok (.goto (-28), 3) := by decide +kernel
theorem dMd_arrange_153 : decode bMd_arrange 153 = .ok (.iconst 0, 1) := by decide +kernel
theorem dMd_arrange_154 : decode bMd_arrange 154 = .ok (.istore_n 1, 1) := by decide +kernel
theorem dMd_arrange_155 : decode bMd_arrange 155 = .ok (.iload_n 1, 1) := by decide +kernel
theorem dMd_arrange_156 : decode bMd_arrange 156 = .ok (.aload_n 0, 1) := by decide +kernel
theorem dMd_arrange_157 : decode bMd_arrange 157 = .ok (.getfield 158, 3) := by decide +kernel
theorem dMd_arrange_160 : decode bMd_arrange 160 = .ok (.if_icmp .ge 31, 3) := by decide +kernel
theorem dMd_arrange_163 : decode bMd_arrange 163 = .ok (.aload_n 0, 1) := by decide +kernel
theorem dMd_arrange_164 : decode bMd_arrange 164 = .ok (.getfield 69, 3) := by decide +kernel
theorem dMd_arrange_167 : decode bMd_arrange 167 = .ok (.iconst 4, 1) := by decide +kernel
theorem dMd_arrange_168 : decode bMd_arrange 168 = .ok (.aload_n 0, 1) := by decide +kernel
theorem dMd_arrange_169 : decode bMd_arrange 169 = .ok (.getfield 66, 3) := by decide +kernel
theorem dMd_arrange_172 : decode bMd_arrange 172 = .ok (.iload_n 1, 1) := by decide +kernel
theorem dMd_arrange_173 : decode bMd_arrange 173 = .ok (.iaload, 1) := by decide +kernel
theorem dMd_arrange_174 : decode bMd_arrange 174 = .ok (.imul, 1) := by decide +kernel
theorem dMd_arrange_175 : decode bMd_arrange 175 = .ok (.aload_n 0, 1) := by decide +kernel
theorem dMd_arrange_176 : decode bMd_arrange 176 = .ok (.getfield 54, 3) := by decide +kernel
theorem dMd_arrange_179 : decode bMd_arrange 179 = .ok (.iconst 4, 1) := by decide +kernel
theorem dMd_arrange_180 : decode bMd_arrange 180 = .ok (.iload_n 1, 1) := by decide +kernel
theorem dMd_arrange_181 : decode bMd_arrange 181 = .ok (.imul, 1) := by decide +kernel
theorem dMd_arrange_182 : decode bMd_arrange 182 = .ok (.invokestatic 115, 3) := by decide +kernel
theorem dMd_arrange_185 : decode bMd_arrange 185 = .ok (.iinc 1 1, 3) := by decide +kernel
theorem dMd_arrange_188 : decode bMd_arrange 188 = .ok (.goto (-33), 3) := by decide +kernel
theorem dMd_arrange_191 : decode bMd_arrange 191 = .ok (.return_, 1) := by decide +kernel
theorem dMd_colour_0 : decode bMd_colour 0 = .ok (.aload_n 0, 1) := by decide +kernel
theorem dMd_colour_1 : decode bMd_colour 1 = .ok (.iload_n 1, 1) := by decide +kernel
theorem dMd_colour_2 : decode bMd_colour 2 = .ok (.ifCond .lt 24, 3) := by decide +kernel
theorem dMd_colour_5 : decode bMd_colour 5 = .ok (.iload_n 1, 1) := by decide +kernel
theorem dMd_colour_6 : decode bMd_colour 6 = .ok (.aload_n 0, 1) := by decide +kernel
theorem dMd_colour_7 : decode bMd_colour 7 = .ok (.getfield 158, 3) := by decide +kernel
theorem dMd_colour_10 : decode bMd_colour 10 = .ok (.if_icmp .ge 16, 3) := by decide +kernel
theorem dMd_colour_13 : decode bMd_colour 13 = .ok (.iload_n 2, 1) := by decide +kernel
theorem dMd_colour_14 : decode bMd_colour 14 = .ok (.ifCond .lt 12, 3) := by decide +kernel
theorem dMd_colour_17 : decode bMd_colour 17 = .ok (.iload_n 2, 1) := by decide +kernel
theorem dMd_colour_18 : decode bMd_colour 18 = .ok (.iconst 4, 1) := by decide +kernel
theorem dMd_colour_19 : decode bMd_colour 19 = .ok (.if_icmp .ge 7, 3) := by decide +kernel
theorem dMd_colour_22 : decode bMd_colour 22 = .ok (.iconst 1, 1) := by decide +kernel
theorem dMd_colour_23 : decode bMd_colour 23 = .ok (.goto 4, 3) := by decide +kernel
theorem dMd_colour_26 : decode bMd_colour 26 = .ok (.iconst 0, 1) := by decide +kernel
theorem dMd_colour_27 : decode bMd_colour 27 = .ok (.invokevirtual 188, 3) := by decide +kernel
theorem dMd_colour_30 : decode bMd_colour 30 = .ok (.ifCond .eq 16, 3) := by decide +kernel
theorem dMd_colour_33 : decode bMd_colour 33 = .ok (.aload_n 0, 1) := by decide +kernel
theorem dMd_colour_34 : decode bMd_colour 34 = .ok (.getfield 54, 3) := by decide +kernel
theorem dMd_colour_37 : decode bMd_colour 37 = .ok (.iconst 4, 1) := by decide +kernel
theorem dMd_colour_38 : decode bMd_colour 38 = .ok (.iload_n 1, 1) := by decide +kernel
theorem dMd_colour_39 : decode bMd_colour 39 = .ok (.imul, 1) := by decide +kernel
theorem dMd_colour_40 : decode bMd_colour 40 = .ok (.iload_n 2, 1) := by decide +kernel
theorem dMd_colour_41 : decode bMd_colour 41 = .ok (.iadd, 1) := by decide +kernel
theorem dMd_colour_42 : decode bMd_colour 42 = .ok (.iaload, 1) := by decide +kernel
theorem dMd_colour_43 : decode bMd_colour 43 = .ok (.goto 4, 3) := by decide +kernel
theorem dMd_colour_46 : decode bMd_colour 46 = .ok (.iconst 0, 1) := by decide +kernel
theorem dMd_colour_47 : decode bMd_colour 47 = .ok (.ireturn, 1) := by decide +kernel
theorem dMd_tells_0 : decode bMd_tells 0 = .ok (.aload_n 0, 1) := by decide +kernel
theorem dMd_tells_1 : decode bMd_tells 1 = .ok (.aload_n 0, 1) := by decide +kernel
theorem dMd_tells_2 : decode bMd_tells 2 = .ok (.getfield 100, 3) := by decide +kernel
theorem dMd_tells_5 : decode bMd_tells 5 = .ok (.ifCond .ne 7, 3) := by decide +kernel
theorem dMd_tells_8 : decode bMd_tells 8 = .ok (.iconst 1, 1) := by decide +kernel
theorem dMd_tells_9 : decode bMd_tells 9 = .ok (.goto 12, 3) := by decide +kernel
theorem dMd_tells_12 : decode bMd_tells 12 = .ok (.iload_n 1, 1) := by decide +kernel
theorem dMd_tells_13 : decode bMd_tells 13 = .ok (.ifCond .eq 7, 3) := by decide +kernel
theorem dMd_tells_16 : decode bMd_tells 16 = .ok (.iconst 0, 1) := by decide +kernel
theorem dMd_tells_17 : decode bMd_tells 17 = .ok (.goto 4, 3) := by decide +kernel
theorem dMd_tells_20 : decode bMd_tells 20 = .ok (.iconst 2, 1) := by decide +kernel
theorem dMd_tells_21 : decode bMd_tells 21 = .ok (.putfield 85, 3) := by decide +kernel
theorem dMd_tells_24 : decode bMd_tells 24 = .ok (.aload_n 0, 1) := by decide +kernel
theorem dMd_tells_25 : decode bMd_tells 25 = .ok (.getfield 85, 3) := by decide +kernel
theorem dMd_tells_28 : decode bMd_tells 28 = .ok (.ifCond .ne 7, 3) := by decide +kernel
theorem dMd_tells_31 : decode bMd_tells 31 = .ok (.iconst 1, 1) := by decide +kernel
theorem dMd_tells_32 : decode bMd_tells 32 = .ok (.goto 4, 3) := by decide +kernel
theorem dMd_tells_35 : decode bMd_tells 35 = .ok (.iconst 0, 1) := by decide +kernel
theorem dMd_tells_36 : decode bMd_tells 36 = .ok (.ireturn, 1) := by decide +kernel
theorem dMd_index_0 : decode bMd_index 0 = .ok (.aload_n 0, 1) := by decide +kernel
theorem dMd_index_1 : decode bMd_index 1 = .ok (.aload_n 0, 1) := by decide +kernel
theorem dMd_index_2 : decode bMd_index 2 = .ok (.iload_n 1, 1) := by decide +kernel
theorem dMd_index_3 : decode bMd_index 3 = .ok (.iload_n 2, 1) := by decide +kernel
theorem dMd_index_4 : decode bMd_index 4 = .ok (.invokevirtual 92, 3) := by decide +kernel
theorem dMd_index_7 : decode bMd_index 7 = .ok (.invokevirtual 188, 3) := by decide +kernel
theorem dMd_index_10 : decode bMd_index 10 = .ok (.ifCond .eq 19, 3) := by decide +kernel
theorem dMd_index_13 : decode bMd_index 13 = .ok (.aload_n 0, 1) := by decide +kernel
theorem dMd_index_14 : decode bMd_index 14 = .ok (.getfield 57, 3) := by decide +kernel
theorem dMd_index_17 : decode bMd_index 17 = .ok (.aload_n 0, 1) := by decide +kernel
theorem dMd_index_18 : decode bMd_index 18 = .ok (.getfield 78, 3) := by decide +kernel
theorem dMd_index_21 : decode bMd_index 21 = .ok (.iload_n 2, 1) := by decide +kernel
theorem dMd_index_22 : decode bMd_index 22 = .ok (.imul, 1) := by decide +kernel
theorem dMd_index_23 : decode bMd_index 23 = .ok (.iload_n 1, 1) := by decide +kernel
theorem dMd_index_24 : decode bMd_index 24 = .ok (.iadd, 1) := by decide +kernel
theorem dMd_index_25 : decode bMd_index 25 = .ok (.iaload, 1) := by decide +kernel
theorem dMd_index_26 : decode bMd_index 26 = .ok (.goto 4, 3) := by decide +kernel
theorem dMd_index_29 : decode bMd_index 29 = .ok (.iconst 0, 1) := by decide +kernel
theorem dMd_index_30 : decode bMd_index 30 = .ok (.ireturn, 1) := by decide +kernel
theorem dMd_nearest_0 : decode bMd_nearest 0 = .ok (.aload_n 0, 1) := by decide +kernel
theorem dMd_nearest_1 : decode bMd_nearest 1 = .ok (.iload_n 1, 1) := by decide +kernel
theorem dMd_nearest_2 : decode bMd_nearest 2 = .ok (.iload_n 2, 1) := by decide +kernel
theorem dMd_nearest_3 : decode bMd_nearest 3 = .ok (.iload_n 3, 1) := by decide +kernel
theorem dMd_nearest_4 : decode bMd_nearest 4 = .ok (.iload 4, 2) := by decide +kernel
theorem dMd_nearest_6 : decode bMd_nearest 6 = .ok (.invokestatic 96, 3) := by decide +kernel
theorem dMd_nearest_9 : decode bMd_nearest 9 = .ok (.invokevirtual 188, 3) := by decide +kernel
theorem dMd_nearest_12 : decode bMd_nearest 12 = .ok (.ifCond .ne 5, 3) := by decide +kernel
theorem dMd_nearest_15 : decode bMd_nearest 15 = .ok (.iconst 0, 1) := by decide +kernel
theorem dMd_nearest_16 : decode bMd_nearest 16 = .ok (.ireturn, 1) := by decide +kernel
theorem dMd_nearest_17 : decode bMd_nearest 17 = .ok (.aload_n 0, 1) := by decide +kernel
theorem dMd_nearest_18 : decode bMd_nearest 18 = .ok (.getfield 69, 3) := by decide +kernel
theorem dMd_nearest_21 : decode bMd_nearest 21 = .ok (.iconst 0, 1) := by decide +kernel
theorem dMd_nearest_22 : decode bMd_nearest 22 = .ok (.iload_n 1, 1) := by decide +kernel
theorem dMd_nearest_23 : decode bMd_nearest 23 = .ok (.iastore, 1) := by decide +kernel
theorem dMd_nearest_24 : decode bMd_nearest 24 = .ok (.aload_n 0, 1) := by decide +kernel
theorem dMd_nearest_25 : decode bMd_nearest 25 = .ok (.getfield 69, 3) := by decide +kernel
theorem dMd_nearest_28 : decode bMd_nearest 28 = .ok (.iconst 1, 1) := by decide +kernel
theorem dMd_nearest_29 : decode bMd_nearest 29 = .ok (.iload_n 2, 1) := by decide +kernel
theorem dMd_nearest_30 : decode bMd_nearest 30 = .ok (.iastore, 1) := by decide +kernel
theorem dMd_nearest_31 : decode bMd_nearest 31 = .ok (.aload_n 0, 1) := by decide +kernel
theorem dMd_nearest_32 : decode bMd_nearest 32 = .ok (.getfield 69, 3) := by decide +kernel
theorem dMd_nearest_35 : decode bMd_nearest 35 = .ok (.iconst 2, 1) := by decide +kernel
theorem dMd_nearest_36 : decode bMd_nearest 36 = .ok (.iload_n 3, 1) := by decide +kernel
theorem dMd_nearest_37 : decode bMd_nearest 37 = .ok (.iastore, 1) := by decide +kernel
theorem dMd_nearest_38 : decode bMd_nearest 38 = .ok (.aload_n 0, 1) := by decide +kernel
theorem dMd_nearest_39 : decode bMd_nearest 39 = .ok (.getfield 69, 3) := by decide +kernel
theorem dMd_nearest_42 : decode bMd_nearest 42 = .ok (.iconst 3, 1) := by decide +kernel
theorem dMd_nearest_43 : decode bMd_nearest 43 = .ok (.iload 4, 2) := by decide +kernel
theorem dMd_nearest_45 : decode bMd_nearest 45 = .ok (.iastore, 1) := by decide +kernel
theorem dMd_nearest_46 : decode bMd_nearest 46 = .ok (.aload_n 0, 1) := by decide +kernel
theorem dMd_nearest_47 : decode bMd_nearest 47 = .ok (.aload_n 0, 1) := by decide +kernel
theorem dMd_nearest_48 : decode bMd_nearest 48 = .ok (.getfield 69, 3) := by decide +kernel
theorem dMd_nearest_51 : decode bMd_nearest 51 = .ok (.iconst 0, 1) := by decide +kernel
theorem dMd_nearest_52 : decode bMd_nearest 52 = .ok (.invokevirtual 167, 3) := by decide +kernel
theorem dMd_nearest_55 : decode bMd_nearest 55 = .ok (.ireturn, 1) := by decide +kernel
theorem dMd_sum_0 : decode bMd_sum 0 = .ok (.aload_n 0, 1) := by decide +kernel
theorem dMd_sum_1 : decode bMd_sum 1 = .ok (.iload_n 1, 1) := by decide +kernel
theorem dMd_sum_2 : decode bMd_sum 2 = .ok (.ifCond .lt 15, 3) := by decide +kernel
theorem dMd_sum_5 : decode bMd_sum 5 = .ok (.iload_n 1, 1) := by decide +kernel
theorem dMd_sum_6 : decode bMd_sum 6 = .ok (.aload_n 0, 1) := by decide +kernel
theorem dMd_sum_7 : decode bMd_sum 7 = .ok (.getfield 175, 3) := by decide +kernel
theorem dMd_sum_10 : decode bMd_sum 10 = .ok (.if_icmp .gt 7, 3) := by decide +kernel
theorem dMd_sum_13 : decode bMd_sum 13 = .ok (.iconst 1, 1) := by decide +kernel
theorem dMd_sum_14 : decode bMd_sum 14 = .ok (.goto 4, 3) := by decide +kernel
theorem dMd_sum_17 : decode bMd_sum 17 = .ok (.iconst 0, 1) := by decide +kernel
theorem dMd_sum_18 : decode bMd_sum 18 = .ok (.invokevirtual 188, 3) := by decide +kernel
theorem dMd_sum_21 : decode bMd_sum 21 = .ok (.ifCond .eq 12, 3) := by decide +kernel
theorem dMd_sum_24 : decode bMd_sum 24 = .ok (.aload_n 0, 1) := by decide +kernel
theorem dMd_sum_25 : decode bMd_sum 25 = .ok (.getfield 72, 3) := by decide +kernel
theorem dMd_sum_28 : decode bMd_sum 28 = .ok (.iload_n 1, 1) := by decide +kernel
theorem dMd_sum_29 : decode bMd_sum 29 = .ok (.laload, 1) := by decide +kernel
theorem dMd_sum_30 : decode bMd_sum 30 = .ok (.goto 4, 3) := by decide +kernel
theorem dMd_sum_33 : decode bMd_sum 33 = .ok (.lconst 0, 1) := by decide +kernel
theorem dMd_sum_34 : decode bMd_sum 34 = .ok (.lreturn, 1) := by decide +kernel
theorem dMd_dither_0 : decode bMd_dither 0 = .ok (.aload_n 0, 1) := by decide +kernel
theorem dMd_dither_1 : decode bMd_dither 1 = .ok (.iload_n 1, 1) := by decide +kernel
theorem dMd_dither_2 : decode bMd_dither 2 = .ok (.ifCond .lt 12, 3) := by decide +kernel
theorem dMd_dither_5 : decode bMd_dither 5 = .ok (.iload_n 1, 1) := by decide +kernel
theorem dMd_dither_6 : decode bMd_dither 6 = .ok (.iconst 2, 1) := by decide +kernel
theorem dMd_dither_7 : decode bMd_dither 7 = .ok (.if_icmp .gt 7, 3) := by decide +kernel
theorem dMd_dither_10 : decode bMd_dither 10 = .ok (.iconst 1, 1) := by decide +kernel
theorem dMd_dither_11 : decode bMd_dither 11 = .ok (.goto 4, 3) := by decide +kernel
theorem dMd_dither_14 : decode bMd_dither 14 = .ok (.iconst 0, 1) := by decide +kernel
theorem dMd_dither_15 : decode bMd_dither 15 = .ok (.invokevirtual 188, 3) := by decide +kernel
theorem dMd_dither_18 : decode bMd_dither 18 = .ok (.ifCond .ne 5, 3) := by decide +kernel
theorem dMd_dither_21 : decode bMd_dither 21 = .ok (.iconst 0, 1) := by decide +kernel
theorem dMd_dither_22 : decode bMd_dither 22 = .ok (.ireturn, 1) := by decide +kernel
theorem dMd_dither_23 : decode bMd_dither 23 = .ok (.iconst 0, 1) := by decide +kernel
theorem dMd_dither_24 : decode bMd_dither 24 = .ok (.istore_n 2, 1) := by decide +kernel
theorem dMd_dither_25 : decode bMd_dither 25 = .ok (.iload_n 2, 1) := by decide +kernel
theorem dMd_dither_26 : decode bMd_dither 26 = .ok (.iconst 4, 1) := by decide +kernel
theorem dMd_dither_27 : decode bMd_dither 27 = .ok (.aload_n 0, 1) := by decide +kernel
theorem dMd_dither_28 : decode bMd_dither 28 = .ok (.getfield 78, 3) := by decide +kernel
theorem dMd_dither_31 : decode bMd_dither 31 = .ok (.imul, 1) := by decide +kernel
theorem dMd_dither_32 : decode bMd_dither 32 = .ok (.aload_n 0, 1) := by decide +kernel
theorem dMd_dither_33 : decode bMd_dither 33 = .ok (.getfield 82, 3) := by decide +kernel
theorem dMd_dither_36 : decode bMd_dither 36 = .ok (.imul, 1) := by decide +kernel
theorem dMd_dither_37 : decode bMd_dither 37 = .ok (.if_icmp .ge 16, 3) := by decide +kernel
theorem dMd_dither_40 : decode bMd_dither 40 = .ok (.aload_n 0, 1) := by decide +kernel
theorem dMd_dither_41 : decode bMd_dither 41 = .ok (.getfield 75, 3) := by decide +kernel
theorem dMd_dither_44 : decode bMd_dither 44 = .ok (.iload_n 2, 1) := by decide +kernel
theorem dMd_dither_45 : decode bMd_dither 45 = .ok (.iconst 0, 1) := by decide +kernel
theorem dMd_dither_46 : decode bMd_dither 46 = .ok (.iastore, 1) := by decide +kernel
theorem dMd_dither_47 : decode bMd_dither 47 = .ok (.iinc 2 1, 3) := by decide +kernel
theorem dMd_dither_50 : decode bMd_dither 50 = .ok (.goto (-25), 3) := by decide +kernel
theorem dMd_dither_53 : decode bMd_dither 53 = .ok (.iconst 0, 1) := by decide +kernel
theorem dMd_dither_54 : decode bMd_dither 54 = .ok (.istore_n 2, 1) := by decide +kernel
theorem dMd_dither_55 : decode bMd_dither 55 = .ok (.iload_n 2, 1) := by decide +kernel
theorem dMd_dither_56 : decode bMd_dither 56 = .ok (.aload_n 0, 1) := by decide +kernel
theorem dMd_dither_57 : decode bMd_dither 57 = .ok (.getfield 82, 3) := by decide +kernel
theorem dMd_dither_60 : decode bMd_dither 60 = .ok (.if_icmp .ge 117, 3) := by decide +kernel
theorem dMd_dither_63 : decode bMd_dither 63 = .ok (.iload_n 1, 1) := by decide +kernel
theorem dMd_dither_64 : decode bMd_dither 64 = .ok (.iconst 2, 1) := by decide +kernel
theorem dMd_dither_65 : decode bMd_dither 65 = .ok (.if_icmp .ne 14, 3) := by decide +kernel
theorem dMd_dither_68 : decode bMd_dither 68 = .ok (.iload_n 2, 1) := by decide +kernel
theorem dMd_dither_69 : decode bMd_dither 69 = .ok (.iconst 2, 1) := by decide +kernel
theorem dMd_dither_70 : decode bMd_dither 70 = .ok (.irem, 1) := by decide +kernel
theorem dMd_dither_71 : decode bMd_dither 71 = .ok (.iconst 1, 1) := by decide +kernel
theorem dMd_dither_72 : decode bMd_dither 72 = .ok (.if_icmp .ne 7, 3) := by decide +kernel
theorem dMd_dither_75 : decode bMd_dither 75 = .ok (.iconst 1, 1) := by decide +kernel
theorem dMd_dither_76 : decode bMd_dither 76 = .ok (.goto 4, 3) := by decide +kernel
theorem dMd_dither_79 : decode bMd_dither 79 = .ok (.iconst 0, 1) := by decide +kernel
theorem dMd_dither_80 : decode bMd_dither 80 = .ok (.istore_n 3, 1) := by decide +kernel
theorem dMd_dither_81 : decode bMd_dither 81 = .ok (.iconst 0, 1) := by decide +kernel
theorem dMd_dither_82 : decode bMd_dither 82 = .ok (.istore 4, 2) := by decide +kernel
theorem dMd_dither_84 : decode bMd_dither 84 = .ok (.iload 4, 2) := by decide +kernel
theorem dMd_dither_86 : decode bMd_dither 86 = .ok (.aload_n 0, 1) := by decide +kernel
theorem dMd_dither_87 : decode bMd_dither 87 = .ok (.getfield 78, 3) := by decide +kernel
theorem dMd_dither_90 : decode bMd_dither 90 = .ok (.if_icmp .ge 81, 3) := by decide +kernel
theorem dMd_dither_93 : decode bMd_dither 93 = .ok (.iload_n 1, 1) := by decide +kernel
theorem dMd_dither_94 : decode bMd_dither 94 = .ok (.ifCond .ne 39, 3) := by decide +kernel
theorem dMd_dither_97 : decode bMd_dither 97 = .ok (.aload_n 0, 1) := by decide +kernel
theorem dMd_dither_98 : decode bMd_dither 98 = .ok (.getfield 57, 3) := by decide +kernel
theorem dMd_dither_101 : decode bMd_dither 101 = .ok (.aload_n 0, 1) := by decide +kernel
theorem dMd_dither_102 : decode bMd_dither 102 = .ok (.getfield 78, 3) := by decide +kernel
theorem dMd_dither_105 : decode bMd_dither 105 = .ok (.iload_n 2, 1) := by decide +kernel
theorem dMd_dither_106 : decode bMd_dither 106 = .ok (.imul, 1) := by decide +kernel
theorem dMd_dither_107 : decode bMd_dither 107 = .ok (.iload 4, 2) := by decide +kernel
theorem dMd_dither_109 : decode bMd_dither 109 = .ok (.iadd, 1) := by decide +kernel
theorem dMd_dither_110 : decode bMd_dither 110 = .ok (.aload_n 0, 1) := by decide +kernel
theorem dMd_dither_111 : decode bMd_dither 111 = .ok (.aload_n 0, 1) := by decide +kernel
theorem dMd_dither_112 : decode bMd_dither 112 = .ok (.getfield 7, 3) := by decide +kernel
theorem dMd_dither_115 : decode bMd_dither 115 = .ok (.iconst 4, 1) := by decide +kernel
theorem dMd_dither_116 : decode bMd_dither 116 = .ok (.aload_n 0, 1) := by decide +kernel
theorem dMd_dither_117 : decode bMd_dither 117 = .ok (.getfield 78, 3) := by decide +kernel
theorem dMd_dither_120 : decode bMd_dither 120 = .ok (.iload_n 2, 1) := by decide +kernel
theorem dMd_dither_121 : decode bMd_dither 121 = .ok (.imul, 1) := by decide +kernel
theorem dMd_dither_122 : decode bMd_dither 122 = .ok (.iload 4, 2) := by decide +kernel
theorem dMd_dither_124 : decode bMd_dither 124 = .ok (.iadd, 1) := by decide +kernel
theorem dMd_dither_125 : decode bMd_dither 125 = .ok (.imul, 1) := by decide +kernel
theorem dMd_dither_126 : decode bMd_dither 126 = .ok (.invokevirtual 167, 3) := by decide +kernel
theorem dMd_dither_129 : decode bMd_dither 129 = .ok (.iastore, 1) := by decide +kernel
theorem dMd_dither_130 : decode bMd_dither 130 = .ok (.goto 35, 3) := by decide +kernel
theorem dMd_dither_133 : decode bMd_dither 133 = .ok (.aload_n 0, 1) := by decide +kernel
theorem dMd_dither_134 : decode bMd_dither 134 = .ok (.iload_n 3, 1) := by decide +kernel
theorem dMd_dither_135 : decode bMd_dither 135 = .ok (.ifCond .eq 15, 3) := by decide +kernel
theorem dMd_dither_138 : decode bMd_dither 138 = .ok (.aload_n 0, 1) := by decide +kernel
theorem dMd_dither_139 : decode bMd_dither 139 = .ok (.getfield 78, 3) := by decide +kernel
theorem dMd_dither_142 : decode bMd_dither 142 = .ok (.iconst 1, 1) := by decide +kernel
theorem dMd_dither_143 : decode bMd_dither 143 = .ok (.isub, 1) := by decide +kernel
theorem dMd_dither_144 : decode bMd_dither 144 = .ok (.iload 4, 2) := by decide +kernel
theorem dMd_dither_146 : decode bMd_dither 146 = .ok (.isub, 1) := by decide +kernel
theorem dMd_dither_147 : decode bMd_dither 147 = .ok (.goto 5, 3) := by decide +kernel
theorem dMd_dither_150 : decode bMd_dither 150 = .ok (.iload 4, 2) := by decide +kernel
theorem dMd_dither_152 : decode bMd_dither 152 = .ok (.iload_n 2, 1) := by decide +kernel
theorem dMd_dither_153 : decode bMd_dither 153 = .ok (.iload_n 3, 1) := by decide +kernel
theorem dMd_dither_154 : decode bMd_dither 154 = .ok (.ifCond .eq 7, 3) := by decide +kernel
theorem dMd_dither_157 : decode bMd_dither 157 = .ok (.iconst (-1), 1) := by decide +kernel
theorem dMd_dither_158 : decode bMd_dither 158 = .ok (.goto 4, 3) := by decide +kernel
theorem dMd_dither_161 : decode bMd_dither 161 = .ok (.iconst 1, 1) := by decide +kernel
theorem dMd_dither_162 : decode bMd_dither 162 = .ok (.invokevirtual 195, 3) := by decide +kernel
theorem dMd_dither_165 : decode bMd_dither 165 = .ok (.iinc 4 1, 3) := by decide +kernel
theorem dMd_dither_168 : decode bMd_dither 168 = .ok (.goto (-84), 3) := by decide +kernel
theorem dMd_dither_171 : decode bMd_dither 171 = .ok (.iinc 2 1, 3) := by decide +kernel
theorem dMd_dither_174 : decode bMd_dither 174 = .ok (.goto (-119), 3) := by decide +kernel
theorem dMd_dither_177 : decode bMd_dither 177 = .ok (.iconst 0, 1) := by decide +kernel
theorem dMd_dither_178 : decode bMd_dither 178 = .ok (.istore_n 2, 1) := by decide +kernel
theorem dMd_dither_179 : decode bMd_dither 179 = .ok (.iconst 0, 1) := by decide +kernel
theorem dMd_dither_180 : decode bMd_dither 180 = .ok (.istore_n 3, 1) := by decide +kernel
theorem dMd_dither_181 : decode bMd_dither 181 = .ok (.iload_n 3, 1) := by decide +kernel
theorem dMd_dither_182 : decode bMd_dither 182 = .ok (.aload_n 0, 1) := by decide +kernel
theorem dMd_dither_183 : decode bMd_dither 183 = .ok (.getfield 78, 3) := by decide +kernel
theorem dMd_dither_186 : decode bMd_dither 186 = .ok (.aload_n 0, 1) := by decide +kernel
theorem dMd_dither_187 : decode bMd_dither 187 = .ok (.getfield 82, 3) := by decide +kernel
theorem dMd_dither_190 : decode bMd_dither 190 = .ok (.imul, 1) := by decide +kernel
theorem dMd_dither_191 : decode bMd_dither 191 = .ok (.if_icmp .ge 37, 3) := by decide +kernel
theorem dMd_dither_194 : decode bMd_dither 194 = .ok (.iload_n 2, 1) := by decide +kernel
theorem dMd_dither_195 : decode bMd_dither 195 = .ok (.aload_n 0, 1) := by decide +kernel
theorem dMd_dither_196 : decode bMd_dither 196 = .ok (.getfield 57, 3) := by decide +kernel
theorem dMd_dither_199 : decode bMd_dither 199 = .ok (.iload_n 3, 1) := by decide +kernel
theorem dMd_dither_200 : decode bMd_dither 200 = .ok (.iaload, 1) := by decide +kernel
theorem dMd_dither_201 : decode bMd_dither 201 = .ok (.aload_n 0, 1) := by decide +kernel
theorem dMd_dither_202 : decode bMd_dither 202 = .ok (.aload_n 0, 1) := by decide +kernel
theorem dMd_dither_203 : decode bMd_dither 203 = .ok (.getfield 7, 3) := by decide +kernel
theorem dMd_dither_206 : decode bMd_dither 206 = .ok (.iconst 4, 1) := by decide +kernel
theorem dMd_dither_207 : decode bMd_dither 207 = .ok (.iload_n 3, 1) := by decide +kernel
theorem dMd_dither_208 : decode bMd_dither 208 = .ok (.imul, 1) := by decide +kernel
theorem dMd_dither_209 : decode bMd_dither 209 = .ok (.invokevirtual 167, 3) := by decide +kernel
theorem dMd_dither_212 : decode bMd_dither 212 = .ok (.if_icmp .eq 7, 3) := by decide +kernel
theorem dMd_dither_215 : decode bMd_dither 215 = .ok (.iconst 1, 1) := by decide +kernel
theorem dMd_dither_216 : decode bMd_dither 216 = .ok (.goto 4, 3) := by decide +kernel
theorem dMd_dither_219 : decode bMd_dither 219 = .ok (.iconst 0, 1) := by decide +kernel
theorem dMd_dither_220 : decode bMd_dither 220 = .ok (.iadd, 1) := by decide +kernel
theorem dMd_dither_221 : decode bMd_dither 221 = .ok (.istore_n 2, 1) := by decide +kernel
theorem dMd_dither_222 : decode bMd_dither 222 = .ok (.iinc 3 1, 3) := by decide +kernel
theorem dMd_dither_225 : decode bMd_dither 225 = .ok (.goto (-44), 3) := by decide +kernel
theorem dMd_dither_228 : decode bMd_dither 228 = .ok (.iload_n 2, 1) := by decide +kernel
theorem dMd_dither_229 : decode bMd_dither 229 = .ok (.ireturn, 1) := by decide +kernel
theorem dMd_missed_0 : decode bMd_missed 0 = .ok (.aload_n 0, 1) := by decide +kernel
theorem dMd_missed_1 : decode bMd_missed 1 = .ok (.getfield 78, 3) := by decide +kernel
theorem dMd_missed_4 : decode bMd_missed 4 = .ok (.iload_n 2, 1) := by decide +kernel
theorem dMd_missed_5 : decode bMd_missed 5 = .ok (.imul, 1) := by decide +kernel
theorem dMd_missed_6 : decode bMd_missed 6 = .ok (.iload_n 1, 1) := by decide +kernel
theorem dMd_missed_7 : decode bMd_missed 7 = .ok (.iadd, 1) := by decide +kernel
theorem dMd_missed_8 : decode bMd_missed 8 = .ok (.istore 4, 2) := by decide +kernel
theorem dMd_missed_10 : decode bMd_missed 10 = .ok (.iconst 0, 1) := by decide +kernel
theorem dMd_missed_11 : decode bMd_missed 11 = .ok (.istore 5, 2) := by decide +kernel
theorem dMd_missed_13 : decode bMd_missed 13 = .ok (.iload 5, 2) := by decide +kernel
theorem dMd_missed_15 : decode bMd_missed 15 = .ok (.iconst 4, 1) := by decide +kernel
theorem dMd_missed_16 : decode bMd_missed 16 = .ok (.if_icmp .ge 44, 3) := by decide +kernel
theorem dMd_missed_19 : decode bMd_missed 19 = .ok (.aload_n 0, 1) := by decide +kernel
theorem dMd_missed_20 : decode bMd_missed 20 = .ok (.getfield 69, 3) := by decide +kernel
theorem dMd_missed_23 : decode bMd_missed 23 = .ok (.iload 5, 2) := by decide +kernel
theorem dMd_missed_25 : decode bMd_missed 25 = .ok (.aload_n 0, 1) := by decide +kernel
theorem dMd_missed_26 : decode bMd_missed 26 = .ok (.getfield 7, 3) := by decide +kernel
theorem dMd_missed_29 : decode bMd_missed 29 = .ok (.iconst 4, 1) := by decide +kernel
theorem dMd_missed_30 : decode bMd_missed 30 = .ok (.iload 4, 2) := by decide +kernel
theorem dMd_missed_32 : decode bMd_missed 32 = .ok (.imul, 1) := by decide +kernel
theorem dMd_missed_33 : decode bMd_missed 33 = .ok (.iload 5, 2) := by decide +kernel
theorem dMd_missed_35 : decode bMd_missed 35 = .ok (.iadd, 1) := by decide +kernel
theorem dMd_missed_36 : decode bMd_missed 36 = .ok (.iaload, 1) := by decide +kernel
theorem dMd_missed_37 : decode bMd_missed 37 = .ok (.aload_n 0, 1) := by decide +kernel
theorem dMd_missed_38 : decode bMd_missed 38 = .ok (.getfield 75, 3) := by decide +kernel
theorem dMd_missed_41 : decode bMd_missed 41 = .ok (.iconst 4, 1) := by decide +kernel
theorem dMd_missed_42 : decode bMd_missed 42 = .ok (.iload 4, 2) := by decide +kernel
theorem dMd_missed_44 : decode bMd_missed 44 = .ok (.imul, 1) := by decide +kernel
theorem dMd_missed_45 : decode bMd_missed 45 = .ok (.iload 5, 2) := by decide +kernel
theorem dMd_missed_47 : decode bMd_missed 47 = .ok (.iadd, 1) := by decide +kernel
theorem dMd_missed_48 : decode bMd_missed 48 = .ok (.iaload, 1) := by decide +kernel
theorem dMd_missed_49 : decode bMd_missed 49 = .ok (.iadd, 1) := by decide +kernel
theorem dMd_missed_50 : decode bMd_missed 50 = .ok (.invokestatic 192, 3) := by decide +kernel
theorem dMd_missed_53 : decode bMd_missed 53 = .ok (.iastore, 1) := by decide +kernel
theorem dMd_missed_54 : decode bMd_missed 54 = .ok (.iinc 5 1, 3) := by decide +kernel
theorem dMd_missed_57 : decode bMd_missed 57 = .ok (.goto (-44), 3) := by decide +kernel
theorem dMd_missed_60 : decode bMd_missed 60 = .ok (.aload_n 0, 1) := by decide +kernel
theorem dMd_missed_61 : decode bMd_missed 61 = .ok (.getfield 57, 3) := by decide +kernel
theorem dMd_missed_64 : decode bMd_missed 64 = .ok (.iload 4, 2) := by decide +kernel
theorem dMd_missed_66 : decode bMd_missed 66 = .ok (.aload_n 0, 1) := by decide +kernel
theorem dMd_missed_67 : decode bMd_missed 67 = .ok (.aload_n 0, 1) := by decide +kernel
theorem dMd_missed_68 : decode bMd_missed 68 = .ok (.getfield 69, 3) := by decide +kernel
theorem dMd_missed_71 : decode bMd_missed 71 = .ok (.iconst 0, 1) := by decide +kernel
theorem dMd_missed_72 : decode bMd_missed 72 = .ok (.invokevirtual 167, 3) := by decide +kernel
theorem dMd_missed_75 : decode bMd_missed 75 = .ok (.iastore, 1) := by decide +kernel
theorem dMd_missed_76 : decode bMd_missed 76 = .ok (.iload_n 1, 1) := by decide +kernel
theorem dMd_missed_77 : decode bMd_missed 77 = .ok (.iload_n 3, 1) := by decide +kernel
theorem dMd_missed_78 : decode bMd_missed 78 = .ok (.iadd, 1) := by decide +kernel
theorem dMd_missed_79 : decode bMd_missed 79 = .ok (.ifCond .lt 17, 3) := by decide +kernel
theorem dMd_missed_82 : decode bMd_missed 82 = .ok (.iload_n 1, 1) := by decide +kernel
theorem dMd_missed_83 : decode bMd_missed 83 = .ok (.iload_n 3, 1) := by decide +kernel
theorem dMd_missed_84 : decode bMd_missed 84 = .ok (.iadd, 1) := by decide +kernel
theorem dMd_missed_85 : decode bMd_missed 85 = .ok (.aload_n 0, 1) := by decide +kernel
theorem dMd_missed_86 : decode bMd_missed 86 = .ok (.getfield 78, 3) := by decide +kernel
theorem dMd_missed_89 : decode bMd_missed 89 = .ok (.if_icmp .ge 7, 3) := by decide +kernel
theorem dMd_missed_92 : decode bMd_missed 92 = .ok (.iconst 1, 1) := by decide +kernel
theorem dMd_missed_93 : decode bMd_missed 93 = .ok (.goto 4, 3) := by decide +kernel
theorem dMd_missed_96 : decode bMd_missed 96 = .ok (.iconst 0, 1) := by decide +kernel
theorem dMd_missed_97 : decode bMd_missed 97 = .ok (.istore 5, 2) := by decide +kernel
theorem dMd_missed_99 : decode bMd_missed 99 = .ok (.iconst 0, 1) := by decide +kernel
theorem dMd_missed_100 : decode bMd_missed 100 = .ok (.istore 6, 2) := by decide +kernel
theorem dMd_missed_102 : decode bMd_missed 102 = .ok (.iload 6, 2) := by decide +kernel
theorem dMd_missed_104 : decode bMd_missed 104 = .ok (.iconst 4, 1) := by decide +kernel
theorem dMd_missed_105 : decode bMd_missed 105 = .ok (.if_icmp .ge 117, 3) := by decide +kernel
theorem dMd_missed_108 : decode bMd_missed 108 = .ok (.aload_n 0, 1) := by decide +kernel
theorem dMd_missed_109 : decode bMd_missed 109 = .ok (.getfield 7, 3) := by decide +kernel
theorem dMd_missed_112 : decode bMd_missed 112 = .ok (.iconst 4, 1) := by decide +kernel
theorem dMd_missed_113 : decode bMd_missed 113 = .ok (.iload 4, 2) := by decide +kernel
theorem dMd_missed_115 : decode bMd_missed 115 = .ok (.imul, 1) := by decide +kernel
theorem dMd_missed_116 : decode bMd_missed 116 = .ok (.iload 6, 2) := by decide +kernel
theorem dMd_missed_118 : decode bMd_missed 118 = .ok (.iadd, 1) := by decide +kernel
theorem dMd_missed_119 : decode bMd_missed 119 = .ok (.iaload, 1) := by decide +kernel
theorem dMd_missed_120 : decode bMd_missed 120 = .ok (.aload_n 0, 1) := by decide +kernel
theorem dMd_missed_121 : decode bMd_missed 121 = .ok (.getfield 75, 3) := by decide +kernel
theorem dMd_missed_124 : decode bMd_missed 124 = .ok (.iconst 4, 1) := by decide +kernel
theorem dMd_missed_125 : decode bMd_missed 125 = .ok (.iload 4, 2) := by decide +kernel
theorem dMd_missed_127 : decode bMd_missed 127 = .ok (.imul, 1) := by decide +kernel
theorem dMd_missed_128 : decode bMd_missed 128 = .ok (.iload 6, 2) := by decide +kernel
theorem dMd_missed_130 : decode bMd_missed 130 = .ok (.iadd, 1) := by decide +kernel
theorem dMd_missed_131 : decode bMd_missed 131 = .ok (.iaload, 1) := by decide +kernel
theorem dMd_missed_132 : decode bMd_missed 132 = .ok (.iadd, 1) := by decide +kernel
theorem dMd_missed_133 : decode bMd_missed 133 = .ok (.aload_n 0, 1) := by decide +kernel
theorem dMd_missed_134 : decode bMd_missed 134 = .ok (.getfield 54, 3) := by decide +kernel
theorem dMd_missed_137 : decode bMd_missed 137 = .ok (.iconst 4, 1) := by decide +kernel
theorem dMd_missed_138 : decode bMd_missed 138 = .ok (.aload_n 0, 1) := by decide +kernel
theorem dMd_missed_139 : decode bMd_missed 139 = .ok (.getfield 57, 3) := by decide +kernel
theorem dMd_missed_142 : decode bMd_missed 142 = .ok (.iload 4, 2) := by decide +kernel
theorem dMd_missed_144 : decode bMd_missed 144 = .ok (.iaload, 1) := by decide +kernel
theorem dMd_missed_145 : decode bMd_missed 145 = .ok (.imul, 1) := by decide +kernel
theorem dMd_missed_146 : decode bMd_missed 146 = .ok (.iload 6, 2) := by decide +kernel
theorem dMd_missed_148 : decode bMd_missed 148 = .ok (.iadd, 1) := by decide +kernel
theorem dMd_missed_149 : decode bMd_missed 149 = .ok (.iaload, 1) := by decide +kernel
theorem dMd_missed_150 : decode bMd_missed 150 = .ok (.isub, 1) := by decide +kernel
theorem dMd_missed_151 : decode bMd_missed 151 = .ok (.istore 7, 2) := by decide +kernel
theorem dMd_missed_153 : decode bMd_missed 153 = .ok (.iload 5, 2) := by decide +kernel
theorem dMd_missed_155 : decode bMd_missed 155 = .ok (.ifCond .eq 24, 3) := by decide +kernel
theorem dMd_missed_158 : decode bMd_missed 158 = .ok (.aload_n 0, 1) := by decide +kernel
theorem dMd_missed_159 : decode bMd_missed 159 = .ok (.getfield 75, 3) := by decide +kernel
theorem dMd_missed_162 : decode bMd_missed 162 = .ok (.iconst 4, 1) := by decide +kernel
theorem dMd_missed_163 : decode bMd_missed 163 = .ok (.iload 4, 2) := by decide +kernel
theorem dMd_missed_165 : decode bMd_missed 165 = .ok (.iload_n 3, 1) := by decide +kernel
theorem dMd_missed_166 : decode bMd_missed 166 = .ok (.iadd, 1) := by decide +kernel
theorem dMd_missed_167 : decode bMd_missed 167 = .ok (.imul, 1) := by decide +kernel
theorem dMd_missed_168 : decode bMd_missed 168 = .ok (.iload 6, 2) := by decide +kernel
theorem dMd_missed_170 : decode bMd_missed 170 = .ok (.iadd, 1) := by decide +kernel
theorem dMd_missed_171 : decode bMd_missed 171 = .ok (.dup2, 1) := by decide +kernel
theorem dMd_missed_172 : decode bMd_missed 172 = .ok (.iaload, 1) := by decide +kernel
theorem dMd_missed_173 : decode bMd_missed 173 = .ok (.iload 7, 2) := by decide +kernel
theorem dMd_missed_175 : decode bMd_missed 175 = .ok (.iconst 2, 1) := by decide +kernel
theorem dMd_missed_176 : decode bMd_missed 176 = .ok (.idiv, 1) := by decide +kernel
theorem dMd_missed_177 : decode bMd_missed 177 = .ok (.iadd, 1) := by decide +kernel
theorem dMd_missed_178 : decode bMd_missed 178 = .ok (.iastore, 1) := by decide +kernel
theorem dMd_missed_179 : decode bMd_missed 179 = .ok (.iload_n 2, 1) := by decide +kernel
theorem dMd_missed_180 : decode bMd_missed 180 = .ok (.iconst 1, 1) := by decide +kernel
theorem dMd_missed_181 : decode bMd_missed 181 = .ok (.iadd, 1) := by decide +kernel
theorem dMd_missed_182 : decode bMd_missed 182 = .ok (.aload_n 0, 1) := by decide +kernel
theorem dMd_missed_183 : decode bMd_missed 183 = .ok (.getfield 82, 3) := by decide +kernel
theorem dMd_missed_186 : decode bMd_missed 186 = .ok (.if_icmp .ge 30, 3) := by decide +kernel
theorem dMd_missed_189 : decode bMd_missed 189 = .ok (.aload_n 0, 1) := by decide +kernel
theorem dMd_missed_190 : decode bMd_missed 190 = .ok (.getfield 75, 3) := by decide +kernel
theorem dMd_missed_193 : decode bMd_missed 193 = .ok (.iconst 4, 1) := by decide +kernel
theorem dMd_missed_194 : decode bMd_missed 194 = .ok (.iload 4, 2) := by decide +kernel
theorem dMd_missed_196 : decode bMd_missed 196 = .ok (.aload_n 0, 1) := by decide +kernel
theorem dMd_missed_197 : decode bMd_missed 197 = .ok (.getfield 78, 3) := by decide +kernel
theorem dMd_missed_200 : decode bMd_missed 200 = .ok (.iadd, 1) := by decide +kernel
theorem dMd_missed_201 : decode bMd_missed 201 = .ok (.imul, 1) := by decide +kernel
theorem dMd_missed_202 : decode bMd_missed 202 = .ok (.iload 6, 2) := by decide +kernel
theorem dMd_missed_204 : decode bMd_missed 204 = .ok (.iadd, 1) := by decide +kernel
theorem dMd_missed_205 : decode bMd_missed 205 = .ok (.dup2, 1) := by decide +kernel
theorem dMd_missed_206 : decode bMd_missed 206 = .ok (.iaload, 1) := by decide +kernel
theorem dMd_missed_207 : decode bMd_missed 207 = .ok (.iload 7, 2) := by decide +kernel
theorem dMd_missed_209 : decode bMd_missed 209 = .ok (.iload 7, 2) := by decide +kernel
theorem dMd_missed_211 : decode bMd_missed 211 = .ok (.iconst 2, 1) := by decide +kernel
theorem dMd_missed_212 : decode bMd_missed 212 = .ok (.idiv, 1) := by decide +kernel
theorem dMd_missed_213 : decode bMd_missed 213 = .ok (.isub, 1) := by decide +kernel
theorem dMd_missed_214 : decode bMd_missed 214 = .ok (.iadd, 1) := by decide +kernel
theorem dMd_missed_215 : decode bMd_missed 215 = .ok (.iastore, 1) := by decide +kernel
theorem dMd_missed_216 : decode bMd_missed 216 = .ok (.iinc 6 1, 3) := by decide +kernel
theorem dMd_missed_219 : decode bMd_missed 219 = .ok (.goto (-117), 3) := by decide +kernel
theorem dMd_missed_222 : decode bMd_missed 222 = .ok (.return_, 1) := by decide +kernel
theorem dMd_brought_0 : decode bMd_brought 0 = .ok (.iload_n 0, 1) := by decide +kernel
theorem dMd_brought_1 : decode bMd_brought 1 = .ok (.ifCond .ge 7, 3) := by decide +kernel
theorem dMd_brought_4 : decode bMd_brought 4 = .ok (.iconst 0, 1) := by decide +kernel
theorem dMd_brought_5 : decode bMd_brought 5 = .ok (.goto 17, 3) := by decide +kernel
theorem dMd_brought_8 : decode bMd_brought 8 = .ok (.iload_n 0, 1) := by decide +kernel
theorem dMd_brought_9 : decode bMd_brought 9 = .ok (.sipush 255, 3) := by decide +kernel
theorem dMd_brought_12 : decode bMd_brought 12 = .ok (.if_icmp .le 9, 3) := by decide +kernel
theorem dMd_brought_15 : decode bMd_brought 15 = .ok (.sipush 255, 3) := by decide +kernel
theorem dMd_brought_18 : decode bMd_brought 18 = .ok (.goto 4, 3) := by decide +kernel
theorem dMd_brought_21 : decode bMd_brought 21 = .ok (.iload_n 0, 1) := by decide +kernel
theorem dMd_brought_22 : decode bMd_brought 22 = .ok (.ireturn, 1) := by decide +kernel
theorem dMd_count_0 : decode bMd_count 0 = .ok (.aload_n 0, 1) := by decide +kernel
theorem dMd_count_1 : decode bMd_count 1 = .ok (.iload_n 1, 1) := by decide +kernel
theorem dMd_count_2 : decode bMd_count 2 = .ok (.ifCond .lt 15, 3) := by decide +kernel
theorem dMd_count_5 : decode bMd_count 5 = .ok (.iload_n 1, 1) := by decide +kernel
theorem dMd_count_6 : decode bMd_count 6 = .ok (.aload_n 0, 1) := by decide +kernel
theorem dMd_count_7 : decode bMd_count 7 = .ok (.getfield 158, 3) := by decide +kernel
theorem dMd_count_10 : decode bMd_count 10 = .ok (.if_icmp .ge 7, 3) := by decide +kernel
theorem dMd_count_13 : decode bMd_count 13 = .ok (.iconst 1, 1) := by decide +kernel
theorem dMd_count_14 : decode bMd_count 14 = .ok (.goto 4, 3) := by decide +kernel
theorem dMd_count_17 : decode bMd_count 17 = .ok (.iconst 0, 1) := by decide +kernel
theorem dMd_count_18 : decode bMd_count 18 = .ok (.invokevirtual 188, 3) := by decide +kernel
theorem dMd_count_21 : decode bMd_count 21 = .ok (.ifCond .ne 5, 3) := by decide +kernel
theorem dMd_count_24 : decode bMd_count 24 = .ok (.iconst 0, 1) := by decide +kernel
theorem dMd_count_25 : decode bMd_count 25 = .ok (.ireturn, 1) := by decide +kernel
theorem dMd_count_26 : decode bMd_count 26 = .ok (.iconst 0, 1) := by decide +kernel
theorem dMd_count_27 : decode bMd_count 27 = .ok (.istore_n 2, 1) := by decide +kernel
theorem dMd_count_28 : decode bMd_count 28 = .ok (.iconst 0, 1) := by decide +kernel
theorem dMd_count_29 : decode bMd_count 29 = .ok (.istore_n 3, 1) := by decide +kernel
theorem dMd_count_30 : decode bMd_count 30 = .ok (.iload_n 3, 1) := by decide +kernel
theorem dMd_count_31 : decode bMd_count 31 = .ok (.aload_n 0, 1) := by decide +kernel
theorem dMd_count_32 : decode bMd_count 32 = .ok (.getfield 78, 3) := by decide +kernel
theorem dMd_count_35 : decode bMd_count 35 = .ok (.aload_n 0, 1) := by decide +kernel
theorem dMd_count_36 : decode bMd_count 36 = .ok (.getfield 82, 3) := by decide +kernel
theorem dMd_count_39 : decode bMd_count 39 = .ok (.imul, 1) := by decide +kernel
theorem dMd_count_40 : decode bMd_count 40 = .ok (.if_icmp .ge 27, 3) := by decide +kernel
theorem dMd_count_43 : decode bMd_count 43 = .ok (.iload_n 2, 1) := by decide +kernel
theorem dMd_count_44 : decode bMd_count 44 = .ok (.aload_n 0, 1) := by decide +kernel
theorem dMd_count_45 : decode bMd_count 45 = .ok (.getfield 57, 3) := by decide +kernel
theorem dMd_count_48 : decode bMd_count 48 = .ok (.iload_n 3, 1) := by decide +kernel
theorem dMd_count_49 : decode bMd_count 49 = .ok (.iaload, 1) := by decide +kernel
theorem dMd_count_50 : decode bMd_count 50 = .ok (.iload_n 1, 1) := by decide +kernel
theorem dMd_count_51 : decode bMd_count 51 = .ok (.if_icmp .ne 7, 3) := by decide +kernel
theorem dMd_count_54 : decode bMd_count 54 = .ok (.iconst 1, 1) := by decide +kernel
theorem dMd_count_55 : decode bMd_count 55 = .ok (.goto 4, 3) := by decide +kernel
theorem dMd_count_58 : decode bMd_count 58 = .ok (.iconst 0, 1) := by decide +kernel
theorem dMd_count_59 : decode bMd_count 59 = .ok (.iadd, 1) := by decide +kernel
theorem dMd_count_60 : decode bMd_count 60 = .ok (.istore_n 2, 1) := by decide +kernel
theorem dMd_count_61 : decode bMd_count 61 = .ok (.iinc 3 1, 3) := by decide +kernel
theorem dMd_count_64 : decode bMd_count 64 = .ok (.goto (-34), 3) := by decide +kernel
theorem dMd_count_67 : decode bMd_count 67 = .ok (.iload_n 2, 1) := by decide +kernel
theorem dMd_count_68 : decode bMd_count 68 = .ok (.ireturn, 1) := by decide +kernel
theorem dMd_exact_0 : decode bMd_exact 0 = .ok (.aload_n 0, 1) := by decide +kernel
theorem dMd_exact_1 : decode bMd_exact 1 = .ok (.iconst 1, 1) := by decide +kernel
theorem dMd_exact_2 : decode bMd_exact 2 = .ok (.invokevirtual 188, 3) := by decide +kernel
theorem dMd_exact_5 : decode bMd_exact 5 = .ok (.istore_n 1, 1) := by decide +kernel
theorem dMd_exact_6 : decode bMd_exact 6 = .ok (.iconst 0, 1) := by decide +kernel
theorem dMd_exact_7 : decode bMd_exact 7 = .ok (.istore_n 2, 1) := by decide +kernel
theorem dMd_exact_8 : decode bMd_exact 8 = .ok (.iload_n 2, 1) := by decide +kernel
theorem dMd_exact_9 : decode bMd_exact 9 = .ok (.aload_n 0, 1) := by decide +kernel
theorem dMd_exact_10 : decode bMd_exact 10 = .ok (.getfield 78, 3) := by decide +kernel
theorem dMd_exact_13 : decode bMd_exact 13 = .ok (.aload_n 0, 1) := by decide +kernel
theorem dMd_exact_14 : decode bMd_exact 14 = .ok (.getfield 82, 3) := by decide +kernel
theorem dMd_exact_17 : decode bMd_exact 17 = .ok (.imul, 1) := by decide +kernel
theorem dMd_exact_18 : decode bMd_exact 18 = .ok (.if_icmp .ge 44, 3) := by decide +kernel
theorem dMd_exact_21 : decode bMd_exact 21 = .ok (.iload_n 1, 1) := by decide +kernel
theorem dMd_exact_22 : decode bMd_exact 22 = .ok (.ifCond .eq 40, 3) := by decide +kernel
theorem dMd_exact_25 : decode bMd_exact 25 = .ok (.aload_n 0, 1) := by decide +kernel
theorem dMd_exact_26 : decode bMd_exact 26 = .ok (.getfield 54, 3) := by decide +kernel
theorem dMd_exact_29 : decode bMd_exact 29 = .ok (.iconst 4, 1) := by decide +kernel
theorem dMd_exact_30 : decode bMd_exact 30 = .ok (.aload_n 0, 1) := by decide +kernel
theorem dMd_exact_31 : decode bMd_exact 31 = .ok (.getfield 57, 3) := by decide +kernel
theorem dMd_exact_34 : decode bMd_exact 34 = .ok (.iload_n 2, 1) := by decide +kernel
theorem dMd_exact_35 : decode bMd_exact 35 = .ok (.iaload, 1) := by decide +kernel
theorem dMd_exact_36 : decode bMd_exact 36 = .ok (.imul, 1) := by decide +kernel
theorem dMd_exact_37 : decode bMd_exact 37 = .ok (.aload_n 0, 1) := by decide +kernel
theorem dMd_exact_38 : decode bMd_exact 38 = .ok (.getfield 7, 3) := by decide +kernel
theorem dMd_exact_41 : decode bMd_exact 41 = .ok (.iconst 4, 1) := by decide +kernel
theorem dMd_exact_42 : decode bMd_exact 42 = .ok (.iload_n 2, 1) := by decide +kernel
theorem dMd_exact_43 : decode bMd_exact 43 = .ok (.imul, 1) := by decide +kernel
theorem dMd_exact_44 : decode bMd_exact 44 = .ok (.invokestatic 111, 3) := by decide +kernel
theorem dMd_exact_47 : decode bMd_exact 47 = .ok (.ifCond .ne 7, 3) := by decide +kernel
theorem dMd_exact_50 : decode bMd_exact 50 = .ok (.iconst 1, 1) := by decide +kernel
theorem dMd_exact_51 : decode bMd_exact 51 = .ok (.goto 4, 3) := by decide +kernel
theorem dMd_exact_54 : decode bMd_exact 54 = .ok (.iconst 0, 1) := by decide +kernel
theorem dMd_exact_55 : decode bMd_exact 55 = .ok (.istore_n 1, 1) := by decide +kernel
theorem dMd_exact_56 : decode bMd_exact 56 = .ok (.iinc 2 1, 3) := by decide +kernel
theorem dMd_exact_59 : decode bMd_exact 59 = .ok (.goto (-51), 3) := by decide +kernel
theorem dMd_exact_62 : decode bMd_exact 62 = .ok (.iload_n 1, 1) := by decide +kernel
theorem dMd_exact_63 : decode bMd_exact 63 = .ok (.ireturn, 1) := by decide +kernel
theorem dMd_told_0 : decode bMd_told 0 = .ok (.aload_n 0, 1) := by decide +kernel
theorem dMd_told_1 : decode bMd_told 1 = .ok (.iconst 0, 1) := by decide +kernel
theorem dMd_told_2 : decode bMd_told 2 = .ok (.putfield 85, 3) := by decide +kernel
theorem dMd_told_5 : decode bMd_told 5 = .ok (.iload_n 1, 1) := by decide +kernel
theorem dMd_told_6 : decode bMd_told 6 = .ok (.iconst 2, 1) := by decide +kernel
theorem dMd_told_7 : decode bMd_told 7 = .ok (.if_icmp .ne 7, 3) := by decide +kernel
theorem dMd_told_10 : decode bMd_told 10 = .ok (.aload_n 0, 1) := by decide +kernel
theorem dMd_told_11 : decode bMd_told 11 = .ok (.invokevirtual 161, 3) := by decide +kernel
theorem dMd_told_14 : decode bMd_told 14 = .ok (.iload_n 1, 1) := by decide +kernel
theorem dMd_told_15 : decode bMd_told 15 = .ok (.ifCond .ne 10, 3) := by decide +kernel
theorem dMd_told_18 : decode bMd_told 18 = .ok (.aload_n 0, 1) := by decide +kernel
theorem dMd_told_19 : decode bMd_told 19 = .ok (.getfield 78, 3) := by decide +kernel
theorem dMd_told_22 : decode bMd_told 22 = .ok (.goto 63, 3) := by decide +kernel
theorem dMd_told_25 : decode bMd_told 25 = .ok (.iload_n 1, 1) := by decide +kernel
theorem dMd_told_26 : decode bMd_told 26 = .ok (.iconst 1, 1) := by decide +kernel
theorem dMd_told_27 : decode bMd_told 27 = .ok (.if_icmp .ne 10, 3) := by decide +kernel
theorem dMd_told_30 : decode bMd_told 30 = .ok (.aload_n 0, 1) := by decide +kernel
theorem dMd_told_31 : decode bMd_told 31 = .ok (.getfield 82, 3) := by decide +kernel
theorem dMd_told_34 : decode bMd_told 34 = .ok (.goto 51, 3) := by decide +kernel
theorem dMd_told_37 : decode bMd_told 37 = .ok (.iload_n 1, 1) := by decide +kernel
theorem dMd_told_38 : decode bMd_told 38 = .ok (.iconst 2, 1) := by decide +kernel
theorem dMd_told_39 : decode bMd_told 39 = .ok (.if_icmp .ne 10, 3) := by decide +kernel
theorem dMd_told_42 : decode bMd_told 42 = .ok (.aload_n 0, 1) := by decide +kernel
theorem dMd_told_43 : decode bMd_told 43 = .ok (.getfield 108, 3) := by decide +kernel
theorem dMd_told_46 : decode bMd_told 46 = .ok (.goto 39, 3) := by decide +kernel
theorem dMd_told_49 : decode bMd_told 49 = .ok (.iload_n 1, 1) := by decide +kernel
theorem dMd_told_50 : decode bMd_told 50 = .ok (.iconst 3, 1) := by decide +kernel
theorem dMd_told_51 : decode bMd_told 51 = .ok (.if_icmp .ne 21, 3) := by decide +kernel
theorem dMd_told_54 : decode bMd_told 54 = .ok (.aload_n 0, 1) := by decide +kernel
theorem dMd_told_55 : decode bMd_told 55 = .ok (.getfield 100, 3) := by decide +kernel
theorem dMd_told_58 : decode bMd_told 58 = .ok (.ifCond .eq 10, 3) := by decide +kernel
theorem dMd_told_61 : decode bMd_told 61 = .ok (.aload_n 0, 1) := by decide +kernel
theorem dMd_told_62 : decode bMd_told 62 = .ok (.getfield 158, 3) := by decide +kernel
theorem dMd_told_65 : decode bMd_told 65 = .ok (.goto 20, 3) := by decide +kernel
theorem dMd_told_68 : decode bMd_told 68 = .ok (.iconst 0, 1) := by decide +kernel
theorem dMd_told_69 : decode bMd_told 69 = .ok (.goto 16, 3) := by decide +kernel
theorem dMd_told_72 : decode bMd_told 72 = .ok (.iload_n 1, 1) := by decide +kernel
theorem dMd_told_73 : decode bMd_told 73 = .ok (.iconst 4, 1) := by decide +kernel
theorem dMd_told_74 : decode bMd_told 74 = .ok (.if_icmp .ne 10, 3) := by decide +kernel
theorem dMd_told_77 : decode bMd_told 77 = .ok (.aload_n 0, 1) := by decide +kernel
theorem dMd_told_78 : decode bMd_told 78 = .ok (.invokevirtual 104, 3) := by decide +kernel
theorem dMd_told_81 : decode bMd_told 81 = .ok (.goto 4, 3) := by decide +kernel
theorem dMd_told_84 : decode bMd_told 84 = .ok (.iconst (-1), 1) := by decide +kernel
theorem dMd_told_85 : decode bMd_told 85 = .ok (.ireturn, 1) := by decide +kernel
theorem dMd_clear_0 : decode bMd_clear 0 = .ok (.aload_n 0, 1) := by decide +kernel
theorem dMd_clear_1 : decode bMd_clear 1 = .ok (.iconst 0, 1) := by decide +kernel
theorem dMd_clear_2 : decode bMd_clear 2 = .ok (.putfield 85, 3) := by decide +kernel
theorem dMd_clear_5 : decode bMd_clear 5 = .ok (.iconst 0, 1) := by decide +kernel
theorem dMd_clear_6 : decode bMd_clear 6 = .ok (.istore_n 1, 1) := by decide +kernel
theorem dMd_clear_7 : decode bMd_clear 7 = .ok (.iload_n 1, 1) := by decide +kernel
theorem dMd_clear_8 : decode bMd_clear 8 = .ok (.iconst 4, 1) := by decide +kernel
theorem dMd_clear_9 : decode bMd_clear 9 = .ok (.aload_n 0, 1) := by decide +kernel
theorem dMd_clear_10 : decode bMd_clear 10 = .ok (.getfield 78, 3) := by decide +kernel
theorem dMd_clear_13 : decode bMd_clear 13 = .ok (.imul, 1) := by decide +kernel
theorem dMd_clear_14 : decode bMd_clear 14 = .ok (.aload_n 0, 1) := by decide +kernel
theorem dMd_clear_15 : decode bMd_clear 15 = .ok (.getfield 82, 3) := by decide +kernel
theorem dMd_clear_18 : decode bMd_clear 18 = .ok (.imul, 1) := by decide +kernel
theorem dMd_clear_19 : decode bMd_clear 19 = .ok (.if_icmp .ge 16, 3) := by decide +kernel
theorem dMd_clear_22 : decode bMd_clear 22 = .ok (.aload_n 0, 1) := by decide +kernel
theorem dMd_clear_23 : decode bMd_clear 23 = .ok (.getfield 7, 3) := by decide +kernel
theorem dMd_clear_26 : decode bMd_clear 26 = .ok (.iload_n 1, 1) := by decide +kernel
theorem dMd_clear_27 : decode bMd_clear 27 = .ok (.iconst 0, 1) := by decide +kernel
theorem dMd_clear_28 : decode bMd_clear 28 = .ok (.iastore, 1) := by decide +kernel
theorem dMd_clear_29 : decode bMd_clear 29 = .ok (.iinc 1 1, 3) := by decide +kernel
theorem dMd_clear_32 : decode bMd_clear 32 = .ok (.goto (-25), 3) := by decide +kernel
theorem dMd_clear_35 : decode bMd_clear 35 = .ok (.iconst 0, 1) := by decide +kernel
theorem dMd_clear_36 : decode bMd_clear 36 = .ok (.istore_n 1, 1) := by decide +kernel
theorem dMd_clear_37 : decode bMd_clear 37 = .ok (.iload_n 1, 1) := by decide +kernel
theorem dMd_clear_38 : decode bMd_clear 38 = .ok (.bipush 64, 2) := by decide +kernel
theorem dMd_clear_40 : decode bMd_clear 40 = .ok (.if_icmp .ge 16, 3) := by decide +kernel
theorem dMd_clear_43 : decode bMd_clear 43 = .ok (.aload_n 0, 1) := by decide +kernel
theorem dMd_clear_44 : decode bMd_clear 44 = .ok (.getfield 13, 3) := by decide +kernel
theorem dMd_clear_47 : decode bMd_clear 47 = .ok (.iload_n 1, 1) := by decide +kernel
theorem dMd_clear_48 : decode bMd_clear 48 = .ok (.iconst 0, 1) := by decide +kernel
theorem dMd_clear_49 : decode bMd_clear 49 = .ok (.bastore, 1) := by decide +kernel
theorem dMd_clear_50 : decode bMd_clear 50 = .ok (.iinc 1 1, 3) := by decide +kernel
theorem dMd_clear_53 : decode bMd_clear 53 = .ok (.goto (-16), 3) := by decide +kernel
theorem dMd_clear_56 : decode bMd_clear 56 = .ok (.aload_n 0, 1) := by decide +kernel
theorem dMd_clear_57 : decode bMd_clear 57 = .ok (.iconst 0, 1) := by decide +kernel
theorem dMd_clear_58 : decode bMd_clear 58 = .ok (.putfield 100, 3) := by decide +kernel
theorem dMd_clear_61 : decode bMd_clear 61 = .ok (.return_, 1) := by decide +kernel
