theorem dX5_planPart_40 : decode cX5_planPart 40 = .ok (.iload 5, 2) := by decide +kernel
theorem dX5_planPart_42 : decode cX5_planPart 42 = .ok (.iconst (-1), 1) := by decide +kernel
theorem dX5_planPart_43 : decode cX5_planPart 43 = .ok (.iastore, 1) := by decide +kernel
theorem dX5_planPart_44 : decode cX5_planPart 44 = .ok (.iload 8, 2) := by decide +kernel
theorem dX5_planPart_46 : decode cX5_planPart 46 = .ok (.iconst (-1), 1) := by decide +kernel
theorem dX5_planPart_47 : decode cX5_planPart 47 = .ok (.if_icmp .eq 17, 3) := by decide +kernel
theorem dX5_planPart_50 : decode cX5_planPart 50 = .ok (.aload_n 0, 1) := by decide +kernel
theorem dX5_planPart_51 : decode cX5_planPart 51 = .ok (.getfield 31, 3) := by decide +kernel
theorem dX5_planPart_54 : decode cX5_planPart 54 = .ok (.iload 5, 2) := by decide +kernel
theorem dX5_planPart_56 : decode cX5_planPart 56 = .ok (.iload 8, 2) := by decide +kernel
theorem dX5_planPart_58 : decode cX5_planPart 58 = .ok (.sipush 128, 3) := by decide +kernel
theorem dX5_planPart_61 : decode cX5_planPart 61 = .ok (.imul, 1) := by decide +kernel
theorem dX5_planPart_62 : decode cX5_planPart 62 = .ok (.iastore, 1) := by decide +kernel
theorem dX5_planPart_63 : decode cX5_planPart 63 = .ok (.return_, 1) := by decide +kernel
theorem dX5_planPart_64 : decode cX5_planPart 64 = .ok (.aload_n 0, 1) := by decide +kernel
theorem dX5_planPart_65 : decode cX5_planPart 65 = .ok (.getfield 31, 3) := by decide +kernel
theorem dX5_planPart_68 : decode cX5_planPart 68 = .ok (.iload 5, 2) := by decide +kernel
theorem dX5_planPart_70 : decode cX5_planPart 70 = .ok (.ldc 79, 2) := by decide +kernel
theorem dX5_planPart_72 : decode cX5_planPart 72 = .ok (.iastore, 1) := by decide +kernel
theorem dX5_planPart_73 : decode cX5_planPart 73 = .ok (.iload_n 1, 1) := by decide +kernel
theorem dX5_planPart_74 : decode cX5_planPart 74 = .ok (.istore 9, 2) := by decide +kernel
theorem dX5_planPart_76 : decode cX5_planPart 76 = .ok (.iload 9, 2) := by decide +kernel
theorem dX5_planPart_78 : decode cX5_planPart 78 = .ok (.iload_n 2, 1) := by decide +kernel
theorem dX5_planPart_79 : decode cX5_planPart 79 = .ok (.if_icmp .ge 64, 3) := by decide +kernel
theorem dX5_planPart_82 : decode cX5_planPart 82 = .ok (.aload_n 0, 1) := by decide +kernel
theorem dX5_planPart_83 : decode cX5_planPart 83 = .ok (.getfield 31, 3) := by decide +kernel
theorem dX5_planPart_86 : decode cX5_planPart 86 = .ok (.iload_n 1, 1) := by decide +kernel
theorem dX5_planPart_87 : decode cX5_planPart 87 = .ok (.iload 9, 2) := by decide +kernel
theorem dX5_planPart_89 : decode cX5_planPart 89 = .ok (.iload_n 3, 1) := by decide +kernel
theorem dX5_planPart_90 : decode cX5_planPart 90 = .ok (.iload 4, 2) := by decide +kernel
theorem dX5_planPart_92 : decode cX5_planPart 92 = .ok (.invokestatic 42, 3) := by decide +kernel
theorem dX5_planPart_95 : decode cX5_planPart 95 = .ok (.iaload, 1) := by decide +kernel
theorem dX5_planPart_96 : decode cX5_planPart 96 = .ok (.aload_n 0, 1) := by decide +kernel
theorem dX5_planPart_97 : decode cX5_planPart 97 = .ok (.getfield 31, 3) := by decide +kernel
theorem dX5_planPart_100 : decode cX5_planPart 100 = .ok (.iload 9, 2) := by decide +kernel
theorem dX5_planPart_102 : decode cX5_planPart 102 = .ok (.iconst 1, 1) := by decide +kernel
theorem dX5_planPart_103 : decode cX5_planPart 103 = .ok (.iadd, 1) := by decide +kernel
theorem dX5_planPart_104 : decode cX5_planPart 104 = .ok (.iload_n 2, 1) := by decide +kernel
theorem dX5_planPart_105 : decode cX5_planPart 105 = .ok (.iload_n 3, 1) := by decide +kernel
theorem dX5_planPart_106 : decode cX5_planPart 106 = .ok (.iload 4, 2) := by decide +kernel
theorem dX5_planPart_108 : decode cX5_planPart 108 = .ok (.invokestatic 42, 3) := by decide +kernel
theorem dX5_planPart_111 : decode cX5_planPart 111 = .ok (.iaload, 1) := by decide +kernel
theorem dX5_planPart_112 : decode cX5_planPart 112 = .ok (.iadd, 1) := by decide +kernel
theorem dX5_planPart_113 : decode cX5_planPart 113 = .ok (.aload_n 0, 1) := by decide +kernel
theorem dX5_planPart_114 : decode cX5_planPart 114 = .ok (.lload 6, 2) := by decide +kernel
theorem dX5_planPart_116 : decode cX5_planPart 116 = .ok (.iload 9, 2) := by decide +kernel
theorem dX5_planPart_118 : decode cX5_planPart 118 = .ok (.invokevirtual 80, 3) := by decide +kernel
theorem dX5_planPart_121 : decode cX5_planPart 121 = .ok (.invokestatic 84, 3) := by decide +kernel
theorem dX5_planPart_124 : decode cX5_planPart 124 = .ok (.iadd, 1) := by decide +kernel
theorem dX5_planPart_125 : decode cX5_planPart 125 = .ok (.istore 10, 2) := by decide +kernel
theorem dX5_planPart_127 : decode cX5_planPart 127 = .ok (.aload_n 0, 1) := by decide +kernel
theorem dX5_planPart_128 : decode cX5_planPart 128 = .ok (.iload 5, 2) := by decide +kernel
theorem dX5_planPart_130 : decode cX5_planPart 130 = .ok (.iload 10, 2) := by decide +kernel
theorem dX5_planPart_132 : decode cX5_planPart 132 = .ok (.iload 9, 2) := by decide +kernel
theorem dX5_planPart_134 : decode cX5_planPart 134 = .ok (.invokevirtual 89, 3) := by decide +kernel
theorem dX5_planPart_137 : decode cX5_planPart 137 = .ok (.iinc 9 1, 3) := by decide +kernel
theorem dX5_planPart_140 : decode cX5_planPart 140 = .ok (.goto (-64), 3) := by decide +kernel
theorem dX5_planPart_143 : decode cX5_planPart 143 = .ok (.iload_n 3, 1) := by decide +kernel
theorem dX5_planPart_144 : decode cX5_planPart 144 = .ok (.istore 9, 2) := by decide +kernel
theorem dX5_planPart_146 : decode cX5_planPart 146 = .ok (.iload 9, 2) := by decide +kernel
theorem dX5_planPart_148 : decode cX5_planPart 148 = .ok (.iload 4, 2) := by decide +kernel
theorem dX5_planPart_150 : decode cX5_planPart 150 = .ok (.if_icmp .ge 66, 3) := by decide +kernel
theorem dX5_planPart_153 : decode cX5_planPart 153 = .ok (.aload_n 0, 1) := by decide +kernel
theorem dX5_planPart_154 : decode cX5_planPart 154 = .ok (.getfield 31, 3) := by decide +kernel
theorem dX5_planPart_157 : decode cX5_planPart 157 = .ok (.iload_n 1, 1) := by decide +kernel
theorem dX5_planPart_158 : decode cX5_planPart 158 = .ok (.iload_n 2, 1) := by decide +kernel
theorem dX5_planPart_159 : decode cX5_planPart 159 = .ok (.iload_n 3, 1) := by decide +kernel
theorem dX5_planPart_160 : decode cX5_planPart 160 = .ok (.iload 9, 2) := by decide +kernel
theorem dX5_planPart_162 : decode cX5_planPart 162 = .ok (.invokestatic 42, 3) := by decide +kernel
theorem dX5_planPart_165 : decode cX5_planPart 165 = .ok (.iaload, 1) := by decide +kernel
theorem dX5_planPart_166 : decode cX5_planPart 166 = .ok (.aload_n 0, 1) := by decide +kernel
theorem dX5_planPart_167 : decode cX5_planPart 167 = .ok (.getfield 31, 3) := by decide +kernel
theorem dX5_planPart_170 : decode cX5_planPart 170 = .ok (.iload_n 1, 1) := by decide +kernel
theorem dX5_planPart_171 : decode cX5_planPart 171 = .ok (.iload_n 2, 1) := by decide +kernel
theorem dX5_planPart_172 : decode cX5_planPart 172 = .ok (.iload 9, 2) := by decide +kernel
theorem dX5_planPart_174 : decode cX5_planPart 174 = .ok (.iconst 1, 1) := by decide +kernel
theorem dX5_planPart_175 : decode cX5_planPart 175 = .ok (.iadd, 1) := by decide +kernel
theorem dX5_planPart_176 : decode cX5_planPart 176 = .ok (.iload 4, 2) := by decide +kernel
theorem dX5_planPart_178 : decode cX5_planPart 178 = .ok (.invokestatic 42, 3) := by decide +kernel
theorem dX5_planPart_181 : decode cX5_planPart 181 = .ok (.iaload, 1) := by decide +kernel
theorem dX5_planPart_182 : decode cX5_planPart 182 = .ok (.iadd, 1) := by decide +kernel
theorem dX5_planPart_183 : decode cX5_planPart 183 = .ok (.aload_n 0, 1) := by decide +kernel
theorem dX5_planPart_184 : decode cX5_planPart 184 = .ok (.lload 6, 2) := by decide +kernel
theorem dX5_planPart_186 : decode cX5_planPart 186 = .ok (.iload 9, 2) := by decide +kernel
theorem dX5_planPart_188 : decode cX5_planPart 188 = .ok (.invokevirtual 93, 3) := by decide +kernel
theorem dX5_planPart_191 : decode cX5_planPart 191 = .ok (.invokestatic 84, 3) := by decide +kernel
theorem dX5_planPart_194 : decode cX5_planPart 194 = .ok (.iadd, 1) := by decide +kernel
theorem dX5_planPart_195 : decode cX5_planPart 195 = .ok (.istore 10, 2) := by decide +kernel
theorem dX5_planPart_197 : decode cX5_planPart 197 = .ok (.aload_n 0, 1) := by decide +kernel
theorem dX5_planPart_198 : decode cX5_planPart 198 = .ok (.iload 5, 2) := by decide +kernel
theorem dX5_planPart_200 : decode cX5_planPart 200 = .ok (.iload 10, 2) := by decide +kernel
theorem dX5_planPart_202 : decode cX5_planPart 202 = .ok (.bipush 7, 2) := by decide +kernel
theorem dX5_planPart_204 : decode cX5_planPart 204 = .ok (.iload 9, 2) := by decide +kernel
theorem dX5_planPart_206 : decode cX5_planPart 206 = .ok (.iadd, 1) := by decide +kernel
theorem dX5_planPart_207 : decode cX5_planPart 207 = .ok (.invokevirtual 89, 3) := by decide +kernel
theorem dX5_planPart_210 : decode cX5_planPart 210 = .ok (.iinc 9 1, 3) := by decide +kernel
theorem dX5_planPart_213 : decode cX5_planPart 213 = .ok (.goto (-67), 3) := by decide +kernel
theorem dX5_planPart_216 : decode cX5_planPart 216 = .ok (.return_, 1) := by decide +kernel
theorem dX5_offer_0 : decode cX5_offer 0 = .ok (.iload_n 2, 1) := by decide +kernel
theorem dX5_offer_1 : decode cX5_offer 1 = .ok (.aload_n 0, 1) := by decide +kernel
theorem dX5_offer_2 : decode cX5_offer 2 = .ok (.getfield 31, 3) := by decide +kernel
theorem dX5_offer_5 : decode cX5_offer 5 = .ok (.iload_n 1, 1) := by decide +kernel
theorem dX5_offer_6 : decode cX5_offer 6 = .ok (.iaload, 1) := by decide +kernel
theorem dX5_offer_7 : decode cX5_offer 7 = .ok (.if_icmp .ge 17, 3) := by decide +kernel
theorem dX5_offer_10 : decode cX5_offer 10 = .ok (.aload_n 0, 1) := by decide +kernel
theorem dX5_offer_11 : decode cX5_offer 11 = .ok (.getfield 31, 3) := by decide +kernel
theorem dX5_offer_14 : decode cX5_offer 14 = .ok (.iload_n 1, 1) := by decide +kernel
theorem dX5_offer_15 : decode cX5_offer 15 = .ok (.iload_n 2, 1) := by decide +kernel
theorem dX5_offer_16 : decode cX5_offer 16 = .ok (.iastore, 1) := by decide +kernel
theorem dX5_offer_17 : decode cX5_offer 17 = .ok (.aload_n 0, 1) := by decide +kernel
theorem dX5_offer_18 : decode cX5_offer 18 = .ok (.getfield 35, 3) := by decide +kernel
theorem dX5_offer_21 : decode cX5_offer 21 = .ok (.iload_n 1, 1) := by decide +kernel
theorem dX5_offer_22 : decode cX5_offer 22 = .ok (.iload_n 3, 1) := by decide +kernel
theorem dX5_offer_23 : decode cX5_offer 23 = .ok (.iastore, 1) := by decide +kernel
theorem dX5_offer_24 : decode cX5_offer 24 = .ok (.return_, 1) := by decide +kernel
theorem dX5_crossedBelow_0 : decode cX5_crossedBelow 0 = .ok (.lload_n 1, 1) := by decide +kernel
theorem dX5_crossedBelow_1 : decode cX5_crossedBelow 1 = .ok (.aload_n 0, 1) := by decide +kernel
theorem dX5_crossedBelow_2 : decode cX5_crossedBelow 2 = .ok (.getfield 38, 3) := by decide +kernel
theorem dX5_crossedBelow_5 : decode cX5_crossedBelow 5 = .ok (.getfield 96, 3) := by decide +kernel
theorem dX5_crossedBelow_8 : decode cX5_crossedBelow 8 = .ok (.land, 1) := by decide +kernel
theorem dX5_crossedBelow_9 : decode cX5_crossedBelow 9 = .ok (.iload_n 3, 1) := by decide +kernel
theorem dX5_crossedBelow_10 : decode cX5_crossedBelow 10 = .ok (.invokestatic 58, 3) := by decide +kernel
theorem dX5_crossedBelow_13 : decode cX5_crossedBelow 13 = .ok (.land, 1) := by decide +kernel
theorem dX5_crossedBelow_14 : decode cX5_crossedBelow 14 = .ok (.lreturn, 1) := by decide +kernel
theorem dX5_crossedRight_0 : decode cX5_crossedRight 0 = .ok (.lload_n 1, 1) := by decide +kernel
theorem dX5_crossedRight_1 : decode cX5_crossedRight 1 = .ok (.aload_n 0, 1) := by decide +kernel
theorem dX5_crossedRight_2 : decode cX5_crossedRight 2 = .ok (.getfield 38, 3) := by decide +kernel
theorem dX5_crossedRight_5 : decode cX5_crossedRight 5 = .ok (.getfield 99, 3) := by decide +kernel
theorem dX5_crossedRight_8 : decode cX5_crossedRight 8 = .ok (.land, 1) := by decide +kernel
theorem dX5_crossedRight_9 : decode cX5_crossedRight 9 = .ok (.iload_n 3, 1) := by decide +kernel
theorem dX5_crossedRight_10 : decode cX5_crossedRight 10 = .ok (.invokestatic 68, 3) := by decide +kernel
theorem dX5_crossedRight_13 : decode cX5_crossedRight 13 = .ok (.land, 1) := by decide +kernel
theorem dX5_crossedRight_14 : decode cX5_crossedRight 14 = .ok (.lreturn, 1) := by decide +kernel
theorem dX5_cut_0 : decode cX5_cut 0 = .ok (.aload_n 0, 1) := by decide +kernel
theorem dX5_cut_1 : decode cX5_cut 1 = .ok (.aload_n 1, 1) := by decide +kernel
theorem dX5_cut_2 : decode cX5_cut 2 = .ok (.aload_n 0, 1) := by decide +kernel
theorem dX5_cut_3 : decode cX5_cut 3 = .ok (.getfield 19, 3) := by decide +kernel
theorem dX5_cut_6 : decode cX5_cut 6 = .ok (.aload_n 0, 1) := by decide +kernel
theorem dX5_cut_7 : decode cX5_cut 7 = .ok (.getfield 22, 3) := by decide +kernel
theorem dX5_cut_10 : decode cX5_cut 10 = .ok (.aload_n 0, 1) := by decide +kernel
theorem dX5_cut_11 : decode cX5_cut 11 = .ok (.getfield 25, 3) := by decide +kernel
theorem dX5_cut_14 : decode cX5_cut 14 = .ok (.aload_n 0, 1) := by decide +kernel
theorem dX5_cut_15 : decode cX5_cut 15 = .ok (.getfield 28, 3) := by decide +kernel
theorem dX5_cut_18 : decode cX5_cut 18 = .ok (.iconst 0, 1) := by decide +kernel
theorem dX5_cut_19 : decode cX5_cut 19 = .ok (.invokevirtual 102, 3) := by decide +kernel
theorem dX5_cut_22 : decode cX5_cut 22 = .ok (.return_, 1) := by decide +kernel
theorem dX5_cutPart_0 : decode cX5_cutPart 0 = .ok (.aload_n 0, 1) := by decide +kernel
theorem dX5_cutPart_1 : decode cX5_cutPart 1 = .ok (.getfield 35, 3) := by decide +kernel
theorem dX5_cutPart_4 : decode cX5_cutPart 4 = .ok (.iload_n 2, 1) := by decide +kernel
theorem dX5_cutPart_5 : decode cX5_cutPart 5 = .ok (.iload_n 3, 1) := by decide +kernel
theorem dX5_cutPart_6 : decode cX5_cutPart 6 = .ok (.iload 4, 2) := by decide +kernel
theorem dX5_cutPart_8 : decode cX5_cutPart 8 = .ok (.iload 5, 2) := by decide +kernel
theorem dX5_cutPart_10 : decode cX5_cutPart 10 = .ok (.invokestatic 42, 3) := by decide +kernel
theorem dX5_cutPart_13 : decode cX5_cutPart 13 = .ok (.iaload, 1) := by decide +kernel
theorem dX5_cutPart_14 : decode cX5_cutPart 14 = .ok (.istore 7, 2) := by decide +kernel
theorem dX5_cutPart_16 : decode cX5_cutPart 16 = .ok (.iload 7, 2) := by decide +kernel
theorem dX5_cutPart_18 : decode cX5_cutPart 18 = .ok (.iconst (-1), 1) := by decide +kernel
theorem dX5_cutPart_19 : decode cX5_cutPart 19 = .ok (.if_icmp .eq 10, 3) := by decide +kernel
theorem dX5_cutPart_22 : decode cX5_cutPart 22 = .ok (.iload 6, 2) := by decide +kernel
theorem dX5_cutPart_24 : decode cX5_cutPart 24 = .ok (.bipush 14, 2) := by decide +kernel
theorem dX5_cutPart_26 : decode cX5_cutPart 26 = .ok (.if_icmp .le 4, 3) := by decide +kernel
theorem dX5_cutPart_29 : decode cX5_cutPart 29 = .ok (.return_, 1) := by decide +kernel
theorem dX5_cutPart_30 : decode cX5_cutPart 30 = .ok (.aload_n 0, 1) := by decide +kernel
theorem dX5_cutPart_31 : decode cX5_cutPart 31 = .ok (.getfield 15, 3) := by decide +kernel
theorem dX5_cutPart_34 : decode cX5_cutPart 34 = .ok (.iload_n 2, 1) := by decide +kernel
theorem dX5_cutPart_35 : decode cX5_cutPart 35 = .ok (.iload_n 3, 1) := by decide +kernel
theorem dX5_cutPart_36 : decode cX5_cutPart 36 = .ok (.iload 4, 2) := by decide +kernel
theorem dX5_cutPart_38 : decode cX5_cutPart 38 = .ok (.iload 5, 2) := by decide +kernel
theorem dX5_cutPart_40 : decode cX5_cutPart 40 = .ok (.invokestatic 71, 3) := by decide +kernel
theorem dX5_cutPart_43 : decode cX5_cutPart 43 = .ok (.land, 1) := by decide +kernel
theorem dX5_cutPart_44 : decode cX5_cutPart 44 = .ok (.lstore 8, 2) := by decide +kernel
theorem dX5_cutPart_46 : decode cX5_cutPart 46 = .ok (.iload 7, 2) := by decide +kernel
theorem dX5_cutPart_48 : decode cX5_cutPart 48 = .ok (.bipush 7, 2) := by decide +kernel
theorem dX5_cutPart_50 : decode cX5_cutPart 50 = .ok (.if_icmp .ge 57, 3) := by decide +kernel
theorem dX5_cutPart_53 : decode cX5_cutPart 53 = .ok (.aload_n 1, 1) := by decide +kernel
theorem dX5_cutPart_54 : decode cX5_cutPart 54 = .ok (.dup, 1) := by decide +kernel
theorem dX5_cutPart_55 : decode cX5_cutPart 55 = .ok (.getfield 106, 3) := by decide +kernel
theorem dX5_cutPart_58 : decode cX5_cutPart 58 = .ok (.aload_n 0, 1) := by decide +kernel
theorem dX5_cutPart_59 : decode cX5_cutPart 59 = .ok (.lload 8, 2) := by decide +kernel
theorem dX5_cutPart_61 : decode cX5_cutPart 61 = .ok (.iload 7, 2) := by decide +kernel
theorem dX5_cutPart_63 : decode cX5_cutPart 63 = .ok (.invokevirtual 80, 3) := by decide +kernel
theorem dX5_cutPart_66 : decode cX5_cutPart 66 = .ok (.lor, 1) := by decide +kernel
theorem dX5_cutPart_67 : decode cX5_cutPart 67 = .ok (.putfield 106, 3) := by decide +kernel
theorem dX5_cutPart_70 : decode cX5_cutPart 70 = .ok (.aload_n 0, 1) := by decide +kernel
theorem dX5_cutPart_71 : decode cX5_cutPart 71 = .ok (.aload_n 1, 1) := by decide +kernel
theorem dX5_cutPart_72 : decode cX5_cutPart 72 = .ok (.iload_n 2, 1) := by decide +kernel
theorem dX5_cutPart_73 : decode cX5_cutPart 73 = .ok (.iload 7, 2) := by decide +kernel
theorem dX5_cutPart_75 : decode cX5_cutPart 75 = .ok (.iload 4, 2) := by decide +kernel
theorem dX5_cutPart_77 : decode cX5_cutPart 77 = .ok (.iload 5, 2) := by decide +kernel
theorem dX5_cutPart_79 : decode cX5_cutPart 79 = .ok (.iload 6, 2) := by decide +kernel
theorem dX5_cutPart_81 : decode cX5_cutPart 81 = .ok (.iconst 1, 1) := by decide +kernel
theorem dX5_cutPart_82 : decode cX5_cutPart 82 = .ok (.iadd, 1) := by decide +kernel
theorem dX5_cutPart_83 : decode cX5_cutPart 83 = .ok (.invokevirtual 102, 3) := by decide +kernel
theorem dX5_cutPart_86 : decode cX5_cutPart 86 = .ok (.aload_n 0, 1) := by decide +kernel
theorem dX5_cutPart_87 : decode cX5_cutPart 87 = .ok (.aload_n 1, 1) := by decide +kernel
theorem dX5_cutPart_88 : decode cX5_cutPart 88 = .ok (.iload 7, 2) := by decide +kernel
theorem dX5_cutPart_90 : decode cX5_cutPart 90 = .ok (.iconst 1, 1) := by decide +kernel
theorem dX5_cutPart_91 : decode cX5_cutPart 91 = .ok (.iadd, 1) := by decide +kernel
theorem dX5_cutPart_92 : decode cX5_cutPart 92 = .ok (.iload_n 3, 1) := by decide +kernel
theorem dX5_cutPart_93 : decode cX5_cutPart 93 = .ok (.iload 4, 2) := by decide +kernel
theorem dX5_cutPart_95 : decode cX5_cutPart 95 = .ok (.iload 5, 2) := by decide +kernel
theorem dX5_cutPart_97 : decode cX5_cutPart 97 = .ok (.iload 6, 2) := by decide +kernel
theorem dX5_cutPart_99 : decode cX5_cutPart 99 = .ok (.iconst 1, 1) := by decide +kernel
theorem dX5_cutPart_100 : decode cX5_cutPart 100 = .ok (.iadd, 1) := by decide +kernel
theorem dX5_cutPart_101 : decode cX5_cutPart 101 = .ok (.invokevirtual 102, 3) := by decide +kernel
theorem dX5_cutPart_104 : decode cX5_cutPart 104 = .ok (.goto 59, 3) := by decide +kernel
theorem dX5_cutPart_107 : decode cX5_cutPart 107 = .ok (.iload 7, 2) := by decide +kernel
theorem dX5_cutPart_109 : decode cX5_cutPart 109 = .ok (.bipush 7, 2) := by decide +kernel
theorem dX5_cutPart_111 : decode cX5_cutPart 111 = .ok (.isub, 1) := by decide +kernel
theorem dX5_cutPart_112 : decode cX5_cutPart 112 = .ok (.istore 10, 2) := by decide +kernel
theorem dX5_cutPart_114 : decode cX5_cutPart 114 = .ok (.aload_n 1, 1) := by decide +kernel
theorem dX5_cutPart_115 : decode cX5_cutPart 115 = .ok (.dup, 1) := by decide +kernel
theorem dX5_cutPart_116 : decode cX5_cutPart 116 = .ok (.getfield 111, 3) := by decide +kernel
theorem dX5_cutPart_119 : decode cX5_cutPart 119 = .ok (.aload_n 0, 1) := by decide +kernel
theorem dX5_cutPart_120 : decode cX5_cutPart 120 = .ok (.lload 8, 2) := by decide +kernel
theorem dX5_cutPart_122 : decode cX5_cutPart 122 = .ok (.iload 10, 2) := by decide +kernel
theorem dX5_cutPart_124 : decode cX5_cutPart 124 = .ok (.invokevirtual 93, 3) := by decide +kernel
theorem dX5_cutPart_127 : decode cX5_cutPart 127 = .ok (.lor, 1) := by decide +kernel
theorem dX5_cutPart_128 : decode cX5_cutPart 128 = .ok (.putfield 111, 3) := by decide +kernel
theorem dX5_cutPart_131 : decode cX5_cutPart 131 = .ok (.aload_n 0, 1) := by decide +kernel
theorem dX5_cutPart_132 : decode cX5_cutPart 132 = .ok (.aload_n 1, 1) := by decide +kernel
theorem dX5_cutPart_133 : decode cX5_cutPart 133 = .ok (.iload_n 2, 1) := by decide +kernel
theorem dX5_cutPart_134 : decode cX5_cutPart 134 = .ok (.iload_n 3, 1) := by decide +kernel
theorem dX5_cutPart_135 : decode cX5_cutPart 135 = .ok (.iload 4, 2) := by decide +kernel
theorem dX5_cutPart_137 : decode cX5_cutPart 137 = .ok (.iload 10, 2) := by decide +kernel
theorem dX5_cutPart_139 : decode cX5_cutPart 139 = .ok (.iload 6, 2) := by decide +kernel
theorem dX5_cutPart_141 : decode cX5_cutPart 141 = .ok (.iconst 1, 1) := by decide +kernel
theorem dX5_cutPart_142 : decode cX5_cutPart 142 = .ok (.iadd, 1) := by decide +kernel
theorem dX5_cutPart_143 : decode cX5_cutPart 143 = .ok (.invokevirtual 102, 3) := by decide +kernel
theorem dX5_cutPart_146 : decode cX5_cutPart 146 = .ok (.aload_n 0, 1) := by decide +kernel
theorem dX5_cutPart_147 : decode cX5_cutPart 147 = .ok (.aload_n 1, 1) := by decide +kernel
theorem dX5_cutPart_148 : decode cX5_cutPart 148 = .ok (.iload_n 2, 1) := by decide +kernel
theorem dX5_cutPart_149 : decode cX5_cutPart 149 = .ok (.iload_n 3, 1) := by decide +kernel
theorem dX5_cutPart_150 : decode cX5_cutPart 150 = .ok (.iload 10, 2) := by decide +kernel
theorem dX5_cutPart_152 : decode cX5_cutPart 152 = .ok (.iconst 1, 1) := by decide +kernel
theorem dX5_cutPart_153 : decode cX5_cutPart 153 = .ok (.iadd, 1) := by decide +kernel
theorem dX5_cutPart_154 : decode cX5_cutPart 154 = .ok (.iload 5, 2) := by decide +kernel
theorem dX5_cutPart_156 : decode cX5_cutPart 156 = .ok (.iload 6, 2) := by decide +kernel
theorem dX5_cutPart_158 : decode cX5_cutPart 158 = .ok (.iconst 1, 1) := by decide +kernel
theorem dX5_cutPart_159 : decode cX5_cutPart 159 = .ok (.iadd, 1) := by decide +kernel
theorem dX5_cutPart_160 : decode cX5_cutPart 160 = .ok (.invokevirtual 102, 3) := by decide +kernel
theorem dX5_cutPart_163 : decode cX5_cutPart 163 = .ok (.return_, 1) := by decide +kernel
theorem dX5_place_0 : decode cX5_place 0 = .ok (.iload_n 0, 1) := by decide +kernel
theorem dX5_place_1 : decode cX5_place 1 = .ok (.iload_n 1, 1) := by decide +kernel
theorem dX5_place_2 : decode cX5_place 2 = .ok (.invokestatic 114, 3) := by decide +kernel
theorem dX5_place_5 : decode cX5_place 5 = .ok (.bipush 28, 2) := by decide +kernel
theorem dX5_place_7 : decode cX5_place 7 = .ok (.imul, 1) := by decide +kernel
theorem dX5_place_8 : decode cX5_place 8 = .ok (.iload_n 2, 1) := by decide +kernel
theorem dX5_place_9 : decode cX5_place 9 = .ok (.iload_n 3, 1) := by decide +kernel
theorem dX5_place_10 : decode cX5_place 10 = .ok (.invokestatic 114, 3) := by decide +kernel
theorem dX5_place_13 : decode cX5_place 13 = .ok (.iadd, 1) := by decide +kernel
theorem dX5_place_14 : decode cX5_place 14 = .ok (.ireturn, 1) := by decide +kernel
theorem dX5_span_0 : decode cX5_span 0 = .ok (.iload_n 1, 1) := by decide +kernel
theorem dX5_span_1 : decode cX5_span 1 = .ok (.iload_n 1, 1) := by decide +kernel
theorem dX5_span_2 : decode cX5_span 2 = .ok (.iconst 1, 1) := by decide +kernel
theorem dX5_span_3 : decode cX5_span 3 = .ok (.iadd, 1) := by decide +kernel
theorem dX5_span_4 : decode cX5_span 4 = .ok (.imul, 1) := by decide +kernel
theorem dX5_span_5 : decode cX5_span 5 = .ok (.iconst 2, 1) := by decide +kernel
theorem dX5_span_6 : decode cX5_span 6 = .ok (.idiv, 1) := by decide +kernel
theorem dX5_span_7 : decode cX5_span 7 = .ok (.iload_n 0, 1) := by decide +kernel
theorem dX5_span_8 : decode cX5_span 8 = .ok (.iadd, 1) := by decide +kernel
theorem dX5_span_9 : decode cX5_span 9 = .ok (.ireturn, 1) := by decide +kernel
theorem dX6_init_0 : decode cX6_init 0 = .ok (.aload_n 0, 1) := by decide +kernel
theorem dX6_init_1 : decode cX6_init 1 = .ok (.invokespecial 5, 3) := by decide +kernel
theorem dX6_init_4 : decode cX6_init 4 = .ok (.aload_n 0, 1) := by decide +kernel
theorem dX6_init_5 : decode cX6_init 5 = .ok (.bipush 80, 2) := by decide +kernel
theorem dX6_init_7 : decode cX6_init 7 = .ok (.newarray .int, 2) := by decide +kernel
theorem dX6_init_9 : decode cX6_init 9 = .ok (.putfield 11, 3) := by decide +kernel
theorem dX6_init_12 : decode cX6_init 12 = .ok (.aload_n 0, 1) := by decide +kernel
theorem dX6_init_13 : decode cX6_init 13 = .ok (.iconst 0, 1) := by decide +kernel
theorem dX6_init_14 : decode cX6_init 14 = .ok (.putfield 15, 3) := by decide +kernel
theorem dX6_init_17 : decode cX6_init 17 = .ok (.return_, 1) := by decide +kernel
theorem dX6_append_0 : decode cX6_append 0 = .ok (.aload_n 0, 1) := by decide +kernel
theorem dX6_append_1 : decode cX6_append 1 = .ok (.getfield 15, 3) := by decide +kernel
theorem dX6_append_4 : decode cX6_append 4 = .ok (.bipush 80, 2) := by decide +kernel
theorem dX6_append_6 : decode cX6_append 6 = .ok (.if_icmp .lt 5, 3) := by decide +kernel
theorem dX6_append_9 : decode cX6_append 9 = .ok (.iconst 0, 1) := by decide +kernel
theorem dX6_append_10 : decode cX6_append 10 = .ok (.ireturn, 1) := by decide +kernel
theorem dX6_append_11 : decode cX6_append 11 = .ok (.aload_n 0, 1) := by decide +kernel
theorem dX6_append_12 : decode cX6_append 12 = .ok (.getfield 11, 3) := by decide +kernel
theorem dX6_append_15 : decode cX6_append 15 = .ok (.aload_n 0, 1) := by decide +kernel
theorem dX6_append_16 : decode cX6_append 16 = .ok (.getfield 15, 3) := by decide +kernel
theorem dX6_append_19 : decode cX6_append 19 = .ok (.iload_n 1, 1) := by decide +kernel
theorem dX6_append_20 : decode cX6_append 20 = .ok (.iastore, 1) := by decide +kernel
theorem dX6_append_21 : decode cX6_append 21 = .ok (.aload_n 0, 1) := by decide +kernel
theorem dX6_append_22 : decode cX6_append 22 = .ok (.dup, 1) := by decide +kernel
theorem dX6_append_23 : decode cX6_append 23 = .ok (.getfield 15, 3) := by decide +kernel
theorem dX6_append_26 : decode cX6_append 26 = .ok (.iconst 1, 1) := by decide +kernel
theorem dX6_append_27 : decode cX6_append 27 = .ok (.iadd, 1) := by decide +kernel
theorem dX6_append_28 : decode cX6_append 28 = .ok (.putfield 15, 3) := by decide +kernel
theorem dX6_append_31 : decode cX6_append 31 = .ok (.iconst 1, 1) := by decide +kernel
theorem dX6_append_32 : decode cX6_append 32 = .ok (.ireturn, 1) := by decide +kernel
theorem dX6_errorOffset_0 : decode cX6_errorOffset 0 = .ok (.iconst 0, 1) := by decide +kernel
theorem dX6_errorOffset_1 : decode cX6_errorOffset 1 = .ok (.istore_n 1, 1) := by decide +kernel
theorem dX6_errorOffset_2 : decode cX6_errorOffset 2 = .ok (.iconst 0, 1) := by decide +kernel
theorem dX6_errorOffset_3 : decode cX6_errorOffset 3 = .ok (.istore_n 2, 1) := by decide +kernel
theorem dX6_errorOffset_4 : decode cX6_errorOffset 4 = .ok (.iconst 0, 1) := by decide +kernel
theorem dX6_errorOffset_5 : decode cX6_errorOffset 5 = .ok (.istore_n 3, 1) := by decide +kernel
theorem dX6_errorOffset_6 : decode cX6_errorOffset 6 = .ok (.iconst 0, 1) := by decide +kernel
theorem dX6_errorOffset_7 : decode cX6_errorOffset 7 = .ok (.istore 4, 2) := by decide +kernel
theorem dX6_errorOffset_9 : decode cX6_errorOffset 9 = .ok (.iload 4, 2) := by decide +kernel
theorem dX6_errorOffset_11 : decode cX6_errorOffset 11 = .ok (.aload_n 0, 1) := by decide +kernel
theorem dX6_errorOffset_12 : decode cX6_errorOffset 12 = .ok (.getfield 15, 3) := by decide +kernel
theorem dX6_errorOffset_15 : decode cX6_errorOffset 15 = .ok (.if_icmp .ge 96, 3) := by decide +kernel
theorem dX6_errorOffset_18 : decode cX6_errorOffset 18 = .ok (.aload_n 0, 1) := by decide +kernel
theorem dX6_errorOffset_19 : decode cX6_errorOffset 19 = .ok (.getfield 11, 3) := by decide +kernel
theorem dX6_errorOffset_22 : decode cX6_errorOffset 22 = .ok (.iload 4, 2) := by decide +kernel
theorem dX6_errorOffset_24 : decode cX6_errorOffset 24 = .ok (.iaload, 1) := by decide +kernel
theorem dX6_errorOffset_25 : decode cX6_errorOffset 25 = .ok (.istore 5, 2) := by decide +kernel
theorem dX6_errorOffset_27 : decode cX6_errorOffset 27 = .ok (.iload 5, 2) := by decide +kernel
theorem dX6_errorOffset_29 : decode cX6_errorOffset 29 = .ok (.bipush 59, 2) := by decide +kernel
theorem dX6_errorOffset_31 : decode cX6_errorOffset 31 = .ok (.if_icmp .ne 29, 3) := by decide +kernel
theorem dX6_errorOffset_34 : decode cX6_errorOffset 34 = .ok (.iload_n 3, 1) := by decide +kernel
theorem dX6_errorOffset_35 : decode cX6_errorOffset 35 = .ok (.ifCond .eq 12, 3) := by decide +kernel
theorem dX6_errorOffset_38 : decode cX6_errorOffset 38 = .ok (.iload_n 1, 1) := by decide +kernel
theorem dX6_errorOffset_39 : decode cX6_errorOffset 39 = .ok (.ifCond .le 11, 3) := by decide +kernel
theorem dX6_errorOffset_42 : decode cX6_errorOffset 42 = .ok (.iload_n 3, 1) := by decide +kernel
theorem dX6_errorOffset_43 : decode cX6_errorOffset 43 = .ok (.iload_n 2, 1) := by decide +kernel
theorem dX6_errorOffset_44 : decode cX6_errorOffset 44 = .ok (.if_icmp .eq 6, 3) := by decide +kernel
theorem dX6_errorOffset_47 : decode cX6_errorOffset 47 = .ok (.iload 4, 2) := by decide +kernel
theorem dX6_errorOffset_49 : decode cX6_errorOffset 49 = .ok (.ireturn, 1) := by decide +kernel
theorem dX6_errorOffset_50 : decode cX6_errorOffset 50 = .ok (.iload_n 3, 1) := by decide +kernel
theorem dX6_errorOffset_51 : decode cX6_errorOffset 51 = .ok (.istore_n 2, 1) := by decide +kernel
theorem dX6_errorOffset_52 : decode cX6_errorOffset 52 = .ok (.iconst 0, 1) := by decide +kernel
theorem dX6_errorOffset_53 : decode cX6_errorOffset 53 = .ok (.istore_n 3, 1) := by decide +kernel
theorem dX6_errorOffset_54 : decode cX6_errorOffset 54 = .ok (.iinc 1 1, 3) := by decide +kernel
theorem dX6_errorOffset_57 : decode cX6_errorOffset 57 = .ok (.goto 48, 3) := by decide +kernel
theorem dX6_errorOffset_60 : decode cX6_errorOffset 60 = .ok (.iload 5, 2) := by decide +kernel
theorem dX6_errorOffset_62 : decode cX6_errorOffset 62 = .ok (.bipush 32, 2) := by decide +kernel
theorem dX6_errorOffset_64 : decode cX6_errorOffset 64 = .ok (.if_icmp .eq 41, 3) := by decide +kernel
theorem dX6_errorOffset_67 : decode cX6_errorOffset 67 = .ok (.iload_n 1, 1) := by decide +kernel
theorem dX6_errorOffset_68 : decode cX6_errorOffset 68 = .ok (.ifCond .ne 8, 3) := by decide +kernel
theorem dX6_errorOffset_71 : decode cX6_errorOffset 71 = .ok (.bipush 7, 2) := by decide +kernel
theorem dX6_errorOffset_73 : decode cX6_errorOffset 73 = .ok (.goto 4, 3) := by decide +kernel
theorem dX6_errorOffset_76 : decode cX6_errorOffset 76 = .ok (.iload_n 2, 1) := by decide +kernel
theorem dX6_errorOffset_77 : decode cX6_errorOffset 77 = .ok (.istore 6, 2) := by decide +kernel
theorem dX6_errorOffset_79 : decode cX6_errorOffset 79 = .ok (.iload 5, 2) := by decide +kernel
theorem dX6_errorOffset_81 : decode cX6_errorOffset 81 = .ok (.invokestatic 21, 3) := by decide +kernel
theorem dX6_errorOffset_84 : decode cX6_errorOffset 84 = .ok (.ifCond .eq 15, 3) := by decide +kernel
theorem dX6_errorOffset_87 : decode cX6_errorOffset 87 = .ok (.iload_n 1, 1) := by decide +kernel
theorem dX6_errorOffset_88 : decode cX6_errorOffset 88 = .ok (.bipush 7, 2) := by decide +kernel
theorem dX6_errorOffset_90 : decode cX6_errorOffset 90 = .ok (.if_icmp .eq 9, 3) := by decide +kernel
theorem dX6_errorOffset_93 : decode cX6_errorOffset 93 = .ok (.iload_n 3, 1) := by decide +kernel
theorem dX6_errorOffset_94 : decode cX6_errorOffset 94 = .ok (.iload 6, 2) := by decide +kernel
theorem dX6_errorOffset_96 : decode cX6_errorOffset 96 = .ok (.if_icmp .ne 6, 3) := by decide +kernel
theorem dX6_errorOffset_99 : decode cX6_errorOffset 99 = .ok (.iload 4, 2) := by decide +kernel
theorem dX6_errorOffset_101 : decode cX6_errorOffset 101 = .ok (.ireturn, 1) := by decide +kernel
theorem dX6_errorOffset_102 : decode cX6_errorOffset 102 = .ok (.iinc 3 1, 3) := by decide +kernel
theorem dX6_errorOffset_105 : decode cX6_errorOffset 105 = .ok (.iinc 4 1, 3) := by decide +kernel
theorem dX6_errorOffset_108 : decode cX6_errorOffset 108 = .ok (.goto (-99), 3) := by decide +kernel
theorem dX6_errorOffset_111 : decode cX6_errorOffset 111 = .ok (.iload_n 1, 1) := by decide +kernel
theorem dX6_errorOffset_112 : decode cX6_errorOffset 112 = .ok (.ifCond .eq 7, 3) := by decide +kernel
theorem dX6_errorOffset_115 : decode cX6_errorOffset 115 = .ok (.iload_n 3, 1) := by decide +kernel
theorem dX6_errorOffset_116 : decode cX6_errorOffset 116 = .ok (.ifCond .le 10, 3) := by decide +kernel
theorem dX6_errorOffset_119 : decode cX6_errorOffset 119 = .ok (.aload_n 0, 1) := by decide +kernel
theorem dX6_errorOffset_120 : decode cX6_errorOffset 120 = .ok (.getfield 15, 3) := by decide +kernel
theorem dX6_errorOffset_123 : decode cX6_errorOffset 123 = .ok (.goto 4, 3) := by decide +kernel
theorem dX6_errorOffset_126 : decode cX6_errorOffset 126 = .ok (.iconst (-1), 1) := by decide +kernel
theorem dX6_errorOffset_127 : decode cX6_errorOffset 127 = .ok (.ireturn, 1) := by decide +kernel
theorem dX6_copyTo_0 : decode cX6_copyTo 0 = .ok (.iconst 0, 1) := by decide +kernel
theorem dX6_copyTo_1 : decode cX6_copyTo 1 = .ok (.istore_n 2, 1) := by decide +kernel
theorem dX6_copyTo_2 : decode cX6_copyTo 2 = .ok (.iconst 0, 1) := by decide +kernel
theorem dX6_copyTo_3 : decode cX6_copyTo 3 = .ok (.istore_n 3, 1) := by decide +kernel
theorem dX6_copyTo_4 : decode cX6_copyTo 4 = .ok (.iconst 0, 1) := by decide +kernel
theorem dX6_copyTo_5 : decode cX6_copyTo 5 = .ok (.istore 4, 2) := by decide +kernel
theorem dX6_copyTo_7 : decode cX6_copyTo 7 = .ok (.iload 4, 2) := by decide +kernel
theorem dX6_copyTo_9 : decode cX6_copyTo 9 = .ok (.aload_n 0, 1) := by decide +kernel
theorem dX6_copyTo_10 : decode cX6_copyTo 10 = .ok (.getfield 15, 3) := by decide +kernel
theorem dX6_copyTo_13 : decode cX6_copyTo 13 = .ok (.if_icmp .ge 76, 3) := by decide +kernel
theorem dX6_copyTo_16 : decode cX6_copyTo 16 = .ok (.aload_n 0, 1) := by decide +kernel
theorem dX6_copyTo_17 : decode cX6_copyTo 17 = .ok (.getfield 11, 3) := by decide +kernel
theorem dX6_copyTo_20 : decode cX6_copyTo 20 = .ok (.iload 4, 2) := by decide +kernel
theorem dX6_copyTo_22 : decode cX6_copyTo 22 = .ok (.iaload, 1) := by decide +kernel
theorem dX6_copyTo_23 : decode cX6_copyTo 23 = .ok (.istore 5, 2) := by decide +kernel
theorem dX6_copyTo_25 : decode cX6_copyTo 25 = .ok (.iload 5, 2) := by decide +kernel
theorem dX6_copyTo_27 : decode cX6_copyTo 27 = .ok (.bipush 59, 2) := by decide +kernel
theorem dX6_copyTo_29 : decode cX6_copyTo 29 = .ok (.if_icmp .ne 16, 3) := by decide +kernel
theorem dX6_copyTo_32 : decode cX6_copyTo 32 = .ok (.aload_n 1, 1) := by decide +kernel
theorem dX6_copyTo_33 : decode cX6_copyTo 33 = .ok (.iload_n 3, 1) := by decide +kernel
theorem dX6_copyTo_34 : decode cX6_copyTo 34 = .ok (.putfield 25, 3) := by decide +kernel
theorem dX6_copyTo_37 : decode cX6_copyTo 37 = .ok (.iconst 0, 1) := by decide +kernel
theorem dX6_copyTo_38 : decode cX6_copyTo 38 = .ok (.istore_n 3, 1) := by decide +kernel
theorem dX6_copyTo_39 : decode cX6_copyTo 39 = .ok (.iinc 2 1, 3) := by decide +kernel
theorem dX6_copyTo_42 : decode cX6_copyTo 42 = .ok (.goto 41, 3) := by decide +kernel
theorem dX6_copyTo_45 : decode cX6_copyTo 45 = .ok (.iload 5, 2) := by decide +kernel
theorem dX6_copyTo_47 : decode cX6_copyTo 47 = .ok (.invokestatic 21, 3) := by decide +kernel
theorem dX6_copyTo_50 : decode cX6_copyTo 50 = .ok (.ifCond .eq 33, 3) := by decide +kernel
theorem dX6_copyTo_53 : decode cX6_copyTo 53 = .ok (.iload_n 2, 1) := by decide +kernel
theorem dX6_copyTo_54 : decode cX6_copyTo 54 = .ok (.bipush 7, 2) := by decide +kernel
theorem dX6_copyTo_56 : decode cX6_copyTo 56 = .ok (.if_icmp .ge 27, 3) := by decide +kernel
theorem dX6_copyTo_59 : decode cX6_copyTo 59 = .ok (.iload_n 3, 1) := by decide +kernel
theorem dX6_copyTo_60 : decode cX6_copyTo 60 = .ok (.bipush 7, 2) := by decide +kernel
theorem dX6_copyTo_62 : decode cX6_copyTo 62 = .ok (.if_icmp .ge 21, 3) := by decide +kernel
theorem dX6_copyTo_65 : decode cX6_copyTo 65 = .ok (.aload_n 1, 1) := by decide +kernel
theorem dX6_copyTo_66 : decode cX6_copyTo 66 = .ok (.getfield 30, 3) := by decide +kernel
theorem dX6_copyTo_69 : decode cX6_copyTo 69 = .ok (.iload_n 2, 1) := by decide +kernel
theorem dX6_copyTo_70 : decode cX6_copyTo 70 = .ok (.iload_n 3, 1) := by decide +kernel
theorem dX6_copyTo_71 : decode cX6_copyTo 71 = .ok (.invokestatic 33, 3) := by decide +kernel
theorem dX6_copyTo_74 : decode cX6_copyTo 74 = .ok (.iload 5, 2) := by decide +kernel
theorem dX6_copyTo_76 : decode cX6_copyTo 76 = .ok (.bipush 48, 2) := by decide +kernel
theorem dX6_copyTo_78 : decode cX6_copyTo 78 = .ok (.isub, 1) := by decide +kernel
theorem dX6_copyTo_79 : decode cX6_copyTo 79 = .ok (.iastore, 1) := by decide +kernel
theorem dX6_copyTo_80 : decode cX6_copyTo 80 = .ok (.iinc 3 1, 3) := by decide +kernel
theorem dX6_copyTo_83 : decode cX6_copyTo 83 = .ok (.iinc 4 1, 3) := by decide +kernel
theorem dX6_copyTo_86 : decode cX6_copyTo 86 = .ok (.goto (-79), 3) := by decide +kernel
theorem dX6_copyTo_89 : decode cX6_copyTo 89 = .ok (.aload_n 1, 1) := by decide +kernel
theorem dX6_copyTo_90 : decode cX6_copyTo 90 = .ok (.iload_n 2, 1) := by decide +kernel
theorem dX6_copyTo_91 : decode cX6_copyTo 91 = .ok (.putfield 37, 3) := by decide +kernel
theorem dX6_copyTo_94 : decode cX6_copyTo 94 = .ok (.return_, 1) := by decide +kernel
theorem dX6_isDigit_0 : decode cX6_isDigit 0 = .ok (.iload_n 0, 1) := by decide +kernel
theorem dX6_isDigit_1 : decode cX6_isDigit 1 = .ok (.bipush 48, 2) := by decide +kernel
theorem dX6_isDigit_3 : decode cX6_isDigit 3 = .ok (.if_icmp .lt 13, 3) := by decide +kernel
theorem dX6_isDigit_6 : decode cX6_isDigit 6 = .ok (.iload_n 0, 1) := by decide +kernel
theorem dX6_isDigit_7 : decode cX6_isDigit 7 = .ok (.bipush 53, 2) := by decide +kernel
theorem dX6_isDigit_9 : decode cX6_isDigit 9 = .ok (.if_icmp .gt 7, 3) := by decide +kernel
theorem dX6_isDigit_12 : decode cX6_isDigit 12 = .ok (.iconst 1, 1) := by decide +kernel
theorem dX6_isDigit_13 : decode cX6_isDigit 13 = .ok (.goto 4, 3) := by decide +kernel
theorem dX6_isDigit_16 : decode cX6_isDigit 16 = .ok (.iconst 0, 1) := by decide +kernel
theorem dX6_isDigit_17 : decode cX6_isDigit 17 = .ok (.ireturn, 1) := by decide +kernel
theorem dX7_init_0 : decode cX7_init 0 = .ok (.aload_n 0, 1) := by decide +kernel
theorem dX7_init_1 : decode cX7_init 1 = .ok (.invokespecial 1, 3) := by decide +kernel
theorem dX7_init_4 : decode cX7_init 4 = .ok (.aload_n 0, 1) := by decide +kernel
theorem dX7_init_5 : decode cX7_init 5 = .ok (.new 7, 3) := by decide +kernel
theorem dX7_init_8 : decode cX7_init 8 = .ok (.dup, 1) := by decide +kernel
theorem dX7_init_9 : decode cX7_init 9 = .ok (.invokespecial 9, 3) := by decide +kernel
theorem dX7_init_12 : decode cX7_init 12 = .ok (.putfield 10, 3) := by decide +kernel
theorem dX7_init_15 : decode cX7_init 15 = .ok (.aload_n 0, 1) := by decide +kernel
theorem dX7_init_16 : decode cX7_init 16 = .ok (.new 16, 3) := by decide +kernel
theorem dX7_init_19 : decode cX7_init 19 = .ok (.dup, 1) := by decide +kernel
theorem dX7_init_20 : decode cX7_init 20 = .ok (.invokespecial 18, 3) := by decide +kernel
theorem dX7_init_23 : decode cX7_init 23 = .ok (.putfield 19, 3) := by decide +kernel
theorem dX7_init_26 : decode cX7_init 26 = .ok (.aload_n 0, 1) := by decide +kernel
theorem dX7_init_27 : decode cX7_init 27 = .ok (.new 23, 3) := by decide +kernel
theorem dX7_init_30 : decode cX7_init 30 = .ok (.dup, 1) := by decide +kernel
theorem dX7_init_31 : decode cX7_init 31 = .ok (.invokespecial 25, 3) := by decide +kernel
theorem dX7_init_34 : decode cX7_init 34 = .ok (.putfield 26, 3) := by decide +kernel
theorem dX7_init_37 : decode cX7_init 37 = .ok (.aload_n 0, 1) := by decide +kernel
theorem dX7_init_38 : decode cX7_init 38 = .ok (.new 30, 3) := by decide +kernel
theorem dX7_init_41 : decode cX7_init 41 = .ok (.dup, 1) := by decide +kernel
theorem dX7_init_42 : decode cX7_init 42 = .ok (.aload_n 0, 1) := by decide +kernel
theorem dX7_init_43 : decode cX7_init 43 = .ok (.getfield 19, 3) := by decide +kernel
theorem dX7_init_46 : decode cX7_init 46 = .ok (.invokespecial 32, 3) := by decide +kernel
theorem dX7_init_49 : decode cX7_init 49 = .ok (.putfield 35, 3) := by decide +kernel
theorem dX7_init_52 : decode cX7_init 52 = .ok (.aload_n 0, 1) := by decide +kernel
theorem dX7_init_53 : decode cX7_init 53 = .ok (.new 39, 3) := by decide +kernel
theorem dX7_init_56 : decode cX7_init 56 = .ok (.dup, 1) := by decide +kernel
theorem dX7_init_57 : decode cX7_init 57 = .ok (.aload_n 0, 1) := by decide +kernel
theorem dX7_init_58 : decode cX7_init 58 = .ok (.getfield 35, 3) := by decide +kernel
theorem dX7_init_61 : decode cX7_init 61 = .ok (.invokespecial 41, 3) := by decide +kernel
theorem dX7_init_64 : decode cX7_init 64 = .ok (.putfield 44, 3) := by decide +kernel
theorem dX7_init_67 : decode cX7_init 67 = .ok (.aload_n 0, 1) := by decide +kernel
theorem dX7_init_68 : decode cX7_init 68 = .ok (.new 48, 3) := by decide +kernel
theorem dX7_init_71 : decode cX7_init 71 = .ok (.dup, 1) := by decide +kernel
theorem dX7_init_72 : decode cX7_init 72 = .ok (.aload_n 0, 1) := by decide +kernel
theorem dX7_init_73 : decode cX7_init 73 = .ok (.getfield 35, 3) := by decide +kernel
theorem dX7_init_76 : decode cX7_init 76 = .ok (.invokespecial 50, 3) := by decide +kernel
theorem dX7_init_79 : decode cX7_init 79 = .ok (.putfield 51, 3) := by decide +kernel
theorem dX7_init_82 : decode cX7_init 82 = .ok (.aload_n 0, 1) := by decide +kernel
theorem dX7_init_83 : decode cX7_init 83 = .ok (.getfield 35, 3) := by decide +kernel
theorem dX7_init_86 : decode cX7_init 86 = .ok (.invokevirtual 55, 3) := by decide +kernel
theorem dX7_init_89 : decode cX7_init 89 = .ok (.return_, 1) := by decide +kernel
theorem dX7_appendCharacter_0 : decode cX7_appendCharacter 0 = .ok (.iload_n 1, 1) := by decide +kernel
theorem dX7_appendCharacter_1 : decode cX7_appendCharacter 1 = .ok (.ifCond .lt 10, 3) := by decide +kernel
theorem dX7_appendCharacter_4 : decode cX7_appendCharacter 4 = .ok (.iload_n 1, 1) := by decide +kernel
theorem dX7_appendCharacter_5 : decode cX7_appendCharacter 5 = .ok (.sipush 255, 3) := by decide +kernel
theorem dX7_appendCharacter_8 : decode cX7_appendCharacter 8 = .ok (.if_icmp .le 5, 3) := by decide +kernel
theorem dX7_appendCharacter_11 : decode cX7_appendCharacter 11 = .ok (.iconst (-1), 1) := by decide +kernel
theorem dX7_appendCharacter_12 : decode cX7_appendCharacter 12 = .ok (.ireturn, 1) := by decide +kernel
theorem dX7_appendCharacter_13 : decode cX7_appendCharacter 13 = .ok (.aload_n 0, 1) := by decide +kernel
theorem dX7_appendCharacter_14 : decode cX7_appendCharacter 14 = .ok (.getfield 10, 3) := by decide +kernel
theorem dX7_appendCharacter_17 : decode cX7_appendCharacter 17 = .ok (.iload_n 1, 1) := by decide +kernel
theorem dX7_appendCharacter_18 : decode cX7_appendCharacter 18 = .ok (.invokevirtual 58, 3) := by decide +kernel
theorem dX7_appendCharacter_21 : decode cX7_appendCharacter 21 = .ok (.ifCond .eq 13, 3) := by decide +kernel
theorem dX7_appendCharacter_24 : decode cX7_appendCharacter 24 = .ok (.aload_n 0, 1) := by decide +kernel
theorem dX7_appendCharacter_25 : decode cX7_appendCharacter 25 = .ok (.getfield 10, 3) := by decide +kernel
theorem dX7_appendCharacter_28 : decode cX7_appendCharacter 28 = .ok (.getfield 62, 3) := by decide +kernel
theorem dX7_appendCharacter_31 : decode cX7_appendCharacter 31 = .ok (.goto 5, 3) := by decide +kernel
theorem dX7_appendCharacter_34 : decode cX7_appendCharacter 34 = .ok (.bipush (-3), 2) := by decide +kernel
theorem dX7_appendCharacter_36 : decode cX7_appendCharacter 36 = .ok (.ireturn, 1) := by decide +kernel
theorem dX7_clearText_0 : decode cX7_clearText 0 = .ok (.aload_n 0, 1) := by decide +kernel
theorem dX7_clearText_1 : decode cX7_clearText 1 = .ok (.getfield 10, 3) := by decide +kernel
theorem dX7_clearText_4 : decode cX7_clearText 4 = .ok (.getfield 62, 3) := by decide +kernel
theorem dX7_clearText_7 : decode cX7_clearText 7 = .ok (.istore_n 1, 1) := by decide +kernel
theorem dX7_clearText_8 : decode cX7_clearText 8 = .ok (.aload_n 0, 1) := by decide +kernel
theorem dX7_clearText_9 : decode cX7_clearText 9 = .ok (.getfield 10, 3) := by decide +kernel
theorem dX7_clearText_12 : decode cX7_clearText 12 = .ok (.iconst 0, 1) := by decide +kernel
theorem dX7_clearText_13 : decode cX7_clearText 13 = .ok (.putfield 62, 3) := by decide +kernel
theorem dX7_clearText_16 : decode cX7_clearText 16 = .ok (.iload_n 1, 1) := by decide +kernel
theorem dX7_clearText_17 : decode cX7_clearText 17 = .ok (.ireturn, 1) := by decide +kernel
theorem dX7_loadDrawing_0 : decode cX7_loadDrawing 0 = .ok (.aload_n 0, 1) := by decide +kernel
theorem dX7_loadDrawing_1 : decode cX7_loadDrawing 1 = .ok (.getfield 10, 3) := by decide +kernel
theorem dX7_loadDrawing_4 : decode cX7_loadDrawing 4 = .ok (.invokevirtual 66, 3) := by decide +kernel
theorem dX7_loadDrawing_7 : decode cX7_loadDrawing 7 = .ok (.istore_n 1, 1) := by decide +kernel
theorem dX7_loadDrawing_8 : decode cX7_loadDrawing 8 = .ok (.iload_n 1, 1) := by decide +kernel
theorem dX7_loadDrawing_9 : decode cX7_loadDrawing 9 = .ok (.iconst (-1), 1) := by decide +kernel
theorem dX7_loadDrawing_10 : decode cX7_loadDrawing 10 = .ok (.if_icmp .eq 8, 3) := by decide +kernel
theorem dX7_loadDrawing_13 : decode cX7_loadDrawing 13 = .ok (.bipush (-10), 2) := by decide +kernel
theorem dX7_loadDrawing_15 : decode cX7_loadDrawing 15 = .ok (.iload_n 1, 1) := by decide +kernel
theorem dX7_loadDrawing_16 : decode cX7_loadDrawing 16 = .ok (.isub, 1) := by decide +kernel
theorem dX7_loadDrawing_17 : decode cX7_loadDrawing 17 = .ok (.ireturn, 1) := by decide +kernel
theorem dX7_loadDrawing_18 : decode cX7_loadDrawing 18 = .ok (.aload_n 0, 1) := by decide +kernel
theorem dX7_loadDrawing_19 : decode cX7_loadDrawing 19 = .ok (.getfield 26, 3) := by decide +kernel
theorem dX7_loadDrawing_22 : decode cX7_loadDrawing 22 = .ok (.aload_n 0, 1) := by decide +kernel
theorem dX7_loadDrawing_23 : decode cX7_loadDrawing 23 = .ok (.getfield 19, 3) := by decide +kernel
theorem dX7_loadDrawing_26 : decode cX7_loadDrawing 26 = .ok (.invokevirtual 70, 3) := by decide +kernel
theorem dX7_loadDrawing_29 : decode cX7_loadDrawing 29 = .ok (.aload_n 0, 1) := by decide +kernel
theorem dX7_loadDrawing_30 : decode cX7_loadDrawing 30 = .ok (.getfield 10, 3) := by decide +kernel
theorem dX7_loadDrawing_33 : decode cX7_loadDrawing 33 = .ok (.aload_n 0, 1) := by decide +kernel
theorem dX7_loadDrawing_34 : decode cX7_loadDrawing 34 = .ok (.getfield 19, 3) := by decide +kernel
theorem dX7_loadDrawing_37 : decode cX7_loadDrawing 37 = .ok (.invokevirtual 73, 3) := by decide +kernel
theorem dX7_loadDrawing_40 : decode cX7_loadDrawing 40 = .ok (.aload_n 0, 1) := by decide +kernel
theorem dX7_loadDrawing_41 : decode cX7_loadDrawing 41 = .ok (.getfield 10, 3) := by decide +kernel
theorem dX7_loadDrawing_44 : decode cX7_loadDrawing 44 = .ok (.iconst 0, 1) := by decide +kernel
theorem dX7_loadDrawing_45 : decode cX7_loadDrawing 45 = .ok (.putfield 62, 3) := by decide +kernel
theorem dX7_loadDrawing_48 : decode cX7_loadDrawing 48 = .ok (.aload_n 0, 1) := by decide +kernel
theorem dX7_loadDrawing_49 : decode cX7_loadDrawing 49 = .ok (.getfield 19, 3) := by decide +kernel
theorem dX7_loadDrawing_52 : decode cX7_loadDrawing 52 = .ok (.lconst 0, 1) := by decide +kernel
theorem dX7_loadDrawing_53 : decode cX7_loadDrawing 53 = .ok (.putfield 76, 3) := by decide +kernel
theorem dX7_loadDrawing_56 : decode cX7_loadDrawing 56 = .ok (.aload_n 0, 1) := by decide +kernel
theorem dX7_loadDrawing_57 : decode cX7_loadDrawing 57 = .ok (.getfield 19, 3) := by decide +kernel
theorem dX7_loadDrawing_60 : decode cX7_loadDrawing 60 = .ok (.lconst 0, 1) := by decide +kernel
theorem dX7_loadDrawing_61 : decode cX7_loadDrawing 61 = .ok (.putfield 80, 3) := by decide +kernel
theorem dX7_loadDrawing_64 : decode cX7_loadDrawing 64 = .ok (.aload_n 0, 1) := by decide +kernel
theorem dX7_loadDrawing_65 : decode cX7_loadDrawing 65 = .ok (.invokevirtual 83, 3) := by decide +kernel
theorem dX7_loadDrawing_68 : decode cX7_loadDrawing 68 = .ok (.aload_n 0, 1) := by decide +kernel
theorem dX7_loadDrawing_69 : decode cX7_loadDrawing 69 = .ok (.getfield 35, 3) := by decide +kernel
theorem dX7_loadDrawing_72 : decode cX7_loadDrawing 72 = .ok (.getfield 86, 3) := by decide +kernel
theorem dX7_loadDrawing_75 : decode cX7_loadDrawing 75 = .ok (.ireturn, 1) := by decide +kernel
theorem dX7_setColour_0 : decode cX7_setColour 0 = .ok (.aload_n 0, 1) := by decide +kernel
theorem dX7_setColour_1 : decode cX7_setColour 1 = .ok (.getfield 19, 3) := by decide +kernel
theorem dX7_setColour_4 : decode cX7_setColour 4 = .ok (.iload_n 1, 1) := by decide +kernel
theorem dX7_setColour_5 : decode cX7_setColour 5 = .ok (.iload_n 2, 1) := by decide +kernel
theorem dX7_setColour_6 : decode cX7_setColour 6 = .ok (.invokevirtual 89, 3) := by decide +kernel
theorem dX7_setColour_9 : decode cX7_setColour 9 = .ok (.ifCond .eq 12, 3) := by decide +kernel
theorem dX7_setColour_12 : decode cX7_setColour 12 = .ok (.iload_n 3, 1) := by decide +kernel
theorem dX7_setColour_13 : decode cX7_setColour 13 = .ok (.ifCond .lt 8, 3) := by decide +kernel
theorem dX7_setColour_16 : decode cX7_setColour 16 = .ok (.iload_n 3, 1) := by decide +kernel
theorem dX7_setColour_17 : decode cX7_setColour 17 = .ok (.iconst 5, 1) := by decide +kernel
theorem dX7_setColour_18 : decode cX7_setColour 18 = .ok (.if_icmp .le 5, 3) := by decide +kernel
theorem dX7_setColour_21 : decode cX7_setColour 21 = .ok (.iconst (-1), 1) := by decide +kernel
theorem dX7_setColour_22 : decode cX7_setColour 22 = .ok (.ireturn, 1) := by decide +kernel
theorem dX7_setColour_23 : decode cX7_setColour 23 = .ok (.iload_n 1, 1) := by decide +kernel
theorem dX7_setColour_24 : decode cX7_setColour 24 = .ok (.iload_n 2, 1) := by decide +kernel
theorem dX7_setColour_25 : decode cX7_setColour 25 = .ok (.invokestatic 93, 3) := by decide +kernel
theorem dX7_setColour_28 : decode cX7_setColour 28 = .ok (.istore 4, 2) := by decide +kernel
theorem dX7_setColour_30 : decode cX7_setColour 30 = .ok (.aload_n 0, 1) := by decide +kernel
theorem dX7_setColour_31 : decode cX7_setColour 31 = .ok (.getfield 19, 3) := by decide +kernel
theorem dX7_setColour_34 : decode cX7_setColour 34 = .ok (.getfield 99, 3) := by decide +kernel
theorem dX7_setColour_37 : decode cX7_setColour 37 = .ok (.iload 4, 2) := by decide +kernel
theorem dX7_setColour_39 : decode cX7_setColour 39 = .ok (.iaload, 1) := by decide +kernel
theorem dX7_setColour_40 : decode cX7_setColour 40 = .ok (.istore 5, 2) := by decide +kernel
theorem dX7_setColour_42 : decode cX7_setColour 42 = .ok (.iload 5, 2) := by decide +kernel
theorem dX7_setColour_44 : decode cX7_setColour 44 = .ok (.iload_n 3, 1) := by decide +kernel
theorem dX7_setColour_45 : decode cX7_setColour 45 = .ok (.if_icmp .ne 6, 3) := by decide +kernel
theorem dX7_setColour_48 : decode cX7_setColour 48 = .ok (.bipush (-2), 2) := by decide +kernel
theorem dX7_setColour_50 : decode cX7_setColour 50 = .ok (.ireturn, 1) := by decide +kernel
theorem dX7_setColour_51 : decode cX7_setColour 51 = .ok (.aload_n 0, 1) := by decide +kernel
theorem dX7_setColour_52 : decode cX7_setColour 52 = .ok (.getfield 26, 3) := by decide +kernel
theorem dX7_setColour_55 : decode cX7_setColour 55 = .ok (.aload_n 0, 1) := by decide +kernel
theorem dX7_setColour_56 : decode cX7_setColour 56 = .ok (.getfield 19, 3) := by decide +kernel
theorem dX7_setColour_59 : decode cX7_setColour 59 = .ok (.invokevirtual 70, 3) := by decide +kernel
theorem dX7_setColour_62 : decode cX7_setColour 62 = .ok (.aload_n 0, 1) := by decide +kernel
theorem dX7_setColour_63 : decode cX7_setColour 63 = .ok (.getfield 19, 3) := by decide +kernel
theorem dX7_setColour_66 : decode cX7_setColour 66 = .ok (.getfield 99, 3) := by decide +kernel
theorem dX7_setColour_69 : decode cX7_setColour 69 = .ok (.iload 4, 2) := by decide +kernel
theorem dX7_setColour_71 : decode cX7_setColour 71 = .ok (.iload_n 3, 1) := by decide +kernel
theorem dX7_setColour_72 : decode cX7_setColour 72 = .ok (.iastore, 1) := by decide +kernel
theorem dX7_setColour_73 : decode cX7_setColour 73 = .ok (.aload_n 0, 1) := by decide +kernel
theorem dX7_setColour_74 : decode cX7_setColour 74 = .ok (.invokevirtual 83, 3) := by decide +kernel
theorem dX7_setColour_77 : decode cX7_setColour 77 = .ok (.iload 5, 2) := by decide +kernel
theorem dX7_setColour_79 : decode cX7_setColour 79 = .ok (.ireturn, 1) := by decide +kernel
theorem dX7_rows_0 : decode cX7_rows 0 = .ok (.aload_n 0, 1) := by decide +kernel
theorem dX7_rows_1 : decode cX7_rows 1 = .ok (.getfield 19, 3) := by decide +kernel
theorem dX7_rows_4 : decode cX7_rows 4 = .ok (.getfield 103, 3) := by decide +kernel
theorem dX7_rows_7 : decode cX7_rows 7 = .ok (.ireturn, 1) := by decide +kernel
theorem dX7_columns_0 : decode cX7_columns 0 = .ok (.aload_n 0, 1) := by decide +kernel
theorem dX7_columns_1 : decode cX7_columns 1 = .ok (.getfield 19, 3) := by decide +kernel
theorem dX7_columns_4 : decode cX7_columns 4 = .ok (.getfield 106, 3) := by decide +kernel
theorem dX7_columns_7 : decode cX7_columns 7 = .ok (.ireturn, 1) := by decide +kernel
theorem dX7_colourAt_0 : decode cX7_colourAt 0 = .ok (.aload_n 0, 1) := by decide +kernel
theorem dX7_colourAt_1 : decode cX7_colourAt 1 = .ok (.getfield 19, 3) := by decide +kernel
theorem dX7_colourAt_4 : decode cX7_colourAt 4 = .ok (.iload_n 1, 1) := by decide +kernel
theorem dX7_colourAt_5 : decode cX7_colourAt 5 = .ok (.iload_n 2, 1) := by decide +kernel
theorem dX7_colourAt_6 : decode cX7_colourAt 6 = .ok (.invokevirtual 89, 3) := by decide +kernel
theorem dX7_colourAt_9 : decode cX7_colourAt 9 = .ok (.ifCond .ne 5, 3) := by decide +kernel
theorem dX7_colourAt_12 : decode cX7_colourAt 12 = .ok (.iconst (-1), 1) := by decide +kernel
theorem dX7_colourAt_13 : decode cX7_colourAt 13 = .ok (.ireturn, 1) := by decide +kernel
theorem dX7_colourAt_14 : decode cX7_colourAt 14 = .ok (.aload_n 0, 1) := by decide +kernel
theorem dX7_colourAt_15 : decode cX7_colourAt 15 = .ok (.getfield 19, 3) := by decide +kernel
theorem dX7_colourAt_18 : decode cX7_colourAt 18 = .ok (.getfield 99, 3) := by decide +kernel
theorem dX7_colourAt_21 : decode cX7_colourAt 21 = .ok (.iload_n 1, 1) := by decide +kernel
theorem dX7_colourAt_22 : decode cX7_colourAt 22 = .ok (.iload_n 2, 1) := by decide +kernel
theorem dX7_colourAt_23 : decode cX7_colourAt 23 = .ok (.invokestatic 93, 3) := by decide +kernel
theorem dX7_colourAt_26 : decode cX7_colourAt 26 = .ok (.iaload, 1) := by decide +kernel
theorem dX7_colourAt_27 : decode cX7_colourAt 27 = .ok (.ireturn, 1) := by decide +kernel
theorem dX7_addCut_0 : decode cX7_addCut 0 = .ok (.aload_n 0, 1) := by decide +kernel
theorem dX7_addCut_1 : decode cX7_addCut 1 = .ok (.getfield 19, 3) := by decide +kernel
theorem dX7_addCut_4 : decode cX7_addCut 4 = .ok (.iload_n 1, 1) := by decide +kernel
theorem dX7_addCut_5 : decode cX7_addCut 5 = .ok (.iload_n 2, 1) := by decide +kernel
theorem dX7_addCut_6 : decode cX7_addCut 6 = .ok (.iload_n 3, 1) := by decide +kernel
theorem dX7_addCut_7 : decode cX7_addCut 7 = .ok (.invokevirtual 109, 3) := by decide +kernel
theorem dX7_addCut_10 : decode cX7_addCut 10 = .ok (.ifCond .ne 5, 3) := by decide +kernel
theorem dX7_addCut_13 : decode cX7_addCut 13 = .ok (.iconst (-1), 1) := by decide +kernel
theorem dX7_addCut_14 : decode cX7_addCut 14 = .ok (.ireturn, 1) := by decide +kernel
theorem dX7_addCut_15 : decode cX7_addCut 15 = .ok (.aload_n 0, 1) := by decide +kernel
theorem dX7_addCut_16 : decode cX7_addCut 16 = .ok (.getfield 19, 3) := by decide +kernel
theorem dX7_addCut_19 : decode cX7_addCut 19 = .ok (.iload_n 1, 1) := by decide +kernel
theorem dX7_addCut_20 : decode cX7_addCut 20 = .ok (.iload_n 2, 1) := by decide +kernel
theorem dX7_addCut_21 : decode cX7_addCut 21 = .ok (.iload_n 3, 1) := by decide +kernel
theorem dX7_addCut_22 : decode cX7_addCut 22 = .ok (.invokevirtual 113, 3) := by decide +kernel
theorem dX7_addCut_25 : decode cX7_addCut 25 = .ok (.ifCond .eq 6, 3) := by decide +kernel
theorem dX7_addCut_28 : decode cX7_addCut 28 = .ok (.bipush (-2), 2) := by decide +kernel
theorem dX7_addCut_30 : decode cX7_addCut 30 = .ok (.ireturn, 1) := by decide +kernel
theorem dX7_addCut_31 : decode cX7_addCut 31 = .ok (.aload_n 0, 1) := by decide +kernel
theorem dX7_addCut_32 : decode cX7_addCut 32 = .ok (.iload_n 1, 1) := by decide +kernel
theorem dX7_addCut_33 : decode cX7_addCut 33 = .ok (.iload_n 2, 1) := by decide +kernel
theorem dX7_addCut_34 : decode cX7_addCut 34 = .ok (.iload_n 3, 1) := by decide +kernel
theorem dX7_addCut_35 : decode cX7_addCut 35 = .ok (.invokevirtual 116, 3) := by decide +kernel
theorem dX7_addCut_38 : decode cX7_addCut 38 = .ok (.ireturn, 1) := by decide +kernel
theorem dX7_removeCut_0 : decode cX7_removeCut 0 = .ok (.aload_n 0, 1) := by decide +kernel
theorem dX7_removeCut_1 : decode cX7_removeCut 1 = .ok (.getfield 19, 3) := by decide +kernel
theorem dX7_removeCut_4 : decode cX7_removeCut 4 = .ok (.iload_n 1, 1) := by decide +kernel
theorem dX7_removeCut_5 : decode cX7_removeCut 5 = .ok (.iload_n 2, 1) := by decide +kernel
theorem dX7_removeCut_6 : decode cX7_removeCut 6 = .ok (.iload_n 3, 1) := by decide +kernel
theorem dX7_removeCut_7 : decode cX7_removeCut 7 = .ok (.invokevirtual 109, 3) := by decide +kernel
theorem dX7_removeCut_10 : decode cX7_removeCut 10 = .ok (.ifCond .ne 5, 3) := by decide +kernel
theorem dX7_removeCut_13 : decode cX7_removeCut 13 = .ok (.iconst (-1), 1) := by decide +kernel
theorem dX7_removeCut_14 : decode cX7_removeCut 14 = .ok (.ireturn, 1) := by decide +kernel
theorem dX7_removeCut_15 : decode cX7_removeCut 15 = .ok (.aload_n 0, 1) := by decide +kernel
theorem dX7_removeCut_16 : decode cX7_removeCut 16 = .ok (.getfield 19, 3) := by decide +kernel
theorem dX7_removeCut_19 : decode cX7_removeCut 19 = .ok (.iload_n 1, 1) := by decide +kernel
theorem dX7_removeCut_20 : decode cX7_removeCut 20 = .ok (.iload_n 2, 1) := by decide +kernel
theorem dX7_removeCut_21 : decode cX7_removeCut 21 = .ok (.iload_n 3, 1) := by decide +kernel
theorem dX7_removeCut_22 : decode cX7_removeCut 22 = .ok (.invokevirtual 113, 3) := by decide +kernel
theorem dX7_removeCut_25 : decode cX7_removeCut 25 = .ok (.ifCond .ne 6, 3) := by decide +kernel
theorem dX7_removeCut_28 : decode cX7_removeCut 28 = .ok (.bipush (-2), 2) := by decide +kernel
theorem dX7_removeCut_30 : decode cX7_removeCut 30 = .ok (.ireturn, 1) := by decide +kernel
theorem dX7_removeCut_31 : decode cX7_removeCut 31 = .ok (.aload_n 0, 1) := by decide +kernel
theorem dX7_removeCut_32 : decode cX7_removeCut 32 = .ok (.iload_n 1, 1) := by decide +kernel
theorem dX7_removeCut_33 : decode cX7_removeCut 33 = .ok (.iload_n 2, 1) := by decide +kernel
theorem dX7_removeCut_34 : decode cX7_removeCut 34 = .ok (.iload_n 3, 1) := by decide +kernel
theorem dX7_removeCut_35 : decode cX7_removeCut 35 = .ok (.invokevirtual 116, 3) := by decide +kernel
theorem dX7_removeCut_38 : decode cX7_removeCut 38 = .ok (.ireturn, 1) := by decide +kernel
theorem dX7_looseCuts_0 : decode cX7_looseCuts 0 = .ok (.aload_n 0, 1) := by decide +kernel
theorem dX7_looseCuts_1 : decode cX7_looseCuts 1 = .ok (.getfield 35, 3) := by decide +kernel
theorem dX7_looseCuts_4 : decode cX7_looseCuts 4 = .ok (.invokevirtual 120, 3) := by decide +kernel
theorem dX7_looseCuts_7 : decode cX7_looseCuts 7 = .ok (.invokestatic 124, 3) := by decide +kernel
theorem dX7_looseCuts_10 : decode cX7_looseCuts 10 = .ok (.aload_n 0, 1) := by decide +kernel
theorem dX7_looseCuts_11 : decode cX7_looseCuts 11 = .ok (.getfield 35, 3) := by decide +kernel
theorem dX7_looseCuts_14 : decode cX7_looseCuts 14 = .ok (.invokevirtual 130, 3) := by decide +kernel
theorem dX7_looseCuts_17 : decode cX7_looseCuts 17 = .ok (.invokestatic 124, 3) := by decide +kernel
theorem dX7_looseCuts_20 : decode cX7_looseCuts 20 = .ok (.iadd, 1) := by decide +kernel
theorem dX7_looseCuts_21 : decode cX7_looseCuts 21 = .ok (.ireturn, 1) := by decide +kernel
theorem dX7_removeLooseCuts_0 : decode cX7_removeLooseCuts 0 = .ok (.aload_n 0, 1) := by decide +kernel
theorem dX7_removeLooseCuts_1 : decode cX7_removeLooseCuts 1 = .ok (.getfield 35, 3) := by decide +kernel
theorem dX7_removeLooseCuts_4 : decode cX7_removeLooseCuts 4 = .ok (.invokevirtual 120, 3) := by decide +kernel
theorem dX7_removeLooseCuts_7 : decode cX7_removeLooseCuts 7 = .ok (.lstore_n 1, 1) := by decide +kernel
theorem dX7_removeLooseCuts_8 : decode cX7_removeLooseCuts 8 = .ok (.aload_n 0, 1) := by decide +kernel
theorem dX7_removeLooseCuts_9 : decode cX7_removeLooseCuts 9 = .ok (.getfield 35, 3) := by decide +kernel
theorem dX7_removeLooseCuts_12 : decode cX7_removeLooseCuts 12 = .ok (.invokevirtual 130, 3) := by decide +kernel
theorem dX7_removeLooseCuts_15 : decode cX7_removeLooseCuts 15 = .ok (.lstore_n 3, 1) := by decide +kernel
theorem dX7_removeLooseCuts_16 : decode cX7_removeLooseCuts 16 = .ok (.lload_n 1, 1) := by decide +kernel
theorem dX7_removeLooseCuts_17 : decode cX7_removeLooseCuts 17 = .ok (.lconst 0, 1) := by decide +kernel
theorem dX7_removeLooseCuts_18 : decode cX7_removeLooseCuts 18 = .ok (.lcmp, 1) := by decide +kernel
theorem dX7_removeLooseCuts_19 : decode cX7_removeLooseCuts 19 = .ok (.ifCond .ne 12, 3) := by decide +kernel
theorem dX7_removeLooseCuts_22 : decode cX7_removeLooseCuts 22 = .ok (.lload_n 3, 1) := by decide +kernel
theorem dX7_removeLooseCuts_23 : decode cX7_removeLooseCuts 23 = .ok (.lconst 0, 1) := by decide +kernel
theorem dX7_removeLooseCuts_24 : decode cX7_removeLooseCuts 24 = .ok (.lcmp, 1) := by decide +kernel
theorem dX7_removeLooseCuts_25 : decode cX7_removeLooseCuts 25 = .ok (.ifCond .ne 6, 3) := by decide +kernel
theorem dX7_removeLooseCuts_28 : decode cX7_removeLooseCuts 28 = .ok (.bipush (-2), 2) := by decide +kernel
theorem dX7_removeLooseCuts_30 : decode cX7_removeLooseCuts 30 = .ok (.ireturn, 1) := by decide +kernel
theorem dX7_removeLooseCuts_31 : decode cX7_removeLooseCuts 31 = .ok (.aload_n 0, 1) := by decide +kernel
theorem dX7_removeLooseCuts_32 : decode cX7_removeLooseCuts 32 = .ok (.getfield 26, 3) := by decide +kernel
theorem dX7_removeLooseCuts_35 : decode cX7_removeLooseCuts 35 = .ok (.aload_n 0, 1) := by decide +kernel
theorem dX7_removeLooseCuts_36 : decode cX7_removeLooseCuts 36 = .ok (.getfield 19, 3) := by decide +kernel
theorem dX7_removeLooseCuts_39 : decode cX7_removeLooseCuts 39 = .ok (.invokevirtual 70, 3) := by decide +kernel
theorem dX7_removeLooseCuts_42 : decode cX7_removeLooseCuts 42 = .ok (.aload_n 0, 1) := by decide +kernel
theorem dX7_removeLooseCuts_43 : decode cX7_removeLooseCuts 43 = .ok (.getfield 19, 3) := by decide +kernel
theorem dX7_removeLooseCuts_46 : decode cX7_removeLooseCuts 46 = .ok (.dup, 1) := by decide +kernel
theorem dX7_removeLooseCuts_47 : decode cX7_removeLooseCuts 47 = .ok (.getfield 76, 3) := by decide +kernel
theorem dX7_removeLooseCuts_50 : decode cX7_removeLooseCuts 50 = .ok (.lload_n 1, 1) := by decide +kernel
theorem dX7_removeLooseCuts_51 : decode cX7_removeLooseCuts 51 = .ok (.ldc2_w 133, 3) := by decide +kernel
theorem dX7_removeLooseCuts_54 : decode cX7_removeLooseCuts 54 = .ok (.lxor, 1) := by decide +kernel
theorem dX7_removeLooseCuts_55 : decode cX7_removeLooseCuts 55 = .ok (.land, 1) := by decide +kernel
theorem dX7_removeLooseCuts_56 : decode cX7_removeLooseCuts 56 = .ok (.putfield 76, 3) := by decide +kernel
theorem dX7_removeLooseCuts_59 : decode cX7_removeLooseCuts 59 = .ok (.aload_n 0, 1) := by decide +kernel
theorem dX7_removeLooseCuts_60 : decode cX7_removeLooseCuts 60 = .ok (.getfield 19, 3) := by decide +kernel
theorem dX7_removeLooseCuts_63 : decode cX7_removeLooseCuts 63 = .ok (.dup, 1) := by decide +kernel
theorem dX7_removeLooseCuts_64 : decode cX7_removeLooseCuts 64 = .ok (.getfield 80, 3) := by decide +kernel
theorem dX7_removeLooseCuts_67 : decode cX7_removeLooseCuts 67 = .ok (.lload_n 3, 1) := by decide +kernel
theorem dX7_removeLooseCuts_68 : decode cX7_removeLooseCuts 68 = .ok (.ldc2_w 133, 3) := by decide +kernel
theorem dX7_removeLooseCuts_71 : decode cX7_removeLooseCuts 71 = .ok (.lxor, 1) := by decide +kernel
theorem dX7_removeLooseCuts_72 : decode cX7_removeLooseCuts 72 = .ok (.land, 1) := by decide +kernel
theorem dX7_removeLooseCuts_73 : decode cX7_removeLooseCuts 73 = .ok (.putfield 80, 3) := by decide +kernel
theorem dX7_removeLooseCuts_76 : decode cX7_removeLooseCuts 76 = .ok (.aload_n 0, 1) := by decide +kernel
theorem dX7_removeLooseCuts_77 : decode cX7_removeLooseCuts 77 = .ok (.invokevirtual 83, 3) := by decide +kernel
theorem dX7_removeLooseCuts_80 : decode cX7_removeLooseCuts 80 = .ok (.lload_n 1, 1) := by decide +kernel
theorem dX7_removeLooseCuts_81 : decode cX7_removeLooseCuts 81 = .ok (.invokestatic 124, 3) := by decide +kernel
theorem dX7_removeLooseCuts_84 : decode cX7_removeLooseCuts 84 = .ok (.lload_n 3, 1) := by decide +kernel
theorem dX7_removeLooseCuts_85 : decode cX7_removeLooseCuts 85 = .ok (.invokestatic 124, 3) := by decide +kernel
theorem dX7_removeLooseCuts_88 : decode cX7_removeLooseCuts 88 = .ok (.iadd, 1) := by decide +kernel
theorem dX7_removeLooseCuts_89 : decode cX7_removeLooseCuts 89 = .ok (.ireturn, 1) := by decide +kernel
theorem dX7_paneCount_0 : decode cX7_paneCount 0 = .ok (.aload_n 0, 1) := by decide +kernel
theorem dX7_paneCount_1 : decode cX7_paneCount 1 = .ok (.getfield 35, 3) := by decide +kernel
theorem dX7_paneCount_4 : decode cX7_paneCount 4 = .ok (.getfield 86, 3) := by decide +kernel
theorem dX7_paneCount_7 : decode cX7_paneCount 7 = .ok (.ireturn, 1) := by decide +kernel
theorem dX7_paneAt_0 : decode cX7_paneAt 0 = .ok (.aload_n 0, 1) := by decide +kernel
theorem dX7_paneAt_1 : decode cX7_paneAt 1 = .ok (.getfield 19, 3) := by decide +kernel
theorem dX7_paneAt_4 : decode cX7_paneAt 4 = .ok (.iload_n 1, 1) := by decide +kernel
theorem dX7_paneAt_5 : decode cX7_paneAt 5 = .ok (.iload_n 2, 1) := by decide +kernel
theorem dX7_paneAt_6 : decode cX7_paneAt 6 = .ok (.invokevirtual 89, 3) := by decide +kernel
theorem dX7_paneAt_9 : decode cX7_paneAt 9 = .ok (.ifCond .ne 5, 3) := by decide +kernel
theorem dX7_paneAt_12 : decode cX7_paneAt 12 = .ok (.iconst (-1), 1) := by decide +kernel
theorem dX7_paneAt_13 : decode cX7_paneAt 13 = .ok (.ireturn, 1) := by decide +kernel
theorem dX7_paneAt_14 : decode cX7_paneAt 14 = .ok (.aload_n 0, 1) := by decide +kernel
theorem dX7_paneAt_15 : decode cX7_paneAt 15 = .ok (.getfield 35, 3) := by decide +kernel
theorem dX7_paneAt_18 : decode cX7_paneAt 18 = .ok (.iload_n 1, 1) := by decide +kernel
theorem dX7_paneAt_19 : decode cX7_paneAt 19 = .ok (.iload_n 2, 1) := by decide +kernel
theorem dX7_paneAt_20 : decode cX7_paneAt 20 = .ok (.invokestatic 135, 3) := by decide +kernel
theorem dX7_paneAt_23 : decode cX7_paneAt 23 = .ok (.invokevirtual 139, 3) := by decide +kernel
theorem dX7_paneAt_26 : decode cX7_paneAt 26 = .ok (.ireturn, 1) := by decide +kernel
theorem dX7_paneSize_0 : decode cX7_paneSize 0 = .ok (.aload_n 0, 1) := by decide +kernel
theorem dX7_paneSize_1 : decode cX7_paneSize 1 = .ok (.getfield 35, 3) := by decide +kernel
theorem dX7_paneSize_4 : decode cX7_paneSize 4 = .ok (.iload_n 1, 1) := by decide +kernel
theorem dX7_paneSize_5 : decode cX7_paneSize 5 = .ok (.invokevirtual 142, 3) := by decide +kernel
theorem dX7_paneSize_8 : decode cX7_paneSize 8 = .ok (.ifCond .ne 5, 3) := by decide +kernel
theorem dX7_paneSize_11 : decode cX7_paneSize 11 = .ok (.iconst (-1), 1) := by decide +kernel
theorem dX7_paneSize_12 : decode cX7_paneSize 12 = .ok (.ireturn, 1) := by decide +kernel
theorem dX7_paneSize_13 : decode cX7_paneSize 13 = .ok (.aload_n 0, 1) := by decide +kernel
theorem dX7_paneSize_14 : decode cX7_paneSize 14 = .ok (.getfield 35, 3) := by decide +kernel
theorem dX7_paneSize_17 : decode cX7_paneSize 17 = .ok (.getfield 145, 3) := by decide +kernel
theorem dX7_paneSize_20 : decode cX7_paneSize 20 = .ok (.iload_n 1, 1) := by decide +kernel
theorem dX7_paneSize_21 : decode cX7_paneSize 21 = .ok (.laload, 1) := by decide +kernel
theorem dX7_paneSize_22 : decode cX7_paneSize 22 = .ok (.invokestatic 124, 3) := by decide +kernel
theorem dX7_paneSize_25 : decode cX7_paneSize 25 = .ok (.ireturn, 1) := by decide +kernel
theorem dX7_innerCorners_0 : decode cX7_innerCorners 0 = .ok (.aload_n 0, 1) := by decide +kernel
theorem dX7_innerCorners_1 : decode cX7_innerCorners 1 = .ok (.getfield 35, 3) := by decide +kernel
theorem dX7_innerCorners_4 : decode cX7_innerCorners 4 = .ok (.iload_n 1, 1) := by decide +kernel
theorem dX7_innerCorners_5 : decode cX7_innerCorners 5 = .ok (.invokevirtual 142, 3) := by decide +kernel
theorem dX7_innerCorners_8 : decode cX7_innerCorners 8 = .ok (.ifCond .ne 5, 3) := by decide +kernel
theorem dX7_innerCorners_11 : decode cX7_innerCorners 11 = .ok (.iconst (-1), 1) := by decide +kernel
theorem dX7_innerCorners_12 : decode cX7_innerCorners 12 = .ok (.ireturn, 1) := by decide +kernel
theorem dX7_innerCorners_13 : decode cX7_innerCorners 13 = .ok (.aload_n 0, 1) := by decide +kernel
theorem dX7_innerCorners_14 : decode cX7_innerCorners 14 = .ok (.getfield 35, 3) := by decide +kernel
theorem dX7_innerCorners_17 : decode cX7_innerCorners 17 = .ok (.getfield 145, 3) := by decide +kernel
theorem dX7_innerCorners_20 : decode cX7_innerCorners 20 = .ok (.iload_n 1, 1) := by decide +kernel
theorem dX7_innerCorners_21 : decode cX7_innerCorners 21 = .ok (.laload, 1) := by decide +kernel
theorem dX7_innerCorners_22 : decode cX7_innerCorners 22 = .ok (.invokestatic 149, 3) := by decide +kernel
theorem dX7_innerCorners_25 : decode cX7_innerCorners 25 = .ok (.ireturn, 1) := by decide +kernel
theorem dX7_holes_0 : decode cX7_holes 0 = .ok (.aload_n 0, 1) := by decide +kernel
theorem dX7_holes_1 : decode cX7_holes 1 = .ok (.getfield 35, 3) := by decide +kernel
theorem dX7_holes_4 : decode cX7_holes 4 = .ok (.iload_n 1, 1) := by decide +kernel
theorem dX7_holes_5 : decode cX7_holes 5 = .ok (.invokevirtual 142, 3) := by decide +kernel
theorem dX7_holes_8 : decode cX7_holes 8 = .ok (.ifCond .ne 5, 3) := by decide +kernel
theorem dX7_holes_11 : decode cX7_holes 11 = .ok (.iconst (-1), 1) := by decide +kernel
theorem dX7_holes_12 : decode cX7_holes 12 = .ok (.ireturn, 1) := by decide +kernel
theorem dX7_holes_13 : decode cX7_holes 13 = .ok (.aload_n 0, 1) := by decide +kernel
theorem dX7_holes_14 : decode cX7_holes 14 = .ok (.getfield 35, 3) := by decide +kernel
theorem dX7_holes_17 : decode cX7_holes 17 = .ok (.getfield 145, 3) := by decide +kernel
theorem dX7_holes_20 : decode cX7_holes 20 = .ok (.iload_n 1, 1) := by decide +kernel
theorem dX7_holes_21 : decode cX7_holes 21 = .ok (.laload, 1) := by decide +kernel
theorem dX7_holes_22 : decode cX7_holes 22 = .ok (.aload_n 0, 1) := by decide +kernel
theorem dX7_holes_23 : decode cX7_holes 23 = .ok (.getfield 35, 3) := by decide +kernel
theorem dX7_holes_26 : decode cX7_holes 26 = .ok (.getfield 152, 3) := by decide +kernel
theorem dX7_holes_29 : decode cX7_holes 29 = .ok (.invokestatic 155, 3) := by decide +kernel
theorem dX7_holes_32 : decode cX7_holes 32 = .ok (.ireturn, 1) := by decide +kernel
theorem dX7_canBeCut_0 : decode cX7_canBeCut 0 = .ok (.aload_n 0, 1) := by decide +kernel
theorem dX7_canBeCut_1 : decode cX7_canBeCut 1 = .ok (.getfield 35, 3) := by decide +kernel
theorem dX7_canBeCut_4 : decode cX7_canBeCut 4 = .ok (.iload_n 1, 1) := by decide +kernel
theorem dX7_canBeCut_5 : decode cX7_canBeCut 5 = .ok (.invokevirtual 142, 3) := by decide +kernel
theorem dX7_canBeCut_8 : decode cX7_canBeCut 8 = .ok (.ifCond .ne 5, 3) := by decide +kernel
theorem dX7_canBeCut_11 : decode cX7_canBeCut 11 = .ok (.iconst (-1), 1) := by decide +kernel
theorem dX7_canBeCut_12 : decode cX7_canBeCut 12 = .ok (.ireturn, 1) := by decide +kernel
theorem dX7_canBeCut_13 : decode cX7_canBeCut 13 = .ok (.aload_n 0, 1) := by decide +kernel
theorem dX7_canBeCut_14 : decode cX7_canBeCut 14 = .ok (.getfield 35, 3) := by decide +kernel
theorem dX7_canBeCut_17 : decode cX7_canBeCut 17 = .ok (.aload_n 0, 1) := by decide +kernel
theorem dX7_canBeCut_18 : decode cX7_canBeCut 18 = .ok (.getfield 35, 3) := by decide +kernel
theorem dX7_canBeCut_21 : decode cX7_canBeCut 21 = .ok (.getfield 145, 3) := by decide +kernel
theorem dX7_canBeCut_24 : decode cX7_canBeCut 24 = .ok (.iload_n 1, 1) := by decide +kernel
theorem dX7_canBeCut_25 : decode cX7_canBeCut 25 = .ok (.laload, 1) := by decide +kernel
theorem dX7_canBeCut_26 : decode cX7_canBeCut 26 = .ok (.invokevirtual 159, 3) := by decide +kernel
theorem dX7_canBeCut_29 : decode cX7_canBeCut 29 = .ok (.ifCond .eq 7, 3) := by decide +kernel
theorem dX7_canBeCut_32 : decode cX7_canBeCut 32 = .ok (.iconst 1, 1) := by decide +kernel
theorem dX7_canBeCut_33 : decode cX7_canBeCut 33 = .ok (.goto 4, 3) := by decide +kernel
theorem dX7_canBeCut_36 : decode cX7_canBeCut 36 = .ok (.iconst 0, 1) := by decide +kernel
theorem dX7_canBeCut_37 : decode cX7_canBeCut 37 = .ok (.ireturn, 1) := by decide +kernel
theorem dX7_cuttableCount_0 : decode cX7_cuttableCount 0 = .ok (.iconst 0, 1) := by decide +kernel
theorem dX7_cuttableCount_1 : decode cX7_cuttableCount 1 = .ok (.istore_n 1, 1) := by decide +kernel
theorem dX7_cuttableCount_2 : decode cX7_cuttableCount 2 = .ok (.iconst 0, 1) := by decide +kernel
theorem dX7_cuttableCount_3 : decode cX7_cuttableCount 3 = .ok (.istore_n 2, 1) := by decide +kernel
theorem dX7_cuttableCount_4 : decode cX7_cuttableCount 4 = .ok (.iload_n 2, 1) := by decide +kernel
theorem dX7_cuttableCount_5 : decode cX7_cuttableCount 5 = .ok (.aload_n 0, 1) := by decide +kernel
theorem dX7_cuttableCount_6 : decode cX7_cuttableCount 6 = .ok (.getfield 35, 3) := by decide +kernel
theorem dX7_cuttableCount_9 : decode cX7_cuttableCount 9 = .ok (.getfield 86, 3) := by decide +kernel
theorem dX7_cuttableCount_12 : decode cX7_cuttableCount 12 = .ok (.if_icmp .ge 31, 3) := by decide +kernel
theorem dX7_cuttableCount_15 : decode cX7_cuttableCount 15 = .ok (.aload_n 0, 1) := by decide +kernel
theorem dX7_cuttableCount_16 : decode cX7_cuttableCount 16 = .ok (.getfield 35, 3) := by decide +kernel
theorem dX7_cuttableCount_19 : decode cX7_cuttableCount 19 = .ok (.aload_n 0, 1) := by decide +kernel
theorem dX7_cuttableCount_20 : decode cX7_cuttableCount 20 = .ok (.getfield 35, 3) := by decide +kernel
theorem dX7_cuttableCount_23 : decode cX7_cuttableCount 23 = .ok (.getfield 145, 3) := by decide +kernel
theorem dX7_cuttableCount_26 : decode cX7_cuttableCount 26 = .ok (.iload_n 2, 1) := by decide +kernel
theorem dX7_cuttableCount_27 : decode cX7_cuttableCount 27 = .ok (.laload, 1) := by decide +kernel
theorem dX7_cuttableCount_28 : decode cX7_cuttableCount 28 = .ok (.invokevirtual 159, 3) := by decide +kernel
theorem dX7_cuttableCount_31 : decode cX7_cuttableCount 31 = .ok (.ifCond .eq 6, 3) := by decide +kernel
theorem dX7_cuttableCount_34 : decode cX7_cuttableCount 34 = .ok (.iinc 1 1, 3) := by decide +kernel
theorem dX7_cuttableCount_37 : decode cX7_cuttableCount 37 = .ok (.iinc 2 1, 3) := by decide +kernel
theorem dX7_cuttableCount_40 : decode cX7_cuttableCount 40 = .ok (.goto (-36), 3) := by decide +kernel
theorem dX7_cuttableCount_43 : decode cX7_cuttableCount 43 = .ok (.iload_n 1, 1) := by decide +kernel
theorem dX7_cuttableCount_44 : decode cX7_cuttableCount 44 = .ok (.ireturn, 1) := by decide +kernel
theorem dX7_neighbourCount_0 : decode cX7_neighbourCount 0 = .ok (.aload_n 0, 1) := by decide +kernel
theorem dX7_neighbourCount_1 : decode cX7_neighbourCount 1 = .ok (.getfield 35, 3) := by decide +kernel
theorem dX7_neighbourCount_4 : decode cX7_neighbourCount 4 = .ok (.iload_n 1, 1) := by decide +kernel
theorem dX7_neighbourCount_5 : decode cX7_neighbourCount 5 = .ok (.invokevirtual 142, 3) := by decide +kernel
theorem dX7_neighbourCount_8 : decode cX7_neighbourCount 8 = .ok (.ifCond .ne 5, 3) := by decide +kernel
theorem dX7_neighbourCount_11 : decode cX7_neighbourCount 11 = .ok (.iconst (-1), 1) := by decide +kernel
theorem dX7_neighbourCount_12 : decode cX7_neighbourCount 12 = .ok (.ireturn, 1) := by decide +kernel
theorem dX7_neighbourCount_13 : decode cX7_neighbourCount 13 = .ok (.aload_n 0, 1) := by decide +kernel
theorem dX7_neighbourCount_14 : decode cX7_neighbourCount 14 = .ok (.getfield 35, 3) := by decide +kernel
theorem dX7_neighbourCount_17 : decode cX7_neighbourCount 17 = .ok (.getfield 163, 3) := by decide +kernel
theorem dX7_neighbourCount_20 : decode cX7_neighbourCount 20 = .ok (.iload_n 1, 1) := by decide +kernel
theorem dX7_neighbourCount_21 : decode cX7_neighbourCount 21 = .ok (.laload, 1) := by decide +kernel
theorem dX7_neighbourCount_22 : decode cX7_neighbourCount 22 = .ok (.invokestatic 124, 3) := by decide +kernel
theorem dX7_neighbourCount_25 : decode cX7_neighbourCount 25 = .ok (.ireturn, 1) := by decide +kernel
theorem dX7_leadLength_0 : decode cX7_leadLength 0 = .ok (.aload_n 0, 1) := by decide +kernel
theorem dX7_leadLength_1 : decode cX7_leadLength 1 = .ok (.getfield 35, 3) := by decide +kernel
theorem dX7_leadLength_4 : decode cX7_leadLength 4 = .ok (.invokevirtual 166, 3) := by decide +kernel
theorem dX7_leadLength_7 : decode cX7_leadLength 7 = .ok (.ireturn, 1) := by decide +kernel
theorem dX7_setCellLimit_0 : decode cX7_setCellLimit 0 = .ok (.iload_n 1, 1) := by decide +kernel
theorem dX7_setCellLimit_1 : decode cX7_setCellLimit 1 = .ok (.iconst 1, 1) := by decide +kernel
theorem dX7_setCellLimit_2 : decode cX7_setCellLimit 2 = .ok (.if_icmp .lt 9, 3) := by decide +kernel
theorem dX7_setCellLimit_5 : decode cX7_setCellLimit 5 = .ok (.iload_n 1, 1) := by decide +kernel
theorem dX7_setCellLimit_6 : decode cX7_setCellLimit 6 = .ok (.bipush 49, 2) := by decide +kernel
theorem dX7_setCellLimit_8 : decode cX7_setCellLimit 8 = .ok (.if_icmp .le 5, 3) := by decide +kernel
theorem dX7_setCellLimit_11 : decode cX7_setCellLimit 11 = .ok (.iconst (-1), 1) := by decide +kernel
theorem dX7_setCellLimit_12 : decode cX7_setCellLimit 12 = .ok (.ireturn, 1) := by decide +kernel
theorem dX7_setCellLimit_13 : decode cX7_setCellLimit 13 = .ok (.aload_n 0, 1) := by decide +kernel
theorem dX7_setCellLimit_14 : decode cX7_setCellLimit 14 = .ok (.getfield 19, 3) := by decide +kernel
theorem dX7_setCellLimit_17 : decode cX7_setCellLimit 17 = .ok (.getfield 169, 3) := by decide +kernel
theorem dX7_setCellLimit_20 : decode cX7_setCellLimit 20 = .ok (.istore_n 2, 1) := by decide +kernel
theorem dX7_setCellLimit_21 : decode cX7_setCellLimit 21 = .ok (.aload_n 0, 1) := by decide +kernel
theorem dX7_setCellLimit_22 : decode cX7_setCellLimit 22 = .ok (.getfield 26, 3) := by decide +kernel
theorem dX7_setCellLimit_25 : decode cX7_setCellLimit 25 = .ok (.aload_n 0, 1) := by decide +kernel
theorem dX7_setCellLimit_26 : decode cX7_setCellLimit 26 = .ok (.getfield 19, 3) := by decide +kernel
theorem dX7_setCellLimit_29 : decode cX7_setCellLimit 29 = .ok (.invokevirtual 70, 3) := by decide +kernel
theorem dX7_setCellLimit_32 : decode cX7_setCellLimit 32 = .ok (.aload_n 0, 1) := by decide +kernel
theorem dX7_setCellLimit_33 : decode cX7_setCellLimit 33 = .ok (.getfield 19, 3) := by decide +kernel
theorem dX7_setCellLimit_36 : decode cX7_setCellLimit 36 = .ok (.iload_n 1, 1) := by decide +kernel
theorem dX7_setCellLimit_37 : decode cX7_setCellLimit 37 = .ok (.putfield 169, 3) := by decide +kernel
theorem dX7_setCellLimit_40 : decode cX7_setCellLimit 40 = .ok (.aload_n 0, 1) := by decide +kernel
theorem dX7_setCellLimit_41 : decode cX7_setCellLimit 41 = .ok (.invokevirtual 83, 3) := by decide +kernel
theorem dX7_setCellLimit_44 : decode cX7_setCellLimit 44 = .ok (.iload_n 2, 1) := by decide +kernel
theorem dX7_setCellLimit_45 : decode cX7_setCellLimit 45 = .ok (.ireturn, 1) := by decide +kernel
theorem dX7_setCornerLimit_0 : decode cX7_setCornerLimit 0 = .ok (.iload_n 1, 1) := by decide +kernel
theorem dX7_setCornerLimit_1 : decode cX7_setCornerLimit 1 = .ok (.ifCond .lt 9, 3) := by decide +kernel
theorem dX7_setCornerLimit_4 : decode cX7_setCornerLimit 4 = .ok (.iload_n 1, 1) := by decide +kernel
theorem dX7_setCornerLimit_5 : decode cX7_setCornerLimit 5 = .ok (.bipush 8, 2) := by decide +kernel
theorem dX7_setCornerLimit_7 : decode cX7_setCornerLimit 7 = .ok (.if_icmp .le 5, 3) := by decide +kernel
theorem dX7_setCornerLimit_10 : decode cX7_setCornerLimit 10 = .ok (.iconst (-1), 1) := by decide +kernel
theorem dX7_setCornerLimit_11 : decode cX7_setCornerLimit 11 = .ok (.ireturn, 1) := by decide +kernel
theorem dX7_setCornerLimit_12 : decode cX7_setCornerLimit 12 = .ok (.aload_n 0, 1) := by decide +kernel
theorem dX7_setCornerLimit_13 : decode cX7_setCornerLimit 13 = .ok (.getfield 19, 3) := by decide +kernel
theorem dX7_setCornerLimit_16 : decode cX7_setCornerLimit 16 = .ok (.getfield 172, 3) := by decide +kernel
theorem dX7_setCornerLimit_19 : decode cX7_setCornerLimit 19 = .ok (.istore_n 2, 1) := by decide +kernel
theorem dX7_setCornerLimit_20 : decode cX7_setCornerLimit 20 = .ok (.aload_n 0, 1) := by decide +kernel
theorem dX7_setCornerLimit_21 : decode cX7_setCornerLimit 21 = .ok (.getfield 26, 3) := by decide +kernel
theorem dX7_setCornerLimit_24 : decode cX7_setCornerLimit 24 = .ok (.aload_n 0, 1) := by decide +kernel
theorem dX7_setCornerLimit_25 : decode cX7_setCornerLimit 25 = .ok (.getfield 19, 3) := by decide +kernel
theorem dX7_setCornerLimit_28 : decode cX7_setCornerLimit 28 = .ok (.invokevirtual 70, 3) := by decide +kernel
theorem dX7_setCornerLimit_31 : decode cX7_setCornerLimit 31 = .ok (.aload_n 0, 1) := by decide +kernel
theorem dX7_setCornerLimit_32 : decode cX7_setCornerLimit 32 = .ok (.getfield 19, 3) := by decide +kernel
theorem dX7_setCornerLimit_35 : decode cX7_setCornerLimit 35 = .ok (.iload_n 1, 1) := by decide +kernel
theorem dX7_setCornerLimit_36 : decode cX7_setCornerLimit 36 = .ok (.putfield 172, 3) := by decide +kernel
theorem dX7_setCornerLimit_39 : decode cX7_setCornerLimit 39 = .ok (.aload_n 0, 1) := by decide +kernel
theorem dX7_setCornerLimit_40 : decode cX7_setCornerLimit 40 = .ok (.invokevirtual 83, 3) := by decide +kernel
theorem dX7_setCornerLimit_43 : decode cX7_setCornerLimit 43 = .ok (.iload_n 2, 1) := by decide +kernel
theorem dX7_setCornerLimit_44 : decode cX7_setCornerLimit 44 = .ok (.ireturn, 1) := by decide +kernel
theorem dX7_splitPieces_0 : decode cX7_splitPieces 0 = .ok (.aload_n 0, 1) := by decide +kernel
theorem dX7_splitPieces_1 : decode cX7_splitPieces 1 = .ok (.getfield 35, 3) := by decide +kernel
theorem dX7_splitPieces_4 : decode cX7_splitPieces 4 = .ok (.iload_n 1, 1) := by decide +kernel
theorem dX7_splitPieces_5 : decode cX7_splitPieces 5 = .ok (.invokevirtual 142, 3) := by decide +kernel
theorem dX7_splitPieces_8 : decode cX7_splitPieces 8 = .ok (.ifCond .ne 5, 3) := by decide +kernel
theorem dX7_splitPieces_11 : decode cX7_splitPieces 11 = .ok (.iconst (-1), 1) := by decide +kernel
theorem dX7_splitPieces_12 : decode cX7_splitPieces 12 = .ok (.ireturn, 1) := by decide +kernel
theorem dX7_splitPieces_13 : decode cX7_splitPieces 13 = .ok (.aload_n 0, 1) := by decide +kernel
theorem dX7_splitPieces_14 : decode cX7_splitPieces 14 = .ok (.getfield 44, 3) := by decide +kernel
theorem dX7_splitPieces_17 : decode cX7_splitPieces 17 = .ok (.iload_n 1, 1) := by decide +kernel
theorem dX7_splitPieces_18 : decode cX7_splitPieces 18 = .ok (.invokevirtual 175, 3) := by decide +kernel
theorem dX7_splitPieces_21 : decode cX7_splitPieces 21 = .ok (.aload_n 0, 1) := by decide +kernel
theorem dX7_splitPieces_22 : decode cX7_splitPieces 22 = .ok (.getfield 44, 3) := by decide +kernel
theorem dX7_splitPieces_25 : decode cX7_splitPieces 25 = .ok (.invokevirtual 179, 3) := by decide +kernel
theorem dX7_splitPieces_28 : decode cX7_splitPieces 28 = .ok (.ireturn, 1) := by decide +kernel
theorem dX7_splitLead_0 : decode cX7_splitLead 0 = .ok (.aload_n 0, 1) := by decide +kernel
theorem dX7_splitLead_1 : decode cX7_splitLead 1 = .ok (.getfield 35, 3) := by decide +kernel
theorem dX7_splitLead_4 : decode cX7_splitLead 4 = .ok (.iload_n 1, 1) := by decide +kernel
theorem dX7_splitLead_5 : decode cX7_splitLead 5 = .ok (.invokevirtual 142, 3) := by decide +kernel
theorem dX7_splitLead_8 : decode cX7_splitLead 8 = .ok (.ifCond .ne 5, 3) := by decide +kernel
theorem dX7_splitLead_11 : decode cX7_splitLead 11 = .ok (.iconst (-1), 1) := by decide +kernel
theorem dX7_splitLead_12 : decode cX7_splitLead 12 = .ok (.ireturn, 1) := by decide +kernel
theorem dX7_splitLead_13 : decode cX7_splitLead 13 = .ok (.aload_n 0, 1) := by decide +kernel
theorem dX7_splitLead_14 : decode cX7_splitLead 14 = .ok (.getfield 44, 3) := by decide +kernel
theorem dX7_splitLead_17 : decode cX7_splitLead 17 = .ok (.iload_n 1, 1) := by decide +kernel
theorem dX7_splitLead_18 : decode cX7_splitLead 18 = .ok (.invokevirtual 175, 3) := by decide +kernel
theorem dX7_splitLead_21 : decode cX7_splitLead 21 = .ok (.aload_n 0, 1) := by decide +kernel
theorem dX7_splitLead_22 : decode cX7_splitLead 22 = .ok (.getfield 44, 3) := by decide +kernel
theorem dX7_splitLead_25 : decode cX7_splitLead 25 = .ok (.invokevirtual 182, 3) := by decide +kernel
theorem dX7_splitLead_28 : decode cX7_splitLead 28 = .ok (.ireturn, 1) := by decide +kernel
theorem dX7_applySplit_0 : decode cX7_applySplit 0 = .ok (.aload_n 0, 1) := by decide +kernel
theorem dX7_applySplit_1 : decode cX7_applySplit 1 = .ok (.getfield 35, 3) := by decide +kernel
theorem dX7_applySplit_4 : decode cX7_applySplit 4 = .ok (.iload_n 1, 1) := by decide +kernel
theorem dX7_applySplit_5 : decode cX7_applySplit 5 = .ok (.invokevirtual 142, 3) := by decide +kernel
theorem dX7_applySplit_8 : decode cX7_applySplit 8 = .ok (.ifCond .ne 5, 3) := by decide +kernel
theorem dX7_applySplit_11 : decode cX7_applySplit 11 = .ok (.iconst (-1), 1) := by decide +kernel
theorem dX7_applySplit_12 : decode cX7_applySplit 12 = .ok (.ireturn, 1) := by decide +kernel
theorem dX7_applySplit_13 : decode cX7_applySplit 13 = .ok (.aload_n 0, 1) := by decide +kernel
theorem dX7_applySplit_14 : decode cX7_applySplit 14 = .ok (.getfield 35, 3) := by decide +kernel
theorem dX7_applySplit_17 : decode cX7_applySplit 17 = .ok (.aload_n 0, 1) := by decide +kernel
theorem dX7_applySplit_18 : decode cX7_applySplit 18 = .ok (.getfield 35, 3) := by decide +kernel
theorem dX7_applySplit_21 : decode cX7_applySplit 21 = .ok (.getfield 145, 3) := by decide +kernel
theorem dX7_applySplit_24 : decode cX7_applySplit 24 = .ok (.iload_n 1, 1) := by decide +kernel
theorem dX7_applySplit_25 : decode cX7_applySplit 25 = .ok (.laload, 1) := by decide +kernel
theorem dX7_applySplit_26 : decode cX7_applySplit 26 = .ok (.invokevirtual 159, 3) := by decide +kernel
theorem dX7_applySplit_29 : decode cX7_applySplit 29 = .ok (.ifCond .eq 6, 3) := by decide +kernel
theorem dX7_applySplit_32 : decode cX7_applySplit 32 = .ok (.bipush (-2), 2) := by decide +kernel
theorem dX7_applySplit_34 : decode cX7_applySplit 34 = .ok (.ireturn, 1) := by decide +kernel
theorem dX7_applySplit_35 : decode cX7_applySplit 35 = .ok (.aload_n 0, 1) := by decide +kernel
theorem dX7_applySplit_36 : decode cX7_applySplit 36 = .ok (.getfield 44, 3) := by decide +kernel
theorem dX7_applySplit_39 : decode cX7_applySplit 39 = .ok (.iload_n 1, 1) := by decide +kernel
theorem dX7_applySplit_40 : decode cX7_applySplit 40 = .ok (.invokevirtual 175, 3) := by decide +kernel
theorem dX7_applySplit_43 : decode cX7_applySplit 43 = .ok (.aload_n 0, 1) := by decide +kernel
theorem dX7_applySplit_44 : decode cX7_applySplit 44 = .ok (.getfield 26, 3) := by decide +kernel
theorem dX7_applySplit_47 : decode cX7_applySplit 47 = .ok (.aload_n 0, 1) := by decide +kernel
theorem dX7_applySplit_48 : decode cX7_applySplit 48 = .ok (.getfield 19, 3) := by decide +kernel
theorem dX7_applySplit_51 : decode cX7_applySplit 51 = .ok (.invokevirtual 70, 3) := by decide +kernel
theorem dX7_applySplit_54 : decode cX7_applySplit 54 = .ok (.aload_n 0, 1) := by decide +kernel
theorem dX7_applySplit_55 : decode cX7_applySplit 55 = .ok (.getfield 44, 3) := by decide +kernel
theorem dX7_applySplit_58 : decode cX7_applySplit 58 = .ok (.aload_n 0, 1) := by decide +kernel
theorem dX7_applySplit_59 : decode cX7_applySplit 59 = .ok (.getfield 19, 3) := by decide +kernel
theorem dX7_applySplit_62 : decode cX7_applySplit 62 = .ok (.invokevirtual 185, 3) := by decide +kernel
theorem dX7_applySplit_65 : decode cX7_applySplit 65 = .ok (.aload_n 0, 1) := by decide +kernel
theorem dX7_applySplit_66 : decode cX7_applySplit 66 = .ok (.invokevirtual 83, 3) := by decide +kernel
theorem dX7_applySplit_69 : decode cX7_applySplit 69 = .ok (.aload_n 0, 1) := by decide +kernel
theorem dX7_applySplit_70 : decode cX7_applySplit 70 = .ok (.getfield 35, 3) := by decide +kernel
theorem dX7_applySplit_73 : decode cX7_applySplit 73 = .ok (.getfield 86, 3) := by decide +kernel
theorem dX7_applySplit_76 : decode cX7_applySplit 76 = .ok (.ireturn, 1) := by decide +kernel
theorem dX7_equalNeighbours_0 : decode cX7_equalNeighbours 0 = .ok (.aload_n 0, 1) := by decide +kernel
theorem dX7_equalNeighbours_1 : decode cX7_equalNeighbours 1 = .ok (.getfield 35, 3) := by decide +kernel
theorem dX7_equalNeighbours_4 : decode cX7_equalNeighbours 4 = .ok (.invokevirtual 188, 3) := by decide +kernel
theorem dX7_equalNeighbours_7 : decode cX7_equalNeighbours 7 = .ok (.ireturn, 1) := by decide +kernel
theorem dX7_colourCount_0 : decode cX7_colourCount 0 = .ok (.aload_n 0, 1) := by decide +kernel
theorem dX7_colourCount_1 : decode cX7_colourCount 1 = .ok (.getfield 51, 3) := by decide +kernel
theorem dX7_colourCount_4 : decode cX7_colourCount 4 = .ok (.iload_n 1, 1) := by decide +kernel
theorem dX7_colourCount_5 : decode cX7_colourCount 5 = .ok (.invokevirtual 191, 3) := by decide +kernel
theorem dX7_colourCount_8 : decode cX7_colourCount 8 = .ok (.ifCond .ne 5, 3) := by decide +kernel
theorem dX7_colourCount_11 : decode cX7_colourCount 11 = .ok (.iconst (-1), 1) := by decide +kernel
theorem dX7_colourCount_12 : decode cX7_colourCount 12 = .ok (.ireturn, 1) := by decide +kernel
theorem dX7_colourCount_13 : decode cX7_colourCount 13 = .ok (.aload_n 0, 1) := by decide +kernel
theorem dX7_colourCount_14 : decode cX7_colourCount 14 = .ok (.getfield 51, 3) := by decide +kernel
theorem dX7_colourCount_17 : decode cX7_colourCount 17 = .ok (.iload_n 1, 1) := by decide +kernel
theorem dX7_colourCount_18 : decode cX7_colourCount 18 = .ok (.invokevirtual 194, 3) := by decide +kernel
theorem dX7_colourCount_21 : decode cX7_colourCount 21 = .ok (.ireturn, 1) := by decide +kernel
theorem dX7_suggestedColour_0 : decode cX7_suggestedColour 0 = .ok (.aload_n 0, 1) := by decide +kernel
theorem dX7_suggestedColour_1 : decode cX7_suggestedColour 1 = .ok (.getfield 51, 3) := by decide +kernel
theorem dX7_suggestedColour_4 : decode cX7_suggestedColour 4 = .ok (.iload_n 1, 1) := by decide +kernel
theorem dX7_suggestedColour_5 : decode cX7_suggestedColour 5 = .ok (.invokevirtual 191, 3) := by decide +kernel
theorem dX7_suggestedColour_8 : decode cX7_suggestedColour 8 = .ok (.ifCond .eq 14, 3) := by decide +kernel
theorem dX7_suggestedColour_11 : decode cX7_suggestedColour 11 = .ok (.aload_n 0, 1) := by decide +kernel
theorem dX7_suggestedColour_12 : decode cX7_suggestedColour 12 = .ok (.getfield 35, 3) := by decide +kernel
theorem dX7_suggestedColour_15 : decode cX7_suggestedColour 15 = .ok (.iload_n 2, 1) := by decide +kernel
theorem dX7_suggestedColour_16 : decode cX7_suggestedColour 16 = .ok (.invokevirtual 142, 3) := by decide +kernel
theorem dX7_suggestedColour_19 : decode cX7_suggestedColour 19 = .ok (.ifCond .ne 5, 3) := by decide +kernel
theorem dX7_suggestedColour_22 : decode cX7_suggestedColour 22 = .ok (.iconst (-1), 1) := by decide +kernel
theorem dX7_suggestedColour_23 : decode cX7_suggestedColour 23 = .ok (.ireturn, 1) := by decide +kernel
theorem dX7_suggestedColour_24 : decode cX7_suggestedColour 24 = .ok (.aload_n 0, 1) := by decide +kernel
theorem dX7_suggestedColour_25 : decode cX7_suggestedColour 25 = .ok (.getfield 51, 3) := by decide +kernel
theorem dX7_suggestedColour_28 : decode cX7_suggestedColour 28 = .ok (.iload_n 1, 1) := by decide +kernel
theorem dX7_suggestedColour_29 : decode cX7_suggestedColour 29 = .ok (.invokevirtual 194, 3) := by decide +kernel
theorem dX7_suggestedColour_32 : decode cX7_suggestedColour 32 = .ok (.pop, 1) := by decide +kernel
theorem dX7_suggestedColour_33 : decode cX7_suggestedColour 33 = .ok (.aload_n 0, 1) := by decide +kernel
theorem dX7_suggestedColour_34 : decode cX7_suggestedColour 34 = .ok (.getfield 51, 3) := by decide +kernel
theorem dX7_suggestedColour_37 : decode cX7_suggestedColour 37 = .ok (.getfield 198, 3) := by decide +kernel
theorem dX7_suggestedColour_40 : decode cX7_suggestedColour 40 = .ok (.iload_n 2, 1) := by decide +kernel
theorem dX7_suggestedColour_41 : decode cX7_suggestedColour 41 = .ok (.iaload, 1) := by decide +kernel
theorem dX7_suggestedColour_42 : decode cX7_suggestedColour 42 = .ok (.ireturn, 1) := by decide +kernel
theorem dX7_bestOrder_0 : decode cX7_bestOrder 0 = .ok (.iconst 0, 1) := by decide +kernel
theorem dX7_bestOrder_1 : decode cX7_bestOrder 1 = .ok (.istore_n 1, 1) := by decide +kernel
theorem dX7_bestOrder_2 : decode cX7_bestOrder 2 = .ok (.aload_n 0, 1) := by decide +kernel
theorem dX7_bestOrder_3 : decode cX7_bestOrder 3 = .ok (.getfield 51, 3) := by decide +kernel
theorem dX7_bestOrder_6 : decode cX7_bestOrder 6 = .ok (.iconst 0, 1) := by decide +kernel
theorem dX7_bestOrder_7 : decode cX7_bestOrder 7 = .ok (.invokevirtual 194, 3) := by decide +kernel
theorem dX7_bestOrder_10 : decode cX7_bestOrder 10 = .ok (.istore_n 2, 1) := by decide +kernel
theorem dX7_bestOrder_11 : decode cX7_bestOrder 11 = .ok (.iconst 1, 1) := by decide +kernel
theorem dX7_bestOrder_12 : decode cX7_bestOrder 12 = .ok (.istore_n 3, 1) := by decide +kernel
theorem dX7_bestOrder_13 : decode cX7_bestOrder 13 = .ok (.iload_n 3, 1) := by decide +kernel
theorem dX7_bestOrder_14 : decode cX7_bestOrder 14 = .ok (.iconst 3, 1) := by decide +kernel
theorem dX7_bestOrder_15 : decode cX7_bestOrder 15 = .ok (.if_icmp .ge 30, 3) := by decide +kernel
theorem dX7_bestOrder_18 : decode cX7_bestOrder 18 = .ok (.aload_n 0, 1) := by decide +kernel
theorem dX7_bestOrder_19 : decode cX7_bestOrder 19 = .ok (.getfield 51, 3) := by decide +kernel
theorem dX7_bestOrder_22 : decode cX7_bestOrder 22 = .ok (.iload_n 3, 1) := by decide +kernel
theorem dX7_bestOrder_23 : decode cX7_bestOrder 23 = .ok (.invokevirtual 194, 3) := by decide +kernel
theorem dX7_bestOrder_26 : decode cX7_bestOrder 26 = .ok (.istore 4, 2) := by decide +kernel
theorem dX7_bestOrder_28 : decode cX7_bestOrder 28 = .ok (.iload 4, 2) := by decide +kernel
theorem dX7_bestOrder_30 : decode cX7_bestOrder 30 = .ok (.iload_n 2, 1) := by decide +kernel
theorem dX7_bestOrder_31 : decode cX7_bestOrder 31 = .ok (.if_icmp .ge 8, 3) := by decide +kernel
theorem dX7_bestOrder_34 : decode cX7_bestOrder 34 = .ok (.iload 4, 2) := by decide +kernel
theorem dX7_bestOrder_36 : decode cX7_bestOrder 36 = .ok (.istore_n 2, 1) := by decide +kernel
theorem dX7_bestOrder_37 : decode cX7_bestOrder 37 = .ok (.iload_n 3, 1) := by decide +kernel
theorem dX7_bestOrder_38 : decode cX7_bestOrder 38 = .ok (.istore_n 1, 1) := by decide +kernel
theorem dX7_bestOrder_39 : decode cX7_bestOrder 39 = .ok (.iinc 3 1, 3) := by decide +kernel
theorem dX7_bestOrder_42 : decode cX7_bestOrder 42 = .ok (.goto (-29), 3) := by decide +kernel
theorem dX7_bestOrder_45 : decode cX7_bestOrder 45 = .ok (.iload_n 1, 1) := by decide +kernel
theorem dX7_bestOrder_46 : decode cX7_bestOrder 46 = .ok (.ireturn, 1) := by decide +kernel
theorem dX7_largestClique_0 : decode cX7_largestClique 0 = .ok (.aload_n 0, 1) := by decide +kernel
theorem dX7_largestClique_1 : decode cX7_largestClique 1 = .ok (.getfield 35, 3) := by decide +kernel
theorem dX7_largestClique_4 : decode cX7_largestClique 4 = .ok (.invokevirtual 201, 3) := by decide +kernel
theorem dX7_largestClique_7 : decode cX7_largestClique 7 = .ok (.ireturn, 1) := by decide +kernel
theorem dX7_undo_0 : decode cX7_undo 0 = .ok (.aload_n 0, 1) := by decide +kernel
theorem dX7_undo_1 : decode cX7_undo 1 = .ok (.getfield 26, 3) := by decide +kernel
theorem dX7_undo_4 : decode cX7_undo 4 = .ok (.getfield 204, 3) := by decide +kernel
theorem dX7_undo_7 : decode cX7_undo 7 = .ok (.ifCond .ne 6, 3) := by decide +kernel
theorem dX7_undo_10 : decode cX7_undo 10 = .ok (.bipush (-2), 2) := by decide +kernel
theorem dX7_undo_12 : decode cX7_undo 12 = .ok (.ireturn, 1) := by decide +kernel
theorem dX7_undo_13 : decode cX7_undo 13 = .ok (.aload_n 0, 1) := by decide +kernel
theorem dX7_undo_14 : decode cX7_undo 14 = .ok (.getfield 26, 3) := by decide +kernel
theorem dX7_undo_17 : decode cX7_undo 17 = .ok (.aload_n 0, 1) := by decide +kernel
theorem dX7_undo_18 : decode cX7_undo 18 = .ok (.getfield 19, 3) := by decide +kernel
theorem dX7_undo_21 : decode cX7_undo 21 = .ok (.invokevirtual 205, 3) := by decide +kernel
theorem dX7_undo_24 : decode cX7_undo 24 = .ok (.aload_n 0, 1) := by decide +kernel
theorem dX7_undo_25 : decode cX7_undo 25 = .ok (.invokevirtual 83, 3) := by decide +kernel
theorem dX7_undo_28 : decode cX7_undo 28 = .ok (.aload_n 0, 1) := by decide +kernel
theorem dX7_undo_29 : decode cX7_undo 29 = .ok (.getfield 26, 3) := by decide +kernel
theorem dX7_undo_32 : decode cX7_undo 32 = .ok (.getfield 204, 3) := by decide +kernel
theorem dX7_undo_35 : decode cX7_undo 35 = .ok (.ireturn, 1) := by decide +kernel
theorem dX7_flipCut_0 : decode cX7_flipCut 0 = .ok (.aload_n 0, 1) := by decide +kernel
theorem dX7_flipCut_1 : decode cX7_flipCut 1 = .ok (.getfield 26, 3) := by decide +kernel
theorem dX7_flipCut_4 : decode cX7_flipCut 4 = .ok (.aload_n 0, 1) := by decide +kernel
theorem dX7_flipCut_5 : decode cX7_flipCut 5 = .ok (.getfield 19, 3) := by decide +kernel
theorem dX7_flipCut_8 : decode cX7_flipCut 8 = .ok (.invokevirtual 70, 3) := by decide +kernel
theorem dX7_flipCut_11 : decode cX7_flipCut 11 = .ok (.aload_n 0, 1) := by decide +kernel
theorem dX7_flipCut_12 : decode cX7_flipCut 12 = .ok (.getfield 19, 3) := by decide +kernel
theorem dX7_flipCut_15 : decode cX7_flipCut 15 = .ok (.iload_n 1, 1) := by decide +kernel
theorem dX7_flipCut_16 : decode cX7_flipCut 16 = .ok (.iload_n 2, 1) := by decide +kernel
theorem dX7_flipCut_17 : decode cX7_flipCut 17 = .ok (.iload_n 3, 1) := by decide +kernel
theorem dX7_flipCut_18 : decode cX7_flipCut 18 = .ok (.invokevirtual 208, 3) := by decide +kernel
theorem dX7_flipCut_21 : decode cX7_flipCut 21 = .ok (.aload_n 0, 1) := by decide +kernel
theorem dX7_flipCut_22 : decode cX7_flipCut 22 = .ok (.invokevirtual 83, 3) := by decide +kernel
theorem dX7_flipCut_25 : decode cX7_flipCut 25 = .ok (.aload_n 0, 1) := by decide +kernel
theorem dX7_flipCut_26 : decode cX7_flipCut 26 = .ok (.getfield 19, 3) := by decide +kernel
theorem dX7_flipCut_29 : decode cX7_flipCut 29 = .ok (.invokevirtual 212, 3) := by decide +kernel
theorem dX7_flipCut_32 : decode cX7_flipCut 32 = .ok (.ireturn, 1) := by decide +kernel
theorem dX7_refresh_0 : decode cX7_refresh 0 = .ok (.aload_n 0, 1) := by decide +kernel
theorem dX7_refresh_1 : decode cX7_refresh 1 = .ok (.getfield 35, 3) := by decide +kernel
theorem dX7_refresh_4 : decode cX7_refresh 4 = .ok (.invokevirtual 55, 3) := by decide +kernel
theorem dX7_refresh_7 : decode cX7_refresh 7 = .ok (.aload_n 0, 1) := by decide +kernel
theorem dX7_refresh_8 : decode cX7_refresh 8 = .ok (.getfield 44, 3) := by decide +kernel
theorem dX7_refresh_11 : decode cX7_refresh 11 = .ok (.invokevirtual 215, 3) := by decide +kernel
theorem dX7_refresh_14 : decode cX7_refresh 14 = .ok (.return_, 1) := by decide +kernel
theorem dX8_init_0 : decode cX8_init 0 = .ok (.aload_n 0, 1) := by decide +kernel
theorem dX8_init_1 : decode cX8_init 1 = .ok (.invokespecial 1, 3) := by decide +kernel
theorem dX8_init_4 : decode cX8_init 4 = .ok (.aload_n 0, 1) := by decide +kernel
theorem dX8_init_5 : decode cX8_init 5 = .ok (.sipush 151, 3) := by decide +kernel
theorem dX8_init_8 : decode cX8_init 8 = .ok (.newarray .int, 2) := by decide +kernel
theorem dX8_init_10 : decode cX8_init 10 = .ok (.putfield 7, 3) := by decide +kernel
theorem dX8_init_13 : decode cX8_init 13 = .ok (.aload_n 0, 1) := by decide +kernel
theorem dX8_init_14 : decode cX8_init 14 = .ok (.sipush 1208, 3) := by decide +kernel
theorem dX8_init_17 : decode cX8_init 17 = .ok (.newarray .int, 2) := by decide +kernel
theorem dX8_init_19 : decode cX8_init 19 = .ok (.putfield 13, 3) := by decide +kernel
theorem dX8_init_22 : decode cX8_init 22 = .ok (.aload_n 0, 1) := by decide +kernel
theorem dX8_init_23 : decode cX8_init 23 = .ok (.bipush 80, 2) := by decide +kernel
theorem dX8_init_25 : decode cX8_init 25 = .ok (.newarray .int, 2) := by decide +kernel
theorem dX8_init_27 : decode cX8_init 27 = .ok (.putfield 16, 3) := by decide +kernel
theorem dX8_init_30 : decode cX8_init 30 = .ok (.aload_n 0, 1) := by decide +kernel
theorem dX8_init_31 : decode cX8_init 31 = .ok (.bipush 49, 2) := by decide +kernel
theorem dX8_init_33 : decode cX8_init 33 = .ok (.newarray .int, 2) := by decide +kernel
theorem dX8_init_35 : decode cX8_init 35 = .ok (.putfield 19, 3) := by decide +kernel
theorem dX8_init_38 : decode cX8_init 38 = .ok (.aload_n 0, 1) := by decide +kernel
theorem dX8_init_39 : decode cX8_init 39 = .ok (.bipush 49, 2) := by decide +kernel
theorem dX8_init_41 : decode cX8_init 41 = .ok (.newarray .int, 2) := by decide +kernel
theorem dX8_init_43 : decode cX8_init 43 = .ok (.putfield 22, 3) := by decide +kernel
theorem dX8_init_46 : decode cX8_init 46 = .ok (.aload_n 0, 1) := by decide +kernel
theorem dX8_init_47 : decode cX8_init 47 = .ok (.bipush 49, 2) := by decide +kernel
theorem dX8_init_49 : decode cX8_init 49 = .ok (.newarray .int, 2) := by decide +kernel
theorem dX8_init_51 : decode cX8_init 51 = .ok (.putfield 25, 3) := by decide +kernel
theorem dX8_init_54 : decode cX8_init 54 = .ok (.aload_n 0, 1) := by decide +kernel
theorem dX8_init_55 : decode cX8_init 55 = .ok (.bipush 49, 2) := by decide +kernel
theorem dX8_init_57 : decode cX8_init 57 = .ok (.newarray .int, 2) := by decide +kernel
theorem dX8_init_59 : decode cX8_init 59 = .ok (.putfield 28, 3) := by decide +kernel
theorem dX8_init_62 : decode cX8_init 62 = .ok (.aload_n 0, 1) := by decide +kernel
theorem dX8_init_63 : decode cX8_init 63 = .ok (.bipush 49, 2) := by decide +kernel
theorem dX8_init_65 : decode cX8_init 65 = .ok (.newarray .int, 2) := by decide +kernel
theorem dX8_init_67 : decode cX8_init 67 = .ok (.putfield 31, 3) := by decide +kernel
theorem dX8_init_70 : decode cX8_init 70 = .ok (.aload_n 0, 1) := by decide +kernel
theorem dX8_init_71 : decode cX8_init 71 = .ok (.bipush 49, 2) := by decide +kernel
theorem dX8_init_73 : decode cX8_init 73 = .ok (.newarray .boolean, 2) := by decide +kernel
theorem dX8_init_75 : decode cX8_init 75 = .ok (.putfield 34, 3) := by decide +kernel
theorem dX8_init_78 : decode cX8_init 78 = .ok (.aload_n 0, 1) := by decide +kernel
theorem dX8_init_79 : decode cX8_init 79 = .ok (.sipush 2401, 3) := by decide +kernel
theorem dX8_init_82 : decode cX8_init 82 = .ok (.newarray .boolean, 2) := by decide +kernel
theorem dX8_init_84 : decode cX8_init 84 = .ok (.putfield 38, 3) := by decide +kernel
theorem dX8_init_87 : decode cX8_init 87 = .ok (.aload_n 0, 1) := by decide +kernel
theorem dX8_init_88 : decode cX8_init 88 = .ok (.bipush 49, 2) := by decide +kernel
theorem dX8_init_90 : decode cX8_init 90 = .ok (.newarray .int, 2) := by decide +kernel
theorem dX8_init_92 : decode cX8_init 92 = .ok (.putfield 41, 3) := by decide +kernel
theorem dX8_init_95 : decode cX8_init 95 = .ok (.aload_n 0, 1) := by decide +kernel
theorem dX8_init_96 : decode cX8_init 96 = .ok (.sipush 2401, 3) := by decide +kernel
theorem dX8_init_99 : decode cX8_init 99 = .ok (.newarray .int, 2) := by decide +kernel
theorem dX8_init_101 : decode cX8_init 101 = .ok (.putfield 44, 3) := by decide +kernel
theorem dX8_init_104 : decode cX8_init 104 = .ok (.aload_n 0, 1) := by decide +kernel
theorem dX8_init_105 : decode cX8_init 105 = .ok (.sipush 2401, 3) := by decide +kernel
theorem dX8_init_108 : decode cX8_init 108 = .ok (.newarray .int, 2) := by decide +kernel
theorem dX8_init_110 : decode cX8_init 110 = .ok (.putfield 47, 3) := by decide +kernel
theorem dX8_init_113 : decode cX8_init 113 = .ok (.aload_n 0, 1) := by decide +kernel
theorem dX8_init_114 : decode cX8_init 114 = .ok (.sipush 2401, 3) := by decide +kernel
theorem dX8_init_117 : decode cX8_init 117 = .ok (.newarray .int, 2) := by decide +kernel
theorem dX8_init_119 : decode cX8_init 119 = .ok (.putfield 50, 3) := by decide +kernel
theorem dX8_init_122 : decode cX8_init 122 = .ok (.aload_n 0, 1) := by decide +kernel
theorem dX8_init_123 : decode cX8_init 123 = .ok (.sipush 128, 3) := by decide +kernel
theorem dX8_init_126 : decode cX8_init 126 = .ok (.newarray .int, 2) := by decide +kernel
theorem dX8_init_128 : decode cX8_init 128 = .ok (.putfield 53, 3) := by decide +kernel
theorem dX8_init_131 : decode cX8_init 131 = .ok (.aload_n 0, 1) := by decide +kernel
theorem dX8_init_132 : decode cX8_init 132 = .ok (.bipush 49, 2) := by decide +kernel
theorem dX8_init_134 : decode cX8_init 134 = .ok (.newarray .int, 2) := by decide +kernel
theorem dX8_init_136 : decode cX8_init 136 = .ok (.putfield 56, 3) := by decide +kernel
theorem dX8_init_139 : decode cX8_init 139 = .ok (.aload_n 0, 1) := by decide +kernel
theorem dX8_init_140 : decode cX8_init 140 = .ok (.bipush 49, 2) := by decide +kernel
theorem dX8_init_142 : decode cX8_init 142 = .ok (.newarray .boolean, 2) := by decide +kernel
theorem dX8_init_144 : decode cX8_init 144 = .ok (.putfield 59, 3) := by decide +kernel
theorem dX8_init_147 : decode cX8_init 147 = .ok (.aload_n 0, 1) := by decide +kernel
theorem dX8_init_148 : decode cX8_init 148 = .ok (.bipush 49, 2) := by decide +kernel
theorem dX8_init_150 : decode cX8_init 150 = .ok (.newarray .int, 2) := by decide +kernel
theorem dX8_init_152 : decode cX8_init 152 = .ok (.putfield 62, 3) := by decide +kernel
theorem dX8_init_155 : decode cX8_init 155 = .ok (.aload_n 0, 1) := by decide +kernel
theorem dX8_init_156 : decode cX8_init 156 = .ok (.getfield 7, 3) := by decide +kernel
theorem dX8_init_159 : decode cX8_init 159 = .ok (.iconst 0, 1) := by decide +kernel
theorem dX8_init_160 : decode cX8_init 160 = .ok (.iconst 3, 1) := by decide +kernel
theorem dX8_init_161 : decode cX8_init 161 = .ok (.iastore, 1) := by decide +kernel
theorem dX8_init_162 : decode cX8_init 162 = .ok (.aload_n 0, 1) := by decide +kernel
theorem dX8_init_163 : decode cX8_init 163 = .ok (.getfield 7, 3) := by decide +kernel
theorem dX8_init_166 : decode cX8_init 166 = .ok (.iconst 1, 1) := by decide +kernel
theorem dX8_init_167 : decode cX8_init 167 = .ok (.iconst 3, 1) := by decide +kernel
theorem dX8_init_168 : decode cX8_init 168 = .ok (.iastore, 1) := by decide +kernel
theorem dX8_init_169 : decode cX8_init 169 = .ok (.aload_n 0, 1) := by decide +kernel
theorem dX8_init_170 : decode cX8_init 170 = .ok (.getfield 7, 3) := by decide +kernel
theorem dX8_init_173 : decode cX8_init 173 = .ok (.iconst 2, 1) := by decide +kernel
theorem dX8_init_174 : decode cX8_init 174 = .ok (.bipush 12, 2) := by decide +kernel
theorem dX8_init_176 : decode cX8_init 176 = .ok (.iastore, 1) := by decide +kernel
theorem dX8_init_177 : decode cX8_init 177 = .ok (.aload_n 0, 1) := by decide +kernel
theorem dX8_init_178 : decode cX8_init 178 = .ok (.getfield 7, 3) := by decide +kernel
theorem dX8_init_181 : decode cX8_init 181 = .ok (.iconst 3, 1) := by decide +kernel
theorem dX8_init_182 : decode cX8_init 182 = .ok (.iconst 1, 1) := by decide +kernel
theorem dX8_init_183 : decode cX8_init 183 = .ok (.iastore, 1) := by decide +kernel
theorem dX8_init_184 : decode cX8_init 184 = .ok (.return_, 1) := by decide +kernel
theorem dX8_in_0 : decode cX8_in 0 = .ok (.iload_n 0, 1) := by decide +kernel
theorem dX8_in_1 : decode cX8_in 1 = .ok (.iload_n 1, 1) := by decide +kernel
theorem dX8_in_2 : decode cX8_in 2 = .ok (.if_icmp .lt 12, 3) := by decide +kernel
theorem dX8_in_5 : decode cX8_in 5 = .ok (.iload_n 0, 1) := by decide +kernel
theorem dX8_in_6 : decode cX8_in 6 = .ok (.iload_n 2, 1) := by decide +kernel
theorem dX8_in_7 : decode cX8_in 7 = .ok (.if_icmp .gt 7, 3) := by decide +kernel
theorem dX8_in_10 : decode cX8_in 10 = .ok (.iconst 1, 1) := by decide +kernel
theorem dX8_in_11 : decode cX8_in 11 = .ok (.goto 4, 3) := by decide +kernel
theorem dX8_in_14 : decode cX8_in 14 = .ok (.iconst 0, 1) := by decide +kernel
theorem dX8_in_15 : decode cX8_in 15 = .ok (.ireturn, 1) := by decide +kernel
theorem dX8_isCell_0 : decode cX8_isCell 0 = .ok (.iload_n 1, 1) := by decide +kernel
theorem dX8_isCell_1 : decode cX8_isCell 1 = .ok (.iconst 0, 1) := by decide +kernel
theorem dX8_isCell_2 : decode cX8_isCell 2 = .ok (.aload_n 0, 1) := by decide +kernel
theorem dX8_isCell_3 : decode cX8_isCell 3 = .ok (.getfield 7, 3) := by decide +kernel
theorem dX8_isCell_6 : decode cX8_isCell 6 = .ok (.iconst 0, 1) := by decide +kernel
theorem dX8_isCell_7 : decode cX8_isCell 7 = .ok (.iaload, 1) := by decide +kernel
theorem dX8_isCell_8 : decode cX8_isCell 8 = .ok (.iconst 1, 1) := by decide +kernel
theorem dX8_isCell_9 : decode cX8_isCell 9 = .ok (.isub, 1) := by decide +kernel
theorem dX8_isCell_10 : decode cX8_isCell 10 = .ok (.invokestatic 65, 3) := by decide +kernel
theorem dX8_isCell_13 : decode cX8_isCell 13 = .ok (.ifCond .eq 23, 3) := by decide +kernel
theorem dX8_isCell_16 : decode cX8_isCell 16 = .ok (.iload_n 2, 1) := by decide +kernel
theorem dX8_isCell_17 : decode cX8_isCell 17 = .ok (.iconst 0, 1) := by decide +kernel
theorem dX8_isCell_18 : decode cX8_isCell 18 = .ok (.aload_n 0, 1) := by decide +kernel
theorem dX8_isCell_19 : decode cX8_isCell 19 = .ok (.getfield 7, 3) := by decide +kernel
theorem dX8_isCell_22 : decode cX8_isCell 22 = .ok (.iconst 1, 1) := by decide +kernel
theorem dX8_isCell_23 : decode cX8_isCell 23 = .ok (.iaload, 1) := by decide +kernel
theorem dX8_isCell_24 : decode cX8_isCell 24 = .ok (.iconst 1, 1) := by decide +kernel
theorem dX8_isCell_25 : decode cX8_isCell 25 = .ok (.isub, 1) := by decide +kernel
theorem dX8_isCell_26 : decode cX8_isCell 26 = .ok (.invokestatic 65, 3) := by decide +kernel
theorem dX8_isCell_29 : decode cX8_isCell 29 = .ok (.ifCond .eq 7, 3) := by decide +kernel
theorem dX8_isCell_32 : decode cX8_isCell 32 = .ok (.iconst 1, 1) := by decide +kernel
theorem dX8_isCell_33 : decode cX8_isCell 33 = .ok (.goto 4, 3) := by decide +kernel
theorem dX8_isCell_36 : decode cX8_isCell 36 = .ok (.iconst 0, 1) := by decide +kernel
theorem dX8_isCell_37 : decode cX8_isCell 37 = .ok (.ireturn, 1) := by decide +kernel
theorem dX8_save_0 : decode cX8_save 0 = .ok (.aload_n 0, 1) := by decide +kernel
theorem dX8_save_1 : decode cX8_save 1 = .ok (.getfield 69, 3) := by decide +kernel
theorem dX8_save_4 : decode cX8_save 4 = .ok (.bipush 8, 2) := by decide +kernel
theorem dX8_save_6 : decode cX8_save 6 = .ok (.if_icmp .ne 44, 3) := by decide +kernel
theorem dX8_save_9 : decode cX8_save 9 = .ok (.iconst 0, 1) := by decide +kernel
theorem dX8_save_10 : decode cX8_save 10 = .ok (.istore_n 1, 1) := by decide +kernel
theorem dX8_save_11 : decode cX8_save 11 = .ok (.iload_n 1, 1) := by decide +kernel
theorem dX8_save_12 : decode cX8_save 12 = .ok (.sipush 1057, 3) := by decide +kernel
theorem dX8_save_15 : decode cX8_save 15 = .ok (.if_icmp .ge 25, 3) := by decide +kernel
theorem dX8_save_18 : decode cX8_save 18 = .ok (.aload_n 0, 1) := by decide +kernel
theorem dX8_save_19 : decode cX8_save 19 = .ok (.getfield 13, 3) := by decide +kernel
theorem dX8_save_22 : decode cX8_save 22 = .ok (.iload_n 1, 1) := by decide +kernel
theorem dX8_save_23 : decode cX8_save 23 = .ok (.aload_n 0, 1) := by decide +kernel
theorem dX8_save_24 : decode cX8_save 24 = .ok (.getfield 13, 3) := by decide +kernel
theorem dX8_save_27 : decode cX8_save 27 = .ok (.iload_n 1, 1) := by decide +kernel
theorem dX8_save_28 : decode cX8_save 28 = .ok (.sipush 151, 3) := by decide +kernel
theorem dX8_save_31 : decode cX8_save 31 = .ok (.iadd, 1) := by decide +kernel
theorem dX8_save_32 : decode cX8_save 32 = .ok (.iaload, 1) := by decide +kernel
theorem dX8_save_33 : decode cX8_save 33 = .ok (.iastore, 1) := by decide +kernel
theorem dX8_save_34 : decode cX8_save 34 = .ok (.iinc 1 1, 3) := by decide +kernel
theorem dX8_save_37 : decode cX8_save 37 = .ok (.goto (-26), 3) := by decide +kernel
theorem dX8_save_40 : decode cX8_save 40 = .ok (.aload_n 0, 1) := by decide +kernel
theorem dX8_save_41 : decode cX8_save 41 = .ok (.dup, 1) := by decide +kernel
theorem dX8_save_42 : decode cX8_save 42 = .ok (.getfield 69, 3) := by decide +kernel
theorem dX8_save_45 : decode cX8_save 45 = .ok (.iconst 1, 1) := by decide +kernel
theorem dX8_save_46 : decode cX8_save 46 = .ok (.isub, 1) := by decide +kernel
theorem dX8_save_47 : decode cX8_save 47 = .ok (.putfield 69, 3) := by decide +kernel
theorem dX8_save_50 : decode cX8_save 50 = .ok (.iconst 0, 1) := by decide +kernel
theorem dX8_save_51 : decode cX8_save 51 = .ok (.istore_n 1, 1) := by decide +kernel
theorem dX8_save_52 : decode cX8_save 52 = .ok (.iload_n 1, 1) := by decide +kernel
theorem dX8_save_53 : decode cX8_save 53 = .ok (.sipush 151, 3) := by decide +kernel
theorem dX8_save_56 : decode cX8_save 56 = .ok (.if_icmp .ge 30, 3) := by decide +kernel
theorem dX8_save_59 : decode cX8_save 59 = .ok (.aload_n 0, 1) := by decide +kernel
theorem dX8_save_60 : decode cX8_save 60 = .ok (.getfield 13, 3) := by decide +kernel
theorem dX8_save_63 : decode cX8_save 63 = .ok (.sipush 151, 3) := by decide +kernel
theorem dX8_save_66 : decode cX8_save 66 = .ok (.aload_n 0, 1) := by decide +kernel
theorem dX8_save_67 : decode cX8_save 67 = .ok (.getfield 69, 3) := by decide +kernel
theorem dX8_save_70 : decode cX8_save 70 = .ok (.imul, 1) := by decide +kernel
theorem dX8_save_71 : decode cX8_save 71 = .ok (.iload_n 1, 1) := by decide +kernel
theorem dX8_save_72 : decode cX8_save 72 = .ok (.iadd, 1) := by decide +kernel
theorem dX8_save_73 : decode cX8_save 73 = .ok (.aload_n 0, 1) := by decide +kernel
theorem dX8_save_74 : decode cX8_save 74 = .ok (.getfield 7, 3) := by decide +kernel
theorem dX8_save_77 : decode cX8_save 77 = .ok (.iload_n 1, 1) := by decide +kernel
theorem dX8_save_78 : decode cX8_save 78 = .ok (.iaload, 1) := by decide +kernel
theorem dX8_save_79 : decode cX8_save 79 = .ok (.iastore, 1) := by decide +kernel
theorem dX8_save_80 : decode cX8_save 80 = .ok (.iinc 1 1, 3) := by decide +kernel
theorem dX8_save_83 : decode cX8_save 83 = .ok (.goto (-31), 3) := by decide +kernel
theorem dX8_save_86 : decode cX8_save 86 = .ok (.aload_n 0, 1) := by decide +kernel
theorem dX8_save_87 : decode cX8_save 87 = .ok (.dup, 1) := by decide +kernel
theorem dX8_save_88 : decode cX8_save 88 = .ok (.getfield 69, 3) := by decide +kernel
theorem dX8_save_91 : decode cX8_save 91 = .ok (.iconst 1, 1) := by decide +kernel
theorem dX8_save_92 : decode cX8_save 92 = .ok (.iadd, 1) := by decide +kernel
theorem dX8_save_93 : decode cX8_save 93 = .ok (.putfield 69, 3) := by decide +kernel
theorem dX8_save_96 : decode cX8_save 96 = .ok (.return_, 1) := by decide +kernel
theorem dX8_undo_0 : decode cX8_undo 0 = .ok (.aload_n 0, 1) := by decide +kernel
theorem dX8_undo_1 : decode cX8_undo 1 = .ok (.getfield 69, 3) := by decide +kernel
theorem dX8_undo_4 : decode cX8_undo 4 = .ok (.ifCond .ne 6, 3) := by decide +kernel
theorem dX8_undo_7 : decode cX8_undo 7 = .ok (.bipush (-2), 2) := by decide +kernel
theorem dX8_undo_9 : decode cX8_undo 9 = .ok (.ireturn, 1) := by decide +kernel
theorem dX8_undo_10 : decode cX8_undo 10 = .ok (.aload_n 0, 1) := by decide +kernel
theorem dX8_undo_11 : decode cX8_undo 11 = .ok (.dup, 1) := by decide +kernel
theorem dX8_undo_12 : decode cX8_undo 12 = .ok (.getfield 69, 3) := by decide +kernel
theorem dX8_undo_15 : decode cX8_undo 15 = .ok (.iconst 1, 1) := by decide +kernel
theorem dX8_undo_16 : decode cX8_undo 16 = .ok (.isub, 1) := by decide +kernel
theorem dX8_undo_17 : decode cX8_undo 17 = .ok (.putfield 69, 3) := by decide +kernel
theorem dX8_undo_20 : decode cX8_undo 20 = .ok (.iconst 0, 1) := by decide +kernel
theorem dX8_undo_21 : decode cX8_undo 21 = .ok (.istore_n 1, 1) := by decide +kernel
theorem dX8_undo_22 : decode cX8_undo 22 = .ok (.iload_n 1, 1) := by decide +kernel
theorem dX8_undo_23 : decode cX8_undo 23 = .ok (.sipush 151, 3) := by decide +kernel
theorem dX8_undo_26 : decode cX8_undo 26 = .ok (.if_icmp .ge 30, 3) := by decide +kernel
theorem dX8_undo_29 : decode cX8_undo 29 = .ok (.aload_n 0, 1) := by decide +kernel
theorem dX8_undo_30 : decode cX8_undo 30 = .ok (.getfield 7, 3) := by decide +kernel
theorem dX8_undo_33 : decode cX8_undo 33 = .ok (.iload_n 1, 1) := by decide +kernel
theorem dX8_undo_34 : decode cX8_undo 34 = .ok (.aload_n 0, 1) := by decide +kernel
theorem dX8_undo_35 : decode cX8_undo 35 = .ok (.getfield 13, 3) := by decide +kernel
theorem dX8_undo_38 : decode cX8_undo 38 = .ok (.sipush 151, 3) := by decide +kernel
theorem dX8_undo_41 : decode cX8_undo 41 = .ok (.aload_n 0, 1) := by decide +kernel
theorem dX8_undo_42 : decode cX8_undo 42 = .ok (.getfield 69, 3) := by decide +kernel
theorem dX8_undo_45 : decode cX8_undo 45 = .ok (.imul, 1) := by decide +kernel
theorem dX8_undo_46 : decode cX8_undo 46 = .ok (.iload_n 1, 1) := by decide +kernel
theorem dX8_undo_47 : decode cX8_undo 47 = .ok (.iadd, 1) := by decide +kernel
theorem dX8_undo_48 : decode cX8_undo 48 = .ok (.iaload, 1) := by decide +kernel
theorem dX8_undo_49 : decode cX8_undo 49 = .ok (.iastore, 1) := by decide +kernel
theorem dX8_undo_50 : decode cX8_undo 50 = .ok (.iinc 1 1, 3) := by decide +kernel
theorem dX8_undo_53 : decode cX8_undo 53 = .ok (.goto (-31), 3) := by decide +kernel
theorem dX8_undo_56 : decode cX8_undo 56 = .ok (.aload_n 0, 1) := by decide +kernel
theorem dX8_undo_57 : decode cX8_undo 57 = .ok (.getfield 69, 3) := by decide +kernel
theorem dX8_undo_60 : decode cX8_undo 60 = .ok (.ireturn, 1) := by decide +kernel
theorem dX8_changed_0 : decode cX8_changed 0 = .ok (.aload_n 0, 1) := by decide +kernel
theorem dX8_changed_1 : decode cX8_changed 1 = .ok (.invokevirtual 73, 3) := by decide +kernel
theorem dX8_changed_4 : decode cX8_changed 4 = .ok (.aload_n 0, 1) := by decide +kernel
theorem dX8_changed_5 : decode cX8_changed 5 = .ok (.getfield 7, 3) := by decide +kernel
theorem dX8_changed_8 : decode cX8_changed 8 = .ok (.iload_n 1, 1) := by decide +kernel
theorem dX8_changed_9 : decode cX8_changed 9 = .ok (.iaload, 1) := by decide +kernel
theorem dX8_changed_10 : decode cX8_changed 10 = .ok (.istore_n 3, 1) := by decide +kernel
theorem dX8_changed_11 : decode cX8_changed 11 = .ok (.aload_n 0, 1) := by decide +kernel
theorem dX8_changed_12 : decode cX8_changed 12 = .ok (.getfield 7, 3) := by decide +kernel
theorem dX8_changed_15 : decode cX8_changed 15 = .ok (.iload_n 1, 1) := by decide +kernel
theorem dX8_changed_16 : decode cX8_changed 16 = .ok (.iload_n 2, 1) := by decide +kernel
theorem dX8_changed_17 : decode cX8_changed 17 = .ok (.iastore, 1) := by decide +kernel
theorem dX8_changed_18 : decode cX8_changed 18 = .ok (.iload_n 3, 1) := by decide +kernel
theorem dX8_changed_19 : decode cX8_changed 19 = .ok (.ireturn, 1) := by decide +kernel
theorem dX8_appendCharacter_0 : decode cX8_appendCharacter 0 = .ok (.iload_n 1, 1) := by decide +kernel
theorem dX8_appendCharacter_1 : decode cX8_appendCharacter 1 = .ok (.iconst 0, 1) := by decide +kernel
theorem dX8_appendCharacter_2 : decode cX8_appendCharacter 2 = .ok (.sipush 255, 3) := by decide +kernel
theorem dX8_appendCharacter_5 : decode cX8_appendCharacter 5 = .ok (.invokestatic 65, 3) := by decide +kernel
theorem dX8_appendCharacter_8 : decode cX8_appendCharacter 8 = .ok (.ifCond .ne 5, 3) := by decide +kernel
theorem dX8_appendCharacter_11 : decode cX8_appendCharacter 11 = .ok (.iconst (-1), 1) := by decide +kernel
theorem dX8_appendCharacter_12 : decode cX8_appendCharacter 12 = .ok (.ireturn, 1) := by decide +kernel
theorem dX8_appendCharacter_13 : decode cX8_appendCharacter 13 = .ok (.aload_n 0, 1) := by decide +kernel
theorem dX8_appendCharacter_14 : decode cX8_appendCharacter 14 = .ok (.getfield 76, 3) := by decide +kernel
theorem dX8_appendCharacter_17 : decode cX8_appendCharacter 17 = .ok (.bipush 80, 2) := by decide +kernel
theorem dX8_appendCharacter_19 : decode cX8_appendCharacter 19 = .ok (.if_icmp .ne 6, 3) := by decide +kernel
theorem dX8_appendCharacter_22 : decode cX8_appendCharacter 22 = .ok (.bipush (-3), 2) := by decide +kernel
theorem dX8_appendCharacter_24 : decode cX8_appendCharacter 24 = .ok (.ireturn, 1) := by decide +kernel
theorem dX8_appendCharacter_25 : decode cX8_appendCharacter 25 = .ok (.aload_n 0, 1) := by decide +kernel
theorem dX8_appendCharacter_26 : decode cX8_appendCharacter 26 = .ok (.getfield 16, 3) := by decide +kernel
theorem dX8_appendCharacter_29 : decode cX8_appendCharacter 29 = .ok (.aload_n 0, 1) := by decide +kernel
theorem dX8_appendCharacter_30 : decode cX8_appendCharacter 30 = .ok (.getfield 76, 3) := by decide +kernel
theorem dX8_appendCharacter_33 : decode cX8_appendCharacter 33 = .ok (.iload_n 1, 1) := by decide +kernel
theorem dX8_appendCharacter_34 : decode cX8_appendCharacter 34 = .ok (.iastore, 1) := by decide +kernel
theorem dX8_appendCharacter_35 : decode cX8_appendCharacter 35 = .ok (.aload_n 0, 1) := by decide +kernel
theorem dX8_appendCharacter_36 : decode cX8_appendCharacter 36 = .ok (.dup, 1) := by decide +kernel
theorem dX8_appendCharacter_37 : decode cX8_appendCharacter 37 = .ok (.getfield 76, 3) := by decide +kernel
theorem dX8_appendCharacter_40 : decode cX8_appendCharacter 40 = .ok (.iconst 1, 1) := by decide +kernel
theorem dX8_appendCharacter_41 : decode cX8_appendCharacter 41 = .ok (.iadd, 1) := by decide +kernel
theorem dX8_appendCharacter_42 : decode cX8_appendCharacter 42 = .ok (.putfield 76, 3) := by decide +kernel
theorem dX8_appendCharacter_45 : decode cX8_appendCharacter 45 = .ok (.aload_n 0, 1) := by decide +kernel
theorem dX8_appendCharacter_46 : decode cX8_appendCharacter 46 = .ok (.getfield 76, 3) := by decide +kernel
theorem dX8_appendCharacter_49 : decode cX8_appendCharacter 49 = .ok (.ireturn, 1) := by decide +kernel
theorem dX8_clearText_0 : decode cX8_clearText 0 = .ok (.aload_n 0, 1) := by decide +kernel
theorem dX8_clearText_1 : decode cX8_clearText 1 = .ok (.getfield 76, 3) := by decide +kernel
theorem dX8_clearText_4 : decode cX8_clearText 4 = .ok (.istore_n 1, 1) := by decide +kernel
theorem dX8_clearText_5 : decode cX8_clearText 5 = .ok (.aload_n 0, 1) := by decide +kernel
theorem dX8_clearText_6 : decode cX8_clearText 6 = .ok (.iconst 0, 1) := by decide +kernel
theorem dX8_clearText_7 : decode cX8_clearText 7 = .ok (.putfield 76, 3) := by decide +kernel
theorem dX8_clearText_10 : decode cX8_clearText 10 = .ok (.iload_n 1, 1) := by decide +kernel
theorem dX8_clearText_11 : decode cX8_clearText 11 = .ok (.ireturn, 1) := by decide +kernel
theorem dX8_reads_0 : decode cX8_reads 0 = .ok (.aload_n 0, 1) := by decide +kernel
theorem dX8_reads_1 : decode cX8_reads 1 = .ok (.iconst 0, 1) := by decide +kernel
theorem dX8_reads_2 : decode cX8_reads 2 = .ok (.putfield 79, 3) := by decide +kernel
theorem dX8_reads_5 : decode cX8_reads 5 = .ok (.aload_n 0, 1) := by decide +kernel
theorem dX8_reads_6 : decode cX8_reads 6 = .ok (.iconst 0, 1) := by decide +kernel
theorem dX8_reads_7 : decode cX8_reads 7 = .ok (.putfield 82, 3) := by decide +kernel
theorem dX8_reads_10 : decode cX8_reads 10 = .ok (.iconst 0, 1) := by decide +kernel
theorem dX8_reads_11 : decode cX8_reads 11 = .ok (.istore_n 1, 1) := by decide +kernel
theorem dX8_reads_12 : decode cX8_reads 12 = .ok (.iconst 0, 1) := by decide +kernel
theorem dX8_reads_13 : decode cX8_reads 13 = .ok (.istore_n 2, 1) := by decide +kernel
theorem dX8_reads_14 : decode cX8_reads 14 = .ok (.iload_n 2, 1) := by decide +kernel
theorem dX8_reads_15 : decode cX8_reads 15 = .ok (.aload_n 0, 1) := by decide +kernel
theorem dX8_reads_16 : decode cX8_reads 16 = .ok (.getfield 76, 3) := by decide +kernel
theorem dX8_reads_19 : decode cX8_reads 19 = .ok (.if_icmp .ge 140, 3) := by decide +kernel
theorem dX8_reads_22 : decode cX8_reads 22 = .ok (.aload_n 0, 1) := by decide +kernel
theorem dX8_reads_23 : decode cX8_reads 23 = .ok (.getfield 16, 3) := by decide +kernel
theorem dX8_reads_26 : decode cX8_reads 26 = .ok (.iload_n 2, 1) := by decide +kernel
theorem dX8_reads_27 : decode cX8_reads 27 = .ok (.iaload, 1) := by decide +kernel
theorem dX8_reads_28 : decode cX8_reads 28 = .ok (.istore_n 3, 1) := by decide +kernel
theorem dX8_reads_29 : decode cX8_reads 29 = .ok (.aload_n 0, 1) := by decide +kernel
theorem dX8_reads_30 : decode cX8_reads 30 = .ok (.getfield 79, 3) := by decide +kernel
theorem dX8_reads_33 : decode cX8_reads 33 = .ok (.ifCond .ne 8, 3) := by decide +kernel
theorem dX8_reads_36 : decode cX8_reads 36 = .ok (.bipush 7, 2) := by decide +kernel
theorem dX8_reads_38 : decode cX8_reads 38 = .ok (.goto 7, 3) := by decide +kernel
theorem dX8_reads_41 : decode cX8_reads 41 = .ok (.aload_n 0, 1) := by decide +kernel
theorem dX8_reads_42 : decode cX8_reads 42 = .ok (.getfield 82, 3) := by decide +kernel
theorem dX8_reads_45 : decode cX8_reads 45 = .ok (.istore 4, 2) := by decide +kernel
theorem dX8_reads_47 : decode cX8_reads 47 = .ok (.iload_n 3, 1) := by decide +kernel
theorem dX8_reads_48 : decode cX8_reads 48 = .ok (.bipush 32, 2) := by decide +kernel
theorem dX8_reads_50 : decode cX8_reads 50 = .ok (.if_icmp .ne 6, 3) := by decide +kernel
theorem dX8_reads_53 : decode cX8_reads 53 = .ok (.goto 100, 3) := by decide +kernel
theorem dX8_reads_56 : decode cX8_reads 56 = .ok (.iload_n 3, 1) := by decide +kernel
theorem dX8_reads_57 : decode cX8_reads 57 = .ok (.bipush 48, 2) := by decide +kernel
theorem dX8_reads_59 : decode cX8_reads 59 = .ok (.bipush 53, 2) := by decide +kernel
theorem dX8_reads_61 : decode cX8_reads 61 = .ok (.invokestatic 65, 3) := by decide +kernel
theorem dX8_reads_64 : decode cX8_reads 64 = .ok (.ifCond .eq 42, 3) := by decide +kernel
theorem dX8_reads_67 : decode cX8_reads 67 = .ok (.aload_n 0, 1) := by decide +kernel
theorem dX8_reads_68 : decode cX8_reads 68 = .ok (.getfield 79, 3) := by decide +kernel
theorem dX8_reads_71 : decode cX8_reads 71 = .ok (.bipush 7, 2) := by decide +kernel
theorem dX8_reads_73 : decode cX8_reads 73 = .ok (.if_icmp .ge 33, 3) := by decide +kernel
theorem dX8_reads_76 : decode cX8_reads 76 = .ok (.iload_n 1, 1) := by decide +kernel
theorem dX8_reads_77 : decode cX8_reads 77 = .ok (.iload 4, 2) := by decide +kernel
theorem dX8_reads_79 : decode cX8_reads 79 = .ok (.if_icmp .ge 27, 3) := by decide +kernel
theorem dX8_reads_82 : decode cX8_reads 82 = .ok (.aload_n 0, 1) := by decide +kernel
theorem dX8_reads_83 : decode cX8_reads 83 = .ok (.getfield 19, 3) := by decide +kernel
theorem dX8_reads_86 : decode cX8_reads 86 = .ok (.bipush 7, 2) := by decide +kernel
theorem dX8_reads_88 : decode cX8_reads 88 = .ok (.aload_n 0, 1) := by decide +kernel
theorem dX8_reads_89 : decode cX8_reads 89 = .ok (.getfield 79, 3) := by decide +kernel
theorem dX8_reads_92 : decode cX8_reads 92 = .ok (.imul, 1) := by decide +kernel
theorem dX8_reads_93 : decode cX8_reads 93 = .ok (.iload_n 1, 1) := by decide +kernel
theorem dX8_reads_94 : decode cX8_reads 94 = .ok (.iadd, 1) := by decide +kernel
theorem dX8_reads_95 : decode cX8_reads 95 = .ok (.iload_n 3, 1) := by decide +kernel
theorem dX8_reads_96 : decode cX8_reads 96 = .ok (.bipush 48, 2) := by decide +kernel
theorem dX8_reads_98 : decode cX8_reads 98 = .ok (.isub, 1) := by decide +kernel
theorem dX8_reads_99 : decode cX8_reads 99 = .ok (.iastore, 1) := by decide +kernel
theorem dX8_reads_100 : decode cX8_reads 100 = .ok (.iinc 1 1, 3) := by decide +kernel
theorem dX8_reads_103 : decode cX8_reads 103 = .ok (.goto 50, 3) := by decide +kernel
theorem dX8_reads_106 : decode cX8_reads 106 = .ok (.iload_n 3, 1) := by decide +kernel
theorem dX8_reads_107 : decode cX8_reads 107 = .ok (.bipush 59, 2) := by decide +kernel
theorem dX8_reads_109 : decode cX8_reads 109 = .ok (.if_icmp .ne 42, 3) := by decide +kernel
theorem dX8_reads_112 : decode cX8_reads 112 = .ok (.iload_n 1, 1) := by decide +kernel
theorem dX8_reads_113 : decode cX8_reads 113 = .ok (.ifCond .le 38, 3) := by decide +kernel
theorem dX8_reads_116 : decode cX8_reads 116 = .ok (.aload_n 0, 1) := by decide +kernel
theorem dX8_reads_117 : decode cX8_reads 117 = .ok (.getfield 79, 3) := by decide +kernel
theorem dX8_reads_120 : decode cX8_reads 120 = .ok (.ifCond .eq 11, 3) := by decide +kernel
theorem dX8_reads_123 : decode cX8_reads 123 = .ok (.iload_n 1, 1) := by decide +kernel
theorem dX8_reads_124 : decode cX8_reads 124 = .ok (.aload_n 0, 1) := by decide +kernel
theorem dX8_reads_125 : decode cX8_reads 125 = .ok (.getfield 82, 3) := by decide +kernel
theorem dX8_reads_128 : decode cX8_reads 128 = .ok (.if_icmp .ne 23, 3) := by decide +kernel
theorem dX8_reads_131 : decode cX8_reads 131 = .ok (.aload_n 0, 1) := by decide +kernel
theorem dX8_reads_132 : decode cX8_reads 132 = .ok (.iload_n 1, 1) := by decide +kernel
theorem dX8_reads_133 : decode cX8_reads 133 = .ok (.putfield 82, 3) := by decide +kernel
theorem dX8_reads_136 : decode cX8_reads 136 = .ok (.aload_n 0, 1) := by decide +kernel
theorem dX8_reads_137 : decode cX8_reads 137 = .ok (.dup, 1) := by decide +kernel
theorem dX8_reads_138 : decode cX8_reads 138 = .ok (.getfield 79, 3) := by decide +kernel
theorem dX8_reads_141 : decode cX8_reads 141 = .ok (.iconst 1, 1) := by decide +kernel
theorem dX8_reads_142 : decode cX8_reads 142 = .ok (.iadd, 1) := by decide +kernel
theorem dX8_reads_143 : decode cX8_reads 143 = .ok (.putfield 79, 3) := by decide +kernel
theorem dX8_reads_146 : decode cX8_reads 146 = .ok (.iconst 0, 1) := by decide +kernel
theorem dX8_reads_147 : decode cX8_reads 147 = .ok (.istore_n 1, 1) := by decide +kernel
theorem dX8_reads_148 : decode cX8_reads 148 = .ok (.goto 5, 3) := by decide +kernel
theorem dX8_reads_151 : decode cX8_reads 151 = .ok (.iload_n 2, 1) := by decide +kernel
theorem dX8_reads_152 : decode cX8_reads 152 = .ok (.ireturn, 1) := by decide +kernel
theorem dX8_reads_153 : decode cX8_reads 153 = .ok (.iinc 2 1, 3) := by decide +kernel
theorem dX8_reads_156 : decode cX8_reads 156 = .ok (.goto (-142), 3) := by decide +kernel
theorem dX8_reads_159 : decode cX8_reads 159 = .ok (.aload_n 0, 1) := by decide +kernel
theorem dX8_reads_160 : decode cX8_reads 160 = .ok (.getfield 79, 3) := by decide +kernel
theorem dX8_reads_163 : decode cX8_reads 163 = .ok (.ifCond .eq 7, 3) := by decide +kernel
theorem dX8_reads_166 : decode cX8_reads 166 = .ok (.iload_n 1, 1) := by decide +kernel
theorem dX8_reads_167 : decode cX8_reads 167 = .ok (.ifCond .le 10, 3) := by decide +kernel
theorem dX8_reads_170 : decode cX8_reads 170 = .ok (.aload_n 0, 1) := by decide +kernel
theorem dX8_reads_171 : decode cX8_reads 171 = .ok (.getfield 76, 3) := by decide +kernel
theorem dX8_reads_174 : decode cX8_reads 174 = .ok (.goto 4, 3) := by decide +kernel
theorem dX8_reads_177 : decode cX8_reads 177 = .ok (.iconst (-1), 1) := by decide +kernel
theorem dX8_reads_178 : decode cX8_reads 178 = .ok (.ireturn, 1) := by decide +kernel
theorem dX8_loadDrawing_0 : decode cX8_loadDrawing 0 = .ok (.aload_n 0, 1) := by decide +kernel
theorem dX8_loadDrawing_1 : decode cX8_loadDrawing 1 = .ok (.invokevirtual 85, 3) := by decide +kernel
theorem dX8_loadDrawing_4 : decode cX8_loadDrawing 4 = .ok (.istore_n 1, 1) := by decide +kernel
theorem dX8_loadDrawing_5 : decode cX8_loadDrawing 5 = .ok (.iload_n 1, 1) := by decide +kernel
theorem dX8_loadDrawing_6 : decode cX8_loadDrawing 6 = .ok (.iconst (-1), 1) := by decide +kernel
theorem dX8_loadDrawing_7 : decode cX8_loadDrawing 7 = .ok (.if_icmp .eq 8, 3) := by decide +kernel
theorem dX8_loadDrawing_10 : decode cX8_loadDrawing 10 = .ok (.bipush (-10), 2) := by decide +kernel
theorem dX8_loadDrawing_12 : decode cX8_loadDrawing 12 = .ok (.iload_n 1, 1) := by decide +kernel
theorem dX8_loadDrawing_13 : decode cX8_loadDrawing 13 = .ok (.isub, 1) := by decide +kernel
theorem dX8_loadDrawing_14 : decode cX8_loadDrawing 14 = .ok (.ireturn, 1) := by decide +kernel
theorem dX8_loadDrawing_15 : decode cX8_loadDrawing 15 = .ok (.aload_n 0, 1) := by decide +kernel
theorem dX8_loadDrawing_16 : decode cX8_loadDrawing 16 = .ok (.invokevirtual 73, 3) := by decide +kernel
theorem dX8_loadDrawing_19 : decode cX8_loadDrawing 19 = .ok (.aload_n 0, 1) := by decide +kernel
theorem dX8_loadDrawing_20 : decode cX8_loadDrawing 20 = .ok (.getfield 7, 3) := by decide +kernel
theorem dX8_loadDrawing_23 : decode cX8_loadDrawing 23 = .ok (.iconst 0, 1) := by decide +kernel
theorem dX8_loadDrawing_24 : decode cX8_loadDrawing 24 = .ok (.aload_n 0, 1) := by decide +kernel
theorem dX8_loadDrawing_25 : decode cX8_loadDrawing 25 = .ok (.getfield 79, 3) := by decide +kernel
theorem dX8_loadDrawing_28 : decode cX8_loadDrawing 28 = .ok (.iastore, 1) := by decide +kernel
theorem dX8_loadDrawing_29 : decode cX8_loadDrawing 29 = .ok (.aload_n 0, 1) := by decide +kernel
theorem dX8_loadDrawing_30 : decode cX8_loadDrawing 30 = .ok (.getfield 7, 3) := by decide +kernel
theorem dX8_loadDrawing_33 : decode cX8_loadDrawing 33 = .ok (.iconst 1, 1) := by decide +kernel
theorem dX8_loadDrawing_34 : decode cX8_loadDrawing 34 = .ok (.aload_n 0, 1) := by decide +kernel
theorem dX8_loadDrawing_35 : decode cX8_loadDrawing 35 = .ok (.getfield 82, 3) := by decide +kernel
theorem dX8_loadDrawing_38 : decode cX8_loadDrawing 38 = .ok (.iastore, 1) := by decide +kernel
theorem dX8_loadDrawing_39 : decode cX8_loadDrawing 39 = .ok (.iconst 0, 1) := by decide +kernel
theorem dX8_loadDrawing_40 : decode cX8_loadDrawing 40 = .ok (.istore_n 2, 1) := by decide +kernel
theorem dX8_loadDrawing_41 : decode cX8_loadDrawing 41 = .ok (.iload_n 2, 1) := by decide +kernel
theorem dX8_loadDrawing_42 : decode cX8_loadDrawing 42 = .ok (.bipush 49, 2) := by decide +kernel
theorem dX8_loadDrawing_44 : decode cX8_loadDrawing 44 = .ok (.if_icmp .ge 79, 3) := by decide +kernel
theorem dX8_loadDrawing_47 : decode cX8_loadDrawing 47 = .ok (.iload_n 2, 1) := by decide +kernel
theorem dX8_loadDrawing_48 : decode cX8_loadDrawing 48 = .ok (.bipush 7, 2) := by decide +kernel
theorem dX8_loadDrawing_50 : decode cX8_loadDrawing 50 = .ok (.idiv, 1) := by decide +kernel
theorem dX8_loadDrawing_51 : decode cX8_loadDrawing 51 = .ok (.aload_n 0, 1) := by decide +kernel
theorem dX8_loadDrawing_52 : decode cX8_loadDrawing 52 = .ok (.getfield 79, 3) := by decide +kernel
theorem dX8_loadDrawing_55 : decode cX8_loadDrawing 55 = .ok (.if_icmp .ge 18, 3) := by decide +kernel
theorem dX8_loadDrawing_58 : decode cX8_loadDrawing 58 = .ok (.iload_n 2, 1) := by decide +kernel
theorem dX8_loadDrawing_59 : decode cX8_loadDrawing 59 = .ok (.bipush 7, 2) := by decide +kernel
theorem dX8_loadDrawing_61 : decode cX8_loadDrawing 61 = .ok (.irem, 1) := by decide +kernel
theorem dX8_loadDrawing_62 : decode cX8_loadDrawing 62 = .ok (.aload_n 0, 1) := by decide +kernel
theorem dX8_loadDrawing_63 : decode cX8_loadDrawing 63 = .ok (.getfield 82, 3) := by decide +kernel
theorem dX8_loadDrawing_66 : decode cX8_loadDrawing 66 = .ok (.if_icmp .ge 7, 3) := by decide +kernel
theorem dX8_loadDrawing_69 : decode cX8_loadDrawing 69 = .ok (.iconst 1, 1) := by decide +kernel
theorem dX8_loadDrawing_70 : decode cX8_loadDrawing 70 = .ok (.goto 4, 3) := by decide +kernel
theorem dX8_loadDrawing_73 : decode cX8_loadDrawing 73 = .ok (.iconst 0, 1) := by decide +kernel
theorem dX8_loadDrawing_74 : decode cX8_loadDrawing 74 = .ok (.istore_n 3, 1) := by decide +kernel
theorem dX8_loadDrawing_75 : decode cX8_loadDrawing 75 = .ok (.aload_n 0, 1) := by decide +kernel
theorem dX8_loadDrawing_76 : decode cX8_loadDrawing 76 = .ok (.getfield 7, 3) := by decide +kernel
theorem dX8_loadDrawing_79 : decode cX8_loadDrawing 79 = .ok (.iconst 4, 1) := by decide +kernel
theorem dX8_loadDrawing_80 : decode cX8_loadDrawing 80 = .ok (.iload_n 2, 1) := by decide +kernel
theorem dX8_loadDrawing_81 : decode cX8_loadDrawing 81 = .ok (.iadd, 1) := by decide +kernel
theorem dX8_loadDrawing_82 : decode cX8_loadDrawing 82 = .ok (.iload_n 3, 1) := by decide +kernel
theorem dX8_loadDrawing_83 : decode cX8_loadDrawing 83 = .ok (.ifCond .eq 12, 3) := by decide +kernel
theorem dX8_loadDrawing_86 : decode cX8_loadDrawing 86 = .ok (.aload_n 0, 1) := by decide +kernel
theorem dX8_loadDrawing_87 : decode cX8_loadDrawing 87 = .ok (.getfield 19, 3) := by decide +kernel
theorem dX8_loadDrawing_90 : decode cX8_loadDrawing 90 = .ok (.iload_n 2, 1) := by decide +kernel
theorem dX8_loadDrawing_91 : decode cX8_loadDrawing 91 = .ok (.iaload, 1) := by decide +kernel
theorem dX8_loadDrawing_92 : decode cX8_loadDrawing 92 = .ok (.goto 4, 3) := by decide +kernel
theorem dX8_loadDrawing_95 : decode cX8_loadDrawing 95 = .ok (.iconst 0, 1) := by decide +kernel
theorem dX8_loadDrawing_96 : decode cX8_loadDrawing 96 = .ok (.iastore, 1) := by decide +kernel
theorem dX8_loadDrawing_97 : decode cX8_loadDrawing 97 = .ok (.aload_n 0, 1) := by decide +kernel
theorem dX8_loadDrawing_98 : decode cX8_loadDrawing 98 = .ok (.getfield 7, 3) := by decide +kernel
theorem dX8_loadDrawing_101 : decode cX8_loadDrawing 101 = .ok (.bipush 53, 2) := by decide +kernel
theorem dX8_loadDrawing_103 : decode cX8_loadDrawing 103 = .ok (.iload_n 2, 1) := by decide +kernel
theorem dX8_loadDrawing_104 : decode cX8_loadDrawing 104 = .ok (.iadd, 1) := by decide +kernel
theorem dX8_loadDrawing_105 : decode cX8_loadDrawing 105 = .ok (.iconst 0, 1) := by decide +kernel
theorem dX8_loadDrawing_106 : decode cX8_loadDrawing 106 = .ok (.iastore, 1) := by decide +kernel
theorem dX8_loadDrawing_107 : decode cX8_loadDrawing 107 = .ok (.aload_n 0, 1) := by decide +kernel
theorem dX8_loadDrawing_108 : decode cX8_loadDrawing 108 = .ok (.getfield 7, 3) := by decide +kernel
theorem dX8_loadDrawing_111 : decode cX8_loadDrawing 111 = .ok (.bipush 102, 2) := by decide +kernel
theorem dX8_loadDrawing_113 : decode cX8_loadDrawing 113 = .ok (.iload_n 2, 1) := by decide +kernel
theorem dX8_loadDrawing_114 : decode cX8_loadDrawing 114 = .ok (.iadd, 1) := by decide +kernel
theorem dX8_loadDrawing_115 : decode cX8_loadDrawing 115 = .ok (.iconst 0, 1) := by decide +kernel
theorem dX8_loadDrawing_116 : decode cX8_loadDrawing 116 = .ok (.iastore, 1) := by decide +kernel
theorem dX8_loadDrawing_117 : decode cX8_loadDrawing 117 = .ok (.iinc 2 1, 3) := by decide +kernel
theorem dX8_loadDrawing_120 : decode cX8_loadDrawing 120 = .ok (.goto (-79), 3) := by decide +kernel
theorem dX8_loadDrawing_123 : decode cX8_loadDrawing 123 = .ok (.aload_n 0, 1) := by decide +kernel
theorem dX8_loadDrawing_124 : decode cX8_loadDrawing 124 = .ok (.iconst 0, 1) := by decide +kernel
theorem dX8_loadDrawing_125 : decode cX8_loadDrawing 125 = .ok (.putfield 76, 3) := by decide +kernel
theorem dX8_loadDrawing_128 : decode cX8_loadDrawing 128 = .ok (.aload_n 0, 1) := by decide +kernel
theorem dX8_loadDrawing_129 : decode cX8_loadDrawing 129 = .ok (.invokevirtual 89, 3) := by decide +kernel
theorem dX8_loadDrawing_132 : decode cX8_loadDrawing 132 = .ok (.aload_n 0, 1) := by decide +kernel
theorem dX8_loadDrawing_133 : decode cX8_loadDrawing 133 = .ok (.getfield 92, 3) := by decide +kernel
