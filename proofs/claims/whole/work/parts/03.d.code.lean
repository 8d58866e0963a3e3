theorem dX8_layPlan_15 : decode cX8_layPlan 15 = .ok (.iload 6, 2) := by decide +kernel
theorem dX8_layPlan_17 : decode cX8_layPlan 17 = .ok (.bipush 49, 2) := by decide +kernel
theorem dX8_layPlan_19 : decode cX8_layPlan 19 = .ok (.if_icmp .ge 102, 3) := by decide +kernel
theorem dX8_layPlan_22 : decode cX8_layPlan 22 = .ok (.aload_n 0, 1) := by decide +kernel
theorem dX8_layPlan_23 : decode cX8_layPlan 23 = .ok (.getfield 25, 3) := by decide +kernel
theorem dX8_layPlan_26 : decode cX8_layPlan 26 = .ok (.iload 6, 2) := by decide +kernel
theorem dX8_layPlan_28 : decode cX8_layPlan 28 = .ok (.iaload, 1) := by decide +kernel
theorem dX8_layPlan_29 : decode cX8_layPlan 29 = .ok (.iload_n 1, 1) := by decide +kernel
theorem dX8_layPlan_30 : decode cX8_layPlan 30 = .ok (.if_icmp .ne 85, 3) := by decide +kernel
theorem dX8_layPlan_33 : decode cX8_layPlan 33 = .ok (.iload 6, 2) := by decide +kernel
theorem dX8_layPlan_35 : decode cX8_layPlan 35 = .ok (.bipush 7, 2) := by decide +kernel
theorem dX8_layPlan_37 : decode cX8_layPlan 37 = .ok (.idiv, 1) := by decide +kernel
theorem dX8_layPlan_38 : decode cX8_layPlan 38 = .ok (.iload_n 2, 1) := by decide +kernel
theorem dX8_layPlan_39 : decode cX8_layPlan 39 = .ok (.if_icmp .ge 11, 3) := by decide +kernel
theorem dX8_layPlan_42 : decode cX8_layPlan 42 = .ok (.iload 6, 2) := by decide +kernel
theorem dX8_layPlan_44 : decode cX8_layPlan 44 = .ok (.bipush 7, 2) := by decide +kernel
theorem dX8_layPlan_46 : decode cX8_layPlan 46 = .ok (.idiv, 1) := by decide +kernel
theorem dX8_layPlan_47 : decode cX8_layPlan 47 = .ok (.goto 4, 3) := by decide +kernel
theorem dX8_layPlan_50 : decode cX8_layPlan 50 = .ok (.iload_n 2, 1) := by decide +kernel
theorem dX8_layPlan_51 : decode cX8_layPlan 51 = .ok (.istore_n 2, 1) := by decide +kernel
theorem dX8_layPlan_52 : decode cX8_layPlan 52 = .ok (.iload 6, 2) := by decide +kernel
theorem dX8_layPlan_54 : decode cX8_layPlan 54 = .ok (.bipush 7, 2) := by decide +kernel
theorem dX8_layPlan_56 : decode cX8_layPlan 56 = .ok (.idiv, 1) := by decide +kernel
theorem dX8_layPlan_57 : decode cX8_layPlan 57 = .ok (.iload_n 3, 1) := by decide +kernel
theorem dX8_layPlan_58 : decode cX8_layPlan 58 = .ok (.if_icmp .le 11, 3) := by decide +kernel
theorem dX8_layPlan_61 : decode cX8_layPlan 61 = .ok (.iload 6, 2) := by decide +kernel
theorem dX8_layPlan_63 : decode cX8_layPlan 63 = .ok (.bipush 7, 2) := by decide +kernel
theorem dX8_layPlan_65 : decode cX8_layPlan 65 = .ok (.idiv, 1) := by decide +kernel
theorem dX8_layPlan_66 : decode cX8_layPlan 66 = .ok (.goto 4, 3) := by decide +kernel
theorem dX8_layPlan_69 : decode cX8_layPlan 69 = .ok (.iload_n 3, 1) := by decide +kernel
theorem dX8_layPlan_70 : decode cX8_layPlan 70 = .ok (.istore_n 3, 1) := by decide +kernel
theorem dX8_layPlan_71 : decode cX8_layPlan 71 = .ok (.iload 6, 2) := by decide +kernel
theorem dX8_layPlan_73 : decode cX8_layPlan 73 = .ok (.bipush 7, 2) := by decide +kernel
theorem dX8_layPlan_75 : decode cX8_layPlan 75 = .ok (.irem, 1) := by decide +kernel
theorem dX8_layPlan_76 : decode cX8_layPlan 76 = .ok (.iload 4, 2) := by decide +kernel
theorem dX8_layPlan_78 : decode cX8_layPlan 78 = .ok (.if_icmp .ge 11, 3) := by decide +kernel
theorem dX8_layPlan_81 : decode cX8_layPlan 81 = .ok (.iload 6, 2) := by decide +kernel
theorem dX8_layPlan_83 : decode cX8_layPlan 83 = .ok (.bipush 7, 2) := by decide +kernel
theorem dX8_layPlan_85 : decode cX8_layPlan 85 = .ok (.irem, 1) := by decide +kernel
theorem dX8_layPlan_86 : decode cX8_layPlan 86 = .ok (.goto 5, 3) := by decide +kernel
theorem dX8_layPlan_89 : decode cX8_layPlan 89 = .ok (.iload 4, 2) := by decide +kernel
theorem dX8_layPlan_91 : decode cX8_layPlan 91 = .ok (.istore 4, 2) := by decide +kernel
theorem dX8_layPlan_93 : decode cX8_layPlan 93 = .ok (.iload 6, 2) := by decide +kernel
theorem dX8_layPlan_95 : decode cX8_layPlan 95 = .ok (.bipush 7, 2) := by decide +kernel
theorem dX8_layPlan_97 : decode cX8_layPlan 97 = .ok (.irem, 1) := by decide +kernel
theorem dX8_layPlan_98 : decode cX8_layPlan 98 = .ok (.iload 5, 2) := by decide +kernel
theorem dX8_layPlan_100 : decode cX8_layPlan 100 = .ok (.if_icmp .le 11, 3) := by decide +kernel
theorem dX8_layPlan_103 : decode cX8_layPlan 103 = .ok (.iload 6, 2) := by decide +kernel
theorem dX8_layPlan_105 : decode cX8_layPlan 105 = .ok (.bipush 7, 2) := by decide +kernel
theorem dX8_layPlan_107 : decode cX8_layPlan 107 = .ok (.irem, 1) := by decide +kernel
theorem dX8_layPlan_108 : decode cX8_layPlan 108 = .ok (.goto 5, 3) := by decide +kernel
theorem dX8_layPlan_111 : decode cX8_layPlan 111 = .ok (.iload 5, 2) := by decide +kernel
theorem dX8_layPlan_113 : decode cX8_layPlan 113 = .ok (.istore 5, 2) := by decide +kernel
theorem dX8_layPlan_115 : decode cX8_layPlan 115 = .ok (.iinc 6 1, 3) := by decide +kernel
theorem dX8_layPlan_118 : decode cX8_layPlan 118 = .ok (.goto (-103), 3) := by decide +kernel
theorem dX8_layPlan_121 : decode cX8_layPlan 121 = .ok (.iconst 0, 1) := by decide +kernel
theorem dX8_layPlan_122 : decode cX8_layPlan 122 = .ok (.istore 6, 2) := by decide +kernel
theorem dX8_layPlan_124 : decode cX8_layPlan 124 = .ok (.iload 6, 2) := by decide +kernel
theorem dX8_layPlan_126 : decode cX8_layPlan 126 = .ok (.iload_n 3, 1) := by decide +kernel
theorem dX8_layPlan_127 : decode cX8_layPlan 127 = .ok (.iload_n 2, 1) := by decide +kernel
theorem dX8_layPlan_128 : decode cX8_layPlan 128 = .ok (.isub, 1) := by decide +kernel
theorem dX8_layPlan_129 : decode cX8_layPlan 129 = .ok (.if_icmp .gt 101, 3) := by decide +kernel
theorem dX8_layPlan_132 : decode cX8_layPlan 132 = .ok (.iconst 0, 1) := by decide +kernel
theorem dX8_layPlan_133 : decode cX8_layPlan 133 = .ok (.istore 7, 2) := by decide +kernel
theorem dX8_layPlan_135 : decode cX8_layPlan 135 = .ok (.iload 7, 2) := by decide +kernel
theorem dX8_layPlan_137 : decode cX8_layPlan 137 = .ok (.iload 5, 2) := by decide +kernel
theorem dX8_layPlan_139 : decode cX8_layPlan 139 = .ok (.iload 4, 2) := by decide +kernel
theorem dX8_layPlan_141 : decode cX8_layPlan 141 = .ok (.isub, 1) := by decide +kernel
theorem dX8_layPlan_142 : decode cX8_layPlan 142 = .ok (.if_icmp .gt 82, 3) := by decide +kernel
theorem dX8_layPlan_145 : decode cX8_layPlan 145 = .ok (.iload_n 2, 1) := by decide +kernel
theorem dX8_layPlan_146 : decode cX8_layPlan 146 = .ok (.istore 8, 2) := by decide +kernel
theorem dX8_layPlan_148 : decode cX8_layPlan 148 = .ok (.iload 8, 2) := by decide +kernel
theorem dX8_layPlan_150 : decode cX8_layPlan 150 = .ok (.iload 6, 2) := by decide +kernel
theorem dX8_layPlan_152 : decode cX8_layPlan 152 = .ok (.iadd, 1) := by decide +kernel
theorem dX8_layPlan_153 : decode cX8_layPlan 153 = .ok (.iload_n 3, 1) := by decide +kernel
theorem dX8_layPlan_154 : decode cX8_layPlan 154 = .ok (.if_icmp .gt 64, 3) := by decide +kernel
theorem dX8_layPlan_157 : decode cX8_layPlan 157 = .ok (.iload 4, 2) := by decide +kernel
theorem dX8_layPlan_159 : decode cX8_layPlan 159 = .ok (.istore 9, 2) := by decide +kernel
theorem dX8_layPlan_161 : decode cX8_layPlan 161 = .ok (.iload 9, 2) := by decide +kernel
theorem dX8_layPlan_163 : decode cX8_layPlan 163 = .ok (.iload 7, 2) := by decide +kernel
theorem dX8_layPlan_165 : decode cX8_layPlan 165 = .ok (.iadd, 1) := by decide +kernel
theorem dX8_layPlan_166 : decode cX8_layPlan 166 = .ok (.iload 5, 2) := by decide +kernel
theorem dX8_layPlan_168 : decode cX8_layPlan 168 = .ok (.if_icmp .gt 44, 3) := by decide +kernel
theorem dX8_layPlan_171 : decode cX8_layPlan 171 = .ok (.aload_n 0, 1) := by decide +kernel
theorem dX8_layPlan_172 : decode cX8_layPlan 172 = .ok (.iload 8, 2) := by decide +kernel
theorem dX8_layPlan_174 : decode cX8_layPlan 174 = .ok (.putfield 125, 3) := by decide +kernel
theorem dX8_layPlan_177 : decode cX8_layPlan 177 = .ok (.aload_n 0, 1) := by decide +kernel
theorem dX8_layPlan_178 : decode cX8_layPlan 178 = .ok (.iload 8, 2) := by decide +kernel
theorem dX8_layPlan_180 : decode cX8_layPlan 180 = .ok (.iload 6, 2) := by decide +kernel
theorem dX8_layPlan_182 : decode cX8_layPlan 182 = .ok (.iadd, 1) := by decide +kernel
theorem dX8_layPlan_183 : decode cX8_layPlan 183 = .ok (.putfield 119, 3) := by decide +kernel
theorem dX8_layPlan_186 : decode cX8_layPlan 186 = .ok (.aload_n 0, 1) := by decide +kernel
theorem dX8_layPlan_187 : decode cX8_layPlan 187 = .ok (.iload 9, 2) := by decide +kernel
theorem dX8_layPlan_189 : decode cX8_layPlan 189 = .ok (.putfield 122, 3) := by decide +kernel
theorem dX8_layPlan_192 : decode cX8_layPlan 192 = .ok (.aload_n 0, 1) := by decide +kernel
theorem dX8_layPlan_193 : decode cX8_layPlan 193 = .ok (.iload 9, 2) := by decide +kernel
theorem dX8_layPlan_195 : decode cX8_layPlan 195 = .ok (.iload 7, 2) := by decide +kernel
theorem dX8_layPlan_197 : decode cX8_layPlan 197 = .ok (.iadd, 1) := by decide +kernel
theorem dX8_layPlan_198 : decode cX8_layPlan 198 = .ok (.putfield 116, 3) := by decide +kernel
theorem dX8_layPlan_201 : decode cX8_layPlan 201 = .ok (.aload_n 0, 1) := by decide +kernel
theorem dX8_layPlan_202 : decode cX8_layPlan 202 = .ok (.iload_n 1, 1) := by decide +kernel
theorem dX8_layPlan_203 : decode cX8_layPlan 203 = .ok (.invokevirtual 188, 3) := by decide +kernel
theorem dX8_layPlan_206 : decode cX8_layPlan 206 = .ok (.iinc 9 1, 3) := by decide +kernel
theorem dX8_layPlan_209 : decode cX8_layPlan 209 = .ok (.goto (-48), 3) := by decide +kernel
theorem dX8_layPlan_212 : decode cX8_layPlan 212 = .ok (.iinc 8 1, 3) := by decide +kernel
theorem dX8_layPlan_215 : decode cX8_layPlan 215 = .ok (.goto (-67), 3) := by decide +kernel
theorem dX8_layPlan_218 : decode cX8_layPlan 218 = .ok (.iinc 7 1, 3) := by decide +kernel
theorem dX8_layPlan_221 : decode cX8_layPlan 221 = .ok (.goto (-86), 3) := by decide +kernel
theorem dX8_layPlan_224 : decode cX8_layPlan 224 = .ok (.iinc 6 1, 3) := by decide +kernel
theorem dX8_layPlan_227 : decode cX8_layPlan 227 = .ok (.goto (-103), 3) := by decide +kernel
theorem dX8_layPlan_230 : decode cX8_layPlan 230 = .ok (.iload_n 2, 1) := by decide +kernel
theorem dX8_layPlan_231 : decode cX8_layPlan 231 = .ok (.iload_n 3, 1) := by decide +kernel
theorem dX8_layPlan_232 : decode cX8_layPlan 232 = .ok (.iload 4, 2) := by decide +kernel
theorem dX8_layPlan_234 : decode cX8_layPlan 234 = .ok (.iload 5, 2) := by decide +kernel
theorem dX8_layPlan_236 : decode cX8_layPlan 236 = .ok (.invokestatic 171, 3) := by decide +kernel
theorem dX8_layPlan_239 : decode cX8_layPlan 239 = .ok (.ireturn, 1) := by decide +kernel
theorem dX8_splitPieces_0 : decode cX8_splitPieces 0 = .ok (.aload_n 0, 1) := by decide +kernel
theorem dX8_splitPieces_1 : decode cX8_splitPieces 1 = .ok (.iload_n 1, 1) := by decide +kernel
theorem dX8_splitPieces_2 : decode cX8_splitPieces 2 = .ok (.invokevirtual 156, 3) := by decide +kernel
theorem dX8_splitPieces_5 : decode cX8_splitPieces 5 = .ok (.ifCond .ne 5, 3) := by decide +kernel
theorem dX8_splitPieces_8 : decode cX8_splitPieces 8 = .ok (.iconst (-1), 1) := by decide +kernel
theorem dX8_splitPieces_9 : decode cX8_splitPieces 9 = .ok (.ireturn, 1) := by decide +kernel
theorem dX8_splitPieces_10 : decode cX8_splitPieces 10 = .ok (.aload_n 0, 1) := by decide +kernel
theorem dX8_splitPieces_11 : decode cX8_splitPieces 11 = .ok (.iload_n 1, 1) := by decide +kernel
theorem dX8_splitPieces_12 : decode cX8_splitPieces 12 = .ok (.invokevirtual 159, 3) := by decide +kernel
theorem dX8_splitPieces_15 : decode cX8_splitPieces 15 = .ok (.ifCond .eq 7, 3) := by decide +kernel
theorem dX8_splitPieces_18 : decode cX8_splitPieces 18 = .ok (.iconst 1, 1) := by decide +kernel
theorem dX8_splitPieces_19 : decode cX8_splitPieces 19 = .ok (.goto 13, 3) := by decide +kernel
theorem dX8_splitPieces_22 : decode cX8_splitPieces 22 = .ok (.aload_n 0, 1) := by decide +kernel
theorem dX8_splitPieces_23 : decode cX8_splitPieces 23 = .ok (.getfield 44, 3) := by decide +kernel
theorem dX8_splitPieces_26 : decode cX8_splitPieces 26 = .ok (.aload_n 0, 1) := by decide +kernel
theorem dX8_splitPieces_27 : decode cX8_splitPieces 27 = .ok (.iload_n 1, 1) := by decide +kernel
theorem dX8_splitPieces_28 : decode cX8_splitPieces 28 = .ok (.invokevirtual 192, 3) := by decide +kernel
theorem dX8_splitPieces_31 : decode cX8_splitPieces 31 = .ok (.iaload, 1) := by decide +kernel
theorem dX8_splitPieces_32 : decode cX8_splitPieces 32 = .ok (.ireturn, 1) := by decide +kernel
theorem dX8_splitLead_0 : decode cX8_splitLead 0 = .ok (.aload_n 0, 1) := by decide +kernel
theorem dX8_splitLead_1 : decode cX8_splitLead 1 = .ok (.iload_n 1, 1) := by decide +kernel
theorem dX8_splitLead_2 : decode cX8_splitLead 2 = .ok (.invokevirtual 156, 3) := by decide +kernel
theorem dX8_splitLead_5 : decode cX8_splitLead 5 = .ok (.ifCond .ne 5, 3) := by decide +kernel
theorem dX8_splitLead_8 : decode cX8_splitLead 8 = .ok (.iconst (-1), 1) := by decide +kernel
theorem dX8_splitLead_9 : decode cX8_splitLead 9 = .ok (.ireturn, 1) := by decide +kernel
theorem dX8_splitLead_10 : decode cX8_splitLead 10 = .ok (.aload_n 0, 1) := by decide +kernel
theorem dX8_splitLead_11 : decode cX8_splitLead 11 = .ok (.iload_n 1, 1) := by decide +kernel
theorem dX8_splitLead_12 : decode cX8_splitLead 12 = .ok (.invokevirtual 159, 3) := by decide +kernel
theorem dX8_splitLead_15 : decode cX8_splitLead 15 = .ok (.ifCond .eq 7, 3) := by decide +kernel
theorem dX8_splitLead_18 : decode cX8_splitLead 18 = .ok (.iconst 0, 1) := by decide +kernel
theorem dX8_splitLead_19 : decode cX8_splitLead 19 = .ok (.goto 13, 3) := by decide +kernel
theorem dX8_splitLead_22 : decode cX8_splitLead 22 = .ok (.aload_n 0, 1) := by decide +kernel
theorem dX8_splitLead_23 : decode cX8_splitLead 23 = .ok (.getfield 47, 3) := by decide +kernel
theorem dX8_splitLead_26 : decode cX8_splitLead 26 = .ok (.aload_n 0, 1) := by decide +kernel
theorem dX8_splitLead_27 : decode cX8_splitLead 27 = .ok (.iload_n 1, 1) := by decide +kernel
theorem dX8_splitLead_28 : decode cX8_splitLead 28 = .ok (.invokevirtual 192, 3) := by decide +kernel
theorem dX8_splitLead_31 : decode cX8_splitLead 31 = .ok (.iaload, 1) := by decide +kernel
theorem dX8_splitLead_32 : decode cX8_splitLead 32 = .ok (.ireturn, 1) := by decide +kernel
theorem dX8_cutBy_0 : decode cX8_cutBy 0 = .ok (.iload_n 2, 1) := by decide +kernel
theorem dX8_cutBy_1 : decode cX8_cutBy 1 = .ok (.sipush 343, 3) := by decide +kernel
theorem dX8_cutBy_4 : decode cX8_cutBy 4 = .ok (.idiv, 1) := by decide +kernel
theorem dX8_cutBy_5 : decode cX8_cutBy 5 = .ok (.istore 4, 2) := by decide +kernel
theorem dX8_cutBy_7 : decode cX8_cutBy 7 = .ok (.iload_n 2, 1) := by decide +kernel
theorem dX8_cutBy_8 : decode cX8_cutBy 8 = .ok (.bipush 49, 2) := by decide +kernel
theorem dX8_cutBy_10 : decode cX8_cutBy 10 = .ok (.idiv, 1) := by decide +kernel
theorem dX8_cutBy_11 : decode cX8_cutBy 11 = .ok (.bipush 7, 2) := by decide +kernel
theorem dX8_cutBy_13 : decode cX8_cutBy 13 = .ok (.irem, 1) := by decide +kernel
theorem dX8_cutBy_14 : decode cX8_cutBy 14 = .ok (.istore 5, 2) := by decide +kernel
theorem dX8_cutBy_16 : decode cX8_cutBy 16 = .ok (.iload_n 2, 1) := by decide +kernel
theorem dX8_cutBy_17 : decode cX8_cutBy 17 = .ok (.bipush 7, 2) := by decide +kernel
theorem dX8_cutBy_19 : decode cX8_cutBy 19 = .ok (.idiv, 1) := by decide +kernel
theorem dX8_cutBy_20 : decode cX8_cutBy 20 = .ok (.bipush 7, 2) := by decide +kernel
theorem dX8_cutBy_22 : decode cX8_cutBy 22 = .ok (.irem, 1) := by decide +kernel
theorem dX8_cutBy_23 : decode cX8_cutBy 23 = .ok (.istore 6, 2) := by decide +kernel
theorem dX8_cutBy_25 : decode cX8_cutBy 25 = .ok (.iload_n 2, 1) := by decide +kernel
theorem dX8_cutBy_26 : decode cX8_cutBy 26 = .ok (.bipush 7, 2) := by decide +kernel
theorem dX8_cutBy_28 : decode cX8_cutBy 28 = .ok (.irem, 1) := by decide +kernel
theorem dX8_cutBy_29 : decode cX8_cutBy 29 = .ok (.istore 7, 2) := by decide +kernel
theorem dX8_cutBy_31 : decode cX8_cutBy 31 = .ok (.aload_n 0, 1) := by decide +kernel
theorem dX8_cutBy_32 : decode cX8_cutBy 32 = .ok (.getfield 50, 3) := by decide +kernel
theorem dX8_cutBy_35 : decode cX8_cutBy 35 = .ok (.iload_n 2, 1) := by decide +kernel
theorem dX8_cutBy_36 : decode cX8_cutBy 36 = .ok (.iaload, 1) := by decide +kernel
theorem dX8_cutBy_37 : decode cX8_cutBy 37 = .ok (.bipush 7, 2) := by decide +kernel
theorem dX8_cutBy_39 : decode cX8_cutBy 39 = .ok (.irem, 1) := by decide +kernel
theorem dX8_cutBy_40 : decode cX8_cutBy 40 = .ok (.istore 8, 2) := by decide +kernel
theorem dX8_cutBy_42 : decode cX8_cutBy 42 = .ok (.aload_n 0, 1) := by decide +kernel
theorem dX8_cutBy_43 : decode cX8_cutBy 43 = .ok (.getfield 50, 3) := by decide +kernel
theorem dX8_cutBy_46 : decode cX8_cutBy 46 = .ok (.iload_n 2, 1) := by decide +kernel
theorem dX8_cutBy_47 : decode cX8_cutBy 47 = .ok (.iaload, 1) := by decide +kernel
theorem dX8_cutBy_48 : decode cX8_cutBy 48 = .ok (.bipush 7, 2) := by decide +kernel
theorem dX8_cutBy_50 : decode cX8_cutBy 50 = .ok (.if_icmp .ge 7, 3) := by decide +kernel
theorem dX8_cutBy_53 : decode cX8_cutBy 53 = .ok (.iconst 1, 1) := by decide +kernel
theorem dX8_cutBy_54 : decode cX8_cutBy 54 = .ok (.goto 4, 3) := by decide +kernel
theorem dX8_cutBy_57 : decode cX8_cutBy 57 = .ok (.iconst 0, 1) := by decide +kernel
theorem dX8_cutBy_58 : decode cX8_cutBy 58 = .ok (.istore 9, 2) := by decide +kernel
theorem dX8_cutBy_60 : decode cX8_cutBy 60 = .ok (.iload 9, 2) := by decide +kernel
theorem dX8_cutBy_62 : decode cX8_cutBy 62 = .ok (.iconst 1, 1) := by decide +kernel
theorem dX8_cutBy_63 : decode cX8_cutBy 63 = .ok (.if_icmp .ne 8, 3) := by decide +kernel
theorem dX8_cutBy_66 : decode cX8_cutBy 66 = .ok (.iload 6, 2) := by decide +kernel
theorem dX8_cutBy_68 : decode cX8_cutBy 68 = .ok (.goto 5, 3) := by decide +kernel
theorem dX8_cutBy_71 : decode cX8_cutBy 71 = .ok (.iload 4, 2) := by decide +kernel
theorem dX8_cutBy_73 : decode cX8_cutBy 73 = .ok (.istore 10, 2) := by decide +kernel
theorem dX8_cutBy_75 : decode cX8_cutBy 75 = .ok (.iload 9, 2) := by decide +kernel
theorem dX8_cutBy_77 : decode cX8_cutBy 77 = .ok (.iconst 1, 1) := by decide +kernel
theorem dX8_cutBy_78 : decode cX8_cutBy 78 = .ok (.if_icmp .ne 8, 3) := by decide +kernel
theorem dX8_cutBy_81 : decode cX8_cutBy 81 = .ok (.iload 7, 2) := by decide +kernel
theorem dX8_cutBy_83 : decode cX8_cutBy 83 = .ok (.goto 5, 3) := by decide +kernel
theorem dX8_cutBy_86 : decode cX8_cutBy 86 = .ok (.iload 5, 2) := by decide +kernel
theorem dX8_cutBy_88 : decode cX8_cutBy 88 = .ok (.istore 11, 2) := by decide +kernel
theorem dX8_cutBy_90 : decode cX8_cutBy 90 = .ok (.iload 10, 2) := by decide +kernel
theorem dX8_cutBy_92 : decode cX8_cutBy 92 = .ok (.istore 12, 2) := by decide +kernel
theorem dX8_cutBy_94 : decode cX8_cutBy 94 = .ok (.iload 12, 2) := by decide +kernel
theorem dX8_cutBy_96 : decode cX8_cutBy 96 = .ok (.iload 11, 2) := by decide +kernel
theorem dX8_cutBy_98 : decode cX8_cutBy 98 = .ok (.if_icmp .gt 94, 3) := by decide +kernel
theorem dX8_cutBy_101 : decode cX8_cutBy 101 = .ok (.iload 9, 2) := by decide +kernel
theorem dX8_cutBy_103 : decode cX8_cutBy 103 = .ok (.iconst 1, 1) := by decide +kernel
theorem dX8_cutBy_104 : decode cX8_cutBy 104 = .ok (.if_icmp .ne 14, 3) := by decide +kernel
theorem dX8_cutBy_107 : decode cX8_cutBy 107 = .ok (.bipush 7, 2) := by decide +kernel
theorem dX8_cutBy_109 : decode cX8_cutBy 109 = .ok (.iload 8, 2) := by decide +kernel
theorem dX8_cutBy_111 : decode cX8_cutBy 111 = .ok (.imul, 1) := by decide +kernel
theorem dX8_cutBy_112 : decode cX8_cutBy 112 = .ok (.iload 12, 2) := by decide +kernel
theorem dX8_cutBy_114 : decode cX8_cutBy 114 = .ok (.iadd, 1) := by decide +kernel
theorem dX8_cutBy_115 : decode cX8_cutBy 115 = .ok (.goto 11, 3) := by decide +kernel
theorem dX8_cutBy_118 : decode cX8_cutBy 118 = .ok (.bipush 7, 2) := by decide +kernel
theorem dX8_cutBy_120 : decode cX8_cutBy 120 = .ok (.iload 12, 2) := by decide +kernel
theorem dX8_cutBy_122 : decode cX8_cutBy 122 = .ok (.imul, 1) := by decide +kernel
theorem dX8_cutBy_123 : decode cX8_cutBy 123 = .ok (.iload 8, 2) := by decide +kernel
theorem dX8_cutBy_125 : decode cX8_cutBy 125 = .ok (.iadd, 1) := by decide +kernel
theorem dX8_cutBy_126 : decode cX8_cutBy 126 = .ok (.istore 13, 2) := by decide +kernel
theorem dX8_cutBy_128 : decode cX8_cutBy 128 = .ok (.aload_n 0, 1) := by decide +kernel
theorem dX8_cutBy_129 : decode cX8_cutBy 129 = .ok (.getfield 7, 3) := by decide +kernel
theorem dX8_cutBy_132 : decode cX8_cutBy 132 = .ok (.bipush 53, 2) := by decide +kernel
theorem dX8_cutBy_134 : decode cX8_cutBy 134 = .ok (.bipush 49, 2) := by decide +kernel
theorem dX8_cutBy_136 : decode cX8_cutBy 136 = .ok (.iload 9, 2) := by decide +kernel
theorem dX8_cutBy_138 : decode cX8_cutBy 138 = .ok (.imul, 1) := by decide +kernel
theorem dX8_cutBy_139 : decode cX8_cutBy 139 = .ok (.iadd, 1) := by decide +kernel
theorem dX8_cutBy_140 : decode cX8_cutBy 140 = .ok (.iload 13, 2) := by decide +kernel
theorem dX8_cutBy_142 : decode cX8_cutBy 142 = .ok (.iadd, 1) := by decide +kernel
theorem dX8_cutBy_143 : decode cX8_cutBy 143 = .ok (.aload_n 0, 1) := by decide +kernel
theorem dX8_cutBy_144 : decode cX8_cutBy 144 = .ok (.getfield 25, 3) := by decide +kernel
theorem dX8_cutBy_147 : decode cX8_cutBy 147 = .ok (.iload 13, 2) := by decide +kernel
theorem dX8_cutBy_149 : decode cX8_cutBy 149 = .ok (.iaload, 1) := by decide +kernel
theorem dX8_cutBy_150 : decode cX8_cutBy 150 = .ok (.iload_n 1, 1) := by decide +kernel
theorem dX8_cutBy_151 : decode cX8_cutBy 151 = .ok (.if_icmp .ne 18, 3) := by decide +kernel
theorem dX8_cutBy_154 : decode cX8_cutBy 154 = .ok (.aload_n 0, 1) := by decide +kernel
theorem dX8_cutBy_155 : decode cX8_cutBy 155 = .ok (.iload 13, 2) := by decide +kernel
theorem dX8_cutBy_157 : decode cX8_cutBy 157 = .ok (.iload 9, 2) := by decide +kernel
theorem dX8_cutBy_159 : decode cX8_cutBy 159 = .ok (.invokevirtual 128, 3) := by decide +kernel
theorem dX8_cutBy_162 : decode cX8_cutBy 162 = .ok (.ifCond .eq 7, 3) := by decide +kernel
theorem dX8_cutBy_165 : decode cX8_cutBy 165 = .ok (.iconst 1, 1) := by decide +kernel
theorem dX8_cutBy_166 : decode cX8_cutBy 166 = .ok (.goto 19, 3) := by decide +kernel
theorem dX8_cutBy_169 : decode cX8_cutBy 169 = .ok (.aload_n 0, 1) := by decide +kernel
theorem dX8_cutBy_170 : decode cX8_cutBy 170 = .ok (.getfield 7, 3) := by decide +kernel
theorem dX8_cutBy_173 : decode cX8_cutBy 173 = .ok (.bipush 53, 2) := by decide +kernel
theorem dX8_cutBy_175 : decode cX8_cutBy 175 = .ok (.bipush 49, 2) := by decide +kernel
theorem dX8_cutBy_177 : decode cX8_cutBy 177 = .ok (.iload 9, 2) := by decide +kernel
theorem dX8_cutBy_179 : decode cX8_cutBy 179 = .ok (.imul, 1) := by decide +kernel
theorem dX8_cutBy_180 : decode cX8_cutBy 180 = .ok (.iadd, 1) := by decide +kernel
theorem dX8_cutBy_181 : decode cX8_cutBy 181 = .ok (.iload 13, 2) := by decide +kernel
theorem dX8_cutBy_183 : decode cX8_cutBy 183 = .ok (.iadd, 1) := by decide +kernel
theorem dX8_cutBy_184 : decode cX8_cutBy 184 = .ok (.iaload, 1) := by decide +kernel
theorem dX8_cutBy_185 : decode cX8_cutBy 185 = .ok (.iastore, 1) := by decide +kernel
theorem dX8_cutBy_186 : decode cX8_cutBy 186 = .ok (.iinc 12 1, 3) := by decide +kernel
theorem dX8_cutBy_189 : decode cX8_cutBy 189 = .ok (.goto (-95), 3) := by decide +kernel
theorem dX8_cutBy_192 : decode cX8_cutBy 192 = .ok (.aload_n 0, 1) := by decide +kernel
theorem dX8_cutBy_193 : decode cX8_cutBy 193 = .ok (.getfield 53, 3) := by decide +kernel
theorem dX8_cutBy_196 : decode cX8_cutBy 196 = .ok (.iload_n 3, 1) := by decide +kernel
theorem dX8_cutBy_197 : decode cX8_cutBy 197 = .ok (.iload 9, 2) := by decide +kernel
theorem dX8_cutBy_199 : decode cX8_cutBy 199 = .ok (.iconst 1, 1) := by decide +kernel
theorem dX8_cutBy_200 : decode cX8_cutBy 200 = .ok (.if_icmp .ne 17, 3) := by decide +kernel
theorem dX8_cutBy_203 : decode cX8_cutBy 203 = .ok (.iload 4, 2) := by decide +kernel
theorem dX8_cutBy_205 : decode cX8_cutBy 205 = .ok (.iload 8, 2) := by decide +kernel
theorem dX8_cutBy_207 : decode cX8_cutBy 207 = .ok (.iload 6, 2) := by decide +kernel
theorem dX8_cutBy_209 : decode cX8_cutBy 209 = .ok (.iload 7, 2) := by decide +kernel
theorem dX8_cutBy_211 : decode cX8_cutBy 211 = .ok (.invokestatic 171, 3) := by decide +kernel
theorem dX8_cutBy_214 : decode cX8_cutBy 214 = .ok (.goto 14, 3) := by decide +kernel
theorem dX8_cutBy_217 : decode cX8_cutBy 217 = .ok (.iload 4, 2) := by decide +kernel
theorem dX8_cutBy_219 : decode cX8_cutBy 219 = .ok (.iload 5, 2) := by decide +kernel
theorem dX8_cutBy_221 : decode cX8_cutBy 221 = .ok (.iload 6, 2) := by decide +kernel
theorem dX8_cutBy_223 : decode cX8_cutBy 223 = .ok (.iload 8, 2) := by decide +kernel
theorem dX8_cutBy_225 : decode cX8_cutBy 225 = .ok (.invokestatic 171, 3) := by decide +kernel
theorem dX8_cutBy_228 : decode cX8_cutBy 228 = .ok (.iastore, 1) := by decide +kernel
theorem dX8_cutBy_229 : decode cX8_cutBy 229 = .ok (.aload_n 0, 1) := by decide +kernel
theorem dX8_cutBy_230 : decode cX8_cutBy 230 = .ok (.getfield 53, 3) := by decide +kernel
theorem dX8_cutBy_233 : decode cX8_cutBy 233 = .ok (.iload_n 3, 1) := by decide +kernel
theorem dX8_cutBy_234 : decode cX8_cutBy 234 = .ok (.iconst 1, 1) := by decide +kernel
theorem dX8_cutBy_235 : decode cX8_cutBy 235 = .ok (.iadd, 1) := by decide +kernel
theorem dX8_cutBy_236 : decode cX8_cutBy 236 = .ok (.iload 9, 2) := by decide +kernel
theorem dX8_cutBy_238 : decode cX8_cutBy 238 = .ok (.iconst 1, 1) := by decide +kernel
theorem dX8_cutBy_239 : decode cX8_cutBy 239 = .ok (.if_icmp .ne 19, 3) := by decide +kernel
theorem dX8_cutBy_242 : decode cX8_cutBy 242 = .ok (.iload 8, 2) := by decide +kernel
theorem dX8_cutBy_244 : decode cX8_cutBy 244 = .ok (.iconst 1, 1) := by decide +kernel
theorem dX8_cutBy_245 : decode cX8_cutBy 245 = .ok (.iadd, 1) := by decide +kernel
theorem dX8_cutBy_246 : decode cX8_cutBy 246 = .ok (.iload 5, 2) := by decide +kernel
theorem dX8_cutBy_248 : decode cX8_cutBy 248 = .ok (.iload 6, 2) := by decide +kernel
theorem dX8_cutBy_250 : decode cX8_cutBy 250 = .ok (.iload 7, 2) := by decide +kernel
theorem dX8_cutBy_252 : decode cX8_cutBy 252 = .ok (.invokestatic 171, 3) := by decide +kernel
theorem dX8_cutBy_255 : decode cX8_cutBy 255 = .ok (.goto 16, 3) := by decide +kernel
theorem dX8_cutBy_258 : decode cX8_cutBy 258 = .ok (.iload 4, 2) := by decide +kernel
theorem dX8_cutBy_260 : decode cX8_cutBy 260 = .ok (.iload 5, 2) := by decide +kernel
theorem dX8_cutBy_262 : decode cX8_cutBy 262 = .ok (.iload 8, 2) := by decide +kernel
theorem dX8_cutBy_264 : decode cX8_cutBy 264 = .ok (.iconst 1, 1) := by decide +kernel
theorem dX8_cutBy_265 : decode cX8_cutBy 265 = .ok (.iadd, 1) := by decide +kernel
theorem dX8_cutBy_266 : decode cX8_cutBy 266 = .ok (.iload 7, 2) := by decide +kernel
theorem dX8_cutBy_268 : decode cX8_cutBy 268 = .ok (.invokestatic 171, 3) := by decide +kernel
theorem dX8_cutBy_271 : decode cX8_cutBy 271 = .ok (.iastore, 1) := by decide +kernel
theorem dX8_cutBy_272 : decode cX8_cutBy 272 = .ok (.iload_n 3, 1) := by decide +kernel
theorem dX8_cutBy_273 : decode cX8_cutBy 273 = .ok (.iconst 2, 1) := by decide +kernel
theorem dX8_cutBy_274 : decode cX8_cutBy 274 = .ok (.iadd, 1) := by decide +kernel
theorem dX8_cutBy_275 : decode cX8_cutBy 275 = .ok (.ireturn, 1) := by decide +kernel
theorem dX8_applySplit_0 : decode cX8_applySplit 0 = .ok (.aload_n 0, 1) := by decide +kernel
theorem dX8_applySplit_1 : decode cX8_applySplit 1 = .ok (.iload_n 1, 1) := by decide +kernel
theorem dX8_applySplit_2 : decode cX8_applySplit 2 = .ok (.invokevirtual 156, 3) := by decide +kernel
theorem dX8_applySplit_5 : decode cX8_applySplit 5 = .ok (.ifCond .ne 5, 3) := by decide +kernel
theorem dX8_applySplit_8 : decode cX8_applySplit 8 = .ok (.iconst (-1), 1) := by decide +kernel
theorem dX8_applySplit_9 : decode cX8_applySplit 9 = .ok (.ireturn, 1) := by decide +kernel
theorem dX8_applySplit_10 : decode cX8_applySplit 10 = .ok (.aload_n 0, 1) := by decide +kernel
theorem dX8_applySplit_11 : decode cX8_applySplit 11 = .ok (.iload_n 1, 1) := by decide +kernel
theorem dX8_applySplit_12 : decode cX8_applySplit 12 = .ok (.invokevirtual 159, 3) := by decide +kernel
theorem dX8_applySplit_15 : decode cX8_applySplit 15 = .ok (.ifCond .eq 6, 3) := by decide +kernel
theorem dX8_applySplit_18 : decode cX8_applySplit 18 = .ok (.bipush (-2), 2) := by decide +kernel
theorem dX8_applySplit_20 : decode cX8_applySplit 20 = .ok (.ireturn, 1) := by decide +kernel
theorem dX8_applySplit_21 : decode cX8_applySplit 21 = .ok (.aload_n 0, 1) := by decide +kernel
theorem dX8_applySplit_22 : decode cX8_applySplit 22 = .ok (.invokevirtual 73, 3) := by decide +kernel
theorem dX8_applySplit_25 : decode cX8_applySplit 25 = .ok (.aload_n 0, 1) := by decide +kernel
theorem dX8_applySplit_26 : decode cX8_applySplit 26 = .ok (.getfield 53, 3) := by decide +kernel
theorem dX8_applySplit_29 : decode cX8_applySplit 29 = .ok (.iconst 0, 1) := by decide +kernel
theorem dX8_applySplit_30 : decode cX8_applySplit 30 = .ok (.aload_n 0, 1) := by decide +kernel
theorem dX8_applySplit_31 : decode cX8_applySplit 31 = .ok (.iload_n 1, 1) := by decide +kernel
theorem dX8_applySplit_32 : decode cX8_applySplit 32 = .ok (.invokevirtual 192, 3) := by decide +kernel
theorem dX8_applySplit_35 : decode cX8_applySplit 35 = .ok (.iastore, 1) := by decide +kernel
theorem dX8_applySplit_36 : decode cX8_applySplit 36 = .ok (.iconst 1, 1) := by decide +kernel
theorem dX8_applySplit_37 : decode cX8_applySplit 37 = .ok (.istore_n 2, 1) := by decide +kernel
theorem dX8_applySplit_38 : decode cX8_applySplit 38 = .ok (.iload_n 2, 1) := by decide +kernel
theorem dX8_applySplit_39 : decode cX8_applySplit 39 = .ok (.ifCond .le 38, 3) := by decide +kernel
theorem dX8_applySplit_42 : decode cX8_applySplit 42 = .ok (.iinc 2 (-1), 3) := by decide +kernel
theorem dX8_applySplit_45 : decode cX8_applySplit 45 = .ok (.aload_n 0, 1) := by decide +kernel
theorem dX8_applySplit_46 : decode cX8_applySplit 46 = .ok (.getfield 53, 3) := by decide +kernel
theorem dX8_applySplit_49 : decode cX8_applySplit 49 = .ok (.iload_n 2, 1) := by decide +kernel
theorem dX8_applySplit_50 : decode cX8_applySplit 50 = .ok (.iaload, 1) := by decide +kernel
theorem dX8_applySplit_51 : decode cX8_applySplit 51 = .ok (.istore_n 3, 1) := by decide +kernel
theorem dX8_applySplit_52 : decode cX8_applySplit 52 = .ok (.aload_n 0, 1) := by decide +kernel
theorem dX8_applySplit_53 : decode cX8_applySplit 53 = .ok (.getfield 50, 3) := by decide +kernel
theorem dX8_applySplit_56 : decode cX8_applySplit 56 = .ok (.iload_n 3, 1) := by decide +kernel
theorem dX8_applySplit_57 : decode cX8_applySplit 57 = .ok (.iaload, 1) := by decide +kernel
theorem dX8_applySplit_58 : decode cX8_applySplit 58 = .ok (.iconst (-1), 1) := by decide +kernel
theorem dX8_applySplit_59 : decode cX8_applySplit 59 = .ok (.if_icmp .ne 7, 3) := by decide +kernel
theorem dX8_applySplit_62 : decode cX8_applySplit 62 = .ok (.iload_n 2, 1) := by decide +kernel
theorem dX8_applySplit_63 : decode cX8_applySplit 63 = .ok (.goto 10, 3) := by decide +kernel
theorem dX8_applySplit_66 : decode cX8_applySplit 66 = .ok (.aload_n 0, 1) := by decide +kernel
theorem dX8_applySplit_67 : decode cX8_applySplit 67 = .ok (.iload_n 1, 1) := by decide +kernel
theorem dX8_applySplit_68 : decode cX8_applySplit 68 = .ok (.iload_n 3, 1) := by decide +kernel
theorem dX8_applySplit_69 : decode cX8_applySplit 69 = .ok (.iload_n 2, 1) := by decide +kernel
theorem dX8_applySplit_70 : decode cX8_applySplit 70 = .ok (.invokevirtual 195, 3) := by decide +kernel
theorem dX8_applySplit_73 : decode cX8_applySplit 73 = .ok (.istore_n 2, 1) := by decide +kernel
theorem dX8_applySplit_74 : decode cX8_applySplit 74 = .ok (.goto (-36), 3) := by decide +kernel
theorem dX8_applySplit_77 : decode cX8_applySplit 77 = .ok (.aload_n 0, 1) := by decide +kernel
theorem dX8_applySplit_78 : decode cX8_applySplit 78 = .ok (.invokevirtual 89, 3) := by decide +kernel
theorem dX8_applySplit_81 : decode cX8_applySplit 81 = .ok (.aload_n 0, 1) := by decide +kernel
theorem dX8_applySplit_82 : decode cX8_applySplit 82 = .ok (.getfield 92, 3) := by decide +kernel
theorem dX8_applySplit_85 : decode cX8_applySplit 85 = .ok (.ireturn, 1) := by decide +kernel
theorem dX8_equalNeighbours_0 : decode cX8_equalNeighbours 0 = .ok (.aload_n 0, 1) := by decide +kernel
theorem dX8_equalNeighbours_1 : decode cX8_equalNeighbours 1 = .ok (.invokevirtual 168, 3) := by decide +kernel
theorem dX8_equalNeighbours_4 : decode cX8_equalNeighbours 4 = .ok (.istore_n 1, 1) := by decide +kernel
theorem dX8_equalNeighbours_5 : decode cX8_equalNeighbours 5 = .ok (.iconst 0, 1) := by decide +kernel
theorem dX8_equalNeighbours_6 : decode cX8_equalNeighbours 6 = .ok (.istore_n 2, 1) := by decide +kernel
theorem dX8_equalNeighbours_7 : decode cX8_equalNeighbours 7 = .ok (.iconst 0, 1) := by decide +kernel
theorem dX8_equalNeighbours_8 : decode cX8_equalNeighbours 8 = .ok (.istore_n 3, 1) := by decide +kernel
theorem dX8_equalNeighbours_9 : decode cX8_equalNeighbours 9 = .ok (.iload_n 3, 1) := by decide +kernel
theorem dX8_equalNeighbours_10 : decode cX8_equalNeighbours 10 = .ok (.bipush 49, 2) := by decide +kernel
theorem dX8_equalNeighbours_12 : decode cX8_equalNeighbours 12 = .ok (.if_icmp .ge 145, 3) := by decide +kernel
theorem dX8_equalNeighbours_15 : decode cX8_equalNeighbours 15 = .ok (.iconst 0, 1) := by decide +kernel
theorem dX8_equalNeighbours_16 : decode cX8_equalNeighbours 16 = .ok (.istore 4, 2) := by decide +kernel
theorem dX8_equalNeighbours_18 : decode cX8_equalNeighbours 18 = .ok (.iload 4, 2) := by decide +kernel
theorem dX8_equalNeighbours_20 : decode cX8_equalNeighbours 20 = .ok (.bipush 49, 2) := by decide +kernel
theorem dX8_equalNeighbours_22 : decode cX8_equalNeighbours 22 = .ok (.if_icmp .ge 129, 3) := by decide +kernel
theorem dX8_equalNeighbours_25 : decode cX8_equalNeighbours 25 = .ok (.aload_n 0, 1) := by decide +kernel
theorem dX8_equalNeighbours_26 : decode cX8_equalNeighbours 26 = .ok (.getfield 25, 3) := by decide +kernel
theorem dX8_equalNeighbours_29 : decode cX8_equalNeighbours 29 = .ok (.iload_n 3, 1) := by decide +kernel
theorem dX8_equalNeighbours_30 : decode cX8_equalNeighbours 30 = .ok (.iaload, 1) := by decide +kernel
theorem dX8_equalNeighbours_31 : decode cX8_equalNeighbours 31 = .ok (.ifCond .lt 53, 3) := by decide +kernel
theorem dX8_equalNeighbours_34 : decode cX8_equalNeighbours 34 = .ok (.aload_n 0, 1) := by decide +kernel
theorem dX8_equalNeighbours_35 : decode cX8_equalNeighbours 35 = .ok (.getfield 25, 3) := by decide +kernel
theorem dX8_equalNeighbours_38 : decode cX8_equalNeighbours 38 = .ok (.iload 4, 2) := by decide +kernel
theorem dX8_equalNeighbours_40 : decode cX8_equalNeighbours 40 = .ok (.iaload, 1) := by decide +kernel
theorem dX8_equalNeighbours_41 : decode cX8_equalNeighbours 41 = .ok (.aload_n 0, 1) := by decide +kernel
theorem dX8_equalNeighbours_42 : decode cX8_equalNeighbours 42 = .ok (.getfield 25, 3) := by decide +kernel
theorem dX8_equalNeighbours_45 : decode cX8_equalNeighbours 45 = .ok (.iload_n 3, 1) := by decide +kernel
theorem dX8_equalNeighbours_46 : decode cX8_equalNeighbours 46 = .ok (.iaload, 1) := by decide +kernel
theorem dX8_equalNeighbours_47 : decode cX8_equalNeighbours 47 = .ok (.if_icmp .le 37, 3) := by decide +kernel
theorem dX8_equalNeighbours_50 : decode cX8_equalNeighbours 50 = .ok (.aload_n 0, 1) := by decide +kernel
theorem dX8_equalNeighbours_51 : decode cX8_equalNeighbours 51 = .ok (.aload_n 0, 1) := by decide +kernel
theorem dX8_equalNeighbours_52 : decode cX8_equalNeighbours 52 = .ok (.getfield 25, 3) := by decide +kernel
theorem dX8_equalNeighbours_55 : decode cX8_equalNeighbours 55 = .ok (.iload_n 3, 1) := by decide +kernel
theorem dX8_equalNeighbours_56 : decode cX8_equalNeighbours 56 = .ok (.iaload, 1) := by decide +kernel
theorem dX8_equalNeighbours_57 : decode cX8_equalNeighbours 57 = .ok (.invokevirtual 199, 3) := by decide +kernel
theorem dX8_equalNeighbours_60 : decode cX8_equalNeighbours 60 = .ok (.iload_n 3, 1) := by decide +kernel
theorem dX8_equalNeighbours_61 : decode cX8_equalNeighbours 61 = .ok (.if_icmp .ne 23, 3) := by decide +kernel
theorem dX8_equalNeighbours_64 : decode cX8_equalNeighbours 64 = .ok (.aload_n 0, 1) := by decide +kernel
theorem dX8_equalNeighbours_65 : decode cX8_equalNeighbours 65 = .ok (.aload_n 0, 1) := by decide +kernel
theorem dX8_equalNeighbours_66 : decode cX8_equalNeighbours 66 = .ok (.getfield 25, 3) := by decide +kernel
theorem dX8_equalNeighbours_69 : decode cX8_equalNeighbours 69 = .ok (.iload 4, 2) := by decide +kernel
theorem dX8_equalNeighbours_71 : decode cX8_equalNeighbours 71 = .ok (.iaload, 1) := by decide +kernel
theorem dX8_equalNeighbours_72 : decode cX8_equalNeighbours 72 = .ok (.invokevirtual 199, 3) := by decide +kernel
theorem dX8_equalNeighbours_75 : decode cX8_equalNeighbours 75 = .ok (.iload 4, 2) := by decide +kernel
theorem dX8_equalNeighbours_77 : decode cX8_equalNeighbours 77 = .ok (.if_icmp .ne 7, 3) := by decide +kernel
theorem dX8_equalNeighbours_80 : decode cX8_equalNeighbours 80 = .ok (.iconst 1, 1) := by decide +kernel
theorem dX8_equalNeighbours_81 : decode cX8_equalNeighbours 81 = .ok (.goto 4, 3) := by decide +kernel
theorem dX8_equalNeighbours_84 : decode cX8_equalNeighbours 84 = .ok (.iconst 0, 1) := by decide +kernel
theorem dX8_equalNeighbours_85 : decode cX8_equalNeighbours 85 = .ok (.istore 5, 2) := by decide +kernel
theorem dX8_equalNeighbours_87 : decode cX8_equalNeighbours 87 = .ok (.iload_n 2, 1) := by decide +kernel
theorem dX8_equalNeighbours_88 : decode cX8_equalNeighbours 88 = .ok (.iload 5, 2) := by decide +kernel
theorem dX8_equalNeighbours_90 : decode cX8_equalNeighbours 90 = .ok (.ifCond .eq 52, 3) := by decide +kernel
theorem dX8_equalNeighbours_93 : decode cX8_equalNeighbours 93 = .ok (.aload_n 0, 1) := by decide +kernel
theorem dX8_equalNeighbours_94 : decode cX8_equalNeighbours 94 = .ok (.getfield 38, 3) := by decide +kernel
theorem dX8_equalNeighbours_97 : decode cX8_equalNeighbours 97 = .ok (.bipush 49, 2) := by decide +kernel
theorem dX8_equalNeighbours_99 : decode cX8_equalNeighbours 99 = .ok (.aload_n 0, 1) := by decide +kernel
theorem dX8_equalNeighbours_100 : decode cX8_equalNeighbours 100 = .ok (.getfield 25, 3) := by decide +kernel
theorem dX8_equalNeighbours_103 : decode cX8_equalNeighbours 103 = .ok (.iload_n 3, 1) := by decide +kernel
theorem dX8_equalNeighbours_104 : decode cX8_equalNeighbours 104 = .ok (.iaload, 1) := by decide +kernel
theorem dX8_equalNeighbours_105 : decode cX8_equalNeighbours 105 = .ok (.imul, 1) := by decide +kernel
theorem dX8_equalNeighbours_106 : decode cX8_equalNeighbours 106 = .ok (.aload_n 0, 1) := by decide +kernel
theorem dX8_equalNeighbours_107 : decode cX8_equalNeighbours 107 = .ok (.getfield 25, 3) := by decide +kernel
theorem dX8_equalNeighbours_110 : decode cX8_equalNeighbours 110 = .ok (.iload 4, 2) := by decide +kernel
theorem dX8_equalNeighbours_112 : decode cX8_equalNeighbours 112 = .ok (.iaload, 1) := by decide +kernel
theorem dX8_equalNeighbours_113 : decode cX8_equalNeighbours 113 = .ok (.iadd, 1) := by decide +kernel
theorem dX8_equalNeighbours_114 : decode cX8_equalNeighbours 114 = .ok (.baload, 1) := by decide +kernel
theorem dX8_equalNeighbours_115 : decode cX8_equalNeighbours 115 = .ok (.ifCond .eq 27, 3) := by decide +kernel
theorem dX8_equalNeighbours_118 : decode cX8_equalNeighbours 118 = .ok (.aload_n 0, 1) := by decide +kernel
theorem dX8_equalNeighbours_119 : decode cX8_equalNeighbours 119 = .ok (.getfield 7, 3) := by decide +kernel
theorem dX8_equalNeighbours_122 : decode cX8_equalNeighbours 122 = .ok (.iconst 4, 1) := by decide +kernel
theorem dX8_equalNeighbours_123 : decode cX8_equalNeighbours 123 = .ok (.iload_n 3, 1) := by decide +kernel
theorem dX8_equalNeighbours_124 : decode cX8_equalNeighbours 124 = .ok (.iadd, 1) := by decide +kernel
theorem dX8_equalNeighbours_125 : decode cX8_equalNeighbours 125 = .ok (.iaload, 1) := by decide +kernel
theorem dX8_equalNeighbours_126 : decode cX8_equalNeighbours 126 = .ok (.aload_n 0, 1) := by decide +kernel
theorem dX8_equalNeighbours_127 : decode cX8_equalNeighbours 127 = .ok (.getfield 7, 3) := by decide +kernel
theorem dX8_equalNeighbours_130 : decode cX8_equalNeighbours 130 = .ok (.iconst 4, 1) := by decide +kernel
theorem dX8_equalNeighbours_131 : decode cX8_equalNeighbours 131 = .ok (.iload 4, 2) := by decide +kernel
theorem dX8_equalNeighbours_133 : decode cX8_equalNeighbours 133 = .ok (.iadd, 1) := by decide +kernel
theorem dX8_equalNeighbours_134 : decode cX8_equalNeighbours 134 = .ok (.iaload, 1) := by decide +kernel
theorem dX8_equalNeighbours_135 : decode cX8_equalNeighbours 135 = .ok (.if_icmp .ne 7, 3) := by decide +kernel
theorem dX8_equalNeighbours_138 : decode cX8_equalNeighbours 138 = .ok (.iconst 1, 1) := by decide +kernel
theorem dX8_equalNeighbours_139 : decode cX8_equalNeighbours 139 = .ok (.goto 4, 3) := by decide +kernel
theorem dX8_equalNeighbours_142 : decode cX8_equalNeighbours 142 = .ok (.iconst 0, 1) := by decide +kernel
theorem dX8_equalNeighbours_143 : decode cX8_equalNeighbours 143 = .ok (.iadd, 1) := by decide +kernel
theorem dX8_equalNeighbours_144 : decode cX8_equalNeighbours 144 = .ok (.istore_n 2, 1) := by decide +kernel
theorem dX8_equalNeighbours_145 : decode cX8_equalNeighbours 145 = .ok (.iinc 4 1, 3) := by decide +kernel
theorem dX8_equalNeighbours_148 : decode cX8_equalNeighbours 148 = .ok (.goto (-130), 3) := by decide +kernel
theorem dX8_equalNeighbours_151 : decode cX8_equalNeighbours 151 = .ok (.iinc 3 1, 3) := by decide +kernel
theorem dX8_equalNeighbours_154 : decode cX8_equalNeighbours 154 = .ok (.goto (-145), 3) := by decide +kernel
theorem dX8_equalNeighbours_157 : decode cX8_equalNeighbours 157 = .ok (.iload_n 2, 1) := by decide +kernel
theorem dX8_equalNeighbours_158 : decode cX8_equalNeighbours 158 = .ok (.ireturn, 1) := by decide +kernel
theorem dX8_firstOf_0 : decode cX8_firstOf 0 = .ok (.iconst 0, 1) := by decide +kernel
theorem dX8_firstOf_1 : decode cX8_firstOf 1 = .ok (.istore_n 2, 1) := by decide +kernel
theorem dX8_firstOf_2 : decode cX8_firstOf 2 = .ok (.aload_n 0, 1) := by decide +kernel
theorem dX8_firstOf_3 : decode cX8_firstOf 3 = .ok (.getfield 25, 3) := by decide +kernel
theorem dX8_firstOf_6 : decode cX8_firstOf 6 = .ok (.iload_n 2, 1) := by decide +kernel
theorem dX8_firstOf_7 : decode cX8_firstOf 7 = .ok (.iaload, 1) := by decide +kernel
theorem dX8_firstOf_8 : decode cX8_firstOf 8 = .ok (.iload_n 1, 1) := by decide +kernel
theorem dX8_firstOf_9 : decode cX8_firstOf 9 = .ok (.if_icmp .eq 9, 3) := by decide +kernel
theorem dX8_firstOf_12 : decode cX8_firstOf 12 = .ok (.iinc 2 1, 3) := by decide +kernel
theorem dX8_firstOf_15 : decode cX8_firstOf 15 = .ok (.goto (-13), 3) := by decide +kernel
theorem dX8_firstOf_18 : decode cX8_firstOf 18 = .ok (.iload_n 2, 1) := by decide +kernel
theorem dX8_firstOf_19 : decode cX8_firstOf 19 = .ok (.ireturn, 1) := by decide +kernel
theorem dX8_leftNear_0 : decode cX8_leftNear 0 = .ok (.iconst 0, 1) := by decide +kernel
theorem dX8_leftNear_1 : decode cX8_leftNear 1 = .ok (.istore_n 2, 1) := by decide +kernel
theorem dX8_leftNear_2 : decode cX8_leftNear 2 = .ok (.iconst 0, 1) := by decide +kernel
theorem dX8_leftNear_3 : decode cX8_leftNear 3 = .ok (.istore_n 3, 1) := by decide +kernel
theorem dX8_leftNear_4 : decode cX8_leftNear 4 = .ok (.iload_n 3, 1) := by decide +kernel
theorem dX8_leftNear_5 : decode cX8_leftNear 5 = .ok (.aload_n 0, 1) := by decide +kernel
theorem dX8_leftNear_6 : decode cX8_leftNear 6 = .ok (.getfield 92, 3) := by decide +kernel
theorem dX8_leftNear_9 : decode cX8_leftNear 9 = .ok (.if_icmp .ge 40, 3) := by decide +kernel
theorem dX8_leftNear_12 : decode cX8_leftNear 12 = .ok (.iload_n 2, 1) := by decide +kernel
theorem dX8_leftNear_13 : decode cX8_leftNear 13 = .ok (.aload_n 0, 1) := by decide +kernel
theorem dX8_leftNear_14 : decode cX8_leftNear 14 = .ok (.getfield 38, 3) := by decide +kernel
theorem dX8_leftNear_17 : decode cX8_leftNear 17 = .ok (.bipush 49, 2) := by decide +kernel
theorem dX8_leftNear_19 : decode cX8_leftNear 19 = .ok (.iload_n 1, 1) := by decide +kernel
theorem dX8_leftNear_20 : decode cX8_leftNear 20 = .ok (.imul, 1) := by decide +kernel
theorem dX8_leftNear_21 : decode cX8_leftNear 21 = .ok (.iload_n 3, 1) := by decide +kernel
theorem dX8_leftNear_22 : decode cX8_leftNear 22 = .ok (.iadd, 1) := by decide +kernel
theorem dX8_leftNear_23 : decode cX8_leftNear 23 = .ok (.baload, 1) := by decide +kernel
theorem dX8_leftNear_24 : decode cX8_leftNear 24 = .ok (.ifCond .eq 16, 3) := by decide +kernel
theorem dX8_leftNear_27 : decode cX8_leftNear 27 = .ok (.aload_n 0, 1) := by decide +kernel
theorem dX8_leftNear_28 : decode cX8_leftNear 28 = .ok (.getfield 59, 3) := by decide +kernel
theorem dX8_leftNear_31 : decode cX8_leftNear 31 = .ok (.iload_n 3, 1) := by decide +kernel
theorem dX8_leftNear_32 : decode cX8_leftNear 32 = .ok (.baload, 1) := by decide +kernel
theorem dX8_leftNear_33 : decode cX8_leftNear 33 = .ok (.ifCond .ne 7, 3) := by decide +kernel
theorem dX8_leftNear_36 : decode cX8_leftNear 36 = .ok (.iconst 1, 1) := by decide +kernel
theorem dX8_leftNear_37 : decode cX8_leftNear 37 = .ok (.goto 4, 3) := by decide +kernel
theorem dX8_leftNear_40 : decode cX8_leftNear 40 = .ok (.iconst 0, 1) := by decide +kernel
theorem dX8_leftNear_41 : decode cX8_leftNear 41 = .ok (.iadd, 1) := by decide +kernel
theorem dX8_leftNear_42 : decode cX8_leftNear 42 = .ok (.istore_n 2, 1) := by decide +kernel
theorem dX8_leftNear_43 : decode cX8_leftNear 43 = .ok (.iinc 3 1, 3) := by decide +kernel
theorem dX8_leftNear_46 : decode cX8_leftNear 46 = .ok (.goto (-42), 3) := by decide +kernel
theorem dX8_leftNear_49 : decode cX8_leftNear 49 = .ok (.iload_n 2, 1) := by decide +kernel
theorem dX8_leftNear_50 : decode cX8_leftNear 50 = .ok (.ireturn, 1) := by decide +kernel
theorem dX8_nextPane_0 : decode cX8_nextPane 0 = .ok (.iconst (-1), 1) := by decide +kernel
theorem dX8_nextPane_1 : decode cX8_nextPane 1 = .ok (.istore_n 2, 1) := by decide +kernel
theorem dX8_nextPane_2 : decode cX8_nextPane 2 = .ok (.iconst 0, 1) := by decide +kernel
theorem dX8_nextPane_3 : decode cX8_nextPane 3 = .ok (.istore_n 3, 1) := by decide +kernel
theorem dX8_nextPane_4 : decode cX8_nextPane 4 = .ok (.iconst 0, 1) := by decide +kernel
theorem dX8_nextPane_5 : decode cX8_nextPane 5 = .ok (.istore 4, 2) := by decide +kernel
theorem dX8_nextPane_7 : decode cX8_nextPane 7 = .ok (.iload 4, 2) := by decide +kernel
theorem dX8_nextPane_9 : decode cX8_nextPane 9 = .ok (.aload_n 0, 1) := by decide +kernel
theorem dX8_nextPane_10 : decode cX8_nextPane 10 = .ok (.getfield 92, 3) := by decide +kernel
theorem dX8_nextPane_13 : decode cX8_nextPane 13 = .ok (.if_icmp .ge 68, 3) := by decide +kernel
theorem dX8_nextPane_16 : decode cX8_nextPane 16 = .ok (.iload_n 1, 1) := by decide +kernel
theorem dX8_nextPane_17 : decode cX8_nextPane 17 = .ok (.ifCond .ne 7, 3) := by decide +kernel
theorem dX8_nextPane_20 : decode cX8_nextPane 20 = .ok (.iconst 0, 1) := by decide +kernel
theorem dX8_nextPane_21 : decode cX8_nextPane 21 = .ok (.goto 25, 3) := by decide +kernel
theorem dX8_nextPane_24 : decode cX8_nextPane 24 = .ok (.iload_n 1, 1) := by decide +kernel
theorem dX8_nextPane_25 : decode cX8_nextPane 25 = .ok (.iconst 1, 1) := by decide +kernel
theorem dX8_nextPane_26 : decode cX8_nextPane 26 = .ok (.if_icmp .ne 14, 3) := by decide +kernel
theorem dX8_nextPane_29 : decode cX8_nextPane 29 = .ok (.aload_n 0, 1) := by decide +kernel
theorem dX8_nextPane_30 : decode cX8_nextPane 30 = .ok (.getfield 41, 3) := by decide +kernel
theorem dX8_nextPane_33 : decode cX8_nextPane 33 = .ok (.iload 4, 2) := by decide +kernel
theorem dX8_nextPane_35 : decode cX8_nextPane 35 = .ok (.iaload, 1) := by decide +kernel
theorem dX8_nextPane_36 : decode cX8_nextPane 36 = .ok (.ineg, 1) := by decide +kernel
theorem dX8_nextPane_37 : decode cX8_nextPane 37 = .ok (.goto 9, 3) := by decide +kernel
theorem dX8_nextPane_40 : decode cX8_nextPane 40 = .ok (.aload_n 0, 1) := by decide +kernel
theorem dX8_nextPane_41 : decode cX8_nextPane 41 = .ok (.iload 4, 2) := by decide +kernel
theorem dX8_nextPane_43 : decode cX8_nextPane 43 = .ok (.invokevirtual 202, 3) := by decide +kernel
theorem dX8_nextPane_46 : decode cX8_nextPane 46 = .ok (.istore 5, 2) := by decide +kernel
theorem dX8_nextPane_48 : decode cX8_nextPane 48 = .ok (.aload_n 0, 1) := by decide +kernel
theorem dX8_nextPane_49 : decode cX8_nextPane 49 = .ok (.getfield 59, 3) := by decide +kernel
theorem dX8_nextPane_52 : decode cX8_nextPane 52 = .ok (.iload 4, 2) := by decide +kernel
theorem dX8_nextPane_54 : decode cX8_nextPane 54 = .ok (.baload, 1) := by decide +kernel
theorem dX8_nextPane_55 : decode cX8_nextPane 55 = .ok (.ifCond .ne 20, 3) := by decide +kernel
theorem dX8_nextPane_58 : decode cX8_nextPane 58 = .ok (.iload_n 2, 1) := by decide +kernel
theorem dX8_nextPane_59 : decode cX8_nextPane 59 = .ok (.iconst (-1), 1) := by decide +kernel
theorem dX8_nextPane_60 : decode cX8_nextPane 60 = .ok (.if_icmp .eq 9, 3) := by decide +kernel
theorem dX8_nextPane_63 : decode cX8_nextPane 63 = .ok (.iload 5, 2) := by decide +kernel
theorem dX8_nextPane_65 : decode cX8_nextPane 65 = .ok (.iload_n 3, 1) := by decide +kernel
theorem dX8_nextPane_66 : decode cX8_nextPane 66 = .ok (.if_icmp .ge 9, 3) := by decide +kernel
theorem dX8_nextPane_69 : decode cX8_nextPane 69 = .ok (.iload 4, 2) := by decide +kernel
theorem dX8_nextPane_71 : decode cX8_nextPane 71 = .ok (.istore_n 2, 1) := by decide +kernel
theorem dX8_nextPane_72 : decode cX8_nextPane 72 = .ok (.iload 5, 2) := by decide +kernel
theorem dX8_nextPane_74 : decode cX8_nextPane 74 = .ok (.istore_n 3, 1) := by decide +kernel
theorem dX8_nextPane_75 : decode cX8_nextPane 75 = .ok (.iinc 4 1, 3) := by decide +kernel
theorem dX8_nextPane_78 : decode cX8_nextPane 78 = .ok (.goto (-71), 3) := by decide +kernel
theorem dX8_nextPane_81 : decode cX8_nextPane 81 = .ok (.iload_n 2, 1) := by decide +kernel
theorem dX8_nextPane_82 : decode cX8_nextPane 82 = .ok (.ireturn, 1) := by decide +kernel
theorem dX8_colourOne_0 : decode cX8_colourOne 0 = .ok (.iconst 0, 1) := by decide +kernel
theorem dX8_colourOne_1 : decode cX8_colourOne 1 = .ok (.istore_n 2, 1) := by decide +kernel
theorem dX8_colourOne_2 : decode cX8_colourOne 2 = .ok (.iconst 1, 1) := by decide +kernel
theorem dX8_colourOne_3 : decode cX8_colourOne 3 = .ok (.istore_n 3, 1) := by decide +kernel
theorem dX8_colourOne_4 : decode cX8_colourOne 4 = .ok (.iload_n 3, 1) := by decide +kernel
theorem dX8_colourOne_5 : decode cX8_colourOne 5 = .ok (.ifCond .eq 74, 3) := by decide +kernel
theorem dX8_colourOne_8 : decode cX8_colourOne 8 = .ok (.iconst 0, 1) := by decide +kernel
theorem dX8_colourOne_9 : decode cX8_colourOne 9 = .ok (.istore_n 3, 1) := by decide +kernel
theorem dX8_colourOne_10 : decode cX8_colourOne 10 = .ok (.iconst 0, 1) := by decide +kernel
theorem dX8_colourOne_11 : decode cX8_colourOne 11 = .ok (.istore 4, 2) := by decide +kernel
theorem dX8_colourOne_13 : decode cX8_colourOne 13 = .ok (.iload 4, 2) := by decide +kernel
theorem dX8_colourOne_15 : decode cX8_colourOne 15 = .ok (.aload_n 0, 1) := by decide +kernel
theorem dX8_colourOne_16 : decode cX8_colourOne 16 = .ok (.getfield 92, 3) := by decide +kernel
theorem dX8_colourOne_19 : decode cX8_colourOne 19 = .ok (.if_icmp .ge 45, 3) := by decide +kernel
theorem dX8_colourOne_22 : decode cX8_colourOne 22 = .ok (.iload_n 3, 1) := by decide +kernel
theorem dX8_colourOne_23 : decode cX8_colourOne 23 = .ok (.ifCond .ne 41, 3) := by decide +kernel
theorem dX8_colourOne_26 : decode cX8_colourOne 26 = .ok (.aload_n 0, 1) := by decide +kernel
theorem dX8_colourOne_27 : decode cX8_colourOne 27 = .ok (.getfield 38, 3) := by decide +kernel
theorem dX8_colourOne_30 : decode cX8_colourOne 30 = .ok (.bipush 49, 2) := by decide +kernel
theorem dX8_colourOne_32 : decode cX8_colourOne 32 = .ok (.iload_n 1, 1) := by decide +kernel
theorem dX8_colourOne_33 : decode cX8_colourOne 33 = .ok (.imul, 1) := by decide +kernel
theorem dX8_colourOne_34 : decode cX8_colourOne 34 = .ok (.iload 4, 2) := by decide +kernel
theorem dX8_colourOne_36 : decode cX8_colourOne 36 = .ok (.iadd, 1) := by decide +kernel
theorem dX8_colourOne_37 : decode cX8_colourOne 37 = .ok (.baload, 1) := by decide +kernel
theorem dX8_colourOne_38 : decode cX8_colourOne 38 = .ok (.ifCond .eq 18, 3) := by decide +kernel
theorem dX8_colourOne_41 : decode cX8_colourOne 41 = .ok (.aload_n 0, 1) := by decide +kernel
theorem dX8_colourOne_42 : decode cX8_colourOne 42 = .ok (.getfield 62, 3) := by decide +kernel
theorem dX8_colourOne_45 : decode cX8_colourOne 45 = .ok (.iload 4, 2) := by decide +kernel
theorem dX8_colourOne_47 : decode cX8_colourOne 47 = .ok (.iaload, 1) := by decide +kernel
theorem dX8_colourOne_48 : decode cX8_colourOne 48 = .ok (.iload_n 2, 1) := by decide +kernel
theorem dX8_colourOne_49 : decode cX8_colourOne 49 = .ok (.if_icmp .ne 7, 3) := by decide +kernel
theorem dX8_colourOne_52 : decode cX8_colourOne 52 = .ok (.iconst 1, 1) := by decide +kernel
theorem dX8_colourOne_53 : decode cX8_colourOne 53 = .ok (.goto 4, 3) := by decide +kernel
theorem dX8_colourOne_56 : decode cX8_colourOne 56 = .ok (.iconst 0, 1) := by decide +kernel
theorem dX8_colourOne_57 : decode cX8_colourOne 57 = .ok (.istore_n 3, 1) := by decide +kernel
theorem dX8_colourOne_58 : decode cX8_colourOne 58 = .ok (.iinc 4 1, 3) := by decide +kernel
theorem dX8_colourOne_61 : decode cX8_colourOne 61 = .ok (.goto (-48), 3) := by decide +kernel
theorem dX8_colourOne_64 : decode cX8_colourOne 64 = .ok (.iload_n 2, 1) := by decide +kernel
theorem dX8_colourOne_65 : decode cX8_colourOne 65 = .ok (.iload_n 3, 1) := by decide +kernel
theorem dX8_colourOne_66 : decode cX8_colourOne 66 = .ok (.ifCond .eq 7, 3) := by decide +kernel
theorem dX8_colourOne_69 : decode cX8_colourOne 69 = .ok (.iconst 1, 1) := by decide +kernel
theorem dX8_colourOne_70 : decode cX8_colourOne 70 = .ok (.goto 4, 3) := by decide +kernel
theorem dX8_colourOne_73 : decode cX8_colourOne 73 = .ok (.iconst 0, 1) := by decide +kernel
theorem dX8_colourOne_74 : decode cX8_colourOne 74 = .ok (.iadd, 1) := by decide +kernel
theorem dX8_colourOne_75 : decode cX8_colourOne 75 = .ok (.istore_n 2, 1) := by decide +kernel
theorem dX8_colourOne_76 : decode cX8_colourOne 76 = .ok (.goto (-72), 3) := by decide +kernel
theorem dX8_colourOne_79 : decode cX8_colourOne 79 = .ok (.aload_n 0, 1) := by decide +kernel
theorem dX8_colourOne_80 : decode cX8_colourOne 80 = .ok (.getfield 62, 3) := by decide +kernel
theorem dX8_colourOne_83 : decode cX8_colourOne 83 = .ok (.iload_n 1, 1) := by decide +kernel
theorem dX8_colourOne_84 : decode cX8_colourOne 84 = .ok (.iload_n 2, 1) := by decide +kernel
theorem dX8_colourOne_85 : decode cX8_colourOne 85 = .ok (.iastore, 1) := by decide +kernel
theorem dX8_colourOne_86 : decode cX8_colourOne 86 = .ok (.return_, 1) := by decide +kernel
theorem dX8_colourAll_0 : decode cX8_colourAll 0 = .ok (.iconst 0, 1) := by decide +kernel
theorem dX8_colourAll_1 : decode cX8_colourAll 1 = .ok (.istore_n 2, 1) := by decide +kernel
theorem dX8_colourAll_2 : decode cX8_colourAll 2 = .ok (.iload_n 2, 1) := by decide +kernel
theorem dX8_colourAll_3 : decode cX8_colourAll 3 = .ok (.aload_n 0, 1) := by decide +kernel
theorem dX8_colourAll_4 : decode cX8_colourAll 4 = .ok (.getfield 92, 3) := by decide +kernel
theorem dX8_colourAll_7 : decode cX8_colourAll 7 = .ok (.if_icmp .ge 23, 3) := by decide +kernel
theorem dX8_colourAll_10 : decode cX8_colourAll 10 = .ok (.aload_n 0, 1) := by decide +kernel
theorem dX8_colourAll_11 : decode cX8_colourAll 11 = .ok (.getfield 59, 3) := by decide +kernel
theorem dX8_colourAll_14 : decode cX8_colourAll 14 = .ok (.iload_n 2, 1) := by decide +kernel
theorem dX8_colourAll_15 : decode cX8_colourAll 15 = .ok (.iconst 0, 1) := by decide +kernel
theorem dX8_colourAll_16 : decode cX8_colourAll 16 = .ok (.bastore, 1) := by decide +kernel
theorem dX8_colourAll_17 : decode cX8_colourAll 17 = .ok (.aload_n 0, 1) := by decide +kernel
theorem dX8_colourAll_18 : decode cX8_colourAll 18 = .ok (.getfield 62, 3) := by decide +kernel
theorem dX8_colourAll_21 : decode cX8_colourAll 21 = .ok (.iload_n 2, 1) := by decide +kernel
theorem dX8_colourAll_22 : decode cX8_colourAll 22 = .ok (.iconst (-1), 1) := by decide +kernel
theorem dX8_colourAll_23 : decode cX8_colourAll 23 = .ok (.iastore, 1) := by decide +kernel
theorem dX8_colourAll_24 : decode cX8_colourAll 24 = .ok (.iinc 2 1, 3) := by decide +kernel
theorem dX8_colourAll_27 : decode cX8_colourAll 27 = .ok (.goto (-25), 3) := by decide +kernel
theorem dX8_colourAll_30 : decode cX8_colourAll 30 = .ok (.iconst 0, 1) := by decide +kernel
theorem dX8_colourAll_31 : decode cX8_colourAll 31 = .ok (.istore_n 2, 1) := by decide +kernel
theorem dX8_colourAll_32 : decode cX8_colourAll 32 = .ok (.iload_n 2, 1) := by decide +kernel
theorem dX8_colourAll_33 : decode cX8_colourAll 33 = .ok (.aload_n 0, 1) := by decide +kernel
theorem dX8_colourAll_34 : decode cX8_colourAll 34 = .ok (.getfield 92, 3) := by decide +kernel
theorem dX8_colourAll_37 : decode cX8_colourAll 37 = .ok (.if_icmp .ge 50, 3) := by decide +kernel
theorem dX8_colourAll_40 : decode cX8_colourAll 40 = .ok (.iload_n 1, 1) := by decide +kernel
theorem dX8_colourAll_41 : decode cX8_colourAll 41 = .ok (.iconst 2, 1) := by decide +kernel
theorem dX8_colourAll_42 : decode cX8_colourAll 42 = .ok (.if_icmp .ne 14, 3) := by decide +kernel
theorem dX8_colourAll_45 : decode cX8_colourAll 45 = .ok (.aload_n 0, 1) := by decide +kernel
theorem dX8_colourAll_46 : decode cX8_colourAll 46 = .ok (.getfield 92, 3) := by decide +kernel
theorem dX8_colourAll_49 : decode cX8_colourAll 49 = .ok (.iconst 1, 1) := by decide +kernel
theorem dX8_colourAll_50 : decode cX8_colourAll 50 = .ok (.isub, 1) := by decide +kernel
theorem dX8_colourAll_51 : decode cX8_colourAll 51 = .ok (.iload_n 2, 1) := by decide +kernel
theorem dX8_colourAll_52 : decode cX8_colourAll 52 = .ok (.isub, 1) := by decide +kernel
theorem dX8_colourAll_53 : decode cX8_colourAll 53 = .ok (.goto 4, 3) := by decide +kernel
theorem dX8_colourAll_56 : decode cX8_colourAll 56 = .ok (.iload_n 2, 1) := by decide +kernel
theorem dX8_colourAll_57 : decode cX8_colourAll 57 = .ok (.istore_n 3, 1) := by decide +kernel
theorem dX8_colourAll_58 : decode cX8_colourAll 58 = .ok (.aload_n 0, 1) := by decide +kernel
theorem dX8_colourAll_59 : decode cX8_colourAll 59 = .ok (.getfield 56, 3) := by decide +kernel
theorem dX8_colourAll_62 : decode cX8_colourAll 62 = .ok (.iload_n 3, 1) := by decide +kernel
theorem dX8_colourAll_63 : decode cX8_colourAll 63 = .ok (.aload_n 0, 1) := by decide +kernel
theorem dX8_colourAll_64 : decode cX8_colourAll 64 = .ok (.iload_n 1, 1) := by decide +kernel
theorem dX8_colourAll_65 : decode cX8_colourAll 65 = .ok (.invokevirtual 205, 3) := by decide +kernel
theorem dX8_colourAll_68 : decode cX8_colourAll 68 = .ok (.iastore, 1) := by decide +kernel
theorem dX8_colourAll_69 : decode cX8_colourAll 69 = .ok (.aload_n 0, 1) := by decide +kernel
theorem dX8_colourAll_70 : decode cX8_colourAll 70 = .ok (.getfield 59, 3) := by decide +kernel
theorem dX8_colourAll_73 : decode cX8_colourAll 73 = .ok (.aload_n 0, 1) := by decide +kernel
theorem dX8_colourAll_74 : decode cX8_colourAll 74 = .ok (.getfield 56, 3) := by decide +kernel
theorem dX8_colourAll_77 : decode cX8_colourAll 77 = .ok (.iload_n 3, 1) := by decide +kernel
theorem dX8_colourAll_78 : decode cX8_colourAll 78 = .ok (.iaload, 1) := by decide +kernel
theorem dX8_colourAll_79 : decode cX8_colourAll 79 = .ok (.iconst 1, 1) := by decide +kernel
theorem dX8_colourAll_80 : decode cX8_colourAll 80 = .ok (.bastore, 1) := by decide +kernel
theorem dX8_colourAll_81 : decode cX8_colourAll 81 = .ok (.iinc 2 1, 3) := by decide +kernel
theorem dX8_colourAll_84 : decode cX8_colourAll 84 = .ok (.goto (-52), 3) := by decide +kernel
theorem dX8_colourAll_87 : decode cX8_colourAll 87 = .ok (.iconst 0, 1) := by decide +kernel
theorem dX8_colourAll_88 : decode cX8_colourAll 88 = .ok (.istore_n 2, 1) := by decide +kernel
theorem dX8_colourAll_89 : decode cX8_colourAll 89 = .ok (.iconst 0, 1) := by decide +kernel
theorem dX8_colourAll_90 : decode cX8_colourAll 90 = .ok (.istore_n 3, 1) := by decide +kernel
theorem dX8_colourAll_91 : decode cX8_colourAll 91 = .ok (.iload_n 3, 1) := by decide +kernel
theorem dX8_colourAll_92 : decode cX8_colourAll 92 = .ok (.aload_n 0, 1) := by decide +kernel
theorem dX8_colourAll_93 : decode cX8_colourAll 93 = .ok (.getfield 92, 3) := by decide +kernel
theorem dX8_colourAll_96 : decode cX8_colourAll 96 = .ok (.if_icmp .ge 50, 3) := by decide +kernel
theorem dX8_colourAll_99 : decode cX8_colourAll 99 = .ok (.aload_n 0, 1) := by decide +kernel
theorem dX8_colourAll_100 : decode cX8_colourAll 100 = .ok (.aload_n 0, 1) := by decide +kernel
theorem dX8_colourAll_101 : decode cX8_colourAll 101 = .ok (.getfield 56, 3) := by decide +kernel
theorem dX8_colourAll_104 : decode cX8_colourAll 104 = .ok (.iload_n 3, 1) := by decide +kernel
theorem dX8_colourAll_105 : decode cX8_colourAll 105 = .ok (.iaload, 1) := by decide +kernel
theorem dX8_colourAll_106 : decode cX8_colourAll 106 = .ok (.invokevirtual 208, 3) := by decide +kernel
theorem dX8_colourAll_109 : decode cX8_colourAll 109 = .ok (.aload_n 0, 1) := by decide +kernel
theorem dX8_colourAll_110 : decode cX8_colourAll 110 = .ok (.getfield 62, 3) := by decide +kernel
theorem dX8_colourAll_113 : decode cX8_colourAll 113 = .ok (.aload_n 0, 1) := by decide +kernel
theorem dX8_colourAll_114 : decode cX8_colourAll 114 = .ok (.getfield 56, 3) := by decide +kernel
theorem dX8_colourAll_117 : decode cX8_colourAll 117 = .ok (.iload_n 3, 1) := by decide +kernel
theorem dX8_colourAll_118 : decode cX8_colourAll 118 = .ok (.iaload, 1) := by decide +kernel
theorem dX8_colourAll_119 : decode cX8_colourAll 119 = .ok (.iaload, 1) := by decide +kernel
theorem dX8_colourAll_120 : decode cX8_colourAll 120 = .ok (.iload_n 2, 1) := by decide +kernel
theorem dX8_colourAll_121 : decode cX8_colourAll 121 = .ok (.if_icmp .le 17, 3) := by decide +kernel
theorem dX8_colourAll_124 : decode cX8_colourAll 124 = .ok (.aload_n 0, 1) := by decide +kernel
theorem dX8_colourAll_125 : decode cX8_colourAll 125 = .ok (.getfield 62, 3) := by decide +kernel
theorem dX8_colourAll_128 : decode cX8_colourAll 128 = .ok (.aload_n 0, 1) := by decide +kernel
theorem dX8_colourAll_129 : decode cX8_colourAll 129 = .ok (.getfield 56, 3) := by decide +kernel
theorem dX8_colourAll_132 : decode cX8_colourAll 132 = .ok (.iload_n 3, 1) := by decide +kernel
theorem dX8_colourAll_133 : decode cX8_colourAll 133 = .ok (.iaload, 1) := by decide +kernel
theorem dX8_colourAll_134 : decode cX8_colourAll 134 = .ok (.iaload, 1) := by decide +kernel
theorem dX8_colourAll_135 : decode cX8_colourAll 135 = .ok (.goto 4, 3) := by decide +kernel
theorem dX8_colourAll_138 : decode cX8_colourAll 138 = .ok (.iload_n 2, 1) := by decide +kernel
theorem dX8_colourAll_139 : decode cX8_colourAll 139 = .ok (.istore_n 2, 1) := by decide +kernel
theorem dX8_colourAll_140 : decode cX8_colourAll 140 = .ok (.iinc 3 1, 3) := by decide +kernel
theorem dX8_colourAll_143 : decode cX8_colourAll 143 = .ok (.goto (-52), 3) := by decide +kernel
theorem dX8_colourAll_146 : decode cX8_colourAll 146 = .ok (.iload_n 2, 1) := by decide +kernel
theorem dX8_colourAll_147 : decode cX8_colourAll 147 = .ok (.iconst 1, 1) := by decide +kernel
theorem dX8_colourAll_148 : decode cX8_colourAll 148 = .ok (.iadd, 1) := by decide +kernel
theorem dX8_colourAll_149 : decode cX8_colourAll 149 = .ok (.ireturn, 1) := by decide +kernel
theorem dX8_colourCount_0 : decode cX8_colourCount 0 = .ok (.iload_n 1, 1) := by decide +kernel
theorem dX8_colourCount_1 : decode cX8_colourCount 1 = .ok (.iconst 0, 1) := by decide +kernel
theorem dX8_colourCount_2 : decode cX8_colourCount 2 = .ok (.iconst 2, 1) := by decide +kernel
theorem dX8_colourCount_3 : decode cX8_colourCount 3 = .ok (.invokestatic 65, 3) := by decide +kernel
theorem dX8_colourCount_6 : decode cX8_colourCount 6 = .ok (.ifCond .ne 5, 3) := by decide +kernel
theorem dX8_colourCount_9 : decode cX8_colourCount 9 = .ok (.iconst (-1), 1) := by decide +kernel
theorem dX8_colourCount_10 : decode cX8_colourCount 10 = .ok (.ireturn, 1) := by decide +kernel
theorem dX8_colourCount_11 : decode cX8_colourCount 11 = .ok (.aload_n 0, 1) := by decide +kernel
theorem dX8_colourCount_12 : decode cX8_colourCount 12 = .ok (.invokevirtual 168, 3) := by decide +kernel
theorem dX8_colourCount_15 : decode cX8_colourCount 15 = .ok (.istore_n 2, 1) := by decide +kernel
theorem dX8_colourCount_16 : decode cX8_colourCount 16 = .ok (.aload_n 0, 1) := by decide +kernel
theorem dX8_colourCount_17 : decode cX8_colourCount 17 = .ok (.iload_n 1, 1) := by decide +kernel
theorem dX8_colourCount_18 : decode cX8_colourCount 18 = .ok (.invokevirtual 211, 3) := by decide +kernel
theorem dX8_colourCount_21 : decode cX8_colourCount 21 = .ok (.ireturn, 1) := by decide +kernel
theorem dX8_suggestedColour_0 : decode cX8_suggestedColour 0 = .ok (.iload_n 1, 1) := by decide +kernel
theorem dX8_suggestedColour_1 : decode cX8_suggestedColour 1 = .ok (.iconst 0, 1) := by decide +kernel
theorem dX8_suggestedColour_2 : decode cX8_suggestedColour 2 = .ok (.iconst 2, 1) := by decide +kernel
theorem dX8_suggestedColour_3 : decode cX8_suggestedColour 3 = .ok (.invokestatic 65, 3) := by decide +kernel
theorem dX8_suggestedColour_6 : decode cX8_suggestedColour 6 = .ok (.ifCond .eq 11, 3) := by decide +kernel
theorem dX8_suggestedColour_9 : decode cX8_suggestedColour 9 = .ok (.aload_n 0, 1) := by decide +kernel
theorem dX8_suggestedColour_10 : decode cX8_suggestedColour 10 = .ok (.iload_n 2, 1) := by decide +kernel
theorem dX8_suggestedColour_11 : decode cX8_suggestedColour 11 = .ok (.invokevirtual 156, 3) := by decide +kernel
theorem dX8_suggestedColour_14 : decode cX8_suggestedColour 14 = .ok (.ifCond .ne 5, 3) := by decide +kernel
theorem dX8_suggestedColour_17 : decode cX8_suggestedColour 17 = .ok (.iconst (-1), 1) := by decide +kernel
theorem dX8_suggestedColour_18 : decode cX8_suggestedColour 18 = .ok (.ireturn, 1) := by decide +kernel
theorem dX8_suggestedColour_19 : decode cX8_suggestedColour 19 = .ok (.aload_n 0, 1) := by decide +kernel
theorem dX8_suggestedColour_20 : decode cX8_suggestedColour 20 = .ok (.invokevirtual 168, 3) := by decide +kernel
theorem dX8_suggestedColour_23 : decode cX8_suggestedColour 23 = .ok (.istore_n 3, 1) := by decide +kernel
theorem dX8_suggestedColour_24 : decode cX8_suggestedColour 24 = .ok (.aload_n 0, 1) := by decide +kernel
theorem dX8_suggestedColour_25 : decode cX8_suggestedColour 25 = .ok (.iload_n 1, 1) := by decide +kernel
theorem dX8_suggestedColour_26 : decode cX8_suggestedColour 26 = .ok (.invokevirtual 211, 3) := by decide +kernel
theorem dX8_suggestedColour_29 : decode cX8_suggestedColour 29 = .ok (.istore 4, 2) := by decide +kernel
theorem dX8_suggestedColour_31 : decode cX8_suggestedColour 31 = .ok (.aload_n 0, 1) := by decide +kernel
theorem dX8_suggestedColour_32 : decode cX8_suggestedColour 32 = .ok (.getfield 62, 3) := by decide +kernel
theorem dX8_suggestedColour_35 : decode cX8_suggestedColour 35 = .ok (.iload_n 2, 1) := by decide +kernel
theorem dX8_suggestedColour_36 : decode cX8_suggestedColour 36 = .ok (.iaload, 1) := by decide +kernel
theorem dX8_suggestedColour_37 : decode cX8_suggestedColour 37 = .ok (.ireturn, 1) := by decide +kernel
theorem dX8_bestOrder_0 : decode cX8_bestOrder 0 = .ok (.aload_n 0, 1) := by decide +kernel
theorem dX8_bestOrder_1 : decode cX8_bestOrder 1 = .ok (.invokevirtual 168, 3) := by decide +kernel
theorem dX8_bestOrder_4 : decode cX8_bestOrder 4 = .ok (.istore_n 1, 1) := by decide +kernel
theorem dX8_bestOrder_5 : decode cX8_bestOrder 5 = .ok (.iconst 0, 1) := by decide +kernel
theorem dX8_bestOrder_6 : decode cX8_bestOrder 6 = .ok (.istore_n 2, 1) := by decide +kernel
theorem dX8_bestOrder_7 : decode cX8_bestOrder 7 = .ok (.aload_n 0, 1) := by decide +kernel
theorem dX8_bestOrder_8 : decode cX8_bestOrder 8 = .ok (.iconst 0, 1) := by decide +kernel
theorem dX8_bestOrder_9 : decode cX8_bestOrder 9 = .ok (.invokevirtual 211, 3) := by decide +kernel
theorem dX8_bestOrder_12 : decode cX8_bestOrder 12 = .ok (.istore_n 3, 1) := by decide +kernel
theorem dX8_bestOrder_13 : decode cX8_bestOrder 13 = .ok (.iconst 1, 1) := by decide +kernel
theorem dX8_bestOrder_14 : decode cX8_bestOrder 14 = .ok (.istore 4, 2) := by decide +kernel
theorem dX8_bestOrder_16 : decode cX8_bestOrder 16 = .ok (.iload 4, 2) := by decide +kernel
theorem dX8_bestOrder_18 : decode cX8_bestOrder 18 = .ok (.iconst 3, 1) := by decide +kernel
theorem dX8_bestOrder_19 : decode cX8_bestOrder 19 = .ok (.if_icmp .ge 29, 3) := by decide +kernel
theorem dX8_bestOrder_22 : decode cX8_bestOrder 22 = .ok (.aload_n 0, 1) := by decide +kernel
theorem dX8_bestOrder_23 : decode cX8_bestOrder 23 = .ok (.iload 4, 2) := by decide +kernel
theorem dX8_bestOrder_25 : decode cX8_bestOrder 25 = .ok (.invokevirtual 211, 3) := by decide +kernel
theorem dX8_bestOrder_28 : decode cX8_bestOrder 28 = .ok (.istore 5, 2) := by decide +kernel
theorem dX8_bestOrder_30 : decode cX8_bestOrder 30 = .ok (.iload 5, 2) := by decide +kernel
theorem dX8_bestOrder_32 : decode cX8_bestOrder 32 = .ok (.iload_n 3, 1) := by decide +kernel
theorem dX8_bestOrder_33 : decode cX8_bestOrder 33 = .ok (.if_icmp .ge 9, 3) := by decide +kernel
theorem dX8_bestOrder_36 : decode cX8_bestOrder 36 = .ok (.iload 4, 2) := by decide +kernel
theorem dX8_bestOrder_38 : decode cX8_bestOrder 38 = .ok (.istore_n 2, 1) := by decide +kernel
theorem dX8_bestOrder_39 : decode cX8_bestOrder 39 = .ok (.iload 5, 2) := by decide +kernel
theorem dX8_bestOrder_41 : decode cX8_bestOrder 41 = .ok (.istore_n 3, 1) := by decide +kernel
theorem dX8_bestOrder_42 : decode cX8_bestOrder 42 = .ok (.iinc 4 1, 3) := by decide +kernel
theorem dX8_bestOrder_45 : decode cX8_bestOrder 45 = .ok (.goto (-29), 3) := by decide +kernel
theorem dX8_bestOrder_48 : decode cX8_bestOrder 48 = .ok (.iload_n 2, 1) := by decide +kernel
theorem dX8_bestOrder_49 : decode cX8_bestOrder 49 = .ok (.ireturn, 1) := by decide +kernel
theorem dX8_areNear_0 : decode cX8_areNear 0 = .ok (.aload_n 0, 1) := by decide +kernel
theorem dX8_areNear_1 : decode cX8_areNear 1 = .ok (.getfield 38, 3) := by decide +kernel
theorem dX8_areNear_4 : decode cX8_areNear 4 = .ok (.bipush 49, 2) := by decide +kernel
theorem dX8_areNear_6 : decode cX8_areNear 6 = .ok (.iload_n 1, 1) := by decide +kernel
theorem dX8_areNear_7 : decode cX8_areNear 7 = .ok (.imul, 1) := by decide +kernel
theorem dX8_areNear_8 : decode cX8_areNear 8 = .ok (.iload_n 2, 1) := by decide +kernel
theorem dX8_areNear_9 : decode cX8_areNear 9 = .ok (.iadd, 1) := by decide +kernel
theorem dX8_areNear_10 : decode cX8_areNear 10 = .ok (.baload, 1) := by decide +kernel
theorem dX8_areNear_11 : decode cX8_areNear 11 = .ok (.ireturn, 1) := by decide +kernel
theorem dX8_largestClique_0 : decode cX8_largestClique 0 = .ok (.aload_n 0, 1) := by decide +kernel
theorem dX8_largestClique_1 : decode cX8_largestClique 1 = .ok (.invokevirtual 168, 3) := by decide +kernel
theorem dX8_largestClique_4 : decode cX8_largestClique 4 = .ok (.istore_n 1, 1) := by decide +kernel
theorem dX8_largestClique_5 : decode cX8_largestClique 5 = .ok (.iconst 1, 1) := by decide +kernel
theorem dX8_largestClique_6 : decode cX8_largestClique 6 = .ok (.istore_n 2, 1) := by decide +kernel
theorem dX8_largestClique_7 : decode cX8_largestClique 7 = .ok (.iconst 0, 1) := by decide +kernel
theorem dX8_largestClique_8 : decode cX8_largestClique 8 = .ok (.istore_n 3, 1) := by decide +kernel
theorem dX8_largestClique_9 : decode cX8_largestClique 9 = .ok (.iload_n 3, 1) := by decide +kernel
theorem dX8_largestClique_10 : decode cX8_largestClique 10 = .ok (.aload_n 0, 1) := by decide +kernel
theorem dX8_largestClique_11 : decode cX8_largestClique 11 = .ok (.getfield 92, 3) := by decide +kernel
theorem dX8_largestClique_14 : decode cX8_largestClique 14 = .ok (.if_icmp .ge 168, 3) := by decide +kernel
theorem dX8_largestClique_17 : decode cX8_largestClique 17 = .ok (.iload_n 3, 1) := by decide +kernel
theorem dX8_largestClique_18 : decode cX8_largestClique 18 = .ok (.iconst 1, 1) := by decide +kernel
theorem dX8_largestClique_19 : decode cX8_largestClique 19 = .ok (.iadd, 1) := by decide +kernel
theorem dX8_largestClique_20 : decode cX8_largestClique 20 = .ok (.istore 4, 2) := by decide +kernel
theorem dX8_largestClique_22 : decode cX8_largestClique 22 = .ok (.iload 4, 2) := by decide +kernel
theorem dX8_largestClique_24 : decode cX8_largestClique 24 = .ok (.aload_n 0, 1) := by decide +kernel
theorem dX8_largestClique_25 : decode cX8_largestClique 25 = .ok (.getfield 92, 3) := by decide +kernel
theorem dX8_largestClique_28 : decode cX8_largestClique 28 = .ok (.if_icmp .ge 148, 3) := by decide +kernel
theorem dX8_largestClique_31 : decode cX8_largestClique 31 = .ok (.aload_n 0, 1) := by decide +kernel
theorem dX8_largestClique_32 : decode cX8_largestClique 32 = .ok (.iload_n 3, 1) := by decide +kernel
theorem dX8_largestClique_33 : decode cX8_largestClique 33 = .ok (.iload 4, 2) := by decide +kernel
theorem dX8_largestClique_35 : decode cX8_largestClique 35 = .ok (.invokevirtual 214, 3) := by decide +kernel
theorem dX8_largestClique_38 : decode cX8_largestClique 38 = .ok (.ifCond .ne 6, 3) := by decide +kernel
theorem dX8_largestClique_41 : decode cX8_largestClique 41 = .ok (.goto 129, 3) := by decide +kernel
theorem dX8_largestClique_44 : decode cX8_largestClique 44 = .ok (.iload_n 2, 1) := by decide +kernel
theorem dX8_largestClique_45 : decode cX8_largestClique 45 = .ok (.iconst 2, 1) := by decide +kernel
theorem dX8_largestClique_46 : decode cX8_largestClique 46 = .ok (.if_icmp .ge 7, 3) := by decide +kernel
theorem dX8_largestClique_49 : decode cX8_largestClique 49 = .ok (.iconst 2, 1) := by decide +kernel
theorem dX8_largestClique_50 : decode cX8_largestClique 50 = .ok (.goto 4, 3) := by decide +kernel
theorem dX8_largestClique_53 : decode cX8_largestClique 53 = .ok (.iload_n 2, 1) := by decide +kernel
theorem dX8_largestClique_54 : decode cX8_largestClique 54 = .ok (.istore_n 2, 1) := by decide +kernel
theorem dX8_largestClique_55 : decode cX8_largestClique 55 = .ok (.iload 4, 2) := by decide +kernel
theorem dX8_largestClique_57 : decode cX8_largestClique 57 = .ok (.iconst 1, 1) := by decide +kernel
theorem dX8_largestClique_58 : decode cX8_largestClique 58 = .ok (.iadd, 1) := by decide +kernel
theorem dX8_largestClique_59 : decode cX8_largestClique 59 = .ok (.istore 5, 2) := by decide +kernel
theorem dX8_largestClique_61 : decode cX8_largestClique 61 = .ok (.iload 5, 2) := by decide +kernel
theorem dX8_largestClique_63 : decode cX8_largestClique 63 = .ok (.aload_n 0, 1) := by decide +kernel
theorem dX8_largestClique_64 : decode cX8_largestClique 64 = .ok (.getfield 92, 3) := by decide +kernel
theorem dX8_largestClique_67 : decode cX8_largestClique 67 = .ok (.if_icmp .ge 103, 3) := by decide +kernel
theorem dX8_largestClique_70 : decode cX8_largestClique 70 = .ok (.aload_n 0, 1) := by decide +kernel
theorem dX8_largestClique_71 : decode cX8_largestClique 71 = .ok (.iload_n 3, 1) := by decide +kernel
theorem dX8_largestClique_72 : decode cX8_largestClique 72 = .ok (.iload 5, 2) := by decide +kernel
theorem dX8_largestClique_74 : decode cX8_largestClique 74 = .ok (.invokevirtual 214, 3) := by decide +kernel
theorem dX8_largestClique_77 : decode cX8_largestClique 77 = .ok (.ifCond .eq 87, 3) := by decide +kernel
theorem dX8_largestClique_80 : decode cX8_largestClique 80 = .ok (.aload_n 0, 1) := by decide +kernel
theorem dX8_largestClique_81 : decode cX8_largestClique 81 = .ok (.iload 4, 2) := by decide +kernel
theorem dX8_largestClique_83 : decode cX8_largestClique 83 = .ok (.iload 5, 2) := by decide +kernel
theorem dX8_largestClique_85 : decode cX8_largestClique 85 = .ok (.invokevirtual 214, 3) := by decide +kernel
theorem dX8_largestClique_88 : decode cX8_largestClique 88 = .ok (.ifCond .ne 6, 3) := by decide +kernel
theorem dX8_largestClique_91 : decode cX8_largestClique 91 = .ok (.goto 73, 3) := by decide +kernel
theorem dX8_largestClique_94 : decode cX8_largestClique 94 = .ok (.iload_n 2, 1) := by decide +kernel
theorem dX8_largestClique_95 : decode cX8_largestClique 95 = .ok (.iconst 3, 1) := by decide +kernel
theorem dX8_largestClique_96 : decode cX8_largestClique 96 = .ok (.if_icmp .ge 7, 3) := by decide +kernel
theorem dX8_largestClique_99 : decode cX8_largestClique 99 = .ok (.iconst 3, 1) := by decide +kernel
theorem dX8_largestClique_100 : decode cX8_largestClique 100 = .ok (.goto 4, 3) := by decide +kernel
theorem dX8_largestClique_103 : decode cX8_largestClique 103 = .ok (.iload_n 2, 1) := by decide +kernel
theorem dX8_largestClique_104 : decode cX8_largestClique 104 = .ok (.istore_n 2, 1) := by decide +kernel
theorem dX8_largestClique_105 : decode cX8_largestClique 105 = .ok (.iload 5, 2) := by decide +kernel
theorem dX8_largestClique_107 : decode cX8_largestClique 107 = .ok (.iconst 1, 1) := by decide +kernel
theorem dX8_largestClique_108 : decode cX8_largestClique 108 = .ok (.iadd, 1) := by decide +kernel
theorem dX8_largestClique_109 : decode cX8_largestClique 109 = .ok (.istore 6, 2) := by decide +kernel
theorem dX8_largestClique_111 : decode cX8_largestClique 111 = .ok (.iload 6, 2) := by decide +kernel
theorem dX8_largestClique_113 : decode cX8_largestClique 113 = .ok (.aload_n 0, 1) := by decide +kernel
theorem dX8_largestClique_114 : decode cX8_largestClique 114 = .ok (.getfield 92, 3) := by decide +kernel
theorem dX8_largestClique_117 : decode cX8_largestClique 117 = .ok (.if_icmp .ge 47, 3) := by decide +kernel
theorem dX8_largestClique_120 : decode cX8_largestClique 120 = .ok (.aload_n 0, 1) := by decide +kernel
theorem dX8_largestClique_121 : decode cX8_largestClique 121 = .ok (.iload_n 3, 1) := by decide +kernel
theorem dX8_largestClique_122 : decode cX8_largestClique 122 = .ok (.iload 6, 2) := by decide +kernel
theorem dX8_largestClique_124 : decode cX8_largestClique 124 = .ok (.invokevirtual 214, 3) := by decide +kernel
theorem dX8_largestClique_127 : decode cX8_largestClique 127 = .ok (.ifCond .eq 29, 3) := by decide +kernel
theorem dX8_largestClique_130 : decode cX8_largestClique 130 = .ok (.aload_n 0, 1) := by decide +kernel
theorem dX8_largestClique_131 : decode cX8_largestClique 131 = .ok (.iload 4, 2) := by decide +kernel
theorem dX8_largestClique_133 : decode cX8_largestClique 133 = .ok (.iload 6, 2) := by decide +kernel
theorem dX8_largestClique_135 : decode cX8_largestClique 135 = .ok (.invokevirtual 214, 3) := by decide +kernel
theorem dX8_largestClique_138 : decode cX8_largestClique 138 = .ok (.ifCond .eq 18, 3) := by decide +kernel
theorem dX8_largestClique_141 : decode cX8_largestClique 141 = .ok (.aload_n 0, 1) := by decide +kernel
theorem dX8_largestClique_142 : decode cX8_largestClique 142 = .ok (.iload 5, 2) := by decide +kernel
theorem dX8_largestClique_144 : decode cX8_largestClique 144 = .ok (.iload 6, 2) := by decide +kernel
theorem dX8_largestClique_146 : decode cX8_largestClique 146 = .ok (.invokevirtual 214, 3) := by decide +kernel
theorem dX8_largestClique_149 : decode cX8_largestClique 149 = .ok (.ifCond .eq 7, 3) := by decide +kernel
theorem dX8_largestClique_152 : decode cX8_largestClique 152 = .ok (.iconst 4, 1) := by decide +kernel
theorem dX8_largestClique_153 : decode cX8_largestClique 153 = .ok (.goto 4, 3) := by decide +kernel
theorem dX8_largestClique_156 : decode cX8_largestClique 156 = .ok (.iload_n 2, 1) := by decide +kernel
theorem dX8_largestClique_157 : decode cX8_largestClique 157 = .ok (.istore_n 2, 1) := by decide +kernel
theorem dX8_largestClique_158 : decode cX8_largestClique 158 = .ok (.iinc 6 1, 3) := by decide +kernel
theorem dX8_largestClique_161 : decode cX8_largestClique 161 = .ok (.goto (-50), 3) := by decide +kernel
theorem dX8_largestClique_164 : decode cX8_largestClique 164 = .ok (.iinc 5 1, 3) := by decide +kernel
theorem dX8_largestClique_167 : decode cX8_largestClique 167 = .ok (.goto (-106), 3) := by decide +kernel
theorem dX8_largestClique_170 : decode cX8_largestClique 170 = .ok (.iinc 4 1, 3) := by decide +kernel
theorem dX8_largestClique_173 : decode cX8_largestClique 173 = .ok (.goto (-151), 3) := by decide +kernel
theorem dX8_largestClique_176 : decode cX8_largestClique 176 = .ok (.iinc 3 1, 3) := by decide +kernel
theorem dX8_largestClique_179 : decode cX8_largestClique 179 = .ok (.goto (-170), 3) := by decide +kernel
theorem dX8_largestClique_182 : decode cX8_largestClique 182 = .ok (.iload_n 2, 1) := by decide +kernel
theorem dX8_largestClique_183 : decode cX8_largestClique 183 = .ok (.ireturn, 1) := by decide +kernel
theorem dJ13_bitCount_95d88_0 : decode cJ13_bitCount_95d88 0 = .ok (.lload_n 0, 1) := by decide +kernel
theorem dJ13_bitCount_95d88_1 : decode cJ13_bitCount_95d88 1 = .ok (.lload_n 0, 1) := by decide +kernel
theorem dJ13_bitCount_95d88_2 : decode cJ13_bitCount_95d88 2 = .ok (.iconst 1, 1) := by decide +kernel
theorem dJ13_bitCount_95d88_3 : decode cJ13_bitCount_95d88 3 = .ok (.lushr, 1) := by decide +kernel
theorem dJ13_bitCount_95d88_4 : decode cJ13_bitCount_95d88 4 = .ok (.ldc2_w 314, 3) := by decide +kernel
theorem dJ13_bitCount_95d88_7 : decode cJ13_bitCount_95d88 7 = .ok (.land, 1) := by decide +kernel
theorem dJ13_bitCount_95d88_8 : decode cJ13_bitCount_95d88 8 = .ok (.lsub, 1) := by decide +kernel
theorem dJ13_bitCount_95d88_9 : decode cJ13_bitCount_95d88 9 = .ok (.lstore_n 0, 1) := by decide +kernel
theorem dJ13_bitCount_95d88_10 : decode cJ13_bitCount_95d88 10 = .ok (.lload_n 0, 1) := by decide +kernel
theorem dJ13_bitCount_95d88_11 : decode cJ13_bitCount_95d88 11 = .ok (.ldc2_w 316, 3) := by decide +kernel
theorem dJ13_bitCount_95d88_14 : decode cJ13_bitCount_95d88 14 = .ok (.land, 1) := by decide +kernel
theorem dJ13_bitCount_95d88_15 : decode cJ13_bitCount_95d88 15 = .ok (.lload_n 0, 1) := by decide +kernel
theorem dJ13_bitCount_95d88_16 : decode cJ13_bitCount_95d88 16 = .ok (.iconst 2, 1) := by decide +kernel
theorem dJ13_bitCount_95d88_17 : decode cJ13_bitCount_95d88 17 = .ok (.lushr, 1) := by decide +kernel
theorem dJ13_bitCount_95d88_18 : decode cJ13_bitCount_95d88 18 = .ok (.ldc2_w 316, 3) := by decide +kernel
theorem dJ13_bitCount_95d88_21 : decode cJ13_bitCount_95d88 21 = .ok (.land, 1) := by decide +kernel
theorem dJ13_bitCount_95d88_22 : decode cJ13_bitCount_95d88 22 = .ok (.ladd, 1) := by decide +kernel
theorem dJ13_bitCount_95d88_23 : decode cJ13_bitCount_95d88 23 = .ok (.lstore_n 0, 1) := by decide +kernel
theorem dJ13_bitCount_95d88_24 : decode cJ13_bitCount_95d88 24 = .ok (.lload_n 0, 1) := by decide +kernel
theorem dJ13_bitCount_95d88_25 : decode cJ13_bitCount_95d88 25 = .ok (.lload_n 0, 1) := by decide +kernel
theorem dJ13_bitCount_95d88_26 : decode cJ13_bitCount_95d88 26 = .ok (.iconst 4, 1) := by decide +kernel
theorem dJ13_bitCount_95d88_27 : decode cJ13_bitCount_95d88 27 = .ok (.lushr, 1) := by decide +kernel
theorem dJ13_bitCount_95d88_28 : decode cJ13_bitCount_95d88 28 = .ok (.ladd, 1) := by decide +kernel
theorem dJ13_bitCount_95d88_29 : decode cJ13_bitCount_95d88 29 = .ok (.ldc2_w 318, 3) := by decide +kernel
theorem dJ13_bitCount_95d88_32 : decode cJ13_bitCount_95d88 32 = .ok (.land, 1) := by decide +kernel
theorem dJ13_bitCount_95d88_33 : decode cJ13_bitCount_95d88 33 = .ok (.lstore_n 0, 1) := by decide +kernel
theorem dJ13_bitCount_95d88_34 : decode cJ13_bitCount_95d88 34 = .ok (.lload_n 0, 1) := by decide +kernel
theorem dJ13_bitCount_95d88_35 : decode cJ13_bitCount_95d88 35 = .ok (.lload_n 0, 1) := by decide +kernel
theorem dJ13_bitCount_95d88_36 : decode cJ13_bitCount_95d88 36 = .ok (.bipush 8, 2) := by decide +kernel
theorem dJ13_bitCount_95d88_38 : decode cJ13_bitCount_95d88 38 = .ok (.lushr, 1) := by decide +kernel
theorem dJ13_bitCount_95d88_39 : decode cJ13_bitCount_95d88 39 = .ok (.ladd, 1) := by decide +kernel
theorem dJ13_bitCount_95d88_40 : decode cJ13_bitCount_95d88 40 = .ok (.lstore_n 0, 1) := by decide +kernel
theorem dJ13_bitCount_95d88_41 : decode cJ13_bitCount_95d88 41 = .ok (.lload_n 0, 1) := by decide +kernel
theorem dJ13_bitCount_95d88_42 : decode cJ13_bitCount_95d88 42 = .ok (.lload_n 0, 1) := by decide +kernel
theorem dJ13_bitCount_95d88_43 : decode cJ13_bitCount_95d88 43 = .ok (.bipush 16, 2) := by decide +kernel
theorem dJ13_bitCount_95d88_45 : decode cJ13_bitCount_95d88 45 = .ok (.lushr, 1) := by decide +kernel
theorem dJ13_bitCount_95d88_46 : decode cJ13_bitCount_95d88 46 = .ok (.ladd, 1) := by decide +kernel
theorem dJ13_bitCount_95d88_47 : decode cJ13_bitCount_95d88 47 = .ok (.lstore_n 0, 1) := by decide +kernel
theorem dJ13_bitCount_95d88_48 : decode cJ13_bitCount_95d88 48 = .ok (.lload_n 0, 1) := by decide +kernel
theorem dJ13_bitCount_95d88_49 : decode cJ13_bitCount_95d88 49 = .ok (.lload_n 0, 1) := by decide +kernel
theorem dJ13_bitCount_95d88_50 : decode cJ13_bitCount_95d88 50 = .ok (.bipush 32, 2) := by decide +kernel
theorem dJ13_bitCount_95d88_52 : decode cJ13_bitCount_95d88 52 = .ok (.lushr, 1) := by decide +kernel
theorem dJ13_bitCount_95d88_53 : decode cJ13_bitCount_95d88 53 = .ok (.ladd, 1) := by decide +kernel
theorem dJ13_bitCount_95d88_54 : decode cJ13_bitCount_95d88 54 = .ok (.lstore_n 0, 1) := by decide +kernel
theorem dJ13_bitCount_95d88_55 : decode cJ13_bitCount_95d88 55 = .ok (.lload_n 0, 1) := by decide +kernel
theorem dJ13_bitCount_95d88_56 : decode cJ13_bitCount_95d88 56 = .ok (.l2i, 1) := by decide +kernel
theorem dJ13_bitCount_95d88_57 : decode cJ13_bitCount_95d88 57 = .ok (.bipush 127, 2) := by decide +kernel
theorem dJ13_bitCount_95d88_59 : decode cJ13_bitCount_95d88 59 = .ok (.iand, 1) := by decide +kernel
theorem dJ13_bitCount_95d88_60 : decode cJ13_bitCount_95d88 60 = .ok (.ireturn, 1) := by decide +kernel
theorem dJ9_max_7cf53_0 : decode cJ9_max_7cf53 0 = .ok (.iload_n 0, 1) := by decide +kernel
theorem dJ9_max_7cf53_1 : decode cJ9_max_7cf53 1 = .ok (.iload_n 1, 1) := by decide +kernel
theorem dJ9_max_7cf53_2 : decode cJ9_max_7cf53 2 = .ok (.if_icmp .lt 7, 3) := by decide +kernel
theorem dJ9_max_7cf53_5 : decode cJ9_max_7cf53 5 = .ok (.iload_n 0, 1) := by decide +kernel
theorem dJ9_max_7cf53_6 : decode cJ9_max_7cf53 6 = .ok (.goto 4, 3) := by decide +kernel
theorem dJ9_max_7cf53_9 : decode cJ9_max_7cf53 9 = .ok (.iload_n 1, 1) := by decide +kernel
theorem dJ9_max_7cf53_10 : decode cJ9_max_7cf53 10 = .ok (.ireturn, 1) := by decide +kernel
theorem dJ9_min_7cf53_0 : decode cJ9_min_7cf53 0 = .ok (.iload_n 0, 1) := by decide +kernel
theorem dJ9_min_7cf53_1 : decode cJ9_min_7cf53 1 = .ok (.iload_n 1, 1) := by decide +kernel
theorem dJ9_min_7cf53_2 : decode cJ9_min_7cf53 2 = .ok (.if_icmp .gt 7, 3) := by decide +kernel
theorem dJ9_min_7cf53_5 : decode cJ9_min_7cf53 5 = .ok (.iload_n 0, 1) := by decide +kernel
theorem dJ9_min_7cf53_6 : decode cJ9_min_7cf53 6 = .ok (.goto 4, 3) := by decide +kernel
theorem dJ9_min_7cf53_9 : decode cJ9_min_7cf53 9 = .ok (.iload_n 1, 1) := by decide +kernel
theorem dJ9_min_7cf53_10 : decode cJ9_min_7cf53 10 = .ok (.ireturn, 1) := by decide +kernel
theorem dL_law_0 : decode cL_law 0 = .ok (.new 7, 3) := by decide +kernel
theorem dL_law_3 : decode cL_law 3 = .ok (.dup, 1) := by decide +kernel
theorem dL_law_4 : decode cL_law 4 = .ok (.invokespecial 9, 3) := by decide +kernel
theorem dL_law_7 : decode cL_law 7 = .ok (.astore_n 1, 1) := by decide +kernel
theorem dL_law_8 : decode cL_law 8 = .ok (.new 10, 3) := by decide +kernel
theorem dL_law_11 : decode cL_law 11 = .ok (.dup, 1) := by decide +kernel
theorem dL_law_12 : decode cL_law 12 = .ok (.invokespecial 12, 3) := by decide +kernel
theorem dL_law_15 : decode cL_law 15 = .ok (.astore_n 2, 1) := by decide +kernel
theorem dL_law_16 : decode cL_law 16 = .ok (.iconst 0, 1) := by decide +kernel
theorem dL_law_17 : decode cL_law 17 = .ok (.istore_n 3, 1) := by decide +kernel
theorem dL_law_18 : decode cL_law 18 = .ok (.iload_n 3, 1) := by decide +kernel
theorem dL_law_19 : decode cL_law 19 = .ok (.aload_n 0, 1) := by decide +kernel
theorem dL_law_20 : decode cL_law 20 = .ok (.arraylength, 1) := by decide +kernel
theorem dL_law_21 : decode cL_law 21 = .ok (.iconst 4, 1) := by decide +kernel
theorem dL_law_22 : decode cL_law 22 = .ok (.isub, 1) := by decide +kernel
theorem dL_law_23 : decode cL_law 23 = .ok (.if_icmp .gt 828, 3) := by decide +kernel
theorem dL_law_26 : decode cL_law 26 = .ok (.aload_n 0, 1) := by decide +kernel
theorem dL_law_27 : decode cL_law 27 = .ok (.iload_n 3, 1) := by decide +kernel
theorem dL_law_28 : decode cL_law 28 = .ok (.iaload, 1) := by decide +kernel
theorem dL_law_29 : decode cL_law 29 = .ok (.bipush 31, 2) := by decide +kernel
theorem dL_law_31 : decode cL_law 31 = .ok (.iand, 1) := by decide +kernel
theorem dL_law_32 : decode cL_law 32 = .ok (.tableswitch 813 0 30 #[140, 163, 176, 189, 232, 245, 258, 291, 334, 377, 390, 403, 416, 449, 472, 495, 518, 541, 554, 577, 590, 613, 636, 659, 682, 705, 718, 741, 774, 787, 800], 140) := by decide +kernel
theorem dL_law_172 : decode cL_law 172 = .ok (.aload_n 1, 1) := by decide +kernel
theorem dL_law_173 : decode cL_law 173 = .ok (.aload_n 0, 1) := by decide +kernel
theorem dL_law_174 : decode cL_law 174 = .ok (.iload_n 3, 1) := by decide +kernel
theorem dL_law_175 : decode cL_law 175 = .ok (.iconst 1, 1) := by decide +kernel
theorem dL_law_176 : decode cL_law 176 = .ok (.iadd, 1) := by decide +kernel
theorem dL_law_177 : decode cL_law 177 = .ok (.iaload, 1) := by decide +kernel
theorem dL_law_178 : decode cL_law 178 = .ok (.invokevirtual 13, 3) := by decide +kernel
theorem dL_law_181 : decode cL_law 181 = .ok (.aload_n 2, 1) := by decide +kernel
theorem dL_law_182 : decode cL_law 182 = .ok (.aload_n 0, 1) := by decide +kernel
theorem dL_law_183 : decode cL_law 183 = .ok (.iload_n 3, 1) := by decide +kernel
theorem dL_law_184 : decode cL_law 184 = .ok (.iconst 1, 1) := by decide +kernel
theorem dL_law_185 : decode cL_law 185 = .ok (.iadd, 1) := by decide +kernel
theorem dL_law_186 : decode cL_law 186 = .ok (.iaload, 1) := by decide +kernel
theorem dL_law_187 : decode cL_law 187 = .ok (.invokevirtual 17, 3) := by decide +kernel
theorem dL_law_190 : decode cL_law 190 = .ok (.if_icmp .eq 655, 3) := by decide +kernel
theorem dL_law_193 : decode cL_law 193 = .ok (.iconst 0, 1) := by decide +kernel
theorem dL_law_194 : decode cL_law 194 = .ok (.ireturn, 1) := by decide +kernel
theorem dL_law_195 : decode cL_law 195 = .ok (.aload_n 1, 1) := by decide +kernel
theorem dL_law_196 : decode cL_law 196 = .ok (.invokevirtual 18, 3) := by decide +kernel
theorem dL_law_199 : decode cL_law 199 = .ok (.aload_n 2, 1) := by decide +kernel
theorem dL_law_200 : decode cL_law 200 = .ok (.invokevirtual 22, 3) := by decide +kernel
theorem dL_law_203 : decode cL_law 203 = .ok (.if_icmp .eq 642, 3) := by decide +kernel
theorem dL_law_206 : decode cL_law 206 = .ok (.iconst 0, 1) := by decide +kernel
theorem dL_law_207 : decode cL_law 207 = .ok (.ireturn, 1) := by decide +kernel
theorem dL_law_208 : decode cL_law 208 = .ok (.aload_n 1, 1) := by decide +kernel
theorem dL_law_209 : decode cL_law 209 = .ok (.invokevirtual 23, 3) := by decide +kernel
theorem dL_law_212 : decode cL_law 212 = .ok (.aload_n 2, 1) := by decide +kernel
theorem dL_law_213 : decode cL_law 213 = .ok (.invokevirtual 26, 3) := by decide +kernel
theorem dL_law_216 : decode cL_law 216 = .ok (.if_icmp .eq 629, 3) := by decide +kernel
theorem dL_law_219 : decode cL_law 219 = .ok (.iconst 0, 1) := by decide +kernel
theorem dL_law_220 : decode cL_law 220 = .ok (.ireturn, 1) := by decide +kernel
theorem dL_law_221 : decode cL_law 221 = .ok (.aload_n 1, 1) := by decide +kernel
theorem dL_law_222 : decode cL_law 222 = .ok (.aload_n 0, 1) := by decide +kernel
theorem dL_law_223 : decode cL_law 223 = .ok (.iload_n 3, 1) := by decide +kernel
theorem dL_law_224 : decode cL_law 224 = .ok (.iconst 1, 1) := by decide +kernel
theorem dL_law_225 : decode cL_law 225 = .ok (.iadd, 1) := by decide +kernel
theorem dL_law_226 : decode cL_law 226 = .ok (.iaload, 1) := by decide +kernel
theorem dL_law_227 : decode cL_law 227 = .ok (.aload_n 0, 1) := by decide +kernel
theorem dL_law_228 : decode cL_law 228 = .ok (.iload_n 3, 1) := by decide +kernel
theorem dL_law_229 : decode cL_law 229 = .ok (.iconst 2, 1) := by decide +kernel
theorem dL_law_230 : decode cL_law 230 = .ok (.iadd, 1) := by decide +kernel
theorem dL_law_231 : decode cL_law 231 = .ok (.iaload, 1) := by decide +kernel
theorem dL_law_232 : decode cL_law 232 = .ok (.aload_n 0, 1) := by decide +kernel
theorem dL_law_233 : decode cL_law 233 = .ok (.iload_n 3, 1) := by decide +kernel
theorem dL_law_234 : decode cL_law 234 = .ok (.iconst 3, 1) := by decide +kernel
theorem dL_law_235 : decode cL_law 235 = .ok (.iadd, 1) := by decide +kernel
theorem dL_law_236 : decode cL_law 236 = .ok (.iaload, 1) := by decide +kernel
theorem dL_law_237 : decode cL_law 237 = .ok (.invokevirtual 27, 3) := by decide +kernel
theorem dL_law_240 : decode cL_law 240 = .ok (.aload_n 2, 1) := by decide +kernel
theorem dL_law_241 : decode cL_law 241 = .ok (.aload_n 0, 1) := by decide +kernel
theorem dL_law_242 : decode cL_law 242 = .ok (.iload_n 3, 1) := by decide +kernel
theorem dL_law_243 : decode cL_law 243 = .ok (.iconst 1, 1) := by decide +kernel
theorem dL_law_244 : decode cL_law 244 = .ok (.iadd, 1) := by decide +kernel
theorem dL_law_245 : decode cL_law 245 = .ok (.iaload, 1) := by decide +kernel
theorem dL_law_246 : decode cL_law 246 = .ok (.aload_n 0, 1) := by decide +kernel
theorem dL_law_247 : decode cL_law 247 = .ok (.iload_n 3, 1) := by decide +kernel
theorem dL_law_248 : decode cL_law 248 = .ok (.iconst 2, 1) := by decide +kernel
theorem dL_law_249 : decode cL_law 249 = .ok (.iadd, 1) := by decide +kernel
theorem dL_law_250 : decode cL_law 250 = .ok (.iaload, 1) := by decide +kernel
theorem dL_law_251 : decode cL_law 251 = .ok (.aload_n 0, 1) := by decide +kernel
theorem dL_law_252 : decode cL_law 252 = .ok (.iload_n 3, 1) := by decide +kernel
theorem dL_law_253 : decode cL_law 253 = .ok (.iconst 3, 1) := by decide +kernel
theorem dL_law_254 : decode cL_law 254 = .ok (.iadd, 1) := by decide +kernel
theorem dL_law_255 : decode cL_law 255 = .ok (.iaload, 1) := by decide +kernel
theorem dL_law_256 : decode cL_law 256 = .ok (.invokevirtual 31, 3) := by decide +kernel
theorem dL_law_259 : decode cL_law 259 = .ok (.if_icmp .eq 586, 3) := by decide +kernel
theorem dL_law_262 : decode cL_law 262 = .ok (.iconst 0, 1) := by decide +kernel
theorem dL_law_263 : decode cL_law 263 = .ok (.ireturn, 1) := by decide +kernel
theorem dL_law_264 : decode cL_law 264 = .ok (.aload_n 1, 1) := by decide +kernel
theorem dL_law_265 : decode cL_law 265 = .ok (.invokevirtual 32, 3) := by decide +kernel
theorem dL_law_268 : decode cL_law 268 = .ok (.aload_n 2, 1) := by decide +kernel
theorem dL_law_269 : decode cL_law 269 = .ok (.invokevirtual 35, 3) := by decide +kernel
theorem dL_law_272 : decode cL_law 272 = .ok (.if_icmp .eq 573, 3) := by decide +kernel
theorem dL_law_275 : decode cL_law 275 = .ok (.iconst 0, 1) := by decide +kernel
theorem dL_law_276 : decode cL_law 276 = .ok (.ireturn, 1) := by decide +kernel
theorem dL_law_277 : decode cL_law 277 = .ok (.aload_n 1, 1) := by decide +kernel
theorem dL_law_278 : decode cL_law 278 = .ok (.invokevirtual 36, 3) := by decide +kernel
theorem dL_law_281 : decode cL_law 281 = .ok (.aload_n 2, 1) := by decide +kernel
theorem dL_law_282 : decode cL_law 282 = .ok (.invokevirtual 39, 3) := by decide +kernel
theorem dL_law_285 : decode cL_law 285 = .ok (.if_icmp .eq 560, 3) := by decide +kernel
theorem dL_law_288 : decode cL_law 288 = .ok (.iconst 0, 1) := by decide +kernel
theorem dL_law_289 : decode cL_law 289 = .ok (.ireturn, 1) := by decide +kernel
theorem dL_law_290 : decode cL_law 290 = .ok (.aload_n 1, 1) := by decide +kernel
theorem dL_law_291 : decode cL_law 291 = .ok (.aload_n 0, 1) := by decide +kernel
theorem dL_law_292 : decode cL_law 292 = .ok (.iload_n 3, 1) := by decide +kernel
theorem dL_law_293 : decode cL_law 293 = .ok (.iconst 1, 1) := by decide +kernel
theorem dL_law_294 : decode cL_law 294 = .ok (.iadd, 1) := by decide +kernel
theorem dL_law_295 : decode cL_law 295 = .ok (.iaload, 1) := by decide +kernel
theorem dL_law_296 : decode cL_law 296 = .ok (.aload_n 0, 1) := by decide +kernel
theorem dL_law_297 : decode cL_law 297 = .ok (.iload_n 3, 1) := by decide +kernel
theorem dL_law_298 : decode cL_law 298 = .ok (.iconst 2, 1) := by decide +kernel
theorem dL_law_299 : decode cL_law 299 = .ok (.iadd, 1) := by decide +kernel
theorem dL_law_300 : decode cL_law 300 = .ok (.iaload, 1) := by decide +kernel
theorem dL_law_301 : decode cL_law 301 = .ok (.invokevirtual 40, 3) := by decide +kernel
theorem dL_law_304 : decode cL_law 304 = .ok (.aload_n 2, 1) := by decide +kernel
theorem dL_law_305 : decode cL_law 305 = .ok (.aload_n 0, 1) := by decide +kernel
theorem dL_law_306 : decode cL_law 306 = .ok (.iload_n 3, 1) := by decide +kernel
theorem dL_law_307 : decode cL_law 307 = .ok (.iconst 1, 1) := by decide +kernel
theorem dL_law_308 : decode cL_law 308 = .ok (.iadd, 1) := by decide +kernel
theorem dL_law_309 : decode cL_law 309 = .ok (.iaload, 1) := by decide +kernel
theorem dL_law_310 : decode cL_law 310 = .ok (.aload_n 0, 1) := by decide +kernel
theorem dL_law_311 : decode cL_law 311 = .ok (.iload_n 3, 1) := by decide +kernel
theorem dL_law_312 : decode cL_law 312 = .ok (.iconst 2, 1) := by decide +kernel
theorem dL_law_313 : decode cL_law 313 = .ok (.iadd, 1) := by decide +kernel
theorem dL_law_314 : decode cL_law 314 = .ok (.iaload, 1) := by decide +kernel
theorem dL_law_315 : decode cL_law 315 = .ok (.invokevirtual 44, 3) := by decide +kernel
theorem dL_law_318 : decode cL_law 318 = .ok (.if_icmp .eq 527, 3) := by decide +kernel
theorem dL_law_321 : decode cL_law 321 = .ok (.iconst 0, 1) := by decide +kernel
theorem dL_law_322 : decode cL_law 322 = .ok (.ireturn, 1) := by decide +kernel
theorem dL_law_323 : decode cL_law 323 = .ok (.aload_n 1, 1) := by decide +kernel
theorem dL_law_324 : decode cL_law 324 = .ok (.aload_n 0, 1) := by decide +kernel
theorem dL_law_325 : decode cL_law 325 = .ok (.iload_n 3, 1) := by decide +kernel
theorem dL_law_326 : decode cL_law 326 = .ok (.iconst 1, 1) := by decide +kernel
theorem dL_law_327 : decode cL_law 327 = .ok (.iadd, 1) := by decide +kernel
theorem dL_law_328 : decode cL_law 328 = .ok (.iaload, 1) := by decide +kernel
theorem dL_law_329 : decode cL_law 329 = .ok (.aload_n 0, 1) := by decide +kernel
theorem dL_law_330 : decode cL_law 330 = .ok (.iload_n 3, 1) := by decide +kernel
theorem dL_law_331 : decode cL_law 331 = .ok (.iconst 2, 1) := by decide +kernel
theorem dL_law_332 : decode cL_law 332 = .ok (.iadd, 1) := by decide +kernel
theorem dL_law_333 : decode cL_law 333 = .ok (.iaload, 1) := by decide +kernel
theorem dL_law_334 : decode cL_law 334 = .ok (.aload_n 0, 1) := by decide +kernel
theorem dL_law_335 : decode cL_law 335 = .ok (.iload_n 3, 1) := by decide +kernel
theorem dL_law_336 : decode cL_law 336 = .ok (.iconst 3, 1) := by decide +kernel
theorem dL_law_337 : decode cL_law 337 = .ok (.iadd, 1) := by decide +kernel
theorem dL_law_338 : decode cL_law 338 = .ok (.iaload, 1) := by decide +kernel
theorem dL_law_339 : decode cL_law 339 = .ok (.invokevirtual 45, 3) := by decide +kernel
theorem dL_law_342 : decode cL_law 342 = .ok (.aload_n 2, 1) := by decide +kernel
theorem dL_law_343 : decode cL_law 343 = .ok (.aload_n 0, 1) := by decide +kernel
theorem dL_law_344 : decode cL_law 344 = .ok (.iload_n 3, 1) := by decide +kernel
theorem dL_law_345 : decode cL_law 345 = .ok (.iconst 1, 1) := by decide +kernel
theorem dL_law_346 : decode cL_law 346 = .ok (.iadd, 1) := by decide +kernel
theorem dL_law_347 : decode cL_law 347 = .ok (.iaload, 1) := by decide +kernel
theorem dL_law_348 : decode cL_law 348 = .ok (.aload_n 0, 1) := by decide +kernel
theorem dL_law_349 : decode cL_law 349 = .ok (.iload_n 3, 1) := by decide +kernel
theorem dL_law_350 : decode cL_law 350 = .ok (.iconst 2, 1) := by decide +kernel
theorem dL_law_351 : decode cL_law 351 = .ok (.iadd, 1) := by decide +kernel
theorem dL_law_352 : decode cL_law 352 = .ok (.iaload, 1) := by decide +kernel
theorem dL_law_353 : decode cL_law 353 = .ok (.aload_n 0, 1) := by decide +kernel
theorem dL_law_354 : decode cL_law 354 = .ok (.iload_n 3, 1) := by decide +kernel
theorem dL_law_355 : decode cL_law 355 = .ok (.iconst 3, 1) := by decide +kernel
theorem dL_law_356 : decode cL_law 356 = .ok (.iadd, 1) := by decide +kernel
theorem dL_law_357 : decode cL_law 357 = .ok (.iaload, 1) := by decide +kernel
theorem dL_law_358 : decode cL_law 358 = .ok (.invokevirtual 48, 3) := by decide +kernel
theorem dL_law_361 : decode cL_law 361 = .ok (.if_icmp .eq 484, 3) := by decide +kernel
theorem dL_law_364 : decode cL_law 364 = .ok (.iconst 0, 1) := by decide +kernel
theorem dL_law_365 : decode cL_law 365 = .ok (.ireturn, 1) := by decide +kernel
theorem dL_law_366 : decode cL_law 366 = .ok (.aload_n 1, 1) := by decide +kernel
theorem dL_law_367 : decode cL_law 367 = .ok (.aload_n 0, 1) := by decide +kernel
theorem dL_law_368 : decode cL_law 368 = .ok (.iload_n 3, 1) := by decide +kernel
theorem dL_law_369 : decode cL_law 369 = .ok (.iconst 1, 1) := by decide +kernel
theorem dL_law_370 : decode cL_law 370 = .ok (.iadd, 1) := by decide +kernel
theorem dL_law_371 : decode cL_law 371 = .ok (.iaload, 1) := by decide +kernel
theorem dL_law_372 : decode cL_law 372 = .ok (.aload_n 0, 1) := by decide +kernel
theorem dL_law_373 : decode cL_law 373 = .ok (.iload_n 3, 1) := by decide +kernel
theorem dL_law_374 : decode cL_law 374 = .ok (.iconst 2, 1) := by decide +kernel
theorem dL_law_375 : decode cL_law 375 = .ok (.iadd, 1) := by decide +kernel
theorem dL_law_376 : decode cL_law 376 = .ok (.iaload, 1) := by decide +kernel
theorem dL_law_377 : decode cL_law 377 = .ok (.aload_n 0, 1) := by decide +kernel
theorem dL_law_378 : decode cL_law 378 = .ok (.iload_n 3, 1) := by decide +kernel
theorem dL_law_379 : decode cL_law 379 = .ok (.iconst 3, 1) := by decide +kernel
theorem dL_law_380 : decode cL_law 380 = .ok (.iadd, 1) := by decide +kernel
theorem dL_law_381 : decode cL_law 381 = .ok (.iaload, 1) := by decide +kernel
theorem dL_law_382 : decode cL_law 382 = .ok (.invokevirtual 49, 3) := by decide +kernel
theorem dL_law_385 : decode cL_law 385 = .ok (.aload_n 2, 1) := by decide +kernel
theorem dL_law_386 : decode cL_law 386 = .ok (.aload_n 0, 1) := by decide +kernel
theorem dL_law_387 : decode cL_law 387 = .ok (.iload_n 3, 1) := by decide +kernel
theorem dL_law_388 : decode cL_law 388 = .ok (.iconst 1, 1) := by decide +kernel
theorem dL_law_389 : decode cL_law 389 = .ok (.iadd, 1) := by decide +kernel
theorem dL_law_390 : decode cL_law 390 = .ok (.iaload, 1) := by decide +kernel
theorem dL_law_391 : decode cL_law 391 = .ok (.aload_n 0, 1) := by decide +kernel
theorem dL_law_392 : decode cL_law 392 = .ok (.iload_n 3, 1) := by decide +kernel
theorem dL_law_393 : decode cL_law 393 = .ok (.iconst 2, 1) := by decide +kernel
theorem dL_law_394 : decode cL_law 394 = .ok (.iadd, 1) := by decide +kernel
theorem dL_law_395 : decode cL_law 395 = .ok (.iaload, 1) := by decide +kernel
theorem dL_law_396 : decode cL_law 396 = .ok (.aload_n 0, 1) := by decide +kernel
theorem dL_law_397 : decode cL_law 397 = .ok (.iload_n 3, 1) := by decide +kernel
theorem dL_law_398 : decode cL_law 398 = .ok (.iconst 3, 1) := by decide +kernel
theorem dL_law_399 : decode cL_law 399 = .ok (.iadd, 1) := by decide +kernel
theorem dL_law_400 : decode cL_law 400 = .ok (.iaload, 1) := by decide +kernel
theorem dL_law_401 : decode cL_law 401 = .ok (.invokevirtual 52, 3) := by decide +kernel
theorem dL_law_404 : decode cL_law 404 = .ok (.if_icmp .eq 441, 3) := by decide +kernel
theorem dL_law_407 : decode cL_law 407 = .ok (.iconst 0, 1) := by decide +kernel
theorem dL_law_408 : decode cL_law 408 = .ok (.ireturn, 1) := by decide +kernel
theorem dL_law_409 : decode cL_law 409 = .ok (.aload_n 1, 1) := by decide +kernel
theorem dL_law_410 : decode cL_law 410 = .ok (.invokevirtual 53, 3) := by decide +kernel
theorem dL_law_413 : decode cL_law 413 = .ok (.aload_n 2, 1) := by decide +kernel
theorem dL_law_414 : decode cL_law 414 = .ok (.invokevirtual 56, 3) := by decide +kernel
theorem dL_law_417 : decode cL_law 417 = .ok (.if_icmp .eq 428, 3) := by decide +kernel
theorem dL_law_420 : decode cL_law 420 = .ok (.iconst 0, 1) := by decide +kernel
theorem dL_law_421 : decode cL_law 421 = .ok (.ireturn, 1) := by decide +kernel
theorem dL_law_422 : decode cL_law 422 = .ok (.aload_n 1, 1) := by decide +kernel
theorem dL_law_423 : decode cL_law 423 = .ok (.invokevirtual 57, 3) := by decide +kernel
theorem dL_law_426 : decode cL_law 426 = .ok (.aload_n 2, 1) := by decide +kernel
theorem dL_law_427 : decode cL_law 427 = .ok (.invokevirtual 60, 3) := by decide +kernel
theorem dL_law_430 : decode cL_law 430 = .ok (.if_icmp .eq 415, 3) := by decide +kernel
theorem dL_law_433 : decode cL_law 433 = .ok (.iconst 0, 1) := by decide +kernel
theorem dL_law_434 : decode cL_law 434 = .ok (.ireturn, 1) := by decide +kernel
theorem dL_law_435 : decode cL_law 435 = .ok (.aload_n 1, 1) := by decide +kernel
theorem dL_law_436 : decode cL_law 436 = .ok (.invokevirtual 61, 3) := by decide +kernel
theorem dL_law_439 : decode cL_law 439 = .ok (.aload_n 2, 1) := by decide +kernel
theorem dL_law_440 : decode cL_law 440 = .ok (.invokevirtual 64, 3) := by decide +kernel
theorem dL_law_443 : decode cL_law 443 = .ok (.if_icmp .eq 402, 3) := by decide +kernel
theorem dL_law_446 : decode cL_law 446 = .ok (.iconst 0, 1) := by decide +kernel
theorem dL_law_447 : decode cL_law 447 = .ok (.ireturn, 1) := by decide +kernel
theorem dL_law_448 : decode cL_law 448 = .ok (.aload_n 1, 1) := by decide +kernel
theorem dL_law_449 : decode cL_law 449 = .ok (.aload_n 0, 1) := by decide +kernel
theorem dL_law_450 : decode cL_law 450 = .ok (.iload_n 3, 1) := by decide +kernel
theorem dL_law_451 : decode cL_law 451 = .ok (.iconst 1, 1) := by decide +kernel
theorem dL_law_452 : decode cL_law 452 = .ok (.iadd, 1) := by decide +kernel
theorem dL_law_453 : decode cL_law 453 = .ok (.iaload, 1) := by decide +kernel
theorem dL_law_454 : decode cL_law 454 = .ok (.aload_n 0, 1) := by decide +kernel
theorem dL_law_455 : decode cL_law 455 = .ok (.iload_n 3, 1) := by decide +kernel
theorem dL_law_456 : decode cL_law 456 = .ok (.iconst 2, 1) := by decide +kernel
theorem dL_law_457 : decode cL_law 457 = .ok (.iadd, 1) := by decide +kernel
theorem dL_law_458 : decode cL_law 458 = .ok (.iaload, 1) := by decide +kernel
theorem dL_law_459 : decode cL_law 459 = .ok (.invokevirtual 65, 3) := by decide +kernel
theorem dL_law_462 : decode cL_law 462 = .ok (.aload_n 2, 1) := by decide +kernel
theorem dL_law_463 : decode cL_law 463 = .ok (.aload_n 0, 1) := by decide +kernel
theorem dL_law_464 : decode cL_law 464 = .ok (.iload_n 3, 1) := by decide +kernel
theorem dL_law_465 : decode cL_law 465 = .ok (.iconst 1, 1) := by decide +kernel
theorem dL_law_466 : decode cL_law 466 = .ok (.iadd, 1) := by decide +kernel
theorem dL_law_467 : decode cL_law 467 = .ok (.iaload, 1) := by decide +kernel
theorem dL_law_468 : decode cL_law 468 = .ok (.aload_n 0, 1) := by decide +kernel
theorem dL_law_469 : decode cL_law 469 = .ok (.iload_n 3, 1) := by decide +kernel
theorem dL_law_470 : decode cL_law 470 = .ok (.iconst 2, 1) := by decide +kernel
theorem dL_law_471 : decode cL_law 471 = .ok (.iadd, 1) := by decide +kernel
theorem dL_law_472 : decode cL_law 472 = .ok (.iaload, 1) := by decide +kernel
theorem dL_law_473 : decode cL_law 473 = .ok (.invokevirtual 68, 3) := by decide +kernel
theorem dL_law_476 : decode cL_law 476 = .ok (.if_icmp .eq 369, 3) := by decide +kernel
theorem dL_law_479 : decode cL_law 479 = .ok (.iconst 0, 1) := by decide +kernel
theorem dL_law_480 : decode cL_law 480 = .ok (.ireturn, 1) := by decide +kernel
theorem dL_law_481 : decode cL_law 481 = .ok (.aload_n 1, 1) := by decide +kernel
theorem dL_law_482 : decode cL_law 482 = .ok (.aload_n 0, 1) := by decide +kernel
theorem dL_law_483 : decode cL_law 483 = .ok (.iload_n 3, 1) := by decide +kernel
theorem dL_law_484 : decode cL_law 484 = .ok (.iconst 1, 1) := by decide +kernel
theorem dL_law_485 : decode cL_law 485 = .ok (.iadd, 1) := by decide +kernel
theorem dL_law_486 : decode cL_law 486 = .ok (.iaload, 1) := by decide +kernel
theorem dL_law_487 : decode cL_law 487 = .ok (.invokevirtual 69, 3) := by decide +kernel
theorem dL_law_490 : decode cL_law 490 = .ok (.aload_n 2, 1) := by decide +kernel
theorem dL_law_491 : decode cL_law 491 = .ok (.aload_n 0, 1) := by decide +kernel
theorem dL_law_492 : decode cL_law 492 = .ok (.iload_n 3, 1) := by decide +kernel
theorem dL_law_493 : decode cL_law 493 = .ok (.iconst 1, 1) := by decide +kernel
theorem dL_law_494 : decode cL_law 494 = .ok (.iadd, 1) := by decide +kernel
theorem dL_law_495 : decode cL_law 495 = .ok (.iaload, 1) := by decide +kernel
theorem dL_law_496 : decode cL_law 496 = .ok (.invokevirtual 72, 3) := by decide +kernel
theorem dL_law_499 : decode cL_law 499 = .ok (.if_icmp .eq 346, 3) := by decide +kernel
theorem dL_law_502 : decode cL_law 502 = .ok (.iconst 0, 1) := by decide +kernel
theorem dL_law_503 : decode cL_law 503 = .ok (.ireturn, 1) := by decide +kernel
theorem dL_law_504 : decode cL_law 504 = .ok (.aload_n 1, 1) := by decide +kernel
theorem dL_law_505 : decode cL_law 505 = .ok (.aload_n 0, 1) := by decide +kernel
theorem dL_law_506 : decode cL_law 506 = .ok (.iload_n 3, 1) := by decide +kernel
theorem dL_law_507 : decode cL_law 507 = .ok (.iconst 1, 1) := by decide +kernel
theorem dL_law_508 : decode cL_law 508 = .ok (.iadd, 1) := by decide +kernel
theorem dL_law_509 : decode cL_law 509 = .ok (.iaload, 1) := by decide +kernel
theorem dL_law_510 : decode cL_law 510 = .ok (.invokevirtual 73, 3) := by decide +kernel
theorem dL_law_513 : decode cL_law 513 = .ok (.aload_n 2, 1) := by decide +kernel
theorem dL_law_514 : decode cL_law 514 = .ok (.aload_n 0, 1) := by decide +kernel
theorem dL_law_515 : decode cL_law 515 = .ok (.iload_n 3, 1) := by decide +kernel
theorem dL_law_516 : decode cL_law 516 = .ok (.iconst 1, 1) := by decide +kernel
theorem dL_law_517 : decode cL_law 517 = .ok (.iadd, 1) := by decide +kernel
theorem dL_law_518 : decode cL_law 518 = .ok (.iaload, 1) := by decide +kernel
theorem dL_law_519 : decode cL_law 519 = .ok (.invokevirtual 76, 3) := by decide +kernel
theorem dL_law_522 : decode cL_law 522 = .ok (.if_icmp .eq 323, 3) := by decide +kernel
theorem dL_law_525 : decode cL_law 525 = .ok (.iconst 0, 1) := by decide +kernel
theorem dL_law_526 : decode cL_law 526 = .ok (.ireturn, 1) := by decide +kernel
theorem dL_law_527 : decode cL_law 527 = .ok (.aload_n 1, 1) := by decide +kernel
theorem dL_law_528 : decode cL_law 528 = .ok (.aload_n 0, 1) := by decide +kernel
theorem dL_law_529 : decode cL_law 529 = .ok (.iload_n 3, 1) := by decide +kernel
theorem dL_law_530 : decode cL_law 530 = .ok (.iconst 1, 1) := by decide +kernel
theorem dL_law_531 : decode cL_law 531 = .ok (.iadd, 1) := by decide +kernel
theorem dL_law_532 : decode cL_law 532 = .ok (.iaload, 1) := by decide +kernel
theorem dL_law_533 : decode cL_law 533 = .ok (.invokevirtual 77, 3) := by decide +kernel
theorem dL_law_536 : decode cL_law 536 = .ok (.aload_n 2, 1) := by decide +kernel
theorem dL_law_537 : decode cL_law 537 = .ok (.aload_n 0, 1) := by decide +kernel
theorem dL_law_538 : decode cL_law 538 = .ok (.iload_n 3, 1) := by decide +kernel
theorem dL_law_539 : decode cL_law 539 = .ok (.iconst 1, 1) := by decide +kernel
theorem dL_law_540 : decode cL_law 540 = .ok (.iadd, 1) := by decide +kernel
theorem dL_law_541 : decode cL_law 541 = .ok (.iaload, 1) := by decide +kernel
theorem dL_law_542 : decode cL_law 542 = .ok (.invokevirtual 80, 3) := by decide +kernel
theorem dL_law_545 : decode cL_law 545 = .ok (.if_icmp .eq 300, 3) := by decide +kernel
theorem dL_law_548 : decode cL_law 548 = .ok (.iconst 0, 1) := by decide +kernel
theorem dL_law_549 : decode cL_law 549 = .ok (.ireturn, 1) := by decide +kernel
theorem dL_law_550 : decode cL_law 550 = .ok (.aload_n 1, 1) := by decide +kernel
theorem dL_law_551 : decode cL_law 551 = .ok (.aload_n 0, 1) := by decide +kernel
theorem dL_law_552 : decode cL_law 552 = .ok (.iload_n 3, 1) := by decide +kernel
theorem dL_law_553 : decode cL_law 553 = .ok (.iconst 1, 1) := by decide +kernel
theorem dL_law_554 : decode cL_law 554 = .ok (.iadd, 1) := by decide +kernel
theorem dL_law_555 : decode cL_law 555 = .ok (.iaload, 1) := by decide +kernel
theorem dL_law_556 : decode cL_law 556 = .ok (.invokevirtual 81, 3) := by decide +kernel
theorem dL_law_559 : decode cL_law 559 = .ok (.aload_n 2, 1) := by decide +kernel
theorem dL_law_560 : decode cL_law 560 = .ok (.aload_n 0, 1) := by decide +kernel
theorem dL_law_561 : decode cL_law 561 = .ok (.iload_n 3, 1) := by decide +kernel
theorem dL_law_562 : decode cL_law 562 = .ok (.iconst 1, 1) := by decide +kernel
theorem dL_law_563 : decode cL_law 563 = .ok (.iadd, 1) := by decide +kernel
theorem dL_law_564 : decode cL_law 564 = .ok (.iaload, 1) := by decide +kernel
theorem dL_law_565 : decode cL_law 565 = .ok (.invokevirtual 84, 3) := by decide +kernel
theorem dL_law_568 : decode cL_law 568 = .ok (.if_icmp .eq 277, 3) := by decide +kernel
theorem dL_law_571 : decode cL_law 571 = .ok (.iconst 0, 1) := by decide +kernel
theorem dL_law_572 : decode cL_law 572 = .ok (.ireturn, 1) := by decide +kernel
theorem dL_law_573 : decode cL_law 573 = .ok (.aload_n 1, 1) := by decide +kernel
theorem dL_law_574 : decode cL_law 574 = .ok (.invokevirtual 85, 3) := by decide +kernel
theorem dL_law_577 : decode cL_law 577 = .ok (.aload_n 2, 1) := by decide +kernel
theorem dL_law_578 : decode cL_law 578 = .ok (.invokevirtual 88, 3) := by decide +kernel
theorem dL_law_581 : decode cL_law 581 = .ok (.if_icmp .eq 264, 3) := by decide +kernel
theorem dL_law_584 : decode cL_law 584 = .ok (.iconst 0, 1) := by decide +kernel
theorem dL_law_585 : decode cL_law 585 = .ok (.ireturn, 1) := by decide +kernel
theorem dL_law_586 : decode cL_law 586 = .ok (.aload_n 1, 1) := by decide +kernel
theorem dL_law_587 : decode cL_law 587 = .ok (.aload_n 0, 1) := by decide +kernel
theorem dL_law_588 : decode cL_law 588 = .ok (.iload_n 3, 1) := by decide +kernel
theorem dL_law_589 : decode cL_law 589 = .ok (.iconst 1, 1) := by decide +kernel
theorem dL_law_590 : decode cL_law 590 = .ok (.iadd, 1) := by decide +kernel
theorem dL_law_591 : decode cL_law 591 = .ok (.iaload, 1) := by decide +kernel
theorem dL_law_592 : decode cL_law 592 = .ok (.invokevirtual 89, 3) := by decide +kernel
theorem dL_law_595 : decode cL_law 595 = .ok (.aload_n 2, 1) := by decide +kernel
theorem dL_law_596 : decode cL_law 596 = .ok (.aload_n 0, 1) := by decide +kernel
theorem dL_law_597 : decode cL_law 597 = .ok (.iload_n 3, 1) := by decide +kernel
theorem dL_law_598 : decode cL_law 598 = .ok (.iconst 1, 1) := by decide +kernel
theorem dL_law_599 : decode cL_law 599 = .ok (.iadd, 1) := by decide +kernel
theorem dL_law_600 : decode cL_law 600 = .ok (.iaload, 1) := by decide +kernel
theorem dL_law_601 : decode cL_law 601 = .ok (.invokevirtual 92, 3) := by decide +kernel
theorem dL_law_604 : decode cL_law 604 = .ok (.if_icmp .eq 241, 3) := by decide +kernel
theorem dL_law_607 : decode cL_law 607 = .ok (.iconst 0, 1) := by decide +kernel
theorem dL_law_608 : decode cL_law 608 = .ok (.ireturn, 1) := by decide +kernel
theorem dL_law_609 : decode cL_law 609 = .ok (.aload_n 1, 1) := by decide +kernel
theorem dL_law_610 : decode cL_law 610 = .ok (.invokevirtual 93, 3) := by decide +kernel
theorem dL_law_613 : decode cL_law 613 = .ok (.aload_n 2, 1) := by decide +kernel
theorem dL_law_614 : decode cL_law 614 = .ok (.invokevirtual 96, 3) := by decide +kernel
theorem dL_law_617 : decode cL_law 617 = .ok (.if_icmp .eq 228, 3) := by decide +kernel
theorem dL_law_620 : decode cL_law 620 = .ok (.iconst 0, 1) := by decide +kernel
theorem dL_law_621 : decode cL_law 621 = .ok (.ireturn, 1) := by decide +kernel
theorem dL_law_622 : decode cL_law 622 = .ok (.aload_n 1, 1) := by decide +kernel
theorem dL_law_623 : decode cL_law 623 = .ok (.aload_n 0, 1) := by decide +kernel
theorem dL_law_624 : decode cL_law 624 = .ok (.iload_n 3, 1) := by decide +kernel
theorem dL_law_625 : decode cL_law 625 = .ok (.iconst 1, 1) := by decide +kernel
theorem dL_law_626 : decode cL_law 626 = .ok (.iadd, 1) := by decide +kernel
theorem dL_law_627 : decode cL_law 627 = .ok (.iaload, 1) := by decide +kernel
theorem dL_law_628 : decode cL_law 628 = .ok (.invokevirtual 97, 3) := by decide +kernel
theorem dL_law_631 : decode cL_law 631 = .ok (.aload_n 2, 1) := by decide +kernel
theorem dL_law_632 : decode cL_law 632 = .ok (.aload_n 0, 1) := by decide +kernel
theorem dL_law_633 : decode cL_law 633 = .ok (.iload_n 3, 1) := by decide +kernel
theorem dL_law_634 : decode cL_law 634 = .ok (.iconst 1, 1) := by decide +kernel
theorem dL_law_635 : decode cL_law 635 = .ok (.iadd, 1) := by decide +kernel
theorem dL_law_636 : decode cL_law 636 = .ok (.iaload, 1) := by decide +kernel
theorem dL_law_637 : decode cL_law 637 = .ok (.invokevirtual 100, 3) := by decide +kernel
theorem dL_law_640 : decode cL_law 640 = .ok (.if_icmp .eq 205, 3) := by decide +kernel
theorem dL_law_643 : decode cL_law 643 = .ok (.iconst 0, 1) := by decide +kernel
theorem dL_law_644 : decode cL_law 644 = .ok (.ireturn, 1) := by decide +kernel
theorem dL_law_645 : decode cL_law 645 = .ok (.aload_n 1, 1) := by decide +kernel
theorem dL_law_646 : decode cL_law 646 = .ok (.aload_n 0, 1) := by decide +kernel
theorem dL_law_647 : decode cL_law 647 = .ok (.iload_n 3, 1) := by decide +kernel
theorem dL_law_648 : decode cL_law 648 = .ok (.iconst 1, 1) := by decide +kernel
theorem dL_law_649 : decode cL_law 649 = .ok (.iadd, 1) := by decide +kernel
theorem dL_law_650 : decode cL_law 650 = .ok (.iaload, 1) := by decide +kernel
theorem dL_law_651 : decode cL_law 651 = .ok (.invokevirtual 101, 3) := by decide +kernel
theorem dL_law_654 : decode cL_law 654 = .ok (.aload_n 2, 1) := by decide +kernel
theorem dL_law_655 : decode cL_law 655 = .ok (.aload_n 0, 1) := by decide +kernel
theorem dL_law_656 : decode cL_law 656 = .ok (.iload_n 3, 1) := by decide +kernel
theorem dL_law_657 : decode cL_law 657 = .ok (.iconst 1, 1) := by decide +kernel
theorem dL_law_658 : decode cL_law 658 = .ok (.iadd, 1) := by decide +kernel
theorem dL_law_659 : decode cL_law 659 = .ok (.iaload, 1) := by decide +kernel
theorem dL_law_660 : decode cL_law 660 = .ok (.invokevirtual 104, 3) := by decide +kernel
theorem dL_law_663 : decode cL_law 663 = .ok (.if_icmp .eq 182, 3) := by decide +kernel
theorem dL_law_666 : decode cL_law 666 = .ok (.iconst 0, 1) := by decide +kernel
theorem dL_law_667 : decode cL_law 667 = .ok (.ireturn, 1) := by decide +kernel
theorem dL_law_668 : decode cL_law 668 = .ok (.aload_n 1, 1) := by decide +kernel
theorem dL_law_669 : decode cL_law 669 = .ok (.aload_n 0, 1) := by decide +kernel
theorem dL_law_670 : decode cL_law 670 = .ok (.iload_n 3, 1) := by decide +kernel
theorem dL_law_671 : decode cL_law 671 = .ok (.iconst 1, 1) := by decide +kernel
theorem dL_law_672 : decode cL_law 672 = .ok (.iadd, 1) := by decide +kernel
theorem dL_law_673 : decode cL_law 673 = .ok (.iaload, 1) := by decide +kernel
theorem dL_law_674 : decode cL_law 674 = .ok (.invokevirtual 105, 3) := by decide +kernel
theorem dL_law_677 : decode cL_law 677 = .ok (.aload_n 2, 1) := by decide +kernel
theorem dL_law_678 : decode cL_law 678 = .ok (.aload_n 0, 1) := by decide +kernel
theorem dL_law_679 : decode cL_law 679 = .ok (.iload_n 3, 1) := by decide +kernel
theorem dL_law_680 : decode cL_law 680 = .ok (.iconst 1, 1) := by decide +kernel
theorem dL_law_681 : decode cL_law 681 = .ok (.iadd, 1) := by decide +kernel
theorem dL_law_682 : decode cL_law 682 = .ok (.iaload, 1) := by decide +kernel
theorem dL_law_683 : decode cL_law 683 = .ok (.invokevirtual 108, 3) := by decide +kernel
theorem dL_law_686 : decode cL_law 686 = .ok (.if_icmp .eq 159, 3) := by decide +kernel
theorem dL_law_689 : decode cL_law 689 = .ok (.iconst 0, 1) := by decide +kernel
theorem dL_law_690 : decode cL_law 690 = .ok (.ireturn, 1) := by decide +kernel
theorem dL_law_691 : decode cL_law 691 = .ok (.aload_n 1, 1) := by decide +kernel
theorem dL_law_692 : decode cL_law 692 = .ok (.aload_n 0, 1) := by decide +kernel
theorem dL_law_693 : decode cL_law 693 = .ok (.iload_n 3, 1) := by decide +kernel
theorem dL_law_694 : decode cL_law 694 = .ok (.iconst 1, 1) := by decide +kernel
theorem dL_law_695 : decode cL_law 695 = .ok (.iadd, 1) := by decide +kernel
theorem dL_law_696 : decode cL_law 696 = .ok (.iaload, 1) := by decide +kernel
theorem dL_law_697 : decode cL_law 697 = .ok (.invokevirtual 109, 3) := by decide +kernel
theorem dL_law_700 : decode cL_law 700 = .ok (.aload_n 2, 1) := by decide +kernel
theorem dL_law_701 : decode cL_law 701 = .ok (.aload_n 0, 1) := by decide +kernel
theorem dL_law_702 : decode cL_law 702 = .ok (.iload_n 3, 1) := by decide +kernel
theorem dL_law_703 : decode cL_law 703 = .ok (.iconst 1, 1) := by decide +kernel
theorem dL_law_704 : decode cL_law 704 = .ok (.iadd, 1) := by decide +kernel
theorem dL_law_705 : decode cL_law 705 = .ok (.iaload, 1) := by decide +kernel
theorem dL_law_706 : decode cL_law 706 = .ok (.invokevirtual 112, 3) := by decide +kernel
theorem dL_law_709 : decode cL_law 709 = .ok (.if_icmp .eq 136, 3) := by decide +kernel
theorem dL_law_712 : decode cL_law 712 = .ok (.iconst 0, 1) := by decide +kernel
theorem dL_law_713 : decode cL_law 713 = .ok (.ireturn, 1) := by decide +kernel
theorem dL_law_714 : decode cL_law 714 = .ok (.aload_n 1, 1) := by decide +kernel
theorem dL_law_715 : decode cL_law 715 = .ok (.aload_n 0, 1) := by decide +kernel
theorem dL_law_716 : decode cL_law 716 = .ok (.iload_n 3, 1) := by decide +kernel
theorem dL_law_717 : decode cL_law 717 = .ok (.iconst 1, 1) := by decide +kernel
theorem dL_law_718 : decode cL_law 718 = .ok (.iadd, 1) := by decide +kernel
theorem dL_law_719 : decode cL_law 719 = .ok (.iaload, 1) := by decide +kernel
theorem dL_law_720 : decode cL_law 720 = .ok (.invokevirtual 113, 3) := by decide +kernel
theorem dL_law_723 : decode cL_law 723 = .ok (.aload_n 2, 1) := by decide +kernel
theorem dL_law_724 : decode cL_law 724 = .ok (.aload_n 0, 1) := by decide +kernel
theorem dL_law_725 : decode cL_law 725 = .ok (.iload_n 3, 1) := by decide +kernel
theorem dL_law_726 : decode cL_law 726 = .ok (.iconst 1, 1) := by decide +kernel
theorem dL_law_727 : decode cL_law 727 = .ok (.iadd, 1) := by decide +kernel
theorem dL_law_728 : decode cL_law 728 = .ok (.iaload, 1) := by decide +kernel
theorem dL_law_729 : decode cL_law 729 = .ok (.invokevirtual 116, 3) := by decide +kernel
theorem dL_law_732 : decode cL_law 732 = .ok (.if_icmp .eq 113, 3) := by decide +kernel
theorem dL_law_735 : decode cL_law 735 = .ok (.iconst 0, 1) := by decide +kernel
theorem dL_law_736 : decode cL_law 736 = .ok (.ireturn, 1) := by decide +kernel
theorem dL_law_737 : decode cL_law 737 = .ok (.aload_n 1, 1) := by decide +kernel
theorem dL_law_738 : decode cL_law 738 = .ok (.invokevirtual 117, 3) := by decide +kernel
theorem dL_law_741 : decode cL_law 741 = .ok (.aload_n 2, 1) := by decide +kernel
theorem dL_law_742 : decode cL_law 742 = .ok (.invokevirtual 120, 3) := by decide +kernel
theorem dL_law_745 : decode cL_law 745 = .ok (.if_icmp .eq 100, 3) := by decide +kernel
theorem dL_law_748 : decode cL_law 748 = .ok (.iconst 0, 1) := by decide +kernel
theorem dL_law_749 : decode cL_law 749 = .ok (.ireturn, 1) := by decide +kernel
theorem dL_law_750 : decode cL_law 750 = .ok (.aload_n 1, 1) := by decide +kernel
theorem dL_law_751 : decode cL_law 751 = .ok (.aload_n 0, 1) := by decide +kernel
theorem dL_law_752 : decode cL_law 752 = .ok (.iload_n 3, 1) := by decide +kernel
theorem dL_law_753 : decode cL_law 753 = .ok (.iconst 1, 1) := by decide +kernel
theorem dL_law_754 : decode cL_law 754 = .ok (.iadd, 1) := by decide +kernel
theorem dL_law_755 : decode cL_law 755 = .ok (.iaload, 1) := by decide +kernel
theorem dL_law_756 : decode cL_law 756 = .ok (.invokevirtual 121, 3) := by decide +kernel
theorem dL_law_759 : decode cL_law 759 = .ok (.aload_n 2, 1) := by decide +kernel
theorem dL_law_760 : decode cL_law 760 = .ok (.aload_n 0, 1) := by decide +kernel
theorem dL_law_761 : decode cL_law 761 = .ok (.iload_n 3, 1) := by decide +kernel
theorem dL_law_762 : decode cL_law 762 = .ok (.iconst 1, 1) := by decide +kernel
theorem dL_law_763 : decode cL_law 763 = .ok (.iadd, 1) := by decide +kernel
theorem dL_law_764 : decode cL_law 764 = .ok (.iaload, 1) := by decide +kernel
theorem dL_law_765 : decode cL_law 765 = .ok (.invokevirtual 124, 3) := by decide +kernel
theorem dL_law_768 : decode cL_law 768 = .ok (.if_icmp .eq 77, 3) := by decide +kernel
theorem dL_law_771 : decode cL_law 771 = .ok (.iconst 0, 1) := by decide +kernel
theorem dL_law_772 : decode cL_law 772 = .ok (.ireturn, 1) := by decide +kernel
theorem dL_law_773 : decode cL_law 773 = .ok (.aload_n 1, 1) := by decide +kernel
theorem dL_law_774 : decode cL_law 774 = .ok (.aload_n 0, 1) := by decide +kernel
theorem dL_law_775 : decode cL_law 775 = .ok (.iload_n 3, 1) := by decide +kernel
theorem dL_law_776 : decode cL_law 776 = .ok (.iconst 1, 1) := by decide +kernel
theorem dL_law_777 : decode cL_law 777 = .ok (.iadd, 1) := by decide +kernel
theorem dL_law_778 : decode cL_law 778 = .ok (.iaload, 1) := by decide +kernel
theorem dL_law_779 : decode cL_law 779 = .ok (.aload_n 0, 1) := by decide +kernel
theorem dL_law_780 : decode cL_law 780 = .ok (.iload_n 3, 1) := by decide +kernel
theorem dL_law_781 : decode cL_law 781 = .ok (.iconst 2, 1) := by decide +kernel
theorem dL_law_782 : decode cL_law 782 = .ok (.iadd, 1) := by decide +kernel
theorem dL_law_783 : decode cL_law 783 = .ok (.iaload, 1) := by decide +kernel
theorem dL_law_784 : decode cL_law 784 = .ok (.invokevirtual 125, 3) := by decide +kernel
theorem dL_law_787 : decode cL_law 787 = .ok (.aload_n 2, 1) := by decide +kernel
theorem dL_law_788 : decode cL_law 788 = .ok (.aload_n 0, 1) := by decide +kernel
theorem dL_law_789 : decode cL_law 789 = .ok (.iload_n 3, 1) := by decide +kernel
theorem dL_law_790 : decode cL_law 790 = .ok (.iconst 1, 1) := by decide +kernel
theorem dL_law_791 : decode cL_law 791 = .ok (.iadd, 1) := by decide +kernel
theorem dL_law_792 : decode cL_law 792 = .ok (.iaload, 1) := by decide +kernel
theorem dL_law_793 : decode cL_law 793 = .ok (.aload_n 0, 1) := by decide +kernel
theorem dL_law_794 : decode cL_law 794 = .ok (.iload_n 3, 1) := by decide +kernel
theorem dL_law_795 : decode cL_law 795 = .ok (.iconst 2, 1) := by decide +kernel
theorem dL_law_796 : decode cL_law 796 = .ok (.iadd, 1) := by decide +kernel
theorem dL_law_797 : decode cL_law 797 = .ok (.iaload, 1) := by decide +kernel
theorem dL_law_798 : decode cL_law 798 = .ok (.invokevirtual 128, 3) := by decide +kernel
theorem dL_law_801 : decode cL_law 801 = .ok (.if_icmp .eq 44, 3) := by decide +kernel
theorem dL_law_804 : decode cL_law 804 = .ok (.iconst 0, 1) := by decide +kernel
theorem dL_law_805 : decode cL_law 805 = .ok (.ireturn, 1) := by decide +kernel
theorem dL_law_806 : decode cL_law 806 = .ok (.aload_n 1, 1) := by decide +kernel
theorem dL_law_807 : decode cL_law 807 = .ok (.invokevirtual 129, 3) := by decide +kernel
theorem dL_law_810 : decode cL_law 810 = .ok (.aload_n 2, 1) := by decide +kernel
theorem dL_law_811 : decode cL_law 811 = .ok (.invokevirtual 132, 3) := by decide +kernel
theorem dL_law_814 : decode cL_law 814 = .ok (.if_icmp .eq 31, 3) := by decide +kernel
theorem dL_law_817 : decode cL_law 817 = .ok (.iconst 0, 1) := by decide +kernel
theorem dL_law_818 : decode cL_law 818 = .ok (.ireturn, 1) := by decide +kernel
theorem dL_law_819 : decode cL_law 819 = .ok (.aload_n 1, 1) := by decide +kernel
theorem dL_law_820 : decode cL_law 820 = .ok (.invokevirtual 133, 3) := by decide +kernel
theorem dL_law_823 : decode cL_law 823 = .ok (.aload_n 2, 1) := by decide +kernel
theorem dL_law_824 : decode cL_law 824 = .ok (.invokevirtual 136, 3) := by decide +kernel
theorem dL_law_827 : decode cL_law 827 = .ok (.if_icmp .eq 18, 3) := by decide +kernel
theorem dL_law_830 : decode cL_law 830 = .ok (.iconst 0, 1) := by decide +kernel
theorem dL_law_831 : decode cL_law 831 = .ok (.ireturn, 1) := by decide +kernel
theorem dL_law_832 : decode cL_law 832 = .ok (.aload_n 1, 1) := by decide +kernel
theorem dL_law_833 : decode cL_law 833 = .ok (.invokevirtual 137, 3) := by decide +kernel
theorem dL_law_836 : decode cL_law 836 = .ok (.aload_n 2, 1) := by decide +kernel
theorem dL_law_837 : decode cL_law 837 = .ok (.invokevirtual 140, 3) := by decide +kernel
theorem dL_law_840 : decode cL_law 840 = .ok (.if_icmp .eq 5, 3) := by decide +kernel
theorem dL_law_843 : decode cL_law 843 = .ok (.iconst 0, 1) := by decide +kernel
theorem dL_law_844 : decode cL_law 844 = .ok (.ireturn, 1) := by decide +kernel
theorem dL_law_845 : decode cL_law 845 = .ok (.iinc 3 4, 3) := by decide +kernel
theorem dL_law_848 : decode cL_law 848 = .ok (.goto (-830), 3) := by decide +kernel
theorem dL_law_851 : decode cL_law 851 = .ok (.iconst 1, 1) := by decide +kernel
theorem dL_law_852 : decode cL_law 852 = .ok (.ireturn, 1) := by decide +kernel
